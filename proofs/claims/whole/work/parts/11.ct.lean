abbrev vRW : Type := (Nat → Int32) × (Nat → Int32) × (Nat → Int32)
abbrev rows3 (a b c : Nat → Int32) : Nat → Nat → Int32 := fun i => match i with
  | 0 => a
  | 1 => b
  | _ => c
abbrev wSG (cI cJ : ClassId) (nl a0 a1 a2 a3 a4 : Nat) (ra : Nat → Nat) (Z : Int32 × Int32 × Int32 × Int32 × Int32) (F : (Nat → Int32) × (Nat → Int32) × (Nat → Int32)) (R9 : vRW) : va_W := [(a0, .inr (1, [.int Z.1, .int Z.2.1, .int Z.2.2.1, .int Z.2.2.2.1, .int Z.2.2.2.2, .ref a1, .ref a2, .ref a3, .ref a4])), (a1, .inl (cI, 6, .inl F.1)), (a2, .inl (cI, 6, .inl F.2.1)), (a3, .inl (cI, 6, .inl F.2.2)), (a4, .inl (cJ, 3, .inr (.inr (.inr (.inr (fun i => if i < 3 then some (ra i) else none)))))), (ra 0, .inl (cI, nl, .inl R9.1)), (ra 1, .inl (cI, nl, .inl R9.2.1)), (ra 2, .inl (cI, nl, .inl R9.2.2))]
theorem cA_eq {D : va_G} {cl : List vw_C} {t1 : List (ClassId × FieldType)} {U : State} {cA cB : ClassId} {ty : FieldType} (h : va_K D cl t1 U) (i : Nat) (hi : t1[i]? = some (cB, ty)) (j : Nat) (hj : t1[j]? = some (cA, ty)) : cA = cB := by
  have h1 := (h.2 i _ hi).2
  have h2 := (h.2 j _ hj).2
  cases ty with
  | object C =>
    obtain ⟨_, _, _, _, _, e1⟩ := h1
    obtain ⟨_, _, _, _, _, e2⟩ := h2
    exact Option.some.inj (e2.symm.trans e1)
  | _ => exact Option.some.inj (h2.symm.trans h1)
theorem va_AOA.moved {t : FieldType} {u U : State} (hvm : u.vm.Alike U.vm) (h : va_AOA t u) : va_AOA t U := by
  unfold va_AOA Cond.before at h
  simp only [Cond.holds, Cond.value, beq_iff_eq] at h
  cases hc : u.vm.findClass (FieldType.array t).toString with
  | none => simp [hc] at h
  | some comp =>
    simp only [hc, Option.bind_some, Option.bind_eq_some_iff, Option.map_eq_some_iff] at h
    obtain ⟨c, hidx, k, hk, hm⟩ := h
    have e0 : U.vm.bare = u.vm.bare := by first | rw [hvm.bare_eq] | rw [← hvm.bare_eq]
    have e1 := va_idx_bare U.vm comp
    rw [e0] at e1
    have hidx' := (e1.symm.trans (va_idx_bare u.vm comp)).trans hidx
    obtain ⟨k', hk', he⟩ := hvm.2.2 _ _ hk
    have hkk : k'.kind = k.kind := by rw [he]
    have f1 : U.vm.findClass (FieldType.array t).toString = some comp := by rw [hvm.findClass]; exact hc
    cases hkd : k.kind with
    | array cmp ty =>
      rw [hkd] at hm hkk
      simp at hm
      obtain ⟨e2, e3⟩ := hm
      have f2 : U.vm.findClass ("[" ++ (FieldType.array t).toString) = some c := by rw [hvm.findClass]; exact e3
      unfold va_AOA Cond.before Cond.holds
      simp only [Cond.value]
      rw [f1, Option.bind_some]
      refine (congrArg (fun o : Option Nat => (o.bind (fun c => (U.vm.classes[c]?).map fun (k : Class) => match k.kind with | .array _ ty => decide (ty = FieldType.array t) && decide (U.vm.findClass ("[" ++ (FieldType.array t).toString) = some c) | _ => false) == some true)) hidx').trans ?_
      simp [hk', hkk, e2, f2]
    | _ => rw [hkd] at hm; simp at hm
abbrev pcC (D : va_G) (tys : List (ClassId × FieldType)) (ws : va_W) (sz : Nat) (av : List Value) : Array Value → State → Prop := va_Pc av (fun U => U.heap.size = sz ∧ va_P D vwCl ws U.heap ∧ va_K D vwCl tys U ∧ va_D (fun _ => True) ws ∧ va_AOA .int U)
theorem bl_C {D : va_G} {tys : List (ClassId × FieldType)} {ws : va_W} {sz : Nat} {av : List Value} : FrameBlind (pcC D tys ws sz av) := fun a U g mk q => by
  obtain ⟨q0, q1, qP, qK, qD, qA⟩ := q
  exact ⟨q0, q1, qP, va_K.moved (u := U) (U := U.calling g mk a) (Vm.Alike.refl U.vm) qK, qD, va_AOA.moved (u := U) (U := U.calling g mk a) (Vm.Alike.refl U.vm) qA⟩
theorem k_158 : (Cond.methodLink RX4 1 objectInit) ∈ WALL := List.mem_filter.mpr ⟨List.mem_append_right _ (List.mem_of_getElem? (i := 497) (by decide +kernel)), by decide +kernel⟩
theorem k_159 : (Cond.instanceMethod objectInit) ∈ WALL := List.mem_filter.mpr ⟨List.mem_append_right _ (List.mem_of_getElem? (i := 20) (by decide +kernel)), by decide +kernel⟩
theorem k_160 : (Cond.code objectInit ⟨#[0xb1]⟩ 1 none) ∈ WALL := List.mem_filter.mpr ⟨List.mem_append_right _ (List.mem_of_getElem? (i := 21) (by decide +kernel)), by decide +kernel⟩
theorem k_161 : (Cond.arrayClass .int) ∈ WALL := List.mem_filter.mpr ⟨List.mem_append_right _ (List.mem_of_getElem? (i := 82) (by decide +kernel)), by decide +kernel⟩
theorem k_162 : (Cond.fieldLink RX4 7 "TagTreesModel" "begins" "[I") ∈ WALL := List.mem_filter.mpr ⟨List.mem_append_right _ (List.mem_of_getElem? (i := 503) (by decide +kernel)), by decide +kernel⟩
theorem k_163 : (Cond.fieldLink RX4 13 "TagTreesModel" "wides" "[I") ∈ WALL := List.mem_filter.mpr ⟨List.mem_append_right _ (List.mem_of_getElem? (i := 504) (by decide +kernel)), by decide +kernel⟩
theorem k_164 : (Cond.fieldLink RX4 16 "TagTreesModel" "highs" "[I") ∈ WALL := List.mem_filter.mpr ⟨List.mem_append_right _ (List.mem_of_getElem? (i := 505) (by decide +kernel)), by decide +kernel⟩
theorem k_165 : (Cond.fieldLink RX4 19 "TagTreesModel" "values" "[I") ∈ WALL := List.mem_filter.mpr ⟨List.mem_append_right _ (List.mem_of_getElem? (i := 507) (by decide +kernel)), by decide +kernel⟩
theorem k_166 : (Cond.fieldLink RX4 22 "TagTreesModel" "bounds" "[I") ∈ WALL := List.mem_filter.mpr ⟨List.mem_append_right _ (List.mem_of_getElem? (i := 508) (by decide +kernel)), by decide +kernel⟩
theorem k_167 : (Cond.arrayClass .boolean) ∈ WALL := List.mem_filter.mpr ⟨List.mem_append_right _ (List.mem_of_getElem? (i := 102) (by decide +kernel)), by decide +kernel⟩
theorem k_168 : (Cond.fieldLink RX4 25 "TagTreesModel" "knowns" "[Z") ∈ WALL := List.mem_filter.mpr ⟨List.mem_append_right _ (List.mem_of_getElem? (i := 509) (by decide +kernel)), by decide +kernel⟩
theorem k_169 : (Cond.constant RX4 29 40000) ∈ WALL := List.mem_filter.mpr ⟨List.mem_append_right _ (List.mem_of_getElem? (i := 498) (by decide +kernel)), by decide +kernel⟩
theorem k_170 : (Cond.fieldLink RX4 30 "TagTreesModel" "bits" "[Z") ∈ WALL := List.mem_filter.mpr ⟨List.mem_append_right _ (List.mem_of_getElem? (i := 510) (by decide +kernel)), by decide +kernel⟩
theorem k_171 : (Cond.fieldLink RX4 33 "TagTreesModel" "waiting" "[Z") ∈ WALL := List.mem_filter.mpr ⟨List.mem_append_right _ (List.mem_of_getElem? (i := 513) (by decide +kernel)), by decide +kernel⟩
theorem k_172 : (Cond.fieldLink RX4 36 "TagTreesModel" "way" "[I") ∈ WALL := List.mem_filter.mpr ⟨List.mem_append_right _ (List.mem_of_getElem? (i := 516) (by decide +kernel)), by decide +kernel⟩
theorem k_173 : (Cond.fieldLink RX4 39 "TagTreesModel" "newBounds" "[I") ∈ WALL := List.mem_filter.mpr ⟨List.mem_append_right _ (List.mem_of_getElem? (i := 517) (by decide +kernel)), by decide +kernel⟩
theorem k_174 : (Cond.fieldLink RX4 42 "TagTreesModel" "newKnowns" "[Z") ∈ WALL := List.mem_filter.mpr ⟨List.mem_append_right _ (List.mem_of_getElem? (i := 518) (by decide +kernel)), by decide +kernel⟩
theorem k_175 : (Cond.fieldLink RX4 45 "TagTreesModel" "savedBounds" "[I") ∈ WALL := List.mem_filter.mpr ⟨List.mem_append_right _ (List.mem_of_getElem? (i := 520) (by decide +kernel)), by decide +kernel⟩
theorem k_176 : (Cond.fieldLink RX4 48 "TagTreesModel" "savedKnowns" "[Z") ∈ WALL := List.mem_filter.mpr ⟨List.mem_append_right _ (List.mem_of_getElem? (i := 521) (by decide +kernel)), by decide +kernel⟩
theorem k_177 : (Cond.fieldLink RX4 51 "TagTreesModel" "width" "I") ∈ WALL := List.mem_filter.mpr ⟨List.mem_append_right _ (List.mem_of_getElem? (i := 500) (by decide +kernel)), by decide +kernel⟩
theorem k_178 : (Cond.fieldLink RX4 55 "TagTreesModel" "height" "I") ∈ WALL := List.mem_filter.mpr ⟨List.mem_append_right _ (List.mem_of_getElem? (i := 501) (by decide +kernel)), by decide +kernel⟩
theorem k_179 : (Cond.fieldLink RX4 58 "TagTreesModel" "levels" "I") ∈ WALL := List.mem_filter.mpr ⟨List.mem_append_right _ (List.mem_of_getElem? (i := 502) (by decide +kernel)), by decide +kernel⟩
theorem k_180 : (Cond.fieldLink RX4 61 "TagTreesModel" "nodes" "I") ∈ WALL := List.mem_filter.mpr ⟨List.mem_append_right _ (List.mem_of_getElem? (i := 506) (by decide +kernel)), by decide +kernel⟩
theorem k_181 : (Cond.methodLink RX0 3 objectInit) ∈ WALL := List.mem_filter.mpr ⟨List.mem_append_right _ (List.mem_of_getElem? (i := 108) (by decide +kernel)), by decide +kernel⟩
theorem k_182 : (Cond.fieldLink RX1 25 "TagTrees$Shape" "height" "I") ∈ WALL := List.mem_filter.mpr ⟨List.mem_append_right _ (List.mem_of_getElem? (i := 49) (by decide +kernel)), by decide +kernel⟩
theorem k_183 : (Cond.fieldLink RX1 21 "TagTrees$Shape" "width" "I") ∈ WALL := List.mem_filter.mpr ⟨List.mem_append_right _ (List.mem_of_getElem? (i := 47) (by decide +kernel)), by decide +kernel⟩
theorem k_184 : (Cond.methodLink RX2 1 objectInit) ∈ WALL := List.mem_filter.mpr ⟨List.mem_append_right _ (List.mem_of_getElem? (i := 88) (by decide +kernel)), by decide +kernel⟩
theorem k_185 : (Cond.methodLink RX1 52 yX1_everySecondBit) ∈ WALL := List.mem_filter.mpr ⟨List.mem_append_right _ (List.mem_of_getElem? (i := 44) (by decide +kernel)), by decide +kernel⟩
theorem k_186 : (Cond.code yX1_everySecondBit cX1_everySecondBit 3 (some .int)) ∈ WALL := List.mem_filter.mpr ⟨List.mem_append_right _ (List.mem_of_getElem? (i := 46) (by decide +kernel)), by decide +kernel⟩
theorem k_187 : (Cond.static yX1_everySecondBit) ∈ WALL := List.mem_filter.mpr ⟨List.mem_append_right _ (List.mem_of_getElem? (i := 45) (by decide +kernel)), by decide +kernel⟩
theorem k_188 : (Cond.fieldLink RX1 28 "TagTrees$Shape" "leaves" "I") ∈ WALL := List.mem_filter.mpr ⟨List.mem_append_right _ (List.mem_of_getElem? (i := 51) (by decide +kernel)), by decide +kernel⟩
theorem k_189 : (Cond.methodLink RX1 3 objectInit) ∈ WALL := List.mem_filter.mpr ⟨List.mem_append_right _ (List.mem_of_getElem? (i := 30) (by decide +kernel)), by decide +kernel⟩
theorem k_190 : (Cond.fieldLink RX1 38 "TagTrees$Shape" "nodes" "I") ∈ WALL := List.mem_filter.mpr ⟨List.mem_append_right _ (List.mem_of_getElem? (i := 56) (by decide +kernel)), by decide +kernel⟩
theorem k_191 : (Cond.classLink RX1 41 "[[I") ∈ WALL := List.mem_filter.mpr ⟨List.mem_append_right _ (List.mem_of_getElem? (i := 34) (by decide +kernel)), by decide +kernel⟩
theorem k_192 : (Cond.methodLink RX1 46 yX1_fillRowsAndColumns) ∈ WALL := List.mem_filter.mpr ⟨List.mem_append_right _ (List.mem_of_getElem? (i := 36) (by decide +kernel)), by decide +kernel⟩
theorem k_193 : (Cond.code yX1_fillRowsAndColumns cX1_fillRowsAndColumns 3 none) ∈ WALL := List.mem_filter.mpr ⟨List.mem_append_right _ (List.mem_of_getElem? (i := 39) (by decide +kernel)), by decide +kernel⟩
theorem k_194 : (Cond.instanceMethod yX1_fillRowsAndColumns) ∈ WALL := List.mem_filter.mpr ⟨List.mem_append_right _ (List.mem_of_getElem? (i := 38) (by decide +kernel)), by decide +kernel⟩
theorem k_195 : (Cond.selects RX1 yX1_fillRowsAndColumns yX1_fillRowsAndColumns) ∈ WALL := List.mem_filter.mpr ⟨List.mem_append_left _ (List.mem_of_getElem? (i := 0) (by decide +kernel)), by decide +kernel⟩
theorem k_196 : (Cond.methodLink RX1 49 yX1_fillQuarters) ∈ WALL := List.mem_filter.mpr ⟨List.mem_append_right _ (List.mem_of_getElem? (i := 40) (by decide +kernel)), by decide +kernel⟩
theorem k_197 : (Cond.code yX1_fillQuarters cX1_fillQuarters 5 none) ∈ WALL := List.mem_filter.mpr ⟨List.mem_append_right _ (List.mem_of_getElem? (i := 43) (by decide +kernel)), by decide +kernel⟩
theorem k_198 : (Cond.instanceMethod yX1_fillQuarters) ∈ WALL := List.mem_filter.mpr ⟨List.mem_append_right _ (List.mem_of_getElem? (i := 42) (by decide +kernel)), by decide +kernel⟩
theorem k_199 : (Cond.selects RX1 yX1_fillQuarters yX1_fillQuarters) ∈ WALL := List.mem_filter.mpr ⟨List.mem_append_left _ (List.mem_of_getElem? (i := 1) (by decide +kernel)), by decide +kernel⟩
theorem k_200 : (Cond.methodLink RX1 31 yX1_halved) ∈ WALL := List.mem_filter.mpr ⟨List.mem_append_right _ (List.mem_of_getElem? (i := 31) (by decide +kernel)), by decide +kernel⟩
theorem k_201 : (Cond.code yX1_halved cX1_halved 2 (some .int)) ∈ WALL := List.mem_filter.mpr ⟨List.mem_append_right _ (List.mem_of_getElem? (i := 33) (by decide +kernel)), by decide +kernel⟩
theorem k_202 : (Cond.static yX1_halved) ∈ WALL := List.mem_filter.mpr ⟨List.mem_append_right _ (List.mem_of_getElem? (i := 32) (by decide +kernel)), by decide +kernel⟩
theorem k_203 : (Cond.methodLink RX3 1 objectInit) ∈ WALL := List.mem_filter.mpr ⟨List.mem_append_right _ (List.mem_of_getElem? (i := 19) (by decide +kernel)), by decide +kernel⟩
theorem k_204 : (Cond.classLink RX3 7 RX1) ∈ WALL := List.mem_filter.mpr ⟨List.mem_append_right _ (List.mem_of_getElem? (i := 22) (by decide +kernel)), by decide +kernel⟩
theorem k_205 : (Cond.instantiable RX1 9) ∈ WALL := List.mem_filter.mpr ⟨List.mem_append_right _ (List.mem_of_getElem? (i := 23) (by decide +kernel)), by decide +kernel⟩
theorem k_206 : (Cond.methodLink RX3 15 yX1_init) ∈ WALL := List.mem_filter.mpr ⟨List.mem_append_right _ (List.mem_of_getElem? (i := 27) (by decide +kernel)), by decide +kernel⟩
theorem k_207 : (Cond.code yX1_init cX1_init 6 none) ∈ WALL := List.mem_filter.mpr ⟨List.mem_append_right _ (List.mem_of_getElem? (i := 29) (by decide +kernel)), by decide +kernel⟩
theorem k_208 : (Cond.instanceMethod yX1_init) ∈ WALL := List.mem_filter.mpr ⟨List.mem_append_right _ (List.mem_of_getElem? (i := 28) (by decide +kernel)), by decide +kernel⟩
theorem k_209 : (Cond.classLink RX3 30 RX2) ∈ WALL := List.mem_filter.mpr ⟨List.mem_append_right _ (List.mem_of_getElem? (i := 83) (by decide +kernel)), by decide +kernel⟩
theorem k_210 : (Cond.instantiable RX2 3) ∈ WALL := List.mem_filter.mpr ⟨List.mem_append_right _ (List.mem_of_getElem? (i := 84) (by decide +kernel)), by decide +kernel⟩
theorem k_211 : (Cond.methodLink RX3 32 yX2_init) ∈ WALL := List.mem_filter.mpr ⟨List.mem_append_right _ (List.mem_of_getElem? (i := 85) (by decide +kernel)), by decide +kernel⟩
theorem k_212 : (Cond.code yX2_init cX2_init 2 none) ∈ WALL := List.mem_filter.mpr ⟨List.mem_append_right _ (List.mem_of_getElem? (i := 87) (by decide +kernel)), by decide +kernel⟩
theorem k_213 : (Cond.instanceMethod yX2_init) ∈ WALL := List.mem_filter.mpr ⟨List.mem_append_right _ (List.mem_of_getElem? (i := 86) (by decide +kernel)), by decide +kernel⟩
theorem k_214 : (Cond.classLink RX3 42 RX0) ∈ WALL := List.mem_filter.mpr ⟨List.mem_append_right _ (List.mem_of_getElem? (i := 103) (by decide +kernel)), by decide +kernel⟩
theorem k_215 : (Cond.instantiable RX0 3) ∈ WALL := List.mem_filter.mpr ⟨List.mem_append_right _ (List.mem_of_getElem? (i := 104) (by decide +kernel)), by decide +kernel⟩
theorem k_216 : (Cond.methodLink RX3 44 yX0_init) ∈ WALL := List.mem_filter.mpr ⟨List.mem_append_right _ (List.mem_of_getElem? (i := 105) (by decide +kernel)), by decide +kernel⟩
theorem k_217 : (Cond.code yX0_init cX0_init 1 none) ∈ WALL := List.mem_filter.mpr ⟨List.mem_append_right _ (List.mem_of_getElem? (i := 107) (by decide +kernel)), by decide +kernel⟩
theorem k_218 : (Cond.instanceMethod yX0_init) ∈ WALL := List.mem_filter.mpr ⟨List.mem_append_right _ (List.mem_of_getElem? (i := 106) (by decide +kernel)), by decide +kernel⟩
theorem dX4_init_0 : decode cX4_init 0 = .ok (.aload_n 0, 1) := by decide +kernel
theorem dX4_init_1 : decode cX4_init 1 = .ok (.invokespecial 1, 3) := by decide +kernel
theorem dX4_init_4 : decode cX4_init 4 = .ok (.aload_n 0, 1) := by decide +kernel
theorem dX4_init_5 : decode cX4_init 5 = .ok (.bipush 8, 2) := by decide +kernel
theorem dX4_init_7 : decode cX4_init 7 = .ok (.newarray .int, 2) := by decide +kernel
theorem dX4_init_9 : decode cX4_init 9 = .ok (.putfield 7, 3) := by decide +kernel
theorem dX4_init_12 : decode cX4_init 12 = .ok (.aload_n 0, 1) := by decide +kernel
theorem dX4_init_13 : decode cX4_init 13 = .ok (.bipush 8, 2) := by decide +kernel
theorem dX4_init_15 : decode cX4_init 15 = .ok (.newarray .int, 2) := by decide +kernel
theorem dX4_init_17 : decode cX4_init 17 = .ok (.putfield 13, 3) := by decide +kernel
theorem dX4_init_20 : decode cX4_init 20 = .ok (.aload_n 0, 1) := by decide +kernel
theorem dX4_init_21 : decode cX4_init 21 = .ok (.bipush 8, 2) := by decide +kernel
theorem dX4_init_23 : decode cX4_init 23 = .ok (.newarray .int, 2) := by decide +kernel
theorem dX4_init_25 : decode cX4_init 25 = .ok (.putfield 16, 3) := by decide +kernel
theorem dX4_init_28 : decode cX4_init 28 = .ok (.aload_n 0, 1) := by decide +kernel
theorem dX4_init_29 : decode cX4_init 29 = .ok (.sipush 1400, 3) := by decide +kernel
theorem dX4_init_32 : decode cX4_init 32 = .ok (.newarray .int, 2) := by decide +kernel
theorem dX4_init_34 : decode cX4_init 34 = .ok (.putfield 19, 3) := by decide +kernel
theorem dX4_init_37 : decode cX4_init 37 = .ok (.aload_n 0, 1) := by decide +kernel
theorem dX4_init_38 : decode cX4_init 38 = .ok (.sipush 2800, 3) := by decide +kernel
theorem dX4_init_41 : decode cX4_init 41 = .ok (.newarray .int, 2) := by decide +kernel
theorem dX4_init_43 : decode cX4_init 43 = .ok (.putfield 22, 3) := by decide +kernel
theorem dX4_init_46 : decode cX4_init 46 = .ok (.aload_n 0, 1) := by decide +kernel
theorem dX4_init_47 : decode cX4_init 47 = .ok (.sipush 2800, 3) := by decide +kernel
theorem dX4_init_50 : decode cX4_init 50 = .ok (.newarray .boolean, 2) := by decide +kernel
theorem dX4_init_52 : decode cX4_init 52 = .ok (.putfield 25, 3) := by decide +kernel
theorem dX4_init_55 : decode cX4_init 55 = .ok (.aload_n 0, 1) := by decide +kernel
theorem dX4_init_56 : decode cX4_init 56 = .ok (.ldc 29, 2) := by decide +kernel
theorem dX4_init_58 : decode cX4_init 58 = .ok (.newarray .boolean, 2) := by decide +kernel
theorem dX4_init_60 : decode cX4_init 60 = .ok (.putfield 30, 3) := by decide +kernel
theorem dX4_init_63 : decode cX4_init 63 = .ok (.aload_n 0, 1) := by decide +kernel
theorem dX4_init_64 : decode cX4_init 64 = .ok (.ldc 29, 2) := by decide +kernel
theorem dX4_init_66 : decode cX4_init 66 = .ok (.newarray .boolean, 2) := by decide +kernel
theorem dX4_init_68 : decode cX4_init 68 = .ok (.putfield 33, 3) := by decide +kernel
theorem dX4_init_71 : decode cX4_init 71 = .ok (.aload_n 0, 1) := by decide +kernel
theorem dX4_init_72 : decode cX4_init 72 = .ok (.bipush 8, 2) := by decide +kernel
theorem dX4_init_74 : decode cX4_init 74 = .ok (.newarray .int, 2) := by decide +kernel
theorem dX4_init_76 : decode cX4_init 76 = .ok (.putfield 36, 3) := by decide +kernel
theorem dX4_init_79 : decode cX4_init 79 = .ok (.aload_n 0, 1) := by decide +kernel
theorem dX4_init_80 : decode cX4_init 80 = .ok (.bipush 8, 2) := by decide +kernel
theorem dX4_init_82 : decode cX4_init 82 = .ok (.newarray .int, 2) := by decide +kernel
theorem dX4_init_84 : decode cX4_init 84 = .ok (.putfield 39, 3) := by decide +kernel
theorem dX4_init_87 : decode cX4_init 87 = .ok (.aload_n 0, 1) := by decide +kernel
theorem dX4_init_88 : decode cX4_init 88 = .ok (.bipush 8, 2) := by decide +kernel
theorem dX4_init_90 : decode cX4_init 90 = .ok (.newarray .boolean, 2) := by decide +kernel
theorem dX4_init_92 : decode cX4_init 92 = .ok (.putfield 42, 3) := by decide +kernel
theorem dX4_init_95 : decode cX4_init 95 = .ok (.aload_n 0, 1) := by decide +kernel
theorem dX4_init_96 : decode cX4_init 96 = .ok (.sipush 1400, 3) := by decide +kernel
theorem dX4_init_99 : decode cX4_init 99 = .ok (.newarray .int, 2) := by decide +kernel
theorem dX4_init_101 : decode cX4_init 101 = .ok (.putfield 45, 3) := by decide +kernel
theorem dX4_init_104 : decode cX4_init 104 = .ok (.aload_n 0, 1) := by decide +kernel
theorem dX4_init_105 : decode cX4_init 105 = .ok (.sipush 1400, 3) := by decide +kernel
theorem dX4_init_108 : decode cX4_init 108 = .ok (.newarray .boolean, 2) := by decide +kernel
theorem dX4_init_110 : decode cX4_init 110 = .ok (.putfield 48, 3) := by decide +kernel
theorem dX4_init_113 : decode cX4_init 113 = .ok (.aload_n 0, 1) := by decide +kernel
theorem dX4_init_114 : decode cX4_init 114 = .ok (.iload_n 1, 1) := by decide +kernel
theorem dX4_init_115 : decode cX4_init 115 = .ok (.iconst 1, 1) := by decide +kernel
theorem dX4_init_116 : decode cX4_init 116 = .ok (.if_icmp .ge 7, 3) := by decide +kernel
theorem dX4_init_119 : decode cX4_init 119 = .ok (.iconst 1, 1) := by decide +kernel
theorem dX4_init_120 : decode cX4_init 120 = .ok (.goto 15, 3) := by decide +kernel
theorem dX4_init_123 : decode cX4_init 123 = .ok (.iload_n 1, 1) := by decide +kernel
theorem dX4_init_124 : decode cX4_init 124 = .ok (.bipush 32, 2) := by decide +kernel
theorem dX4_init_126 : decode cX4_init 126 = .ok (.if_icmp .le 8, 3) := by decide +kernel
theorem dX4_init_129 : decode cX4_init 129 = .ok (.bipush 32, 2) := by decide +kernel
theorem dX4_init_131 : decode cX4_init 131 = .ok (.goto 4, 3) := by decide +kernel
theorem dX4_init_134 : decode cX4_init 134 = .ok (.iload_n 1, 1) := by decide +kernel
theorem dX4_init_135 : decode cX4_init 135 = .ok (.putfield 51, 3) := by decide +kernel
theorem dX4_init_138 : decode cX4_init 138 = .ok (.aload_n 0, 1) := by decide +kernel
theorem dX4_init_139 : decode cX4_init 139 = .ok (.iload_n 2, 1) := by decide +kernel
theorem dX4_init_140 : decode cX4_init 140 = .ok (.iconst 1, 1) := by decide +kernel
theorem dX4_init_141 : decode cX4_init 141 = .ok (.if_icmp .ge 7, 3) := by decide +kernel
theorem dX4_init_144 : decode cX4_init 144 = .ok (.iconst 1, 1) := by decide +kernel
theorem dX4_init_145 : decode cX4_init 145 = .ok (.goto 15, 3) := by decide +kernel
theorem dX4_init_148 : decode cX4_init 148 = .ok (.iload_n 2, 1) := by decide +kernel
theorem dX4_init_149 : decode cX4_init 149 = .ok (.bipush 32, 2) := by decide +kernel
theorem dX4_init_151 : decode cX4_init 151 = .ok (.if_icmp .le 8, 3) := by decide +kernel
theorem dX4_init_154 : decode cX4_init 154 = .ok (.bipush 32, 2) := by decide +kernel
theorem dX4_init_156 : decode cX4_init 156 = .ok (.goto 4, 3) := by decide +kernel
theorem dX4_init_159 : decode cX4_init 159 = .ok (.iload_n 2, 1) := by decide +kernel
theorem dX4_init_160 : decode cX4_init 160 = .ok (.putfield 55, 3) := by decide +kernel
theorem dX4_init_163 : decode cX4_init 163 = .ok (.aload_n 0, 1) := by decide +kernel
theorem dX4_init_164 : decode cX4_init 164 = .ok (.getfield 51, 3) := by decide +kernel
theorem dX4_init_167 : decode cX4_init 167 = .ok (.istore_n 3, 1) := by decide +kernel
theorem dX4_init_168 : decode cX4_init 168 = .ok (.aload_n 0, 1) := by decide +kernel
theorem dX4_init_169 : decode cX4_init 169 = .ok (.getfield 55, 3) := by decide +kernel
theorem dX4_init_172 : decode cX4_init 172 = .ok (.istore 4, 2) := by decide +kernel
theorem dX4_init_174 : decode cX4_init 174 = .ok (.iconst 1, 1) := by decide +kernel
theorem dX4_init_175 : decode cX4_init 175 = .ok (.istore 5, 2) := by decide +kernel
theorem dX4_init_177 : decode cX4_init 177 = .ok (.iload 5, 2) := by decide +kernel
theorem dX4_init_179 : decode cX4_init 179 = .ok (.ifCond .eq 95, 3) := by decide +kernel
theorem dX4_init_182 : decode cX4_init 182 = .ok (.aload_n 0, 1) := by decide +kernel
theorem dX4_init_183 : decode cX4_init 183 = .ok (.getfield 7, 3) := by decide +kernel
theorem dX4_init_186 : decode cX4_init 186 = .ok (.aload_n 0, 1) := by decide +kernel
theorem dX4_init_187 : decode cX4_init 187 = .ok (.getfield 58, 3) := by decide +kernel
theorem dX4_init_190 : decode cX4_init 190 = .ok (.aload_n 0, 1) := by decide +kernel
theorem dX4_init_191 : decode cX4_init 191 = .ok (.getfield 61, 3) := by decide +kernel
theorem dX4_init_194 : decode cX4_init 194 = .ok (.iastore, 1) := by decide +kernel
theorem dX4_init_195 : decode cX4_init 195 = .ok (.aload_n 0, 1) := by decide +kernel
theorem dX4_init_196 : decode cX4_init 196 = .ok (.getfield 13, 3) := by decide +kernel
theorem dX4_init_199 : decode cX4_init 199 = .ok (.aload_n 0, 1) := by decide +kernel
theorem dX4_init_200 : decode cX4_init 200 = .ok (.getfield 58, 3) := by decide +kernel
theorem dX4_init_203 : decode cX4_init 203 = .ok (.iload_n 3, 1) := by decide +kernel
theorem dX4_init_204 : decode cX4_init 204 = .ok (.iastore, 1) := by decide +kernel
theorem dX4_init_205 : decode cX4_init 205 = .ok (.aload_n 0, 1) := by decide +kernel
theorem dX4_init_206 : decode cX4_init 206 = .ok (.getfield 16, 3) := by decide +kernel
theorem dX4_init_209 : decode cX4_init 209 = .ok (.aload_n 0, 1) := by decide +kernel
theorem dX4_init_210 : decode cX4_init 210 = .ok (.getfield 58, 3) := by decide +kernel
theorem dX4_init_213 : decode cX4_init 213 = .ok (.iload 4, 2) := by decide +kernel
theorem dX4_init_215 : decode cX4_init 215 = .ok (.iastore, 1) := by decide +kernel
theorem dX4_init_216 : decode cX4_init 216 = .ok (.aload_n 0, 1) := by decide +kernel
theorem dX4_init_217 : decode cX4_init 217 = .ok (.dup, 1) := by decide +kernel
theorem dX4_init_218 : decode cX4_init 218 = .ok (.getfield 61, 3) := by decide +kernel
theorem dX4_init_221 : decode cX4_init 221 = .ok (.iload_n 3, 1) := by decide +kernel
theorem dX4_init_222 : decode cX4_init 222 = .ok (.iload 4, 2) := by decide +kernel
theorem dX4_init_224 : decode cX4_init 224 = .ok (.imul, 1) := by decide +kernel
theorem dX4_init_225 : decode cX4_init 225 = .ok (.iadd, 1) := by decide +kernel
theorem dX4_init_226 : decode cX4_init 226 = .ok (.putfield 61, 3) := by decide +kernel
theorem dX4_init_229 : decode cX4_init 229 = .ok (.aload_n 0, 1) := by decide +kernel
theorem dX4_init_230 : decode cX4_init 230 = .ok (.dup, 1) := by decide +kernel
theorem dX4_init_231 : decode cX4_init 231 = .ok (.getfield 58, 3) := by decide +kernel
theorem dX4_init_234 : decode cX4_init 234 = .ok (.iconst 1, 1) := by decide +kernel
theorem dX4_init_235 : decode cX4_init 235 = .ok (.iadd, 1) := by decide +kernel
theorem dX4_init_236 : decode cX4_init 236 = .ok (.putfield 58, 3) := by decide +kernel
theorem dX4_init_239 : decode cX4_init 239 = .ok (.iload_n 3, 1) := by decide +kernel
theorem dX4_init_240 : decode cX4_init 240 = .ok (.iconst 1, 1) := by decide +kernel
theorem dX4_init_241 : decode cX4_init 241 = .ok (.if_icmp .gt 9, 3) := by decide +kernel
theorem dX4_init_244 : decode cX4_init 244 = .ok (.iload 4, 2) := by decide +kernel
theorem dX4_init_246 : decode cX4_init 246 = .ok (.iconst 1, 1) := by decide +kernel
theorem dX4_init_247 : decode cX4_init 247 = .ok (.if_icmp .le 7, 3) := by decide +kernel
theorem dX4_init_250 : decode cX4_init 250 = .ok (.iconst 1, 1) := by decide +kernel
theorem dX4_init_251 : decode cX4_init 251 = .ok (.goto 4, 3) := by decide +kernel
theorem dX4_init_254 : decode cX4_init 254 = .ok (.iconst 0, 1) := by decide +kernel
theorem dX4_init_255 : decode cX4_init 255 = .ok (.istore 5, 2) := by decide +kernel
theorem dX4_init_257 : decode cX4_init 257 = .ok (.iload_n 3, 1) := by decide +kernel
theorem dX4_init_258 : decode cX4_init 258 = .ok (.iconst 1, 1) := by decide +kernel
theorem dX4_init_259 : decode cX4_init 259 = .ok (.iadd, 1) := by decide +kernel
theorem dX4_init_260 : decode cX4_init 260 = .ok (.iconst 2, 1) := by decide +kernel
theorem dX4_init_261 : decode cX4_init 261 = .ok (.idiv, 1) := by decide +kernel
theorem dX4_init_262 : decode cX4_init 262 = .ok (.istore_n 3, 1) := by decide +kernel
theorem dX4_init_263 : decode cX4_init 263 = .ok (.iload 4, 2) := by decide +kernel
theorem dX4_init_265 : decode cX4_init 265 = .ok (.iconst 1, 1) := by decide +kernel
theorem dX4_init_266 : decode cX4_init 266 = .ok (.iadd, 1) := by decide +kernel
theorem dX4_init_267 : decode cX4_init 267 = .ok (.iconst 2, 1) := by decide +kernel
theorem dX4_init_268 : decode cX4_init 268 = .ok (.idiv, 1) := by decide +kernel
theorem dX4_init_269 : decode cX4_init 269 = .ok (.istore 4, 2) := by decide +kernel
theorem dX4_init_271 : decode cX4_init 271 = .ok (.goto (-94), 3) := by decide +kernel
theorem dX4_init_274 : decode cX4_init 274 = .ok (.return_, 1) := by decide +kernel
theorem dX0_init_0 : decode cX0_init 0 = .ok (.aload_n 0, 1) := by decide +kernel
theorem dX0_init_1 : decode cX0_init 1 = .ok (.invokespecial 3, 3) := by decide +kernel
theorem dX0_init_4 : decode cX0_init 4 = .ok (.aload_n 0, 1) := by decide +kernel
theorem dX0_init_5 : decode cX0_init 5 = .ok (.sipush 1250, 3) := by decide +kernel
theorem dX0_init_8 : decode cX0_init 8 = .ok (.newarray .int, 2) := by decide +kernel
theorem dX0_init_10 : decode cX0_init 10 = .ok (.putfield 9, 3) := by decide +kernel
theorem dX0_init_13 : decode cX0_init 13 = .ok (.aload_n 0, 1) := by decide +kernel
theorem dX0_init_14 : decode cX0_init 14 = .ok (.iconst 0, 1) := by decide +kernel
theorem dX0_init_15 : decode cX0_init 15 = .ok (.putfield 15, 3) := by decide +kernel
theorem dX0_init_18 : decode cX0_init 18 = .ok (.aload_n 0, 1) := by decide +kernel
theorem dX0_init_19 : decode cX0_init 19 = .ok (.iconst 0, 1) := by decide +kernel
theorem dX0_init_20 : decode cX0_init 20 = .ok (.putfield 19, 3) := by decide +kernel
theorem dX0_init_23 : decode cX0_init 23 = .ok (.return_, 1) := by decide +kernel
theorem dX1_fillRowsAndColumns_0 : decode cX1_fillRowsAndColumns 0 = .ok (.iconst 0, 1) := by decide +kernel
theorem dX1_fillRowsAndColumns_1 : decode cX1_fillRowsAndColumns 1 = .ok (.istore_n 1, 1) := by decide +kernel
theorem dX1_fillRowsAndColumns_2 : decode cX1_fillRowsAndColumns 2 = .ok (.iload_n 1, 1) := by decide +kernel
theorem dX1_fillRowsAndColumns_3 : decode cX1_fillRowsAndColumns 3 = .ok (.aload_n 0, 1) := by decide +kernel
theorem dX1_fillRowsAndColumns_4 : decode cX1_fillRowsAndColumns 4 = .ok (.getfield 25, 3) := by decide +kernel
theorem dX1_fillRowsAndColumns_7 : decode cX1_fillRowsAndColumns 7 = .ok (.if_icmp .ge 67, 3) := by decide +kernel
theorem dX1_fillRowsAndColumns_10 : decode cX1_fillRowsAndColumns 10 = .ok (.iconst 0, 1) := by decide +kernel
theorem dX1_fillRowsAndColumns_11 : decode cX1_fillRowsAndColumns 11 = .ok (.istore_n 2, 1) := by decide +kernel
theorem dX1_fillRowsAndColumns_12 : decode cX1_fillRowsAndColumns 12 = .ok (.iload_n 2, 1) := by decide +kernel
theorem dX1_fillRowsAndColumns_13 : decode cX1_fillRowsAndColumns 13 = .ok (.aload_n 0, 1) := by decide +kernel
theorem dX1_fillRowsAndColumns_14 : decode cX1_fillRowsAndColumns 14 = .ok (.getfield 21, 3) := by decide +kernel
theorem dX1_fillRowsAndColumns_17 : decode cX1_fillRowsAndColumns 17 = .ok (.if_icmp .ge 51, 3) := by decide +kernel
theorem dX1_fillRowsAndColumns_20 : decode cX1_fillRowsAndColumns 20 = .ok (.aload_n 0, 1) := by decide +kernel
theorem dX1_fillRowsAndColumns_21 : decode cX1_fillRowsAndColumns 21 = .ok (.getfield 43, 3) := by decide +kernel
theorem dX1_fillRowsAndColumns_24 : decode cX1_fillRowsAndColumns 24 = .ok (.iconst 0, 1) := by decide +kernel
theorem dX1_fillRowsAndColumns_25 : decode cX1_fillRowsAndColumns 25 = .ok (.aaload, 1) := by decide +kernel
theorem dX1_fillRowsAndColumns_26 : decode cX1_fillRowsAndColumns 26 = .ok (.iload_n 1, 1) := by decide +kernel
theorem dX1_fillRowsAndColumns_27 : decode cX1_fillRowsAndColumns 27 = .ok (.aload_n 0, 1) := by decide +kernel
theorem dX1_fillRowsAndColumns_28 : decode cX1_fillRowsAndColumns 28 = .ok (.getfield 21, 3) := by decide +kernel
theorem dX1_fillRowsAndColumns_31 : decode cX1_fillRowsAndColumns 31 = .ok (.imul, 1) := by decide +kernel
theorem dX1_fillRowsAndColumns_32 : decode cX1_fillRowsAndColumns 32 = .ok (.iload_n 2, 1) := by decide +kernel
theorem dX1_fillRowsAndColumns_33 : decode cX1_fillRowsAndColumns 33 = .ok (.iadd, 1) := by decide +kernel
theorem dX1_fillRowsAndColumns_34 : decode cX1_fillRowsAndColumns 34 = .ok (.bipush 32, 2) := by decide +kernel
theorem dX1_fillRowsAndColumns_36 : decode cX1_fillRowsAndColumns 36 = .ok (.iload_n 1, 1) := by decide +kernel
theorem dX1_fillRowsAndColumns_37 : decode cX1_fillRowsAndColumns 37 = .ok (.imul, 1) := by decide +kernel
theorem dX1_fillRowsAndColumns_38 : decode cX1_fillRowsAndColumns 38 = .ok (.iload_n 2, 1) := by decide +kernel
theorem dX1_fillRowsAndColumns_39 : decode cX1_fillRowsAndColumns 39 = .ok (.iadd, 1) := by decide +kernel
theorem dX1_fillRowsAndColumns_40 : decode cX1_fillRowsAndColumns 40 = .ok (.iastore, 1) := by decide +kernel
theorem dX1_fillRowsAndColumns_41 : decode cX1_fillRowsAndColumns 41 = .ok (.aload_n 0, 1) := by decide +kernel
theorem dX1_fillRowsAndColumns_42 : decode cX1_fillRowsAndColumns 42 = .ok (.getfield 43, 3) := by decide +kernel
theorem dX1_fillRowsAndColumns_45 : decode cX1_fillRowsAndColumns 45 = .ok (.iconst 1, 1) := by decide +kernel
theorem dX1_fillRowsAndColumns_46 : decode cX1_fillRowsAndColumns 46 = .ok (.aaload, 1) := by decide +kernel
theorem dX1_fillRowsAndColumns_47 : decode cX1_fillRowsAndColumns 47 = .ok (.iload_n 2, 1) := by decide +kernel
theorem dX1_fillRowsAndColumns_48 : decode cX1_fillRowsAndColumns 48 = .ok (.aload_n 0, 1) := by decide +kernel
theorem dX1_fillRowsAndColumns_49 : decode cX1_fillRowsAndColumns 49 = .ok (.getfield 25, 3) := by decide +kernel
theorem dX1_fillRowsAndColumns_52 : decode cX1_fillRowsAndColumns 52 = .ok (.imul, 1) := by decide +kernel
theorem dX1_fillRowsAndColumns_53 : decode cX1_fillRowsAndColumns 53 = .ok (.iload_n 1, 1) := by decide +kernel
theorem dX1_fillRowsAndColumns_54 : decode cX1_fillRowsAndColumns 54 = .ok (.iadd, 1) := by decide +kernel
theorem dX1_fillRowsAndColumns_55 : decode cX1_fillRowsAndColumns 55 = .ok (.bipush 32, 2) := by decide +kernel
theorem dX1_fillRowsAndColumns_57 : decode cX1_fillRowsAndColumns 57 = .ok (.iload_n 1, 1) := by decide +kernel
theorem dX1_fillRowsAndColumns_58 : decode cX1_fillRowsAndColumns 58 = .ok (.imul, 1) := by decide +kernel
theorem dX1_fillRowsAndColumns_59 : decode cX1_fillRowsAndColumns 59 = .ok (.iload_n 2, 1) := by decide +kernel
theorem dX1_fillRowsAndColumns_60 : decode cX1_fillRowsAndColumns 60 = .ok (.iadd, 1) := by decide +kernel
theorem dX1_fillRowsAndColumns_61 : decode cX1_fillRowsAndColumns 61 = .ok (.iastore, 1) := by decide +kernel
theorem dX1_fillRowsAndColumns_62 : decode cX1_fillRowsAndColumns 62 = .ok (.iinc 2 1, 3) := by decide +kernel
theorem dX1_fillRowsAndColumns_65 : decode cX1_fillRowsAndColumns 65 = .ok (.goto (-53), 3) := by decide +kernel
theorem dX1_fillRowsAndColumns_68 : decode cX1_fillRowsAndColumns 68 = .ok (.iinc 1 1, 3) := by decide +kernel
theorem dX1_fillRowsAndColumns_71 : decode cX1_fillRowsAndColumns 71 = .ok (.goto (-69), 3) := by decide +kernel
theorem dX1_fillRowsAndColumns_74 : decode cX1_fillRowsAndColumns 74 = .ok (.return_, 1) := by decide +kernel
theorem dX2_init_0 : decode cX2_init 0 = .ok (.aload_n 0, 1) := by decide +kernel
theorem dX2_init_1 : decode cX2_init 1 = .ok (.invokespecial 1, 3) := by decide +kernel
theorem dX2_init_4 : decode cX2_init 4 = .ok (.aload_n 0, 1) := by decide +kernel
theorem dX2_init_5 : decode cX2_init 5 = .ok (.iload_n 1, 1) := by decide +kernel
theorem dX2_init_6 : decode cX2_init 6 = .ok (.newarray .int, 2) := by decide +kernel
theorem dX2_init_8 : decode cX2_init 8 = .ok (.putfield 7, 3) := by decide +kernel
theorem dX2_init_11 : decode cX2_init 11 = .ok (.aload_n 0, 1) := by decide +kernel
theorem dX2_init_12 : decode cX2_init 12 = .ok (.iload_n 1, 1) := by decide +kernel
theorem dX2_init_13 : decode cX2_init 13 = .ok (.newarray .boolean, 2) := by decide +kernel
theorem dX2_init_15 : decode cX2_init 15 = .ok (.putfield 13, 3) := by decide +kernel
theorem dX2_init_18 : decode cX2_init 18 = .ok (.aload_n 0, 1) := by decide +kernel
theorem dX2_init_19 : decode cX2_init 19 = .ok (.iconst 0, 1) := by decide +kernel
theorem dX2_init_20 : decode cX2_init 20 = .ok (.putfield 17, 3) := by decide +kernel
theorem dX2_init_23 : decode cX2_init 23 = .ok (.return_, 1) := by decide +kernel
theorem dX1_fillQuarters_0 : decode cX1_fillQuarters 0 = .ok (.iconst 0, 1) := by decide +kernel
theorem dX1_fillQuarters_1 : decode cX1_fillQuarters 1 = .ok (.istore_n 1, 1) := by decide +kernel
theorem dX1_fillQuarters_2 : decode cX1_fillQuarters 2 = .ok (.iconst 0, 1) := by decide +kernel
theorem dX1_fillQuarters_3 : decode cX1_fillQuarters 3 = .ok (.istore_n 2, 1) := by decide +kernel
theorem dX1_fillQuarters_4 : decode cX1_fillQuarters 4 = .ok (.iload_n 2, 1) := by decide +kernel
theorem dX1_fillQuarters_5 : decode cX1_fillQuarters 5 = .ok (.sipush 1024, 3) := by decide +kernel
theorem dX1_fillQuarters_8 : decode cX1_fillQuarters 8 = .ok (.if_icmp .ge 65, 3) := by decide +kernel
theorem dX1_fillQuarters_11 : decode cX1_fillQuarters 11 = .ok (.iload_n 2, 1) := by decide +kernel
theorem dX1_fillQuarters_12 : decode cX1_fillQuarters 12 = .ok (.invokestatic 52, 3) := by decide +kernel
theorem dX1_fillQuarters_15 : decode cX1_fillQuarters 15 = .ok (.istore_n 3, 1) := by decide +kernel
theorem dX1_fillQuarters_16 : decode cX1_fillQuarters 16 = .ok (.iload_n 2, 1) := by decide +kernel
theorem dX1_fillQuarters_17 : decode cX1_fillQuarters 17 = .ok (.iconst 1, 1) := by decide +kernel
theorem dX1_fillQuarters_18 : decode cX1_fillQuarters 18 = .ok (.ishr, 1) := by decide +kernel
theorem dX1_fillQuarters_19 : decode cX1_fillQuarters 19 = .ok (.invokestatic 52, 3) := by decide +kernel
theorem dX1_fillQuarters_22 : decode cX1_fillQuarters 22 = .ok (.istore 4, 2) := by decide +kernel
theorem dX1_fillQuarters_24 : decode cX1_fillQuarters 24 = .ok (.iload_n 3, 1) := by decide +kernel
theorem dX1_fillQuarters_25 : decode cX1_fillQuarters 25 = .ok (.aload_n 0, 1) := by decide +kernel
theorem dX1_fillQuarters_26 : decode cX1_fillQuarters 26 = .ok (.getfield 21, 3) := by decide +kernel
theorem dX1_fillQuarters_29 : decode cX1_fillQuarters 29 = .ok (.if_icmp .ge 38, 3) := by decide +kernel
theorem dX1_fillQuarters_32 : decode cX1_fillQuarters 32 = .ok (.iload 4, 2) := by decide +kernel
theorem dX1_fillQuarters_34 : decode cX1_fillQuarters 34 = .ok (.aload_n 0, 1) := by decide +kernel
theorem dX1_fillQuarters_35 : decode cX1_fillQuarters 35 = .ok (.getfield 25, 3) := by decide +kernel
theorem dX1_fillQuarters_38 : decode cX1_fillQuarters 38 = .ok (.if_icmp .ge 29, 3) := by decide +kernel
theorem dX1_fillQuarters_41 : decode cX1_fillQuarters 41 = .ok (.iload_n 1, 1) := by decide +kernel
theorem dX1_fillQuarters_42 : decode cX1_fillQuarters 42 = .ok (.aload_n 0, 1) := by decide +kernel
theorem dX1_fillQuarters_43 : decode cX1_fillQuarters 43 = .ok (.getfield 28, 3) := by decide +kernel
theorem dX1_fillQuarters_46 : decode cX1_fillQuarters 46 = .ok (.if_icmp .ge 21, 3) := by decide +kernel
theorem dX1_fillQuarters_49 : decode cX1_fillQuarters 49 = .ok (.aload_n 0, 1) := by decide +kernel
theorem dX1_fillQuarters_50 : decode cX1_fillQuarters 50 = .ok (.getfield 43, 3) := by decide +kernel
theorem dX1_fillQuarters_53 : decode cX1_fillQuarters 53 = .ok (.iconst 2, 1) := by decide +kernel
theorem dX1_fillQuarters_54 : decode cX1_fillQuarters 54 = .ok (.aaload, 1) := by decide +kernel
theorem dX1_fillQuarters_55 : decode cX1_fillQuarters 55 = .ok (.iload_n 1, 1) := by decide +kernel
theorem dX1_fillQuarters_56 : decode cX1_fillQuarters 56 = .ok (.bipush 32, 2) := by decide +kernel
theorem dX1_fillQuarters_58 : decode cX1_fillQuarters 58 = .ok (.iload 4, 2) := by decide +kernel
theorem dX1_fillQuarters_60 : decode cX1_fillQuarters 60 = .ok (.imul, 1) := by decide +kernel
theorem dX1_fillQuarters_61 : decode cX1_fillQuarters 61 = .ok (.iload_n 3, 1) := by decide +kernel
theorem dX1_fillQuarters_62 : decode cX1_fillQuarters 62 = .ok (.iadd, 1) := by decide +kernel
theorem dX1_fillQuarters_63 : decode cX1_fillQuarters 63 = .ok (.iastore, 1) := by decide +kernel
theorem dX1_fillQuarters_64 : decode cX1_fillQuarters 64 = .ok (.iinc 1 1, 3) := by decide +kernel
theorem dX1_fillQuarters_67 : decode cX1_fillQuarters 67 = .ok (.iinc 2 1, 3) := by decide +kernel
theorem dX1_fillQuarters_70 : decode cX1_fillQuarters 70 = .ok (.goto (-66), 3) := by decide +kernel
theorem dX1_fillQuarters_73 : decode cX1_fillQuarters 73 = .ok (.return_, 1) := by decide +kernel
theorem dX1_init_0 : decode cX1_init 0 = .ok (.aload_n 0, 1) := by decide +kernel
theorem dX1_init_1 : decode cX1_init 1 = .ok (.invokespecial 3, 3) := by decide +kernel
theorem dX1_init_4 : decode cX1_init 4 = .ok (.aload_n 0, 1) := by decide +kernel
theorem dX1_init_5 : decode cX1_init 5 = .ok (.bipush 6, 2) := by decide +kernel
theorem dX1_init_7 : decode cX1_init 7 = .ok (.newarray .int, 2) := by decide +kernel
theorem dX1_init_9 : decode cX1_init 9 = .ok (.putfield 9, 3) := by decide +kernel
theorem dX1_init_12 : decode cX1_init 12 = .ok (.aload_n 0, 1) := by decide +kernel
theorem dX1_init_13 : decode cX1_init 13 = .ok (.bipush 6, 2) := by decide +kernel
theorem dX1_init_15 : decode cX1_init 15 = .ok (.newarray .int, 2) := by decide +kernel
theorem dX1_init_17 : decode cX1_init 17 = .ok (.putfield 15, 3) := by decide +kernel
theorem dX1_init_20 : decode cX1_init 20 = .ok (.aload_n 0, 1) := by decide +kernel
theorem dX1_init_21 : decode cX1_init 21 = .ok (.bipush 6, 2) := by decide +kernel
theorem dX1_init_23 : decode cX1_init 23 = .ok (.newarray .int, 2) := by decide +kernel
theorem dX1_init_25 : decode cX1_init 25 = .ok (.putfield 18, 3) := by decide +kernel
theorem dX1_init_28 : decode cX1_init 28 = .ok (.aload_n 0, 1) := by decide +kernel
theorem dX1_init_29 : decode cX1_init 29 = .ok (.iload_n 1, 1) := by decide +kernel
theorem dX1_init_30 : decode cX1_init 30 = .ok (.putfield 21, 3) := by decide +kernel
theorem dX1_init_33 : decode cX1_init 33 = .ok (.aload_n 0, 1) := by decide +kernel
theorem dX1_init_34 : decode cX1_init 34 = .ok (.iload_n 2, 1) := by decide +kernel
theorem dX1_init_35 : decode cX1_init 35 = .ok (.putfield 25, 3) := by decide +kernel
theorem dX1_init_38 : decode cX1_init 38 = .ok (.aload_n 0, 1) := by decide +kernel
theorem dX1_init_39 : decode cX1_init 39 = .ok (.iload_n 1, 1) := by decide +kernel
theorem dX1_init_40 : decode cX1_init 40 = .ok (.iload_n 2, 1) := by decide +kernel
theorem dX1_init_41 : decode cX1_init 41 = .ok (.imul, 1) := by decide +kernel
theorem dX1_init_42 : decode cX1_init 42 = .ok (.putfield 28, 3) := by decide +kernel
theorem dX1_init_45 : decode cX1_init 45 = .ok (.iconst 0, 1) := by decide +kernel
theorem dX1_init_46 : decode cX1_init 46 = .ok (.istore_n 3, 1) := by decide +kernel
theorem dX1_init_47 : decode cX1_init 47 = .ok (.iconst 0, 1) := by decide +kernel
theorem dX1_init_48 : decode cX1_init 48 = .ok (.istore 4, 2) := by decide +kernel
theorem dX1_init_50 : decode cX1_init 50 = .ok (.iconst 0, 1) := by decide +kernel
theorem dX1_init_51 : decode cX1_init 51 = .ok (.istore 5, 2) := by decide +kernel
theorem dX1_init_53 : decode cX1_init 53 = .ok (.iload_n 3, 1) := by decide +kernel
theorem dX1_init_54 : decode cX1_init 54 = .ok (.bipush 6, 2) := by decide +kernel
theorem dX1_init_56 : decode cX1_init 56 = .ok (.if_icmp .ge 86, 3) := by decide +kernel
theorem dX1_init_59 : decode cX1_init 59 = .ok (.iload 5, 2) := by decide +kernel
theorem dX1_init_61 : decode cX1_init 61 = .ok (.ifCond .ne 81, 3) := by decide +kernel
theorem dX1_init_64 : decode cX1_init 64 = .ok (.aload_n 0, 1) := by decide +kernel
theorem dX1_init_65 : decode cX1_init 65 = .ok (.getfield 9, 3) := by decide +kernel
theorem dX1_init_68 : decode cX1_init 68 = .ok (.iload_n 3, 1) := by decide +kernel
theorem dX1_init_69 : decode cX1_init 69 = .ok (.iload_n 1, 1) := by decide +kernel
theorem dX1_init_70 : decode cX1_init 70 = .ok (.iload_n 3, 1) := by decide +kernel
theorem dX1_init_71 : decode cX1_init 71 = .ok (.invokestatic 31, 3) := by decide +kernel
theorem dX1_init_74 : decode cX1_init 74 = .ok (.iastore, 1) := by decide +kernel
theorem dX1_init_75 : decode cX1_init 75 = .ok (.aload_n 0, 1) := by decide +kernel
theorem dX1_init_76 : decode cX1_init 76 = .ok (.getfield 15, 3) := by decide +kernel
theorem dX1_init_79 : decode cX1_init 79 = .ok (.iload_n 3, 1) := by decide +kernel
theorem dX1_init_80 : decode cX1_init 80 = .ok (.iload_n 2, 1) := by decide +kernel
theorem dX1_init_81 : decode cX1_init 81 = .ok (.iload_n 3, 1) := by decide +kernel
theorem dX1_init_82 : decode cX1_init 82 = .ok (.invokestatic 31, 3) := by decide +kernel
theorem dX1_init_85 : decode cX1_init 85 = .ok (.iastore, 1) := by decide +kernel
theorem dX1_init_86 : decode cX1_init 86 = .ok (.aload_n 0, 1) := by decide +kernel
theorem dX1_init_87 : decode cX1_init 87 = .ok (.getfield 18, 3) := by decide +kernel
theorem dX1_init_90 : decode cX1_init 90 = .ok (.iload_n 3, 1) := by decide +kernel
theorem dX1_init_91 : decode cX1_init 91 = .ok (.iload 4, 2) := by decide +kernel
theorem dX1_init_93 : decode cX1_init 93 = .ok (.iastore, 1) := by decide +kernel
theorem dX1_init_94 : decode cX1_init 94 = .ok (.iload 4, 2) := by decide +kernel
theorem dX1_init_96 : decode cX1_init 96 = .ok (.aload_n 0, 1) := by decide +kernel
theorem dX1_init_97 : decode cX1_init 97 = .ok (.getfield 9, 3) := by decide +kernel
theorem dX1_init_100 : decode cX1_init 100 = .ok (.iload_n 3, 1) := by decide +kernel
theorem dX1_init_101 : decode cX1_init 101 = .ok (.iaload, 1) := by decide +kernel
theorem dX1_init_102 : decode cX1_init 102 = .ok (.aload_n 0, 1) := by decide +kernel
theorem dX1_init_103 : decode cX1_init 103 = .ok (.getfield 15, 3) := by decide +kernel
theorem dX1_init_106 : decode cX1_init 106 = .ok (.iload_n 3, 1) := by decide +kernel
theorem dX1_init_107 : decode cX1_init 107 = .ok (.iaload, 1) := by decide +kernel
theorem dX1_init_108 : decode cX1_init 108 = .ok (.imul, 1) := by decide +kernel
theorem dX1_init_109 : decode cX1_init 109 = .ok (.iadd, 1) := by decide +kernel
theorem dX1_init_110 : decode cX1_init 110 = .ok (.istore 4, 2) := by decide +kernel
theorem dX1_init_112 : decode cX1_init 112 = .ok (.aload_n 0, 1) := by decide +kernel
theorem dX1_init_113 : decode cX1_init 113 = .ok (.getfield 9, 3) := by decide +kernel
theorem dX1_init_116 : decode cX1_init 116 = .ok (.iload_n 3, 1) := by decide +kernel
theorem dX1_init_117 : decode cX1_init 117 = .ok (.iaload, 1) := by decide +kernel
theorem dX1_init_118 : decode cX1_init 118 = .ok (.aload_n 0, 1) := by decide +kernel
theorem dX1_init_119 : decode cX1_init 119 = .ok (.getfield 15, 3) := by decide +kernel
theorem dX1_init_122 : decode cX1_init 122 = .ok (.iload_n 3, 1) := by decide +kernel
theorem dX1_init_123 : decode cX1_init 123 = .ok (.iaload, 1) := by decide +kernel
theorem dX1_init_124 : decode cX1_init 124 = .ok (.imul, 1) := by decide +kernel
theorem dX1_init_125 : decode cX1_init 125 = .ok (.iconst 1, 1) := by decide +kernel
theorem dX1_init_126 : decode cX1_init 126 = .ok (.if_icmp .ne 7, 3) := by decide +kernel
theorem dX1_init_129 : decode cX1_init 129 = .ok (.iconst 1, 1) := by decide +kernel
theorem dX1_init_130 : decode cX1_init 130 = .ok (.goto 4, 3) := by decide +kernel
theorem dX1_init_133 : decode cX1_init 133 = .ok (.iconst 0, 1) := by decide +kernel
theorem dX1_init_134 : decode cX1_init 134 = .ok (.istore 5, 2) := by decide +kernel
theorem dX1_init_136 : decode cX1_init 136 = .ok (.iinc 3 1, 3) := by decide +kernel
theorem dX1_init_139 : decode cX1_init 139 = .ok (.goto (-86), 3) := by decide +kernel
theorem dX1_init_142 : decode cX1_init 142 = .ok (.aload_n 0, 1) := by decide +kernel
theorem dX1_init_143 : decode cX1_init 143 = .ok (.iload_n 3, 1) := by decide +kernel
theorem dX1_init_144 : decode cX1_init 144 = .ok (.putfield 35, 3) := by decide +kernel
theorem dX1_init_147 : decode cX1_init 147 = .ok (.aload_n 0, 1) := by decide +kernel
theorem dX1_init_148 : decode cX1_init 148 = .ok (.iload 4, 2) := by decide +kernel
theorem dX1_init_150 : decode cX1_init 150 = .ok (.putfield 38, 3) := by decide +kernel
theorem dX1_init_153 : decode cX1_init 153 = .ok (.aload_n 0, 1) := by decide +kernel
theorem dX1_init_154 : decode cX1_init 154 = .ok (.iconst 3, 1) := by decide +kernel
theorem dX1_init_155 : decode cX1_init 155 = .ok (.aload_n 0, 1) := by decide +kernel
theorem dX1_init_156 : decode cX1_init 156 = .ok (.getfield 28, 3) := by decide +kernel
theorem dX1_init_159 : decode cX1_init 159 = .ok (.multianewarray 41 2, 4) := by decide +kernel
theorem dX1_init_163 : decode cX1_init 163 = .ok (.putfield 43, 3) := by decide +kernel
theorem dX1_init_166 : decode cX1_init 166 = .ok (.aload_n 0, 1) := by decide +kernel
theorem dX1_init_167 : decode cX1_init 167 = .ok (.invokevirtual 46, 3) := by decide +kernel
theorem dX1_init_170 : decode cX1_init 170 = .ok (.aload_n 0, 1) := by decide +kernel
theorem dX1_init_171 : decode cX1_init 171 = .ok (.invokevirtual 49, 3) := by decide +kernel
theorem dX1_init_174 : decode cX1_init 174 = .ok (.return_, 1) := by decide +kernel
theorem dX3_init_0 : decode cX3_init 0 = .ok (.aload_n 0, 1) := by decide +kernel
theorem dX3_init_1 : decode cX3_init 1 = .ok (.invokespecial 1, 3) := by decide +kernel
theorem dX3_init_4 : decode cX3_init 4 = .ok (.aload_n 0, 1) := by decide +kernel
theorem dX3_init_5 : decode cX3_init 5 = .ok (.new 7, 3) := by decide +kernel
theorem dX3_init_8 : decode cX3_init 8 = .ok (.dup, 1) := by decide +kernel
theorem dX3_init_9 : decode cX3_init 9 = .ok (.iload_n 1, 1) := by decide +kernel
theorem dX3_init_10 : decode cX3_init 10 = .ok (.i2l, 1) := by decide +kernel
theorem dX3_init_11 : decode cX3_init 11 = .ok (.iconst 1, 1) := by decide +kernel
theorem dX3_init_12 : decode cX3_init 12 = .ok (.bipush 32, 2) := by decide +kernel
theorem dX3_init_14 : decode cX3_init 14 = .ok (.invokestatic 11, 3) := by decide +kernel
theorem dX3_init_17 : decode cX3_init 17 = .ok (.iload_n 2, 1) := by decide +kernel
theorem dX3_init_18 : decode cX3_init 18 = .ok (.i2l, 1) := by decide +kernel
theorem dX3_init_19 : decode cX3_init 19 = .ok (.iconst 1, 1) := by decide +kernel
theorem dX3_init_20 : decode cX3_init 20 = .ok (.bipush 32, 2) := by decide +kernel
theorem dX3_init_22 : decode cX3_init 22 = .ok (.invokestatic 11, 3) := by decide +kernel
theorem dX3_init_25 : decode cX3_init 25 = .ok (.invokespecial 15, 3) := by decide +kernel
theorem dX3_init_28 : decode cX3_init 28 = .ok (.putfield 18, 3) := by decide +kernel
theorem dX3_init_31 : decode cX3_init 31 = .ok (.aload_n 0, 1) := by decide +kernel
theorem dX3_init_32 : decode cX3_init 32 = .ok (.aload_n 0, 1) := by decide +kernel
theorem dX3_init_33 : decode cX3_init 33 = .ok (.getfield 18, 3) := by decide +kernel
theorem dX3_init_36 : decode cX3_init 36 = .ok (.getfield 22, 3) := by decide +kernel
theorem dX3_init_39 : decode cX3_init 39 = .ok (.newarray .int, 2) := by decide +kernel
theorem dX3_init_41 : decode cX3_init 41 = .ok (.putfield 26, 3) := by decide +kernel
theorem dX3_init_44 : decode cX3_init 44 = .ok (.aload_n 0, 1) := by decide +kernel
theorem dX3_init_45 : decode cX3_init 45 = .ok (.new 30, 3) := by decide +kernel
theorem dX3_init_48 : decode cX3_init 48 = .ok (.dup, 1) := by decide +kernel
theorem dX3_init_49 : decode cX3_init 49 = .ok (.aload_n 0, 1) := by decide +kernel
theorem dX3_init_50 : decode cX3_init 50 = .ok (.getfield 18, 3) := by decide +kernel
theorem dX3_init_53 : decode cX3_init 53 = .ok (.getfield 22, 3) := by decide +kernel
theorem dX3_init_56 : decode cX3_init 56 = .ok (.invokespecial 32, 3) := by decide +kernel
theorem dX3_init_59 : decode cX3_init 59 = .ok (.putfield 35, 3) := by decide +kernel
theorem dX3_init_62 : decode cX3_init 62 = .ok (.aload_n 0, 1) := by decide +kernel
theorem dX3_init_63 : decode cX3_init 63 = .ok (.new 30, 3) := by decide +kernel
theorem dX3_init_66 : decode cX3_init 66 = .ok (.dup, 1) := by decide +kernel
theorem dX3_init_67 : decode cX3_init 67 = .ok (.aload_n 0, 1) := by decide +kernel
theorem dX3_init_68 : decode cX3_init 68 = .ok (.getfield 18, 3) := by decide +kernel
theorem dX3_init_71 : decode cX3_init 71 = .ok (.getfield 22, 3) := by decide +kernel
theorem dX3_init_74 : decode cX3_init 74 = .ok (.invokespecial 32, 3) := by decide +kernel
theorem dX3_init_77 : decode cX3_init 77 = .ok (.putfield 39, 3) := by decide +kernel
theorem dX3_init_80 : decode cX3_init 80 = .ok (.aload_n 0, 1) := by decide +kernel
theorem dX3_init_81 : decode cX3_init 81 = .ok (.new 42, 3) := by decide +kernel
theorem dX3_init_84 : decode cX3_init 84 = .ok (.dup, 1) := by decide +kernel
theorem dX3_init_85 : decode cX3_init 85 = .ok (.invokespecial 44, 3) := by decide +kernel
theorem dX3_init_88 : decode cX3_init 88 = .ok (.putfield 45, 3) := by decide +kernel
theorem dX3_init_91 : decode cX3_init 91 = .ok (.aload_n 0, 1) := by decide +kernel
theorem dX3_init_92 : decode cX3_init 92 = .ok (.new 42, 3) := by decide +kernel
theorem dX3_init_95 : decode cX3_init 95 = .ok (.dup, 1) := by decide +kernel
theorem dX3_init_96 : decode cX3_init 96 = .ok (.invokespecial 44, 3) := by decide +kernel
theorem dX3_init_99 : decode cX3_init 99 = .ok (.putfield 49, 3) := by decide +kernel
theorem dX3_init_102 : decode cX3_init 102 = .ok (.aload_n 0, 1) := by decide +kernel
theorem dX3_init_103 : decode cX3_init 103 = .ok (.iconst 0, 1) := by decide +kernel
theorem dX3_init_104 : decode cX3_init 104 = .ok (.putfield 52, 3) := by decide +kernel
theorem dX3_init_107 : decode cX3_init 107 = .ok (.return_, 1) := by decide +kernel
def wp_X4_init_L177 (post : vMS × vMM → Prop) (ex177 : (Nat → Int32) → (Nat → Int32) → (Nat → Int32) → (Nat → Int32) → (Nat → Int32) → (Nat → Int32) → (Nat → Int32) → (Nat → Int32) → (Nat → Int32) → (Nat → Int32) → (Nat → Int32) → (Nat → Int32) → (Nat → Int32) → Int32 → Int32 → Int32 → Int32 → Int32 → Prop) (x1 : Int32) (x2 : Int32) : Nat → (Nat → Int32) → (Nat → Int32) → (Nat → Int32) → (Nat → Int32) → (Nat → Int32) → (Nat → Int32) → (Nat → Int32) → (Nat → Int32) → (Nat → Int32) → (Nat → Int32) → (Nat → Int32) → (Nat → Int32) → (Nat → Int32) → Int32 → Int32 → Int32 → Int32 → Int32 → Prop
  | 0, _, _, _, _, _, _, _, _, _, _, _, _, _, _, _, _, _, _ => False
  | n_49 + 1, ym_2_31, ym_4_32, ym_6_33, ym_8_34, ym_10_35, ym_12_36, ym_14_37, ym_16_38, ym_18_39, ym_20_40, ym_22_41, ym_24_42, ym_26_43, y_44, y_45, x5_46, x4_47, x3_48 => ((x5_46 = 0 → (ex177 ym_2_31 ym_4_32 ym_6_33 ym_8_34 ym_10_35 ym_12_36 ym_14_37 ym_16_38 ym_18_39 ym_20_40 ym_22_41 ym_24_42 ym_26_43 y_44 y_45 x5_46 x4_47 x3_48)) ∧ (¬ x5_46 = 0 → (vp_in y_44 8 ∧ (vp_in y_44 8 ∧ (vp_in y_44 8 ∧ (∀ f_54 : Int32, f_54 = y_45 + (x3_48 * x4_47) → (∀ f_55 : Int32, f_55 = y_44 + 1 → (((1 < x3_48 → (¬ (2 : Int32) = 0 ∧ (∀ x3_58 : Int32, x3_58 = (x3_48 + 1) / 2 → (¬ (2 : Int32) = 0 ∧ (∀ x4_60 : Int32, x4_60 = (x4_47 + 1) / 2 → (wp_X4_init_L177 post ex177 x1 x2 n_49 (upd ym_2_31 y_44.toNatClampNeg y_45) (upd ym_4_32 y_44.toNatClampNeg x3_48) (upd ym_6_33 y_44.toNatClampNeg x4_47) ym_8_34 ym_10_35 ym_12_36 ym_14_37 ym_16_38 ym_18_39 ym_20_40 ym_22_41 ym_24_42 ym_26_43 f_55 f_54 1 x4_60 x3_58)))))) ∧ (¬ 1 < x3_48 → (((x4_47 ≤ 1 → (¬ (2 : Int32) = 0 ∧ (∀ x3_63 : Int32, x3_63 = (x3_48 + 1) / 2 → (¬ (2 : Int32) = 0 ∧ (∀ x4_65 : Int32, x4_65 = (x4_47 + 1) / 2 → (wp_X4_init_L177 post ex177 x1 x2 n_49 (upd ym_2_31 y_44.toNatClampNeg y_45) (upd ym_4_32 y_44.toNatClampNeg x3_48) (upd ym_6_33 y_44.toNatClampNeg x4_47) ym_8_34 ym_10_35 ym_12_36 ym_14_37 ym_16_38 ym_18_39 ym_20_40 ym_22_41 ym_24_42 ym_26_43 f_55 f_54 0 x4_65 x3_63)))))) ∧ (¬ x4_47 ≤ 1 → (¬ (2 : Int32) = 0 ∧ (∀ x3_67 : Int32, x3_67 = (x3_48 + 1) / 2 → (¬ (2 : Int32) = 0 ∧ (∀ x4_69 : Int32, x4_69 = (x4_47 + 1) / 2 → (wp_X4_init_L177 post ex177 x1 x2 n_49 (upd ym_2_31 y_44.toNatClampNeg y_45) (upd ym_4_32 y_44.toNatClampNeg x3_48) (upd ym_6_33 y_44.toNatClampNeg x4_47) ym_8_34 ym_10_35 ym_12_36 ym_14_37 ym_16_38 ym_18_39 ym_20_40 ym_22_41 ym_24_42 ym_26_43 f_55 f_54 1 x4_69 x3_67))))))))))))))))))
def wp_X4_init_L177_1 (post : vMS × vMM → Prop) (ex177_1 : (Nat → Int32) → (Nat → Int32) → (Nat → Int32) → (Nat → Int32) → (Nat → Int32) → (Nat → Int32) → (Nat → Int32) → (Nat → Int32) → (Nat → Int32) → (Nat → Int32) → (Nat → Int32) → (Nat → Int32) → (Nat → Int32) → Int32 → Int32 → Int32 → Int32 → Int32 → Prop) (x1 : Int32) (x2 : Int32) : Nat → (Nat → Int32) → (Nat → Int32) → (Nat → Int32) → (Nat → Int32) → (Nat → Int32) → (Nat → Int32) → (Nat → Int32) → (Nat → Int32) → (Nat → Int32) → (Nat → Int32) → (Nat → Int32) → (Nat → Int32) → (Nat → Int32) → Int32 → Int32 → Int32 → Int32 → Int32 → Prop
  | 0, _, _, _, _, _, _, _, _, _, _, _, _, _, _, _, _, _, _ => False
  | n_88 + 1, ym_2_70, ym_4_71, ym_6_72, ym_8_73, ym_10_74, ym_12_75, ym_14_76, ym_16_77, ym_18_78, ym_20_79, ym_22_80, ym_24_81, ym_26_82, y_83, y_84, x5_85, x4_86, x3_87 => ((x5_85 = 0 → (ex177_1 ym_2_70 ym_4_71 ym_6_72 ym_8_73 ym_10_74 ym_12_75 ym_14_76 ym_16_77 ym_18_78 ym_20_79 ym_22_80 ym_24_81 ym_26_82 y_83 y_84 x5_85 x4_86 x3_87)) ∧ (¬ x5_85 = 0 → (vp_in y_83 8 ∧ (vp_in y_83 8 ∧ (vp_in y_83 8 ∧ (∀ f_93 : Int32, f_93 = y_84 + (x3_87 * x4_86) → (∀ f_94 : Int32, f_94 = y_83 + 1 → (((1 < x3_87 → (¬ (2 : Int32) = 0 ∧ (∀ x3_97 : Int32, x3_97 = (x3_87 + 1) / 2 → (¬ (2 : Int32) = 0 ∧ (∀ x4_99 : Int32, x4_99 = (x4_86 + 1) / 2 → (wp_X4_init_L177_1 post ex177_1 x1 x2 n_88 (upd ym_2_70 y_83.toNatClampNeg y_84) (upd ym_4_71 y_83.toNatClampNeg x3_87) (upd ym_6_72 y_83.toNatClampNeg x4_86) ym_8_73 ym_10_74 ym_12_75 ym_14_76 ym_16_77 ym_18_78 ym_20_79 ym_22_80 ym_24_81 ym_26_82 f_94 f_93 1 x4_99 x3_97)))))) ∧ (¬ 1 < x3_87 → (((x4_86 ≤ 1 → (¬ (2 : Int32) = 0 ∧ (∀ x3_102 : Int32, x3_102 = (x3_87 + 1) / 2 → (¬ (2 : Int32) = 0 ∧ (∀ x4_104 : Int32, x4_104 = (x4_86 + 1) / 2 → (wp_X4_init_L177_1 post ex177_1 x1 x2 n_88 (upd ym_2_70 y_83.toNatClampNeg y_84) (upd ym_4_71 y_83.toNatClampNeg x3_87) (upd ym_6_72 y_83.toNatClampNeg x4_86) ym_8_73 ym_10_74 ym_12_75 ym_14_76 ym_16_77 ym_18_78 ym_20_79 ym_22_80 ym_24_81 ym_26_82 f_94 f_93 0 x4_104 x3_102)))))) ∧ (¬ x4_86 ≤ 1 → (¬ (2 : Int32) = 0 ∧ (∀ x3_106 : Int32, x3_106 = (x3_87 + 1) / 2 → (¬ (2 : Int32) = 0 ∧ (∀ x4_108 : Int32, x4_108 = (x4_86 + 1) / 2 → (wp_X4_init_L177_1 post ex177_1 x1 x2 n_88 (upd ym_2_70 y_83.toNatClampNeg y_84) (upd ym_4_71 y_83.toNatClampNeg x3_87) (upd ym_6_72 y_83.toNatClampNeg x4_86) ym_8_73 ym_10_74 ym_12_75 ym_14_76 ym_16_77 ym_18_78 ym_20_79 ym_22_80 ym_24_81 ym_26_82 f_94 f_93 1 x4_108 x3_106))))))))))))))))))
def wp_X4_init_L177_2 (post : vMS × vMM → Prop) (ex177_2 : (Nat → Int32) → (Nat → Int32) → (Nat → Int32) → (Nat → Int32) → (Nat → Int32) → (Nat → Int32) → (Nat → Int32) → (Nat → Int32) → (Nat → Int32) → (Nat → Int32) → (Nat → Int32) → (Nat → Int32) → (Nat → Int32) → Int32 → Int32 → Int32 → Int32 → Int32 → Prop) (x1 : Int32) (x2 : Int32) : Nat → (Nat → Int32) → (Nat → Int32) → (Nat → Int32) → (Nat → Int32) → (Nat → Int32) → (Nat → Int32) → (Nat → Int32) → (Nat → Int32) → (Nat → Int32) → (Nat → Int32) → (Nat → Int32) → (Nat → Int32) → (Nat → Int32) → Int32 → Int32 → Int32 → Int32 → Int32 → Prop
  | 0, _, _, _, _, _, _, _, _, _, _, _, _, _, _, _, _, _, _ => False
  | n_127 + 1, ym_2_109, ym_4_110, ym_6_111, ym_8_112, ym_10_113, ym_12_114, ym_14_115, ym_16_116, ym_18_117, ym_20_118, ym_22_119, ym_24_120, ym_26_121, y_122, y_123, x5_124, x4_125, x3_126 => ((x5_124 = 0 → (ex177_2 ym_2_109 ym_4_110 ym_6_111 ym_8_112 ym_10_113 ym_12_114 ym_14_115 ym_16_116 ym_18_117 ym_20_118 ym_22_119 ym_24_120 ym_26_121 y_122 y_123 x5_124 x4_125 x3_126)) ∧ (¬ x5_124 = 0 → (vp_in y_122 8 ∧ (vp_in y_122 8 ∧ (vp_in y_122 8 ∧ (∀ f_132 : Int32, f_132 = y_123 + (x3_126 * x4_125) → (∀ f_133 : Int32, f_133 = y_122 + 1 → (((1 < x3_126 → (¬ (2 : Int32) = 0 ∧ (∀ x3_136 : Int32, x3_136 = (x3_126 + 1) / 2 → (¬ (2 : Int32) = 0 ∧ (∀ x4_138 : Int32, x4_138 = (x4_125 + 1) / 2 → (wp_X4_init_L177_2 post ex177_2 x1 x2 n_127 (upd ym_2_109 y_122.toNatClampNeg y_123) (upd ym_4_110 y_122.toNatClampNeg x3_126) (upd ym_6_111 y_122.toNatClampNeg x4_125) ym_8_112 ym_10_113 ym_12_114 ym_14_115 ym_16_116 ym_18_117 ym_20_118 ym_22_119 ym_24_120 ym_26_121 f_133 f_132 1 x4_138 x3_136)))))) ∧ (¬ 1 < x3_126 → (((x4_125 ≤ 1 → (¬ (2 : Int32) = 0 ∧ (∀ x3_141 : Int32, x3_141 = (x3_126 + 1) / 2 → (¬ (2 : Int32) = 0 ∧ (∀ x4_143 : Int32, x4_143 = (x4_125 + 1) / 2 → (wp_X4_init_L177_2 post ex177_2 x1 x2 n_127 (upd ym_2_109 y_122.toNatClampNeg y_123) (upd ym_4_110 y_122.toNatClampNeg x3_126) (upd ym_6_111 y_122.toNatClampNeg x4_125) ym_8_112 ym_10_113 ym_12_114 ym_14_115 ym_16_116 ym_18_117 ym_20_118 ym_22_119 ym_24_120 ym_26_121 f_133 f_132 0 x4_143 x3_141)))))) ∧ (¬ x4_125 ≤ 1 → (¬ (2 : Int32) = 0 ∧ (∀ x3_145 : Int32, x3_145 = (x3_126 + 1) / 2 → (¬ (2 : Int32) = 0 ∧ (∀ x4_147 : Int32, x4_147 = (x4_125 + 1) / 2 → (wp_X4_init_L177_2 post ex177_2 x1 x2 n_127 (upd ym_2_109 y_122.toNatClampNeg y_123) (upd ym_4_110 y_122.toNatClampNeg x3_126) (upd ym_6_111 y_122.toNatClampNeg x4_125) ym_8_112 ym_10_113 ym_12_114 ym_14_115 ym_16_116 ym_18_117 ym_20_118 ym_22_119 ym_24_120 ym_26_121 f_133 f_132 1 x4_147 x3_145))))))))))))))))))
def wp_X4_init_L177_3 (post : vMS × vMM → Prop) (ex177_3 : (Nat → Int32) → (Nat → Int32) → (Nat → Int32) → (Nat → Int32) → (Nat → Int32) → (Nat → Int32) → (Nat → Int32) → (Nat → Int32) → (Nat → Int32) → (Nat → Int32) → (Nat → Int32) → (Nat → Int32) → (Nat → Int32) → Int32 → Int32 → Int32 → Int32 → Int32 → Prop) (x2 : Int32) (x1 : Int32) : Nat → (Nat → Int32) → (Nat → Int32) → (Nat → Int32) → (Nat → Int32) → (Nat → Int32) → (Nat → Int32) → (Nat → Int32) → (Nat → Int32) → (Nat → Int32) → (Nat → Int32) → (Nat → Int32) → (Nat → Int32) → (Nat → Int32) → Int32 → Int32 → Int32 → Int32 → Int32 → Prop
  | 0, _, _, _, _, _, _, _, _, _, _, _, _, _, _, _, _, _, _ => False
  | n_168 + 1, ym_2_150, ym_4_151, ym_6_152, ym_8_153, ym_10_154, ym_12_155, ym_14_156, ym_16_157, ym_18_158, ym_20_159, ym_22_160, ym_24_161, ym_26_162, y_163, y_164, x5_165, x4_166, x3_167 => ((x5_165 = 0 → (ex177_3 ym_2_150 ym_4_151 ym_6_152 ym_8_153 ym_10_154 ym_12_155 ym_14_156 ym_16_157 ym_18_158 ym_20_159 ym_22_160 ym_24_161 ym_26_162 y_163 y_164 x5_165 x4_166 x3_167)) ∧ (¬ x5_165 = 0 → (vp_in y_163 8 ∧ (vp_in y_163 8 ∧ (vp_in y_163 8 ∧ (∀ f_173 : Int32, f_173 = y_164 + (x3_167 * x4_166) → (∀ f_174 : Int32, f_174 = y_163 + 1 → (((1 < x3_167 → (¬ (2 : Int32) = 0 ∧ (∀ x3_177 : Int32, x3_177 = (x3_167 + 1) / 2 → (¬ (2 : Int32) = 0 ∧ (∀ x4_179 : Int32, x4_179 = (x4_166 + 1) / 2 → (wp_X4_init_L177_3 post ex177_3 x2 x1 n_168 (upd ym_2_150 y_163.toNatClampNeg y_164) (upd ym_4_151 y_163.toNatClampNeg x3_167) (upd ym_6_152 y_163.toNatClampNeg x4_166) ym_8_153 ym_10_154 ym_12_155 ym_14_156 ym_16_157 ym_18_158 ym_20_159 ym_22_160 ym_24_161 ym_26_162 f_174 f_173 1 x4_179 x3_177)))))) ∧ (¬ 1 < x3_167 → (((x4_166 ≤ 1 → (¬ (2 : Int32) = 0 ∧ (∀ x3_182 : Int32, x3_182 = (x3_167 + 1) / 2 → (¬ (2 : Int32) = 0 ∧ (∀ x4_184 : Int32, x4_184 = (x4_166 + 1) / 2 → (wp_X4_init_L177_3 post ex177_3 x2 x1 n_168 (upd ym_2_150 y_163.toNatClampNeg y_164) (upd ym_4_151 y_163.toNatClampNeg x3_167) (upd ym_6_152 y_163.toNatClampNeg x4_166) ym_8_153 ym_10_154 ym_12_155 ym_14_156 ym_16_157 ym_18_158 ym_20_159 ym_22_160 ym_24_161 ym_26_162 f_174 f_173 0 x4_184 x3_182)))))) ∧ (¬ x4_166 ≤ 1 → (¬ (2 : Int32) = 0 ∧ (∀ x3_186 : Int32, x3_186 = (x3_167 + 1) / 2 → (¬ (2 : Int32) = 0 ∧ (∀ x4_188 : Int32, x4_188 = (x4_166 + 1) / 2 → (wp_X4_init_L177_3 post ex177_3 x2 x1 n_168 (upd ym_2_150 y_163.toNatClampNeg y_164) (upd ym_4_151 y_163.toNatClampNeg x3_167) (upd ym_6_152 y_163.toNatClampNeg x4_166) ym_8_153 ym_10_154 ym_12_155 ym_14_156 ym_16_157 ym_18_158 ym_20_159 ym_22_160 ym_24_161 ym_26_162 f_174 f_173 1 x4_188 x3_186))))))))))))))))))
def wp_X4_init_L177_4 (post : vMS × vMM → Prop) (ex177_4 : (Nat → Int32) → (Nat → Int32) → (Nat → Int32) → (Nat → Int32) → (Nat → Int32) → (Nat → Int32) → (Nat → Int32) → (Nat → Int32) → (Nat → Int32) → (Nat → Int32) → (Nat → Int32) → (Nat → Int32) → (Nat → Int32) → Int32 → Int32 → Int32 → Int32 → Int32 → Prop) (x1 : Int32) (x2 : Int32) : Nat → (Nat → Int32) → (Nat → Int32) → (Nat → Int32) → (Nat → Int32) → (Nat → Int32) → (Nat → Int32) → (Nat → Int32) → (Nat → Int32) → (Nat → Int32) → (Nat → Int32) → (Nat → Int32) → (Nat → Int32) → (Nat → Int32) → Int32 → Int32 → Int32 → Int32 → Int32 → Prop
  | 0, _, _, _, _, _, _, _, _, _, _, _, _, _, _, _, _, _, _ => False
  | n_207 + 1, ym_2_189, ym_4_190, ym_6_191, ym_8_192, ym_10_193, ym_12_194, ym_14_195, ym_16_196, ym_18_197, ym_20_198, ym_22_199, ym_24_200, ym_26_201, y_202, y_203, x5_204, x4_205, x3_206 => ((x5_204 = 0 → (ex177_4 ym_2_189 ym_4_190 ym_6_191 ym_8_192 ym_10_193 ym_12_194 ym_14_195 ym_16_196 ym_18_197 ym_20_198 ym_22_199 ym_24_200 ym_26_201 y_202 y_203 x5_204 x4_205 x3_206)) ∧ (¬ x5_204 = 0 → (vp_in y_202 8 ∧ (vp_in y_202 8 ∧ (vp_in y_202 8 ∧ (∀ f_212 : Int32, f_212 = y_203 + (x3_206 * x4_205) → (∀ f_213 : Int32, f_213 = y_202 + 1 → (((1 < x3_206 → (¬ (2 : Int32) = 0 ∧ (∀ x3_216 : Int32, x3_216 = (x3_206 + 1) / 2 → (¬ (2 : Int32) = 0 ∧ (∀ x4_218 : Int32, x4_218 = (x4_205 + 1) / 2 → (wp_X4_init_L177_4 post ex177_4 x1 x2 n_207 (upd ym_2_189 y_202.toNatClampNeg y_203) (upd ym_4_190 y_202.toNatClampNeg x3_206) (upd ym_6_191 y_202.toNatClampNeg x4_205) ym_8_192 ym_10_193 ym_12_194 ym_14_195 ym_16_196 ym_18_197 ym_20_198 ym_22_199 ym_24_200 ym_26_201 f_213 f_212 1 x4_218 x3_216)))))) ∧ (¬ 1 < x3_206 → (((x4_205 ≤ 1 → (¬ (2 : Int32) = 0 ∧ (∀ x3_221 : Int32, x3_221 = (x3_206 + 1) / 2 → (¬ (2 : Int32) = 0 ∧ (∀ x4_223 : Int32, x4_223 = (x4_205 + 1) / 2 → (wp_X4_init_L177_4 post ex177_4 x1 x2 n_207 (upd ym_2_189 y_202.toNatClampNeg y_203) (upd ym_4_190 y_202.toNatClampNeg x3_206) (upd ym_6_191 y_202.toNatClampNeg x4_205) ym_8_192 ym_10_193 ym_12_194 ym_14_195 ym_16_196 ym_18_197 ym_20_198 ym_22_199 ym_24_200 ym_26_201 f_213 f_212 0 x4_223 x3_221)))))) ∧ (¬ x4_205 ≤ 1 → (¬ (2 : Int32) = 0 ∧ (∀ x3_225 : Int32, x3_225 = (x3_206 + 1) / 2 → (¬ (2 : Int32) = 0 ∧ (∀ x4_227 : Int32, x4_227 = (x4_205 + 1) / 2 → (wp_X4_init_L177_4 post ex177_4 x1 x2 n_207 (upd ym_2_189 y_202.toNatClampNeg y_203) (upd ym_4_190 y_202.toNatClampNeg x3_206) (upd ym_6_191 y_202.toNatClampNeg x4_205) ym_8_192 ym_10_193 ym_12_194 ym_14_195 ym_16_196 ym_18_197 ym_20_198 ym_22_199 ym_24_200 ym_26_201 f_213 f_212 1 x4_227 x3_225))))))))))))))))))
def wp_X4_init_L177_5 (post : vMS × vMM → Prop) (ex177_5 : (Nat → Int32) → (Nat → Int32) → (Nat → Int32) → (Nat → Int32) → (Nat → Int32) → (Nat → Int32) → (Nat → Int32) → (Nat → Int32) → (Nat → Int32) → (Nat → Int32) → (Nat → Int32) → (Nat → Int32) → (Nat → Int32) → Int32 → Int32 → Int32 → Int32 → Int32 → Prop) (x1 : Int32) (x2 : Int32) : Nat → (Nat → Int32) → (Nat → Int32) → (Nat → Int32) → (Nat → Int32) → (Nat → Int32) → (Nat → Int32) → (Nat → Int32) → (Nat → Int32) → (Nat → Int32) → (Nat → Int32) → (Nat → Int32) → (Nat → Int32) → (Nat → Int32) → Int32 → Int32 → Int32 → Int32 → Int32 → Prop
  | 0, _, _, _, _, _, _, _, _, _, _, _, _, _, _, _, _, _, _ => False
  | n_246 + 1, ym_2_228, ym_4_229, ym_6_230, ym_8_231, ym_10_232, ym_12_233, ym_14_234, ym_16_235, ym_18_236, ym_20_237, ym_22_238, ym_24_239, ym_26_240, y_241, y_242, x5_243, x4_244, x3_245 => ((x5_243 = 0 → (ex177_5 ym_2_228 ym_4_229 ym_6_230 ym_8_231 ym_10_232 ym_12_233 ym_14_234 ym_16_235 ym_18_236 ym_20_237 ym_22_238 ym_24_239 ym_26_240 y_241 y_242 x5_243 x4_244 x3_245)) ∧ (¬ x5_243 = 0 → (vp_in y_241 8 ∧ (vp_in y_241 8 ∧ (vp_in y_241 8 ∧ (∀ f_251 : Int32, f_251 = y_242 + (x3_245 * x4_244) → (∀ f_252 : Int32, f_252 = y_241 + 1 → (((1 < x3_245 → (¬ (2 : Int32) = 0 ∧ (∀ x3_255 : Int32, x3_255 = (x3_245 + 1) / 2 → (¬ (2 : Int32) = 0 ∧ (∀ x4_257 : Int32, x4_257 = (x4_244 + 1) / 2 → (wp_X4_init_L177_5 post ex177_5 x1 x2 n_246 (upd ym_2_228 y_241.toNatClampNeg y_242) (upd ym_4_229 y_241.toNatClampNeg x3_245) (upd ym_6_230 y_241.toNatClampNeg x4_244) ym_8_231 ym_10_232 ym_12_233 ym_14_234 ym_16_235 ym_18_236 ym_20_237 ym_22_238 ym_24_239 ym_26_240 f_252 f_251 1 x4_257 x3_255)))))) ∧ (¬ 1 < x3_245 → (((x4_244 ≤ 1 → (¬ (2 : Int32) = 0 ∧ (∀ x3_260 : Int32, x3_260 = (x3_245 + 1) / 2 → (¬ (2 : Int32) = 0 ∧ (∀ x4_262 : Int32, x4_262 = (x4_244 + 1) / 2 → (wp_X4_init_L177_5 post ex177_5 x1 x2 n_246 (upd ym_2_228 y_241.toNatClampNeg y_242) (upd ym_4_229 y_241.toNatClampNeg x3_245) (upd ym_6_230 y_241.toNatClampNeg x4_244) ym_8_231 ym_10_232 ym_12_233 ym_14_234 ym_16_235 ym_18_236 ym_20_237 ym_22_238 ym_24_239 ym_26_240 f_252 f_251 0 x4_262 x3_260)))))) ∧ (¬ x4_244 ≤ 1 → (¬ (2 : Int32) = 0 ∧ (∀ x3_264 : Int32, x3_264 = (x3_245 + 1) / 2 → (¬ (2 : Int32) = 0 ∧ (∀ x4_266 : Int32, x4_266 = (x4_244 + 1) / 2 → (wp_X4_init_L177_5 post ex177_5 x1 x2 n_246 (upd ym_2_228 y_241.toNatClampNeg y_242) (upd ym_4_229 y_241.toNatClampNeg x3_245) (upd ym_6_230 y_241.toNatClampNeg x4_244) ym_8_231 ym_10_232 ym_12_233 ym_14_234 ym_16_235 ym_18_236 ym_20_237 ym_22_238 ym_24_239 ym_26_240 f_252 f_251 1 x4_266 x3_264))))))))))))))))))
def wp_X4_init_L177_6 (post : vMS × vMM → Prop) (ex177_6 : (Nat → Int32) → (Nat → Int32) → (Nat → Int32) → (Nat → Int32) → (Nat → Int32) → (Nat → Int32) → (Nat → Int32) → (Nat → Int32) → (Nat → Int32) → (Nat → Int32) → (Nat → Int32) → (Nat → Int32) → (Nat → Int32) → Int32 → Int32 → Int32 → Int32 → Int32 → Prop) (x2 : Int32) (x1 : Int32) : Nat → (Nat → Int32) → (Nat → Int32) → (Nat → Int32) → (Nat → Int32) → (Nat → Int32) → (Nat → Int32) → (Nat → Int32) → (Nat → Int32) → (Nat → Int32) → (Nat → Int32) → (Nat → Int32) → (Nat → Int32) → (Nat → Int32) → Int32 → Int32 → Int32 → Int32 → Int32 → Prop
  | 0, _, _, _, _, _, _, _, _, _, _, _, _, _, _, _, _, _, _ => False
  | n_287 + 1, ym_2_269, ym_4_270, ym_6_271, ym_8_272, ym_10_273, ym_12_274, ym_14_275, ym_16_276, ym_18_277, ym_20_278, ym_22_279, ym_24_280, ym_26_281, y_282, y_283, x5_284, x4_285, x3_286 => ((x5_284 = 0 → (ex177_6 ym_2_269 ym_4_270 ym_6_271 ym_8_272 ym_10_273 ym_12_274 ym_14_275 ym_16_276 ym_18_277 ym_20_278 ym_22_279 ym_24_280 ym_26_281 y_282 y_283 x5_284 x4_285 x3_286)) ∧ (¬ x5_284 = 0 → (vp_in y_282 8 ∧ (vp_in y_282 8 ∧ (vp_in y_282 8 ∧ (∀ f_292 : Int32, f_292 = y_283 + (x3_286 * x4_285) → (∀ f_293 : Int32, f_293 = y_282 + 1 → (((1 < x3_286 → (¬ (2 : Int32) = 0 ∧ (∀ x3_296 : Int32, x3_296 = (x3_286 + 1) / 2 → (¬ (2 : Int32) = 0 ∧ (∀ x4_298 : Int32, x4_298 = (x4_285 + 1) / 2 → (wp_X4_init_L177_6 post ex177_6 x2 x1 n_287 (upd ym_2_269 y_282.toNatClampNeg y_283) (upd ym_4_270 y_282.toNatClampNeg x3_286) (upd ym_6_271 y_282.toNatClampNeg x4_285) ym_8_272 ym_10_273 ym_12_274 ym_14_275 ym_16_276 ym_18_277 ym_20_278 ym_22_279 ym_24_280 ym_26_281 f_293 f_292 1 x4_298 x3_296)))))) ∧ (¬ 1 < x3_286 → (((x4_285 ≤ 1 → (¬ (2 : Int32) = 0 ∧ (∀ x3_301 : Int32, x3_301 = (x3_286 + 1) / 2 → (¬ (2 : Int32) = 0 ∧ (∀ x4_303 : Int32, x4_303 = (x4_285 + 1) / 2 → (wp_X4_init_L177_6 post ex177_6 x2 x1 n_287 (upd ym_2_269 y_282.toNatClampNeg y_283) (upd ym_4_270 y_282.toNatClampNeg x3_286) (upd ym_6_271 y_282.toNatClampNeg x4_285) ym_8_272 ym_10_273 ym_12_274 ym_14_275 ym_16_276 ym_18_277 ym_20_278 ym_22_279 ym_24_280 ym_26_281 f_293 f_292 0 x4_303 x3_301)))))) ∧ (¬ x4_285 ≤ 1 → (¬ (2 : Int32) = 0 ∧ (∀ x3_305 : Int32, x3_305 = (x3_286 + 1) / 2 → (¬ (2 : Int32) = 0 ∧ (∀ x4_307 : Int32, x4_307 = (x4_285 + 1) / 2 → (wp_X4_init_L177_6 post ex177_6 x2 x1 n_287 (upd ym_2_269 y_282.toNatClampNeg y_283) (upd ym_4_270 y_282.toNatClampNeg x3_286) (upd ym_6_271 y_282.toNatClampNeg x4_285) ym_8_272 ym_10_273 ym_12_274 ym_14_275 ym_16_276 ym_18_277 ym_20_278 ym_22_279 ym_24_280 ym_26_281 f_293 f_292 1 x4_307 x3_305))))))))))))))))))
def wp_X4_init_L177_7 (post : vMS × vMM → Prop) (ex177_7 : (Nat → Int32) → (Nat → Int32) → (Nat → Int32) → (Nat → Int32) → (Nat → Int32) → (Nat → Int32) → (Nat → Int32) → (Nat → Int32) → (Nat → Int32) → (Nat → Int32) → (Nat → Int32) → (Nat → Int32) → (Nat → Int32) → Int32 → Int32 → Int32 → Int32 → Int32 → Prop) (x1 : Int32) (x2 : Int32) : Nat → (Nat → Int32) → (Nat → Int32) → (Nat → Int32) → (Nat → Int32) → (Nat → Int32) → (Nat → Int32) → (Nat → Int32) → (Nat → Int32) → (Nat → Int32) → (Nat → Int32) → (Nat → Int32) → (Nat → Int32) → (Nat → Int32) → Int32 → Int32 → Int32 → Int32 → Int32 → Prop
  | 0, _, _, _, _, _, _, _, _, _, _, _, _, _, _, _, _, _, _ => False
  | n_326 + 1, ym_2_308, ym_4_309, ym_6_310, ym_8_311, ym_10_312, ym_12_313, ym_14_314, ym_16_315, ym_18_316, ym_20_317, ym_22_318, ym_24_319, ym_26_320, y_321, y_322, x5_323, x4_324, x3_325 => ((x5_323 = 0 → (ex177_7 ym_2_308 ym_4_309 ym_6_310 ym_8_311 ym_10_312 ym_12_313 ym_14_314 ym_16_315 ym_18_316 ym_20_317 ym_22_318 ym_24_319 ym_26_320 y_321 y_322 x5_323 x4_324 x3_325)) ∧ (¬ x5_323 = 0 → (vp_in y_321 8 ∧ (vp_in y_321 8 ∧ (vp_in y_321 8 ∧ (∀ f_331 : Int32, f_331 = y_322 + (x3_325 * x4_324) → (∀ f_332 : Int32, f_332 = y_321 + 1 → (((1 < x3_325 → (¬ (2 : Int32) = 0 ∧ (∀ x3_335 : Int32, x3_335 = (x3_325 + 1) / 2 → (¬ (2 : Int32) = 0 ∧ (∀ x4_337 : Int32, x4_337 = (x4_324 + 1) / 2 → (wp_X4_init_L177_7 post ex177_7 x1 x2 n_326 (upd ym_2_308 y_321.toNatClampNeg y_322) (upd ym_4_309 y_321.toNatClampNeg x3_325) (upd ym_6_310 y_321.toNatClampNeg x4_324) ym_8_311 ym_10_312 ym_12_313 ym_14_314 ym_16_315 ym_18_316 ym_20_317 ym_22_318 ym_24_319 ym_26_320 f_332 f_331 1 x4_337 x3_335)))))) ∧ (¬ 1 < x3_325 → (((x4_324 ≤ 1 → (¬ (2 : Int32) = 0 ∧ (∀ x3_340 : Int32, x3_340 = (x3_325 + 1) / 2 → (¬ (2 : Int32) = 0 ∧ (∀ x4_342 : Int32, x4_342 = (x4_324 + 1) / 2 → (wp_X4_init_L177_7 post ex177_7 x1 x2 n_326 (upd ym_2_308 y_321.toNatClampNeg y_322) (upd ym_4_309 y_321.toNatClampNeg x3_325) (upd ym_6_310 y_321.toNatClampNeg x4_324) ym_8_311 ym_10_312 ym_12_313 ym_14_314 ym_16_315 ym_18_316 ym_20_317 ym_22_318 ym_24_319 ym_26_320 f_332 f_331 0 x4_342 x3_340)))))) ∧ (¬ x4_324 ≤ 1 → (¬ (2 : Int32) = 0 ∧ (∀ x3_344 : Int32, x3_344 = (x3_325 + 1) / 2 → (¬ (2 : Int32) = 0 ∧ (∀ x4_346 : Int32, x4_346 = (x4_324 + 1) / 2 → (wp_X4_init_L177_7 post ex177_7 x1 x2 n_326 (upd ym_2_308 y_321.toNatClampNeg y_322) (upd ym_4_309 y_321.toNatClampNeg x3_325) (upd ym_6_310 y_321.toNatClampNeg x4_324) ym_8_311 ym_10_312 ym_12_313 ym_14_314 ym_16_315 ym_18_316 ym_20_317 ym_22_318 ym_24_319 ym_26_320 f_332 f_331 1 x4_346 x3_344))))))))))))))))))
def wp_X4_init_L177_8 (post : vMS × vMM → Prop) (ex177_8 : (Nat → Int32) → (Nat → Int32) → (Nat → Int32) → (Nat → Int32) → (Nat → Int32) → (Nat → Int32) → (Nat → Int32) → (Nat → Int32) → (Nat → Int32) → (Nat → Int32) → (Nat → Int32) → (Nat → Int32) → (Nat → Int32) → Int32 → Int32 → Int32 → Int32 → Int32 → Prop) (x1 : Int32) (x2 : Int32) : Nat → (Nat → Int32) → (Nat → Int32) → (Nat → Int32) → (Nat → Int32) → (Nat → Int32) → (Nat → Int32) → (Nat → Int32) → (Nat → Int32) → (Nat → Int32) → (Nat → Int32) → (Nat → Int32) → (Nat → Int32) → (Nat → Int32) → Int32 → Int32 → Int32 → Int32 → Int32 → Prop
  | 0, _, _, _, _, _, _, _, _, _, _, _, _, _, _, _, _, _, _ => False
  | n_365 + 1, ym_2_347, ym_4_348, ym_6_349, ym_8_350, ym_10_351, ym_12_352, ym_14_353, ym_16_354, ym_18_355, ym_20_356, ym_22_357, ym_24_358, ym_26_359, y_360, y_361, x5_362, x4_363, x3_364 => ((x5_362 = 0 → (ex177_8 ym_2_347 ym_4_348 ym_6_349 ym_8_350 ym_10_351 ym_12_352 ym_14_353 ym_16_354 ym_18_355 ym_20_356 ym_22_357 ym_24_358 ym_26_359 y_360 y_361 x5_362 x4_363 x3_364)) ∧ (¬ x5_362 = 0 → (vp_in y_360 8 ∧ (vp_in y_360 8 ∧ (vp_in y_360 8 ∧ (∀ f_370 : Int32, f_370 = y_361 + (x3_364 * x4_363) → (∀ f_371 : Int32, f_371 = y_360 + 1 → (((1 < x3_364 → (¬ (2 : Int32) = 0 ∧ (∀ x3_374 : Int32, x3_374 = (x3_364 + 1) / 2 → (¬ (2 : Int32) = 0 ∧ (∀ x4_376 : Int32, x4_376 = (x4_363 + 1) / 2 → (wp_X4_init_L177_8 post ex177_8 x1 x2 n_365 (upd ym_2_347 y_360.toNatClampNeg y_361) (upd ym_4_348 y_360.toNatClampNeg x3_364) (upd ym_6_349 y_360.toNatClampNeg x4_363) ym_8_350 ym_10_351 ym_12_352 ym_14_353 ym_16_354 ym_18_355 ym_20_356 ym_22_357 ym_24_358 ym_26_359 f_371 f_370 1 x4_376 x3_374)))))) ∧ (¬ 1 < x3_364 → (((x4_363 ≤ 1 → (¬ (2 : Int32) = 0 ∧ (∀ x3_379 : Int32, x3_379 = (x3_364 + 1) / 2 → (¬ (2 : Int32) = 0 ∧ (∀ x4_381 : Int32, x4_381 = (x4_363 + 1) / 2 → (wp_X4_init_L177_8 post ex177_8 x1 x2 n_365 (upd ym_2_347 y_360.toNatClampNeg y_361) (upd ym_4_348 y_360.toNatClampNeg x3_364) (upd ym_6_349 y_360.toNatClampNeg x4_363) ym_8_350 ym_10_351 ym_12_352 ym_14_353 ym_16_354 ym_18_355 ym_20_356 ym_22_357 ym_24_358 ym_26_359 f_371 f_370 0 x4_381 x3_379)))))) ∧ (¬ x4_363 ≤ 1 → (¬ (2 : Int32) = 0 ∧ (∀ x3_383 : Int32, x3_383 = (x3_364 + 1) / 2 → (¬ (2 : Int32) = 0 ∧ (∀ x4_385 : Int32, x4_385 = (x4_363 + 1) / 2 → (wp_X4_init_L177_8 post ex177_8 x1 x2 n_365 (upd ym_2_347 y_360.toNatClampNeg y_361) (upd ym_4_348 y_360.toNatClampNeg x3_364) (upd ym_6_349 y_360.toNatClampNeg x4_363) ym_8_350 ym_10_351 ym_12_352 ym_14_353 ym_16_354 ym_18_355 ym_20_356 ym_22_357 ym_24_358 ym_26_359 f_371 f_370 1 x4_385 x3_383))))))))))))))))))
def wp_X4_init (post : vMS × vMM → Prop) (x1 : Int32) (x2 : Int32) : Prop := ((1 ≤ x1 → (((x1 ≤ 32 → (((1 ≤ x2 → (((x2 ≤ 32 → (∃ n_49 : Nat, wp_X4_init_L177 post (fun (ym_2_31 : (Nat → Int32)) (ym_4_32 : (Nat → Int32)) (ym_6_33 : (Nat → Int32)) (ym_8_34 : (Nat → Int32)) (ym_10_35 : (Nat → Int32)) (ym_12_36 : (Nat → Int32)) (ym_14_37 : (Nat → Int32)) (ym_16_38 : (Nat → Int32)) (ym_18_39 : (Nat → Int32)) (ym_20_40 : (Nat → Int32)) (ym_22_41 : (Nat → Int32)) (ym_24_42 : (Nat → Int32)) (ym_26_43 : (Nat → Int32)) (y_44 : Int32) (y_45 : Int32) (x5_46 : Int32) (x4_47 : Int32) (x3_48 : Int32) => post (((x1, x2, y_44, y_45), ym_2_31, ym_4_32, ym_6_33), (0, ym_8_34, ym_10_35, ym_12_36, (ym_14_37, 0, 0), (ym_16_38, 0, 0), (ym_18_39, ym_20_40, ym_22_41, 0), ym_24_42, ym_26_43))) x1 x2 n_49 (fun _ => 0) (fun _ => 0) (fun _ => 0) (fun _ => 0) (fun _ => 0) (fun _ => 0) (fun _ => 0) (fun _ => 0) (fun _ => 0) (fun _ => 0) (fun _ => 0) (fun _ => 0) (fun _ => 0) 0 0 1 x2 x1)) ∧ (¬ x2 ≤ 32 → (∃ n_88 : Nat, wp_X4_init_L177_1 post (fun (ym_2_70 : (Nat → Int32)) (ym_4_71 : (Nat → Int32)) (ym_6_72 : (Nat → Int32)) (ym_8_73 : (Nat → Int32)) (ym_10_74 : (Nat → Int32)) (ym_12_75 : (Nat → Int32)) (ym_14_76 : (Nat → Int32)) (ym_16_77 : (Nat → Int32)) (ym_18_78 : (Nat → Int32)) (ym_20_79 : (Nat → Int32)) (ym_22_80 : (Nat → Int32)) (ym_24_81 : (Nat → Int32)) (ym_26_82 : (Nat → Int32)) (y_83 : Int32) (y_84 : Int32) (x5_85 : Int32) (x4_86 : Int32) (x3_87 : Int32) => post (((x1, 32, y_83, y_84), ym_2_70, ym_4_71, ym_6_72), (0, ym_8_73, ym_10_74, ym_12_75, (ym_14_76, 0, 0), (ym_16_77, 0, 0), (ym_18_78, ym_20_79, ym_22_80, 0), ym_24_81, ym_26_82))) x1 x2 n_88 (fun _ => 0) (fun _ => 0) (fun _ => 0) (fun _ => 0) (fun _ => 0) (fun _ => 0) (fun _ => 0) (fun _ => 0) (fun _ => 0) (fun _ => 0) (fun _ => 0) (fun _ => 0) (fun _ => 0) 0 0 1 32 x1))))) ∧ (¬ 1 ≤ x2 → (∃ n_127 : Nat, wp_X4_init_L177_2 post (fun (ym_2_109 : (Nat → Int32)) (ym_4_110 : (Nat → Int32)) (ym_6_111 : (Nat → Int32)) (ym_8_112 : (Nat → Int32)) (ym_10_113 : (Nat → Int32)) (ym_12_114 : (Nat → Int32)) (ym_14_115 : (Nat → Int32)) (ym_16_116 : (Nat → Int32)) (ym_18_117 : (Nat → Int32)) (ym_20_118 : (Nat → Int32)) (ym_22_119 : (Nat → Int32)) (ym_24_120 : (Nat → Int32)) (ym_26_121 : (Nat → Int32)) (y_122 : Int32) (y_123 : Int32) (x5_124 : Int32) (x4_125 : Int32) (x3_126 : Int32) => post (((x1, 1, y_122, y_123), ym_2_109, ym_4_110, ym_6_111), (0, ym_8_112, ym_10_113, ym_12_114, (ym_14_115, 0, 0), (ym_16_116, 0, 0), (ym_18_117, ym_20_118, ym_22_119, 0), ym_24_120, ym_26_121))) x1 x2 n_127 (fun _ => 0) (fun _ => 0) (fun _ => 0) (fun _ => 0) (fun _ => 0) (fun _ => 0) (fun _ => 0) (fun _ => 0) (fun _ => 0) (fun _ => 0) (fun _ => 0) (fun _ => 0) (fun _ => 0) 0 0 1 1 x1))))) ∧ (¬ x1 ≤ 32 → (((1 ≤ x2 → (((x2 ≤ 32 → (∃ n_168 : Nat, wp_X4_init_L177_3 post (fun (ym_2_150 : (Nat → Int32)) (ym_4_151 : (Nat → Int32)) (ym_6_152 : (Nat → Int32)) (ym_8_153 : (Nat → Int32)) (ym_10_154 : (Nat → Int32)) (ym_12_155 : (Nat → Int32)) (ym_14_156 : (Nat → Int32)) (ym_16_157 : (Nat → Int32)) (ym_18_158 : (Nat → Int32)) (ym_20_159 : (Nat → Int32)) (ym_22_160 : (Nat → Int32)) (ym_24_161 : (Nat → Int32)) (ym_26_162 : (Nat → Int32)) (y_163 : Int32) (y_164 : Int32) (x5_165 : Int32) (x4_166 : Int32) (x3_167 : Int32) => post (((32, x2, y_163, y_164), ym_2_150, ym_4_151, ym_6_152), (0, ym_8_153, ym_10_154, ym_12_155, (ym_14_156, 0, 0), (ym_16_157, 0, 0), (ym_18_158, ym_20_159, ym_22_160, 0), ym_24_161, ym_26_162))) x2 x1 n_168 (fun _ => 0) (fun _ => 0) (fun _ => 0) (fun _ => 0) (fun _ => 0) (fun _ => 0) (fun _ => 0) (fun _ => 0) (fun _ => 0) (fun _ => 0) (fun _ => 0) (fun _ => 0) (fun _ => 0) 0 0 1 x2 32)) ∧ (¬ x2 ≤ 32 → (∃ n_207 : Nat, wp_X4_init_L177_4 post (fun (ym_2_189 : (Nat → Int32)) (ym_4_190 : (Nat → Int32)) (ym_6_191 : (Nat → Int32)) (ym_8_192 : (Nat → Int32)) (ym_10_193 : (Nat → Int32)) (ym_12_194 : (Nat → Int32)) (ym_14_195 : (Nat → Int32)) (ym_16_196 : (Nat → Int32)) (ym_18_197 : (Nat → Int32)) (ym_20_198 : (Nat → Int32)) (ym_22_199 : (Nat → Int32)) (ym_24_200 : (Nat → Int32)) (ym_26_201 : (Nat → Int32)) (y_202 : Int32) (y_203 : Int32) (x5_204 : Int32) (x4_205 : Int32) (x3_206 : Int32) => post (((32, 32, y_202, y_203), ym_2_189, ym_4_190, ym_6_191), (0, ym_8_192, ym_10_193, ym_12_194, (ym_14_195, 0, 0), (ym_16_196, 0, 0), (ym_18_197, ym_20_198, ym_22_199, 0), ym_24_200, ym_26_201))) x1 x2 n_207 (fun _ => 0) (fun _ => 0) (fun _ => 0) (fun _ => 0) (fun _ => 0) (fun _ => 0) (fun _ => 0) (fun _ => 0) (fun _ => 0) (fun _ => 0) (fun _ => 0) (fun _ => 0) (fun _ => 0) 0 0 1 32 32))))) ∧ (¬ 1 ≤ x2 → (∃ n_246 : Nat, wp_X4_init_L177_5 post (fun (ym_2_228 : (Nat → Int32)) (ym_4_229 : (Nat → Int32)) (ym_6_230 : (Nat → Int32)) (ym_8_231 : (Nat → Int32)) (ym_10_232 : (Nat → Int32)) (ym_12_233 : (Nat → Int32)) (ym_14_234 : (Nat → Int32)) (ym_16_235 : (Nat → Int32)) (ym_18_236 : (Nat → Int32)) (ym_20_237 : (Nat → Int32)) (ym_22_238 : (Nat → Int32)) (ym_24_239 : (Nat → Int32)) (ym_26_240 : (Nat → Int32)) (y_241 : Int32) (y_242 : Int32) (x5_243 : Int32) (x4_244 : Int32) (x3_245 : Int32) => post (((32, 1, y_241, y_242), ym_2_228, ym_4_229, ym_6_230), (0, ym_8_231, ym_10_232, ym_12_233, (ym_14_234, 0, 0), (ym_16_235, 0, 0), (ym_18_236, ym_20_237, ym_22_238, 0), ym_24_239, ym_26_240))) x1 x2 n_246 (fun _ => 0) (fun _ => 0) (fun _ => 0) (fun _ => 0) (fun _ => 0) (fun _ => 0) (fun _ => 0) (fun _ => 0) (fun _ => 0) (fun _ => 0) (fun _ => 0) (fun _ => 0) (fun _ => 0) 0 0 1 1 32)))))))) ∧ (¬ 1 ≤ x1 → (((1 ≤ x2 → (((x2 ≤ 32 → (∃ n_287 : Nat, wp_X4_init_L177_6 post (fun (ym_2_269 : (Nat → Int32)) (ym_4_270 : (Nat → Int32)) (ym_6_271 : (Nat → Int32)) (ym_8_272 : (Nat → Int32)) (ym_10_273 : (Nat → Int32)) (ym_12_274 : (Nat → Int32)) (ym_14_275 : (Nat → Int32)) (ym_16_276 : (Nat → Int32)) (ym_18_277 : (Nat → Int32)) (ym_20_278 : (Nat → Int32)) (ym_22_279 : (Nat → Int32)) (ym_24_280 : (Nat → Int32)) (ym_26_281 : (Nat → Int32)) (y_282 : Int32) (y_283 : Int32) (x5_284 : Int32) (x4_285 : Int32) (x3_286 : Int32) => post (((1, x2, y_282, y_283), ym_2_269, ym_4_270, ym_6_271), (0, ym_8_272, ym_10_273, ym_12_274, (ym_14_275, 0, 0), (ym_16_276, 0, 0), (ym_18_277, ym_20_278, ym_22_279, 0), ym_24_280, ym_26_281))) x2 x1 n_287 (fun _ => 0) (fun _ => 0) (fun _ => 0) (fun _ => 0) (fun _ => 0) (fun _ => 0) (fun _ => 0) (fun _ => 0) (fun _ => 0) (fun _ => 0) (fun _ => 0) (fun _ => 0) (fun _ => 0) 0 0 1 x2 1)) ∧ (¬ x2 ≤ 32 → (∃ n_326 : Nat, wp_X4_init_L177_7 post (fun (ym_2_308 : (Nat → Int32)) (ym_4_309 : (Nat → Int32)) (ym_6_310 : (Nat → Int32)) (ym_8_311 : (Nat → Int32)) (ym_10_312 : (Nat → Int32)) (ym_12_313 : (Nat → Int32)) (ym_14_314 : (Nat → Int32)) (ym_16_315 : (Nat → Int32)) (ym_18_316 : (Nat → Int32)) (ym_20_317 : (Nat → Int32)) (ym_22_318 : (Nat → Int32)) (ym_24_319 : (Nat → Int32)) (ym_26_320 : (Nat → Int32)) (y_321 : Int32) (y_322 : Int32) (x5_323 : Int32) (x4_324 : Int32) (x3_325 : Int32) => post (((1, 32, y_321, y_322), ym_2_308, ym_4_309, ym_6_310), (0, ym_8_311, ym_10_312, ym_12_313, (ym_14_314, 0, 0), (ym_16_315, 0, 0), (ym_18_316, ym_20_317, ym_22_318, 0), ym_24_319, ym_26_320))) x1 x2 n_326 (fun _ => 0) (fun _ => 0) (fun _ => 0) (fun _ => 0) (fun _ => 0) (fun _ => 0) (fun _ => 0) (fun _ => 0) (fun _ => 0) (fun _ => 0) (fun _ => 0) (fun _ => 0) (fun _ => 0) 0 0 1 32 1))))) ∧ (¬ 1 ≤ x2 → (∃ n_365 : Nat, wp_X4_init_L177_8 post (fun (ym_2_347 : (Nat → Int32)) (ym_4_348 : (Nat → Int32)) (ym_6_349 : (Nat → Int32)) (ym_8_350 : (Nat → Int32)) (ym_10_351 : (Nat → Int32)) (ym_12_352 : (Nat → Int32)) (ym_14_353 : (Nat → Int32)) (ym_16_354 : (Nat → Int32)) (ym_18_355 : (Nat → Int32)) (ym_20_356 : (Nat → Int32)) (ym_22_357 : (Nat → Int32)) (ym_24_358 : (Nat → Int32)) (ym_26_359 : (Nat → Int32)) (y_360 : Int32) (y_361 : Int32) (x5_362 : Int32) (x4_363 : Int32) (x3_364 : Int32) => post (((1, 1, y_360, y_361), ym_2_347, ym_4_348, ym_6_349), (0, ym_8_350, ym_10_351, ym_12_352, (ym_14_353, 0, 0), (ym_16_354, 0, 0), (ym_18_355, ym_20_356, ym_22_357, 0), ym_24_358, ym_26_359))) x1 x2 n_365 (fun _ => 0) (fun _ => 0) (fun _ => 0) (fun _ => 0) (fun _ => 0) (fun _ => 0) (fun _ => 0) (fun _ => 0) (fun _ => 0) (fun _ => 0) (fun _ => 0) (fun _ => 0) (fun _ => 0) 0 0 1 1 1))))))
abbrev rm_X4_init : Room := { frames := 1, cells := 13, slots := 89848, locals := 12 }
set_option maxHeartbeats 4000000 in
set_option maxRecDepth 100000 in
theorem met_X4_init (l : Launch) (dC : Nat → ClassId) (dI : Nat → Nat → Nat) (cI cZ cJ cL : ClassId) (a0 : Nat) (sz : Nat) (post : vMS × vMM → Prop) (x1 : Int32) (x2 : Int32) (hw : wp_X4_init post x1 x2) : Met l yX4_init wsX4_init rm_X4_init (pcW (dC, dI) (tysA cI cZ cJ cL) [(a0, .inr (4, [.int 0, .int 0, .int 0, .int 0, .null, .null, .null, .int 0, .null, .null, .null, .null, .int 0, .int 0, .null, .int 0, .int 0, .null, .null, .null, .int 0, .null, .null]))] sz [.ref a0, .int x1, .int x2]) (va_Qv post (fun (u : vMS × vMM) t => ∃ (am : Nat → Nat), am 0 = a0 ∧ qB (dC, dI) (tysA cI cZ cJ cL) (va_A [(a0, .inr (4, [.int 0, .int 0, .int 0, .int 0, .null, .null, .null, .int 0, .null, .null, .null, .null, .int 0, .int 0, .null, .int 0, .int 0, .null, .null, .null, .int 0, .null, .null]))] sz) (wMM cI cZ am u.1 u.2) t) (va_A [(a0, .inr (4, [.int 0, .int 0, .int 0, .int 0, .null, .null, .null, .int 0, .null, .null, .null, .null, .int 0, .int 0, .null, .int 0, .int 0, .null, .null, .null, .int 0, .null, .null]))] sz)) 13 89848 (va_A [(a0, .inr (4, [.int 0, .int 0, .int 0, .int 0, .null, .null, .null, .int 0, .null, .null, .null, .null, .int 0, .int 0, .null, .int 0, .int 0, .null, .null, .null, .int 0, .null, .null]))] sz) := by
  refine Met.ofW (cc := cX4_init) (maxL := 6) (ret := none) (by decide) rfl ?_
  intro p e s m args below meth c s₁ Bd hml hv
  obtain ⟨hargs, hsz, hP, hK, hD0⟩ := hv
  have hx := Bd.exec
  have hb := Bd.bytes
  have hr := Bd.returns
  have hts := atoms_spec (ws := wsX4_init) Bd.pre
  have hT : ∀ w ∈ WALL, w.before args s = true := fun w h => hts w (List.mem_cons_of_mem _ h)
  have hown : s.vm.findClass RX4 = some m.cls := findClass_of_methodNamed Bd.named
  have hlocks := Bd.notSynchronized
  have hin : meth.name = "<init>" := (name_of_methodNamed Bd.named Bd.method).1
  subst hsz
  have hD := hD0.self (sz := s.heap.size)
  generalize hAe : va_A [(a0, .inr (4, [.int 0, .int 0, .int 0, .int 0, .null, .null, .null, .int 0, .null, .null, .null, .null, .int 0, .int 0, .null, .int 0, .int 0, .null, .null, .null, .int 0, .null, .null]))] s.heap.size = A at hD ⊢
  have hA : ∀ q : Nat, s.heap.size ≤ q → A q := fun q h => by rw [← hAe]; exact Or.inr h
  have hS : va_S A s.heap s.heap [] := va_S.rf
  have hP : va_P (dC, dI) vwCl [(a0, .inr (4, [.int 0, .int 0, .int 0, .int 0, .null, .null, .null, .int 0, .null, .null, .null, .null, .int 0, .int 0, .null, .int 0, .int 0, .null, .null, .null, .int 0, .null, .null]))] s.heap := hP
  have hl := lv_entry ([.ref a0, .int x1, .int x2]) (n := 6) (Nat.le_of_ble_eq_true rfl)
  rw [show entryFrame m args 6 = F0 m 0 _ [] from by rw [hargs]; exact lg_entry_eq m ([.ref a0, .int x1, .int x2]) 6]
  generalize (lg_sl ([.ref a0, .int x1, .int x2]) ++ List.replicate (6 - (lg_sl ([.ref a0, .int x1, .int x2])).length) Slot.unset).toArray = ls at hl ⊢
  have hl : lv_has ls 6 [(0, .ref a0), (1, .int x1), (2, .int x2)] := hl
  obtain ⟨H, hH⟩ : ∃ z : Heap, z = s.heap := ⟨_, rfl⟩
  obtain ⟨locs, hlocs⟩ : ∃ z : List Loc, z = [] := ⟨_, rfl⟩
  rw [show W p l e (headSpec wsX4_init rm_X4_init).room s m args below meth c s.heap [] 0 0 = W p l e (headSpec wsX4_init rm_X4_init).room s m args below meth c H locs 0 0 from by rw [hH, hlocs]]
  have hP : va_P (dC, dI) vwCl [(a0, .inr (4, [.int 0, .int 0, .int 0, .int 0, .null, .null, .null, .int 0, .null, .null, .null, .null, .int 0, .int 0, .null, .int 0, .int 0, .null, .null, .null, .int 0, .null, .null]))] H := by rw [hH]; exact hP
  have hS : va_S A s.heap H locs := by rw [hH, hlocs]; exact hS
  unfold wp_X4_init at hw
  refine lv_aload_n hx hb dX4_init_0 rfl (lv_at hl 0 rfl) ?_
  refine W.objInit hx hb hown (hT _ k_158) (hT _ k_159) (hT _ k_160) rfl (by rw [hml]; exact hl.1) rfl dX4_init_1 (Nat.le_of_ble_eq_true rfl) (Nat.le_of_ble_eq_true rfl) ?_
  refine W.eq (g2 := F0 m 4 ls []) rfl ?_
  refine lv_aload_n hx hb dX4_init_4 rfl (lv_at hl 0 rfl) ?_
  refine lv_bipush (v := 8) hx hb dX4_init_5 (by decide) ?_
  refine va_newa (atype := .int) (N' := 8) (a0 := (8, .inl (fun _ => 0))) (ty := .int) (n := 8) hx hb (hT _ k_161) rfl hK hP hD hS hA (fun _ => rfl) (by decide) (by decide) (by decide) (Nat.le_of_ble_eq_true rfl) (Nat.le_of_ble_eq_true rfl) dX4_init_7 (fun q_1 cA9 H hK9 hP hD hS => ?_)
  rw [cA_eq hK9 0 rfl 4 rfl] at hP hD
  have hP : va_P (dC, dI) vwCl ([(a0, .inr (4, [.int 0, .int 0, .int 0, .int 0, .null, .null, .null, .int 0, .null, .null, .null, .null, .int 0, .int 0, .null, .int 0, .int 0, .null, .null, .null, .int 0, .null, .null])), (q_1, .inl (cI, 8, .inl (fun _ => 0)))]) H := hP
  have hD : va_D A ([(a0, .inr (4, [.int 0, .int 0, .int 0, .int 0, .null, .null, .null, .int 0, .null, .null, .null, .null, .int 0, .int 0, .null, .int 0, .int 0, .null, .null, .null, .int 0, .null, .null])), (q_1, .inl (cI, 8, .inl (fun _ => 0)))]) := hD
  refine W.widen (k := 1) (n := 8) (Nat.le_of_ble_eq_true rfl) (Nat.le_of_ble_eq_true rfl) ?_
  refine va_putF (D := (dC, dI)) (ci := 4) (v := .ref q_1) (ty := (.array .int)) (C := RX4) (T := TX4) (N := 23) hx hb hT inX4 tyX4 tyX4_ok nmX4 hown hK hP hD hS 0 rfl rfl 4 (by decide) (hT _ k_162) (fun _ h9 => h9) rfl hin rfl (by decide +kernel) rfl rfl (Nat.le_of_ble_eq_true rfl) dX4_init_9 (fun H locs hP hD hS => ?_)
  have hP : va_P (dC, dI) vwCl ([(a0, .inr (4, [.int 0, .int 0, .int 0, .int 0, .ref q_1, .null, .null, .int 0, .null, .null, .null, .null, .int 0, .int 0, .null, .int 0, .int 0, .null, .null, .null, .int 0, .null, .null])), (q_1, .inl (cI, 8, .inl (fun _ => 0)))]) H := hP
  have hD : va_D A ([(a0, .inr (4, [.int 0, .int 0, .int 0, .int 0, .ref q_1, .null, .null, .int 0, .null, .null, .null, .null, .int 0, .int 0, .null, .int 0, .int 0, .null, .null, .null, .int 0, .null, .null])), (q_1, .inl (cI, 8, .inl (fun _ => 0)))]) := hD
  refine lv_aload_n hx hb dX4_init_12 rfl (lv_at hl 0 rfl) ?_
  refine lv_bipush (v := 8) hx hb dX4_init_13 (by decide) ?_
  refine va_newa (atype := .int) (N' := 8) (a0 := (8, .inl (fun _ => 0))) (ty := .int) (n := 8) hx hb (hT _ k_161) rfl hK hP hD hS hA (fun _ => rfl) (by decide) (by decide) (by decide) (Nat.le_of_ble_eq_true rfl) (Nat.le_of_ble_eq_true rfl) dX4_init_15 (fun q_3 cA9 H hK9 hP hD hS => ?_)
  rw [cA_eq hK9 0 rfl 4 rfl] at hP hD
  have hP : va_P (dC, dI) vwCl ([(a0, .inr (4, [.int 0, .int 0, .int 0, .int 0, .ref q_1, .null, .null, .int 0, .null, .null, .null, .null, .int 0, .int 0, .null, .int 0, .int 0, .null, .null, .null, .int 0, .null, .null])), (q_1, .inl (cI, 8, .inl (fun _ => 0))), (q_3, .inl (cI, 8, .inl (fun _ => 0)))]) H := hP
  have hD : va_D A ([(a0, .inr (4, [.int 0, .int 0, .int 0, .int 0, .ref q_1, .null, .null, .int 0, .null, .null, .null, .null, .int 0, .int 0, .null, .int 0, .int 0, .null, .null, .null, .int 0, .null, .null])), (q_1, .inl (cI, 8, .inl (fun _ => 0))), (q_3, .inl (cI, 8, .inl (fun _ => 0)))]) := hD
  refine W.widen (k := 2) (n := 16) (Nat.le_of_ble_eq_true rfl) (Nat.le_of_ble_eq_true rfl) ?_
  refine va_putF (D := (dC, dI)) (ci := 4) (v := .ref q_3) (ty := (.array .int)) (C := RX4) (T := TX4) (N := 23) hx hb hT inX4 tyX4 tyX4_ok nmX4 hown hK hP hD hS 0 rfl rfl 5 (by decide) (hT _ k_163) (fun _ h9 => h9) rfl hin rfl (by decide +kernel) rfl rfl (Nat.le_of_ble_eq_true rfl) dX4_init_17 (fun H locs hP hD hS => ?_)
  have hP : va_P (dC, dI) vwCl ([(a0, .inr (4, [.int 0, .int 0, .int 0, .int 0, .ref q_1, .ref q_3, .null, .int 0, .null, .null, .null, .null, .int 0, .int 0, .null, .int 0, .int 0, .null, .null, .null, .int 0, .null, .null])), (q_1, .inl (cI, 8, .inl (fun _ => 0))), (q_3, .inl (cI, 8, .inl (fun _ => 0)))]) H := hP
  have hD : va_D A ([(a0, .inr (4, [.int 0, .int 0, .int 0, .int 0, .ref q_1, .ref q_3, .null, .int 0, .null, .null, .null, .null, .int 0, .int 0, .null, .int 0, .int 0, .null, .null, .null, .int 0, .null, .null])), (q_1, .inl (cI, 8, .inl (fun _ => 0))), (q_3, .inl (cI, 8, .inl (fun _ => 0)))]) := hD
  refine lv_aload_n hx hb dX4_init_20 rfl (lv_at hl 0 rfl) ?_
  refine lv_bipush (v := 8) hx hb dX4_init_21 (by decide) ?_
  refine va_newa (atype := .int) (N' := 8) (a0 := (8, .inl (fun _ => 0))) (ty := .int) (n := 8) hx hb (hT _ k_161) rfl hK hP hD hS hA (fun _ => rfl) (by decide) (by decide) (by decide) (Nat.le_of_ble_eq_true rfl) (Nat.le_of_ble_eq_true rfl) dX4_init_23 (fun q_5 cA9 H hK9 hP hD hS => ?_)
  rw [cA_eq hK9 0 rfl 4 rfl] at hP hD
  have hP : va_P (dC, dI) vwCl ([(a0, .inr (4, [.int 0, .int 0, .int 0, .int 0, .ref q_1, .ref q_3, .null, .int 0, .null, .null, .null, .null, .int 0, .int 0, .null, .int 0, .int 0, .null, .null, .null, .int 0, .null, .null])), (q_1, .inl (cI, 8, .inl (fun _ => 0))), (q_3, .inl (cI, 8, .inl (fun _ => 0))), (q_5, .inl (cI, 8, .inl (fun _ => 0)))]) H := hP
  have hD : va_D A ([(a0, .inr (4, [.int 0, .int 0, .int 0, .int 0, .ref q_1, .ref q_3, .null, .int 0, .null, .null, .null, .null, .int 0, .int 0, .null, .int 0, .int 0, .null, .null, .null, .int 0, .null, .null])), (q_1, .inl (cI, 8, .inl (fun _ => 0))), (q_3, .inl (cI, 8, .inl (fun _ => 0))), (q_5, .inl (cI, 8, .inl (fun _ => 0)))]) := hD
  refine W.widen (k := 3) (n := 24) (Nat.le_of_ble_eq_true rfl) (Nat.le_of_ble_eq_true rfl) ?_
  refine va_putF (D := (dC, dI)) (ci := 4) (v := .ref q_5) (ty := (.array .int)) (C := RX4) (T := TX4) (N := 23) hx hb hT inX4 tyX4 tyX4_ok nmX4 hown hK hP hD hS 0 rfl rfl 6 (by decide) (hT _ k_164) (fun _ h9 => h9) rfl hin rfl (by decide +kernel) rfl rfl (Nat.le_of_ble_eq_true rfl) dX4_init_25 (fun H locs hP hD hS => ?_)
  have hP : va_P (dC, dI) vwCl ([(a0, .inr (4, [.int 0, .int 0, .int 0, .int 0, .ref q_1, .ref q_3, .ref q_5, .int 0, .null, .null, .null, .null, .int 0, .int 0, .null, .int 0, .int 0, .null, .null, .null, .int 0, .null, .null])), (q_1, .inl (cI, 8, .inl (fun _ => 0))), (q_3, .inl (cI, 8, .inl (fun _ => 0))), (q_5, .inl (cI, 8, .inl (fun _ => 0)))]) H := hP
  have hD : va_D A ([(a0, .inr (4, [.int 0, .int 0, .int 0, .int 0, .ref q_1, .ref q_3, .ref q_5, .int 0, .null, .null, .null, .null, .int 0, .int 0, .null, .int 0, .int 0, .null, .null, .null, .int 0, .null, .null])), (q_1, .inl (cI, 8, .inl (fun _ => 0))), (q_3, .inl (cI, 8, .inl (fun _ => 0))), (q_5, .inl (cI, 8, .inl (fun _ => 0)))]) := hD
  refine lv_aload_n hx hb dX4_init_28 rfl (lv_at hl 0 rfl) ?_
  refine lv_sipush (v := 1400) hx hb dX4_init_29 (by decide) ?_
  refine va_newa (atype := .int) (N' := 1400) (a0 := (1400, .inl (fun _ => 0))) (ty := .int) (n := 1400) hx hb (hT _ k_161) rfl hK hP hD hS hA (fun _ => rfl) (by decide) (by decide) (by decide) (Nat.le_of_ble_eq_true rfl) (Nat.le_of_ble_eq_true rfl) dX4_init_32 (fun q_7 cA9 H hK9 hP hD hS => ?_)
  rw [cA_eq hK9 0 rfl 4 rfl] at hP hD
  have hP : va_P (dC, dI) vwCl ([(a0, .inr (4, [.int 0, .int 0, .int 0, .int 0, .ref q_1, .ref q_3, .ref q_5, .int 0, .null, .null, .null, .null, .int 0, .int 0, .null, .int 0, .int 0, .null, .null, .null, .int 0, .null, .null])), (q_1, .inl (cI, 8, .inl (fun _ => 0))), (q_3, .inl (cI, 8, .inl (fun _ => 0))), (q_5, .inl (cI, 8, .inl (fun _ => 0))), (q_7, .inl (cI, 1400, .inl (fun _ => 0)))]) H := hP
  have hD : va_D A ([(a0, .inr (4, [.int 0, .int 0, .int 0, .int 0, .ref q_1, .ref q_3, .ref q_5, .int 0, .null, .null, .null, .null, .int 0, .int 0, .null, .int 0, .int 0, .null, .null, .null, .int 0, .null, .null])), (q_1, .inl (cI, 8, .inl (fun _ => 0))), (q_3, .inl (cI, 8, .inl (fun _ => 0))), (q_5, .inl (cI, 8, .inl (fun _ => 0))), (q_7, .inl (cI, 1400, .inl (fun _ => 0)))]) := hD
  refine W.widen (k := 4) (n := 1424) (Nat.le_of_ble_eq_true rfl) (Nat.le_of_ble_eq_true rfl) ?_
  refine va_putF (D := (dC, dI)) (ci := 4) (v := .ref q_7) (ty := (.array .int)) (C := RX4) (T := TX4) (N := 23) hx hb hT inX4 tyX4 tyX4_ok nmX4 hown hK hP hD hS 0 rfl rfl 8 (by decide) (hT _ k_165) (fun _ h9 => h9) rfl hin rfl (by decide +kernel) rfl rfl (Nat.le_of_ble_eq_true rfl) dX4_init_34 (fun H locs hP hD hS => ?_)
  have hP : va_P (dC, dI) vwCl ([(a0, .inr (4, [.int 0, .int 0, .int 0, .int 0, .ref q_1, .ref q_3, .ref q_5, .int 0, .ref q_7, .null, .null, .null, .int 0, .int 0, .null, .int 0, .int 0, .null, .null, .null, .int 0, .null, .null])), (q_1, .inl (cI, 8, .inl (fun _ => 0))), (q_3, .inl (cI, 8, .inl (fun _ => 0))), (q_5, .inl (cI, 8, .inl (fun _ => 0))), (q_7, .inl (cI, 1400, .inl (fun _ => 0)))]) H := hP
  have hD : va_D A ([(a0, .inr (4, [.int 0, .int 0, .int 0, .int 0, .ref q_1, .ref q_3, .ref q_5, .int 0, .ref q_7, .null, .null, .null, .int 0, .int 0, .null, .int 0, .int 0, .null, .null, .null, .int 0, .null, .null])), (q_1, .inl (cI, 8, .inl (fun _ => 0))), (q_3, .inl (cI, 8, .inl (fun _ => 0))), (q_5, .inl (cI, 8, .inl (fun _ => 0))), (q_7, .inl (cI, 1400, .inl (fun _ => 0)))]) := hD
  refine lv_aload_n hx hb dX4_init_37 rfl (lv_at hl 0 rfl) ?_
  refine lv_sipush (v := 2800) hx hb dX4_init_38 (by decide) ?_
  refine va_newa (atype := .int) (N' := 2800) (a0 := (2800, .inl (fun _ => 0))) (ty := .int) (n := 2800) hx hb (hT _ k_161) rfl hK hP hD hS hA (fun _ => rfl) (by decide) (by decide) (by decide) (Nat.le_of_ble_eq_true rfl) (Nat.le_of_ble_eq_true rfl) dX4_init_41 (fun q_9 cA9 H hK9 hP hD hS => ?_)
  rw [cA_eq hK9 0 rfl 4 rfl] at hP hD
  have hP : va_P (dC, dI) vwCl ([(a0, .inr (4, [.int 0, .int 0, .int 0, .int 0, .ref q_1, .ref q_3, .ref q_5, .int 0, .ref q_7, .null, .null, .null, .int 0, .int 0, .null, .int 0, .int 0, .null, .null, .null, .int 0, .null, .null])), (q_1, .inl (cI, 8, .inl (fun _ => 0))), (q_3, .inl (cI, 8, .inl (fun _ => 0))), (q_5, .inl (cI, 8, .inl (fun _ => 0))), (q_7, .inl (cI, 1400, .inl (fun _ => 0))), (q_9, .inl (cI, 2800, .inl (fun _ => 0)))]) H := hP
  have hD : va_D A ([(a0, .inr (4, [.int 0, .int 0, .int 0, .int 0, .ref q_1, .ref q_3, .ref q_5, .int 0, .ref q_7, .null, .null, .null, .int 0, .int 0, .null, .int 0, .int 0, .null, .null, .null, .int 0, .null, .null])), (q_1, .inl (cI, 8, .inl (fun _ => 0))), (q_3, .inl (cI, 8, .inl (fun _ => 0))), (q_5, .inl (cI, 8, .inl (fun _ => 0))), (q_7, .inl (cI, 1400, .inl (fun _ => 0))), (q_9, .inl (cI, 2800, .inl (fun _ => 0)))]) := hD
  refine W.widen (k := 5) (n := 4224) (Nat.le_of_ble_eq_true rfl) (Nat.le_of_ble_eq_true rfl) ?_
  refine va_putF (D := (dC, dI)) (ci := 4) (v := .ref q_9) (ty := (.array .int)) (C := RX4) (T := TX4) (N := 23) hx hb hT inX4 tyX4 tyX4_ok nmX4 hown hK hP hD hS 0 rfl rfl 9 (by decide) (hT _ k_166) (fun _ h9 => h9) rfl hin rfl (by decide +kernel) rfl rfl (Nat.le_of_ble_eq_true rfl) dX4_init_43 (fun H locs hP hD hS => ?_)
  have hP : va_P (dC, dI) vwCl ([(a0, .inr (4, [.int 0, .int 0, .int 0, .int 0, .ref q_1, .ref q_3, .ref q_5, .int 0, .ref q_7, .ref q_9, .null, .null, .int 0, .int 0, .null, .int 0, .int 0, .null, .null, .null, .int 0, .null, .null])), (q_1, .inl (cI, 8, .inl (fun _ => 0))), (q_3, .inl (cI, 8, .inl (fun _ => 0))), (q_5, .inl (cI, 8, .inl (fun _ => 0))), (q_7, .inl (cI, 1400, .inl (fun _ => 0))), (q_9, .inl (cI, 2800, .inl (fun _ => 0)))]) H := hP
  have hD : va_D A ([(a0, .inr (4, [.int 0, .int 0, .int 0, .int 0, .ref q_1, .ref q_3, .ref q_5, .int 0, .ref q_7, .ref q_9, .null, .null, .int 0, .int 0, .null, .int 0, .int 0, .null, .null, .null, .int 0, .null, .null])), (q_1, .inl (cI, 8, .inl (fun _ => 0))), (q_3, .inl (cI, 8, .inl (fun _ => 0))), (q_5, .inl (cI, 8, .inl (fun _ => 0))), (q_7, .inl (cI, 1400, .inl (fun _ => 0))), (q_9, .inl (cI, 2800, .inl (fun _ => 0)))]) := hD
  refine lv_aload_n hx hb dX4_init_46 rfl (lv_at hl 0 rfl) ?_
  refine lv_sipush (v := 2800) hx hb dX4_init_47 (by decide) ?_
  refine va_newa (atype := .boolean) (N' := 2800) (a0 := (2800, .inl (fun _ => 0))) (ty := .boolean) (n := 2800) hx hb (hT _ k_167) rfl hK hP hD hS hA (fun _ => rfl) (by decide) (by decide) (by decide) (Nat.le_of_ble_eq_true rfl) (Nat.le_of_ble_eq_true rfl) dX4_init_50 (fun q_11 cA9 H hK9 hP hD hS => ?_)
  rw [cA_eq hK9 1 rfl 4 rfl] at hP hD
  have hP : va_P (dC, dI) vwCl ([(a0, .inr (4, [.int 0, .int 0, .int 0, .int 0, .ref q_1, .ref q_3, .ref q_5, .int 0, .ref q_7, .ref q_9, .null, .null, .int 0, .int 0, .null, .int 0, .int 0, .null, .null, .null, .int 0, .null, .null])), (q_1, .inl (cI, 8, .inl (fun _ => 0))), (q_3, .inl (cI, 8, .inl (fun _ => 0))), (q_5, .inl (cI, 8, .inl (fun _ => 0))), (q_7, .inl (cI, 1400, .inl (fun _ => 0))), (q_9, .inl (cI, 2800, .inl (fun _ => 0))), (q_11, .inl (cZ, 2800, .inl (fun _ => 0)))]) H := hP
  have hD : va_D A ([(a0, .inr (4, [.int 0, .int 0, .int 0, .int 0, .ref q_1, .ref q_3, .ref q_5, .int 0, .ref q_7, .ref q_9, .null, .null, .int 0, .int 0, .null, .int 0, .int 0, .null, .null, .null, .int 0, .null, .null])), (q_1, .inl (cI, 8, .inl (fun _ => 0))), (q_3, .inl (cI, 8, .inl (fun _ => 0))), (q_5, .inl (cI, 8, .inl (fun _ => 0))), (q_7, .inl (cI, 1400, .inl (fun _ => 0))), (q_9, .inl (cI, 2800, .inl (fun _ => 0))), (q_11, .inl (cZ, 2800, .inl (fun _ => 0)))]) := hD
  refine W.widen (k := 6) (n := 7024) (Nat.le_of_ble_eq_true rfl) (Nat.le_of_ble_eq_true rfl) ?_
  refine va_putF (D := (dC, dI)) (ci := 4) (v := .ref q_11) (ty := (.array .boolean)) (C := RX4) (T := TX4) (N := 23) hx hb hT inX4 tyX4 tyX4_ok nmX4 hown hK hP hD hS 0 rfl rfl 10 (by decide) (hT _ k_168) (fun _ h9 => h9) rfl hin rfl (by decide +kernel) rfl rfl (Nat.le_of_ble_eq_true rfl) dX4_init_52 (fun H locs hP hD hS => ?_)
  have hP : va_P (dC, dI) vwCl ([(a0, .inr (4, [.int 0, .int 0, .int 0, .int 0, .ref q_1, .ref q_3, .ref q_5, .int 0, .ref q_7, .ref q_9, .ref q_11, .null, .int 0, .int 0, .null, .int 0, .int 0, .null, .null, .null, .int 0, .null, .null])), (q_1, .inl (cI, 8, .inl (fun _ => 0))), (q_3, .inl (cI, 8, .inl (fun _ => 0))), (q_5, .inl (cI, 8, .inl (fun _ => 0))), (q_7, .inl (cI, 1400, .inl (fun _ => 0))), (q_9, .inl (cI, 2800, .inl (fun _ => 0))), (q_11, .inl (cZ, 2800, .inl (fun _ => 0)))]) H := hP
  have hD : va_D A ([(a0, .inr (4, [.int 0, .int 0, .int 0, .int 0, .ref q_1, .ref q_3, .ref q_5, .int 0, .ref q_7, .ref q_9, .ref q_11, .null, .int 0, .int 0, .null, .int 0, .int 0, .null, .null, .null, .int 0, .null, .null])), (q_1, .inl (cI, 8, .inl (fun _ => 0))), (q_3, .inl (cI, 8, .inl (fun _ => 0))), (q_5, .inl (cI, 8, .inl (fun _ => 0))), (q_7, .inl (cI, 1400, .inl (fun _ => 0))), (q_9, .inl (cI, 2800, .inl (fun _ => 0))), (q_11, .inl (cZ, 2800, .inl (fun _ => 0)))]) := hD
  refine lv_aload_n hx hb dX4_init_55 rfl (lv_at hl 0 rfl) ?_
  refine lv_ldc hx hb hown (hT _ k_169) dX4_init_56 ?_
  refine va_newa (atype := .boolean) (N' := 40000) (a0 := (40000, .inl (fun _ => 0))) (ty := .boolean) (n := 40000) hx hb (hT _ k_167) rfl hK hP hD hS hA (fun _ => rfl) (by decide) (by decide) (by decide) (Nat.le_of_ble_eq_true rfl) (Nat.le_of_ble_eq_true rfl) dX4_init_58 (fun q_13 cA9 H hK9 hP hD hS => ?_)
  rw [cA_eq hK9 1 rfl 4 rfl] at hP hD
  have hP : va_P (dC, dI) vwCl ([(a0, .inr (4, [.int 0, .int 0, .int 0, .int 0, .ref q_1, .ref q_3, .ref q_5, .int 0, .ref q_7, .ref q_9, .ref q_11, .null, .int 0, .int 0, .null, .int 0, .int 0, .null, .null, .null, .int 0, .null, .null])), (q_1, .inl (cI, 8, .inl (fun _ => 0))), (q_3, .inl (cI, 8, .inl (fun _ => 0))), (q_5, .inl (cI, 8, .inl (fun _ => 0))), (q_7, .inl (cI, 1400, .inl (fun _ => 0))), (q_9, .inl (cI, 2800, .inl (fun _ => 0))), (q_11, .inl (cZ, 2800, .inl (fun _ => 0))), (q_13, .inl (cZ, 40000, .inl (fun _ => 0)))]) H := hP
  have hD : va_D A ([(a0, .inr (4, [.int 0, .int 0, .int 0, .int 0, .ref q_1, .ref q_3, .ref q_5, .int 0, .ref q_7, .ref q_9, .ref q_11, .null, .int 0, .int 0, .null, .int 0, .int 0, .null, .null, .null, .int 0, .null, .null])), (q_1, .inl (cI, 8, .inl (fun _ => 0))), (q_3, .inl (cI, 8, .inl (fun _ => 0))), (q_5, .inl (cI, 8, .inl (fun _ => 0))), (q_7, .inl (cI, 1400, .inl (fun _ => 0))), (q_9, .inl (cI, 2800, .inl (fun _ => 0))), (q_11, .inl (cZ, 2800, .inl (fun _ => 0))), (q_13, .inl (cZ, 40000, .inl (fun _ => 0)))]) := hD
  refine W.widen (k := 7) (n := 47024) (Nat.le_of_ble_eq_true rfl) (Nat.le_of_ble_eq_true rfl) ?_
  refine va_putF (D := (dC, dI)) (ci := 4) (v := .ref q_13) (ty := (.array .boolean)) (C := RX4) (T := TX4) (N := 23) hx hb hT inX4 tyX4 tyX4_ok nmX4 hown hK hP hD hS 0 rfl rfl 11 (by decide) (hT _ k_170) (fun _ h9 => h9) rfl hin rfl (by decide +kernel) rfl rfl (Nat.le_of_ble_eq_true rfl) dX4_init_60 (fun H locs hP hD hS => ?_)
  have hP : va_P (dC, dI) vwCl ([(a0, .inr (4, [.int 0, .int 0, .int 0, .int 0, .ref q_1, .ref q_3, .ref q_5, .int 0, .ref q_7, .ref q_9, .ref q_11, .ref q_13, .int 0, .int 0, .null, .int 0, .int 0, .null, .null, .null, .int 0, .null, .null])), (q_1, .inl (cI, 8, .inl (fun _ => 0))), (q_3, .inl (cI, 8, .inl (fun _ => 0))), (q_5, .inl (cI, 8, .inl (fun _ => 0))), (q_7, .inl (cI, 1400, .inl (fun _ => 0))), (q_9, .inl (cI, 2800, .inl (fun _ => 0))), (q_11, .inl (cZ, 2800, .inl (fun _ => 0))), (q_13, .inl (cZ, 40000, .inl (fun _ => 0)))]) H := hP
  have hD : va_D A ([(a0, .inr (4, [.int 0, .int 0, .int 0, .int 0, .ref q_1, .ref q_3, .ref q_5, .int 0, .ref q_7, .ref q_9, .ref q_11, .ref q_13, .int 0, .int 0, .null, .int 0, .int 0, .null, .null, .null, .int 0, .null, .null])), (q_1, .inl (cI, 8, .inl (fun _ => 0))), (q_3, .inl (cI, 8, .inl (fun _ => 0))), (q_5, .inl (cI, 8, .inl (fun _ => 0))), (q_7, .inl (cI, 1400, .inl (fun _ => 0))), (q_9, .inl (cI, 2800, .inl (fun _ => 0))), (q_11, .inl (cZ, 2800, .inl (fun _ => 0))), (q_13, .inl (cZ, 40000, .inl (fun _ => 0)))]) := hD
  refine lv_aload_n hx hb dX4_init_63 rfl (lv_at hl 0 rfl) ?_
  refine lv_ldc hx hb hown (hT _ k_169) dX4_init_64 ?_
  refine va_newa (atype := .boolean) (N' := 40000) (a0 := (40000, .inl (fun _ => 0))) (ty := .boolean) (n := 40000) hx hb (hT _ k_167) rfl hK hP hD hS hA (fun _ => rfl) (by decide) (by decide) (by decide) (Nat.le_of_ble_eq_true rfl) (Nat.le_of_ble_eq_true rfl) dX4_init_66 (fun q_15 cA9 H hK9 hP hD hS => ?_)
  rw [cA_eq hK9 1 rfl 4 rfl] at hP hD
  have hP : va_P (dC, dI) vwCl ([(a0, .inr (4, [.int 0, .int 0, .int 0, .int 0, .ref q_1, .ref q_3, .ref q_5, .int 0, .ref q_7, .ref q_9, .ref q_11, .ref q_13, .int 0, .int 0, .null, .int 0, .int 0, .null, .null, .null, .int 0, .null, .null])), (q_1, .inl (cI, 8, .inl (fun _ => 0))), (q_3, .inl (cI, 8, .inl (fun _ => 0))), (q_5, .inl (cI, 8, .inl (fun _ => 0))), (q_7, .inl (cI, 1400, .inl (fun _ => 0))), (q_9, .inl (cI, 2800, .inl (fun _ => 0))), (q_11, .inl (cZ, 2800, .inl (fun _ => 0))), (q_13, .inl (cZ, 40000, .inl (fun _ => 0))), (q_15, .inl (cZ, 40000, .inl (fun _ => 0)))]) H := hP
  have hD : va_D A ([(a0, .inr (4, [.int 0, .int 0, .int 0, .int 0, .ref q_1, .ref q_3, .ref q_5, .int 0, .ref q_7, .ref q_9, .ref q_11, .ref q_13, .int 0, .int 0, .null, .int 0, .int 0, .null, .null, .null, .int 0, .null, .null])), (q_1, .inl (cI, 8, .inl (fun _ => 0))), (q_3, .inl (cI, 8, .inl (fun _ => 0))), (q_5, .inl (cI, 8, .inl (fun _ => 0))), (q_7, .inl (cI, 1400, .inl (fun _ => 0))), (q_9, .inl (cI, 2800, .inl (fun _ => 0))), (q_11, .inl (cZ, 2800, .inl (fun _ => 0))), (q_13, .inl (cZ, 40000, .inl (fun _ => 0))), (q_15, .inl (cZ, 40000, .inl (fun _ => 0)))]) := hD
  refine W.widen (k := 8) (n := 87024) (Nat.le_of_ble_eq_true rfl) (Nat.le_of_ble_eq_true rfl) ?_
  refine va_putF (D := (dC, dI)) (ci := 4) (v := .ref q_15) (ty := (.array .boolean)) (C := RX4) (T := TX4) (N := 23) hx hb hT inX4 tyX4 tyX4_ok nmX4 hown hK hP hD hS 0 rfl rfl 14 (by decide) (hT _ k_171) (fun _ h9 => h9) rfl hin rfl (by decide +kernel) rfl rfl (Nat.le_of_ble_eq_true rfl) dX4_init_68 (fun H locs hP hD hS => ?_)
  have hP : va_P (dC, dI) vwCl ([(a0, .inr (4, [.int 0, .int 0, .int 0, .int 0, .ref q_1, .ref q_3, .ref q_5, .int 0, .ref q_7, .ref q_9, .ref q_11, .ref q_13, .int 0, .int 0, .ref q_15, .int 0, .int 0, .null, .null, .null, .int 0, .null, .null])), (q_1, .inl (cI, 8, .inl (fun _ => 0))), (q_3, .inl (cI, 8, .inl (fun _ => 0))), (q_5, .inl (cI, 8, .inl (fun _ => 0))), (q_7, .inl (cI, 1400, .inl (fun _ => 0))), (q_9, .inl (cI, 2800, .inl (fun _ => 0))), (q_11, .inl (cZ, 2800, .inl (fun _ => 0))), (q_13, .inl (cZ, 40000, .inl (fun _ => 0))), (q_15, .inl (cZ, 40000, .inl (fun _ => 0)))]) H := hP
  have hD : va_D A ([(a0, .inr (4, [.int 0, .int 0, .int 0, .int 0, .ref q_1, .ref q_3, .ref q_5, .int 0, .ref q_7, .ref q_9, .ref q_11, .ref q_13, .int 0, .int 0, .ref q_15, .int 0, .int 0, .null, .null, .null, .int 0, .null, .null])), (q_1, .inl (cI, 8, .inl (fun _ => 0))), (q_3, .inl (cI, 8, .inl (fun _ => 0))), (q_5, .inl (cI, 8, .inl (fun _ => 0))), (q_7, .inl (cI, 1400, .inl (fun _ => 0))), (q_9, .inl (cI, 2800, .inl (fun _ => 0))), (q_11, .inl (cZ, 2800, .inl (fun _ => 0))), (q_13, .inl (cZ, 40000, .inl (fun _ => 0))), (q_15, .inl (cZ, 40000, .inl (fun _ => 0)))]) := hD
  refine lv_aload_n hx hb dX4_init_71 rfl (lv_at hl 0 rfl) ?_
  refine lv_bipush (v := 8) hx hb dX4_init_72 (by decide) ?_
  refine va_newa (atype := .int) (N' := 8) (a0 := (8, .inl (fun _ => 0))) (ty := .int) (n := 8) hx hb (hT _ k_161) rfl hK hP hD hS hA (fun _ => rfl) (by decide) (by decide) (by decide) (Nat.le_of_ble_eq_true rfl) (Nat.le_of_ble_eq_true rfl) dX4_init_74 (fun q_17 cA9 H hK9 hP hD hS => ?_)
  rw [cA_eq hK9 0 rfl 4 rfl] at hP hD
  have hP : va_P (dC, dI) vwCl ([(a0, .inr (4, [.int 0, .int 0, .int 0, .int 0, .ref q_1, .ref q_3, .ref q_5, .int 0, .ref q_7, .ref q_9, .ref q_11, .ref q_13, .int 0, .int 0, .ref q_15, .int 0, .int 0, .null, .null, .null, .int 0, .null, .null])), (q_1, .inl (cI, 8, .inl (fun _ => 0))), (q_3, .inl (cI, 8, .inl (fun _ => 0))), (q_5, .inl (cI, 8, .inl (fun _ => 0))), (q_7, .inl (cI, 1400, .inl (fun _ => 0))), (q_9, .inl (cI, 2800, .inl (fun _ => 0))), (q_11, .inl (cZ, 2800, .inl (fun _ => 0))), (q_13, .inl (cZ, 40000, .inl (fun _ => 0))), (q_15, .inl (cZ, 40000, .inl (fun _ => 0))), (q_17, .inl (cI, 8, .inl (fun _ => 0)))]) H := hP
  have hD : va_D A ([(a0, .inr (4, [.int 0, .int 0, .int 0, .int 0, .ref q_1, .ref q_3, .ref q_5, .int 0, .ref q_7, .ref q_9, .ref q_11, .ref q_13, .int 0, .int 0, .ref q_15, .int 0, .int 0, .null, .null, .null, .int 0, .null, .null])), (q_1, .inl (cI, 8, .inl (fun _ => 0))), (q_3, .inl (cI, 8, .inl (fun _ => 0))), (q_5, .inl (cI, 8, .inl (fun _ => 0))), (q_7, .inl (cI, 1400, .inl (fun _ => 0))), (q_9, .inl (cI, 2800, .inl (fun _ => 0))), (q_11, .inl (cZ, 2800, .inl (fun _ => 0))), (q_13, .inl (cZ, 40000, .inl (fun _ => 0))), (q_15, .inl (cZ, 40000, .inl (fun _ => 0))), (q_17, .inl (cI, 8, .inl (fun _ => 0)))]) := hD
  refine W.widen (k := 9) (n := 87032) (Nat.le_of_ble_eq_true rfl) (Nat.le_of_ble_eq_true rfl) ?_
  refine va_putF (D := (dC, dI)) (ci := 4) (v := .ref q_17) (ty := (.array .int)) (C := RX4) (T := TX4) (N := 23) hx hb hT inX4 tyX4 tyX4_ok nmX4 hown hK hP hD hS 0 rfl rfl 17 (by decide) (hT _ k_172) (fun _ h9 => h9) rfl hin rfl (by decide +kernel) rfl rfl (Nat.le_of_ble_eq_true rfl) dX4_init_76 (fun H locs hP hD hS => ?_)
  have hP : va_P (dC, dI) vwCl ([(a0, .inr (4, [.int 0, .int 0, .int 0, .int 0, .ref q_1, .ref q_3, .ref q_5, .int 0, .ref q_7, .ref q_9, .ref q_11, .ref q_13, .int 0, .int 0, .ref q_15, .int 0, .int 0, .ref q_17, .null, .null, .int 0, .null, .null])), (q_1, .inl (cI, 8, .inl (fun _ => 0))), (q_3, .inl (cI, 8, .inl (fun _ => 0))), (q_5, .inl (cI, 8, .inl (fun _ => 0))), (q_7, .inl (cI, 1400, .inl (fun _ => 0))), (q_9, .inl (cI, 2800, .inl (fun _ => 0))), (q_11, .inl (cZ, 2800, .inl (fun _ => 0))), (q_13, .inl (cZ, 40000, .inl (fun _ => 0))), (q_15, .inl (cZ, 40000, .inl (fun _ => 0))), (q_17, .inl (cI, 8, .inl (fun _ => 0)))]) H := hP
  have hD : va_D A ([(a0, .inr (4, [.int 0, .int 0, .int 0, .int 0, .ref q_1, .ref q_3, .ref q_5, .int 0, .ref q_7, .ref q_9, .ref q_11, .ref q_13, .int 0, .int 0, .ref q_15, .int 0, .int 0, .ref q_17, .null, .null, .int 0, .null, .null])), (q_1, .inl (cI, 8, .inl (fun _ => 0))), (q_3, .inl (cI, 8, .inl (fun _ => 0))), (q_5, .inl (cI, 8, .inl (fun _ => 0))), (q_7, .inl (cI, 1400, .inl (fun _ => 0))), (q_9, .inl (cI, 2800, .inl (fun _ => 0))), (q_11, .inl (cZ, 2800, .inl (fun _ => 0))), (q_13, .inl (cZ, 40000, .inl (fun _ => 0))), (q_15, .inl (cZ, 40000, .inl (fun _ => 0))), (q_17, .inl (cI, 8, .inl (fun _ => 0)))]) := hD
  refine lv_aload_n hx hb dX4_init_79 rfl (lv_at hl 0 rfl) ?_
  refine lv_bipush (v := 8) hx hb dX4_init_80 (by decide) ?_
  refine va_newa (atype := .int) (N' := 8) (a0 := (8, .inl (fun _ => 0))) (ty := .int) (n := 8) hx hb (hT _ k_161) rfl hK hP hD hS hA (fun _ => rfl) (by decide) (by decide) (by decide) (Nat.le_of_ble_eq_true rfl) (Nat.le_of_ble_eq_true rfl) dX4_init_82 (fun q_19 cA9 H hK9 hP hD hS => ?_)
  rw [cA_eq hK9 0 rfl 4 rfl] at hP hD
  have hP : va_P (dC, dI) vwCl ([(a0, .inr (4, [.int 0, .int 0, .int 0, .int 0, .ref q_1, .ref q_3, .ref q_5, .int 0, .ref q_7, .ref q_9, .ref q_11, .ref q_13, .int 0, .int 0, .ref q_15, .int 0, .int 0, .ref q_17, .null, .null, .int 0, .null, .null])), (q_1, .inl (cI, 8, .inl (fun _ => 0))), (q_3, .inl (cI, 8, .inl (fun _ => 0))), (q_5, .inl (cI, 8, .inl (fun _ => 0))), (q_7, .inl (cI, 1400, .inl (fun _ => 0))), (q_9, .inl (cI, 2800, .inl (fun _ => 0))), (q_11, .inl (cZ, 2800, .inl (fun _ => 0))), (q_13, .inl (cZ, 40000, .inl (fun _ => 0))), (q_15, .inl (cZ, 40000, .inl (fun _ => 0))), (q_17, .inl (cI, 8, .inl (fun _ => 0))), (q_19, .inl (cI, 8, .inl (fun _ => 0)))]) H := hP
  have hD : va_D A ([(a0, .inr (4, [.int 0, .int 0, .int 0, .int 0, .ref q_1, .ref q_3, .ref q_5, .int 0, .ref q_7, .ref q_9, .ref q_11, .ref q_13, .int 0, .int 0, .ref q_15, .int 0, .int 0, .ref q_17, .null, .null, .int 0, .null, .null])), (q_1, .inl (cI, 8, .inl (fun _ => 0))), (q_3, .inl (cI, 8, .inl (fun _ => 0))), (q_5, .inl (cI, 8, .inl (fun _ => 0))), (q_7, .inl (cI, 1400, .inl (fun _ => 0))), (q_9, .inl (cI, 2800, .inl (fun _ => 0))), (q_11, .inl (cZ, 2800, .inl (fun _ => 0))), (q_13, .inl (cZ, 40000, .inl (fun _ => 0))), (q_15, .inl (cZ, 40000, .inl (fun _ => 0))), (q_17, .inl (cI, 8, .inl (fun _ => 0))), (q_19, .inl (cI, 8, .inl (fun _ => 0)))]) := hD
  refine W.widen (k := 10) (n := 87040) (Nat.le_of_ble_eq_true rfl) (Nat.le_of_ble_eq_true rfl) ?_
  refine va_putF (D := (dC, dI)) (ci := 4) (v := .ref q_19) (ty := (.array .int)) (C := RX4) (T := TX4) (N := 23) hx hb hT inX4 tyX4 tyX4_ok nmX4 hown hK hP hD hS 0 rfl rfl 18 (by decide) (hT _ k_173) (fun _ h9 => h9) rfl hin rfl (by decide +kernel) rfl rfl (Nat.le_of_ble_eq_true rfl) dX4_init_84 (fun H locs hP hD hS => ?_)
  have hP : va_P (dC, dI) vwCl ([(a0, .inr (4, [.int 0, .int 0, .int 0, .int 0, .ref q_1, .ref q_3, .ref q_5, .int 0, .ref q_7, .ref q_9, .ref q_11, .ref q_13, .int 0, .int 0, .ref q_15, .int 0, .int 0, .ref q_17, .ref q_19, .null, .int 0, .null, .null])), (q_1, .inl (cI, 8, .inl (fun _ => 0))), (q_3, .inl (cI, 8, .inl (fun _ => 0))), (q_5, .inl (cI, 8, .inl (fun _ => 0))), (q_7, .inl (cI, 1400, .inl (fun _ => 0))), (q_9, .inl (cI, 2800, .inl (fun _ => 0))), (q_11, .inl (cZ, 2800, .inl (fun _ => 0))), (q_13, .inl (cZ, 40000, .inl (fun _ => 0))), (q_15, .inl (cZ, 40000, .inl (fun _ => 0))), (q_17, .inl (cI, 8, .inl (fun _ => 0))), (q_19, .inl (cI, 8, .inl (fun _ => 0)))]) H := hP
  have hD : va_D A ([(a0, .inr (4, [.int 0, .int 0, .int 0, .int 0, .ref q_1, .ref q_3, .ref q_5, .int 0, .ref q_7, .ref q_9, .ref q_11, .ref q_13, .int 0, .int 0, .ref q_15, .int 0, .int 0, .ref q_17, .ref q_19, .null, .int 0, .null, .null])), (q_1, .inl (cI, 8, .inl (fun _ => 0))), (q_3, .inl (cI, 8, .inl (fun _ => 0))), (q_5, .inl (cI, 8, .inl (fun _ => 0))), (q_7, .inl (cI, 1400, .inl (fun _ => 0))), (q_9, .inl (cI, 2800, .inl (fun _ => 0))), (q_11, .inl (cZ, 2800, .inl (fun _ => 0))), (q_13, .inl (cZ, 40000, .inl (fun _ => 0))), (q_15, .inl (cZ, 40000, .inl (fun _ => 0))), (q_17, .inl (cI, 8, .inl (fun _ => 0))), (q_19, .inl (cI, 8, .inl (fun _ => 0)))]) := hD
  refine lv_aload_n hx hb dX4_init_87 rfl (lv_at hl 0 rfl) ?_
  refine lv_bipush (v := 8) hx hb dX4_init_88 (by decide) ?_
  refine va_newa (atype := .boolean) (N' := 8) (a0 := (8, .inl (fun _ => 0))) (ty := .boolean) (n := 8) hx hb (hT _ k_167) rfl hK hP hD hS hA (fun _ => rfl) (by decide) (by decide) (by decide) (Nat.le_of_ble_eq_true rfl) (Nat.le_of_ble_eq_true rfl) dX4_init_90 (fun q_21 cA9 H hK9 hP hD hS => ?_)
  rw [cA_eq hK9 1 rfl 4 rfl] at hP hD
  have hP : va_P (dC, dI) vwCl ([(a0, .inr (4, [.int 0, .int 0, .int 0, .int 0, .ref q_1, .ref q_3, .ref q_5, .int 0, .ref q_7, .ref q_9, .ref q_11, .ref q_13, .int 0, .int 0, .ref q_15, .int 0, .int 0, .ref q_17, .ref q_19, .null, .int 0, .null, .null])), (q_1, .inl (cI, 8, .inl (fun _ => 0))), (q_3, .inl (cI, 8, .inl (fun _ => 0))), (q_5, .inl (cI, 8, .inl (fun _ => 0))), (q_7, .inl (cI, 1400, .inl (fun _ => 0))), (q_9, .inl (cI, 2800, .inl (fun _ => 0))), (q_11, .inl (cZ, 2800, .inl (fun _ => 0))), (q_13, .inl (cZ, 40000, .inl (fun _ => 0))), (q_15, .inl (cZ, 40000, .inl (fun _ => 0))), (q_17, .inl (cI, 8, .inl (fun _ => 0))), (q_19, .inl (cI, 8, .inl (fun _ => 0))), (q_21, .inl (cZ, 8, .inl (fun _ => 0)))]) H := hP
  have hD : va_D A ([(a0, .inr (4, [.int 0, .int 0, .int 0, .int 0, .ref q_1, .ref q_3, .ref q_5, .int 0, .ref q_7, .ref q_9, .ref q_11, .ref q_13, .int 0, .int 0, .ref q_15, .int 0, .int 0, .ref q_17, .ref q_19, .null, .int 0, .null, .null])), (q_1, .inl (cI, 8, .inl (fun _ => 0))), (q_3, .inl (cI, 8, .inl (fun _ => 0))), (q_5, .inl (cI, 8, .inl (fun _ => 0))), (q_7, .inl (cI, 1400, .inl (fun _ => 0))), (q_9, .inl (cI, 2800, .inl (fun _ => 0))), (q_11, .inl (cZ, 2800, .inl (fun _ => 0))), (q_13, .inl (cZ, 40000, .inl (fun _ => 0))), (q_15, .inl (cZ, 40000, .inl (fun _ => 0))), (q_17, .inl (cI, 8, .inl (fun _ => 0))), (q_19, .inl (cI, 8, .inl (fun _ => 0))), (q_21, .inl (cZ, 8, .inl (fun _ => 0)))]) := hD
  refine W.widen (k := 11) (n := 87048) (Nat.le_of_ble_eq_true rfl) (Nat.le_of_ble_eq_true rfl) ?_
  refine va_putF (D := (dC, dI)) (ci := 4) (v := .ref q_21) (ty := (.array .boolean)) (C := RX4) (T := TX4) (N := 23) hx hb hT inX4 tyX4 tyX4_ok nmX4 hown hK hP hD hS 0 rfl rfl 19 (by decide) (hT _ k_174) (fun _ h9 => h9) rfl hin rfl (by decide +kernel) rfl rfl (Nat.le_of_ble_eq_true rfl) dX4_init_92 (fun H locs hP hD hS => ?_)
  have hP : va_P (dC, dI) vwCl ([(a0, .inr (4, [.int 0, .int 0, .int 0, .int 0, .ref q_1, .ref q_3, .ref q_5, .int 0, .ref q_7, .ref q_9, .ref q_11, .ref q_13, .int 0, .int 0, .ref q_15, .int 0, .int 0, .ref q_17, .ref q_19, .ref q_21, .int 0, .null, .null])), (q_1, .inl (cI, 8, .inl (fun _ => 0))), (q_3, .inl (cI, 8, .inl (fun _ => 0))), (q_5, .inl (cI, 8, .inl (fun _ => 0))), (q_7, .inl (cI, 1400, .inl (fun _ => 0))), (q_9, .inl (cI, 2800, .inl (fun _ => 0))), (q_11, .inl (cZ, 2800, .inl (fun _ => 0))), (q_13, .inl (cZ, 40000, .inl (fun _ => 0))), (q_15, .inl (cZ, 40000, .inl (fun _ => 0))), (q_17, .inl (cI, 8, .inl (fun _ => 0))), (q_19, .inl (cI, 8, .inl (fun _ => 0))), (q_21, .inl (cZ, 8, .inl (fun _ => 0)))]) H := hP
  have hD : va_D A ([(a0, .inr (4, [.int 0, .int 0, .int 0, .int 0, .ref q_1, .ref q_3, .ref q_5, .int 0, .ref q_7, .ref q_9, .ref q_11, .ref q_13, .int 0, .int 0, .ref q_15, .int 0, .int 0, .ref q_17, .ref q_19, .ref q_21, .int 0, .null, .null])), (q_1, .inl (cI, 8, .inl (fun _ => 0))), (q_3, .inl (cI, 8, .inl (fun _ => 0))), (q_5, .inl (cI, 8, .inl (fun _ => 0))), (q_7, .inl (cI, 1400, .inl (fun _ => 0))), (q_9, .inl (cI, 2800, .inl (fun _ => 0))), (q_11, .inl (cZ, 2800, .inl (fun _ => 0))), (q_13, .inl (cZ, 40000, .inl (fun _ => 0))), (q_15, .inl (cZ, 40000, .inl (fun _ => 0))), (q_17, .inl (cI, 8, .inl (fun _ => 0))), (q_19, .inl (cI, 8, .inl (fun _ => 0))), (q_21, .inl (cZ, 8, .inl (fun _ => 0)))]) := hD
  refine lv_aload_n hx hb dX4_init_95 rfl (lv_at hl 0 rfl) ?_
  refine lv_sipush (v := 1400) hx hb dX4_init_96 (by decide) ?_
  refine va_newa (atype := .int) (N' := 1400) (a0 := (1400, .inl (fun _ => 0))) (ty := .int) (n := 1400) hx hb (hT _ k_161) rfl hK hP hD hS hA (fun _ => rfl) (by decide) (by decide) (by decide) (Nat.le_of_ble_eq_true rfl) (Nat.le_of_ble_eq_true rfl) dX4_init_99 (fun q_23 cA9 H hK9 hP hD hS => ?_)
  rw [cA_eq hK9 0 rfl 4 rfl] at hP hD
  have hP : va_P (dC, dI) vwCl ([(a0, .inr (4, [.int 0, .int 0, .int 0, .int 0, .ref q_1, .ref q_3, .ref q_5, .int 0, .ref q_7, .ref q_9, .ref q_11, .ref q_13, .int 0, .int 0, .ref q_15, .int 0, .int 0, .ref q_17, .ref q_19, .ref q_21, .int 0, .null, .null])), (q_1, .inl (cI, 8, .inl (fun _ => 0))), (q_3, .inl (cI, 8, .inl (fun _ => 0))), (q_5, .inl (cI, 8, .inl (fun _ => 0))), (q_7, .inl (cI, 1400, .inl (fun _ => 0))), (q_9, .inl (cI, 2800, .inl (fun _ => 0))), (q_11, .inl (cZ, 2800, .inl (fun _ => 0))), (q_13, .inl (cZ, 40000, .inl (fun _ => 0))), (q_15, .inl (cZ, 40000, .inl (fun _ => 0))), (q_17, .inl (cI, 8, .inl (fun _ => 0))), (q_19, .inl (cI, 8, .inl (fun _ => 0))), (q_21, .inl (cZ, 8, .inl (fun _ => 0))), (q_23, .inl (cI, 1400, .inl (fun _ => 0)))]) H := hP
  have hD : va_D A ([(a0, .inr (4, [.int 0, .int 0, .int 0, .int 0, .ref q_1, .ref q_3, .ref q_5, .int 0, .ref q_7, .ref q_9, .ref q_11, .ref q_13, .int 0, .int 0, .ref q_15, .int 0, .int 0, .ref q_17, .ref q_19, .ref q_21, .int 0, .null, .null])), (q_1, .inl (cI, 8, .inl (fun _ => 0))), (q_3, .inl (cI, 8, .inl (fun _ => 0))), (q_5, .inl (cI, 8, .inl (fun _ => 0))), (q_7, .inl (cI, 1400, .inl (fun _ => 0))), (q_9, .inl (cI, 2800, .inl (fun _ => 0))), (q_11, .inl (cZ, 2800, .inl (fun _ => 0))), (q_13, .inl (cZ, 40000, .inl (fun _ => 0))), (q_15, .inl (cZ, 40000, .inl (fun _ => 0))), (q_17, .inl (cI, 8, .inl (fun _ => 0))), (q_19, .inl (cI, 8, .inl (fun _ => 0))), (q_21, .inl (cZ, 8, .inl (fun _ => 0))), (q_23, .inl (cI, 1400, .inl (fun _ => 0)))]) := hD
  refine W.widen (k := 12) (n := 88448) (Nat.le_of_ble_eq_true rfl) (Nat.le_of_ble_eq_true rfl) ?_
  refine va_putF (D := (dC, dI)) (ci := 4) (v := .ref q_23) (ty := (.array .int)) (C := RX4) (T := TX4) (N := 23) hx hb hT inX4 tyX4 tyX4_ok nmX4 hown hK hP hD hS 0 rfl rfl 21 (by decide) (hT _ k_175) (fun _ h9 => h9) rfl hin rfl (by decide +kernel) rfl rfl (Nat.le_of_ble_eq_true rfl) dX4_init_101 (fun H locs hP hD hS => ?_)
  have hP : va_P (dC, dI) vwCl ([(a0, .inr (4, [.int 0, .int 0, .int 0, .int 0, .ref q_1, .ref q_3, .ref q_5, .int 0, .ref q_7, .ref q_9, .ref q_11, .ref q_13, .int 0, .int 0, .ref q_15, .int 0, .int 0, .ref q_17, .ref q_19, .ref q_21, .int 0, .ref q_23, .null])), (q_1, .inl (cI, 8, .inl (fun _ => 0))), (q_3, .inl (cI, 8, .inl (fun _ => 0))), (q_5, .inl (cI, 8, .inl (fun _ => 0))), (q_7, .inl (cI, 1400, .inl (fun _ => 0))), (q_9, .inl (cI, 2800, .inl (fun _ => 0))), (q_11, .inl (cZ, 2800, .inl (fun _ => 0))), (q_13, .inl (cZ, 40000, .inl (fun _ => 0))), (q_15, .inl (cZ, 40000, .inl (fun _ => 0))), (q_17, .inl (cI, 8, .inl (fun _ => 0))), (q_19, .inl (cI, 8, .inl (fun _ => 0))), (q_21, .inl (cZ, 8, .inl (fun _ => 0))), (q_23, .inl (cI, 1400, .inl (fun _ => 0)))]) H := hP
  have hD : va_D A ([(a0, .inr (4, [.int 0, .int 0, .int 0, .int 0, .ref q_1, .ref q_3, .ref q_5, .int 0, .ref q_7, .ref q_9, .ref q_11, .ref q_13, .int 0, .int 0, .ref q_15, .int 0, .int 0, .ref q_17, .ref q_19, .ref q_21, .int 0, .ref q_23, .null])), (q_1, .inl (cI, 8, .inl (fun _ => 0))), (q_3, .inl (cI, 8, .inl (fun _ => 0))), (q_5, .inl (cI, 8, .inl (fun _ => 0))), (q_7, .inl (cI, 1400, .inl (fun _ => 0))), (q_9, .inl (cI, 2800, .inl (fun _ => 0))), (q_11, .inl (cZ, 2800, .inl (fun _ => 0))), (q_13, .inl (cZ, 40000, .inl (fun _ => 0))), (q_15, .inl (cZ, 40000, .inl (fun _ => 0))), (q_17, .inl (cI, 8, .inl (fun _ => 0))), (q_19, .inl (cI, 8, .inl (fun _ => 0))), (q_21, .inl (cZ, 8, .inl (fun _ => 0))), (q_23, .inl (cI, 1400, .inl (fun _ => 0)))]) := hD
  refine lv_aload_n hx hb dX4_init_104 rfl (lv_at hl 0 rfl) ?_
  refine lv_sipush (v := 1400) hx hb dX4_init_105 (by decide) ?_
  refine va_newa (atype := .boolean) (N' := 1400) (a0 := (1400, .inl (fun _ => 0))) (ty := .boolean) (n := 1400) hx hb (hT _ k_167) rfl hK hP hD hS hA (fun _ => rfl) (by decide) (by decide) (by decide) (Nat.le_of_ble_eq_true rfl) (Nat.le_of_ble_eq_true rfl) dX4_init_108 (fun q_25 cA9 H hK9 hP hD hS => ?_)
  rw [cA_eq hK9 1 rfl 4 rfl] at hP hD
  have hP : va_P (dC, dI) vwCl ([(a0, .inr (4, [.int 0, .int 0, .int 0, .int 0, .ref q_1, .ref q_3, .ref q_5, .int 0, .ref q_7, .ref q_9, .ref q_11, .ref q_13, .int 0, .int 0, .ref q_15, .int 0, .int 0, .ref q_17, .ref q_19, .ref q_21, .int 0, .ref q_23, .null])), (q_1, .inl (cI, 8, .inl (fun _ => 0))), (q_3, .inl (cI, 8, .inl (fun _ => 0))), (q_5, .inl (cI, 8, .inl (fun _ => 0))), (q_7, .inl (cI, 1400, .inl (fun _ => 0))), (q_9, .inl (cI, 2800, .inl (fun _ => 0))), (q_11, .inl (cZ, 2800, .inl (fun _ => 0))), (q_13, .inl (cZ, 40000, .inl (fun _ => 0))), (q_15, .inl (cZ, 40000, .inl (fun _ => 0))), (q_17, .inl (cI, 8, .inl (fun _ => 0))), (q_19, .inl (cI, 8, .inl (fun _ => 0))), (q_21, .inl (cZ, 8, .inl (fun _ => 0))), (q_23, .inl (cI, 1400, .inl (fun _ => 0))), (q_25, .inl (cZ, 1400, .inl (fun _ => 0)))]) H := hP
  have hD : va_D A ([(a0, .inr (4, [.int 0, .int 0, .int 0, .int 0, .ref q_1, .ref q_3, .ref q_5, .int 0, .ref q_7, .ref q_9, .ref q_11, .ref q_13, .int 0, .int 0, .ref q_15, .int 0, .int 0, .ref q_17, .ref q_19, .ref q_21, .int 0, .ref q_23, .null])), (q_1, .inl (cI, 8, .inl (fun _ => 0))), (q_3, .inl (cI, 8, .inl (fun _ => 0))), (q_5, .inl (cI, 8, .inl (fun _ => 0))), (q_7, .inl (cI, 1400, .inl (fun _ => 0))), (q_9, .inl (cI, 2800, .inl (fun _ => 0))), (q_11, .inl (cZ, 2800, .inl (fun _ => 0))), (q_13, .inl (cZ, 40000, .inl (fun _ => 0))), (q_15, .inl (cZ, 40000, .inl (fun _ => 0))), (q_17, .inl (cI, 8, .inl (fun _ => 0))), (q_19, .inl (cI, 8, .inl (fun _ => 0))), (q_21, .inl (cZ, 8, .inl (fun _ => 0))), (q_23, .inl (cI, 1400, .inl (fun _ => 0))), (q_25, .inl (cZ, 1400, .inl (fun _ => 0)))]) := hD
  refine W.widen (k := 13) (n := 89848) (Nat.le_of_ble_eq_true rfl) (Nat.le_of_ble_eq_true rfl) ?_
  refine va_putF (D := (dC, dI)) (ci := 4) (v := .ref q_25) (ty := (.array .boolean)) (C := RX4) (T := TX4) (N := 23) hx hb hT inX4 tyX4 tyX4_ok nmX4 hown hK hP hD hS 0 rfl rfl 22 (by decide) (hT _ k_176) (fun _ h9 => h9) rfl hin rfl (by decide +kernel) rfl rfl (Nat.le_of_ble_eq_true rfl) dX4_init_110 (fun H locs hP hD hS => ?_)
  have hP : va_P (dC, dI) vwCl ([(a0, .inr (4, [.int 0, .int 0, .int 0, .int 0, .ref q_1, .ref q_3, .ref q_5, .int 0, .ref q_7, .ref q_9, .ref q_11, .ref q_13, .int 0, .int 0, .ref q_15, .int 0, .int 0, .ref q_17, .ref q_19, .ref q_21, .int 0, .ref q_23, .ref q_25])), (q_1, .inl (cI, 8, .inl (fun _ => 0))), (q_3, .inl (cI, 8, .inl (fun _ => 0))), (q_5, .inl (cI, 8, .inl (fun _ => 0))), (q_7, .inl (cI, 1400, .inl (fun _ => 0))), (q_9, .inl (cI, 2800, .inl (fun _ => 0))), (q_11, .inl (cZ, 2800, .inl (fun _ => 0))), (q_13, .inl (cZ, 40000, .inl (fun _ => 0))), (q_15, .inl (cZ, 40000, .inl (fun _ => 0))), (q_17, .inl (cI, 8, .inl (fun _ => 0))), (q_19, .inl (cI, 8, .inl (fun _ => 0))), (q_21, .inl (cZ, 8, .inl (fun _ => 0))), (q_23, .inl (cI, 1400, .inl (fun _ => 0))), (q_25, .inl (cZ, 1400, .inl (fun _ => 0)))]) H := hP
  have hD : va_D A ([(a0, .inr (4, [.int 0, .int 0, .int 0, .int 0, .ref q_1, .ref q_3, .ref q_5, .int 0, .ref q_7, .ref q_9, .ref q_11, .ref q_13, .int 0, .int 0, .ref q_15, .int 0, .int 0, .ref q_17, .ref q_19, .ref q_21, .int 0, .ref q_23, .ref q_25])), (q_1, .inl (cI, 8, .inl (fun _ => 0))), (q_3, .inl (cI, 8, .inl (fun _ => 0))), (q_5, .inl (cI, 8, .inl (fun _ => 0))), (q_7, .inl (cI, 1400, .inl (fun _ => 0))), (q_9, .inl (cI, 2800, .inl (fun _ => 0))), (q_11, .inl (cZ, 2800, .inl (fun _ => 0))), (q_13, .inl (cZ, 40000, .inl (fun _ => 0))), (q_15, .inl (cZ, 40000, .inl (fun _ => 0))), (q_17, .inl (cI, 8, .inl (fun _ => 0))), (q_19, .inl (cI, 8, .inl (fun _ => 0))), (q_21, .inl (cZ, 8, .inl (fun _ => 0))), (q_23, .inl (cI, 1400, .inl (fun _ => 0))), (q_25, .inl (cZ, 1400, .inl (fun _ => 0)))]) := hD
  refine lv_aload_n hx hb dX4_init_113 rfl (lv_at hl 0 rfl) ?_
  refine lv_iload_n hx hb dX4_init_114 rfl (lv_at hl 1 rfl) ?_
  refine lv_iconst (v := 1) hx hb dX4_init_115 (by decide) ?_
  refine lv_icmp_ge (tgt := 123) hx hb dX4_init_116 (by decide) (fun c_27 => ?_) (fun c_27 => ?_)
  · have hw := hw.1 c_27
    refine lv_iload_n hx hb dX4_init_123 rfl (lv_at hl 1 rfl) ?_
    refine lv_bipush (v := 32) hx hb dX4_init_124 (by decide) ?_
    refine lv_icmp_le (tgt := 134) hx hb dX4_init_126 (by decide) (fun c_28 => ?_) (fun c_28 => ?_)
    · have hw := hw.1 c_28
      refine lv_iload_n hx hb dX4_init_134 rfl (lv_at hl 1 rfl) ?_
      refine va_putF (D := (dC, dI)) (ci := 4) (v := .int x1) (ty := .int) (C := RX4) (T := TX4) (N := 23) hx hb hT inX4 tyX4 tyX4_ok nmX4 hown hK hP hD hS 0 rfl rfl 1 (by decide) (hT _ k_177) (fun _ h9 => h9) rfl hin rfl (by decide +kernel) rfl rfl (Nat.le_of_ble_eq_true rfl) dX4_init_135 (fun H locs hP hD hS => ?_)
      have hP : va_P (dC, dI) vwCl ([(a0, .inr (4, [.int 0, .int x1, .int 0, .int 0, .ref q_1, .ref q_3, .ref q_5, .int 0, .ref q_7, .ref q_9, .ref q_11, .ref q_13, .int 0, .int 0, .ref q_15, .int 0, .int 0, .ref q_17, .ref q_19, .ref q_21, .int 0, .ref q_23, .ref q_25])), (q_1, .inl (cI, 8, .inl (fun _ => 0))), (q_3, .inl (cI, 8, .inl (fun _ => 0))), (q_5, .inl (cI, 8, .inl (fun _ => 0))), (q_7, .inl (cI, 1400, .inl (fun _ => 0))), (q_9, .inl (cI, 2800, .inl (fun _ => 0))), (q_11, .inl (cZ, 2800, .inl (fun _ => 0))), (q_13, .inl (cZ, 40000, .inl (fun _ => 0))), (q_15, .inl (cZ, 40000, .inl (fun _ => 0))), (q_17, .inl (cI, 8, .inl (fun _ => 0))), (q_19, .inl (cI, 8, .inl (fun _ => 0))), (q_21, .inl (cZ, 8, .inl (fun _ => 0))), (q_23, .inl (cI, 1400, .inl (fun _ => 0))), (q_25, .inl (cZ, 1400, .inl (fun _ => 0)))]) H := hP
      have hD : va_D A ([(a0, .inr (4, [.int 0, .int x1, .int 0, .int 0, .ref q_1, .ref q_3, .ref q_5, .int 0, .ref q_7, .ref q_9, .ref q_11, .ref q_13, .int 0, .int 0, .ref q_15, .int 0, .int 0, .ref q_17, .ref q_19, .ref q_21, .int 0, .ref q_23, .ref q_25])), (q_1, .inl (cI, 8, .inl (fun _ => 0))), (q_3, .inl (cI, 8, .inl (fun _ => 0))), (q_5, .inl (cI, 8, .inl (fun _ => 0))), (q_7, .inl (cI, 1400, .inl (fun _ => 0))), (q_9, .inl (cI, 2800, .inl (fun _ => 0))), (q_11, .inl (cZ, 2800, .inl (fun _ => 0))), (q_13, .inl (cZ, 40000, .inl (fun _ => 0))), (q_15, .inl (cZ, 40000, .inl (fun _ => 0))), (q_17, .inl (cI, 8, .inl (fun _ => 0))), (q_19, .inl (cI, 8, .inl (fun _ => 0))), (q_21, .inl (cZ, 8, .inl (fun _ => 0))), (q_23, .inl (cI, 1400, .inl (fun _ => 0))), (q_25, .inl (cZ, 1400, .inl (fun _ => 0)))]) := hD
      refine lv_aload_n hx hb dX4_init_138 rfl (lv_at hl 0 rfl) ?_
      refine lv_iload_n hx hb dX4_init_139 rfl (lv_at hl 2 rfl) ?_
      refine lv_iconst (v := 1) hx hb dX4_init_140 (by decide) ?_
      refine lv_icmp_ge (tgt := 148) hx hb dX4_init_141 (by decide) (fun c_29 => ?_) (fun c_29 => ?_)
      · have hw := hw.1 c_29
        refine lv_iload_n hx hb dX4_init_148 rfl (lv_at hl 2 rfl) ?_
        refine lv_bipush (v := 32) hx hb dX4_init_149 (by decide) ?_
        refine lv_icmp_le (tgt := 159) hx hb dX4_init_151 (by decide) (fun c_30 => ?_) (fun c_30 => ?_)
        · have hw := hw.1 c_30
          refine lv_iload_n hx hb dX4_init_159 rfl (lv_at hl 2 rfl) ?_
          refine va_putF (D := (dC, dI)) (ci := 4) (v := .int x2) (ty := .int) (C := RX4) (T := TX4) (N := 23) hx hb hT inX4 tyX4 tyX4_ok nmX4 hown hK hP hD hS 0 rfl rfl 2 (by decide) (hT _ k_178) (fun _ h9 => h9) rfl hin rfl (by decide +kernel) rfl rfl (Nat.le_of_ble_eq_true rfl) dX4_init_160 (fun H locs hP hD hS => ?_)
          have hP : va_P (dC, dI) vwCl ([(a0, .inr (4, [.int 0, .int x1, .int x2, .int 0, .ref q_1, .ref q_3, .ref q_5, .int 0, .ref q_7, .ref q_9, .ref q_11, .ref q_13, .int 0, .int 0, .ref q_15, .int 0, .int 0, .ref q_17, .ref q_19, .ref q_21, .int 0, .ref q_23, .ref q_25])), (q_1, .inl (cI, 8, .inl (fun _ => 0))), (q_3, .inl (cI, 8, .inl (fun _ => 0))), (q_5, .inl (cI, 8, .inl (fun _ => 0))), (q_7, .inl (cI, 1400, .inl (fun _ => 0))), (q_9, .inl (cI, 2800, .inl (fun _ => 0))), (q_11, .inl (cZ, 2800, .inl (fun _ => 0))), (q_13, .inl (cZ, 40000, .inl (fun _ => 0))), (q_15, .inl (cZ, 40000, .inl (fun _ => 0))), (q_17, .inl (cI, 8, .inl (fun _ => 0))), (q_19, .inl (cI, 8, .inl (fun _ => 0))), (q_21, .inl (cZ, 8, .inl (fun _ => 0))), (q_23, .inl (cI, 1400, .inl (fun _ => 0))), (q_25, .inl (cZ, 1400, .inl (fun _ => 0)))]) H := hP
          have hD : va_D A ([(a0, .inr (4, [.int 0, .int x1, .int x2, .int 0, .ref q_1, .ref q_3, .ref q_5, .int 0, .ref q_7, .ref q_9, .ref q_11, .ref q_13, .int 0, .int 0, .ref q_15, .int 0, .int 0, .ref q_17, .ref q_19, .ref q_21, .int 0, .ref q_23, .ref q_25])), (q_1, .inl (cI, 8, .inl (fun _ => 0))), (q_3, .inl (cI, 8, .inl (fun _ => 0))), (q_5, .inl (cI, 8, .inl (fun _ => 0))), (q_7, .inl (cI, 1400, .inl (fun _ => 0))), (q_9, .inl (cI, 2800, .inl (fun _ => 0))), (q_11, .inl (cZ, 2800, .inl (fun _ => 0))), (q_13, .inl (cZ, 40000, .inl (fun _ => 0))), (q_15, .inl (cZ, 40000, .inl (fun _ => 0))), (q_17, .inl (cI, 8, .inl (fun _ => 0))), (q_19, .inl (cI, 8, .inl (fun _ => 0))), (q_21, .inl (cZ, 8, .inl (fun _ => 0))), (q_23, .inl (cI, 1400, .inl (fun _ => 0))), (q_25, .inl (cZ, 1400, .inl (fun _ => 0)))]) := hD
          refine lv_aload_n hx hb dX4_init_163 rfl (lv_at hl 0 rfl) ?_
          refine va_get (D := (dC, dI)) (ci := 4) (v := .int x1) (C := RX4) (T := TX4) (N := 23) hx hb hT inX4 hown hK hP 0 rfl rfl 1 (by decide) (hT _ k_177) (fun _ h9 => h9) rfl dX4_init_164 ?_
          refine lv_istore_n (lv' := [(3, .int x1), (0, .ref a0), (1, .int x1), (2, .int x2)]) hx hb dX4_init_167 rfl hl (by decide) rfl (fun ls hl => ?_)
          refine lv_aload_n hx hb dX4_init_168 rfl (lv_at hl 1 rfl) ?_
          refine va_get (D := (dC, dI)) (ci := 4) (v := .int x2) (C := RX4) (T := TX4) (N := 23) hx hb hT inX4 hown hK hP 0 rfl rfl 2 (by decide) (hT _ k_178) (fun _ h9 => h9) rfl dX4_init_169 ?_
          refine lv_istore (lv' := [(4, .int x2), (3, .int x1), (0, .ref a0), (1, .int x1), (2, .int x2)]) hx hb dX4_init_172 hl (by decide) rfl (fun ls hl => ?_)
          refine lv_iconst (v := 1) hx hb dX4_init_174 (by decide) ?_
          refine lv_istore (lv' := [(5, .int 1), (4, .int x2), (3, .int x1), (0, .ref a0), (1, .int x1), (2, .int x2)]) hx hb dX4_init_175 hl (by decide) rfl (fun ls hl => ?_)
          obtain ⟨n_49, hw⟩ := hw
          obtain ⟨ex177, eex177⟩ : ∃ z : (Nat → Int32) → (Nat → Int32) → (Nat → Int32) → (Nat → Int32) → (Nat → Int32) → (Nat → Int32) → (Nat → Int32) → (Nat → Int32) → (Nat → Int32) → (Nat → Int32) → (Nat → Int32) → (Nat → Int32) → (Nat → Int32) → Int32 → Int32 → Int32 → Int32 → Int32 → Prop, z = (fun (ym_2_31 : (Nat → Int32)) (ym_4_32 : (Nat → Int32)) (ym_6_33 : (Nat → Int32)) (ym_8_34 : (Nat → Int32)) (ym_10_35 : (Nat → Int32)) (ym_12_36 : (Nat → Int32)) (ym_14_37 : (Nat → Int32)) (ym_16_38 : (Nat → Int32)) (ym_18_39 : (Nat → Int32)) (ym_20_40 : (Nat → Int32)) (ym_22_41 : (Nat → Int32)) (ym_24_42 : (Nat → Int32)) (ym_26_43 : (Nat → Int32)) (y_44 : Int32) (y_45 : Int32) (x5_46 : Int32) (x4_47 : Int32) (x3_48 : Int32) => post (((x1, x2, y_44, y_45), ym_2_31, ym_4_32, ym_6_33), (0, ym_8_34, ym_10_35, ym_12_36, (ym_14_37, 0, 0), (ym_16_38, 0, 0), (ym_18_39, ym_20_40, ym_22_41, 0), ym_24_42, ym_26_43))) := ⟨_, rfl⟩
          rw [← eex177] at hw
          have hx177 : ∀ (ym_2_31 : (Nat → Int32)) (ym_4_32 : (Nat → Int32)) (ym_6_33 : (Nat → Int32)) (ym_8_34 : (Nat → Int32)) (ym_10_35 : (Nat → Int32)) (ym_12_36 : (Nat → Int32)) (ym_14_37 : (Nat → Int32)) (ym_16_38 : (Nat → Int32)) (ym_18_39 : (Nat → Int32)) (ym_20_40 : (Nat → Int32)) (ym_22_41 : (Nat → Int32)) (ym_24_42 : (Nat → Int32)) (ym_26_43 : (Nat → Int32)) (y_44 : Int32) (y_45 : Int32) (x5_46 : Int32) (x4_47 : Int32) (x3_48 : Int32), ex177 ym_2_31 ym_4_32 ym_6_33 ym_8_34 ym_10_35 ym_12_36 ym_14_37 ym_16_38 ym_18_39 ym_20_40 ym_22_41 ym_24_42 ym_26_43 y_44 y_45 x5_46 x4_47 x3_48 → ∀ (H : Heap) (locs : List Loc) (ls : Array Slot), va_P (dC, dI) vwCl ([(a0, .inr (4, [.int 0, .int x1, .int x2, .int y_44, .ref q_1, .ref q_3, .ref q_5, .int y_45, .ref q_7, .ref q_9, .ref q_11, .ref q_13, .int 0, .int 0, .ref q_15, .int 0, .int 0, .ref q_17, .ref q_19, .ref q_21, .int 0, .ref q_23, .ref q_25])), (q_1, .inl (cI, 8, .inl ym_2_31)), (q_3, .inl (cI, 8, .inl ym_4_32)), (q_5, .inl (cI, 8, .inl ym_6_33)), (q_7, .inl (cI, 1400, .inl ym_8_34)), (q_9, .inl (cI, 2800, .inl ym_10_35)), (q_11, .inl (cZ, 2800, .inl ym_12_36)), (q_13, .inl (cZ, 40000, .inl ym_14_37)), (q_15, .inl (cZ, 40000, .inl ym_16_38)), (q_17, .inl (cI, 8, .inl ym_18_39)), (q_19, .inl (cI, 8, .inl ym_20_40)), (q_21, .inl (cZ, 8, .inl ym_22_41)), (q_23, .inl (cI, 1400, .inl ym_24_42)), (q_25, .inl (cZ, 1400, .inl ym_26_43))]) H → va_D A ([(a0, .inr (4, [.int 0, .int x1, .int x2, .int y_44, .ref q_1, .ref q_3, .ref q_5, .int y_45, .ref q_7, .ref q_9, .ref q_11, .ref q_13, .int 0, .int 0, .ref q_15, .int 0, .int 0, .ref q_17, .ref q_19, .ref q_21, .int 0, .ref q_23, .ref q_25])), (q_1, .inl (cI, 8, .inl ym_2_31)), (q_3, .inl (cI, 8, .inl ym_4_32)), (q_5, .inl (cI, 8, .inl ym_6_33)), (q_7, .inl (cI, 1400, .inl ym_8_34)), (q_9, .inl (cI, 2800, .inl ym_10_35)), (q_11, .inl (cZ, 2800, .inl ym_12_36)), (q_13, .inl (cZ, 40000, .inl ym_14_37)), (q_15, .inl (cZ, 40000, .inl ym_16_38)), (q_17, .inl (cI, 8, .inl ym_18_39)), (q_19, .inl (cI, 8, .inl ym_20_40)), (q_21, .inl (cZ, 8, .inl ym_22_41)), (q_23, .inl (cI, 1400, .inl ym_24_42)), (q_25, .inl (cZ, 1400, .inl ym_26_43))]) → va_S A s.heap H locs → lv_has ls 6 [(5, .int x5_46), (4, .int x4_47), (3, .int x3_48), (0, .ref a0), (1, .int x1), (2, .int x2)] → W p l e (headSpec wsX4_init rm_X4_init).room s m args below meth c H locs 13 89848 (MQ below (va_Qv post (fun (u : vMS × vMM) t => ∃ (am : Nat → Nat), am 0 = a0 ∧ qB (dC, dI) (tysA cI cZ cJ cL) A (wMM cI cZ am u.1 u.2) t) A) args s 13 89848 A) (F0 m 274 ls []) := by
            intro ym_2_31 ym_4_32 ym_6_33 ym_8_34 ym_10_35 ym_12_36 ym_14_37 ym_16_38 ym_18_39 ym_20_40 ym_22_41 ym_24_42 ym_26_43 y_44 y_45 x5_46 x4_47 x3_48 hw H locs ls hP hD hS hl
            rw [eex177] at hw
            try dsimp only at hw
            have hP := hP.sub (ws' := (wMM cI cZ (fun i => ([a0, q_1, q_3, q_5, q_7, q_9, q_11, q_13, q_15, q_17, q_19, q_21, q_23, q_25] : List Nat).getD i 0) (((x1, x2, y_44, y_45), ym_2_31, ym_4_32, ym_6_33), (0, ym_8_34, ym_10_35, ym_12_36, (ym_14_37, 0, 0), (ym_16_38, 0, 0), (ym_18_39, ym_20_40, ym_22_41, 0), ym_24_42, ym_26_43)).1 (((x1, x2, y_44, y_45), ym_2_31, ym_4_32, ym_6_33), (0, ym_8_34, ym_10_35, ym_12_36, (ym_14_37, 0, 0), (ym_16_38, 0, 0), (ym_18_39, ym_20_40, ym_22_41, 0), ym_24_42, ym_26_43)).2)) [0, 1, 2, 3, 4, 5, 6, 7, 8, 9, 10, 11, 12, 13] rfl
            have hD := hD.sub (ws' := (wMM cI cZ (fun i => ([a0, q_1, q_3, q_5, q_7, q_9, q_11, q_13, q_15, q_17, q_19, q_21, q_23, q_25] : List Nat).getD i 0) (((x1, x2, y_44, y_45), ym_2_31, ym_4_32, ym_6_33), (0, ym_8_34, ym_10_35, ym_12_36, (ym_14_37, 0, 0), (ym_16_38, 0, 0), (ym_18_39, ym_20_40, ym_22_41, 0), ym_24_42, ym_26_43)).1 (((x1, x2, y_44, y_45), ym_2_31, ym_4_32, ym_6_33), (0, ym_8_34, ym_10_35, ym_12_36, (ym_14_37, 0, 0), (ym_16_38, 0, 0), (ym_18_39, ym_20_40, ym_22_41, 0), ym_24_42, ym_26_43)).2)) [0, 1, 2, 3, 4, 5, 6, 7, 8, 9, 10, 11, 12, 13] (by decide) rfl
            exact W.vret hx hb hr (fun t ht hW => ⟨⟨(((x1, x2, y_44, y_45), ym_2_31, ym_4_32, ym_6_33), (0, ym_8_34, ym_10_35, ym_12_36, (ym_14_37, 0, 0), (ym_16_38, 0, 0), (ym_18_39, ym_20_40, ym_22_41, 0), ym_24_42, ym_26_43)), rfl, hw, (fun i => ([a0, q_1, q_3, q_5, q_7, q_9, q_11, q_13, q_15, q_17, q_19, q_21, q_23, q_25] : List Nat).getD i 0), rfl, by rw [ht]; exact hP, va_K.moved hW.alike hK, hD⟩, hS.F ht⟩) hS.2.2 dX4_init_274
          have hlp177 : ∀ (n_49 : Nat) (ym_2_31 : (Nat → Int32)) (ym_4_32 : (Nat → Int32)) (ym_6_33 : (Nat → Int32)) (ym_8_34 : (Nat → Int32)) (ym_10_35 : (Nat → Int32)) (ym_12_36 : (Nat → Int32)) (ym_14_37 : (Nat → Int32)) (ym_16_38 : (Nat → Int32)) (ym_18_39 : (Nat → Int32)) (ym_20_40 : (Nat → Int32)) (ym_22_41 : (Nat → Int32)) (ym_24_42 : (Nat → Int32)) (ym_26_43 : (Nat → Int32)) (y_44 : Int32) (y_45 : Int32) (x5_46 : Int32) (x4_47 : Int32) (x3_48 : Int32), wp_X4_init_L177 post ex177 x1 x2 n_49 ym_2_31 ym_4_32 ym_6_33 ym_8_34 ym_10_35 ym_12_36 ym_14_37 ym_16_38 ym_18_39 ym_20_40 ym_22_41 ym_24_42 ym_26_43 y_44 y_45 x5_46 x4_47 x3_48 → ∀ (H : Heap) (locs : List Loc) (ls : Array Slot), va_P (dC, dI) vwCl ([(a0, .inr (4, [.int 0, .int x1, .int x2, .int y_44, .ref q_1, .ref q_3, .ref q_5, .int y_45, .ref q_7, .ref q_9, .ref q_11, .ref q_13, .int 0, .int 0, .ref q_15, .int 0, .int 0, .ref q_17, .ref q_19, .ref q_21, .int 0, .ref q_23, .ref q_25])), (q_1, .inl (cI, 8, .inl ym_2_31)), (q_3, .inl (cI, 8, .inl ym_4_32)), (q_5, .inl (cI, 8, .inl ym_6_33)), (q_7, .inl (cI, 1400, .inl ym_8_34)), (q_9, .inl (cI, 2800, .inl ym_10_35)), (q_11, .inl (cZ, 2800, .inl ym_12_36)), (q_13, .inl (cZ, 40000, .inl ym_14_37)), (q_15, .inl (cZ, 40000, .inl ym_16_38)), (q_17, .inl (cI, 8, .inl ym_18_39)), (q_19, .inl (cI, 8, .inl ym_20_40)), (q_21, .inl (cZ, 8, .inl ym_22_41)), (q_23, .inl (cI, 1400, .inl ym_24_42)), (q_25, .inl (cZ, 1400, .inl ym_26_43))]) H → va_D A ([(a0, .inr (4, [.int 0, .int x1, .int x2, .int y_44, .ref q_1, .ref q_3, .ref q_5, .int y_45, .ref q_7, .ref q_9, .ref q_11, .ref q_13, .int 0, .int 0, .ref q_15, .int 0, .int 0, .ref q_17, .ref q_19, .ref q_21, .int 0, .ref q_23, .ref q_25])), (q_1, .inl (cI, 8, .inl ym_2_31)), (q_3, .inl (cI, 8, .inl ym_4_32)), (q_5, .inl (cI, 8, .inl ym_6_33)), (q_7, .inl (cI, 1400, .inl ym_8_34)), (q_9, .inl (cI, 2800, .inl ym_10_35)), (q_11, .inl (cZ, 2800, .inl ym_12_36)), (q_13, .inl (cZ, 40000, .inl ym_14_37)), (q_15, .inl (cZ, 40000, .inl ym_16_38)), (q_17, .inl (cI, 8, .inl ym_18_39)), (q_19, .inl (cI, 8, .inl ym_20_40)), (q_21, .inl (cZ, 8, .inl ym_22_41)), (q_23, .inl (cI, 1400, .inl ym_24_42)), (q_25, .inl (cZ, 1400, .inl ym_26_43))]) → va_S A s.heap H locs → lv_has ls 6 [(5, .int x5_46), (4, .int x4_47), (3, .int x3_48), (0, .ref a0), (1, .int x1), (2, .int x2)] → W p l e (headSpec wsX4_init rm_X4_init).room s m args below meth c H locs 13 89848 (MQ below (va_Qv post (fun (u : vMS × vMM) t => ∃ (am : Nat → Nat), am 0 = a0 ∧ qB (dC, dI) (tysA cI cZ cJ cL) A (wMM cI cZ am u.1 u.2) t) A) args s 13 89848 A) (F0 m 177 ls []) := by
            intro n_49
            induction n_49 with
            | zero => intro _ _ _ _ _ _ _ _ _ _ _ _ _ _ _ _ _ _ hw; exact hw.elim
            | succ n_49 ih177 =>
              intro ym_2_31 ym_4_32 ym_6_33 ym_8_34 ym_10_35 ym_12_36 ym_14_37 ym_16_38 ym_18_39 ym_20_40 ym_22_41 ym_24_42 ym_26_43 y_44 y_45 x5_46 x4_47 x3_48 hw H locs ls hP hD hS hl
              unfold wp_X4_init_L177 at hw
              refine lv_iload hx hb dX4_init_177 (lv_at hl 0 rfl) ?_
              refine lv_if_eq (tgt := 274) hx hb dX4_init_179 (by decide) (fun c_50 => ?_) (fun c_50 => ?_)
              · have hw := hw.1 c_50
                exact hx177 ym_2_31 ym_4_32 ym_6_33 ym_8_34 ym_10_35 ym_12_36 ym_14_37 ym_16_38 ym_18_39 ym_20_40 ym_22_41 ym_24_42 ym_26_43 y_44 y_45 x5_46 x4_47 x3_48 hw _ _ _ hP hD hS (lv_sub hl [0, 1, 2, 3, 4, 5] rfl)
              · have hw := hw.2 c_50
                refine lv_aload_n hx hb dX4_init_182 rfl (lv_at hl 3 rfl) ?_
                refine va_get (D := (dC, dI)) (ci := 4) (v := .ref q_1) (C := RX4) (T := TX4) (N := 23) hx hb hT inX4 hown hK hP 0 rfl rfl 4 (by decide) (hT _ k_162) (fun _ h9 => h9) rfl dX4_init_183 ?_
                refine lv_aload_n hx hb dX4_init_186 rfl (lv_at hl 3 rfl) ?_
                refine va_get (D := (dC, dI)) (ci := 4) (v := .int y_44) (C := RX4) (T := TX4) (N := 23) hx hb hT inX4 hown hK hP 0 rfl rfl 3 (by decide) (hT _ k_179) (fun _ h9 => h9) rfl dX4_init_187 ?_
                refine lv_aload_n hx hb dX4_init_190 rfl (lv_at hl 3 rfl) ?_
                refine va_get (D := (dC, dI)) (ci := 4) (v := .int y_45) (C := RX4) (T := TX4) (N := 23) hx hb hT inX4 hown hK hP 0 rfl rfl 7 (by decide) (hT _ k_180) (fun _ h9 => h9) rfl dX4_init_191 ?_
                obtain ⟨h_51, hw⟩ := hw
                refine va_iast hx hb hK hP hD hS 1 0 rfl rfl h_51 dX4_init_194 (fun H locs hP hD hS => ?_)
                have hP : va_P (dC, dI) vwCl ([(a0, .inr (4, [.int 0, .int x1, .int x2, .int y_44, .ref q_1, .ref q_3, .ref q_5, .int y_45, .ref q_7, .ref q_9, .ref q_11, .ref q_13, .int 0, .int 0, .ref q_15, .int 0, .int 0, .ref q_17, .ref q_19, .ref q_21, .int 0, .ref q_23, .ref q_25])), (q_1, .inl (cI, 8, .inl (upd ym_2_31 y_44.toNatClampNeg y_45))), (q_3, .inl (cI, 8, .inl ym_4_32)), (q_5, .inl (cI, 8, .inl ym_6_33)), (q_7, .inl (cI, 1400, .inl ym_8_34)), (q_9, .inl (cI, 2800, .inl ym_10_35)), (q_11, .inl (cZ, 2800, .inl ym_12_36)), (q_13, .inl (cZ, 40000, .inl ym_14_37)), (q_15, .inl (cZ, 40000, .inl ym_16_38)), (q_17, .inl (cI, 8, .inl ym_18_39)), (q_19, .inl (cI, 8, .inl ym_20_40)), (q_21, .inl (cZ, 8, .inl ym_22_41)), (q_23, .inl (cI, 1400, .inl ym_24_42)), (q_25, .inl (cZ, 1400, .inl ym_26_43))]) H := hP
                have hD : va_D A ([(a0, .inr (4, [.int 0, .int x1, .int x2, .int y_44, .ref q_1, .ref q_3, .ref q_5, .int y_45, .ref q_7, .ref q_9, .ref q_11, .ref q_13, .int 0, .int 0, .ref q_15, .int 0, .int 0, .ref q_17, .ref q_19, .ref q_21, .int 0, .ref q_23, .ref q_25])), (q_1, .inl (cI, 8, .inl (upd ym_2_31 y_44.toNatClampNeg y_45))), (q_3, .inl (cI, 8, .inl ym_4_32)), (q_5, .inl (cI, 8, .inl ym_6_33)), (q_7, .inl (cI, 1400, .inl ym_8_34)), (q_9, .inl (cI, 2800, .inl ym_10_35)), (q_11, .inl (cZ, 2800, .inl ym_12_36)), (q_13, .inl (cZ, 40000, .inl ym_14_37)), (q_15, .inl (cZ, 40000, .inl ym_16_38)), (q_17, .inl (cI, 8, .inl ym_18_39)), (q_19, .inl (cI, 8, .inl ym_20_40)), (q_21, .inl (cZ, 8, .inl ym_22_41)), (q_23, .inl (cI, 1400, .inl ym_24_42)), (q_25, .inl (cZ, 1400, .inl ym_26_43))]) := hD
                refine lv_aload_n hx hb dX4_init_195 rfl (lv_at hl 3 rfl) ?_
                refine va_get (D := (dC, dI)) (ci := 4) (v := .ref q_3) (C := RX4) (T := TX4) (N := 23) hx hb hT inX4 hown hK hP 0 rfl rfl 5 (by decide) (hT _ k_163) (fun _ h9 => h9) rfl dX4_init_196 ?_
                refine lv_aload_n hx hb dX4_init_199 rfl (lv_at hl 3 rfl) ?_
                refine va_get (D := (dC, dI)) (ci := 4) (v := .int y_44) (C := RX4) (T := TX4) (N := 23) hx hb hT inX4 hown hK hP 0 rfl rfl 3 (by decide) (hT _ k_179) (fun _ h9 => h9) rfl dX4_init_200 ?_
                refine lv_iload_n hx hb dX4_init_203 rfl (lv_at hl 2 rfl) ?_
                obtain ⟨h_52, hw⟩ := hw
                refine va_iast hx hb hK hP hD hS 2 0 rfl rfl h_52 dX4_init_204 (fun H locs hP hD hS => ?_)
                have hP : va_P (dC, dI) vwCl ([(a0, .inr (4, [.int 0, .int x1, .int x2, .int y_44, .ref q_1, .ref q_3, .ref q_5, .int y_45, .ref q_7, .ref q_9, .ref q_11, .ref q_13, .int 0, .int 0, .ref q_15, .int 0, .int 0, .ref q_17, .ref q_19, .ref q_21, .int 0, .ref q_23, .ref q_25])), (q_1, .inl (cI, 8, .inl (upd ym_2_31 y_44.toNatClampNeg y_45))), (q_3, .inl (cI, 8, .inl (upd ym_4_32 y_44.toNatClampNeg x3_48))), (q_5, .inl (cI, 8, .inl ym_6_33)), (q_7, .inl (cI, 1400, .inl ym_8_34)), (q_9, .inl (cI, 2800, .inl ym_10_35)), (q_11, .inl (cZ, 2800, .inl ym_12_36)), (q_13, .inl (cZ, 40000, .inl ym_14_37)), (q_15, .inl (cZ, 40000, .inl ym_16_38)), (q_17, .inl (cI, 8, .inl ym_18_39)), (q_19, .inl (cI, 8, .inl ym_20_40)), (q_21, .inl (cZ, 8, .inl ym_22_41)), (q_23, .inl (cI, 1400, .inl ym_24_42)), (q_25, .inl (cZ, 1400, .inl ym_26_43))]) H := hP
                have hD : va_D A ([(a0, .inr (4, [.int 0, .int x1, .int x2, .int y_44, .ref q_1, .ref q_3, .ref q_5, .int y_45, .ref q_7, .ref q_9, .ref q_11, .ref q_13, .int 0, .int 0, .ref q_15, .int 0, .int 0, .ref q_17, .ref q_19, .ref q_21, .int 0, .ref q_23, .ref q_25])), (q_1, .inl (cI, 8, .inl (upd ym_2_31 y_44.toNatClampNeg y_45))), (q_3, .inl (cI, 8, .inl (upd ym_4_32 y_44.toNatClampNeg x3_48))), (q_5, .inl (cI, 8, .inl ym_6_33)), (q_7, .inl (cI, 1400, .inl ym_8_34)), (q_9, .inl (cI, 2800, .inl ym_10_35)), (q_11, .inl (cZ, 2800, .inl ym_12_36)), (q_13, .inl (cZ, 40000, .inl ym_14_37)), (q_15, .inl (cZ, 40000, .inl ym_16_38)), (q_17, .inl (cI, 8, .inl ym_18_39)), (q_19, .inl (cI, 8, .inl ym_20_40)), (q_21, .inl (cZ, 8, .inl ym_22_41)), (q_23, .inl (cI, 1400, .inl ym_24_42)), (q_25, .inl (cZ, 1400, .inl ym_26_43))]) := hD
                refine lv_aload_n hx hb dX4_init_205 rfl (lv_at hl 3 rfl) ?_
                refine va_get (D := (dC, dI)) (ci := 4) (v := .ref q_5) (C := RX4) (T := TX4) (N := 23) hx hb hT inX4 hown hK hP 0 rfl rfl 6 (by decide) (hT _ k_164) (fun _ h9 => h9) rfl dX4_init_206 ?_
                refine lv_aload_n hx hb dX4_init_209 rfl (lv_at hl 3 rfl) ?_
                refine va_get (D := (dC, dI)) (ci := 4) (v := .int y_44) (C := RX4) (T := TX4) (N := 23) hx hb hT inX4 hown hK hP 0 rfl rfl 3 (by decide) (hT _ k_179) (fun _ h9 => h9) rfl dX4_init_210 ?_
                refine lv_iload hx hb dX4_init_213 (lv_at hl 1 rfl) ?_
                obtain ⟨h_53, hw⟩ := hw
                refine va_iast hx hb hK hP hD hS 3 0 rfl rfl h_53 dX4_init_215 (fun H locs hP hD hS => ?_)
                have hP : va_P (dC, dI) vwCl ([(a0, .inr (4, [.int 0, .int x1, .int x2, .int y_44, .ref q_1, .ref q_3, .ref q_5, .int y_45, .ref q_7, .ref q_9, .ref q_11, .ref q_13, .int 0, .int 0, .ref q_15, .int 0, .int 0, .ref q_17, .ref q_19, .ref q_21, .int 0, .ref q_23, .ref q_25])), (q_1, .inl (cI, 8, .inl (upd ym_2_31 y_44.toNatClampNeg y_45))), (q_3, .inl (cI, 8, .inl (upd ym_4_32 y_44.toNatClampNeg x3_48))), (q_5, .inl (cI, 8, .inl (upd ym_6_33 y_44.toNatClampNeg x4_47))), (q_7, .inl (cI, 1400, .inl ym_8_34)), (q_9, .inl (cI, 2800, .inl ym_10_35)), (q_11, .inl (cZ, 2800, .inl ym_12_36)), (q_13, .inl (cZ, 40000, .inl ym_14_37)), (q_15, .inl (cZ, 40000, .inl ym_16_38)), (q_17, .inl (cI, 8, .inl ym_18_39)), (q_19, .inl (cI, 8, .inl ym_20_40)), (q_21, .inl (cZ, 8, .inl ym_22_41)), (q_23, .inl (cI, 1400, .inl ym_24_42)), (q_25, .inl (cZ, 1400, .inl ym_26_43))]) H := hP
                have hD : va_D A ([(a0, .inr (4, [.int 0, .int x1, .int x2, .int y_44, .ref q_1, .ref q_3, .ref q_5, .int y_45, .ref q_7, .ref q_9, .ref q_11, .ref q_13, .int 0, .int 0, .ref q_15, .int 0, .int 0, .ref q_17, .ref q_19, .ref q_21, .int 0, .ref q_23, .ref q_25])), (q_1, .inl (cI, 8, .inl (upd ym_2_31 y_44.toNatClampNeg y_45))), (q_3, .inl (cI, 8, .inl (upd ym_4_32 y_44.toNatClampNeg x3_48))), (q_5, .inl (cI, 8, .inl (upd ym_6_33 y_44.toNatClampNeg x4_47))), (q_7, .inl (cI, 1400, .inl ym_8_34)), (q_9, .inl (cI, 2800, .inl ym_10_35)), (q_11, .inl (cZ, 2800, .inl ym_12_36)), (q_13, .inl (cZ, 40000, .inl ym_14_37)), (q_15, .inl (cZ, 40000, .inl ym_16_38)), (q_17, .inl (cI, 8, .inl ym_18_39)), (q_19, .inl (cI, 8, .inl ym_20_40)), (q_21, .inl (cZ, 8, .inl ym_22_41)), (q_23, .inl (cI, 1400, .inl ym_24_42)), (q_25, .inl (cZ, 1400, .inl ym_26_43))]) := hD
                refine lv_aload_n hx hb dX4_init_216 rfl (lv_at hl 3 rfl) ?_
                refine lv_dup hx hb dX4_init_217 rfl ?_
                refine va_get (D := (dC, dI)) (ci := 4) (v := .int y_45) (C := RX4) (T := TX4) (N := 23) hx hb hT inX4 hown hK hP 0 rfl rfl 7 (by decide) (hT _ k_180) (fun _ h9 => h9) rfl dX4_init_218 ?_
                refine lv_iload_n hx hb dX4_init_221 rfl (lv_at hl 2 rfl) ?_
                refine lv_iload hx hb dX4_init_222 (lv_at hl 1 rfl) ?_
                refine lv_imul hx hb dX4_init_224 ?_
                refine lv_iadd hx hb dX4_init_225 ?_
                refine lv_topi (fun f_54 ef_54 => ?_)
                have hw := hw f_54 ef_54
                refine va_put (D := (dC, dI)) (ci := 4) (v := .int f_54) (ty := .int) (C := RX4) (T := TX4) (N := 23) hx hb hT inX4 tyX4 tyX4_ok nmX4 hown hK hP hD hS 0 rfl rfl 7 (by decide) (hT _ k_180) (fun _ h9 => h9) rfl (by decide +kernel) rfl rfl (Nat.le_of_ble_eq_true rfl) dX4_init_226 (fun H locs hP hD hS => ?_)
                have hP : va_P (dC, dI) vwCl ([(a0, .inr (4, [.int 0, .int x1, .int x2, .int y_44, .ref q_1, .ref q_3, .ref q_5, .int f_54, .ref q_7, .ref q_9, .ref q_11, .ref q_13, .int 0, .int 0, .ref q_15, .int 0, .int 0, .ref q_17, .ref q_19, .ref q_21, .int 0, .ref q_23, .ref q_25])), (q_1, .inl (cI, 8, .inl (upd ym_2_31 y_44.toNatClampNeg y_45))), (q_3, .inl (cI, 8, .inl (upd ym_4_32 y_44.toNatClampNeg x3_48))), (q_5, .inl (cI, 8, .inl (upd ym_6_33 y_44.toNatClampNeg x4_47))), (q_7, .inl (cI, 1400, .inl ym_8_34)), (q_9, .inl (cI, 2800, .inl ym_10_35)), (q_11, .inl (cZ, 2800, .inl ym_12_36)), (q_13, .inl (cZ, 40000, .inl ym_14_37)), (q_15, .inl (cZ, 40000, .inl ym_16_38)), (q_17, .inl (cI, 8, .inl ym_18_39)), (q_19, .inl (cI, 8, .inl ym_20_40)), (q_21, .inl (cZ, 8, .inl ym_22_41)), (q_23, .inl (cI, 1400, .inl ym_24_42)), (q_25, .inl (cZ, 1400, .inl ym_26_43))]) H := hP
                have hD : va_D A ([(a0, .inr (4, [.int 0, .int x1, .int x2, .int y_44, .ref q_1, .ref q_3, .ref q_5, .int f_54, .ref q_7, .ref q_9, .ref q_11, .ref q_13, .int 0, .int 0, .ref q_15, .int 0, .int 0, .ref q_17, .ref q_19, .ref q_21, .int 0, .ref q_23, .ref q_25])), (q_1, .inl (cI, 8, .inl (upd ym_2_31 y_44.toNatClampNeg y_45))), (q_3, .inl (cI, 8, .inl (upd ym_4_32 y_44.toNatClampNeg x3_48))), (q_5, .inl (cI, 8, .inl (upd ym_6_33 y_44.toNatClampNeg x4_47))), (q_7, .inl (cI, 1400, .inl ym_8_34)), (q_9, .inl (cI, 2800, .inl ym_10_35)), (q_11, .inl (cZ, 2800, .inl ym_12_36)), (q_13, .inl (cZ, 40000, .inl ym_14_37)), (q_15, .inl (cZ, 40000, .inl ym_16_38)), (q_17, .inl (cI, 8, .inl ym_18_39)), (q_19, .inl (cI, 8, .inl ym_20_40)), (q_21, .inl (cZ, 8, .inl ym_22_41)), (q_23, .inl (cI, 1400, .inl ym_24_42)), (q_25, .inl (cZ, 1400, .inl ym_26_43))]) := hD
                refine lv_aload_n hx hb dX4_init_229 rfl (lv_at hl 3 rfl) ?_
                refine lv_dup hx hb dX4_init_230 rfl ?_
                refine va_get (D := (dC, dI)) (ci := 4) (v := .int y_44) (C := RX4) (T := TX4) (N := 23) hx hb hT inX4 hown hK hP 0 rfl rfl 3 (by decide) (hT _ k_179) (fun _ h9 => h9) rfl dX4_init_231 ?_
                refine lv_iconst (v := 1) hx hb dX4_init_234 (by decide) ?_
                refine lv_iadd hx hb dX4_init_235 ?_
                refine lv_topi (fun f_55 ef_55 => ?_)
                have hw := hw f_55 ef_55
                refine va_put (D := (dC, dI)) (ci := 4) (v := .int f_55) (ty := .int) (C := RX4) (T := TX4) (N := 23) hx hb hT inX4 tyX4 tyX4_ok nmX4 hown hK hP hD hS 0 rfl rfl 3 (by decide) (hT _ k_179) (fun _ h9 => h9) rfl (by decide +kernel) rfl rfl (Nat.le_of_ble_eq_true rfl) dX4_init_236 (fun H locs hP hD hS => ?_)
                have hP : va_P (dC, dI) vwCl ([(a0, .inr (4, [.int 0, .int x1, .int x2, .int f_55, .ref q_1, .ref q_3, .ref q_5, .int f_54, .ref q_7, .ref q_9, .ref q_11, .ref q_13, .int 0, .int 0, .ref q_15, .int 0, .int 0, .ref q_17, .ref q_19, .ref q_21, .int 0, .ref q_23, .ref q_25])), (q_1, .inl (cI, 8, .inl (upd ym_2_31 y_44.toNatClampNeg y_45))), (q_3, .inl (cI, 8, .inl (upd ym_4_32 y_44.toNatClampNeg x3_48))), (q_5, .inl (cI, 8, .inl (upd ym_6_33 y_44.toNatClampNeg x4_47))), (q_7, .inl (cI, 1400, .inl ym_8_34)), (q_9, .inl (cI, 2800, .inl ym_10_35)), (q_11, .inl (cZ, 2800, .inl ym_12_36)), (q_13, .inl (cZ, 40000, .inl ym_14_37)), (q_15, .inl (cZ, 40000, .inl ym_16_38)), (q_17, .inl (cI, 8, .inl ym_18_39)), (q_19, .inl (cI, 8, .inl ym_20_40)), (q_21, .inl (cZ, 8, .inl ym_22_41)), (q_23, .inl (cI, 1400, .inl ym_24_42)), (q_25, .inl (cZ, 1400, .inl ym_26_43))]) H := hP
                have hD : va_D A ([(a0, .inr (4, [.int 0, .int x1, .int x2, .int f_55, .ref q_1, .ref q_3, .ref q_5, .int f_54, .ref q_7, .ref q_9, .ref q_11, .ref q_13, .int 0, .int 0, .ref q_15, .int 0, .int 0, .ref q_17, .ref q_19, .ref q_21, .int 0, .ref q_23, .ref q_25])), (q_1, .inl (cI, 8, .inl (upd ym_2_31 y_44.toNatClampNeg y_45))), (q_3, .inl (cI, 8, .inl (upd ym_4_32 y_44.toNatClampNeg x3_48))), (q_5, .inl (cI, 8, .inl (upd ym_6_33 y_44.toNatClampNeg x4_47))), (q_7, .inl (cI, 1400, .inl ym_8_34)), (q_9, .inl (cI, 2800, .inl ym_10_35)), (q_11, .inl (cZ, 2800, .inl ym_12_36)), (q_13, .inl (cZ, 40000, .inl ym_14_37)), (q_15, .inl (cZ, 40000, .inl ym_16_38)), (q_17, .inl (cI, 8, .inl ym_18_39)), (q_19, .inl (cI, 8, .inl ym_20_40)), (q_21, .inl (cZ, 8, .inl ym_22_41)), (q_23, .inl (cI, 1400, .inl ym_24_42)), (q_25, .inl (cZ, 1400, .inl ym_26_43))]) := hD
                refine lv_iload_n hx hb dX4_init_239 rfl (lv_at hl 2 rfl) ?_
                refine lv_iconst (v := 1) hx hb dX4_init_240 (by decide) ?_
                refine lv_icmp_gt (tgt := 250) hx hb dX4_init_241 (by decide) (fun c_56 => ?_) (fun c_56 => ?_)
                · have hw := hw.1 c_56
                  refine lv_iconst (v := 1) hx hb dX4_init_250 (by decide) ?_
                  refine lv_goto (tgt := 255) hx hb dX4_init_251 (by decide) ?_
                  refine lv_istore (lv' := [(5, .int 1), (4, .int x4_47), (3, .int x3_48), (0, .ref a0), (1, .int x1), (2, .int x2)]) hx hb dX4_init_255 hl (by decide) rfl (fun ls hl => ?_)
                  refine lv_iload_n hx hb dX4_init_257 rfl (lv_at hl 2 rfl) ?_
                  refine lv_iconst (v := 1) hx hb dX4_init_258 (by decide) ?_
                  refine lv_iadd hx hb dX4_init_259 ?_
                  refine lv_iconst (v := 2) hx hb dX4_init_260 (by decide) ?_
                  obtain ⟨h_57, hw⟩ := hw
                  refine lv_idiv hx hb dX4_init_261 h_57 ?_
                  refine lv_topi (fun x3_58 ex3_58 => ?_)
                  have hw := hw x3_58 ex3_58
                  refine lv_istore_n (lv' := [(3, .int x3_58), (5, .int 1), (4, .int x4_47), (0, .ref a0), (1, .int x1), (2, .int x2)]) hx hb dX4_init_262 rfl hl (by decide) rfl (fun ls hl => ?_)
                  refine lv_iload hx hb dX4_init_263 (lv_at hl 2 rfl) ?_
                  refine lv_iconst (v := 1) hx hb dX4_init_265 (by decide) ?_
                  refine lv_iadd hx hb dX4_init_266 ?_
                  refine lv_iconst (v := 2) hx hb dX4_init_267 (by decide) ?_
                  obtain ⟨h_59, hw⟩ := hw
                  refine lv_idiv hx hb dX4_init_268 h_59 ?_
                  refine lv_topi (fun x4_60 ex4_60 => ?_)
                  have hw := hw x4_60 ex4_60
                  refine lv_istore (lv' := [(4, .int x4_60), (3, .int x3_58), (5, .int 1), (0, .ref a0), (1, .int x1), (2, .int x2)]) hx hb dX4_init_269 hl (by decide) rfl (fun ls hl => ?_)
                  refine lv_goto (tgt := 177) hx hb dX4_init_271 (by decide) ?_
                  exact ih177 (upd ym_2_31 y_44.toNatClampNeg y_45) (upd ym_4_32 y_44.toNatClampNeg x3_48) (upd ym_6_33 y_44.toNatClampNeg x4_47) ym_8_34 ym_10_35 ym_12_36 ym_14_37 ym_16_38 ym_18_39 ym_20_40 ym_22_41 ym_24_42 ym_26_43 f_55 f_54 1 x4_60 x3_58 hw _ _ _ hP hD hS (lv_sub hl [2, 0, 1, 3, 4, 5] rfl)
                · have hw := hw.2 c_56
                  refine lv_iload hx hb dX4_init_244 (lv_at hl 1 rfl) ?_
                  refine lv_iconst (v := 1) hx hb dX4_init_246 (by decide) ?_
                  refine lv_icmp_le (tgt := 254) hx hb dX4_init_247 (by decide) (fun c_61 => ?_) (fun c_61 => ?_)
                  · have hw := hw.1 c_61
                    refine lv_iconst (v := 0) hx hb dX4_init_254 (by decide) ?_
                    refine lv_istore (lv' := [(5, .int 0), (4, .int x4_47), (3, .int x3_48), (0, .ref a0), (1, .int x1), (2, .int x2)]) hx hb dX4_init_255 hl (by decide) rfl (fun ls hl => ?_)
                    refine lv_iload_n hx hb dX4_init_257 rfl (lv_at hl 2 rfl) ?_
                    refine lv_iconst (v := 1) hx hb dX4_init_258 (by decide) ?_
                    refine lv_iadd hx hb dX4_init_259 ?_
                    refine lv_iconst (v := 2) hx hb dX4_init_260 (by decide) ?_
                    obtain ⟨h_62, hw⟩ := hw
                    refine lv_idiv hx hb dX4_init_261 h_62 ?_
                    refine lv_topi (fun x3_63 ex3_63 => ?_)
                    have hw := hw x3_63 ex3_63
                    refine lv_istore_n (lv' := [(3, .int x3_63), (5, .int 0), (4, .int x4_47), (0, .ref a0), (1, .int x1), (2, .int x2)]) hx hb dX4_init_262 rfl hl (by decide) rfl (fun ls hl => ?_)
                    refine lv_iload hx hb dX4_init_263 (lv_at hl 2 rfl) ?_
                    refine lv_iconst (v := 1) hx hb dX4_init_265 (by decide) ?_
                    refine lv_iadd hx hb dX4_init_266 ?_
                    refine lv_iconst (v := 2) hx hb dX4_init_267 (by decide) ?_
                    obtain ⟨h_64, hw⟩ := hw
                    refine lv_idiv hx hb dX4_init_268 h_64 ?_
                    refine lv_topi (fun x4_65 ex4_65 => ?_)
                    have hw := hw x4_65 ex4_65
                    refine lv_istore (lv' := [(4, .int x4_65), (3, .int x3_63), (5, .int 0), (0, .ref a0), (1, .int x1), (2, .int x2)]) hx hb dX4_init_269 hl (by decide) rfl (fun ls hl => ?_)
                    refine lv_goto (tgt := 177) hx hb dX4_init_271 (by decide) ?_
                    exact ih177 (upd ym_2_31 y_44.toNatClampNeg y_45) (upd ym_4_32 y_44.toNatClampNeg x3_48) (upd ym_6_33 y_44.toNatClampNeg x4_47) ym_8_34 ym_10_35 ym_12_36 ym_14_37 ym_16_38 ym_18_39 ym_20_40 ym_22_41 ym_24_42 ym_26_43 f_55 f_54 0 x4_65 x3_63 hw _ _ _ hP hD hS (lv_sub hl [2, 0, 1, 3, 4, 5] rfl)
                  · have hw := hw.2 c_61
                    refine lv_iconst (v := 1) hx hb dX4_init_250 (by decide) ?_
                    refine lv_goto (tgt := 255) hx hb dX4_init_251 (by decide) ?_
                    refine lv_istore (lv' := [(5, .int 1), (4, .int x4_47), (3, .int x3_48), (0, .ref a0), (1, .int x1), (2, .int x2)]) hx hb dX4_init_255 hl (by decide) rfl (fun ls hl => ?_)
                    refine lv_iload_n hx hb dX4_init_257 rfl (lv_at hl 2 rfl) ?_
                    refine lv_iconst (v := 1) hx hb dX4_init_258 (by decide) ?_
                    refine lv_iadd hx hb dX4_init_259 ?_
                    refine lv_iconst (v := 2) hx hb dX4_init_260 (by decide) ?_
                    obtain ⟨h_66, hw⟩ := hw
                    refine lv_idiv hx hb dX4_init_261 h_66 ?_
                    refine lv_topi (fun x3_67 ex3_67 => ?_)
                    have hw := hw x3_67 ex3_67
                    refine lv_istore_n (lv' := [(3, .int x3_67), (5, .int 1), (4, .int x4_47), (0, .ref a0), (1, .int x1), (2, .int x2)]) hx hb dX4_init_262 rfl hl (by decide) rfl (fun ls hl => ?_)
                    refine lv_iload hx hb dX4_init_263 (lv_at hl 2 rfl) ?_
                    refine lv_iconst (v := 1) hx hb dX4_init_265 (by decide) ?_
                    refine lv_iadd hx hb dX4_init_266 ?_
                    refine lv_iconst (v := 2) hx hb dX4_init_267 (by decide) ?_
                    obtain ⟨h_68, hw⟩ := hw
                    refine lv_idiv hx hb dX4_init_268 h_68 ?_
                    refine lv_topi (fun x4_69 ex4_69 => ?_)
                    have hw := hw x4_69 ex4_69
                    refine lv_istore (lv' := [(4, .int x4_69), (3, .int x3_67), (5, .int 1), (0, .ref a0), (1, .int x1), (2, .int x2)]) hx hb dX4_init_269 hl (by decide) rfl (fun ls hl => ?_)
                    refine lv_goto (tgt := 177) hx hb dX4_init_271 (by decide) ?_
                    exact ih177 (upd ym_2_31 y_44.toNatClampNeg y_45) (upd ym_4_32 y_44.toNatClampNeg x3_48) (upd ym_6_33 y_44.toNatClampNeg x4_47) ym_8_34 ym_10_35 ym_12_36 ym_14_37 ym_16_38 ym_18_39 ym_20_40 ym_22_41 ym_24_42 ym_26_43 f_55 f_54 1 x4_69 x3_67 hw _ _ _ hP hD hS (lv_sub hl [2, 0, 1, 3, 4, 5] rfl)
          exact hlp177 n_49 (fun _ => 0) (fun _ => 0) (fun _ => 0) (fun _ => 0) (fun _ => 0) (fun _ => 0) (fun _ => 0) (fun _ => 0) (fun _ => 0) (fun _ => 0) (fun _ => 0) (fun _ => 0) (fun _ => 0) 0 0 1 x2 x1 hw _ _ _ hP hD hS (lv_sub hl [0, 1, 2, 3, 4, 5] rfl)
        · have hw := hw.2 c_30
          refine lv_bipush (v := 32) hx hb dX4_init_154 (by decide) ?_
          refine lv_goto (tgt := 160) hx hb dX4_init_156 (by decide) ?_
          refine va_putF (D := (dC, dI)) (ci := 4) (v := .int 32) (ty := .int) (C := RX4) (T := TX4) (N := 23) hx hb hT inX4 tyX4 tyX4_ok nmX4 hown hK hP hD hS 0 rfl rfl 2 (by decide) (hT _ k_178) (fun _ h9 => h9) rfl hin rfl (by decide +kernel) rfl rfl (Nat.le_of_ble_eq_true rfl) dX4_init_160 (fun H locs hP hD hS => ?_)
          have hP : va_P (dC, dI) vwCl ([(a0, .inr (4, [.int 0, .int x1, .int 32, .int 0, .ref q_1, .ref q_3, .ref q_5, .int 0, .ref q_7, .ref q_9, .ref q_11, .ref q_13, .int 0, .int 0, .ref q_15, .int 0, .int 0, .ref q_17, .ref q_19, .ref q_21, .int 0, .ref q_23, .ref q_25])), (q_1, .inl (cI, 8, .inl (fun _ => 0))), (q_3, .inl (cI, 8, .inl (fun _ => 0))), (q_5, .inl (cI, 8, .inl (fun _ => 0))), (q_7, .inl (cI, 1400, .inl (fun _ => 0))), (q_9, .inl (cI, 2800, .inl (fun _ => 0))), (q_11, .inl (cZ, 2800, .inl (fun _ => 0))), (q_13, .inl (cZ, 40000, .inl (fun _ => 0))), (q_15, .inl (cZ, 40000, .inl (fun _ => 0))), (q_17, .inl (cI, 8, .inl (fun _ => 0))), (q_19, .inl (cI, 8, .inl (fun _ => 0))), (q_21, .inl (cZ, 8, .inl (fun _ => 0))), (q_23, .inl (cI, 1400, .inl (fun _ => 0))), (q_25, .inl (cZ, 1400, .inl (fun _ => 0)))]) H := hP
          have hD : va_D A ([(a0, .inr (4, [.int 0, .int x1, .int 32, .int 0, .ref q_1, .ref q_3, .ref q_5, .int 0, .ref q_7, .ref q_9, .ref q_11, .ref q_13, .int 0, .int 0, .ref q_15, .int 0, .int 0, .ref q_17, .ref q_19, .ref q_21, .int 0, .ref q_23, .ref q_25])), (q_1, .inl (cI, 8, .inl (fun _ => 0))), (q_3, .inl (cI, 8, .inl (fun _ => 0))), (q_5, .inl (cI, 8, .inl (fun _ => 0))), (q_7, .inl (cI, 1400, .inl (fun _ => 0))), (q_9, .inl (cI, 2800, .inl (fun _ => 0))), (q_11, .inl (cZ, 2800, .inl (fun _ => 0))), (q_13, .inl (cZ, 40000, .inl (fun _ => 0))), (q_15, .inl (cZ, 40000, .inl (fun _ => 0))), (q_17, .inl (cI, 8, .inl (fun _ => 0))), (q_19, .inl (cI, 8, .inl (fun _ => 0))), (q_21, .inl (cZ, 8, .inl (fun _ => 0))), (q_23, .inl (cI, 1400, .inl (fun _ => 0))), (q_25, .inl (cZ, 1400, .inl (fun _ => 0)))]) := hD
          refine lv_aload_n hx hb dX4_init_163 rfl (lv_at hl 0 rfl) ?_
          refine va_get (D := (dC, dI)) (ci := 4) (v := .int x1) (C := RX4) (T := TX4) (N := 23) hx hb hT inX4 hown hK hP 0 rfl rfl 1 (by decide) (hT _ k_177) (fun _ h9 => h9) rfl dX4_init_164 ?_
          refine lv_istore_n (lv' := [(3, .int x1), (0, .ref a0), (1, .int x1), (2, .int x2)]) hx hb dX4_init_167 rfl hl (by decide) rfl (fun ls hl => ?_)
          refine lv_aload_n hx hb dX4_init_168 rfl (lv_at hl 1 rfl) ?_
          refine va_get (D := (dC, dI)) (ci := 4) (v := .int 32) (C := RX4) (T := TX4) (N := 23) hx hb hT inX4 hown hK hP 0 rfl rfl 2 (by decide) (hT _ k_178) (fun _ h9 => h9) rfl dX4_init_169 ?_
          refine lv_istore (lv' := [(4, .int 32), (3, .int x1), (0, .ref a0), (1, .int x1), (2, .int x2)]) hx hb dX4_init_172 hl (by decide) rfl (fun ls hl => ?_)
          refine lv_iconst (v := 1) hx hb dX4_init_174 (by decide) ?_
          refine lv_istore (lv' := [(5, .int 1), (4, .int 32), (3, .int x1), (0, .ref a0), (1, .int x1), (2, .int x2)]) hx hb dX4_init_175 hl (by decide) rfl (fun ls hl => ?_)
          obtain ⟨n_88, hw⟩ := hw
          obtain ⟨ex177_1, eex177_1⟩ : ∃ z : (Nat → Int32) → (Nat → Int32) → (Nat → Int32) → (Nat → Int32) → (Nat → Int32) → (Nat → Int32) → (Nat → Int32) → (Nat → Int32) → (Nat → Int32) → (Nat → Int32) → (Nat → Int32) → (Nat → Int32) → (Nat → Int32) → Int32 → Int32 → Int32 → Int32 → Int32 → Prop, z = (fun (ym_2_70 : (Nat → Int32)) (ym_4_71 : (Nat → Int32)) (ym_6_72 : (Nat → Int32)) (ym_8_73 : (Nat → Int32)) (ym_10_74 : (Nat → Int32)) (ym_12_75 : (Nat → Int32)) (ym_14_76 : (Nat → Int32)) (ym_16_77 : (Nat → Int32)) (ym_18_78 : (Nat → Int32)) (ym_20_79 : (Nat → Int32)) (ym_22_80 : (Nat → Int32)) (ym_24_81 : (Nat → Int32)) (ym_26_82 : (Nat → Int32)) (y_83 : Int32) (y_84 : Int32) (x5_85 : Int32) (x4_86 : Int32) (x3_87 : Int32) => post (((x1, 32, y_83, y_84), ym_2_70, ym_4_71, ym_6_72), (0, ym_8_73, ym_10_74, ym_12_75, (ym_14_76, 0, 0), (ym_16_77, 0, 0), (ym_18_78, ym_20_79, ym_22_80, 0), ym_24_81, ym_26_82))) := ⟨_, rfl⟩
          rw [← eex177_1] at hw
          have hx177_1 : ∀ (ym_2_70 : (Nat → Int32)) (ym_4_71 : (Nat → Int32)) (ym_6_72 : (Nat → Int32)) (ym_8_73 : (Nat → Int32)) (ym_10_74 : (Nat → Int32)) (ym_12_75 : (Nat → Int32)) (ym_14_76 : (Nat → Int32)) (ym_16_77 : (Nat → Int32)) (ym_18_78 : (Nat → Int32)) (ym_20_79 : (Nat → Int32)) (ym_22_80 : (Nat → Int32)) (ym_24_81 : (Nat → Int32)) (ym_26_82 : (Nat → Int32)) (y_83 : Int32) (y_84 : Int32) (x5_85 : Int32) (x4_86 : Int32) (x3_87 : Int32), ex177_1 ym_2_70 ym_4_71 ym_6_72 ym_8_73 ym_10_74 ym_12_75 ym_14_76 ym_16_77 ym_18_78 ym_20_79 ym_22_80 ym_24_81 ym_26_82 y_83 y_84 x5_85 x4_86 x3_87 → ∀ (H : Heap) (locs : List Loc) (ls : Array Slot), va_P (dC, dI) vwCl ([(a0, .inr (4, [.int 0, .int x1, .int 32, .int y_83, .ref q_1, .ref q_3, .ref q_5, .int y_84, .ref q_7, .ref q_9, .ref q_11, .ref q_13, .int 0, .int 0, .ref q_15, .int 0, .int 0, .ref q_17, .ref q_19, .ref q_21, .int 0, .ref q_23, .ref q_25])), (q_1, .inl (cI, 8, .inl ym_2_70)), (q_3, .inl (cI, 8, .inl ym_4_71)), (q_5, .inl (cI, 8, .inl ym_6_72)), (q_7, .inl (cI, 1400, .inl ym_8_73)), (q_9, .inl (cI, 2800, .inl ym_10_74)), (q_11, .inl (cZ, 2800, .inl ym_12_75)), (q_13, .inl (cZ, 40000, .inl ym_14_76)), (q_15, .inl (cZ, 40000, .inl ym_16_77)), (q_17, .inl (cI, 8, .inl ym_18_78)), (q_19, .inl (cI, 8, .inl ym_20_79)), (q_21, .inl (cZ, 8, .inl ym_22_80)), (q_23, .inl (cI, 1400, .inl ym_24_81)), (q_25, .inl (cZ, 1400, .inl ym_26_82))]) H → va_D A ([(a0, .inr (4, [.int 0, .int x1, .int 32, .int y_83, .ref q_1, .ref q_3, .ref q_5, .int y_84, .ref q_7, .ref q_9, .ref q_11, .ref q_13, .int 0, .int 0, .ref q_15, .int 0, .int 0, .ref q_17, .ref q_19, .ref q_21, .int 0, .ref q_23, .ref q_25])), (q_1, .inl (cI, 8, .inl ym_2_70)), (q_3, .inl (cI, 8, .inl ym_4_71)), (q_5, .inl (cI, 8, .inl ym_6_72)), (q_7, .inl (cI, 1400, .inl ym_8_73)), (q_9, .inl (cI, 2800, .inl ym_10_74)), (q_11, .inl (cZ, 2800, .inl ym_12_75)), (q_13, .inl (cZ, 40000, .inl ym_14_76)), (q_15, .inl (cZ, 40000, .inl ym_16_77)), (q_17, .inl (cI, 8, .inl ym_18_78)), (q_19, .inl (cI, 8, .inl ym_20_79)), (q_21, .inl (cZ, 8, .inl ym_22_80)), (q_23, .inl (cI, 1400, .inl ym_24_81)), (q_25, .inl (cZ, 1400, .inl ym_26_82))]) → va_S A s.heap H locs → lv_has ls 6 [(5, .int x5_85), (4, .int x4_86), (3, .int x3_87), (0, .ref a0), (1, .int x1), (2, .int x2)] → W p l e (headSpec wsX4_init rm_X4_init).room s m args below meth c H locs 13 89848 (MQ below (va_Qv post (fun (u : vMS × vMM) t => ∃ (am : Nat → Nat), am 0 = a0 ∧ qB (dC, dI) (tysA cI cZ cJ cL) A (wMM cI cZ am u.1 u.2) t) A) args s 13 89848 A) (F0 m 274 ls []) := by
            intro ym_2_70 ym_4_71 ym_6_72 ym_8_73 ym_10_74 ym_12_75 ym_14_76 ym_16_77 ym_18_78 ym_20_79 ym_22_80 ym_24_81 ym_26_82 y_83 y_84 x5_85 x4_86 x3_87 hw H locs ls hP hD hS hl
            rw [eex177_1] at hw
            try dsimp only at hw
            have hP := hP.sub (ws' := (wMM cI cZ (fun i => ([a0, q_1, q_3, q_5, q_7, q_9, q_11, q_13, q_15, q_17, q_19, q_21, q_23, q_25] : List Nat).getD i 0) (((x1, 32, y_83, y_84), ym_2_70, ym_4_71, ym_6_72), (0, ym_8_73, ym_10_74, ym_12_75, (ym_14_76, 0, 0), (ym_16_77, 0, 0), (ym_18_78, ym_20_79, ym_22_80, 0), ym_24_81, ym_26_82)).1 (((x1, 32, y_83, y_84), ym_2_70, ym_4_71, ym_6_72), (0, ym_8_73, ym_10_74, ym_12_75, (ym_14_76, 0, 0), (ym_16_77, 0, 0), (ym_18_78, ym_20_79, ym_22_80, 0), ym_24_81, ym_26_82)).2)) [0, 1, 2, 3, 4, 5, 6, 7, 8, 9, 10, 11, 12, 13] rfl
            have hD := hD.sub (ws' := (wMM cI cZ (fun i => ([a0, q_1, q_3, q_5, q_7, q_9, q_11, q_13, q_15, q_17, q_19, q_21, q_23, q_25] : List Nat).getD i 0) (((x1, 32, y_83, y_84), ym_2_70, ym_4_71, ym_6_72), (0, ym_8_73, ym_10_74, ym_12_75, (ym_14_76, 0, 0), (ym_16_77, 0, 0), (ym_18_78, ym_20_79, ym_22_80, 0), ym_24_81, ym_26_82)).1 (((x1, 32, y_83, y_84), ym_2_70, ym_4_71, ym_6_72), (0, ym_8_73, ym_10_74, ym_12_75, (ym_14_76, 0, 0), (ym_16_77, 0, 0), (ym_18_78, ym_20_79, ym_22_80, 0), ym_24_81, ym_26_82)).2)) [0, 1, 2, 3, 4, 5, 6, 7, 8, 9, 10, 11, 12, 13] (by decide) rfl
            exact W.vret hx hb hr (fun t ht hW => ⟨⟨(((x1, 32, y_83, y_84), ym_2_70, ym_4_71, ym_6_72), (0, ym_8_73, ym_10_74, ym_12_75, (ym_14_76, 0, 0), (ym_16_77, 0, 0), (ym_18_78, ym_20_79, ym_22_80, 0), ym_24_81, ym_26_82)), rfl, hw, (fun i => ([a0, q_1, q_3, q_5, q_7, q_9, q_11, q_13, q_15, q_17, q_19, q_21, q_23, q_25] : List Nat).getD i 0), rfl, by rw [ht]; exact hP, va_K.moved hW.alike hK, hD⟩, hS.F ht⟩) hS.2.2 dX4_init_274
          have hlp177_1 : ∀ (n_88 : Nat) (ym_2_70 : (Nat → Int32)) (ym_4_71 : (Nat → Int32)) (ym_6_72 : (Nat → Int32)) (ym_8_73 : (Nat → Int32)) (ym_10_74 : (Nat → Int32)) (ym_12_75 : (Nat → Int32)) (ym_14_76 : (Nat → Int32)) (ym_16_77 : (Nat → Int32)) (ym_18_78 : (Nat → Int32)) (ym_20_79 : (Nat → Int32)) (ym_22_80 : (Nat → Int32)) (ym_24_81 : (Nat → Int32)) (ym_26_82 : (Nat → Int32)) (y_83 : Int32) (y_84 : Int32) (x5_85 : Int32) (x4_86 : Int32) (x3_87 : Int32), wp_X4_init_L177_1 post ex177_1 x1 x2 n_88 ym_2_70 ym_4_71 ym_6_72 ym_8_73 ym_10_74 ym_12_75 ym_14_76 ym_16_77 ym_18_78 ym_20_79 ym_22_80 ym_24_81 ym_26_82 y_83 y_84 x5_85 x4_86 x3_87 → ∀ (H : Heap) (locs : List Loc) (ls : Array Slot), va_P (dC, dI) vwCl ([(a0, .inr (4, [.int 0, .int x1, .int 32, .int y_83, .ref q_1, .ref q_3, .ref q_5, .int y_84, .ref q_7, .ref q_9, .ref q_11, .ref q_13, .int 0, .int 0, .ref q_15, .int 0, .int 0, .ref q_17, .ref q_19, .ref q_21, .int 0, .ref q_23, .ref q_25])), (q_1, .inl (cI, 8, .inl ym_2_70)), (q_3, .inl (cI, 8, .inl ym_4_71)), (q_5, .inl (cI, 8, .inl ym_6_72)), (q_7, .inl (cI, 1400, .inl ym_8_73)), (q_9, .inl (cI, 2800, .inl ym_10_74)), (q_11, .inl (cZ, 2800, .inl ym_12_75)), (q_13, .inl (cZ, 40000, .inl ym_14_76)), (q_15, .inl (cZ, 40000, .inl ym_16_77)), (q_17, .inl (cI, 8, .inl ym_18_78)), (q_19, .inl (cI, 8, .inl ym_20_79)), (q_21, .inl (cZ, 8, .inl ym_22_80)), (q_23, .inl (cI, 1400, .inl ym_24_81)), (q_25, .inl (cZ, 1400, .inl ym_26_82))]) H → va_D A ([(a0, .inr (4, [.int 0, .int x1, .int 32, .int y_83, .ref q_1, .ref q_3, .ref q_5, .int y_84, .ref q_7, .ref q_9, .ref q_11, .ref q_13, .int 0, .int 0, .ref q_15, .int 0, .int 0, .ref q_17, .ref q_19, .ref q_21, .int 0, .ref q_23, .ref q_25])), (q_1, .inl (cI, 8, .inl ym_2_70)), (q_3, .inl (cI, 8, .inl ym_4_71)), (q_5, .inl (cI, 8, .inl ym_6_72)), (q_7, .inl (cI, 1400, .inl ym_8_73)), (q_9, .inl (cI, 2800, .inl ym_10_74)), (q_11, .inl (cZ, 2800, .inl ym_12_75)), (q_13, .inl (cZ, 40000, .inl ym_14_76)), (q_15, .inl (cZ, 40000, .inl ym_16_77)), (q_17, .inl (cI, 8, .inl ym_18_78)), (q_19, .inl (cI, 8, .inl ym_20_79)), (q_21, .inl (cZ, 8, .inl ym_22_80)), (q_23, .inl (cI, 1400, .inl ym_24_81)), (q_25, .inl (cZ, 1400, .inl ym_26_82))]) → va_S A s.heap H locs → lv_has ls 6 [(5, .int x5_85), (4, .int x4_86), (3, .int x3_87), (0, .ref a0), (1, .int x1), (2, .int x2)] → W p l e (headSpec wsX4_init rm_X4_init).room s m args below meth c H locs 13 89848 (MQ below (va_Qv post (fun (u : vMS × vMM) t => ∃ (am : Nat → Nat), am 0 = a0 ∧ qB (dC, dI) (tysA cI cZ cJ cL) A (wMM cI cZ am u.1 u.2) t) A) args s 13 89848 A) (F0 m 177 ls []) := by
            intro n_88
            induction n_88 with
            | zero => intro _ _ _ _ _ _ _ _ _ _ _ _ _ _ _ _ _ _ hw; exact hw.elim
            | succ n_88 ih177_1 =>
              intro ym_2_70 ym_4_71 ym_6_72 ym_8_73 ym_10_74 ym_12_75 ym_14_76 ym_16_77 ym_18_78 ym_20_79 ym_22_80 ym_24_81 ym_26_82 y_83 y_84 x5_85 x4_86 x3_87 hw H locs ls hP hD hS hl
              unfold wp_X4_init_L177_1 at hw
              refine lv_iload hx hb dX4_init_177 (lv_at hl 0 rfl) ?_
              refine lv_if_eq (tgt := 274) hx hb dX4_init_179 (by decide) (fun c_89 => ?_) (fun c_89 => ?_)
              · have hw := hw.1 c_89
                exact hx177_1 ym_2_70 ym_4_71 ym_6_72 ym_8_73 ym_10_74 ym_12_75 ym_14_76 ym_16_77 ym_18_78 ym_20_79 ym_22_80 ym_24_81 ym_26_82 y_83 y_84 x5_85 x4_86 x3_87 hw _ _ _ hP hD hS (lv_sub hl [0, 1, 2, 3, 4, 5] rfl)
              · have hw := hw.2 c_89
                refine lv_aload_n hx hb dX4_init_182 rfl (lv_at hl 3 rfl) ?_
                refine va_get (D := (dC, dI)) (ci := 4) (v := .ref q_1) (C := RX4) (T := TX4) (N := 23) hx hb hT inX4 hown hK hP 0 rfl rfl 4 (by decide) (hT _ k_162) (fun _ h9 => h9) rfl dX4_init_183 ?_
                refine lv_aload_n hx hb dX4_init_186 rfl (lv_at hl 3 rfl) ?_
                refine va_get (D := (dC, dI)) (ci := 4) (v := .int y_83) (C := RX4) (T := TX4) (N := 23) hx hb hT inX4 hown hK hP 0 rfl rfl 3 (by decide) (hT _ k_179) (fun _ h9 => h9) rfl dX4_init_187 ?_
                refine lv_aload_n hx hb dX4_init_190 rfl (lv_at hl 3 rfl) ?_
                refine va_get (D := (dC, dI)) (ci := 4) (v := .int y_84) (C := RX4) (T := TX4) (N := 23) hx hb hT inX4 hown hK hP 0 rfl rfl 7 (by decide) (hT _ k_180) (fun _ h9 => h9) rfl dX4_init_191 ?_
                obtain ⟨h_90, hw⟩ := hw
                refine va_iast hx hb hK hP hD hS 1 0 rfl rfl h_90 dX4_init_194 (fun H locs hP hD hS => ?_)
                have hP : va_P (dC, dI) vwCl ([(a0, .inr (4, [.int 0, .int x1, .int 32, .int y_83, .ref q_1, .ref q_3, .ref q_5, .int y_84, .ref q_7, .ref q_9, .ref q_11, .ref q_13, .int 0, .int 0, .ref q_15, .int 0, .int 0, .ref q_17, .ref q_19, .ref q_21, .int 0, .ref q_23, .ref q_25])), (q_1, .inl (cI, 8, .inl (upd ym_2_70 y_83.toNatClampNeg y_84))), (q_3, .inl (cI, 8, .inl ym_4_71)), (q_5, .inl (cI, 8, .inl ym_6_72)), (q_7, .inl (cI, 1400, .inl ym_8_73)), (q_9, .inl (cI, 2800, .inl ym_10_74)), (q_11, .inl (cZ, 2800, .inl ym_12_75)), (q_13, .inl (cZ, 40000, .inl ym_14_76)), (q_15, .inl (cZ, 40000, .inl ym_16_77)), (q_17, .inl (cI, 8, .inl ym_18_78)), (q_19, .inl (cI, 8, .inl ym_20_79)), (q_21, .inl (cZ, 8, .inl ym_22_80)), (q_23, .inl (cI, 1400, .inl ym_24_81)), (q_25, .inl (cZ, 1400, .inl ym_26_82))]) H := hP
                have hD : va_D A ([(a0, .inr (4, [.int 0, .int x1, .int 32, .int y_83, .ref q_1, .ref q_3, .ref q_5, .int y_84, .ref q_7, .ref q_9, .ref q_11, .ref q_13, .int 0, .int 0, .ref q_15, .int 0, .int 0, .ref q_17, .ref q_19, .ref q_21, .int 0, .ref q_23, .ref q_25])), (q_1, .inl (cI, 8, .inl (upd ym_2_70 y_83.toNatClampNeg y_84))), (q_3, .inl (cI, 8, .inl ym_4_71)), (q_5, .inl (cI, 8, .inl ym_6_72)), (q_7, .inl (cI, 1400, .inl ym_8_73)), (q_9, .inl (cI, 2800, .inl ym_10_74)), (q_11, .inl (cZ, 2800, .inl ym_12_75)), (q_13, .inl (cZ, 40000, .inl ym_14_76)), (q_15, .inl (cZ, 40000, .inl ym_16_77)), (q_17, .inl (cI, 8, .inl ym_18_78)), (q_19, .inl (cI, 8, .inl ym_20_79)), (q_21, .inl (cZ, 8, .inl ym_22_80)), (q_23, .inl (cI, 1400, .inl ym_24_81)), (q_25, .inl (cZ, 1400, .inl ym_26_82))]) := hD
                refine lv_aload_n hx hb dX4_init_195 rfl (lv_at hl 3 rfl) ?_
                refine va_get (D := (dC, dI)) (ci := 4) (v := .ref q_3) (C := RX4) (T := TX4) (N := 23) hx hb hT inX4 hown hK hP 0 rfl rfl 5 (by decide) (hT _ k_163) (fun _ h9 => h9) rfl dX4_init_196 ?_
                refine lv_aload_n hx hb dX4_init_199 rfl (lv_at hl 3 rfl) ?_
                refine va_get (D := (dC, dI)) (ci := 4) (v := .int y_83) (C := RX4) (T := TX4) (N := 23) hx hb hT inX4 hown hK hP 0 rfl rfl 3 (by decide) (hT _ k_179) (fun _ h9 => h9) rfl dX4_init_200 ?_
                refine lv_iload_n hx hb dX4_init_203 rfl (lv_at hl 2 rfl) ?_
                obtain ⟨h_91, hw⟩ := hw
                refine va_iast hx hb hK hP hD hS 2 0 rfl rfl h_91 dX4_init_204 (fun H locs hP hD hS => ?_)
                have hP : va_P (dC, dI) vwCl ([(a0, .inr (4, [.int 0, .int x1, .int 32, .int y_83, .ref q_1, .ref q_3, .ref q_5, .int y_84, .ref q_7, .ref q_9, .ref q_11, .ref q_13, .int 0, .int 0, .ref q_15, .int 0, .int 0, .ref q_17, .ref q_19, .ref q_21, .int 0, .ref q_23, .ref q_25])), (q_1, .inl (cI, 8, .inl (upd ym_2_70 y_83.toNatClampNeg y_84))), (q_3, .inl (cI, 8, .inl (upd ym_4_71 y_83.toNatClampNeg x3_87))), (q_5, .inl (cI, 8, .inl ym_6_72)), (q_7, .inl (cI, 1400, .inl ym_8_73)), (q_9, .inl (cI, 2800, .inl ym_10_74)), (q_11, .inl (cZ, 2800, .inl ym_12_75)), (q_13, .inl (cZ, 40000, .inl ym_14_76)), (q_15, .inl (cZ, 40000, .inl ym_16_77)), (q_17, .inl (cI, 8, .inl ym_18_78)), (q_19, .inl (cI, 8, .inl ym_20_79)), (q_21, .inl (cZ, 8, .inl ym_22_80)), (q_23, .inl (cI, 1400, .inl ym_24_81)), (q_25, .inl (cZ, 1400, .inl ym_26_82))]) H := hP
                have hD : va_D A ([(a0, .inr (4, [.int 0, .int x1, .int 32, .int y_83, .ref q_1, .ref q_3, .ref q_5, .int y_84, .ref q_7, .ref q_9, .ref q_11, .ref q_13, .int 0, .int 0, .ref q_15, .int 0, .int 0, .ref q_17, .ref q_19, .ref q_21, .int 0, .ref q_23, .ref q_25])), (q_1, .inl (cI, 8, .inl (upd ym_2_70 y_83.toNatClampNeg y_84))), (q_3, .inl (cI, 8, .inl (upd ym_4_71 y_83.toNatClampNeg x3_87))), (q_5, .inl (cI, 8, .inl ym_6_72)), (q_7, .inl (cI, 1400, .inl ym_8_73)), (q_9, .inl (cI, 2800, .inl ym_10_74)), (q_11, .inl (cZ, 2800, .inl ym_12_75)), (q_13, .inl (cZ, 40000, .inl ym_14_76)), (q_15, .inl (cZ, 40000, .inl ym_16_77)), (q_17, .inl (cI, 8, .inl ym_18_78)), (q_19, .inl (cI, 8, .inl ym_20_79)), (q_21, .inl (cZ, 8, .inl ym_22_80)), (q_23, .inl (cI, 1400, .inl ym_24_81)), (q_25, .inl (cZ, 1400, .inl ym_26_82))]) := hD
                refine lv_aload_n hx hb dX4_init_205 rfl (lv_at hl 3 rfl) ?_
                refine va_get (D := (dC, dI)) (ci := 4) (v := .ref q_5) (C := RX4) (T := TX4) (N := 23) hx hb hT inX4 hown hK hP 0 rfl rfl 6 (by decide) (hT _ k_164) (fun _ h9 => h9) rfl dX4_init_206 ?_
                refine lv_aload_n hx hb dX4_init_209 rfl (lv_at hl 3 rfl) ?_
                refine va_get (D := (dC, dI)) (ci := 4) (v := .int y_83) (C := RX4) (T := TX4) (N := 23) hx hb hT inX4 hown hK hP 0 rfl rfl 3 (by decide) (hT _ k_179) (fun _ h9 => h9) rfl dX4_init_210 ?_
                refine lv_iload hx hb dX4_init_213 (lv_at hl 1 rfl) ?_
                obtain ⟨h_92, hw⟩ := hw
                refine va_iast hx hb hK hP hD hS 3 0 rfl rfl h_92 dX4_init_215 (fun H locs hP hD hS => ?_)
                have hP : va_P (dC, dI) vwCl ([(a0, .inr (4, [.int 0, .int x1, .int 32, .int y_83, .ref q_1, .ref q_3, .ref q_5, .int y_84, .ref q_7, .ref q_9, .ref q_11, .ref q_13, .int 0, .int 0, .ref q_15, .int 0, .int 0, .ref q_17, .ref q_19, .ref q_21, .int 0, .ref q_23, .ref q_25])), (q_1, .inl (cI, 8, .inl (upd ym_2_70 y_83.toNatClampNeg y_84))), (q_3, .inl (cI, 8, .inl (upd ym_4_71 y_83.toNatClampNeg x3_87))), (q_5, .inl (cI, 8, .inl (upd ym_6_72 y_83.toNatClampNeg x4_86))), (q_7, .inl (cI, 1400, .inl ym_8_73)), (q_9, .inl (cI, 2800, .inl ym_10_74)), (q_11, .inl (cZ, 2800, .inl ym_12_75)), (q_13, .inl (cZ, 40000, .inl ym_14_76)), (q_15, .inl (cZ, 40000, .inl ym_16_77)), (q_17, .inl (cI, 8, .inl ym_18_78)), (q_19, .inl (cI, 8, .inl ym_20_79)), (q_21, .inl (cZ, 8, .inl ym_22_80)), (q_23, .inl (cI, 1400, .inl ym_24_81)), (q_25, .inl (cZ, 1400, .inl ym_26_82))]) H := hP
                have hD : va_D A ([(a0, .inr (4, [.int 0, .int x1, .int 32, .int y_83, .ref q_1, .ref q_3, .ref q_5, .int y_84, .ref q_7, .ref q_9, .ref q_11, .ref q_13, .int 0, .int 0, .ref q_15, .int 0, .int 0, .ref q_17, .ref q_19, .ref q_21, .int 0, .ref q_23, .ref q_25])), (q_1, .inl (cI, 8, .inl (upd ym_2_70 y_83.toNatClampNeg y_84))), (q_3, .inl (cI, 8, .inl (upd ym_4_71 y_83.toNatClampNeg x3_87))), (q_5, .inl (cI, 8, .inl (upd ym_6_72 y_83.toNatClampNeg x4_86))), (q_7, .inl (cI, 1400, .inl ym_8_73)), (q_9, .inl (cI, 2800, .inl ym_10_74)), (q_11, .inl (cZ, 2800, .inl ym_12_75)), (q_13, .inl (cZ, 40000, .inl ym_14_76)), (q_15, .inl (cZ, 40000, .inl ym_16_77)), (q_17, .inl (cI, 8, .inl ym_18_78)), (q_19, .inl (cI, 8, .inl ym_20_79)), (q_21, .inl (cZ, 8, .inl ym_22_80)), (q_23, .inl (cI, 1400, .inl ym_24_81)), (q_25, .inl (cZ, 1400, .inl ym_26_82))]) := hD
                refine lv_aload_n hx hb dX4_init_216 rfl (lv_at hl 3 rfl) ?_
                refine lv_dup hx hb dX4_init_217 rfl ?_
                refine va_get (D := (dC, dI)) (ci := 4) (v := .int y_84) (C := RX4) (T := TX4) (N := 23) hx hb hT inX4 hown hK hP 0 rfl rfl 7 (by decide) (hT _ k_180) (fun _ h9 => h9) rfl dX4_init_218 ?_
                refine lv_iload_n hx hb dX4_init_221 rfl (lv_at hl 2 rfl) ?_
                refine lv_iload hx hb dX4_init_222 (lv_at hl 1 rfl) ?_
                refine lv_imul hx hb dX4_init_224 ?_
                refine lv_iadd hx hb dX4_init_225 ?_
                refine lv_topi (fun f_93 ef_93 => ?_)
                have hw := hw f_93 ef_93
                refine va_put (D := (dC, dI)) (ci := 4) (v := .int f_93) (ty := .int) (C := RX4) (T := TX4) (N := 23) hx hb hT inX4 tyX4 tyX4_ok nmX4 hown hK hP hD hS 0 rfl rfl 7 (by decide) (hT _ k_180) (fun _ h9 => h9) rfl (by decide +kernel) rfl rfl (Nat.le_of_ble_eq_true rfl) dX4_init_226 (fun H locs hP hD hS => ?_)
                have hP : va_P (dC, dI) vwCl ([(a0, .inr (4, [.int 0, .int x1, .int 32, .int y_83, .ref q_1, .ref q_3, .ref q_5, .int f_93, .ref q_7, .ref q_9, .ref q_11, .ref q_13, .int 0, .int 0, .ref q_15, .int 0, .int 0, .ref q_17, .ref q_19, .ref q_21, .int 0, .ref q_23, .ref q_25])), (q_1, .inl (cI, 8, .inl (upd ym_2_70 y_83.toNatClampNeg y_84))), (q_3, .inl (cI, 8, .inl (upd ym_4_71 y_83.toNatClampNeg x3_87))), (q_5, .inl (cI, 8, .inl (upd ym_6_72 y_83.toNatClampNeg x4_86))), (q_7, .inl (cI, 1400, .inl ym_8_73)), (q_9, .inl (cI, 2800, .inl ym_10_74)), (q_11, .inl (cZ, 2800, .inl ym_12_75)), (q_13, .inl (cZ, 40000, .inl ym_14_76)), (q_15, .inl (cZ, 40000, .inl ym_16_77)), (q_17, .inl (cI, 8, .inl ym_18_78)), (q_19, .inl (cI, 8, .inl ym_20_79)), (q_21, .inl (cZ, 8, .inl ym_22_80)), (q_23, .inl (cI, 1400, .inl ym_24_81)), (q_25, .inl (cZ, 1400, .inl ym_26_82))]) H := hP
                have hD : va_D A ([(a0, .inr (4, [.int 0, .int x1, .int 32, .int y_83, .ref q_1, .ref q_3, .ref q_5, .int f_93, .ref q_7, .ref q_9, .ref q_11, .ref q_13, .int 0, .int 0, .ref q_15, .int 0, .int 0, .ref q_17, .ref q_19, .ref q_21, .int 0, .ref q_23, .ref q_25])), (q_1, .inl (cI, 8, .inl (upd ym_2_70 y_83.toNatClampNeg y_84))), (q_3, .inl (cI, 8, .inl (upd ym_4_71 y_83.toNatClampNeg x3_87))), (q_5, .inl (cI, 8, .inl (upd ym_6_72 y_83.toNatClampNeg x4_86))), (q_7, .inl (cI, 1400, .inl ym_8_73)), (q_9, .inl (cI, 2800, .inl ym_10_74)), (q_11, .inl (cZ, 2800, .inl ym_12_75)), (q_13, .inl (cZ, 40000, .inl ym_14_76)), (q_15, .inl (cZ, 40000, .inl ym_16_77)), (q_17, .inl (cI, 8, .inl ym_18_78)), (q_19, .inl (cI, 8, .inl ym_20_79)), (q_21, .inl (cZ, 8, .inl ym_22_80)), (q_23, .inl (cI, 1400, .inl ym_24_81)), (q_25, .inl (cZ, 1400, .inl ym_26_82))]) := hD
                refine lv_aload_n hx hb dX4_init_229 rfl (lv_at hl 3 rfl) ?_
                refine lv_dup hx hb dX4_init_230 rfl ?_
                refine va_get (D := (dC, dI)) (ci := 4) (v := .int y_83) (C := RX4) (T := TX4) (N := 23) hx hb hT inX4 hown hK hP 0 rfl rfl 3 (by decide) (hT _ k_179) (fun _ h9 => h9) rfl dX4_init_231 ?_
                refine lv_iconst (v := 1) hx hb dX4_init_234 (by decide) ?_
                refine lv_iadd hx hb dX4_init_235 ?_
                refine lv_topi (fun f_94 ef_94 => ?_)
                have hw := hw f_94 ef_94
                refine va_put (D := (dC, dI)) (ci := 4) (v := .int f_94) (ty := .int) (C := RX4) (T := TX4) (N := 23) hx hb hT inX4 tyX4 tyX4_ok nmX4 hown hK hP hD hS 0 rfl rfl 3 (by decide) (hT _ k_179) (fun _ h9 => h9) rfl (by decide +kernel) rfl rfl (Nat.le_of_ble_eq_true rfl) dX4_init_236 (fun H locs hP hD hS => ?_)
                have hP : va_P (dC, dI) vwCl ([(a0, .inr (4, [.int 0, .int x1, .int 32, .int f_94, .ref q_1, .ref q_3, .ref q_5, .int f_93, .ref q_7, .ref q_9, .ref q_11, .ref q_13, .int 0, .int 0, .ref q_15, .int 0, .int 0, .ref q_17, .ref q_19, .ref q_21, .int 0, .ref q_23, .ref q_25])), (q_1, .inl (cI, 8, .inl (upd ym_2_70 y_83.toNatClampNeg y_84))), (q_3, .inl (cI, 8, .inl (upd ym_4_71 y_83.toNatClampNeg x3_87))), (q_5, .inl (cI, 8, .inl (upd ym_6_72 y_83.toNatClampNeg x4_86))), (q_7, .inl (cI, 1400, .inl ym_8_73)), (q_9, .inl (cI, 2800, .inl ym_10_74)), (q_11, .inl (cZ, 2800, .inl ym_12_75)), (q_13, .inl (cZ, 40000, .inl ym_14_76)), (q_15, .inl (cZ, 40000, .inl ym_16_77)), (q_17, .inl (cI, 8, .inl ym_18_78)), (q_19, .inl (cI, 8, .inl ym_20_79)), (q_21, .inl (cZ, 8, .inl ym_22_80)), (q_23, .inl (cI, 1400, .inl ym_24_81)), (q_25, .inl (cZ, 1400, .inl ym_26_82))]) H := hP
                have hD : va_D A ([(a0, .inr (4, [.int 0, .int x1, .int 32, .int f_94, .ref q_1, .ref q_3, .ref q_5, .int f_93, .ref q_7, .ref q_9, .ref q_11, .ref q_13, .int 0, .int 0, .ref q_15, .int 0, .int 0, .ref q_17, .ref q_19, .ref q_21, .int 0, .ref q_23, .ref q_25])), (q_1, .inl (cI, 8, .inl (upd ym_2_70 y_83.toNatClampNeg y_84))), (q_3, .inl (cI, 8, .inl (upd ym_4_71 y_83.toNatClampNeg x3_87))), (q_5, .inl (cI, 8, .inl (upd ym_6_72 y_83.toNatClampNeg x4_86))), (q_7, .inl (cI, 1400, .inl ym_8_73)), (q_9, .inl (cI, 2800, .inl ym_10_74)), (q_11, .inl (cZ, 2800, .inl ym_12_75)), (q_13, .inl (cZ, 40000, .inl ym_14_76)), (q_15, .inl (cZ, 40000, .inl ym_16_77)), (q_17, .inl (cI, 8, .inl ym_18_78)), (q_19, .inl (cI, 8, .inl ym_20_79)), (q_21, .inl (cZ, 8, .inl ym_22_80)), (q_23, .inl (cI, 1400, .inl ym_24_81)), (q_25, .inl (cZ, 1400, .inl ym_26_82))]) := hD
                refine lv_iload_n hx hb dX4_init_239 rfl (lv_at hl 2 rfl) ?_
                refine lv_iconst (v := 1) hx hb dX4_init_240 (by decide) ?_
                refine lv_icmp_gt (tgt := 250) hx hb dX4_init_241 (by decide) (fun c_95 => ?_) (fun c_95 => ?_)
                · have hw := hw.1 c_95
                  refine lv_iconst (v := 1) hx hb dX4_init_250 (by decide) ?_
                  refine lv_goto (tgt := 255) hx hb dX4_init_251 (by decide) ?_
                  refine lv_istore (lv' := [(5, .int 1), (4, .int x4_86), (3, .int x3_87), (0, .ref a0), (1, .int x1), (2, .int x2)]) hx hb dX4_init_255 hl (by decide) rfl (fun ls hl => ?_)
                  refine lv_iload_n hx hb dX4_init_257 rfl (lv_at hl 2 rfl) ?_
                  refine lv_iconst (v := 1) hx hb dX4_init_258 (by decide) ?_
                  refine lv_iadd hx hb dX4_init_259 ?_
                  refine lv_iconst (v := 2) hx hb dX4_init_260 (by decide) ?_
                  obtain ⟨h_96, hw⟩ := hw
                  refine lv_idiv hx hb dX4_init_261 h_96 ?_
                  refine lv_topi (fun x3_97 ex3_97 => ?_)
                  have hw := hw x3_97 ex3_97
                  refine lv_istore_n (lv' := [(3, .int x3_97), (5, .int 1), (4, .int x4_86), (0, .ref a0), (1, .int x1), (2, .int x2)]) hx hb dX4_init_262 rfl hl (by decide) rfl (fun ls hl => ?_)
                  refine lv_iload hx hb dX4_init_263 (lv_at hl 2 rfl) ?_
                  refine lv_iconst (v := 1) hx hb dX4_init_265 (by decide) ?_
                  refine lv_iadd hx hb dX4_init_266 ?_
                  refine lv_iconst (v := 2) hx hb dX4_init_267 (by decide) ?_
                  obtain ⟨h_98, hw⟩ := hw
                  refine lv_idiv hx hb dX4_init_268 h_98 ?_
                  refine lv_topi (fun x4_99 ex4_99 => ?_)
                  have hw := hw x4_99 ex4_99
                  refine lv_istore (lv' := [(4, .int x4_99), (3, .int x3_97), (5, .int 1), (0, .ref a0), (1, .int x1), (2, .int x2)]) hx hb dX4_init_269 hl (by decide) rfl (fun ls hl => ?_)
                  refine lv_goto (tgt := 177) hx hb dX4_init_271 (by decide) ?_
                  exact ih177_1 (upd ym_2_70 y_83.toNatClampNeg y_84) (upd ym_4_71 y_83.toNatClampNeg x3_87) (upd ym_6_72 y_83.toNatClampNeg x4_86) ym_8_73 ym_10_74 ym_12_75 ym_14_76 ym_16_77 ym_18_78 ym_20_79 ym_22_80 ym_24_81 ym_26_82 f_94 f_93 1 x4_99 x3_97 hw _ _ _ hP hD hS (lv_sub hl [2, 0, 1, 3, 4, 5] rfl)
                · have hw := hw.2 c_95
                  refine lv_iload hx hb dX4_init_244 (lv_at hl 1 rfl) ?_
                  refine lv_iconst (v := 1) hx hb dX4_init_246 (by decide) ?_
                  refine lv_icmp_le (tgt := 254) hx hb dX4_init_247 (by decide) (fun c_100 => ?_) (fun c_100 => ?_)
                  · have hw := hw.1 c_100
                    refine lv_iconst (v := 0) hx hb dX4_init_254 (by decide) ?_
                    refine lv_istore (lv' := [(5, .int 0), (4, .int x4_86), (3, .int x3_87), (0, .ref a0), (1, .int x1), (2, .int x2)]) hx hb dX4_init_255 hl (by decide) rfl (fun ls hl => ?_)
                    refine lv_iload_n hx hb dX4_init_257 rfl (lv_at hl 2 rfl) ?_
                    refine lv_iconst (v := 1) hx hb dX4_init_258 (by decide) ?_
                    refine lv_iadd hx hb dX4_init_259 ?_
                    refine lv_iconst (v := 2) hx hb dX4_init_260 (by decide) ?_
                    obtain ⟨h_101, hw⟩ := hw
                    refine lv_idiv hx hb dX4_init_261 h_101 ?_
                    refine lv_topi (fun x3_102 ex3_102 => ?_)
                    have hw := hw x3_102 ex3_102
                    refine lv_istore_n (lv' := [(3, .int x3_102), (5, .int 0), (4, .int x4_86), (0, .ref a0), (1, .int x1), (2, .int x2)]) hx hb dX4_init_262 rfl hl (by decide) rfl (fun ls hl => ?_)
                    refine lv_iload hx hb dX4_init_263 (lv_at hl 2 rfl) ?_
                    refine lv_iconst (v := 1) hx hb dX4_init_265 (by decide) ?_
                    refine lv_iadd hx hb dX4_init_266 ?_
                    refine lv_iconst (v := 2) hx hb dX4_init_267 (by decide) ?_
                    obtain ⟨h_103, hw⟩ := hw
                    refine lv_idiv hx hb dX4_init_268 h_103 ?_
                    refine lv_topi (fun x4_104 ex4_104 => ?_)
                    have hw := hw x4_104 ex4_104
                    refine lv_istore (lv' := [(4, .int x4_104), (3, .int x3_102), (5, .int 0), (0, .ref a0), (1, .int x1), (2, .int x2)]) hx hb dX4_init_269 hl (by decide) rfl (fun ls hl => ?_)
                    refine lv_goto (tgt := 177) hx hb dX4_init_271 (by decide) ?_
                    exact ih177_1 (upd ym_2_70 y_83.toNatClampNeg y_84) (upd ym_4_71 y_83.toNatClampNeg x3_87) (upd ym_6_72 y_83.toNatClampNeg x4_86) ym_8_73 ym_10_74 ym_12_75 ym_14_76 ym_16_77 ym_18_78 ym_20_79 ym_22_80 ym_24_81 ym_26_82 f_94 f_93 0 x4_104 x3_102 hw _ _ _ hP hD hS (lv_sub hl [2, 0, 1, 3, 4, 5] rfl)
                  · have hw := hw.2 c_100
                    refine lv_iconst (v := 1) hx hb dX4_init_250 (by decide) ?_
                    refine lv_goto (tgt := 255) hx hb dX4_init_251 (by decide) ?_
                    refine lv_istore (lv' := [(5, .int 1), (4, .int x4_86), (3, .int x3_87), (0, .ref a0), (1, .int x1), (2, .int x2)]) hx hb dX4_init_255 hl (by decide) rfl (fun ls hl => ?_)
                    refine lv_iload_n hx hb dX4_init_257 rfl (lv_at hl 2 rfl) ?_
                    refine lv_iconst (v := 1) hx hb dX4_init_258 (by decide) ?_
                    refine lv_iadd hx hb dX4_init_259 ?_
                    refine lv_iconst (v := 2) hx hb dX4_init_260 (by decide) ?_
                    obtain ⟨h_105, hw⟩ := hw
                    refine lv_idiv hx hb dX4_init_261 h_105 ?_
                    refine lv_topi (fun x3_106 ex3_106 => ?_)
                    have hw := hw x3_106 ex3_106
                    refine lv_istore_n (lv' := [(3, .int x3_106), (5, .int 1), (4, .int x4_86), (0, .ref a0), (1, .int x1), (2, .int x2)]) hx hb dX4_init_262 rfl hl (by decide) rfl (fun ls hl => ?_)
                    refine lv_iload hx hb dX4_init_263 (lv_at hl 2 rfl) ?_
                    refine lv_iconst (v := 1) hx hb dX4_init_265 (by decide) ?_
                    refine lv_iadd hx hb dX4_init_266 ?_
                    refine lv_iconst (v := 2) hx hb dX4_init_267 (by decide) ?_
                    obtain ⟨h_107, hw⟩ := hw
                    refine lv_idiv hx hb dX4_init_268 h_107 ?_
                    refine lv_topi (fun x4_108 ex4_108 => ?_)
                    have hw := hw x4_108 ex4_108
                    refine lv_istore (lv' := [(4, .int x4_108), (3, .int x3_106), (5, .int 1), (0, .ref a0), (1, .int x1), (2, .int x2)]) hx hb dX4_init_269 hl (by decide) rfl (fun ls hl => ?_)
                    refine lv_goto (tgt := 177) hx hb dX4_init_271 (by decide) ?_
                    exact ih177_1 (upd ym_2_70 y_83.toNatClampNeg y_84) (upd ym_4_71 y_83.toNatClampNeg x3_87) (upd ym_6_72 y_83.toNatClampNeg x4_86) ym_8_73 ym_10_74 ym_12_75 ym_14_76 ym_16_77 ym_18_78 ym_20_79 ym_22_80 ym_24_81 ym_26_82 f_94 f_93 1 x4_108 x3_106 hw _ _ _ hP hD hS (lv_sub hl [2, 0, 1, 3, 4, 5] rfl)
          exact hlp177_1 n_88 (fun _ => 0) (fun _ => 0) (fun _ => 0) (fun _ => 0) (fun _ => 0) (fun _ => 0) (fun _ => 0) (fun _ => 0) (fun _ => 0) (fun _ => 0) (fun _ => 0) (fun _ => 0) (fun _ => 0) 0 0 1 32 x1 hw _ _ _ hP hD hS (lv_sub hl [0, 1, 2, 3, 4, 5] rfl)
      · have hw := hw.2 c_29
        refine lv_iconst (v := 1) hx hb dX4_init_144 (by decide) ?_
        refine lv_goto (tgt := 160) hx hb dX4_init_145 (by decide) ?_
        refine va_putF (D := (dC, dI)) (ci := 4) (v := .int 1) (ty := .int) (C := RX4) (T := TX4) (N := 23) hx hb hT inX4 tyX4 tyX4_ok nmX4 hown hK hP hD hS 0 rfl rfl 2 (by decide) (hT _ k_178) (fun _ h9 => h9) rfl hin rfl (by decide +kernel) rfl rfl (Nat.le_of_ble_eq_true rfl) dX4_init_160 (fun H locs hP hD hS => ?_)
        have hP : va_P (dC, dI) vwCl ([(a0, .inr (4, [.int 0, .int x1, .int 1, .int 0, .ref q_1, .ref q_3, .ref q_5, .int 0, .ref q_7, .ref q_9, .ref q_11, .ref q_13, .int 0, .int 0, .ref q_15, .int 0, .int 0, .ref q_17, .ref q_19, .ref q_21, .int 0, .ref q_23, .ref q_25])), (q_1, .inl (cI, 8, .inl (fun _ => 0))), (q_3, .inl (cI, 8, .inl (fun _ => 0))), (q_5, .inl (cI, 8, .inl (fun _ => 0))), (q_7, .inl (cI, 1400, .inl (fun _ => 0))), (q_9, .inl (cI, 2800, .inl (fun _ => 0))), (q_11, .inl (cZ, 2800, .inl (fun _ => 0))), (q_13, .inl (cZ, 40000, .inl (fun _ => 0))), (q_15, .inl (cZ, 40000, .inl (fun _ => 0))), (q_17, .inl (cI, 8, .inl (fun _ => 0))), (q_19, .inl (cI, 8, .inl (fun _ => 0))), (q_21, .inl (cZ, 8, .inl (fun _ => 0))), (q_23, .inl (cI, 1400, .inl (fun _ => 0))), (q_25, .inl (cZ, 1400, .inl (fun _ => 0)))]) H := hP
        have hD : va_D A ([(a0, .inr (4, [.int 0, .int x1, .int 1, .int 0, .ref q_1, .ref q_3, .ref q_5, .int 0, .ref q_7, .ref q_9, .ref q_11, .ref q_13, .int 0, .int 0, .ref q_15, .int 0, .int 0, .ref q_17, .ref q_19, .ref q_21, .int 0, .ref q_23, .ref q_25])), (q_1, .inl (cI, 8, .inl (fun _ => 0))), (q_3, .inl (cI, 8, .inl (fun _ => 0))), (q_5, .inl (cI, 8, .inl (fun _ => 0))), (q_7, .inl (cI, 1400, .inl (fun _ => 0))), (q_9, .inl (cI, 2800, .inl (fun _ => 0))), (q_11, .inl (cZ, 2800, .inl (fun _ => 0))), (q_13, .inl (cZ, 40000, .inl (fun _ => 0))), (q_15, .inl (cZ, 40000, .inl (fun _ => 0))), (q_17, .inl (cI, 8, .inl (fun _ => 0))), (q_19, .inl (cI, 8, .inl (fun _ => 0))), (q_21, .inl (cZ, 8, .inl (fun _ => 0))), (q_23, .inl (cI, 1400, .inl (fun _ => 0))), (q_25, .inl (cZ, 1400, .inl (fun _ => 0)))]) := hD
        refine lv_aload_n hx hb dX4_init_163 rfl (lv_at hl 0 rfl) ?_
        refine va_get (D := (dC, dI)) (ci := 4) (v := .int x1) (C := RX4) (T := TX4) (N := 23) hx hb hT inX4 hown hK hP 0 rfl rfl 1 (by decide) (hT _ k_177) (fun _ h9 => h9) rfl dX4_init_164 ?_
        refine lv_istore_n (lv' := [(3, .int x1), (0, .ref a0), (1, .int x1), (2, .int x2)]) hx hb dX4_init_167 rfl hl (by decide) rfl (fun ls hl => ?_)
        refine lv_aload_n hx hb dX4_init_168 rfl (lv_at hl 1 rfl) ?_
        refine va_get (D := (dC, dI)) (ci := 4) (v := .int 1) (C := RX4) (T := TX4) (N := 23) hx hb hT inX4 hown hK hP 0 rfl rfl 2 (by decide) (hT _ k_178) (fun _ h9 => h9) rfl dX4_init_169 ?_
        refine lv_istore (lv' := [(4, .int 1), (3, .int x1), (0, .ref a0), (1, .int x1), (2, .int x2)]) hx hb dX4_init_172 hl (by decide) rfl (fun ls hl => ?_)
        refine lv_iconst (v := 1) hx hb dX4_init_174 (by decide) ?_
        refine lv_istore (lv' := [(5, .int 1), (4, .int 1), (3, .int x1), (0, .ref a0), (1, .int x1), (2, .int x2)]) hx hb dX4_init_175 hl (by decide) rfl (fun ls hl => ?_)
        obtain ⟨n_127, hw⟩ := hw
        obtain ⟨ex177_2, eex177_2⟩ : ∃ z : (Nat → Int32) → (Nat → Int32) → (Nat → Int32) → (Nat → Int32) → (Nat → Int32) → (Nat → Int32) → (Nat → Int32) → (Nat → Int32) → (Nat → Int32) → (Nat → Int32) → (Nat → Int32) → (Nat → Int32) → (Nat → Int32) → Int32 → Int32 → Int32 → Int32 → Int32 → Prop, z = (fun (ym_2_109 : (Nat → Int32)) (ym_4_110 : (Nat → Int32)) (ym_6_111 : (Nat → Int32)) (ym_8_112 : (Nat → Int32)) (ym_10_113 : (Nat → Int32)) (ym_12_114 : (Nat → Int32)) (ym_14_115 : (Nat → Int32)) (ym_16_116 : (Nat → Int32)) (ym_18_117 : (Nat → Int32)) (ym_20_118 : (Nat → Int32)) (ym_22_119 : (Nat → Int32)) (ym_24_120 : (Nat → Int32)) (ym_26_121 : (Nat → Int32)) (y_122 : Int32) (y_123 : Int32) (x5_124 : Int32) (x4_125 : Int32) (x3_126 : Int32) => post (((x1, 1, y_122, y_123), ym_2_109, ym_4_110, ym_6_111), (0, ym_8_112, ym_10_113, ym_12_114, (ym_14_115, 0, 0), (ym_16_116, 0, 0), (ym_18_117, ym_20_118, ym_22_119, 0), ym_24_120, ym_26_121))) := ⟨_, rfl⟩
        rw [← eex177_2] at hw
        have hx177_2 : ∀ (ym_2_109 : (Nat → Int32)) (ym_4_110 : (Nat → Int32)) (ym_6_111 : (Nat → Int32)) (ym_8_112 : (Nat → Int32)) (ym_10_113 : (Nat → Int32)) (ym_12_114 : (Nat → Int32)) (ym_14_115 : (Nat → Int32)) (ym_16_116 : (Nat → Int32)) (ym_18_117 : (Nat → Int32)) (ym_20_118 : (Nat → Int32)) (ym_22_119 : (Nat → Int32)) (ym_24_120 : (Nat → Int32)) (ym_26_121 : (Nat → Int32)) (y_122 : Int32) (y_123 : Int32) (x5_124 : Int32) (x4_125 : Int32) (x3_126 : Int32), ex177_2 ym_2_109 ym_4_110 ym_6_111 ym_8_112 ym_10_113 ym_12_114 ym_14_115 ym_16_116 ym_18_117 ym_20_118 ym_22_119 ym_24_120 ym_26_121 y_122 y_123 x5_124 x4_125 x3_126 → ∀ (H : Heap) (locs : List Loc) (ls : Array Slot), va_P (dC, dI) vwCl ([(a0, .inr (4, [.int 0, .int x1, .int 1, .int y_122, .ref q_1, .ref q_3, .ref q_5, .int y_123, .ref q_7, .ref q_9, .ref q_11, .ref q_13, .int 0, .int 0, .ref q_15, .int 0, .int 0, .ref q_17, .ref q_19, .ref q_21, .int 0, .ref q_23, .ref q_25])), (q_1, .inl (cI, 8, .inl ym_2_109)), (q_3, .inl (cI, 8, .inl ym_4_110)), (q_5, .inl (cI, 8, .inl ym_6_111)), (q_7, .inl (cI, 1400, .inl ym_8_112)), (q_9, .inl (cI, 2800, .inl ym_10_113)), (q_11, .inl (cZ, 2800, .inl ym_12_114)), (q_13, .inl (cZ, 40000, .inl ym_14_115)), (q_15, .inl (cZ, 40000, .inl ym_16_116)), (q_17, .inl (cI, 8, .inl ym_18_117)), (q_19, .inl (cI, 8, .inl ym_20_118)), (q_21, .inl (cZ, 8, .inl ym_22_119)), (q_23, .inl (cI, 1400, .inl ym_24_120)), (q_25, .inl (cZ, 1400, .inl ym_26_121))]) H → va_D A ([(a0, .inr (4, [.int 0, .int x1, .int 1, .int y_122, .ref q_1, .ref q_3, .ref q_5, .int y_123, .ref q_7, .ref q_9, .ref q_11, .ref q_13, .int 0, .int 0, .ref q_15, .int 0, .int 0, .ref q_17, .ref q_19, .ref q_21, .int 0, .ref q_23, .ref q_25])), (q_1, .inl (cI, 8, .inl ym_2_109)), (q_3, .inl (cI, 8, .inl ym_4_110)), (q_5, .inl (cI, 8, .inl ym_6_111)), (q_7, .inl (cI, 1400, .inl ym_8_112)), (q_9, .inl (cI, 2800, .inl ym_10_113)), (q_11, .inl (cZ, 2800, .inl ym_12_114)), (q_13, .inl (cZ, 40000, .inl ym_14_115)), (q_15, .inl (cZ, 40000, .inl ym_16_116)), (q_17, .inl (cI, 8, .inl ym_18_117)), (q_19, .inl (cI, 8, .inl ym_20_118)), (q_21, .inl (cZ, 8, .inl ym_22_119)), (q_23, .inl (cI, 1400, .inl ym_24_120)), (q_25, .inl (cZ, 1400, .inl ym_26_121))]) → va_S A s.heap H locs → lv_has ls 6 [(5, .int x5_124), (4, .int x4_125), (3, .int x3_126), (0, .ref a0), (1, .int x1), (2, .int x2)] → W p l e (headSpec wsX4_init rm_X4_init).room s m args below meth c H locs 13 89848 (MQ below (va_Qv post (fun (u : vMS × vMM) t => ∃ (am : Nat → Nat), am 0 = a0 ∧ qB (dC, dI) (tysA cI cZ cJ cL) A (wMM cI cZ am u.1 u.2) t) A) args s 13 89848 A) (F0 m 274 ls []) := by
          intro ym_2_109 ym_4_110 ym_6_111 ym_8_112 ym_10_113 ym_12_114 ym_14_115 ym_16_116 ym_18_117 ym_20_118 ym_22_119 ym_24_120 ym_26_121 y_122 y_123 x5_124 x4_125 x3_126 hw H locs ls hP hD hS hl
          rw [eex177_2] at hw
          try dsimp only at hw
          have hP := hP.sub (ws' := (wMM cI cZ (fun i => ([a0, q_1, q_3, q_5, q_7, q_9, q_11, q_13, q_15, q_17, q_19, q_21, q_23, q_25] : List Nat).getD i 0) (((x1, 1, y_122, y_123), ym_2_109, ym_4_110, ym_6_111), (0, ym_8_112, ym_10_113, ym_12_114, (ym_14_115, 0, 0), (ym_16_116, 0, 0), (ym_18_117, ym_20_118, ym_22_119, 0), ym_24_120, ym_26_121)).1 (((x1, 1, y_122, y_123), ym_2_109, ym_4_110, ym_6_111), (0, ym_8_112, ym_10_113, ym_12_114, (ym_14_115, 0, 0), (ym_16_116, 0, 0), (ym_18_117, ym_20_118, ym_22_119, 0), ym_24_120, ym_26_121)).2)) [0, 1, 2, 3, 4, 5, 6, 7, 8, 9, 10, 11, 12, 13] rfl
          have hD := hD.sub (ws' := (wMM cI cZ (fun i => ([a0, q_1, q_3, q_5, q_7, q_9, q_11, q_13, q_15, q_17, q_19, q_21, q_23, q_25] : List Nat).getD i 0) (((x1, 1, y_122, y_123), ym_2_109, ym_4_110, ym_6_111), (0, ym_8_112, ym_10_113, ym_12_114, (ym_14_115, 0, 0), (ym_16_116, 0, 0), (ym_18_117, ym_20_118, ym_22_119, 0), ym_24_120, ym_26_121)).1 (((x1, 1, y_122, y_123), ym_2_109, ym_4_110, ym_6_111), (0, ym_8_112, ym_10_113, ym_12_114, (ym_14_115, 0, 0), (ym_16_116, 0, 0), (ym_18_117, ym_20_118, ym_22_119, 0), ym_24_120, ym_26_121)).2)) [0, 1, 2, 3, 4, 5, 6, 7, 8, 9, 10, 11, 12, 13] (by decide) rfl
          exact W.vret hx hb hr (fun t ht hW => ⟨⟨(((x1, 1, y_122, y_123), ym_2_109, ym_4_110, ym_6_111), (0, ym_8_112, ym_10_113, ym_12_114, (ym_14_115, 0, 0), (ym_16_116, 0, 0), (ym_18_117, ym_20_118, ym_22_119, 0), ym_24_120, ym_26_121)), rfl, hw, (fun i => ([a0, q_1, q_3, q_5, q_7, q_9, q_11, q_13, q_15, q_17, q_19, q_21, q_23, q_25] : List Nat).getD i 0), rfl, by rw [ht]; exact hP, va_K.moved hW.alike hK, hD⟩, hS.F ht⟩) hS.2.2 dX4_init_274
        have hlp177_2 : ∀ (n_127 : Nat) (ym_2_109 : (Nat → Int32)) (ym_4_110 : (Nat → Int32)) (ym_6_111 : (Nat → Int32)) (ym_8_112 : (Nat → Int32)) (ym_10_113 : (Nat → Int32)) (ym_12_114 : (Nat → Int32)) (ym_14_115 : (Nat → Int32)) (ym_16_116 : (Nat → Int32)) (ym_18_117 : (Nat → Int32)) (ym_20_118 : (Nat → Int32)) (ym_22_119 : (Nat → Int32)) (ym_24_120 : (Nat → Int32)) (ym_26_121 : (Nat → Int32)) (y_122 : Int32) (y_123 : Int32) (x5_124 : Int32) (x4_125 : Int32) (x3_126 : Int32), wp_X4_init_L177_2 post ex177_2 x1 x2 n_127 ym_2_109 ym_4_110 ym_6_111 ym_8_112 ym_10_113 ym_12_114 ym_14_115 ym_16_116 ym_18_117 ym_20_118 ym_22_119 ym_24_120 ym_26_121 y_122 y_123 x5_124 x4_125 x3_126 → ∀ (H : Heap) (locs : List Loc) (ls : Array Slot), va_P (dC, dI) vwCl ([(a0, .inr (4, [.int 0, .int x1, .int 1, .int y_122, .ref q_1, .ref q_3, .ref q_5, .int y_123, .ref q_7, .ref q_9, .ref q_11, .ref q_13, .int 0, .int 0, .ref q_15, .int 0, .int 0, .ref q_17, .ref q_19, .ref q_21, .int 0, .ref q_23, .ref q_25])), (q_1, .inl (cI, 8, .inl ym_2_109)), (q_3, .inl (cI, 8, .inl ym_4_110)), (q_5, .inl (cI, 8, .inl ym_6_111)), (q_7, .inl (cI, 1400, .inl ym_8_112)), (q_9, .inl (cI, 2800, .inl ym_10_113)), (q_11, .inl (cZ, 2800, .inl ym_12_114)), (q_13, .inl (cZ, 40000, .inl ym_14_115)), (q_15, .inl (cZ, 40000, .inl ym_16_116)), (q_17, .inl (cI, 8, .inl ym_18_117)), (q_19, .inl (cI, 8, .inl ym_20_118)), (q_21, .inl (cZ, 8, .inl ym_22_119)), (q_23, .inl (cI, 1400, .inl ym_24_120)), (q_25, .inl (cZ, 1400, .inl ym_26_121))]) H → va_D A ([(a0, .inr (4, [.int 0, .int x1, .int 1, .int y_122, .ref q_1, .ref q_3, .ref q_5, .int y_123, .ref q_7, .ref q_9, .ref q_11, .ref q_13, .int 0, .int 0, .ref q_15, .int 0, .int 0, .ref q_17, .ref q_19, .ref q_21, .int 0, .ref q_23, .ref q_25])), (q_1, .inl (cI, 8, .inl ym_2_109)), (q_3, .inl (cI, 8, .inl ym_4_110)), (q_5, .inl (cI, 8, .inl ym_6_111)), (q_7, .inl (cI, 1400, .inl ym_8_112)), (q_9, .inl (cI, 2800, .inl ym_10_113)), (q_11, .inl (cZ, 2800, .inl ym_12_114)), (q_13, .inl (cZ, 40000, .inl ym_14_115)), (q_15, .inl (cZ, 40000, .inl ym_16_116)), (q_17, .inl (cI, 8, .inl ym_18_117)), (q_19, .inl (cI, 8, .inl ym_20_118)), (q_21, .inl (cZ, 8, .inl ym_22_119)), (q_23, .inl (cI, 1400, .inl ym_24_120)), (q_25, .inl (cZ, 1400, .inl ym_26_121))]) → va_S A s.heap H locs → lv_has ls 6 [(5, .int x5_124), (4, .int x4_125), (3, .int x3_126), (0, .ref a0), (1, .int x1), (2, .int x2)] → W p l e (headSpec wsX4_init rm_X4_init).room s m args below meth c H locs 13 89848 (MQ below (va_Qv post (fun (u : vMS × vMM) t => ∃ (am : Nat → Nat), am 0 = a0 ∧ qB (dC, dI) (tysA cI cZ cJ cL) A (wMM cI cZ am u.1 u.2) t) A) args s 13 89848 A) (F0 m 177 ls []) := by
          intro n_127
          induction n_127 with
          | zero => intro _ _ _ _ _ _ _ _ _ _ _ _ _ _ _ _ _ _ hw; exact hw.elim
          | succ n_127 ih177_2 =>
            intro ym_2_109 ym_4_110 ym_6_111 ym_8_112 ym_10_113 ym_12_114 ym_14_115 ym_16_116 ym_18_117 ym_20_118 ym_22_119 ym_24_120 ym_26_121 y_122 y_123 x5_124 x4_125 x3_126 hw H locs ls hP hD hS hl
            unfold wp_X4_init_L177_2 at hw
            refine lv_iload hx hb dX4_init_177 (lv_at hl 0 rfl) ?_
            refine lv_if_eq (tgt := 274) hx hb dX4_init_179 (by decide) (fun c_128 => ?_) (fun c_128 => ?_)
            · have hw := hw.1 c_128
              exact hx177_2 ym_2_109 ym_4_110 ym_6_111 ym_8_112 ym_10_113 ym_12_114 ym_14_115 ym_16_116 ym_18_117 ym_20_118 ym_22_119 ym_24_120 ym_26_121 y_122 y_123 x5_124 x4_125 x3_126 hw _ _ _ hP hD hS (lv_sub hl [0, 1, 2, 3, 4, 5] rfl)
            · have hw := hw.2 c_128
              refine lv_aload_n hx hb dX4_init_182 rfl (lv_at hl 3 rfl) ?_
              refine va_get (D := (dC, dI)) (ci := 4) (v := .ref q_1) (C := RX4) (T := TX4) (N := 23) hx hb hT inX4 hown hK hP 0 rfl rfl 4 (by decide) (hT _ k_162) (fun _ h9 => h9) rfl dX4_init_183 ?_
              refine lv_aload_n hx hb dX4_init_186 rfl (lv_at hl 3 rfl) ?_
              refine va_get (D := (dC, dI)) (ci := 4) (v := .int y_122) (C := RX4) (T := TX4) (N := 23) hx hb hT inX4 hown hK hP 0 rfl rfl 3 (by decide) (hT _ k_179) (fun _ h9 => h9) rfl dX4_init_187 ?_
              refine lv_aload_n hx hb dX4_init_190 rfl (lv_at hl 3 rfl) ?_
              refine va_get (D := (dC, dI)) (ci := 4) (v := .int y_123) (C := RX4) (T := TX4) (N := 23) hx hb hT inX4 hown hK hP 0 rfl rfl 7 (by decide) (hT _ k_180) (fun _ h9 => h9) rfl dX4_init_191 ?_
              obtain ⟨h_129, hw⟩ := hw
              refine va_iast hx hb hK hP hD hS 1 0 rfl rfl h_129 dX4_init_194 (fun H locs hP hD hS => ?_)
              have hP : va_P (dC, dI) vwCl ([(a0, .inr (4, [.int 0, .int x1, .int 1, .int y_122, .ref q_1, .ref q_3, .ref q_5, .int y_123, .ref q_7, .ref q_9, .ref q_11, .ref q_13, .int 0, .int 0, .ref q_15, .int 0, .int 0, .ref q_17, .ref q_19, .ref q_21, .int 0, .ref q_23, .ref q_25])), (q_1, .inl (cI, 8, .inl (upd ym_2_109 y_122.toNatClampNeg y_123))), (q_3, .inl (cI, 8, .inl ym_4_110)), (q_5, .inl (cI, 8, .inl ym_6_111)), (q_7, .inl (cI, 1400, .inl ym_8_112)), (q_9, .inl (cI, 2800, .inl ym_10_113)), (q_11, .inl (cZ, 2800, .inl ym_12_114)), (q_13, .inl (cZ, 40000, .inl ym_14_115)), (q_15, .inl (cZ, 40000, .inl ym_16_116)), (q_17, .inl (cI, 8, .inl ym_18_117)), (q_19, .inl (cI, 8, .inl ym_20_118)), (q_21, .inl (cZ, 8, .inl ym_22_119)), (q_23, .inl (cI, 1400, .inl ym_24_120)), (q_25, .inl (cZ, 1400, .inl ym_26_121))]) H := hP
              have hD : va_D A ([(a0, .inr (4, [.int 0, .int x1, .int 1, .int y_122, .ref q_1, .ref q_3, .ref q_5, .int y_123, .ref q_7, .ref q_9, .ref q_11, .ref q_13, .int 0, .int 0, .ref q_15, .int 0, .int 0, .ref q_17, .ref q_19, .ref q_21, .int 0, .ref q_23, .ref q_25])), (q_1, .inl (cI, 8, .inl (upd ym_2_109 y_122.toNatClampNeg y_123))), (q_3, .inl (cI, 8, .inl ym_4_110)), (q_5, .inl (cI, 8, .inl ym_6_111)), (q_7, .inl (cI, 1400, .inl ym_8_112)), (q_9, .inl (cI, 2800, .inl ym_10_113)), (q_11, .inl (cZ, 2800, .inl ym_12_114)), (q_13, .inl (cZ, 40000, .inl ym_14_115)), (q_15, .inl (cZ, 40000, .inl ym_16_116)), (q_17, .inl (cI, 8, .inl ym_18_117)), (q_19, .inl (cI, 8, .inl ym_20_118)), (q_21, .inl (cZ, 8, .inl ym_22_119)), (q_23, .inl (cI, 1400, .inl ym_24_120)), (q_25, .inl (cZ, 1400, .inl ym_26_121))]) := hD
              refine lv_aload_n hx hb dX4_init_195 rfl (lv_at hl 3 rfl) ?_
              refine va_get (D := (dC, dI)) (ci := 4) (v := .ref q_3) (C := RX4) (T := TX4) (N := 23) hx hb hT inX4 hown hK hP 0 rfl rfl 5 (by decide) (hT _ k_163) (fun _ h9 => h9) rfl dX4_init_196 ?_
              refine lv_aload_n hx hb dX4_init_199 rfl (lv_at hl 3 rfl) ?_
              refine va_get (D := (dC, dI)) (ci := 4) (v := .int y_122) (C := RX4) (T := TX4) (N := 23) hx hb hT inX4 hown hK hP 0 rfl rfl 3 (by decide) (hT _ k_179) (fun _ h9 => h9) rfl dX4_init_200 ?_
              refine lv_iload_n hx hb dX4_init_203 rfl (lv_at hl 2 rfl) ?_
              obtain ⟨h_130, hw⟩ := hw
              refine va_iast hx hb hK hP hD hS 2 0 rfl rfl h_130 dX4_init_204 (fun H locs hP hD hS => ?_)
              have hP : va_P (dC, dI) vwCl ([(a0, .inr (4, [.int 0, .int x1, .int 1, .int y_122, .ref q_1, .ref q_3, .ref q_5, .int y_123, .ref q_7, .ref q_9, .ref q_11, .ref q_13, .int 0, .int 0, .ref q_15, .int 0, .int 0, .ref q_17, .ref q_19, .ref q_21, .int 0, .ref q_23, .ref q_25])), (q_1, .inl (cI, 8, .inl (upd ym_2_109 y_122.toNatClampNeg y_123))), (q_3, .inl (cI, 8, .inl (upd ym_4_110 y_122.toNatClampNeg x3_126))), (q_5, .inl (cI, 8, .inl ym_6_111)), (q_7, .inl (cI, 1400, .inl ym_8_112)), (q_9, .inl (cI, 2800, .inl ym_10_113)), (q_11, .inl (cZ, 2800, .inl ym_12_114)), (q_13, .inl (cZ, 40000, .inl ym_14_115)), (q_15, .inl (cZ, 40000, .inl ym_16_116)), (q_17, .inl (cI, 8, .inl ym_18_117)), (q_19, .inl (cI, 8, .inl ym_20_118)), (q_21, .inl (cZ, 8, .inl ym_22_119)), (q_23, .inl (cI, 1400, .inl ym_24_120)), (q_25, .inl (cZ, 1400, .inl ym_26_121))]) H := hP
              have hD : va_D A ([(a0, .inr (4, [.int 0, .int x1, .int 1, .int y_122, .ref q_1, .ref q_3, .ref q_5, .int y_123, .ref q_7, .ref q_9, .ref q_11, .ref q_13, .int 0, .int 0, .ref q_15, .int 0, .int 0, .ref q_17, .ref q_19, .ref q_21, .int 0, .ref q_23, .ref q_25])), (q_1, .inl (cI, 8, .inl (upd ym_2_109 y_122.toNatClampNeg y_123))), (q_3, .inl (cI, 8, .inl (upd ym_4_110 y_122.toNatClampNeg x3_126))), (q_5, .inl (cI, 8, .inl ym_6_111)), (q_7, .inl (cI, 1400, .inl ym_8_112)), (q_9, .inl (cI, 2800, .inl ym_10_113)), (q_11, .inl (cZ, 2800, .inl ym_12_114)), (q_13, .inl (cZ, 40000, .inl ym_14_115)), (q_15, .inl (cZ, 40000, .inl ym_16_116)), (q_17, .inl (cI, 8, .inl ym_18_117)), (q_19, .inl (cI, 8, .inl ym_20_118)), (q_21, .inl (cZ, 8, .inl ym_22_119)), (q_23, .inl (cI, 1400, .inl ym_24_120)), (q_25, .inl (cZ, 1400, .inl ym_26_121))]) := hD
              refine lv_aload_n hx hb dX4_init_205 rfl (lv_at hl 3 rfl) ?_
              refine va_get (D := (dC, dI)) (ci := 4) (v := .ref q_5) (C := RX4) (T := TX4) (N := 23) hx hb hT inX4 hown hK hP 0 rfl rfl 6 (by decide) (hT _ k_164) (fun _ h9 => h9) rfl dX4_init_206 ?_
              refine lv_aload_n hx hb dX4_init_209 rfl (lv_at hl 3 rfl) ?_
              refine va_get (D := (dC, dI)) (ci := 4) (v := .int y_122) (C := RX4) (T := TX4) (N := 23) hx hb hT inX4 hown hK hP 0 rfl rfl 3 (by decide) (hT _ k_179) (fun _ h9 => h9) rfl dX4_init_210 ?_
              refine lv_iload hx hb dX4_init_213 (lv_at hl 1 rfl) ?_
              obtain ⟨h_131, hw⟩ := hw
              refine va_iast hx hb hK hP hD hS 3 0 rfl rfl h_131 dX4_init_215 (fun H locs hP hD hS => ?_)
              have hP : va_P (dC, dI) vwCl ([(a0, .inr (4, [.int 0, .int x1, .int 1, .int y_122, .ref q_1, .ref q_3, .ref q_5, .int y_123, .ref q_7, .ref q_9, .ref q_11, .ref q_13, .int 0, .int 0, .ref q_15, .int 0, .int 0, .ref q_17, .ref q_19, .ref q_21, .int 0, .ref q_23, .ref q_25])), (q_1, .inl (cI, 8, .inl (upd ym_2_109 y_122.toNatClampNeg y_123))), (q_3, .inl (cI, 8, .inl (upd ym_4_110 y_122.toNatClampNeg x3_126))), (q_5, .inl (cI, 8, .inl (upd ym_6_111 y_122.toNatClampNeg x4_125))), (q_7, .inl (cI, 1400, .inl ym_8_112)), (q_9, .inl (cI, 2800, .inl ym_10_113)), (q_11, .inl (cZ, 2800, .inl ym_12_114)), (q_13, .inl (cZ, 40000, .inl ym_14_115)), (q_15, .inl (cZ, 40000, .inl ym_16_116)), (q_17, .inl (cI, 8, .inl ym_18_117)), (q_19, .inl (cI, 8, .inl ym_20_118)), (q_21, .inl (cZ, 8, .inl ym_22_119)), (q_23, .inl (cI, 1400, .inl ym_24_120)), (q_25, .inl (cZ, 1400, .inl ym_26_121))]) H := hP
              have hD : va_D A ([(a0, .inr (4, [.int 0, .int x1, .int 1, .int y_122, .ref q_1, .ref q_3, .ref q_5, .int y_123, .ref q_7, .ref q_9, .ref q_11, .ref q_13, .int 0, .int 0, .ref q_15, .int 0, .int 0, .ref q_17, .ref q_19, .ref q_21, .int 0, .ref q_23, .ref q_25])), (q_1, .inl (cI, 8, .inl (upd ym_2_109 y_122.toNatClampNeg y_123))), (q_3, .inl (cI, 8, .inl (upd ym_4_110 y_122.toNatClampNeg x3_126))), (q_5, .inl (cI, 8, .inl (upd ym_6_111 y_122.toNatClampNeg x4_125))), (q_7, .inl (cI, 1400, .inl ym_8_112)), (q_9, .inl (cI, 2800, .inl ym_10_113)), (q_11, .inl (cZ, 2800, .inl ym_12_114)), (q_13, .inl (cZ, 40000, .inl ym_14_115)), (q_15, .inl (cZ, 40000, .inl ym_16_116)), (q_17, .inl (cI, 8, .inl ym_18_117)), (q_19, .inl (cI, 8, .inl ym_20_118)), (q_21, .inl (cZ, 8, .inl ym_22_119)), (q_23, .inl (cI, 1400, .inl ym_24_120)), (q_25, .inl (cZ, 1400, .inl ym_26_121))]) := hD
              refine lv_aload_n hx hb dX4_init_216 rfl (lv_at hl 3 rfl) ?_
              refine lv_dup hx hb dX4_init_217 rfl ?_
              refine va_get (D := (dC, dI)) (ci := 4) (v := .int y_123) (C := RX4) (T := TX4) (N := 23) hx hb hT inX4 hown hK hP 0 rfl rfl 7 (by decide) (hT _ k_180) (fun _ h9 => h9) rfl dX4_init_218 ?_
              refine lv_iload_n hx hb dX4_init_221 rfl (lv_at hl 2 rfl) ?_
              refine lv_iload hx hb dX4_init_222 (lv_at hl 1 rfl) ?_
              refine lv_imul hx hb dX4_init_224 ?_
              refine lv_iadd hx hb dX4_init_225 ?_
              refine lv_topi (fun f_132 ef_132 => ?_)
              have hw := hw f_132 ef_132
              refine va_put (D := (dC, dI)) (ci := 4) (v := .int f_132) (ty := .int) (C := RX4) (T := TX4) (N := 23) hx hb hT inX4 tyX4 tyX4_ok nmX4 hown hK hP hD hS 0 rfl rfl 7 (by decide) (hT _ k_180) (fun _ h9 => h9) rfl (by decide +kernel) rfl rfl (Nat.le_of_ble_eq_true rfl) dX4_init_226 (fun H locs hP hD hS => ?_)
              have hP : va_P (dC, dI) vwCl ([(a0, .inr (4, [.int 0, .int x1, .int 1, .int y_122, .ref q_1, .ref q_3, .ref q_5, .int f_132, .ref q_7, .ref q_9, .ref q_11, .ref q_13, .int 0, .int 0, .ref q_15, .int 0, .int 0, .ref q_17, .ref q_19, .ref q_21, .int 0, .ref q_23, .ref q_25])), (q_1, .inl (cI, 8, .inl (upd ym_2_109 y_122.toNatClampNeg y_123))), (q_3, .inl (cI, 8, .inl (upd ym_4_110 y_122.toNatClampNeg x3_126))), (q_5, .inl (cI, 8, .inl (upd ym_6_111 y_122.toNatClampNeg x4_125))), (q_7, .inl (cI, 1400, .inl ym_8_112)), (q_9, .inl (cI, 2800, .inl ym_10_113)), (q_11, .inl (cZ, 2800, .inl ym_12_114)), (q_13, .inl (cZ, 40000, .inl ym_14_115)), (q_15, .inl (cZ, 40000, .inl ym_16_116)), (q_17, .inl (cI, 8, .inl ym_18_117)), (q_19, .inl (cI, 8, .inl ym_20_118)), (q_21, .inl (cZ, 8, .inl ym_22_119)), (q_23, .inl (cI, 1400, .inl ym_24_120)), (q_25, .inl (cZ, 1400, .inl ym_26_121))]) H := hP
              have hD : va_D A ([(a0, .inr (4, [.int 0, .int x1, .int 1, .int y_122, .ref q_1, .ref q_3, .ref q_5, .int f_132, .ref q_7, .ref q_9, .ref q_11, .ref q_13, .int 0, .int 0, .ref q_15, .int 0, .int 0, .ref q_17, .ref q_19, .ref q_21, .int 0, .ref q_23, .ref q_25])), (q_1, .inl (cI, 8, .inl (upd ym_2_109 y_122.toNatClampNeg y_123))), (q_3, .inl (cI, 8, .inl (upd ym_4_110 y_122.toNatClampNeg x3_126))), (q_5, .inl (cI, 8, .inl (upd ym_6_111 y_122.toNatClampNeg x4_125))), (q_7, .inl (cI, 1400, .inl ym_8_112)), (q_9, .inl (cI, 2800, .inl ym_10_113)), (q_11, .inl (cZ, 2800, .inl ym_12_114)), (q_13, .inl (cZ, 40000, .inl ym_14_115)), (q_15, .inl (cZ, 40000, .inl ym_16_116)), (q_17, .inl (cI, 8, .inl ym_18_117)), (q_19, .inl (cI, 8, .inl ym_20_118)), (q_21, .inl (cZ, 8, .inl ym_22_119)), (q_23, .inl (cI, 1400, .inl ym_24_120)), (q_25, .inl (cZ, 1400, .inl ym_26_121))]) := hD
              refine lv_aload_n hx hb dX4_init_229 rfl (lv_at hl 3 rfl) ?_
              refine lv_dup hx hb dX4_init_230 rfl ?_
              refine va_get (D := (dC, dI)) (ci := 4) (v := .int y_122) (C := RX4) (T := TX4) (N := 23) hx hb hT inX4 hown hK hP 0 rfl rfl 3 (by decide) (hT _ k_179) (fun _ h9 => h9) rfl dX4_init_231 ?_
              refine lv_iconst (v := 1) hx hb dX4_init_234 (by decide) ?_
              refine lv_iadd hx hb dX4_init_235 ?_
              refine lv_topi (fun f_133 ef_133 => ?_)
              have hw := hw f_133 ef_133
              refine va_put (D := (dC, dI)) (ci := 4) (v := .int f_133) (ty := .int) (C := RX4) (T := TX4) (N := 23) hx hb hT inX4 tyX4 tyX4_ok nmX4 hown hK hP hD hS 0 rfl rfl 3 (by decide) (hT _ k_179) (fun _ h9 => h9) rfl (by decide +kernel) rfl rfl (Nat.le_of_ble_eq_true rfl) dX4_init_236 (fun H locs hP hD hS => ?_)
              have hP : va_P (dC, dI) vwCl ([(a0, .inr (4, [.int 0, .int x1, .int 1, .int f_133, .ref q_1, .ref q_3, .ref q_5, .int f_132, .ref q_7, .ref q_9, .ref q_11, .ref q_13, .int 0, .int 0, .ref q_15, .int 0, .int 0, .ref q_17, .ref q_19, .ref q_21, .int 0, .ref q_23, .ref q_25])), (q_1, .inl (cI, 8, .inl (upd ym_2_109 y_122.toNatClampNeg y_123))), (q_3, .inl (cI, 8, .inl (upd ym_4_110 y_122.toNatClampNeg x3_126))), (q_5, .inl (cI, 8, .inl (upd ym_6_111 y_122.toNatClampNeg x4_125))), (q_7, .inl (cI, 1400, .inl ym_8_112)), (q_9, .inl (cI, 2800, .inl ym_10_113)), (q_11, .inl (cZ, 2800, .inl ym_12_114)), (q_13, .inl (cZ, 40000, .inl ym_14_115)), (q_15, .inl (cZ, 40000, .inl ym_16_116)), (q_17, .inl (cI, 8, .inl ym_18_117)), (q_19, .inl (cI, 8, .inl ym_20_118)), (q_21, .inl (cZ, 8, .inl ym_22_119)), (q_23, .inl (cI, 1400, .inl ym_24_120)), (q_25, .inl (cZ, 1400, .inl ym_26_121))]) H := hP
              have hD : va_D A ([(a0, .inr (4, [.int 0, .int x1, .int 1, .int f_133, .ref q_1, .ref q_3, .ref q_5, .int f_132, .ref q_7, .ref q_9, .ref q_11, .ref q_13, .int 0, .int 0, .ref q_15, .int 0, .int 0, .ref q_17, .ref q_19, .ref q_21, .int 0, .ref q_23, .ref q_25])), (q_1, .inl (cI, 8, .inl (upd ym_2_109 y_122.toNatClampNeg y_123))), (q_3, .inl (cI, 8, .inl (upd ym_4_110 y_122.toNatClampNeg x3_126))), (q_5, .inl (cI, 8, .inl (upd ym_6_111 y_122.toNatClampNeg x4_125))), (q_7, .inl (cI, 1400, .inl ym_8_112)), (q_9, .inl (cI, 2800, .inl ym_10_113)), (q_11, .inl (cZ, 2800, .inl ym_12_114)), (q_13, .inl (cZ, 40000, .inl ym_14_115)), (q_15, .inl (cZ, 40000, .inl ym_16_116)), (q_17, .inl (cI, 8, .inl ym_18_117)), (q_19, .inl (cI, 8, .inl ym_20_118)), (q_21, .inl (cZ, 8, .inl ym_22_119)), (q_23, .inl (cI, 1400, .inl ym_24_120)), (q_25, .inl (cZ, 1400, .inl ym_26_121))]) := hD
              refine lv_iload_n hx hb dX4_init_239 rfl (lv_at hl 2 rfl) ?_
              refine lv_iconst (v := 1) hx hb dX4_init_240 (by decide) ?_
              refine lv_icmp_gt (tgt := 250) hx hb dX4_init_241 (by decide) (fun c_134 => ?_) (fun c_134 => ?_)
              · have hw := hw.1 c_134
                refine lv_iconst (v := 1) hx hb dX4_init_250 (by decide) ?_
                refine lv_goto (tgt := 255) hx hb dX4_init_251 (by decide) ?_
                refine lv_istore (lv' := [(5, .int 1), (4, .int x4_125), (3, .int x3_126), (0, .ref a0), (1, .int x1), (2, .int x2)]) hx hb dX4_init_255 hl (by decide) rfl (fun ls hl => ?_)
                refine lv_iload_n hx hb dX4_init_257 rfl (lv_at hl 2 rfl) ?_
                refine lv_iconst (v := 1) hx hb dX4_init_258 (by decide) ?_
                refine lv_iadd hx hb dX4_init_259 ?_
                refine lv_iconst (v := 2) hx hb dX4_init_260 (by decide) ?_
                obtain ⟨h_135, hw⟩ := hw
                refine lv_idiv hx hb dX4_init_261 h_135 ?_
                refine lv_topi (fun x3_136 ex3_136 => ?_)
                have hw := hw x3_136 ex3_136
                refine lv_istore_n (lv' := [(3, .int x3_136), (5, .int 1), (4, .int x4_125), (0, .ref a0), (1, .int x1), (2, .int x2)]) hx hb dX4_init_262 rfl hl (by decide) rfl (fun ls hl => ?_)
                refine lv_iload hx hb dX4_init_263 (lv_at hl 2 rfl) ?_
                refine lv_iconst (v := 1) hx hb dX4_init_265 (by decide) ?_
                refine lv_iadd hx hb dX4_init_266 ?_
                refine lv_iconst (v := 2) hx hb dX4_init_267 (by decide) ?_
                obtain ⟨h_137, hw⟩ := hw
                refine lv_idiv hx hb dX4_init_268 h_137 ?_
                refine lv_topi (fun x4_138 ex4_138 => ?_)
                have hw := hw x4_138 ex4_138
                refine lv_istore (lv' := [(4, .int x4_138), (3, .int x3_136), (5, .int 1), (0, .ref a0), (1, .int x1), (2, .int x2)]) hx hb dX4_init_269 hl (by decide) rfl (fun ls hl => ?_)
                refine lv_goto (tgt := 177) hx hb dX4_init_271 (by decide) ?_
                exact ih177_2 (upd ym_2_109 y_122.toNatClampNeg y_123) (upd ym_4_110 y_122.toNatClampNeg x3_126) (upd ym_6_111 y_122.toNatClampNeg x4_125) ym_8_112 ym_10_113 ym_12_114 ym_14_115 ym_16_116 ym_18_117 ym_20_118 ym_22_119 ym_24_120 ym_26_121 f_133 f_132 1 x4_138 x3_136 hw _ _ _ hP hD hS (lv_sub hl [2, 0, 1, 3, 4, 5] rfl)
              · have hw := hw.2 c_134
                refine lv_iload hx hb dX4_init_244 (lv_at hl 1 rfl) ?_
                refine lv_iconst (v := 1) hx hb dX4_init_246 (by decide) ?_
                refine lv_icmp_le (tgt := 254) hx hb dX4_init_247 (by decide) (fun c_139 => ?_) (fun c_139 => ?_)
                · have hw := hw.1 c_139
                  refine lv_iconst (v := 0) hx hb dX4_init_254 (by decide) ?_
                  refine lv_istore (lv' := [(5, .int 0), (4, .int x4_125), (3, .int x3_126), (0, .ref a0), (1, .int x1), (2, .int x2)]) hx hb dX4_init_255 hl (by decide) rfl (fun ls hl => ?_)
                  refine lv_iload_n hx hb dX4_init_257 rfl (lv_at hl 2 rfl) ?_
                  refine lv_iconst (v := 1) hx hb dX4_init_258 (by decide) ?_
                  refine lv_iadd hx hb dX4_init_259 ?_
                  refine lv_iconst (v := 2) hx hb dX4_init_260 (by decide) ?_
                  obtain ⟨h_140, hw⟩ := hw
                  refine lv_idiv hx hb dX4_init_261 h_140 ?_
                  refine lv_topi (fun x3_141 ex3_141 => ?_)
                  have hw := hw x3_141 ex3_141
                  refine lv_istore_n (lv' := [(3, .int x3_141), (5, .int 0), (4, .int x4_125), (0, .ref a0), (1, .int x1), (2, .int x2)]) hx hb dX4_init_262 rfl hl (by decide) rfl (fun ls hl => ?_)
                  refine lv_iload hx hb dX4_init_263 (lv_at hl 2 rfl) ?_
                  refine lv_iconst (v := 1) hx hb dX4_init_265 (by decide) ?_
                  refine lv_iadd hx hb dX4_init_266 ?_
                  refine lv_iconst (v := 2) hx hb dX4_init_267 (by decide) ?_
                  obtain ⟨h_142, hw⟩ := hw
                  refine lv_idiv hx hb dX4_init_268 h_142 ?_
                  refine lv_topi (fun x4_143 ex4_143 => ?_)
                  have hw := hw x4_143 ex4_143
                  refine lv_istore (lv' := [(4, .int x4_143), (3, .int x3_141), (5, .int 0), (0, .ref a0), (1, .int x1), (2, .int x2)]) hx hb dX4_init_269 hl (by decide) rfl (fun ls hl => ?_)
                  refine lv_goto (tgt := 177) hx hb dX4_init_271 (by decide) ?_
                  exact ih177_2 (upd ym_2_109 y_122.toNatClampNeg y_123) (upd ym_4_110 y_122.toNatClampNeg x3_126) (upd ym_6_111 y_122.toNatClampNeg x4_125) ym_8_112 ym_10_113 ym_12_114 ym_14_115 ym_16_116 ym_18_117 ym_20_118 ym_22_119 ym_24_120 ym_26_121 f_133 f_132 0 x4_143 x3_141 hw _ _ _ hP hD hS (lv_sub hl [2, 0, 1, 3, 4, 5] rfl)
                · have hw := hw.2 c_139
                  refine lv_iconst (v := 1) hx hb dX4_init_250 (by decide) ?_
                  refine lv_goto (tgt := 255) hx hb dX4_init_251 (by decide) ?_
                  refine lv_istore (lv' := [(5, .int 1), (4, .int x4_125), (3, .int x3_126), (0, .ref a0), (1, .int x1), (2, .int x2)]) hx hb dX4_init_255 hl (by decide) rfl (fun ls hl => ?_)
                  refine lv_iload_n hx hb dX4_init_257 rfl (lv_at hl 2 rfl) ?_
                  refine lv_iconst (v := 1) hx hb dX4_init_258 (by decide) ?_
                  refine lv_iadd hx hb dX4_init_259 ?_
                  refine lv_iconst (v := 2) hx hb dX4_init_260 (by decide) ?_
                  obtain ⟨h_144, hw⟩ := hw
                  refine lv_idiv hx hb dX4_init_261 h_144 ?_
                  refine lv_topi (fun x3_145 ex3_145 => ?_)
                  have hw := hw x3_145 ex3_145
                  refine lv_istore_n (lv' := [(3, .int x3_145), (5, .int 1), (4, .int x4_125), (0, .ref a0), (1, .int x1), (2, .int x2)]) hx hb dX4_init_262 rfl hl (by decide) rfl (fun ls hl => ?_)
                  refine lv_iload hx hb dX4_init_263 (lv_at hl 2 rfl) ?_
                  refine lv_iconst (v := 1) hx hb dX4_init_265 (by decide) ?_
                  refine lv_iadd hx hb dX4_init_266 ?_
                  refine lv_iconst (v := 2) hx hb dX4_init_267 (by decide) ?_
                  obtain ⟨h_146, hw⟩ := hw
                  refine lv_idiv hx hb dX4_init_268 h_146 ?_
                  refine lv_topi (fun x4_147 ex4_147 => ?_)
                  have hw := hw x4_147 ex4_147
                  refine lv_istore (lv' := [(4, .int x4_147), (3, .int x3_145), (5, .int 1), (0, .ref a0), (1, .int x1), (2, .int x2)]) hx hb dX4_init_269 hl (by decide) rfl (fun ls hl => ?_)
                  refine lv_goto (tgt := 177) hx hb dX4_init_271 (by decide) ?_
                  exact ih177_2 (upd ym_2_109 y_122.toNatClampNeg y_123) (upd ym_4_110 y_122.toNatClampNeg x3_126) (upd ym_6_111 y_122.toNatClampNeg x4_125) ym_8_112 ym_10_113 ym_12_114 ym_14_115 ym_16_116 ym_18_117 ym_20_118 ym_22_119 ym_24_120 ym_26_121 f_133 f_132 1 x4_147 x3_145 hw _ _ _ hP hD hS (lv_sub hl [2, 0, 1, 3, 4, 5] rfl)
        exact hlp177_2 n_127 (fun _ => 0) (fun _ => 0) (fun _ => 0) (fun _ => 0) (fun _ => 0) (fun _ => 0) (fun _ => 0) (fun _ => 0) (fun _ => 0) (fun _ => 0) (fun _ => 0) (fun _ => 0) (fun _ => 0) 0 0 1 1 x1 hw _ _ _ hP hD hS (lv_sub hl [0, 1, 2, 3, 4, 5] rfl)
    · have hw := hw.2 c_28
      refine lv_bipush (v := 32) hx hb dX4_init_129 (by decide) ?_
      refine lv_goto (tgt := 135) hx hb dX4_init_131 (by decide) ?_
      refine va_putF (D := (dC, dI)) (ci := 4) (v := .int 32) (ty := .int) (C := RX4) (T := TX4) (N := 23) hx hb hT inX4 tyX4 tyX4_ok nmX4 hown hK hP hD hS 0 rfl rfl 1 (by decide) (hT _ k_177) (fun _ h9 => h9) rfl hin rfl (by decide +kernel) rfl rfl (Nat.le_of_ble_eq_true rfl) dX4_init_135 (fun H locs hP hD hS => ?_)
      have hP : va_P (dC, dI) vwCl ([(a0, .inr (4, [.int 0, .int 32, .int 0, .int 0, .ref q_1, .ref q_3, .ref q_5, .int 0, .ref q_7, .ref q_9, .ref q_11, .ref q_13, .int 0, .int 0, .ref q_15, .int 0, .int 0, .ref q_17, .ref q_19, .ref q_21, .int 0, .ref q_23, .ref q_25])), (q_1, .inl (cI, 8, .inl (fun _ => 0))), (q_3, .inl (cI, 8, .inl (fun _ => 0))), (q_5, .inl (cI, 8, .inl (fun _ => 0))), (q_7, .inl (cI, 1400, .inl (fun _ => 0))), (q_9, .inl (cI, 2800, .inl (fun _ => 0))), (q_11, .inl (cZ, 2800, .inl (fun _ => 0))), (q_13, .inl (cZ, 40000, .inl (fun _ => 0))), (q_15, .inl (cZ, 40000, .inl (fun _ => 0))), (q_17, .inl (cI, 8, .inl (fun _ => 0))), (q_19, .inl (cI, 8, .inl (fun _ => 0))), (q_21, .inl (cZ, 8, .inl (fun _ => 0))), (q_23, .inl (cI, 1400, .inl (fun _ => 0))), (q_25, .inl (cZ, 1400, .inl (fun _ => 0)))]) H := hP
      have hD : va_D A ([(a0, .inr (4, [.int 0, .int 32, .int 0, .int 0, .ref q_1, .ref q_3, .ref q_5, .int 0, .ref q_7, .ref q_9, .ref q_11, .ref q_13, .int 0, .int 0, .ref q_15, .int 0, .int 0, .ref q_17, .ref q_19, .ref q_21, .int 0, .ref q_23, .ref q_25])), (q_1, .inl (cI, 8, .inl (fun _ => 0))), (q_3, .inl (cI, 8, .inl (fun _ => 0))), (q_5, .inl (cI, 8, .inl (fun _ => 0))), (q_7, .inl (cI, 1400, .inl (fun _ => 0))), (q_9, .inl (cI, 2800, .inl (fun _ => 0))), (q_11, .inl (cZ, 2800, .inl (fun _ => 0))), (q_13, .inl (cZ, 40000, .inl (fun _ => 0))), (q_15, .inl (cZ, 40000, .inl (fun _ => 0))), (q_17, .inl (cI, 8, .inl (fun _ => 0))), (q_19, .inl (cI, 8, .inl (fun _ => 0))), (q_21, .inl (cZ, 8, .inl (fun _ => 0))), (q_23, .inl (cI, 1400, .inl (fun _ => 0))), (q_25, .inl (cZ, 1400, .inl (fun _ => 0)))]) := hD
      refine lv_aload_n hx hb dX4_init_138 rfl (lv_at hl 0 rfl) ?_
      refine lv_iload_n hx hb dX4_init_139 rfl (lv_at hl 2 rfl) ?_
      refine lv_iconst (v := 1) hx hb dX4_init_140 (by decide) ?_
      refine lv_icmp_ge (tgt := 148) hx hb dX4_init_141 (by decide) (fun c_148 => ?_) (fun c_148 => ?_)
      · have hw := hw.1 c_148
        refine lv_iload_n hx hb dX4_init_148 rfl (lv_at hl 2 rfl) ?_
        refine lv_bipush (v := 32) hx hb dX4_init_149 (by decide) ?_
        refine lv_icmp_le (tgt := 159) hx hb dX4_init_151 (by decide) (fun c_149 => ?_) (fun c_149 => ?_)
        · have hw := hw.1 c_149
          refine lv_iload_n hx hb dX4_init_159 rfl (lv_at hl 2 rfl) ?_
          refine va_putF (D := (dC, dI)) (ci := 4) (v := .int x2) (ty := .int) (C := RX4) (T := TX4) (N := 23) hx hb hT inX4 tyX4 tyX4_ok nmX4 hown hK hP hD hS 0 rfl rfl 2 (by decide) (hT _ k_178) (fun _ h9 => h9) rfl hin rfl (by decide +kernel) rfl rfl (Nat.le_of_ble_eq_true rfl) dX4_init_160 (fun H locs hP hD hS => ?_)
          have hP : va_P (dC, dI) vwCl ([(a0, .inr (4, [.int 0, .int 32, .int x2, .int 0, .ref q_1, .ref q_3, .ref q_5, .int 0, .ref q_7, .ref q_9, .ref q_11, .ref q_13, .int 0, .int 0, .ref q_15, .int 0, .int 0, .ref q_17, .ref q_19, .ref q_21, .int 0, .ref q_23, .ref q_25])), (q_1, .inl (cI, 8, .inl (fun _ => 0))), (q_3, .inl (cI, 8, .inl (fun _ => 0))), (q_5, .inl (cI, 8, .inl (fun _ => 0))), (q_7, .inl (cI, 1400, .inl (fun _ => 0))), (q_9, .inl (cI, 2800, .inl (fun _ => 0))), (q_11, .inl (cZ, 2800, .inl (fun _ => 0))), (q_13, .inl (cZ, 40000, .inl (fun _ => 0))), (q_15, .inl (cZ, 40000, .inl (fun _ => 0))), (q_17, .inl (cI, 8, .inl (fun _ => 0))), (q_19, .inl (cI, 8, .inl (fun _ => 0))), (q_21, .inl (cZ, 8, .inl (fun _ => 0))), (q_23, .inl (cI, 1400, .inl (fun _ => 0))), (q_25, .inl (cZ, 1400, .inl (fun _ => 0)))]) H := hP
          have hD : va_D A ([(a0, .inr (4, [.int 0, .int 32, .int x2, .int 0, .ref q_1, .ref q_3, .ref q_5, .int 0, .ref q_7, .ref q_9, .ref q_11, .ref q_13, .int 0, .int 0, .ref q_15, .int 0, .int 0, .ref q_17, .ref q_19, .ref q_21, .int 0, .ref q_23, .ref q_25])), (q_1, .inl (cI, 8, .inl (fun _ => 0))), (q_3, .inl (cI, 8, .inl (fun _ => 0))), (q_5, .inl (cI, 8, .inl (fun _ => 0))), (q_7, .inl (cI, 1400, .inl (fun _ => 0))), (q_9, .inl (cI, 2800, .inl (fun _ => 0))), (q_11, .inl (cZ, 2800, .inl (fun _ => 0))), (q_13, .inl (cZ, 40000, .inl (fun _ => 0))), (q_15, .inl (cZ, 40000, .inl (fun _ => 0))), (q_17, .inl (cI, 8, .inl (fun _ => 0))), (q_19, .inl (cI, 8, .inl (fun _ => 0))), (q_21, .inl (cZ, 8, .inl (fun _ => 0))), (q_23, .inl (cI, 1400, .inl (fun _ => 0))), (q_25, .inl (cZ, 1400, .inl (fun _ => 0)))]) := hD
          refine lv_aload_n hx hb dX4_init_163 rfl (lv_at hl 0 rfl) ?_
          refine va_get (D := (dC, dI)) (ci := 4) (v := .int 32) (C := RX4) (T := TX4) (N := 23) hx hb hT inX4 hown hK hP 0 rfl rfl 1 (by decide) (hT _ k_177) (fun _ h9 => h9) rfl dX4_init_164 ?_
          refine lv_istore_n (lv' := [(3, .int 32), (0, .ref a0), (1, .int x1), (2, .int x2)]) hx hb dX4_init_167 rfl hl (by decide) rfl (fun ls hl => ?_)
          refine lv_aload_n hx hb dX4_init_168 rfl (lv_at hl 1 rfl) ?_
          refine va_get (D := (dC, dI)) (ci := 4) (v := .int x2) (C := RX4) (T := TX4) (N := 23) hx hb hT inX4 hown hK hP 0 rfl rfl 2 (by decide) (hT _ k_178) (fun _ h9 => h9) rfl dX4_init_169 ?_
          refine lv_istore (lv' := [(4, .int x2), (3, .int 32), (0, .ref a0), (1, .int x1), (2, .int x2)]) hx hb dX4_init_172 hl (by decide) rfl (fun ls hl => ?_)
          refine lv_iconst (v := 1) hx hb dX4_init_174 (by decide) ?_
          refine lv_istore (lv' := [(5, .int 1), (4, .int x2), (3, .int 32), (0, .ref a0), (1, .int x1), (2, .int x2)]) hx hb dX4_init_175 hl (by decide) rfl (fun ls hl => ?_)
          obtain ⟨n_168, hw⟩ := hw
          obtain ⟨ex177_3, eex177_3⟩ : ∃ z : (Nat → Int32) → (Nat → Int32) → (Nat → Int32) → (Nat → Int32) → (Nat → Int32) → (Nat → Int32) → (Nat → Int32) → (Nat → Int32) → (Nat → Int32) → (Nat → Int32) → (Nat → Int32) → (Nat → Int32) → (Nat → Int32) → Int32 → Int32 → Int32 → Int32 → Int32 → Prop, z = (fun (ym_2_150 : (Nat → Int32)) (ym_4_151 : (Nat → Int32)) (ym_6_152 : (Nat → Int32)) (ym_8_153 : (Nat → Int32)) (ym_10_154 : (Nat → Int32)) (ym_12_155 : (Nat → Int32)) (ym_14_156 : (Nat → Int32)) (ym_16_157 : (Nat → Int32)) (ym_18_158 : (Nat → Int32)) (ym_20_159 : (Nat → Int32)) (ym_22_160 : (Nat → Int32)) (ym_24_161 : (Nat → Int32)) (ym_26_162 : (Nat → Int32)) (y_163 : Int32) (y_164 : Int32) (x5_165 : Int32) (x4_166 : Int32) (x3_167 : Int32) => post (((32, x2, y_163, y_164), ym_2_150, ym_4_151, ym_6_152), (0, ym_8_153, ym_10_154, ym_12_155, (ym_14_156, 0, 0), (ym_16_157, 0, 0), (ym_18_158, ym_20_159, ym_22_160, 0), ym_24_161, ym_26_162))) := ⟨_, rfl⟩
          rw [← eex177_3] at hw
          have hx177_3 : ∀ (ym_2_150 : (Nat → Int32)) (ym_4_151 : (Nat → Int32)) (ym_6_152 : (Nat → Int32)) (ym_8_153 : (Nat → Int32)) (ym_10_154 : (Nat → Int32)) (ym_12_155 : (Nat → Int32)) (ym_14_156 : (Nat → Int32)) (ym_16_157 : (Nat → Int32)) (ym_18_158 : (Nat → Int32)) (ym_20_159 : (Nat → Int32)) (ym_22_160 : (Nat → Int32)) (ym_24_161 : (Nat → Int32)) (ym_26_162 : (Nat → Int32)) (y_163 : Int32) (y_164 : Int32) (x5_165 : Int32) (x4_166 : Int32) (x3_167 : Int32), ex177_3 ym_2_150 ym_4_151 ym_6_152 ym_8_153 ym_10_154 ym_12_155 ym_14_156 ym_16_157 ym_18_158 ym_20_159 ym_22_160 ym_24_161 ym_26_162 y_163 y_164 x5_165 x4_166 x3_167 → ∀ (H : Heap) (locs : List Loc) (ls : Array Slot), va_P (dC, dI) vwCl ([(a0, .inr (4, [.int 0, .int 32, .int x2, .int y_163, .ref q_1, .ref q_3, .ref q_5, .int y_164, .ref q_7, .ref q_9, .ref q_11, .ref q_13, .int 0, .int 0, .ref q_15, .int 0, .int 0, .ref q_17, .ref q_19, .ref q_21, .int 0, .ref q_23, .ref q_25])), (q_1, .inl (cI, 8, .inl ym_2_150)), (q_3, .inl (cI, 8, .inl ym_4_151)), (q_5, .inl (cI, 8, .inl ym_6_152)), (q_7, .inl (cI, 1400, .inl ym_8_153)), (q_9, .inl (cI, 2800, .inl ym_10_154)), (q_11, .inl (cZ, 2800, .inl ym_12_155)), (q_13, .inl (cZ, 40000, .inl ym_14_156)), (q_15, .inl (cZ, 40000, .inl ym_16_157)), (q_17, .inl (cI, 8, .inl ym_18_158)), (q_19, .inl (cI, 8, .inl ym_20_159)), (q_21, .inl (cZ, 8, .inl ym_22_160)), (q_23, .inl (cI, 1400, .inl ym_24_161)), (q_25, .inl (cZ, 1400, .inl ym_26_162))]) H → va_D A ([(a0, .inr (4, [.int 0, .int 32, .int x2, .int y_163, .ref q_1, .ref q_3, .ref q_5, .int y_164, .ref q_7, .ref q_9, .ref q_11, .ref q_13, .int 0, .int 0, .ref q_15, .int 0, .int 0, .ref q_17, .ref q_19, .ref q_21, .int 0, .ref q_23, .ref q_25])), (q_1, .inl (cI, 8, .inl ym_2_150)), (q_3, .inl (cI, 8, .inl ym_4_151)), (q_5, .inl (cI, 8, .inl ym_6_152)), (q_7, .inl (cI, 1400, .inl ym_8_153)), (q_9, .inl (cI, 2800, .inl ym_10_154)), (q_11, .inl (cZ, 2800, .inl ym_12_155)), (q_13, .inl (cZ, 40000, .inl ym_14_156)), (q_15, .inl (cZ, 40000, .inl ym_16_157)), (q_17, .inl (cI, 8, .inl ym_18_158)), (q_19, .inl (cI, 8, .inl ym_20_159)), (q_21, .inl (cZ, 8, .inl ym_22_160)), (q_23, .inl (cI, 1400, .inl ym_24_161)), (q_25, .inl (cZ, 1400, .inl ym_26_162))]) → va_S A s.heap H locs → lv_has ls 6 [(5, .int x5_165), (4, .int x4_166), (3, .int x3_167), (0, .ref a0), (1, .int x1), (2, .int x2)] → W p l e (headSpec wsX4_init rm_X4_init).room s m args below meth c H locs 13 89848 (MQ below (va_Qv post (fun (u : vMS × vMM) t => ∃ (am : Nat → Nat), am 0 = a0 ∧ qB (dC, dI) (tysA cI cZ cJ cL) A (wMM cI cZ am u.1 u.2) t) A) args s 13 89848 A) (F0 m 274 ls []) := by
            intro ym_2_150 ym_4_151 ym_6_152 ym_8_153 ym_10_154 ym_12_155 ym_14_156 ym_16_157 ym_18_158 ym_20_159 ym_22_160 ym_24_161 ym_26_162 y_163 y_164 x5_165 x4_166 x3_167 hw H locs ls hP hD hS hl
            rw [eex177_3] at hw
            try dsimp only at hw
            have hP := hP.sub (ws' := (wMM cI cZ (fun i => ([a0, q_1, q_3, q_5, q_7, q_9, q_11, q_13, q_15, q_17, q_19, q_21, q_23, q_25] : List Nat).getD i 0) (((32, x2, y_163, y_164), ym_2_150, ym_4_151, ym_6_152), (0, ym_8_153, ym_10_154, ym_12_155, (ym_14_156, 0, 0), (ym_16_157, 0, 0), (ym_18_158, ym_20_159, ym_22_160, 0), ym_24_161, ym_26_162)).1 (((32, x2, y_163, y_164), ym_2_150, ym_4_151, ym_6_152), (0, ym_8_153, ym_10_154, ym_12_155, (ym_14_156, 0, 0), (ym_16_157, 0, 0), (ym_18_158, ym_20_159, ym_22_160, 0), ym_24_161, ym_26_162)).2)) [0, 1, 2, 3, 4, 5, 6, 7, 8, 9, 10, 11, 12, 13] rfl
            have hD := hD.sub (ws' := (wMM cI cZ (fun i => ([a0, q_1, q_3, q_5, q_7, q_9, q_11, q_13, q_15, q_17, q_19, q_21, q_23, q_25] : List Nat).getD i 0) (((32, x2, y_163, y_164), ym_2_150, ym_4_151, ym_6_152), (0, ym_8_153, ym_10_154, ym_12_155, (ym_14_156, 0, 0), (ym_16_157, 0, 0), (ym_18_158, ym_20_159, ym_22_160, 0), ym_24_161, ym_26_162)).1 (((32, x2, y_163, y_164), ym_2_150, ym_4_151, ym_6_152), (0, ym_8_153, ym_10_154, ym_12_155, (ym_14_156, 0, 0), (ym_16_157, 0, 0), (ym_18_158, ym_20_159, ym_22_160, 0), ym_24_161, ym_26_162)).2)) [0, 1, 2, 3, 4, 5, 6, 7, 8, 9, 10, 11, 12, 13] (by decide) rfl
            exact W.vret hx hb hr (fun t ht hW => ⟨⟨(((32, x2, y_163, y_164), ym_2_150, ym_4_151, ym_6_152), (0, ym_8_153, ym_10_154, ym_12_155, (ym_14_156, 0, 0), (ym_16_157, 0, 0), (ym_18_158, ym_20_159, ym_22_160, 0), ym_24_161, ym_26_162)), rfl, hw, (fun i => ([a0, q_1, q_3, q_5, q_7, q_9, q_11, q_13, q_15, q_17, q_19, q_21, q_23, q_25] : List Nat).getD i 0), rfl, by rw [ht]; exact hP, va_K.moved hW.alike hK, hD⟩, hS.F ht⟩) hS.2.2 dX4_init_274
          have hlp177_3 : ∀ (n_168 : Nat) (ym_2_150 : (Nat → Int32)) (ym_4_151 : (Nat → Int32)) (ym_6_152 : (Nat → Int32)) (ym_8_153 : (Nat → Int32)) (ym_10_154 : (Nat → Int32)) (ym_12_155 : (Nat → Int32)) (ym_14_156 : (Nat → Int32)) (ym_16_157 : (Nat → Int32)) (ym_18_158 : (Nat → Int32)) (ym_20_159 : (Nat → Int32)) (ym_22_160 : (Nat → Int32)) (ym_24_161 : (Nat → Int32)) (ym_26_162 : (Nat → Int32)) (y_163 : Int32) (y_164 : Int32) (x5_165 : Int32) (x4_166 : Int32) (x3_167 : Int32), wp_X4_init_L177_3 post ex177_3 x2 x1 n_168 ym_2_150 ym_4_151 ym_6_152 ym_8_153 ym_10_154 ym_12_155 ym_14_156 ym_16_157 ym_18_158 ym_20_159 ym_22_160 ym_24_161 ym_26_162 y_163 y_164 x5_165 x4_166 x3_167 → ∀ (H : Heap) (locs : List Loc) (ls : Array Slot), va_P (dC, dI) vwCl ([(a0, .inr (4, [.int 0, .int 32, .int x2, .int y_163, .ref q_1, .ref q_3, .ref q_5, .int y_164, .ref q_7, .ref q_9, .ref q_11, .ref q_13, .int 0, .int 0, .ref q_15, .int 0, .int 0, .ref q_17, .ref q_19, .ref q_21, .int 0, .ref q_23, .ref q_25])), (q_1, .inl (cI, 8, .inl ym_2_150)), (q_3, .inl (cI, 8, .inl ym_4_151)), (q_5, .inl (cI, 8, .inl ym_6_152)), (q_7, .inl (cI, 1400, .inl ym_8_153)), (q_9, .inl (cI, 2800, .inl ym_10_154)), (q_11, .inl (cZ, 2800, .inl ym_12_155)), (q_13, .inl (cZ, 40000, .inl ym_14_156)), (q_15, .inl (cZ, 40000, .inl ym_16_157)), (q_17, .inl (cI, 8, .inl ym_18_158)), (q_19, .inl (cI, 8, .inl ym_20_159)), (q_21, .inl (cZ, 8, .inl ym_22_160)), (q_23, .inl (cI, 1400, .inl ym_24_161)), (q_25, .inl (cZ, 1400, .inl ym_26_162))]) H → va_D A ([(a0, .inr (4, [.int 0, .int 32, .int x2, .int y_163, .ref q_1, .ref q_3, .ref q_5, .int y_164, .ref q_7, .ref q_9, .ref q_11, .ref q_13, .int 0, .int 0, .ref q_15, .int 0, .int 0, .ref q_17, .ref q_19, .ref q_21, .int 0, .ref q_23, .ref q_25])), (q_1, .inl (cI, 8, .inl ym_2_150)), (q_3, .inl (cI, 8, .inl ym_4_151)), (q_5, .inl (cI, 8, .inl ym_6_152)), (q_7, .inl (cI, 1400, .inl ym_8_153)), (q_9, .inl (cI, 2800, .inl ym_10_154)), (q_11, .inl (cZ, 2800, .inl ym_12_155)), (q_13, .inl (cZ, 40000, .inl ym_14_156)), (q_15, .inl (cZ, 40000, .inl ym_16_157)), (q_17, .inl (cI, 8, .inl ym_18_158)), (q_19, .inl (cI, 8, .inl ym_20_159)), (q_21, .inl (cZ, 8, .inl ym_22_160)), (q_23, .inl (cI, 1400, .inl ym_24_161)), (q_25, .inl (cZ, 1400, .inl ym_26_162))]) → va_S A s.heap H locs → lv_has ls 6 [(5, .int x5_165), (4, .int x4_166), (3, .int x3_167), (0, .ref a0), (1, .int x1), (2, .int x2)] → W p l e (headSpec wsX4_init rm_X4_init).room s m args below meth c H locs 13 89848 (MQ below (va_Qv post (fun (u : vMS × vMM) t => ∃ (am : Nat → Nat), am 0 = a0 ∧ qB (dC, dI) (tysA cI cZ cJ cL) A (wMM cI cZ am u.1 u.2) t) A) args s 13 89848 A) (F0 m 177 ls []) := by
            intro n_168
            induction n_168 with
            | zero => intro _ _ _ _ _ _ _ _ _ _ _ _ _ _ _ _ _ _ hw; exact hw.elim
            | succ n_168 ih177_3 =>
              intro ym_2_150 ym_4_151 ym_6_152 ym_8_153 ym_10_154 ym_12_155 ym_14_156 ym_16_157 ym_18_158 ym_20_159 ym_22_160 ym_24_161 ym_26_162 y_163 y_164 x5_165 x4_166 x3_167 hw H locs ls hP hD hS hl
              unfold wp_X4_init_L177_3 at hw
              refine lv_iload hx hb dX4_init_177 (lv_at hl 0 rfl) ?_
              refine lv_if_eq (tgt := 274) hx hb dX4_init_179 (by decide) (fun c_169 => ?_) (fun c_169 => ?_)
              · have hw := hw.1 c_169
                exact hx177_3 ym_2_150 ym_4_151 ym_6_152 ym_8_153 ym_10_154 ym_12_155 ym_14_156 ym_16_157 ym_18_158 ym_20_159 ym_22_160 ym_24_161 ym_26_162 y_163 y_164 x5_165 x4_166 x3_167 hw _ _ _ hP hD hS (lv_sub hl [0, 1, 2, 3, 4, 5] rfl)
              · have hw := hw.2 c_169
                refine lv_aload_n hx hb dX4_init_182 rfl (lv_at hl 3 rfl) ?_
                refine va_get (D := (dC, dI)) (ci := 4) (v := .ref q_1) (C := RX4) (T := TX4) (N := 23) hx hb hT inX4 hown hK hP 0 rfl rfl 4 (by decide) (hT _ k_162) (fun _ h9 => h9) rfl dX4_init_183 ?_
                refine lv_aload_n hx hb dX4_init_186 rfl (lv_at hl 3 rfl) ?_
                refine va_get (D := (dC, dI)) (ci := 4) (v := .int y_163) (C := RX4) (T := TX4) (N := 23) hx hb hT inX4 hown hK hP 0 rfl rfl 3 (by decide) (hT _ k_179) (fun _ h9 => h9) rfl dX4_init_187 ?_
                refine lv_aload_n hx hb dX4_init_190 rfl (lv_at hl 3 rfl) ?_
                refine va_get (D := (dC, dI)) (ci := 4) (v := .int y_164) (C := RX4) (T := TX4) (N := 23) hx hb hT inX4 hown hK hP 0 rfl rfl 7 (by decide) (hT _ k_180) (fun _ h9 => h9) rfl dX4_init_191 ?_
                obtain ⟨h_170, hw⟩ := hw
                refine va_iast hx hb hK hP hD hS 1 0 rfl rfl h_170 dX4_init_194 (fun H locs hP hD hS => ?_)
                have hP : va_P (dC, dI) vwCl ([(a0, .inr (4, [.int 0, .int 32, .int x2, .int y_163, .ref q_1, .ref q_3, .ref q_5, .int y_164, .ref q_7, .ref q_9, .ref q_11, .ref q_13, .int 0, .int 0, .ref q_15, .int 0, .int 0, .ref q_17, .ref q_19, .ref q_21, .int 0, .ref q_23, .ref q_25])), (q_1, .inl (cI, 8, .inl (upd ym_2_150 y_163.toNatClampNeg y_164))), (q_3, .inl (cI, 8, .inl ym_4_151)), (q_5, .inl (cI, 8, .inl ym_6_152)), (q_7, .inl (cI, 1400, .inl ym_8_153)), (q_9, .inl (cI, 2800, .inl ym_10_154)), (q_11, .inl (cZ, 2800, .inl ym_12_155)), (q_13, .inl (cZ, 40000, .inl ym_14_156)), (q_15, .inl (cZ, 40000, .inl ym_16_157)), (q_17, .inl (cI, 8, .inl ym_18_158)), (q_19, .inl (cI, 8, .inl ym_20_159)), (q_21, .inl (cZ, 8, .inl ym_22_160)), (q_23, .inl (cI, 1400, .inl ym_24_161)), (q_25, .inl (cZ, 1400, .inl ym_26_162))]) H := hP
                have hD : va_D A ([(a0, .inr (4, [.int 0, .int 32, .int x2, .int y_163, .ref q_1, .ref q_3, .ref q_5, .int y_164, .ref q_7, .ref q_9, .ref q_11, .ref q_13, .int 0, .int 0, .ref q_15, .int 0, .int 0, .ref q_17, .ref q_19, .ref q_21, .int 0, .ref q_23, .ref q_25])), (q_1, .inl (cI, 8, .inl (upd ym_2_150 y_163.toNatClampNeg y_164))), (q_3, .inl (cI, 8, .inl ym_4_151)), (q_5, .inl (cI, 8, .inl ym_6_152)), (q_7, .inl (cI, 1400, .inl ym_8_153)), (q_9, .inl (cI, 2800, .inl ym_10_154)), (q_11, .inl (cZ, 2800, .inl ym_12_155)), (q_13, .inl (cZ, 40000, .inl ym_14_156)), (q_15, .inl (cZ, 40000, .inl ym_16_157)), (q_17, .inl (cI, 8, .inl ym_18_158)), (q_19, .inl (cI, 8, .inl ym_20_159)), (q_21, .inl (cZ, 8, .inl ym_22_160)), (q_23, .inl (cI, 1400, .inl ym_24_161)), (q_25, .inl (cZ, 1400, .inl ym_26_162))]) := hD
                refine lv_aload_n hx hb dX4_init_195 rfl (lv_at hl 3 rfl) ?_
                refine va_get (D := (dC, dI)) (ci := 4) (v := .ref q_3) (C := RX4) (T := TX4) (N := 23) hx hb hT inX4 hown hK hP 0 rfl rfl 5 (by decide) (hT _ k_163) (fun _ h9 => h9) rfl dX4_init_196 ?_
                refine lv_aload_n hx hb dX4_init_199 rfl (lv_at hl 3 rfl) ?_
                refine va_get (D := (dC, dI)) (ci := 4) (v := .int y_163) (C := RX4) (T := TX4) (N := 23) hx hb hT inX4 hown hK hP 0 rfl rfl 3 (by decide) (hT _ k_179) (fun _ h9 => h9) rfl dX4_init_200 ?_
                refine lv_iload_n hx hb dX4_init_203 rfl (lv_at hl 2 rfl) ?_
                obtain ⟨h_171, hw⟩ := hw
                refine va_iast hx hb hK hP hD hS 2 0 rfl rfl h_171 dX4_init_204 (fun H locs hP hD hS => ?_)
                have hP : va_P (dC, dI) vwCl ([(a0, .inr (4, [.int 0, .int 32, .int x2, .int y_163, .ref q_1, .ref q_3, .ref q_5, .int y_164, .ref q_7, .ref q_9, .ref q_11, .ref q_13, .int 0, .int 0, .ref q_15, .int 0, .int 0, .ref q_17, .ref q_19, .ref q_21, .int 0, .ref q_23, .ref q_25])), (q_1, .inl (cI, 8, .inl (upd ym_2_150 y_163.toNatClampNeg y_164))), (q_3, .inl (cI, 8, .inl (upd ym_4_151 y_163.toNatClampNeg x3_167))), (q_5, .inl (cI, 8, .inl ym_6_152)), (q_7, .inl (cI, 1400, .inl ym_8_153)), (q_9, .inl (cI, 2800, .inl ym_10_154)), (q_11, .inl (cZ, 2800, .inl ym_12_155)), (q_13, .inl (cZ, 40000, .inl ym_14_156)), (q_15, .inl (cZ, 40000, .inl ym_16_157)), (q_17, .inl (cI, 8, .inl ym_18_158)), (q_19, .inl (cI, 8, .inl ym_20_159)), (q_21, .inl (cZ, 8, .inl ym_22_160)), (q_23, .inl (cI, 1400, .inl ym_24_161)), (q_25, .inl (cZ, 1400, .inl ym_26_162))]) H := hP
                have hD : va_D A ([(a0, .inr (4, [.int 0, .int 32, .int x2, .int y_163, .ref q_1, .ref q_3, .ref q_5, .int y_164, .ref q_7, .ref q_9, .ref q_11, .ref q_13, .int 0, .int 0, .ref q_15, .int 0, .int 0, .ref q_17, .ref q_19, .ref q_21, .int 0, .ref q_23, .ref q_25])), (q_1, .inl (cI, 8, .inl (upd ym_2_150 y_163.toNatClampNeg y_164))), (q_3, .inl (cI, 8, .inl (upd ym_4_151 y_163.toNatClampNeg x3_167))), (q_5, .inl (cI, 8, .inl ym_6_152)), (q_7, .inl (cI, 1400, .inl ym_8_153)), (q_9, .inl (cI, 2800, .inl ym_10_154)), (q_11, .inl (cZ, 2800, .inl ym_12_155)), (q_13, .inl (cZ, 40000, .inl ym_14_156)), (q_15, .inl (cZ, 40000, .inl ym_16_157)), (q_17, .inl (cI, 8, .inl ym_18_158)), (q_19, .inl (cI, 8, .inl ym_20_159)), (q_21, .inl (cZ, 8, .inl ym_22_160)), (q_23, .inl (cI, 1400, .inl ym_24_161)), (q_25, .inl (cZ, 1400, .inl ym_26_162))]) := hD
                refine lv_aload_n hx hb dX4_init_205 rfl (lv_at hl 3 rfl) ?_
                refine va_get (D := (dC, dI)) (ci := 4) (v := .ref q_5) (C := RX4) (T := TX4) (N := 23) hx hb hT inX4 hown hK hP 0 rfl rfl 6 (by decide) (hT _ k_164) (fun _ h9 => h9) rfl dX4_init_206 ?_
                refine lv_aload_n hx hb dX4_init_209 rfl (lv_at hl 3 rfl) ?_
                refine va_get (D := (dC, dI)) (ci := 4) (v := .int y_163) (C := RX4) (T := TX4) (N := 23) hx hb hT inX4 hown hK hP 0 rfl rfl 3 (by decide) (hT _ k_179) (fun _ h9 => h9) rfl dX4_init_210 ?_
                refine lv_iload hx hb dX4_init_213 (lv_at hl 1 rfl) ?_
                obtain ⟨h_172, hw⟩ := hw
                refine va_iast hx hb hK hP hD hS 3 0 rfl rfl h_172 dX4_init_215 (fun H locs hP hD hS => ?_)
                have hP : va_P (dC, dI) vwCl ([(a0, .inr (4, [.int 0, .int 32, .int x2, .int y_163, .ref q_1, .ref q_3, .ref q_5, .int y_164, .ref q_7, .ref q_9, .ref q_11, .ref q_13, .int 0, .int 0, .ref q_15, .int 0, .int 0, .ref q_17, .ref q_19, .ref q_21, .int 0, .ref q_23, .ref q_25])), (q_1, .inl (cI, 8, .inl (upd ym_2_150 y_163.toNatClampNeg y_164))), (q_3, .inl (cI, 8, .inl (upd ym_4_151 y_163.toNatClampNeg x3_167))), (q_5, .inl (cI, 8, .inl (upd ym_6_152 y_163.toNatClampNeg x4_166))), (q_7, .inl (cI, 1400, .inl ym_8_153)), (q_9, .inl (cI, 2800, .inl ym_10_154)), (q_11, .inl (cZ, 2800, .inl ym_12_155)), (q_13, .inl (cZ, 40000, .inl ym_14_156)), (q_15, .inl (cZ, 40000, .inl ym_16_157)), (q_17, .inl (cI, 8, .inl ym_18_158)), (q_19, .inl (cI, 8, .inl ym_20_159)), (q_21, .inl (cZ, 8, .inl ym_22_160)), (q_23, .inl (cI, 1400, .inl ym_24_161)), (q_25, .inl (cZ, 1400, .inl ym_26_162))]) H := hP
                have hD : va_D A ([(a0, .inr (4, [.int 0, .int 32, .int x2, .int y_163, .ref q_1, .ref q_3, .ref q_5, .int y_164, .ref q_7, .ref q_9, .ref q_11, .ref q_13, .int 0, .int 0, .ref q_15, .int 0, .int 0, .ref q_17, .ref q_19, .ref q_21, .int 0, .ref q_23, .ref q_25])), (q_1, .inl (cI, 8, .inl (upd ym_2_150 y_163.toNatClampNeg y_164))), (q_3, .inl (cI, 8, .inl (upd ym_4_151 y_163.toNatClampNeg x3_167))), (q_5, .inl (cI, 8, .inl (upd ym_6_152 y_163.toNatClampNeg x4_166))), (q_7, .inl (cI, 1400, .inl ym_8_153)), (q_9, .inl (cI, 2800, .inl ym_10_154)), (q_11, .inl (cZ, 2800, .inl ym_12_155)), (q_13, .inl (cZ, 40000, .inl ym_14_156)), (q_15, .inl (cZ, 40000, .inl ym_16_157)), (q_17, .inl (cI, 8, .inl ym_18_158)), (q_19, .inl (cI, 8, .inl ym_20_159)), (q_21, .inl (cZ, 8, .inl ym_22_160)), (q_23, .inl (cI, 1400, .inl ym_24_161)), (q_25, .inl (cZ, 1400, .inl ym_26_162))]) := hD
                refine lv_aload_n hx hb dX4_init_216 rfl (lv_at hl 3 rfl) ?_
                refine lv_dup hx hb dX4_init_217 rfl ?_
                refine va_get (D := (dC, dI)) (ci := 4) (v := .int y_164) (C := RX4) (T := TX4) (N := 23) hx hb hT inX4 hown hK hP 0 rfl rfl 7 (by decide) (hT _ k_180) (fun _ h9 => h9) rfl dX4_init_218 ?_
                refine lv_iload_n hx hb dX4_init_221 rfl (lv_at hl 2 rfl) ?_
                refine lv_iload hx hb dX4_init_222 (lv_at hl 1 rfl) ?_
                refine lv_imul hx hb dX4_init_224 ?_
                refine lv_iadd hx hb dX4_init_225 ?_
                refine lv_topi (fun f_173 ef_173 => ?_)
                have hw := hw f_173 ef_173
                refine va_put (D := (dC, dI)) (ci := 4) (v := .int f_173) (ty := .int) (C := RX4) (T := TX4) (N := 23) hx hb hT inX4 tyX4 tyX4_ok nmX4 hown hK hP hD hS 0 rfl rfl 7 (by decide) (hT _ k_180) (fun _ h9 => h9) rfl (by decide +kernel) rfl rfl (Nat.le_of_ble_eq_true rfl) dX4_init_226 (fun H locs hP hD hS => ?_)
                have hP : va_P (dC, dI) vwCl ([(a0, .inr (4, [.int 0, .int 32, .int x2, .int y_163, .ref q_1, .ref q_3, .ref q_5, .int f_173, .ref q_7, .ref q_9, .ref q_11, .ref q_13, .int 0, .int 0, .ref q_15, .int 0, .int 0, .ref q_17, .ref q_19, .ref q_21, .int 0, .ref q_23, .ref q_25])), (q_1, .inl (cI, 8, .inl (upd ym_2_150 y_163.toNatClampNeg y_164))), (q_3, .inl (cI, 8, .inl (upd ym_4_151 y_163.toNatClampNeg x3_167))), (q_5, .inl (cI, 8, .inl (upd ym_6_152 y_163.toNatClampNeg x4_166))), (q_7, .inl (cI, 1400, .inl ym_8_153)), (q_9, .inl (cI, 2800, .inl ym_10_154)), (q_11, .inl (cZ, 2800, .inl ym_12_155)), (q_13, .inl (cZ, 40000, .inl ym_14_156)), (q_15, .inl (cZ, 40000, .inl ym_16_157)), (q_17, .inl (cI, 8, .inl ym_18_158)), (q_19, .inl (cI, 8, .inl ym_20_159)), (q_21, .inl (cZ, 8, .inl ym_22_160)), (q_23, .inl (cI, 1400, .inl ym_24_161)), (q_25, .inl (cZ, 1400, .inl ym_26_162))]) H := hP
                have hD : va_D A ([(a0, .inr (4, [.int 0, .int 32, .int x2, .int y_163, .ref q_1, .ref q_3, .ref q_5, .int f_173, .ref q_7, .ref q_9, .ref q_11, .ref q_13, .int 0, .int 0, .ref q_15, .int 0, .int 0, .ref q_17, .ref q_19, .ref q_21, .int 0, .ref q_23, .ref q_25])), (q_1, .inl (cI, 8, .inl (upd ym_2_150 y_163.toNatClampNeg y_164))), (q_3, .inl (cI, 8, .inl (upd ym_4_151 y_163.toNatClampNeg x3_167))), (q_5, .inl (cI, 8, .inl (upd ym_6_152 y_163.toNatClampNeg x4_166))), (q_7, .inl (cI, 1400, .inl ym_8_153)), (q_9, .inl (cI, 2800, .inl ym_10_154)), (q_11, .inl (cZ, 2800, .inl ym_12_155)), (q_13, .inl (cZ, 40000, .inl ym_14_156)), (q_15, .inl (cZ, 40000, .inl ym_16_157)), (q_17, .inl (cI, 8, .inl ym_18_158)), (q_19, .inl (cI, 8, .inl ym_20_159)), (q_21, .inl (cZ, 8, .inl ym_22_160)), (q_23, .inl (cI, 1400, .inl ym_24_161)), (q_25, .inl (cZ, 1400, .inl ym_26_162))]) := hD
                refine lv_aload_n hx hb dX4_init_229 rfl (lv_at hl 3 rfl) ?_
                refine lv_dup hx hb dX4_init_230 rfl ?_
                refine va_get (D := (dC, dI)) (ci := 4) (v := .int y_163) (C := RX4) (T := TX4) (N := 23) hx hb hT inX4 hown hK hP 0 rfl rfl 3 (by decide) (hT _ k_179) (fun _ h9 => h9) rfl dX4_init_231 ?_
                refine lv_iconst (v := 1) hx hb dX4_init_234 (by decide) ?_
                refine lv_iadd hx hb dX4_init_235 ?_
                refine lv_topi (fun f_174 ef_174 => ?_)
                have hw := hw f_174 ef_174
                refine va_put (D := (dC, dI)) (ci := 4) (v := .int f_174) (ty := .int) (C := RX4) (T := TX4) (N := 23) hx hb hT inX4 tyX4 tyX4_ok nmX4 hown hK hP hD hS 0 rfl rfl 3 (by decide) (hT _ k_179) (fun _ h9 => h9) rfl (by decide +kernel) rfl rfl (Nat.le_of_ble_eq_true rfl) dX4_init_236 (fun H locs hP hD hS => ?_)
                have hP : va_P (dC, dI) vwCl ([(a0, .inr (4, [.int 0, .int 32, .int x2, .int f_174, .ref q_1, .ref q_3, .ref q_5, .int f_173, .ref q_7, .ref q_9, .ref q_11, .ref q_13, .int 0, .int 0, .ref q_15, .int 0, .int 0, .ref q_17, .ref q_19, .ref q_21, .int 0, .ref q_23, .ref q_25])), (q_1, .inl (cI, 8, .inl (upd ym_2_150 y_163.toNatClampNeg y_164))), (q_3, .inl (cI, 8, .inl (upd ym_4_151 y_163.toNatClampNeg x3_167))), (q_5, .inl (cI, 8, .inl (upd ym_6_152 y_163.toNatClampNeg x4_166))), (q_7, .inl (cI, 1400, .inl ym_8_153)), (q_9, .inl (cI, 2800, .inl ym_10_154)), (q_11, .inl (cZ, 2800, .inl ym_12_155)), (q_13, .inl (cZ, 40000, .inl ym_14_156)), (q_15, .inl (cZ, 40000, .inl ym_16_157)), (q_17, .inl (cI, 8, .inl ym_18_158)), (q_19, .inl (cI, 8, .inl ym_20_159)), (q_21, .inl (cZ, 8, .inl ym_22_160)), (q_23, .inl (cI, 1400, .inl ym_24_161)), (q_25, .inl (cZ, 1400, .inl ym_26_162))]) H := hP
                have hD : va_D A ([(a0, .inr (4, [.int 0, .int 32, .int x2, .int f_174, .ref q_1, .ref q_3, .ref q_5, .int f_173, .ref q_7, .ref q_9, .ref q_11, .ref q_13, .int 0, .int 0, .ref q_15, .int 0, .int 0, .ref q_17, .ref q_19, .ref q_21, .int 0, .ref q_23, .ref q_25])), (q_1, .inl (cI, 8, .inl (upd ym_2_150 y_163.toNatClampNeg y_164))), (q_3, .inl (cI, 8, .inl (upd ym_4_151 y_163.toNatClampNeg x3_167))), (q_5, .inl (cI, 8, .inl (upd ym_6_152 y_163.toNatClampNeg x4_166))), (q_7, .inl (cI, 1400, .inl ym_8_153)), (q_9, .inl (cI, 2800, .inl ym_10_154)), (q_11, .inl (cZ, 2800, .inl ym_12_155)), (q_13, .inl (cZ, 40000, .inl ym_14_156)), (q_15, .inl (cZ, 40000, .inl ym_16_157)), (q_17, .inl (cI, 8, .inl ym_18_158)), (q_19, .inl (cI, 8, .inl ym_20_159)), (q_21, .inl (cZ, 8, .inl ym_22_160)), (q_23, .inl (cI, 1400, .inl ym_24_161)), (q_25, .inl (cZ, 1400, .inl ym_26_162))]) := hD
                refine lv_iload_n hx hb dX4_init_239 rfl (lv_at hl 2 rfl) ?_
                refine lv_iconst (v := 1) hx hb dX4_init_240 (by decide) ?_
                refine lv_icmp_gt (tgt := 250) hx hb dX4_init_241 (by decide) (fun c_175 => ?_) (fun c_175 => ?_)
                · have hw := hw.1 c_175
                  refine lv_iconst (v := 1) hx hb dX4_init_250 (by decide) ?_
                  refine lv_goto (tgt := 255) hx hb dX4_init_251 (by decide) ?_
                  refine lv_istore (lv' := [(5, .int 1), (4, .int x4_166), (3, .int x3_167), (0, .ref a0), (1, .int x1), (2, .int x2)]) hx hb dX4_init_255 hl (by decide) rfl (fun ls hl => ?_)
                  refine lv_iload_n hx hb dX4_init_257 rfl (lv_at hl 2 rfl) ?_
                  refine lv_iconst (v := 1) hx hb dX4_init_258 (by decide) ?_
                  refine lv_iadd hx hb dX4_init_259 ?_
                  refine lv_iconst (v := 2) hx hb dX4_init_260 (by decide) ?_
                  obtain ⟨h_176, hw⟩ := hw
                  refine lv_idiv hx hb dX4_init_261 h_176 ?_
                  refine lv_topi (fun x3_177 ex3_177 => ?_)
                  have hw := hw x3_177 ex3_177
                  refine lv_istore_n (lv' := [(3, .int x3_177), (5, .int 1), (4, .int x4_166), (0, .ref a0), (1, .int x1), (2, .int x2)]) hx hb dX4_init_262 rfl hl (by decide) rfl (fun ls hl => ?_)
                  refine lv_iload hx hb dX4_init_263 (lv_at hl 2 rfl) ?_
                  refine lv_iconst (v := 1) hx hb dX4_init_265 (by decide) ?_
                  refine lv_iadd hx hb dX4_init_266 ?_
                  refine lv_iconst (v := 2) hx hb dX4_init_267 (by decide) ?_
                  obtain ⟨h_178, hw⟩ := hw
                  refine lv_idiv hx hb dX4_init_268 h_178 ?_
                  refine lv_topi (fun x4_179 ex4_179 => ?_)
                  have hw := hw x4_179 ex4_179
                  refine lv_istore (lv' := [(4, .int x4_179), (3, .int x3_177), (5, .int 1), (0, .ref a0), (1, .int x1), (2, .int x2)]) hx hb dX4_init_269 hl (by decide) rfl (fun ls hl => ?_)
                  refine lv_goto (tgt := 177) hx hb dX4_init_271 (by decide) ?_
                  exact ih177_3 (upd ym_2_150 y_163.toNatClampNeg y_164) (upd ym_4_151 y_163.toNatClampNeg x3_167) (upd ym_6_152 y_163.toNatClampNeg x4_166) ym_8_153 ym_10_154 ym_12_155 ym_14_156 ym_16_157 ym_18_158 ym_20_159 ym_22_160 ym_24_161 ym_26_162 f_174 f_173 1 x4_179 x3_177 hw _ _ _ hP hD hS (lv_sub hl [2, 0, 1, 3, 4, 5] rfl)
                · have hw := hw.2 c_175
                  refine lv_iload hx hb dX4_init_244 (lv_at hl 1 rfl) ?_
                  refine lv_iconst (v := 1) hx hb dX4_init_246 (by decide) ?_
                  refine lv_icmp_le (tgt := 254) hx hb dX4_init_247 (by decide) (fun c_180 => ?_) (fun c_180 => ?_)
                  · have hw := hw.1 c_180
                    refine lv_iconst (v := 0) hx hb dX4_init_254 (by decide) ?_
                    refine lv_istore (lv' := [(5, .int 0), (4, .int x4_166), (3, .int x3_167), (0, .ref a0), (1, .int x1), (2, .int x2)]) hx hb dX4_init_255 hl (by decide) rfl (fun ls hl => ?_)
                    refine lv_iload_n hx hb dX4_init_257 rfl (lv_at hl 2 rfl) ?_
                    refine lv_iconst (v := 1) hx hb dX4_init_258 (by decide) ?_
                    refine lv_iadd hx hb dX4_init_259 ?_
                    refine lv_iconst (v := 2) hx hb dX4_init_260 (by decide) ?_
                    obtain ⟨h_181, hw⟩ := hw
                    refine lv_idiv hx hb dX4_init_261 h_181 ?_
                    refine lv_topi (fun x3_182 ex3_182 => ?_)
                    have hw := hw x3_182 ex3_182
                    refine lv_istore_n (lv' := [(3, .int x3_182), (5, .int 0), (4, .int x4_166), (0, .ref a0), (1, .int x1), (2, .int x2)]) hx hb dX4_init_262 rfl hl (by decide) rfl (fun ls hl => ?_)
                    refine lv_iload hx hb dX4_init_263 (lv_at hl 2 rfl) ?_
                    refine lv_iconst (v := 1) hx hb dX4_init_265 (by decide) ?_
                    refine lv_iadd hx hb dX4_init_266 ?_
                    refine lv_iconst (v := 2) hx hb dX4_init_267 (by decide) ?_
                    obtain ⟨h_183, hw⟩ := hw
                    refine lv_idiv hx hb dX4_init_268 h_183 ?_
                    refine lv_topi (fun x4_184 ex4_184 => ?_)
                    have hw := hw x4_184 ex4_184
                    refine lv_istore (lv' := [(4, .int x4_184), (3, .int x3_182), (5, .int 0), (0, .ref a0), (1, .int x1), (2, .int x2)]) hx hb dX4_init_269 hl (by decide) rfl (fun ls hl => ?_)
                    refine lv_goto (tgt := 177) hx hb dX4_init_271 (by decide) ?_
                    exact ih177_3 (upd ym_2_150 y_163.toNatClampNeg y_164) (upd ym_4_151 y_163.toNatClampNeg x3_167) (upd ym_6_152 y_163.toNatClampNeg x4_166) ym_8_153 ym_10_154 ym_12_155 ym_14_156 ym_16_157 ym_18_158 ym_20_159 ym_22_160 ym_24_161 ym_26_162 f_174 f_173 0 x4_184 x3_182 hw _ _ _ hP hD hS (lv_sub hl [2, 0, 1, 3, 4, 5] rfl)
                  · have hw := hw.2 c_180
                    refine lv_iconst (v := 1) hx hb dX4_init_250 (by decide) ?_
                    refine lv_goto (tgt := 255) hx hb dX4_init_251 (by decide) ?_
                    refine lv_istore (lv' := [(5, .int 1), (4, .int x4_166), (3, .int x3_167), (0, .ref a0), (1, .int x1), (2, .int x2)]) hx hb dX4_init_255 hl (by decide) rfl (fun ls hl => ?_)
                    refine lv_iload_n hx hb dX4_init_257 rfl (lv_at hl 2 rfl) ?_
                    refine lv_iconst (v := 1) hx hb dX4_init_258 (by decide) ?_
                    refine lv_iadd hx hb dX4_init_259 ?_
                    refine lv_iconst (v := 2) hx hb dX4_init_260 (by decide) ?_
                    obtain ⟨h_185, hw⟩ := hw
                    refine lv_idiv hx hb dX4_init_261 h_185 ?_
                    refine lv_topi (fun x3_186 ex3_186 => ?_)
                    have hw := hw x3_186 ex3_186
                    refine lv_istore_n (lv' := [(3, .int x3_186), (5, .int 1), (4, .int x4_166), (0, .ref a0), (1, .int x1), (2, .int x2)]) hx hb dX4_init_262 rfl hl (by decide) rfl (fun ls hl => ?_)
                    refine lv_iload hx hb dX4_init_263 (lv_at hl 2 rfl) ?_
                    refine lv_iconst (v := 1) hx hb dX4_init_265 (by decide) ?_
                    refine lv_iadd hx hb dX4_init_266 ?_
                    refine lv_iconst (v := 2) hx hb dX4_init_267 (by decide) ?_
                    obtain ⟨h_187, hw⟩ := hw
                    refine lv_idiv hx hb dX4_init_268 h_187 ?_
                    refine lv_topi (fun x4_188 ex4_188 => ?_)
                    have hw := hw x4_188 ex4_188
                    refine lv_istore (lv' := [(4, .int x4_188), (3, .int x3_186), (5, .int 1), (0, .ref a0), (1, .int x1), (2, .int x2)]) hx hb dX4_init_269 hl (by decide) rfl (fun ls hl => ?_)
                    refine lv_goto (tgt := 177) hx hb dX4_init_271 (by decide) ?_
                    exact ih177_3 (upd ym_2_150 y_163.toNatClampNeg y_164) (upd ym_4_151 y_163.toNatClampNeg x3_167) (upd ym_6_152 y_163.toNatClampNeg x4_166) ym_8_153 ym_10_154 ym_12_155 ym_14_156 ym_16_157 ym_18_158 ym_20_159 ym_22_160 ym_24_161 ym_26_162 f_174 f_173 1 x4_188 x3_186 hw _ _ _ hP hD hS (lv_sub hl [2, 0, 1, 3, 4, 5] rfl)
          exact hlp177_3 n_168 (fun _ => 0) (fun _ => 0) (fun _ => 0) (fun _ => 0) (fun _ => 0) (fun _ => 0) (fun _ => 0) (fun _ => 0) (fun _ => 0) (fun _ => 0) (fun _ => 0) (fun _ => 0) (fun _ => 0) 0 0 1 x2 32 hw _ _ _ hP hD hS (lv_sub hl [0, 1, 2, 3, 4, 5] rfl)
        · have hw := hw.2 c_149
          refine lv_bipush (v := 32) hx hb dX4_init_154 (by decide) ?_
          refine lv_goto (tgt := 160) hx hb dX4_init_156 (by decide) ?_
          refine va_putF (D := (dC, dI)) (ci := 4) (v := .int 32) (ty := .int) (C := RX4) (T := TX4) (N := 23) hx hb hT inX4 tyX4 tyX4_ok nmX4 hown hK hP hD hS 0 rfl rfl 2 (by decide) (hT _ k_178) (fun _ h9 => h9) rfl hin rfl (by decide +kernel) rfl rfl (Nat.le_of_ble_eq_true rfl) dX4_init_160 (fun H locs hP hD hS => ?_)
          have hP : va_P (dC, dI) vwCl ([(a0, .inr (4, [.int 0, .int 32, .int 32, .int 0, .ref q_1, .ref q_3, .ref q_5, .int 0, .ref q_7, .ref q_9, .ref q_11, .ref q_13, .int 0, .int 0, .ref q_15, .int 0, .int 0, .ref q_17, .ref q_19, .ref q_21, .int 0, .ref q_23, .ref q_25])), (q_1, .inl (cI, 8, .inl (fun _ => 0))), (q_3, .inl (cI, 8, .inl (fun _ => 0))), (q_5, .inl (cI, 8, .inl (fun _ => 0))), (q_7, .inl (cI, 1400, .inl (fun _ => 0))), (q_9, .inl (cI, 2800, .inl (fun _ => 0))), (q_11, .inl (cZ, 2800, .inl (fun _ => 0))), (q_13, .inl (cZ, 40000, .inl (fun _ => 0))), (q_15, .inl (cZ, 40000, .inl (fun _ => 0))), (q_17, .inl (cI, 8, .inl (fun _ => 0))), (q_19, .inl (cI, 8, .inl (fun _ => 0))), (q_21, .inl (cZ, 8, .inl (fun _ => 0))), (q_23, .inl (cI, 1400, .inl (fun _ => 0))), (q_25, .inl (cZ, 1400, .inl (fun _ => 0)))]) H := hP
          have hD : va_D A ([(a0, .inr (4, [.int 0, .int 32, .int 32, .int 0, .ref q_1, .ref q_3, .ref q_5, .int 0, .ref q_7, .ref q_9, .ref q_11, .ref q_13, .int 0, .int 0, .ref q_15, .int 0, .int 0, .ref q_17, .ref q_19, .ref q_21, .int 0, .ref q_23, .ref q_25])), (q_1, .inl (cI, 8, .inl (fun _ => 0))), (q_3, .inl (cI, 8, .inl (fun _ => 0))), (q_5, .inl (cI, 8, .inl (fun _ => 0))), (q_7, .inl (cI, 1400, .inl (fun _ => 0))), (q_9, .inl (cI, 2800, .inl (fun _ => 0))), (q_11, .inl (cZ, 2800, .inl (fun _ => 0))), (q_13, .inl (cZ, 40000, .inl (fun _ => 0))), (q_15, .inl (cZ, 40000, .inl (fun _ => 0))), (q_17, .inl (cI, 8, .inl (fun _ => 0))), (q_19, .inl (cI, 8, .inl (fun _ => 0))), (q_21, .inl (cZ, 8, .inl (fun _ => 0))), (q_23, .inl (cI, 1400, .inl (fun _ => 0))), (q_25, .inl (cZ, 1400, .inl (fun _ => 0)))]) := hD
          refine lv_aload_n hx hb dX4_init_163 rfl (lv_at hl 0 rfl) ?_
          refine va_get (D := (dC, dI)) (ci := 4) (v := .int 32) (C := RX4) (T := TX4) (N := 23) hx hb hT inX4 hown hK hP 0 rfl rfl 1 (by decide) (hT _ k_177) (fun _ h9 => h9) rfl dX4_init_164 ?_
          refine lv_istore_n (lv' := [(3, .int 32), (0, .ref a0), (1, .int x1), (2, .int x2)]) hx hb dX4_init_167 rfl hl (by decide) rfl (fun ls hl => ?_)
          refine lv_aload_n hx hb dX4_init_168 rfl (lv_at hl 1 rfl) ?_
          refine va_get (D := (dC, dI)) (ci := 4) (v := .int 32) (C := RX4) (T := TX4) (N := 23) hx hb hT inX4 hown hK hP 0 rfl rfl 2 (by decide) (hT _ k_178) (fun _ h9 => h9) rfl dX4_init_169 ?_
          refine lv_istore (lv' := [(4, .int 32), (3, .int 32), (0, .ref a0), (1, .int x1), (2, .int x2)]) hx hb dX4_init_172 hl (by decide) rfl (fun ls hl => ?_)
          refine lv_iconst (v := 1) hx hb dX4_init_174 (by decide) ?_
          refine lv_istore (lv' := [(5, .int 1), (4, .int 32), (3, .int 32), (0, .ref a0), (1, .int x1), (2, .int x2)]) hx hb dX4_init_175 hl (by decide) rfl (fun ls hl => ?_)
          obtain ⟨n_207, hw⟩ := hw
          obtain ⟨ex177_4, eex177_4⟩ : ∃ z : (Nat → Int32) → (Nat → Int32) → (Nat → Int32) → (Nat → Int32) → (Nat → Int32) → (Nat → Int32) → (Nat → Int32) → (Nat → Int32) → (Nat → Int32) → (Nat → Int32) → (Nat → Int32) → (Nat → Int32) → (Nat → Int32) → Int32 → Int32 → Int32 → Int32 → Int32 → Prop, z = (fun (ym_2_189 : (Nat → Int32)) (ym_4_190 : (Nat → Int32)) (ym_6_191 : (Nat → Int32)) (ym_8_192 : (Nat → Int32)) (ym_10_193 : (Nat → Int32)) (ym_12_194 : (Nat → Int32)) (ym_14_195 : (Nat → Int32)) (ym_16_196 : (Nat → Int32)) (ym_18_197 : (Nat → Int32)) (ym_20_198 : (Nat → Int32)) (ym_22_199 : (Nat → Int32)) (ym_24_200 : (Nat → Int32)) (ym_26_201 : (Nat → Int32)) (y_202 : Int32) (y_203 : Int32) (x5_204 : Int32) (x4_205 : Int32) (x3_206 : Int32) => post (((32, 32, y_202, y_203), ym_2_189, ym_4_190, ym_6_191), (0, ym_8_192, ym_10_193, ym_12_194, (ym_14_195, 0, 0), (ym_16_196, 0, 0), (ym_18_197, ym_20_198, ym_22_199, 0), ym_24_200, ym_26_201))) := ⟨_, rfl⟩
          rw [← eex177_4] at hw
          have hx177_4 : ∀ (ym_2_189 : (Nat → Int32)) (ym_4_190 : (Nat → Int32)) (ym_6_191 : (Nat → Int32)) (ym_8_192 : (Nat → Int32)) (ym_10_193 : (Nat → Int32)) (ym_12_194 : (Nat → Int32)) (ym_14_195 : (Nat → Int32)) (ym_16_196 : (Nat → Int32)) (ym_18_197 : (Nat → Int32)) (ym_20_198 : (Nat → Int32)) (ym_22_199 : (Nat → Int32)) (ym_24_200 : (Nat → Int32)) (ym_26_201 : (Nat → Int32)) (y_202 : Int32) (y_203 : Int32) (x5_204 : Int32) (x4_205 : Int32) (x3_206 : Int32), ex177_4 ym_2_189 ym_4_190 ym_6_191 ym_8_192 ym_10_193 ym_12_194 ym_14_195 ym_16_196 ym_18_197 ym_20_198 ym_22_199 ym_24_200 ym_26_201 y_202 y_203 x5_204 x4_205 x3_206 → ∀ (H : Heap) (locs : List Loc) (ls : Array Slot), va_P (dC, dI) vwCl ([(a0, .inr (4, [.int 0, .int 32, .int 32, .int y_202, .ref q_1, .ref q_3, .ref q_5, .int y_203, .ref q_7, .ref q_9, .ref q_11, .ref q_13, .int 0, .int 0, .ref q_15, .int 0, .int 0, .ref q_17, .ref q_19, .ref q_21, .int 0, .ref q_23, .ref q_25])), (q_1, .inl (cI, 8, .inl ym_2_189)), (q_3, .inl (cI, 8, .inl ym_4_190)), (q_5, .inl (cI, 8, .inl ym_6_191)), (q_7, .inl (cI, 1400, .inl ym_8_192)), (q_9, .inl (cI, 2800, .inl ym_10_193)), (q_11, .inl (cZ, 2800, .inl ym_12_194)), (q_13, .inl (cZ, 40000, .inl ym_14_195)), (q_15, .inl (cZ, 40000, .inl ym_16_196)), (q_17, .inl (cI, 8, .inl ym_18_197)), (q_19, .inl (cI, 8, .inl ym_20_198)), (q_21, .inl (cZ, 8, .inl ym_22_199)), (q_23, .inl (cI, 1400, .inl ym_24_200)), (q_25, .inl (cZ, 1400, .inl ym_26_201))]) H → va_D A ([(a0, .inr (4, [.int 0, .int 32, .int 32, .int y_202, .ref q_1, .ref q_3, .ref q_5, .int y_203, .ref q_7, .ref q_9, .ref q_11, .ref q_13, .int 0, .int 0, .ref q_15, .int 0, .int 0, .ref q_17, .ref q_19, .ref q_21, .int 0, .ref q_23, .ref q_25])), (q_1, .inl (cI, 8, .inl ym_2_189)), (q_3, .inl (cI, 8, .inl ym_4_190)), (q_5, .inl (cI, 8, .inl ym_6_191)), (q_7, .inl (cI, 1400, .inl ym_8_192)), (q_9, .inl (cI, 2800, .inl ym_10_193)), (q_11, .inl (cZ, 2800, .inl ym_12_194)), (q_13, .inl (cZ, 40000, .inl ym_14_195)), (q_15, .inl (cZ, 40000, .inl ym_16_196)), (q_17, .inl (cI, 8, .inl ym_18_197)), (q_19, .inl (cI, 8, .inl ym_20_198)), (q_21, .inl (cZ, 8, .inl ym_22_199)), (q_23, .inl (cI, 1400, .inl ym_24_200)), (q_25, .inl (cZ, 1400, .inl ym_26_201))]) → va_S A s.heap H locs → lv_has ls 6 [(5, .int x5_204), (4, .int x4_205), (3, .int x3_206), (0, .ref a0), (1, .int x1), (2, .int x2)] → W p l e (headSpec wsX4_init rm_X4_init).room s m args below meth c H locs 13 89848 (MQ below (va_Qv post (fun (u : vMS × vMM) t => ∃ (am : Nat → Nat), am 0 = a0 ∧ qB (dC, dI) (tysA cI cZ cJ cL) A (wMM cI cZ am u.1 u.2) t) A) args s 13 89848 A) (F0 m 274 ls []) := by
            intro ym_2_189 ym_4_190 ym_6_191 ym_8_192 ym_10_193 ym_12_194 ym_14_195 ym_16_196 ym_18_197 ym_20_198 ym_22_199 ym_24_200 ym_26_201 y_202 y_203 x5_204 x4_205 x3_206 hw H locs ls hP hD hS hl
            rw [eex177_4] at hw
            try dsimp only at hw
            have hP := hP.sub (ws' := (wMM cI cZ (fun i => ([a0, q_1, q_3, q_5, q_7, q_9, q_11, q_13, q_15, q_17, q_19, q_21, q_23, q_25] : List Nat).getD i 0) (((32, 32, y_202, y_203), ym_2_189, ym_4_190, ym_6_191), (0, ym_8_192, ym_10_193, ym_12_194, (ym_14_195, 0, 0), (ym_16_196, 0, 0), (ym_18_197, ym_20_198, ym_22_199, 0), ym_24_200, ym_26_201)).1 (((32, 32, y_202, y_203), ym_2_189, ym_4_190, ym_6_191), (0, ym_8_192, ym_10_193, ym_12_194, (ym_14_195, 0, 0), (ym_16_196, 0, 0), (ym_18_197, ym_20_198, ym_22_199, 0), ym_24_200, ym_26_201)).2)) [0, 1, 2, 3, 4, 5, 6, 7, 8, 9, 10, 11, 12, 13] rfl
            have hD := hD.sub (ws' := (wMM cI cZ (fun i => ([a0, q_1, q_3, q_5, q_7, q_9, q_11, q_13, q_15, q_17, q_19, q_21, q_23, q_25] : List Nat).getD i 0) (((32, 32, y_202, y_203), ym_2_189, ym_4_190, ym_6_191), (0, ym_8_192, ym_10_193, ym_12_194, (ym_14_195, 0, 0), (ym_16_196, 0, 0), (ym_18_197, ym_20_198, ym_22_199, 0), ym_24_200, ym_26_201)).1 (((32, 32, y_202, y_203), ym_2_189, ym_4_190, ym_6_191), (0, ym_8_192, ym_10_193, ym_12_194, (ym_14_195, 0, 0), (ym_16_196, 0, 0), (ym_18_197, ym_20_198, ym_22_199, 0), ym_24_200, ym_26_201)).2)) [0, 1, 2, 3, 4, 5, 6, 7, 8, 9, 10, 11, 12, 13] (by decide) rfl
            exact W.vret hx hb hr (fun t ht hW => ⟨⟨(((32, 32, y_202, y_203), ym_2_189, ym_4_190, ym_6_191), (0, ym_8_192, ym_10_193, ym_12_194, (ym_14_195, 0, 0), (ym_16_196, 0, 0), (ym_18_197, ym_20_198, ym_22_199, 0), ym_24_200, ym_26_201)), rfl, hw, (fun i => ([a0, q_1, q_3, q_5, q_7, q_9, q_11, q_13, q_15, q_17, q_19, q_21, q_23, q_25] : List Nat).getD i 0), rfl, by rw [ht]; exact hP, va_K.moved hW.alike hK, hD⟩, hS.F ht⟩) hS.2.2 dX4_init_274
          have hlp177_4 : ∀ (n_207 : Nat) (ym_2_189 : (Nat → Int32)) (ym_4_190 : (Nat → Int32)) (ym_6_191 : (Nat → Int32)) (ym_8_192 : (Nat → Int32)) (ym_10_193 : (Nat → Int32)) (ym_12_194 : (Nat → Int32)) (ym_14_195 : (Nat → Int32)) (ym_16_196 : (Nat → Int32)) (ym_18_197 : (Nat → Int32)) (ym_20_198 : (Nat → Int32)) (ym_22_199 : (Nat → Int32)) (ym_24_200 : (Nat → Int32)) (ym_26_201 : (Nat → Int32)) (y_202 : Int32) (y_203 : Int32) (x5_204 : Int32) (x4_205 : Int32) (x3_206 : Int32), wp_X4_init_L177_4 post ex177_4 x1 x2 n_207 ym_2_189 ym_4_190 ym_6_191 ym_8_192 ym_10_193 ym_12_194 ym_14_195 ym_16_196 ym_18_197 ym_20_198 ym_22_199 ym_24_200 ym_26_201 y_202 y_203 x5_204 x4_205 x3_206 → ∀ (H : Heap) (locs : List Loc) (ls : Array Slot), va_P (dC, dI) vwCl ([(a0, .inr (4, [.int 0, .int 32, .int 32, .int y_202, .ref q_1, .ref q_3, .ref q_5, .int y_203, .ref q_7, .ref q_9, .ref q_11, .ref q_13, .int 0, .int 0, .ref q_15, .int 0, .int 0, .ref q_17, .ref q_19, .ref q_21, .int 0, .ref q_23, .ref q_25])), (q_1, .inl (cI, 8, .inl ym_2_189)), (q_3, .inl (cI, 8, .inl ym_4_190)), (q_5, .inl (cI, 8, .inl ym_6_191)), (q_7, .inl (cI, 1400, .inl ym_8_192)), (q_9, .inl (cI, 2800, .inl ym_10_193)), (q_11, .inl (cZ, 2800, .inl ym_12_194)), (q_13, .inl (cZ, 40000, .inl ym_14_195)), (q_15, .inl (cZ, 40000, .inl ym_16_196)), (q_17, .inl (cI, 8, .inl ym_18_197)), (q_19, .inl (cI, 8, .inl ym_20_198)), (q_21, .inl (cZ, 8, .inl ym_22_199)), (q_23, .inl (cI, 1400, .inl ym_24_200)), (q_25, .inl (cZ, 1400, .inl ym_26_201))]) H → va_D A ([(a0, .inr (4, [.int 0, .int 32, .int 32, .int y_202, .ref q_1, .ref q_3, .ref q_5, .int y_203, .ref q_7, .ref q_9, .ref q_11, .ref q_13, .int 0, .int 0, .ref q_15, .int 0, .int 0, .ref q_17, .ref q_19, .ref q_21, .int 0, .ref q_23, .ref q_25])), (q_1, .inl (cI, 8, .inl ym_2_189)), (q_3, .inl (cI, 8, .inl ym_4_190)), (q_5, .inl (cI, 8, .inl ym_6_191)), (q_7, .inl (cI, 1400, .inl ym_8_192)), (q_9, .inl (cI, 2800, .inl ym_10_193)), (q_11, .inl (cZ, 2800, .inl ym_12_194)), (q_13, .inl (cZ, 40000, .inl ym_14_195)), (q_15, .inl (cZ, 40000, .inl ym_16_196)), (q_17, .inl (cI, 8, .inl ym_18_197)), (q_19, .inl (cI, 8, .inl ym_20_198)), (q_21, .inl (cZ, 8, .inl ym_22_199)), (q_23, .inl (cI, 1400, .inl ym_24_200)), (q_25, .inl (cZ, 1400, .inl ym_26_201))]) → va_S A s.heap H locs → lv_has ls 6 [(5, .int x5_204), (4, .int x4_205), (3, .int x3_206), (0, .ref a0), (1, .int x1), (2, .int x2)] → W p l e (headSpec wsX4_init rm_X4_init).room s m args below meth c H locs 13 89848 (MQ below (va_Qv post (fun (u : vMS × vMM) t => ∃ (am : Nat → Nat), am 0 = a0 ∧ qB (dC, dI) (tysA cI cZ cJ cL) A (wMM cI cZ am u.1 u.2) t) A) args s 13 89848 A) (F0 m 177 ls []) := by
            intro n_207
            induction n_207 with
            | zero => intro _ _ _ _ _ _ _ _ _ _ _ _ _ _ _ _ _ _ hw; exact hw.elim
            | succ n_207 ih177_4 =>
              intro ym_2_189 ym_4_190 ym_6_191 ym_8_192 ym_10_193 ym_12_194 ym_14_195 ym_16_196 ym_18_197 ym_20_198 ym_22_199 ym_24_200 ym_26_201 y_202 y_203 x5_204 x4_205 x3_206 hw H locs ls hP hD hS hl
              unfold wp_X4_init_L177_4 at hw
              refine lv_iload hx hb dX4_init_177 (lv_at hl 0 rfl) ?_
              refine lv_if_eq (tgt := 274) hx hb dX4_init_179 (by decide) (fun c_208 => ?_) (fun c_208 => ?_)
              · have hw := hw.1 c_208
                exact hx177_4 ym_2_189 ym_4_190 ym_6_191 ym_8_192 ym_10_193 ym_12_194 ym_14_195 ym_16_196 ym_18_197 ym_20_198 ym_22_199 ym_24_200 ym_26_201 y_202 y_203 x5_204 x4_205 x3_206 hw _ _ _ hP hD hS (lv_sub hl [0, 1, 2, 3, 4, 5] rfl)
              · have hw := hw.2 c_208
                refine lv_aload_n hx hb dX4_init_182 rfl (lv_at hl 3 rfl) ?_
                refine va_get (D := (dC, dI)) (ci := 4) (v := .ref q_1) (C := RX4) (T := TX4) (N := 23) hx hb hT inX4 hown hK hP 0 rfl rfl 4 (by decide) (hT _ k_162) (fun _ h9 => h9) rfl dX4_init_183 ?_
                refine lv_aload_n hx hb dX4_init_186 rfl (lv_at hl 3 rfl) ?_
                refine va_get (D := (dC, dI)) (ci := 4) (v := .int y_202) (C := RX4) (T := TX4) (N := 23) hx hb hT inX4 hown hK hP 0 rfl rfl 3 (by decide) (hT _ k_179) (fun _ h9 => h9) rfl dX4_init_187 ?_
                refine lv_aload_n hx hb dX4_init_190 rfl (lv_at hl 3 rfl) ?_
                refine va_get (D := (dC, dI)) (ci := 4) (v := .int y_203) (C := RX4) (T := TX4) (N := 23) hx hb hT inX4 hown hK hP 0 rfl rfl 7 (by decide) (hT _ k_180) (fun _ h9 => h9) rfl dX4_init_191 ?_
                obtain ⟨h_209, hw⟩ := hw
                refine va_iast hx hb hK hP hD hS 1 0 rfl rfl h_209 dX4_init_194 (fun H locs hP hD hS => ?_)
                have hP : va_P (dC, dI) vwCl ([(a0, .inr (4, [.int 0, .int 32, .int 32, .int y_202, .ref q_1, .ref q_3, .ref q_5, .int y_203, .ref q_7, .ref q_9, .ref q_11, .ref q_13, .int 0, .int 0, .ref q_15, .int 0, .int 0, .ref q_17, .ref q_19, .ref q_21, .int 0, .ref q_23, .ref q_25])), (q_1, .inl (cI, 8, .inl (upd ym_2_189 y_202.toNatClampNeg y_203))), (q_3, .inl (cI, 8, .inl ym_4_190)), (q_5, .inl (cI, 8, .inl ym_6_191)), (q_7, .inl (cI, 1400, .inl ym_8_192)), (q_9, .inl (cI, 2800, .inl ym_10_193)), (q_11, .inl (cZ, 2800, .inl ym_12_194)), (q_13, .inl (cZ, 40000, .inl ym_14_195)), (q_15, .inl (cZ, 40000, .inl ym_16_196)), (q_17, .inl (cI, 8, .inl ym_18_197)), (q_19, .inl (cI, 8, .inl ym_20_198)), (q_21, .inl (cZ, 8, .inl ym_22_199)), (q_23, .inl (cI, 1400, .inl ym_24_200)), (q_25, .inl (cZ, 1400, .inl ym_26_201))]) H := hP
                have hD : va_D A ([(a0, .inr (4, [.int 0, .int 32, .int 32, .int y_202, .ref q_1, .ref q_3, .ref q_5, .int y_203, .ref q_7, .ref q_9, .ref q_11, .ref q_13, .int 0, .int 0, .ref q_15, .int 0, .int 0, .ref q_17, .ref q_19, .ref q_21, .int 0, .ref q_23, .ref q_25])), (q_1, .inl (cI, 8, .inl (upd ym_2_189 y_202.toNatClampNeg y_203))), (q_3, .inl (cI, 8, .inl ym_4_190)), (q_5, .inl (cI, 8, .inl ym_6_191)), (q_7, .inl (cI, 1400, .inl ym_8_192)), (q_9, .inl (cI, 2800, .inl ym_10_193)), (q_11, .inl (cZ, 2800, .inl ym_12_194)), (q_13, .inl (cZ, 40000, .inl ym_14_195)), (q_15, .inl (cZ, 40000, .inl ym_16_196)), (q_17, .inl (cI, 8, .inl ym_18_197)), (q_19, .inl (cI, 8, .inl ym_20_198)), (q_21, .inl (cZ, 8, .inl ym_22_199)), (q_23, .inl (cI, 1400, .inl ym_24_200)), (q_25, .inl (cZ, 1400, .inl ym_26_201))]) := hD
                refine lv_aload_n hx hb dX4_init_195 rfl (lv_at hl 3 rfl) ?_
                refine va_get (D := (dC, dI)) (ci := 4) (v := .ref q_3) (C := RX4) (T := TX4) (N := 23) hx hb hT inX4 hown hK hP 0 rfl rfl 5 (by decide) (hT _ k_163) (fun _ h9 => h9) rfl dX4_init_196 ?_
                refine lv_aload_n hx hb dX4_init_199 rfl (lv_at hl 3 rfl) ?_
                refine va_get (D := (dC, dI)) (ci := 4) (v := .int y_202) (C := RX4) (T := TX4) (N := 23) hx hb hT inX4 hown hK hP 0 rfl rfl 3 (by decide) (hT _ k_179) (fun _ h9 => h9) rfl dX4_init_200 ?_
                refine lv_iload_n hx hb dX4_init_203 rfl (lv_at hl 2 rfl) ?_
                obtain ⟨h_210, hw⟩ := hw
                refine va_iast hx hb hK hP hD hS 2 0 rfl rfl h_210 dX4_init_204 (fun H locs hP hD hS => ?_)
                have hP : va_P (dC, dI) vwCl ([(a0, .inr (4, [.int 0, .int 32, .int 32, .int y_202, .ref q_1, .ref q_3, .ref q_5, .int y_203, .ref q_7, .ref q_9, .ref q_11, .ref q_13, .int 0, .int 0, .ref q_15, .int 0, .int 0, .ref q_17, .ref q_19, .ref q_21, .int 0, .ref q_23, .ref q_25])), (q_1, .inl (cI, 8, .inl (upd ym_2_189 y_202.toNatClampNeg y_203))), (q_3, .inl (cI, 8, .inl (upd ym_4_190 y_202.toNatClampNeg x3_206))), (q_5, .inl (cI, 8, .inl ym_6_191)), (q_7, .inl (cI, 1400, .inl ym_8_192)), (q_9, .inl (cI, 2800, .inl ym_10_193)), (q_11, .inl (cZ, 2800, .inl ym_12_194)), (q_13, .inl (cZ, 40000, .inl ym_14_195)), (q_15, .inl (cZ, 40000, .inl ym_16_196)), (q_17, .inl (cI, 8, .inl ym_18_197)), (q_19, .inl (cI, 8, .inl ym_20_198)), (q_21, .inl (cZ, 8, .inl ym_22_199)), (q_23, .inl (cI, 1400, .inl ym_24_200)), (q_25, .inl (cZ, 1400, .inl ym_26_201))]) H := hP
                have hD : va_D A ([(a0, .inr (4, [.int 0, .int 32, .int 32, .int y_202, .ref q_1, .ref q_3, .ref q_5, .int y_203, .ref q_7, .ref q_9, .ref q_11, .ref q_13, .int 0, .int 0, .ref q_15, .int 0, .int 0, .ref q_17, .ref q_19, .ref q_21, .int 0, .ref q_23, .ref q_25])), (q_1, .inl (cI, 8, .inl (upd ym_2_189 y_202.toNatClampNeg y_203))), (q_3, .inl (cI, 8, .inl (upd ym_4_190 y_202.toNatClampNeg x3_206))), (q_5, .inl (cI, 8, .inl ym_6_191)), (q_7, .inl (cI, 1400, .inl ym_8_192)), (q_9, .inl (cI, 2800, .inl ym_10_193)), (q_11, .inl (cZ, 2800, .inl ym_12_194)), (q_13, .inl (cZ, 40000, .inl ym_14_195)), (q_15, .inl (cZ, 40000, .inl ym_16_196)), (q_17, .inl (cI, 8, .inl ym_18_197)), (q_19, .inl (cI, 8, .inl ym_20_198)), (q_21, .inl (cZ, 8, .inl ym_22_199)), (q_23, .inl (cI, 1400, .inl ym_24_200)), (q_25, .inl (cZ, 1400, .inl ym_26_201))]) := hD
                refine lv_aload_n hx hb dX4_init_205 rfl (lv_at hl 3 rfl) ?_
                refine va_get (D := (dC, dI)) (ci := 4) (v := .ref q_5) (C := RX4) (T := TX4) (N := 23) hx hb hT inX4 hown hK hP 0 rfl rfl 6 (by decide) (hT _ k_164) (fun _ h9 => h9) rfl dX4_init_206 ?_
                refine lv_aload_n hx hb dX4_init_209 rfl (lv_at hl 3 rfl) ?_
                refine va_get (D := (dC, dI)) (ci := 4) (v := .int y_202) (C := RX4) (T := TX4) (N := 23) hx hb hT inX4 hown hK hP 0 rfl rfl 3 (by decide) (hT _ k_179) (fun _ h9 => h9) rfl dX4_init_210 ?_
                refine lv_iload hx hb dX4_init_213 (lv_at hl 1 rfl) ?_
                obtain ⟨h_211, hw⟩ := hw
                refine va_iast hx hb hK hP hD hS 3 0 rfl rfl h_211 dX4_init_215 (fun H locs hP hD hS => ?_)
                have hP : va_P (dC, dI) vwCl ([(a0, .inr (4, [.int 0, .int 32, .int 32, .int y_202, .ref q_1, .ref q_3, .ref q_5, .int y_203, .ref q_7, .ref q_9, .ref q_11, .ref q_13, .int 0, .int 0, .ref q_15, .int 0, .int 0, .ref q_17, .ref q_19, .ref q_21, .int 0, .ref q_23, .ref q_25])), (q_1, .inl (cI, 8, .inl (upd ym_2_189 y_202.toNatClampNeg y_203))), (q_3, .inl (cI, 8, .inl (upd ym_4_190 y_202.toNatClampNeg x3_206))), (q_5, .inl (cI, 8, .inl (upd ym_6_191 y_202.toNatClampNeg x4_205))), (q_7, .inl (cI, 1400, .inl ym_8_192)), (q_9, .inl (cI, 2800, .inl ym_10_193)), (q_11, .inl (cZ, 2800, .inl ym_12_194)), (q_13, .inl (cZ, 40000, .inl ym_14_195)), (q_15, .inl (cZ, 40000, .inl ym_16_196)), (q_17, .inl (cI, 8, .inl ym_18_197)), (q_19, .inl (cI, 8, .inl ym_20_198)), (q_21, .inl (cZ, 8, .inl ym_22_199)), (q_23, .inl (cI, 1400, .inl ym_24_200)), (q_25, .inl (cZ, 1400, .inl ym_26_201))]) H := hP
                have hD : va_D A ([(a0, .inr (4, [.int 0, .int 32, .int 32, .int y_202, .ref q_1, .ref q_3, .ref q_5, .int y_203, .ref q_7, .ref q_9, .ref q_11, .ref q_13, .int 0, .int 0, .ref q_15, .int 0, .int 0, .ref q_17, .ref q_19, .ref q_21, .int 0, .ref q_23, .ref q_25])), (q_1, .inl (cI, 8, .inl (upd ym_2_189 y_202.toNatClampNeg y_203))), (q_3, .inl (cI, 8, .inl (upd ym_4_190 y_202.toNatClampNeg x3_206))), (q_5, .inl (cI, 8, .inl (upd ym_6_191 y_202.toNatClampNeg x4_205))), (q_7, .inl (cI, 1400, .inl ym_8_192)), (q_9, .inl (cI, 2800, .inl ym_10_193)), (q_11, .inl (cZ, 2800, .inl ym_12_194)), (q_13, .inl (cZ, 40000, .inl ym_14_195)), (q_15, .inl (cZ, 40000, .inl ym_16_196)), (q_17, .inl (cI, 8, .inl ym_18_197)), (q_19, .inl (cI, 8, .inl ym_20_198)), (q_21, .inl (cZ, 8, .inl ym_22_199)), (q_23, .inl (cI, 1400, .inl ym_24_200)), (q_25, .inl (cZ, 1400, .inl ym_26_201))]) := hD
                refine lv_aload_n hx hb dX4_init_216 rfl (lv_at hl 3 rfl) ?_
                refine lv_dup hx hb dX4_init_217 rfl ?_
                refine va_get (D := (dC, dI)) (ci := 4) (v := .int y_203) (C := RX4) (T := TX4) (N := 23) hx hb hT inX4 hown hK hP 0 rfl rfl 7 (by decide) (hT _ k_180) (fun _ h9 => h9) rfl dX4_init_218 ?_
                refine lv_iload_n hx hb dX4_init_221 rfl (lv_at hl 2 rfl) ?_
                refine lv_iload hx hb dX4_init_222 (lv_at hl 1 rfl) ?_
                refine lv_imul hx hb dX4_init_224 ?_
                refine lv_iadd hx hb dX4_init_225 ?_
                refine lv_topi (fun f_212 ef_212 => ?_)
                have hw := hw f_212 ef_212
                refine va_put (D := (dC, dI)) (ci := 4) (v := .int f_212) (ty := .int) (C := RX4) (T := TX4) (N := 23) hx hb hT inX4 tyX4 tyX4_ok nmX4 hown hK hP hD hS 0 rfl rfl 7 (by decide) (hT _ k_180) (fun _ h9 => h9) rfl (by decide +kernel) rfl rfl (Nat.le_of_ble_eq_true rfl) dX4_init_226 (fun H locs hP hD hS => ?_)
                have hP : va_P (dC, dI) vwCl ([(a0, .inr (4, [.int 0, .int 32, .int 32, .int y_202, .ref q_1, .ref q_3, .ref q_5, .int f_212, .ref q_7, .ref q_9, .ref q_11, .ref q_13, .int 0, .int 0, .ref q_15, .int 0, .int 0, .ref q_17, .ref q_19, .ref q_21, .int 0, .ref q_23, .ref q_25])), (q_1, .inl (cI, 8, .inl (upd ym_2_189 y_202.toNatClampNeg y_203))), (q_3, .inl (cI, 8, .inl (upd ym_4_190 y_202.toNatClampNeg x3_206))), (q_5, .inl (cI, 8, .inl (upd ym_6_191 y_202.toNatClampNeg x4_205))), (q_7, .inl (cI, 1400, .inl ym_8_192)), (q_9, .inl (cI, 2800, .inl ym_10_193)), (q_11, .inl (cZ, 2800, .inl ym_12_194)), (q_13, .inl (cZ, 40000, .inl ym_14_195)), (q_15, .inl (cZ, 40000, .inl ym_16_196)), (q_17, .inl (cI, 8, .inl ym_18_197)), (q_19, .inl (cI, 8, .inl ym_20_198)), (q_21, .inl (cZ, 8, .inl ym_22_199)), (q_23, .inl (cI, 1400, .inl ym_24_200)), (q_25, .inl (cZ, 1400, .inl ym_26_201))]) H := hP
                have hD : va_D A ([(a0, .inr (4, [.int 0, .int 32, .int 32, .int y_202, .ref q_1, .ref q_3, .ref q_5, .int f_212, .ref q_7, .ref q_9, .ref q_11, .ref q_13, .int 0, .int 0, .ref q_15, .int 0, .int 0, .ref q_17, .ref q_19, .ref q_21, .int 0, .ref q_23, .ref q_25])), (q_1, .inl (cI, 8, .inl (upd ym_2_189 y_202.toNatClampNeg y_203))), (q_3, .inl (cI, 8, .inl (upd ym_4_190 y_202.toNatClampNeg x3_206))), (q_5, .inl (cI, 8, .inl (upd ym_6_191 y_202.toNatClampNeg x4_205))), (q_7, .inl (cI, 1400, .inl ym_8_192)), (q_9, .inl (cI, 2800, .inl ym_10_193)), (q_11, .inl (cZ, 2800, .inl ym_12_194)), (q_13, .inl (cZ, 40000, .inl ym_14_195)), (q_15, .inl (cZ, 40000, .inl ym_16_196)), (q_17, .inl (cI, 8, .inl ym_18_197)), (q_19, .inl (cI, 8, .inl ym_20_198)), (q_21, .inl (cZ, 8, .inl ym_22_199)), (q_23, .inl (cI, 1400, .inl ym_24_200)), (q_25, .inl (cZ, 1400, .inl ym_26_201))]) := hD
                refine lv_aload_n hx hb dX4_init_229 rfl (lv_at hl 3 rfl) ?_
                refine lv_dup hx hb dX4_init_230 rfl ?_
                refine va_get (D := (dC, dI)) (ci := 4) (v := .int y_202) (C := RX4) (T := TX4) (N := 23) hx hb hT inX4 hown hK hP 0 rfl rfl 3 (by decide) (hT _ k_179) (fun _ h9 => h9) rfl dX4_init_231 ?_
                refine lv_iconst (v := 1) hx hb dX4_init_234 (by decide) ?_
                refine lv_iadd hx hb dX4_init_235 ?_
                refine lv_topi (fun f_213 ef_213 => ?_)
                have hw := hw f_213 ef_213
                refine va_put (D := (dC, dI)) (ci := 4) (v := .int f_213) (ty := .int) (C := RX4) (T := TX4) (N := 23) hx hb hT inX4 tyX4 tyX4_ok nmX4 hown hK hP hD hS 0 rfl rfl 3 (by decide) (hT _ k_179) (fun _ h9 => h9) rfl (by decide +kernel) rfl rfl (Nat.le_of_ble_eq_true rfl) dX4_init_236 (fun H locs hP hD hS => ?_)
                have hP : va_P (dC, dI) vwCl ([(a0, .inr (4, [.int 0, .int 32, .int 32, .int f_213, .ref q_1, .ref q_3, .ref q_5, .int f_212, .ref q_7, .ref q_9, .ref q_11, .ref q_13, .int 0, .int 0, .ref q_15, .int 0, .int 0, .ref q_17, .ref q_19, .ref q_21, .int 0, .ref q_23, .ref q_25])), (q_1, .inl (cI, 8, .inl (upd ym_2_189 y_202.toNatClampNeg y_203))), (q_3, .inl (cI, 8, .inl (upd ym_4_190 y_202.toNatClampNeg x3_206))), (q_5, .inl (cI, 8, .inl (upd ym_6_191 y_202.toNatClampNeg x4_205))), (q_7, .inl (cI, 1400, .inl ym_8_192)), (q_9, .inl (cI, 2800, .inl ym_10_193)), (q_11, .inl (cZ, 2800, .inl ym_12_194)), (q_13, .inl (cZ, 40000, .inl ym_14_195)), (q_15, .inl (cZ, 40000, .inl ym_16_196)), (q_17, .inl (cI, 8, .inl ym_18_197)), (q_19, .inl (cI, 8, .inl ym_20_198)), (q_21, .inl (cZ, 8, .inl ym_22_199)), (q_23, .inl (cI, 1400, .inl ym_24_200)), (q_25, .inl (cZ, 1400, .inl ym_26_201))]) H := hP
                have hD : va_D A ([(a0, .inr (4, [.int 0, .int 32, .int 32, .int f_213, .ref q_1, .ref q_3, .ref q_5, .int f_212, .ref q_7, .ref q_9, .ref q_11, .ref q_13, .int 0, .int 0, .ref q_15, .int 0, .int 0, .ref q_17, .ref q_19, .ref q_21, .int 0, .ref q_23, .ref q_25])), (q_1, .inl (cI, 8, .inl (upd ym_2_189 y_202.toNatClampNeg y_203))), (q_3, .inl (cI, 8, .inl (upd ym_4_190 y_202.toNatClampNeg x3_206))), (q_5, .inl (cI, 8, .inl (upd ym_6_191 y_202.toNatClampNeg x4_205))), (q_7, .inl (cI, 1400, .inl ym_8_192)), (q_9, .inl (cI, 2800, .inl ym_10_193)), (q_11, .inl (cZ, 2800, .inl ym_12_194)), (q_13, .inl (cZ, 40000, .inl ym_14_195)), (q_15, .inl (cZ, 40000, .inl ym_16_196)), (q_17, .inl (cI, 8, .inl ym_18_197)), (q_19, .inl (cI, 8, .inl ym_20_198)), (q_21, .inl (cZ, 8, .inl ym_22_199)), (q_23, .inl (cI, 1400, .inl ym_24_200)), (q_25, .inl (cZ, 1400, .inl ym_26_201))]) := hD
                refine lv_iload_n hx hb dX4_init_239 rfl (lv_at hl 2 rfl) ?_
                refine lv_iconst (v := 1) hx hb dX4_init_240 (by decide) ?_
                refine lv_icmp_gt (tgt := 250) hx hb dX4_init_241 (by decide) (fun c_214 => ?_) (fun c_214 => ?_)
                · have hw := hw.1 c_214
                  refine lv_iconst (v := 1) hx hb dX4_init_250 (by decide) ?_
                  refine lv_goto (tgt := 255) hx hb dX4_init_251 (by decide) ?_
                  refine lv_istore (lv' := [(5, .int 1), (4, .int x4_205), (3, .int x3_206), (0, .ref a0), (1, .int x1), (2, .int x2)]) hx hb dX4_init_255 hl (by decide) rfl (fun ls hl => ?_)
                  refine lv_iload_n hx hb dX4_init_257 rfl (lv_at hl 2 rfl) ?_
                  refine lv_iconst (v := 1) hx hb dX4_init_258 (by decide) ?_
                  refine lv_iadd hx hb dX4_init_259 ?_
                  refine lv_iconst (v := 2) hx hb dX4_init_260 (by decide) ?_
                  obtain ⟨h_215, hw⟩ := hw
                  refine lv_idiv hx hb dX4_init_261 h_215 ?_
                  refine lv_topi (fun x3_216 ex3_216 => ?_)
                  have hw := hw x3_216 ex3_216
                  refine lv_istore_n (lv' := [(3, .int x3_216), (5, .int 1), (4, .int x4_205), (0, .ref a0), (1, .int x1), (2, .int x2)]) hx hb dX4_init_262 rfl hl (by decide) rfl (fun ls hl => ?_)
                  refine lv_iload hx hb dX4_init_263 (lv_at hl 2 rfl) ?_
                  refine lv_iconst (v := 1) hx hb dX4_init_265 (by decide) ?_
                  refine lv_iadd hx hb dX4_init_266 ?_
                  refine lv_iconst (v := 2) hx hb dX4_init_267 (by decide) ?_
                  obtain ⟨h_217, hw⟩ := hw
                  refine lv_idiv hx hb dX4_init_268 h_217 ?_
                  refine lv_topi (fun x4_218 ex4_218 => ?_)
                  have hw := hw x4_218 ex4_218
                  refine lv_istore (lv' := [(4, .int x4_218), (3, .int x3_216), (5, .int 1), (0, .ref a0), (1, .int x1), (2, .int x2)]) hx hb dX4_init_269 hl (by decide) rfl (fun ls hl => ?_)
                  refine lv_goto (tgt := 177) hx hb dX4_init_271 (by decide) ?_
                  exact ih177_4 (upd ym_2_189 y_202.toNatClampNeg y_203) (upd ym_4_190 y_202.toNatClampNeg x3_206) (upd ym_6_191 y_202.toNatClampNeg x4_205) ym_8_192 ym_10_193 ym_12_194 ym_14_195 ym_16_196 ym_18_197 ym_20_198 ym_22_199 ym_24_200 ym_26_201 f_213 f_212 1 x4_218 x3_216 hw _ _ _ hP hD hS (lv_sub hl [2, 0, 1, 3, 4, 5] rfl)
                · have hw := hw.2 c_214
                  refine lv_iload hx hb dX4_init_244 (lv_at hl 1 rfl) ?_
                  refine lv_iconst (v := 1) hx hb dX4_init_246 (by decide) ?_
                  refine lv_icmp_le (tgt := 254) hx hb dX4_init_247 (by decide) (fun c_219 => ?_) (fun c_219 => ?_)
                  · have hw := hw.1 c_219
                    refine lv_iconst (v := 0) hx hb dX4_init_254 (by decide) ?_
                    refine lv_istore (lv' := [(5, .int 0), (4, .int x4_205), (3, .int x3_206), (0, .ref a0), (1, .int x1), (2, .int x2)]) hx hb dX4_init_255 hl (by decide) rfl (fun ls hl => ?_)
                    refine lv_iload_n hx hb dX4_init_257 rfl (lv_at hl 2 rfl) ?_
                    refine lv_iconst (v := 1) hx hb dX4_init_258 (by decide) ?_
                    refine lv_iadd hx hb dX4_init_259 ?_
                    refine lv_iconst (v := 2) hx hb dX4_init_260 (by decide) ?_
                    obtain ⟨h_220, hw⟩ := hw
                    refine lv_idiv hx hb dX4_init_261 h_220 ?_
                    refine lv_topi (fun x3_221 ex3_221 => ?_)
                    have hw := hw x3_221 ex3_221
                    refine lv_istore_n (lv' := [(3, .int x3_221), (5, .int 0), (4, .int x4_205), (0, .ref a0), (1, .int x1), (2, .int x2)]) hx hb dX4_init_262 rfl hl (by decide) rfl (fun ls hl => ?_)
                    refine lv_iload hx hb dX4_init_263 (lv_at hl 2 rfl) ?_
                    refine lv_iconst (v := 1) hx hb dX4_init_265 (by decide) ?_
                    refine lv_iadd hx hb dX4_init_266 ?_
                    refine lv_iconst (v := 2) hx hb dX4_init_267 (by decide) ?_
                    obtain ⟨h_222, hw⟩ := hw
                    refine lv_idiv hx hb dX4_init_268 h_222 ?_
                    refine lv_topi (fun x4_223 ex4_223 => ?_)
                    have hw := hw x4_223 ex4_223
                    refine lv_istore (lv' := [(4, .int x4_223), (3, .int x3_221), (5, .int 0), (0, .ref a0), (1, .int x1), (2, .int x2)]) hx hb dX4_init_269 hl (by decide) rfl (fun ls hl => ?_)
                    refine lv_goto (tgt := 177) hx hb dX4_init_271 (by decide) ?_
                    exact ih177_4 (upd ym_2_189 y_202.toNatClampNeg y_203) (upd ym_4_190 y_202.toNatClampNeg x3_206) (upd ym_6_191 y_202.toNatClampNeg x4_205) ym_8_192 ym_10_193 ym_12_194 ym_14_195 ym_16_196 ym_18_197 ym_20_198 ym_22_199 ym_24_200 ym_26_201 f_213 f_212 0 x4_223 x3_221 hw _ _ _ hP hD hS (lv_sub hl [2, 0, 1, 3, 4, 5] rfl)
                  · have hw := hw.2 c_219
                    refine lv_iconst (v := 1) hx hb dX4_init_250 (by decide) ?_
                    refine lv_goto (tgt := 255) hx hb dX4_init_251 (by decide) ?_
                    refine lv_istore (lv' := [(5, .int 1), (4, .int x4_205), (3, .int x3_206), (0, .ref a0), (1, .int x1), (2, .int x2)]) hx hb dX4_init_255 hl (by decide) rfl (fun ls hl => ?_)
                    refine lv_iload_n hx hb dX4_init_257 rfl (lv_at hl 2 rfl) ?_
                    refine lv_iconst (v := 1) hx hb dX4_init_258 (by decide) ?_
                    refine lv_iadd hx hb dX4_init_259 ?_
                    refine lv_iconst (v := 2) hx hb dX4_init_260 (by decide) ?_
                    obtain ⟨h_224, hw⟩ := hw
                    refine lv_idiv hx hb dX4_init_261 h_224 ?_
                    refine lv_topi (fun x3_225 ex3_225 => ?_)
                    have hw := hw x3_225 ex3_225
                    refine lv_istore_n (lv' := [(3, .int x3_225), (5, .int 1), (4, .int x4_205), (0, .ref a0), (1, .int x1), (2, .int x2)]) hx hb dX4_init_262 rfl hl (by decide) rfl (fun ls hl => ?_)
                    refine lv_iload hx hb dX4_init_263 (lv_at hl 2 rfl) ?_
                    refine lv_iconst (v := 1) hx hb dX4_init_265 (by decide) ?_
                    refine lv_iadd hx hb dX4_init_266 ?_
                    refine lv_iconst (v := 2) hx hb dX4_init_267 (by decide) ?_
                    obtain ⟨h_226, hw⟩ := hw
                    refine lv_idiv hx hb dX4_init_268 h_226 ?_
                    refine lv_topi (fun x4_227 ex4_227 => ?_)
                    have hw := hw x4_227 ex4_227
                    refine lv_istore (lv' := [(4, .int x4_227), (3, .int x3_225), (5, .int 1), (0, .ref a0), (1, .int x1), (2, .int x2)]) hx hb dX4_init_269 hl (by decide) rfl (fun ls hl => ?_)
                    refine lv_goto (tgt := 177) hx hb dX4_init_271 (by decide) ?_
                    exact ih177_4 (upd ym_2_189 y_202.toNatClampNeg y_203) (upd ym_4_190 y_202.toNatClampNeg x3_206) (upd ym_6_191 y_202.toNatClampNeg x4_205) ym_8_192 ym_10_193 ym_12_194 ym_14_195 ym_16_196 ym_18_197 ym_20_198 ym_22_199 ym_24_200 ym_26_201 f_213 f_212 1 x4_227 x3_225 hw _ _ _ hP hD hS (lv_sub hl [2, 0, 1, 3, 4, 5] rfl)
          exact hlp177_4 n_207 (fun _ => 0) (fun _ => 0) (fun _ => 0) (fun _ => 0) (fun _ => 0) (fun _ => 0) (fun _ => 0) (fun _ => 0) (fun _ => 0) (fun _ => 0) (fun _ => 0) (fun _ => 0) (fun _ => 0) 0 0 1 32 32 hw _ _ _ hP hD hS (lv_sub hl [0, 1, 2, 3, 4, 5] rfl)
      · have hw := hw.2 c_148
        refine lv_iconst (v := 1) hx hb dX4_init_144 (by decide) ?_
        refine lv_goto (tgt := 160) hx hb dX4_init_145 (by decide) ?_
        refine va_putF (D := (dC, dI)) (ci := 4) (v := .int 1) (ty := .int) (C := RX4) (T := TX4) (N := 23) hx hb hT inX4 tyX4 tyX4_ok nmX4 hown hK hP hD hS 0 rfl rfl 2 (by decide) (hT _ k_178) (fun _ h9 => h9) rfl hin rfl (by decide +kernel) rfl rfl (Nat.le_of_ble_eq_true rfl) dX4_init_160 (fun H locs hP hD hS => ?_)
        have hP : va_P (dC, dI) vwCl ([(a0, .inr (4, [.int 0, .int 32, .int 1, .int 0, .ref q_1, .ref q_3, .ref q_5, .int 0, .ref q_7, .ref q_9, .ref q_11, .ref q_13, .int 0, .int 0, .ref q_15, .int 0, .int 0, .ref q_17, .ref q_19, .ref q_21, .int 0, .ref q_23, .ref q_25])), (q_1, .inl (cI, 8, .inl (fun _ => 0))), (q_3, .inl (cI, 8, .inl (fun _ => 0))), (q_5, .inl (cI, 8, .inl (fun _ => 0))), (q_7, .inl (cI, 1400, .inl (fun _ => 0))), (q_9, .inl (cI, 2800, .inl (fun _ => 0))), (q_11, .inl (cZ, 2800, .inl (fun _ => 0))), (q_13, .inl (cZ, 40000, .inl (fun _ => 0))), (q_15, .inl (cZ, 40000, .inl (fun _ => 0))), (q_17, .inl (cI, 8, .inl (fun _ => 0))), (q_19, .inl (cI, 8, .inl (fun _ => 0))), (q_21, .inl (cZ, 8, .inl (fun _ => 0))), (q_23, .inl (cI, 1400, .inl (fun _ => 0))), (q_25, .inl (cZ, 1400, .inl (fun _ => 0)))]) H := hP
        have hD : va_D A ([(a0, .inr (4, [.int 0, .int 32, .int 1, .int 0, .ref q_1, .ref q_3, .ref q_5, .int 0, .ref q_7, .ref q_9, .ref q_11, .ref q_13, .int 0, .int 0, .ref q_15, .int 0, .int 0, .ref q_17, .ref q_19, .ref q_21, .int 0, .ref q_23, .ref q_25])), (q_1, .inl (cI, 8, .inl (fun _ => 0))), (q_3, .inl (cI, 8, .inl (fun _ => 0))), (q_5, .inl (cI, 8, .inl (fun _ => 0))), (q_7, .inl (cI, 1400, .inl (fun _ => 0))), (q_9, .inl (cI, 2800, .inl (fun _ => 0))), (q_11, .inl (cZ, 2800, .inl (fun _ => 0))), (q_13, .inl (cZ, 40000, .inl (fun _ => 0))), (q_15, .inl (cZ, 40000, .inl (fun _ => 0))), (q_17, .inl (cI, 8, .inl (fun _ => 0))), (q_19, .inl (cI, 8, .inl (fun _ => 0))), (q_21, .inl (cZ, 8, .inl (fun _ => 0))), (q_23, .inl (cI, 1400, .inl (fun _ => 0))), (q_25, .inl (cZ, 1400, .inl (fun _ => 0)))]) := hD
        refine lv_aload_n hx hb dX4_init_163 rfl (lv_at hl 0 rfl) ?_
        refine va_get (D := (dC, dI)) (ci := 4) (v := .int 32) (C := RX4) (T := TX4) (N := 23) hx hb hT inX4 hown hK hP 0 rfl rfl 1 (by decide) (hT _ k_177) (fun _ h9 => h9) rfl dX4_init_164 ?_
        refine lv_istore_n (lv' := [(3, .int 32), (0, .ref a0), (1, .int x1), (2, .int x2)]) hx hb dX4_init_167 rfl hl (by decide) rfl (fun ls hl => ?_)
        refine lv_aload_n hx hb dX4_init_168 rfl (lv_at hl 1 rfl) ?_
        refine va_get (D := (dC, dI)) (ci := 4) (v := .int 1) (C := RX4) (T := TX4) (N := 23) hx hb hT inX4 hown hK hP 0 rfl rfl 2 (by decide) (hT _ k_178) (fun _ h9 => h9) rfl dX4_init_169 ?_
        refine lv_istore (lv' := [(4, .int 1), (3, .int 32), (0, .ref a0), (1, .int x1), (2, .int x2)]) hx hb dX4_init_172 hl (by decide) rfl (fun ls hl => ?_)
        refine lv_iconst (v := 1) hx hb dX4_init_174 (by decide) ?_
        refine lv_istore (lv' := [(5, .int 1), (4, .int 1), (3, .int 32), (0, .ref a0), (1, .int x1), (2, .int x2)]) hx hb dX4_init_175 hl (by decide) rfl (fun ls hl => ?_)
        obtain ⟨n_246, hw⟩ := hw
        obtain ⟨ex177_5, eex177_5⟩ : ∃ z : (Nat → Int32) → (Nat → Int32) → (Nat → Int32) → (Nat → Int32) → (Nat → Int32) → (Nat → Int32) → (Nat → Int32) → (Nat → Int32) → (Nat → Int32) → (Nat → Int32) → (Nat → Int32) → (Nat → Int32) → (Nat → Int32) → Int32 → Int32 → Int32 → Int32 → Int32 → Prop, z = (fun (ym_2_228 : (Nat → Int32)) (ym_4_229 : (Nat → Int32)) (ym_6_230 : (Nat → Int32)) (ym_8_231 : (Nat → Int32)) (ym_10_232 : (Nat → Int32)) (ym_12_233 : (Nat → Int32)) (ym_14_234 : (Nat → Int32)) (ym_16_235 : (Nat → Int32)) (ym_18_236 : (Nat → Int32)) (ym_20_237 : (Nat → Int32)) (ym_22_238 : (Nat → Int32)) (ym_24_239 : (Nat → Int32)) (ym_26_240 : (Nat → Int32)) (y_241 : Int32) (y_242 : Int32) (x5_243 : Int32) (x4_244 : Int32) (x3_245 : Int32) => post (((32, 1, y_241, y_242), ym_2_228, ym_4_229, ym_6_230), (0, ym_8_231, ym_10_232, ym_12_233, (ym_14_234, 0, 0), (ym_16_235, 0, 0), (ym_18_236, ym_20_237, ym_22_238, 0), ym_24_239, ym_26_240))) := ⟨_, rfl⟩
        rw [← eex177_5] at hw
        have hx177_5 : ∀ (ym_2_228 : (Nat → Int32)) (ym_4_229 : (Nat → Int32)) (ym_6_230 : (Nat → Int32)) (ym_8_231 : (Nat → Int32)) (ym_10_232 : (Nat → Int32)) (ym_12_233 : (Nat → Int32)) (ym_14_234 : (Nat → Int32)) (ym_16_235 : (Nat → Int32)) (ym_18_236 : (Nat → Int32)) (ym_20_237 : (Nat → Int32)) (ym_22_238 : (Nat → Int32)) (ym_24_239 : (Nat → Int32)) (ym_26_240 : (Nat → Int32)) (y_241 : Int32) (y_242 : Int32) (x5_243 : Int32) (x4_244 : Int32) (x3_245 : Int32), ex177_5 ym_2_228 ym_4_229 ym_6_230 ym_8_231 ym_10_232 ym_12_233 ym_14_234 ym_16_235 ym_18_236 ym_20_237 ym_22_238 ym_24_239 ym_26_240 y_241 y_242 x5_243 x4_244 x3_245 → ∀ (H : Heap) (locs : List Loc) (ls : Array Slot), va_P (dC, dI) vwCl ([(a0, .inr (4, [.int 0, .int 32, .int 1, .int y_241, .ref q_1, .ref q_3, .ref q_5, .int y_242, .ref q_7, .ref q_9, .ref q_11, .ref q_13, .int 0, .int 0, .ref q_15, .int 0, .int 0, .ref q_17, .ref q_19, .ref q_21, .int 0, .ref q_23, .ref q_25])), (q_1, .inl (cI, 8, .inl ym_2_228)), (q_3, .inl (cI, 8, .inl ym_4_229)), (q_5, .inl (cI, 8, .inl ym_6_230)), (q_7, .inl (cI, 1400, .inl ym_8_231)), (q_9, .inl (cI, 2800, .inl ym_10_232)), (q_11, .inl (cZ, 2800, .inl ym_12_233)), (q_13, .inl (cZ, 40000, .inl ym_14_234)), (q_15, .inl (cZ, 40000, .inl ym_16_235)), (q_17, .inl (cI, 8, .inl ym_18_236)), (q_19, .inl (cI, 8, .inl ym_20_237)), (q_21, .inl (cZ, 8, .inl ym_22_238)), (q_23, .inl (cI, 1400, .inl ym_24_239)), (q_25, .inl (cZ, 1400, .inl ym_26_240))]) H → va_D A ([(a0, .inr (4, [.int 0, .int 32, .int 1, .int y_241, .ref q_1, .ref q_3, .ref q_5, .int y_242, .ref q_7, .ref q_9, .ref q_11, .ref q_13, .int 0, .int 0, .ref q_15, .int 0, .int 0, .ref q_17, .ref q_19, .ref q_21, .int 0, .ref q_23, .ref q_25])), (q_1, .inl (cI, 8, .inl ym_2_228)), (q_3, .inl (cI, 8, .inl ym_4_229)), (q_5, .inl (cI, 8, .inl ym_6_230)), (q_7, .inl (cI, 1400, .inl ym_8_231)), (q_9, .inl (cI, 2800, .inl ym_10_232)), (q_11, .inl (cZ, 2800, .inl ym_12_233)), (q_13, .inl (cZ, 40000, .inl ym_14_234)), (q_15, .inl (cZ, 40000, .inl ym_16_235)), (q_17, .inl (cI, 8, .inl ym_18_236)), (q_19, .inl (cI, 8, .inl ym_20_237)), (q_21, .inl (cZ, 8, .inl ym_22_238)), (q_23, .inl (cI, 1400, .inl ym_24_239)), (q_25, .inl (cZ, 1400, .inl ym_26_240))]) → va_S A s.heap H locs → lv_has ls 6 [(5, .int x5_243), (4, .int x4_244), (3, .int x3_245), (0, .ref a0), (1, .int x1), (2, .int x2)] → W p l e (headSpec wsX4_init rm_X4_init).room s m args below meth c H locs 13 89848 (MQ below (va_Qv post (fun (u : vMS × vMM) t => ∃ (am : Nat → Nat), am 0 = a0 ∧ qB (dC, dI) (tysA cI cZ cJ cL) A (wMM cI cZ am u.1 u.2) t) A) args s 13 89848 A) (F0 m 274 ls []) := by
          intro ym_2_228 ym_4_229 ym_6_230 ym_8_231 ym_10_232 ym_12_233 ym_14_234 ym_16_235 ym_18_236 ym_20_237 ym_22_238 ym_24_239 ym_26_240 y_241 y_242 x5_243 x4_244 x3_245 hw H locs ls hP hD hS hl
          rw [eex177_5] at hw
          try dsimp only at hw
          have hP := hP.sub (ws' := (wMM cI cZ (fun i => ([a0, q_1, q_3, q_5, q_7, q_9, q_11, q_13, q_15, q_17, q_19, q_21, q_23, q_25] : List Nat).getD i 0) (((32, 1, y_241, y_242), ym_2_228, ym_4_229, ym_6_230), (0, ym_8_231, ym_10_232, ym_12_233, (ym_14_234, 0, 0), (ym_16_235, 0, 0), (ym_18_236, ym_20_237, ym_22_238, 0), ym_24_239, ym_26_240)).1 (((32, 1, y_241, y_242), ym_2_228, ym_4_229, ym_6_230), (0, ym_8_231, ym_10_232, ym_12_233, (ym_14_234, 0, 0), (ym_16_235, 0, 0), (ym_18_236, ym_20_237, ym_22_238, 0), ym_24_239, ym_26_240)).2)) [0, 1, 2, 3, 4, 5, 6, 7, 8, 9, 10, 11, 12, 13] rfl
          have hD := hD.sub (ws' := (wMM cI cZ (fun i => ([a0, q_1, q_3, q_5, q_7, q_9, q_11, q_13, q_15, q_17, q_19, q_21, q_23, q_25] : List Nat).getD i 0) (((32, 1, y_241, y_242), ym_2_228, ym_4_229, ym_6_230), (0, ym_8_231, ym_10_232, ym_12_233, (ym_14_234, 0, 0), (ym_16_235, 0, 0), (ym_18_236, ym_20_237, ym_22_238, 0), ym_24_239, ym_26_240)).1 (((32, 1, y_241, y_242), ym_2_228, ym_4_229, ym_6_230), (0, ym_8_231, ym_10_232, ym_12_233, (ym_14_234, 0, 0), (ym_16_235, 0, 0), (ym_18_236, ym_20_237, ym_22_238, 0), ym_24_239, ym_26_240)).2)) [0, 1, 2, 3, 4, 5, 6, 7, 8, 9, 10, 11, 12, 13] (by decide) rfl
          exact W.vret hx hb hr (fun t ht hW => ⟨⟨(((32, 1, y_241, y_242), ym_2_228, ym_4_229, ym_6_230), (0, ym_8_231, ym_10_232, ym_12_233, (ym_14_234, 0, 0), (ym_16_235, 0, 0), (ym_18_236, ym_20_237, ym_22_238, 0), ym_24_239, ym_26_240)), rfl, hw, (fun i => ([a0, q_1, q_3, q_5, q_7, q_9, q_11, q_13, q_15, q_17, q_19, q_21, q_23, q_25] : List Nat).getD i 0), rfl, by rw [ht]; exact hP, va_K.moved hW.alike hK, hD⟩, hS.F ht⟩) hS.2.2 dX4_init_274
        have hlp177_5 : ∀ (n_246 : Nat) (ym_2_228 : (Nat → Int32)) (ym_4_229 : (Nat → Int32)) (ym_6_230 : (Nat → Int32)) (ym_8_231 : (Nat → Int32)) (ym_10_232 : (Nat → Int32)) (ym_12_233 : (Nat → Int32)) (ym_14_234 : (Nat → Int32)) (ym_16_235 : (Nat → Int32)) (ym_18_236 : (Nat → Int32)) (ym_20_237 : (Nat → Int32)) (ym_22_238 : (Nat → Int32)) (ym_24_239 : (Nat → Int32)) (ym_26_240 : (Nat → Int32)) (y_241 : Int32) (y_242 : Int32) (x5_243 : Int32) (x4_244 : Int32) (x3_245 : Int32), wp_X4_init_L177_5 post ex177_5 x1 x2 n_246 ym_2_228 ym_4_229 ym_6_230 ym_8_231 ym_10_232 ym_12_233 ym_14_234 ym_16_235 ym_18_236 ym_20_237 ym_22_238 ym_24_239 ym_26_240 y_241 y_242 x5_243 x4_244 x3_245 → ∀ (H : Heap) (locs : List Loc) (ls : Array Slot), va_P (dC, dI) vwCl ([(a0, .inr (4, [.int 0, .int 32, .int 1, .int y_241, .ref q_1, .ref q_3, .ref q_5, .int y_242, .ref q_7, .ref q_9, .ref q_11, .ref q_13, .int 0, .int 0, .ref q_15, .int 0, .int 0, .ref q_17, .ref q_19, .ref q_21, .int 0, .ref q_23, .ref q_25])), (q_1, .inl (cI, 8, .inl ym_2_228)), (q_3, .inl (cI, 8, .inl ym_4_229)), (q_5, .inl (cI, 8, .inl ym_6_230)), (q_7, .inl (cI, 1400, .inl ym_8_231)), (q_9, .inl (cI, 2800, .inl ym_10_232)), (q_11, .inl (cZ, 2800, .inl ym_12_233)), (q_13, .inl (cZ, 40000, .inl ym_14_234)), (q_15, .inl (cZ, 40000, .inl ym_16_235)), (q_17, .inl (cI, 8, .inl ym_18_236)), (q_19, .inl (cI, 8, .inl ym_20_237)), (q_21, .inl (cZ, 8, .inl ym_22_238)), (q_23, .inl (cI, 1400, .inl ym_24_239)), (q_25, .inl (cZ, 1400, .inl ym_26_240))]) H → va_D A ([(a0, .inr (4, [.int 0, .int 32, .int 1, .int y_241, .ref q_1, .ref q_3, .ref q_5, .int y_242, .ref q_7, .ref q_9, .ref q_11, .ref q_13, .int 0, .int 0, .ref q_15, .int 0, .int 0, .ref q_17, .ref q_19, .ref q_21, .int 0, .ref q_23, .ref q_25])), (q_1, .inl (cI, 8, .inl ym_2_228)), (q_3, .inl (cI, 8, .inl ym_4_229)), (q_5, .inl (cI, 8, .inl ym_6_230)), (q_7, .inl (cI, 1400, .inl ym_8_231)), (q_9, .inl (cI, 2800, .inl ym_10_232)), (q_11, .inl (cZ, 2800, .inl ym_12_233)), (q_13, .inl (cZ, 40000, .inl ym_14_234)), (q_15, .inl (cZ, 40000, .inl ym_16_235)), (q_17, .inl (cI, 8, .inl ym_18_236)), (q_19, .inl (cI, 8, .inl ym_20_237)), (q_21, .inl (cZ, 8, .inl ym_22_238)), (q_23, .inl (cI, 1400, .inl ym_24_239)), (q_25, .inl (cZ, 1400, .inl ym_26_240))]) → va_S A s.heap H locs → lv_has ls 6 [(5, .int x5_243), (4, .int x4_244), (3, .int x3_245), (0, .ref a0), (1, .int x1), (2, .int x2)] → W p l e (headSpec wsX4_init rm_X4_init).room s m args below meth c H locs 13 89848 (MQ below (va_Qv post (fun (u : vMS × vMM) t => ∃ (am : Nat → Nat), am 0 = a0 ∧ qB (dC, dI) (tysA cI cZ cJ cL) A (wMM cI cZ am u.1 u.2) t) A) args s 13 89848 A) (F0 m 177 ls []) := by
          intro n_246
          induction n_246 with
          | zero => intro _ _ _ _ _ _ _ _ _ _ _ _ _ _ _ _ _ _ hw; exact hw.elim
          | succ n_246 ih177_5 =>
            intro ym_2_228 ym_4_229 ym_6_230 ym_8_231 ym_10_232 ym_12_233 ym_14_234 ym_16_235 ym_18_236 ym_20_237 ym_22_238 ym_24_239 ym_26_240 y_241 y_242 x5_243 x4_244 x3_245 hw H locs ls hP hD hS hl
            unfold wp_X4_init_L177_5 at hw
            refine lv_iload hx hb dX4_init_177 (lv_at hl 0 rfl) ?_
            refine lv_if_eq (tgt := 274) hx hb dX4_init_179 (by decide) (fun c_247 => ?_) (fun c_247 => ?_)
            · have hw := hw.1 c_247
              exact hx177_5 ym_2_228 ym_4_229 ym_6_230 ym_8_231 ym_10_232 ym_12_233 ym_14_234 ym_16_235 ym_18_236 ym_20_237 ym_22_238 ym_24_239 ym_26_240 y_241 y_242 x5_243 x4_244 x3_245 hw _ _ _ hP hD hS (lv_sub hl [0, 1, 2, 3, 4, 5] rfl)
            · have hw := hw.2 c_247
              refine lv_aload_n hx hb dX4_init_182 rfl (lv_at hl 3 rfl) ?_
              refine va_get (D := (dC, dI)) (ci := 4) (v := .ref q_1) (C := RX4) (T := TX4) (N := 23) hx hb hT inX4 hown hK hP 0 rfl rfl 4 (by decide) (hT _ k_162) (fun _ h9 => h9) rfl dX4_init_183 ?_
              refine lv_aload_n hx hb dX4_init_186 rfl (lv_at hl 3 rfl) ?_
              refine va_get (D := (dC, dI)) (ci := 4) (v := .int y_241) (C := RX4) (T := TX4) (N := 23) hx hb hT inX4 hown hK hP 0 rfl rfl 3 (by decide) (hT _ k_179) (fun _ h9 => h9) rfl dX4_init_187 ?_
              refine lv_aload_n hx hb dX4_init_190 rfl (lv_at hl 3 rfl) ?_
              refine va_get (D := (dC, dI)) (ci := 4) (v := .int y_242) (C := RX4) (T := TX4) (N := 23) hx hb hT inX4 hown hK hP 0 rfl rfl 7 (by decide) (hT _ k_180) (fun _ h9 => h9) rfl dX4_init_191 ?_
              obtain ⟨h_248, hw⟩ := hw
              refine va_iast hx hb hK hP hD hS 1 0 rfl rfl h_248 dX4_init_194 (fun H locs hP hD hS => ?_)
              have hP : va_P (dC, dI) vwCl ([(a0, .inr (4, [.int 0, .int 32, .int 1, .int y_241, .ref q_1, .ref q_3, .ref q_5, .int y_242, .ref q_7, .ref q_9, .ref q_11, .ref q_13, .int 0, .int 0, .ref q_15, .int 0, .int 0, .ref q_17, .ref q_19, .ref q_21, .int 0, .ref q_23, .ref q_25])), (q_1, .inl (cI, 8, .inl (upd ym_2_228 y_241.toNatClampNeg y_242))), (q_3, .inl (cI, 8, .inl ym_4_229)), (q_5, .inl (cI, 8, .inl ym_6_230)), (q_7, .inl (cI, 1400, .inl ym_8_231)), (q_9, .inl (cI, 2800, .inl ym_10_232)), (q_11, .inl (cZ, 2800, .inl ym_12_233)), (q_13, .inl (cZ, 40000, .inl ym_14_234)), (q_15, .inl (cZ, 40000, .inl ym_16_235)), (q_17, .inl (cI, 8, .inl ym_18_236)), (q_19, .inl (cI, 8, .inl ym_20_237)), (q_21, .inl (cZ, 8, .inl ym_22_238)), (q_23, .inl (cI, 1400, .inl ym_24_239)), (q_25, .inl (cZ, 1400, .inl ym_26_240))]) H := hP
              have hD : va_D A ([(a0, .inr (4, [.int 0, .int 32, .int 1, .int y_241, .ref q_1, .ref q_3, .ref q_5, .int y_242, .ref q_7, .ref q_9, .ref q_11, .ref q_13, .int 0, .int 0, .ref q_15, .int 0, .int 0, .ref q_17, .ref q_19, .ref q_21, .int 0, .ref q_23, .ref q_25])), (q_1, .inl (cI, 8, .inl (upd ym_2_228 y_241.toNatClampNeg y_242))), (q_3, .inl (cI, 8, .inl ym_4_229)), (q_5, .inl (cI, 8, .inl ym_6_230)), (q_7, .inl (cI, 1400, .inl ym_8_231)), (q_9, .inl (cI, 2800, .inl ym_10_232)), (q_11, .inl (cZ, 2800, .inl ym_12_233)), (q_13, .inl (cZ, 40000, .inl ym_14_234)), (q_15, .inl (cZ, 40000, .inl ym_16_235)), (q_17, .inl (cI, 8, .inl ym_18_236)), (q_19, .inl (cI, 8, .inl ym_20_237)), (q_21, .inl (cZ, 8, .inl ym_22_238)), (q_23, .inl (cI, 1400, .inl ym_24_239)), (q_25, .inl (cZ, 1400, .inl ym_26_240))]) := hD
              refine lv_aload_n hx hb dX4_init_195 rfl (lv_at hl 3 rfl) ?_
              refine va_get (D := (dC, dI)) (ci := 4) (v := .ref q_3) (C := RX4) (T := TX4) (N := 23) hx hb hT inX4 hown hK hP 0 rfl rfl 5 (by decide) (hT _ k_163) (fun _ h9 => h9) rfl dX4_init_196 ?_
              refine lv_aload_n hx hb dX4_init_199 rfl (lv_at hl 3 rfl) ?_
              refine va_get (D := (dC, dI)) (ci := 4) (v := .int y_241) (C := RX4) (T := TX4) (N := 23) hx hb hT inX4 hown hK hP 0 rfl rfl 3 (by decide) (hT _ k_179) (fun _ h9 => h9) rfl dX4_init_200 ?_
              refine lv_iload_n hx hb dX4_init_203 rfl (lv_at hl 2 rfl) ?_
              obtain ⟨h_249, hw⟩ := hw
              refine va_iast hx hb hK hP hD hS 2 0 rfl rfl h_249 dX4_init_204 (fun H locs hP hD hS => ?_)
              have hP : va_P (dC, dI) vwCl ([(a0, .inr (4, [.int 0, .int 32, .int 1, .int y_241, .ref q_1, .ref q_3, .ref q_5, .int y_242, .ref q_7, .ref q_9, .ref q_11, .ref q_13, .int 0, .int 0, .ref q_15, .int 0, .int 0, .ref q_17, .ref q_19, .ref q_21, .int 0, .ref q_23, .ref q_25])), (q_1, .inl (cI, 8, .inl (upd ym_2_228 y_241.toNatClampNeg y_242))), (q_3, .inl (cI, 8, .inl (upd ym_4_229 y_241.toNatClampNeg x3_245))), (q_5, .inl (cI, 8, .inl ym_6_230)), (q_7, .inl (cI, 1400, .inl ym_8_231)), (q_9, .inl (cI, 2800, .inl ym_10_232)), (q_11, .inl (cZ, 2800, .inl ym_12_233)), (q_13, .inl (cZ, 40000, .inl ym_14_234)), (q_15, .inl (cZ, 40000, .inl ym_16_235)), (q_17, .inl (cI, 8, .inl ym_18_236)), (q_19, .inl (cI, 8, .inl ym_20_237)), (q_21, .inl (cZ, 8, .inl ym_22_238)), (q_23, .inl (cI, 1400, .inl ym_24_239)), (q_25, .inl (cZ, 1400, .inl ym_26_240))]) H := hP
              have hD : va_D A ([(a0, .inr (4, [.int 0, .int 32, .int 1, .int y_241, .ref q_1, .ref q_3, .ref q_5, .int y_242, .ref q_7, .ref q_9, .ref q_11, .ref q_13, .int 0, .int 0, .ref q_15, .int 0, .int 0, .ref q_17, .ref q_19, .ref q_21, .int 0, .ref q_23, .ref q_25])), (q_1, .inl (cI, 8, .inl (upd ym_2_228 y_241.toNatClampNeg y_242))), (q_3, .inl (cI, 8, .inl (upd ym_4_229 y_241.toNatClampNeg x3_245))), (q_5, .inl (cI, 8, .inl ym_6_230)), (q_7, .inl (cI, 1400, .inl ym_8_231)), (q_9, .inl (cI, 2800, .inl ym_10_232)), (q_11, .inl (cZ, 2800, .inl ym_12_233)), (q_13, .inl (cZ, 40000, .inl ym_14_234)), (q_15, .inl (cZ, 40000, .inl ym_16_235)), (q_17, .inl (cI, 8, .inl ym_18_236)), (q_19, .inl (cI, 8, .inl ym_20_237)), (q_21, .inl (cZ, 8, .inl ym_22_238)), (q_23, .inl (cI, 1400, .inl ym_24_239)), (q_25, .inl (cZ, 1400, .inl ym_26_240))]) := hD
              refine lv_aload_n hx hb dX4_init_205 rfl (lv_at hl 3 rfl) ?_
              refine va_get (D := (dC, dI)) (ci := 4) (v := .ref q_5) (C := RX4) (T := TX4) (N := 23) hx hb hT inX4 hown hK hP 0 rfl rfl 6 (by decide) (hT _ k_164) (fun _ h9 => h9) rfl dX4_init_206 ?_
              refine lv_aload_n hx hb dX4_init_209 rfl (lv_at hl 3 rfl) ?_
              refine va_get (D := (dC, dI)) (ci := 4) (v := .int y_241) (C := RX4) (T := TX4) (N := 23) hx hb hT inX4 hown hK hP 0 rfl rfl 3 (by decide) (hT _ k_179) (fun _ h9 => h9) rfl dX4_init_210 ?_
              refine lv_iload hx hb dX4_init_213 (lv_at hl 1 rfl) ?_
              obtain ⟨h_250, hw⟩ := hw
              refine va_iast hx hb hK hP hD hS 3 0 rfl rfl h_250 dX4_init_215 (fun H locs hP hD hS => ?_)
              have hP : va_P (dC, dI) vwCl ([(a0, .inr (4, [.int 0, .int 32, .int 1, .int y_241, .ref q_1, .ref q_3, .ref q_5, .int y_242, .ref q_7, .ref q_9, .ref q_11, .ref q_13, .int 0, .int 0, .ref q_15, .int 0, .int 0, .ref q_17, .ref q_19, .ref q_21, .int 0, .ref q_23, .ref q_25])), (q_1, .inl (cI, 8, .inl (upd ym_2_228 y_241.toNatClampNeg y_242))), (q_3, .inl (cI, 8, .inl (upd ym_4_229 y_241.toNatClampNeg x3_245))), (q_5, .inl (cI, 8, .inl (upd ym_6_230 y_241.toNatClampNeg x4_244))), (q_7, .inl (cI, 1400, .inl ym_8_231)), (q_9, .inl (cI, 2800, .inl ym_10_232)), (q_11, .inl (cZ, 2800, .inl ym_12_233)), (q_13, .inl (cZ, 40000, .inl ym_14_234)), (q_15, .inl (cZ, 40000, .inl ym_16_235)), (q_17, .inl (cI, 8, .inl ym_18_236)), (q_19, .inl (cI, 8, .inl ym_20_237)), (q_21, .inl (cZ, 8, .inl ym_22_238)), (q_23, .inl (cI, 1400, .inl ym_24_239)), (q_25, .inl (cZ, 1400, .inl ym_26_240))]) H := hP
              have hD : va_D A ([(a0, .inr (4, [.int 0, .int 32, .int 1, .int y_241, .ref q_1, .ref q_3, .ref q_5, .int y_242, .ref q_7, .ref q_9, .ref q_11, .ref q_13, .int 0, .int 0, .ref q_15, .int 0, .int 0, .ref q_17, .ref q_19, .ref q_21, .int 0, .ref q_23, .ref q_25])), (q_1, .inl (cI, 8, .inl (upd ym_2_228 y_241.toNatClampNeg y_242))), (q_3, .inl (cI, 8, .inl (upd ym_4_229 y_241.toNatClampNeg x3_245))), (q_5, .inl (cI, 8, .inl (upd ym_6_230 y_241.toNatClampNeg x4_244))), (q_7, .inl (cI, 1400, .inl ym_8_231)), (q_9, .inl (cI, 2800, .inl ym_10_232)), (q_11, .inl (cZ, 2800, .inl ym_12_233)), (q_13, .inl (cZ, 40000, .inl ym_14_234)), (q_15, .inl (cZ, 40000, .inl ym_16_235)), (q_17, .inl (cI, 8, .inl ym_18_236)), (q_19, .inl (cI, 8, .inl ym_20_237)), (q_21, .inl (cZ, 8, .inl ym_22_238)), (q_23, .inl (cI, 1400, .inl ym_24_239)), (q_25, .inl (cZ, 1400, .inl ym_26_240))]) := hD
              refine lv_aload_n hx hb dX4_init_216 rfl (lv_at hl 3 rfl) ?_
              refine lv_dup hx hb dX4_init_217 rfl ?_
              refine va_get (D := (dC, dI)) (ci := 4) (v := .int y_242) (C := RX4) (T := TX4) (N := 23) hx hb hT inX4 hown hK hP 0 rfl rfl 7 (by decide) (hT _ k_180) (fun _ h9 => h9) rfl dX4_init_218 ?_
              refine lv_iload_n hx hb dX4_init_221 rfl (lv_at hl 2 rfl) ?_
              refine lv_iload hx hb dX4_init_222 (lv_at hl 1 rfl) ?_
              refine lv_imul hx hb dX4_init_224 ?_
              refine lv_iadd hx hb dX4_init_225 ?_
              refine lv_topi (fun f_251 ef_251 => ?_)
              have hw := hw f_251 ef_251
              refine va_put (D := (dC, dI)) (ci := 4) (v := .int f_251) (ty := .int) (C := RX4) (T := TX4) (N := 23) hx hb hT inX4 tyX4 tyX4_ok nmX4 hown hK hP hD hS 0 rfl rfl 7 (by decide) (hT _ k_180) (fun _ h9 => h9) rfl (by decide +kernel) rfl rfl (Nat.le_of_ble_eq_true rfl) dX4_init_226 (fun H locs hP hD hS => ?_)
              have hP : va_P (dC, dI) vwCl ([(a0, .inr (4, [.int 0, .int 32, .int 1, .int y_241, .ref q_1, .ref q_3, .ref q_5, .int f_251, .ref q_7, .ref q_9, .ref q_11, .ref q_13, .int 0, .int 0, .ref q_15, .int 0, .int 0, .ref q_17, .ref q_19, .ref q_21, .int 0, .ref q_23, .ref q_25])), (q_1, .inl (cI, 8, .inl (upd ym_2_228 y_241.toNatClampNeg y_242))), (q_3, .inl (cI, 8, .inl (upd ym_4_229 y_241.toNatClampNeg x3_245))), (q_5, .inl (cI, 8, .inl (upd ym_6_230 y_241.toNatClampNeg x4_244))), (q_7, .inl (cI, 1400, .inl ym_8_231)), (q_9, .inl (cI, 2800, .inl ym_10_232)), (q_11, .inl (cZ, 2800, .inl ym_12_233)), (q_13, .inl (cZ, 40000, .inl ym_14_234)), (q_15, .inl (cZ, 40000, .inl ym_16_235)), (q_17, .inl (cI, 8, .inl ym_18_236)), (q_19, .inl (cI, 8, .inl ym_20_237)), (q_21, .inl (cZ, 8, .inl ym_22_238)), (q_23, .inl (cI, 1400, .inl ym_24_239)), (q_25, .inl (cZ, 1400, .inl ym_26_240))]) H := hP
              have hD : va_D A ([(a0, .inr (4, [.int 0, .int 32, .int 1, .int y_241, .ref q_1, .ref q_3, .ref q_5, .int f_251, .ref q_7, .ref q_9, .ref q_11, .ref q_13, .int 0, .int 0, .ref q_15, .int 0, .int 0, .ref q_17, .ref q_19, .ref q_21, .int 0, .ref q_23, .ref q_25])), (q_1, .inl (cI, 8, .inl (upd ym_2_228 y_241.toNatClampNeg y_242))), (q_3, .inl (cI, 8, .inl (upd ym_4_229 y_241.toNatClampNeg x3_245))), (q_5, .inl (cI, 8, .inl (upd ym_6_230 y_241.toNatClampNeg x4_244))), (q_7, .inl (cI, 1400, .inl ym_8_231)), (q_9, .inl (cI, 2800, .inl ym_10_232)), (q_11, .inl (cZ, 2800, .inl ym_12_233)), (q_13, .inl (cZ, 40000, .inl ym_14_234)), (q_15, .inl (cZ, 40000, .inl ym_16_235)), (q_17, .inl (cI, 8, .inl ym_18_236)), (q_19, .inl (cI, 8, .inl ym_20_237)), (q_21, .inl (cZ, 8, .inl ym_22_238)), (q_23, .inl (cI, 1400, .inl ym_24_239)), (q_25, .inl (cZ, 1400, .inl ym_26_240))]) := hD
              refine lv_aload_n hx hb dX4_init_229 rfl (lv_at hl 3 rfl) ?_
              refine lv_dup hx hb dX4_init_230 rfl ?_
              refine va_get (D := (dC, dI)) (ci := 4) (v := .int y_241) (C := RX4) (T := TX4) (N := 23) hx hb hT inX4 hown hK hP 0 rfl rfl 3 (by decide) (hT _ k_179) (fun _ h9 => h9) rfl dX4_init_231 ?_
              refine lv_iconst (v := 1) hx hb dX4_init_234 (by decide) ?_
              refine lv_iadd hx hb dX4_init_235 ?_
              refine lv_topi (fun f_252 ef_252 => ?_)
              have hw := hw f_252 ef_252
              refine va_put (D := (dC, dI)) (ci := 4) (v := .int f_252) (ty := .int) (C := RX4) (T := TX4) (N := 23) hx hb hT inX4 tyX4 tyX4_ok nmX4 hown hK hP hD hS 0 rfl rfl 3 (by decide) (hT _ k_179) (fun _ h9 => h9) rfl (by decide +kernel) rfl rfl (Nat.le_of_ble_eq_true rfl) dX4_init_236 (fun H locs hP hD hS => ?_)
              have hP : va_P (dC, dI) vwCl ([(a0, .inr (4, [.int 0, .int 32, .int 1, .int f_252, .ref q_1, .ref q_3, .ref q_5, .int f_251, .ref q_7, .ref q_9, .ref q_11, .ref q_13, .int 0, .int 0, .ref q_15, .int 0, .int 0, .ref q_17, .ref q_19, .ref q_21, .int 0, .ref q_23, .ref q_25])), (q_1, .inl (cI, 8, .inl (upd ym_2_228 y_241.toNatClampNeg y_242))), (q_3, .inl (cI, 8, .inl (upd ym_4_229 y_241.toNatClampNeg x3_245))), (q_5, .inl (cI, 8, .inl (upd ym_6_230 y_241.toNatClampNeg x4_244))), (q_7, .inl (cI, 1400, .inl ym_8_231)), (q_9, .inl (cI, 2800, .inl ym_10_232)), (q_11, .inl (cZ, 2800, .inl ym_12_233)), (q_13, .inl (cZ, 40000, .inl ym_14_234)), (q_15, .inl (cZ, 40000, .inl ym_16_235)), (q_17, .inl (cI, 8, .inl ym_18_236)), (q_19, .inl (cI, 8, .inl ym_20_237)), (q_21, .inl (cZ, 8, .inl ym_22_238)), (q_23, .inl (cI, 1400, .inl ym_24_239)), (q_25, .inl (cZ, 1400, .inl ym_26_240))]) H := hP
              have hD : va_D A ([(a0, .inr (4, [.int 0, .int 32, .int 1, .int f_252, .ref q_1, .ref q_3, .ref q_5, .int f_251, .ref q_7, .ref q_9, .ref q_11, .ref q_13, .int 0, .int 0, .ref q_15, .int 0, .int 0, .ref q_17, .ref q_19, .ref q_21, .int 0, .ref q_23, .ref q_25])), (q_1, .inl (cI, 8, .inl (upd ym_2_228 y_241.toNatClampNeg y_242))), (q_3, .inl (cI, 8, .inl (upd ym_4_229 y_241.toNatClampNeg x3_245))), (q_5, .inl (cI, 8, .inl (upd ym_6_230 y_241.toNatClampNeg x4_244))), (q_7, .inl (cI, 1400, .inl ym_8_231)), (q_9, .inl (cI, 2800, .inl ym_10_232)), (q_11, .inl (cZ, 2800, .inl ym_12_233)), (q_13, .inl (cZ, 40000, .inl ym_14_234)), (q_15, .inl (cZ, 40000, .inl ym_16_235)), (q_17, .inl (cI, 8, .inl ym_18_236)), (q_19, .inl (cI, 8, .inl ym_20_237)), (q_21, .inl (cZ, 8, .inl ym_22_238)), (q_23, .inl (cI, 1400, .inl ym_24_239)), (q_25, .inl (cZ, 1400, .inl ym_26_240))]) := hD
              refine lv_iload_n hx hb dX4_init_239 rfl (lv_at hl 2 rfl) ?_
              refine lv_iconst (v := 1) hx hb dX4_init_240 (by decide) ?_
              refine lv_icmp_gt (tgt := 250) hx hb dX4_init_241 (by decide) (fun c_253 => ?_) (fun c_253 => ?_)
              · have hw := hw.1 c_253
                refine lv_iconst (v := 1) hx hb dX4_init_250 (by decide) ?_
                refine lv_goto (tgt := 255) hx hb dX4_init_251 (by decide) ?_
                refine lv_istore (lv' := [(5, .int 1), (4, .int x4_244), (3, .int x3_245), (0, .ref a0), (1, .int x1), (2, .int x2)]) hx hb dX4_init_255 hl (by decide) rfl (fun ls hl => ?_)
                refine lv_iload_n hx hb dX4_init_257 rfl (lv_at hl 2 rfl) ?_
                refine lv_iconst (v := 1) hx hb dX4_init_258 (by decide) ?_
                refine lv_iadd hx hb dX4_init_259 ?_
                refine lv_iconst (v := 2) hx hb dX4_init_260 (by decide) ?_
                obtain ⟨h_254, hw⟩ := hw
                refine lv_idiv hx hb dX4_init_261 h_254 ?_
                refine lv_topi (fun x3_255 ex3_255 => ?_)
                have hw := hw x3_255 ex3_255
                refine lv_istore_n (lv' := [(3, .int x3_255), (5, .int 1), (4, .int x4_244), (0, .ref a0), (1, .int x1), (2, .int x2)]) hx hb dX4_init_262 rfl hl (by decide) rfl (fun ls hl => ?_)
                refine lv_iload hx hb dX4_init_263 (lv_at hl 2 rfl) ?_
                refine lv_iconst (v := 1) hx hb dX4_init_265 (by decide) ?_
                refine lv_iadd hx hb dX4_init_266 ?_
                refine lv_iconst (v := 2) hx hb dX4_init_267 (by decide) ?_
                obtain ⟨h_256, hw⟩ := hw
                refine lv_idiv hx hb dX4_init_268 h_256 ?_
                refine lv_topi (fun x4_257 ex4_257 => ?_)
                have hw := hw x4_257 ex4_257
                refine lv_istore (lv' := [(4, .int x4_257), (3, .int x3_255), (5, .int 1), (0, .ref a0), (1, .int x1), (2, .int x2)]) hx hb dX4_init_269 hl (by decide) rfl (fun ls hl => ?_)
                refine lv_goto (tgt := 177) hx hb dX4_init_271 (by decide) ?_
                exact ih177_5 (upd ym_2_228 y_241.toNatClampNeg y_242) (upd ym_4_229 y_241.toNatClampNeg x3_245) (upd ym_6_230 y_241.toNatClampNeg x4_244) ym_8_231 ym_10_232 ym_12_233 ym_14_234 ym_16_235 ym_18_236 ym_20_237 ym_22_238 ym_24_239 ym_26_240 f_252 f_251 1 x4_257 x3_255 hw _ _ _ hP hD hS (lv_sub hl [2, 0, 1, 3, 4, 5] rfl)
              · have hw := hw.2 c_253
                refine lv_iload hx hb dX4_init_244 (lv_at hl 1 rfl) ?_
                refine lv_iconst (v := 1) hx hb dX4_init_246 (by decide) ?_
                refine lv_icmp_le (tgt := 254) hx hb dX4_init_247 (by decide) (fun c_258 => ?_) (fun c_258 => ?_)
                · have hw := hw.1 c_258
                  refine lv_iconst (v := 0) hx hb dX4_init_254 (by decide) ?_
                  refine lv_istore (lv' := [(5, .int 0), (4, .int x4_244), (3, .int x3_245), (0, .ref a0), (1, .int x1), (2, .int x2)]) hx hb dX4_init_255 hl (by decide) rfl (fun ls hl => ?_)
                  refine lv_iload_n hx hb dX4_init_257 rfl (lv_at hl 2 rfl) ?_
                  refine lv_iconst (v := 1) hx hb dX4_init_258 (by decide) ?_
                  refine lv_iadd hx hb dX4_init_259 ?_
                  refine lv_iconst (v := 2) hx hb dX4_init_260 (by decide) ?_
                  obtain ⟨h_259, hw⟩ := hw
                  refine lv_idiv hx hb dX4_init_261 h_259 ?_
                  refine lv_topi (fun x3_260 ex3_260 => ?_)
                  have hw := hw x3_260 ex3_260
                  refine lv_istore_n (lv' := [(3, .int x3_260), (5, .int 0), (4, .int x4_244), (0, .ref a0), (1, .int x1), (2, .int x2)]) hx hb dX4_init_262 rfl hl (by decide) rfl (fun ls hl => ?_)
                  refine lv_iload hx hb dX4_init_263 (lv_at hl 2 rfl) ?_
                  refine lv_iconst (v := 1) hx hb dX4_init_265 (by decide) ?_
                  refine lv_iadd hx hb dX4_init_266 ?_
                  refine lv_iconst (v := 2) hx hb dX4_init_267 (by decide) ?_
                  obtain ⟨h_261, hw⟩ := hw
                  refine lv_idiv hx hb dX4_init_268 h_261 ?_
                  refine lv_topi (fun x4_262 ex4_262 => ?_)
                  have hw := hw x4_262 ex4_262
                  refine lv_istore (lv' := [(4, .int x4_262), (3, .int x3_260), (5, .int 0), (0, .ref a0), (1, .int x1), (2, .int x2)]) hx hb dX4_init_269 hl (by decide) rfl (fun ls hl => ?_)
                  refine lv_goto (tgt := 177) hx hb dX4_init_271 (by decide) ?_
                  exact ih177_5 (upd ym_2_228 y_241.toNatClampNeg y_242) (upd ym_4_229 y_241.toNatClampNeg x3_245) (upd ym_6_230 y_241.toNatClampNeg x4_244) ym_8_231 ym_10_232 ym_12_233 ym_14_234 ym_16_235 ym_18_236 ym_20_237 ym_22_238 ym_24_239 ym_26_240 f_252 f_251 0 x4_262 x3_260 hw _ _ _ hP hD hS (lv_sub hl [2, 0, 1, 3, 4, 5] rfl)
                · have hw := hw.2 c_258
                  refine lv_iconst (v := 1) hx hb dX4_init_250 (by decide) ?_
                  refine lv_goto (tgt := 255) hx hb dX4_init_251 (by decide) ?_
                  refine lv_istore (lv' := [(5, .int 1), (4, .int x4_244), (3, .int x3_245), (0, .ref a0), (1, .int x1), (2, .int x2)]) hx hb dX4_init_255 hl (by decide) rfl (fun ls hl => ?_)
                  refine lv_iload_n hx hb dX4_init_257 rfl (lv_at hl 2 rfl) ?_
                  refine lv_iconst (v := 1) hx hb dX4_init_258 (by decide) ?_
                  refine lv_iadd hx hb dX4_init_259 ?_
                  refine lv_iconst (v := 2) hx hb dX4_init_260 (by decide) ?_
                  obtain ⟨h_263, hw⟩ := hw
                  refine lv_idiv hx hb dX4_init_261 h_263 ?_
                  refine lv_topi (fun x3_264 ex3_264 => ?_)
                  have hw := hw x3_264 ex3_264
                  refine lv_istore_n (lv' := [(3, .int x3_264), (5, .int 1), (4, .int x4_244), (0, .ref a0), (1, .int x1), (2, .int x2)]) hx hb dX4_init_262 rfl hl (by decide) rfl (fun ls hl => ?_)
                  refine lv_iload hx hb dX4_init_263 (lv_at hl 2 rfl) ?_
                  refine lv_iconst (v := 1) hx hb dX4_init_265 (by decide) ?_
                  refine lv_iadd hx hb dX4_init_266 ?_
                  refine lv_iconst (v := 2) hx hb dX4_init_267 (by decide) ?_
                  obtain ⟨h_265, hw⟩ := hw
                  refine lv_idiv hx hb dX4_init_268 h_265 ?_
                  refine lv_topi (fun x4_266 ex4_266 => ?_)
                  have hw := hw x4_266 ex4_266
                  refine lv_istore (lv' := [(4, .int x4_266), (3, .int x3_264), (5, .int 1), (0, .ref a0), (1, .int x1), (2, .int x2)]) hx hb dX4_init_269 hl (by decide) rfl (fun ls hl => ?_)
                  refine lv_goto (tgt := 177) hx hb dX4_init_271 (by decide) ?_
                  exact ih177_5 (upd ym_2_228 y_241.toNatClampNeg y_242) (upd ym_4_229 y_241.toNatClampNeg x3_245) (upd ym_6_230 y_241.toNatClampNeg x4_244) ym_8_231 ym_10_232 ym_12_233 ym_14_234 ym_16_235 ym_18_236 ym_20_237 ym_22_238 ym_24_239 ym_26_240 f_252 f_251 1 x4_266 x3_264 hw _ _ _ hP hD hS (lv_sub hl [2, 0, 1, 3, 4, 5] rfl)
        exact hlp177_5 n_246 (fun _ => 0) (fun _ => 0) (fun _ => 0) (fun _ => 0) (fun _ => 0) (fun _ => 0) (fun _ => 0) (fun _ => 0) (fun _ => 0) (fun _ => 0) (fun _ => 0) (fun _ => 0) (fun _ => 0) 0 0 1 1 32 hw _ _ _ hP hD hS (lv_sub hl [0, 1, 2, 3, 4, 5] rfl)
  · have hw := hw.2 c_27
    refine lv_iconst (v := 1) hx hb dX4_init_119 (by decide) ?_
    refine lv_goto (tgt := 135) hx hb dX4_init_120 (by decide) ?_
    refine va_putF (D := (dC, dI)) (ci := 4) (v := .int 1) (ty := .int) (C := RX4) (T := TX4) (N := 23) hx hb hT inX4 tyX4 tyX4_ok nmX4 hown hK hP hD hS 0 rfl rfl 1 (by decide) (hT _ k_177) (fun _ h9 => h9) rfl hin rfl (by decide +kernel) rfl rfl (Nat.le_of_ble_eq_true rfl) dX4_init_135 (fun H locs hP hD hS => ?_)
    have hP : va_P (dC, dI) vwCl ([(a0, .inr (4, [.int 0, .int 1, .int 0, .int 0, .ref q_1, .ref q_3, .ref q_5, .int 0, .ref q_7, .ref q_9, .ref q_11, .ref q_13, .int 0, .int 0, .ref q_15, .int 0, .int 0, .ref q_17, .ref q_19, .ref q_21, .int 0, .ref q_23, .ref q_25])), (q_1, .inl (cI, 8, .inl (fun _ => 0))), (q_3, .inl (cI, 8, .inl (fun _ => 0))), (q_5, .inl (cI, 8, .inl (fun _ => 0))), (q_7, .inl (cI, 1400, .inl (fun _ => 0))), (q_9, .inl (cI, 2800, .inl (fun _ => 0))), (q_11, .inl (cZ, 2800, .inl (fun _ => 0))), (q_13, .inl (cZ, 40000, .inl (fun _ => 0))), (q_15, .inl (cZ, 40000, .inl (fun _ => 0))), (q_17, .inl (cI, 8, .inl (fun _ => 0))), (q_19, .inl (cI, 8, .inl (fun _ => 0))), (q_21, .inl (cZ, 8, .inl (fun _ => 0))), (q_23, .inl (cI, 1400, .inl (fun _ => 0))), (q_25, .inl (cZ, 1400, .inl (fun _ => 0)))]) H := hP
    have hD : va_D A ([(a0, .inr (4, [.int 0, .int 1, .int 0, .int 0, .ref q_1, .ref q_3, .ref q_5, .int 0, .ref q_7, .ref q_9, .ref q_11, .ref q_13, .int 0, .int 0, .ref q_15, .int 0, .int 0, .ref q_17, .ref q_19, .ref q_21, .int 0, .ref q_23, .ref q_25])), (q_1, .inl (cI, 8, .inl (fun _ => 0))), (q_3, .inl (cI, 8, .inl (fun _ => 0))), (q_5, .inl (cI, 8, .inl (fun _ => 0))), (q_7, .inl (cI, 1400, .inl (fun _ => 0))), (q_9, .inl (cI, 2800, .inl (fun _ => 0))), (q_11, .inl (cZ, 2800, .inl (fun _ => 0))), (q_13, .inl (cZ, 40000, .inl (fun _ => 0))), (q_15, .inl (cZ, 40000, .inl (fun _ => 0))), (q_17, .inl (cI, 8, .inl (fun _ => 0))), (q_19, .inl (cI, 8, .inl (fun _ => 0))), (q_21, .inl (cZ, 8, .inl (fun _ => 0))), (q_23, .inl (cI, 1400, .inl (fun _ => 0))), (q_25, .inl (cZ, 1400, .inl (fun _ => 0)))]) := hD
    refine lv_aload_n hx hb dX4_init_138 rfl (lv_at hl 0 rfl) ?_
    refine lv_iload_n hx hb dX4_init_139 rfl (lv_at hl 2 rfl) ?_
    refine lv_iconst (v := 1) hx hb dX4_init_140 (by decide) ?_
    refine lv_icmp_ge (tgt := 148) hx hb dX4_init_141 (by decide) (fun c_267 => ?_) (fun c_267 => ?_)
    · have hw := hw.1 c_267
      refine lv_iload_n hx hb dX4_init_148 rfl (lv_at hl 2 rfl) ?_
      refine lv_bipush (v := 32) hx hb dX4_init_149 (by decide) ?_
      refine lv_icmp_le (tgt := 159) hx hb dX4_init_151 (by decide) (fun c_268 => ?_) (fun c_268 => ?_)
      · have hw := hw.1 c_268
        refine lv_iload_n hx hb dX4_init_159 rfl (lv_at hl 2 rfl) ?_
        refine va_putF (D := (dC, dI)) (ci := 4) (v := .int x2) (ty := .int) (C := RX4) (T := TX4) (N := 23) hx hb hT inX4 tyX4 tyX4_ok nmX4 hown hK hP hD hS 0 rfl rfl 2 (by decide) (hT _ k_178) (fun _ h9 => h9) rfl hin rfl (by decide +kernel) rfl rfl (Nat.le_of_ble_eq_true rfl) dX4_init_160 (fun H locs hP hD hS => ?_)
        have hP : va_P (dC, dI) vwCl ([(a0, .inr (4, [.int 0, .int 1, .int x2, .int 0, .ref q_1, .ref q_3, .ref q_5, .int 0, .ref q_7, .ref q_9, .ref q_11, .ref q_13, .int 0, .int 0, .ref q_15, .int 0, .int 0, .ref q_17, .ref q_19, .ref q_21, .int 0, .ref q_23, .ref q_25])), (q_1, .inl (cI, 8, .inl (fun _ => 0))), (q_3, .inl (cI, 8, .inl (fun _ => 0))), (q_5, .inl (cI, 8, .inl (fun _ => 0))), (q_7, .inl (cI, 1400, .inl (fun _ => 0))), (q_9, .inl (cI, 2800, .inl (fun _ => 0))), (q_11, .inl (cZ, 2800, .inl (fun _ => 0))), (q_13, .inl (cZ, 40000, .inl (fun _ => 0))), (q_15, .inl (cZ, 40000, .inl (fun _ => 0))), (q_17, .inl (cI, 8, .inl (fun _ => 0))), (q_19, .inl (cI, 8, .inl (fun _ => 0))), (q_21, .inl (cZ, 8, .inl (fun _ => 0))), (q_23, .inl (cI, 1400, .inl (fun _ => 0))), (q_25, .inl (cZ, 1400, .inl (fun _ => 0)))]) H := hP
        have hD : va_D A ([(a0, .inr (4, [.int 0, .int 1, .int x2, .int 0, .ref q_1, .ref q_3, .ref q_5, .int 0, .ref q_7, .ref q_9, .ref q_11, .ref q_13, .int 0, .int 0, .ref q_15, .int 0, .int 0, .ref q_17, .ref q_19, .ref q_21, .int 0, .ref q_23, .ref q_25])), (q_1, .inl (cI, 8, .inl (fun _ => 0))), (q_3, .inl (cI, 8, .inl (fun _ => 0))), (q_5, .inl (cI, 8, .inl (fun _ => 0))), (q_7, .inl (cI, 1400, .inl (fun _ => 0))), (q_9, .inl (cI, 2800, .inl (fun _ => 0))), (q_11, .inl (cZ, 2800, .inl (fun _ => 0))), (q_13, .inl (cZ, 40000, .inl (fun _ => 0))), (q_15, .inl (cZ, 40000, .inl (fun _ => 0))), (q_17, .inl (cI, 8, .inl (fun _ => 0))), (q_19, .inl (cI, 8, .inl (fun _ => 0))), (q_21, .inl (cZ, 8, .inl (fun _ => 0))), (q_23, .inl (cI, 1400, .inl (fun _ => 0))), (q_25, .inl (cZ, 1400, .inl (fun _ => 0)))]) := hD
        refine lv_aload_n hx hb dX4_init_163 rfl (lv_at hl 0 rfl) ?_
        refine va_get (D := (dC, dI)) (ci := 4) (v := .int 1) (C := RX4) (T := TX4) (N := 23) hx hb hT inX4 hown hK hP 0 rfl rfl 1 (by decide) (hT _ k_177) (fun _ h9 => h9) rfl dX4_init_164 ?_
        refine lv_istore_n (lv' := [(3, .int 1), (0, .ref a0), (1, .int x1), (2, .int x2)]) hx hb dX4_init_167 rfl hl (by decide) rfl (fun ls hl => ?_)
        refine lv_aload_n hx hb dX4_init_168 rfl (lv_at hl 1 rfl) ?_
        refine va_get (D := (dC, dI)) (ci := 4) (v := .int x2) (C := RX4) (T := TX4) (N := 23) hx hb hT inX4 hown hK hP 0 rfl rfl 2 (by decide) (hT _ k_178) (fun _ h9 => h9) rfl dX4_init_169 ?_
        refine lv_istore (lv' := [(4, .int x2), (3, .int 1), (0, .ref a0), (1, .int x1), (2, .int x2)]) hx hb dX4_init_172 hl (by decide) rfl (fun ls hl => ?_)
        refine lv_iconst (v := 1) hx hb dX4_init_174 (by decide) ?_
        refine lv_istore (lv' := [(5, .int 1), (4, .int x2), (3, .int 1), (0, .ref a0), (1, .int x1), (2, .int x2)]) hx hb dX4_init_175 hl (by decide) rfl (fun ls hl => ?_)
        obtain ⟨n_287, hw⟩ := hw
        obtain ⟨ex177_6, eex177_6⟩ : ∃ z : (Nat → Int32) → (Nat → Int32) → (Nat → Int32) → (Nat → Int32) → (Nat → Int32) → (Nat → Int32) → (Nat → Int32) → (Nat → Int32) → (Nat → Int32) → (Nat → Int32) → (Nat → Int32) → (Nat → Int32) → (Nat → Int32) → Int32 → Int32 → Int32 → Int32 → Int32 → Prop, z = (fun (ym_2_269 : (Nat → Int32)) (ym_4_270 : (Nat → Int32)) (ym_6_271 : (Nat → Int32)) (ym_8_272 : (Nat → Int32)) (ym_10_273 : (Nat → Int32)) (ym_12_274 : (Nat → Int32)) (ym_14_275 : (Nat → Int32)) (ym_16_276 : (Nat → Int32)) (ym_18_277 : (Nat → Int32)) (ym_20_278 : (Nat → Int32)) (ym_22_279 : (Nat → Int32)) (ym_24_280 : (Nat → Int32)) (ym_26_281 : (Nat → Int32)) (y_282 : Int32) (y_283 : Int32) (x5_284 : Int32) (x4_285 : Int32) (x3_286 : Int32) => post (((1, x2, y_282, y_283), ym_2_269, ym_4_270, ym_6_271), (0, ym_8_272, ym_10_273, ym_12_274, (ym_14_275, 0, 0), (ym_16_276, 0, 0), (ym_18_277, ym_20_278, ym_22_279, 0), ym_24_280, ym_26_281))) := ⟨_, rfl⟩
        rw [← eex177_6] at hw
        have hx177_6 : ∀ (ym_2_269 : (Nat → Int32)) (ym_4_270 : (Nat → Int32)) (ym_6_271 : (Nat → Int32)) (ym_8_272 : (Nat → Int32)) (ym_10_273 : (Nat → Int32)) (ym_12_274 : (Nat → Int32)) (ym_14_275 : (Nat → Int32)) (ym_16_276 : (Nat → Int32)) (ym_18_277 : (Nat → Int32)) (ym_20_278 : (Nat → Int32)) (ym_22_279 : (Nat → Int32)) (ym_24_280 : (Nat → Int32)) (ym_26_281 : (Nat → Int32)) (y_282 : Int32) (y_283 : Int32) (x5_284 : Int32) (x4_285 : Int32) (x3_286 : Int32), ex177_6 ym_2_269 ym_4_270 ym_6_271 ym_8_272 ym_10_273 ym_12_274 ym_14_275 ym_16_276 ym_18_277 ym_20_278 ym_22_279 ym_24_280 ym_26_281 y_282 y_283 x5_284 x4_285 x3_286 → ∀ (H : Heap) (locs : List Loc) (ls : Array Slot), va_P (dC, dI) vwCl ([(a0, .inr (4, [.int 0, .int 1, .int x2, .int y_282, .ref q_1, .ref q_3, .ref q_5, .int y_283, .ref q_7, .ref q_9, .ref q_11, .ref q_13, .int 0, .int 0, .ref q_15, .int 0, .int 0, .ref q_17, .ref q_19, .ref q_21, .int 0, .ref q_23, .ref q_25])), (q_1, .inl (cI, 8, .inl ym_2_269)), (q_3, .inl (cI, 8, .inl ym_4_270)), (q_5, .inl (cI, 8, .inl ym_6_271)), (q_7, .inl (cI, 1400, .inl ym_8_272)), (q_9, .inl (cI, 2800, .inl ym_10_273)), (q_11, .inl (cZ, 2800, .inl ym_12_274)), (q_13, .inl (cZ, 40000, .inl ym_14_275)), (q_15, .inl (cZ, 40000, .inl ym_16_276)), (q_17, .inl (cI, 8, .inl ym_18_277)), (q_19, .inl (cI, 8, .inl ym_20_278)), (q_21, .inl (cZ, 8, .inl ym_22_279)), (q_23, .inl (cI, 1400, .inl ym_24_280)), (q_25, .inl (cZ, 1400, .inl ym_26_281))]) H → va_D A ([(a0, .inr (4, [.int 0, .int 1, .int x2, .int y_282, .ref q_1, .ref q_3, .ref q_5, .int y_283, .ref q_7, .ref q_9, .ref q_11, .ref q_13, .int 0, .int 0, .ref q_15, .int 0, .int 0, .ref q_17, .ref q_19, .ref q_21, .int 0, .ref q_23, .ref q_25])), (q_1, .inl (cI, 8, .inl ym_2_269)), (q_3, .inl (cI, 8, .inl ym_4_270)), (q_5, .inl (cI, 8, .inl ym_6_271)), (q_7, .inl (cI, 1400, .inl ym_8_272)), (q_9, .inl (cI, 2800, .inl ym_10_273)), (q_11, .inl (cZ, 2800, .inl ym_12_274)), (q_13, .inl (cZ, 40000, .inl ym_14_275)), (q_15, .inl (cZ, 40000, .inl ym_16_276)), (q_17, .inl (cI, 8, .inl ym_18_277)), (q_19, .inl (cI, 8, .inl ym_20_278)), (q_21, .inl (cZ, 8, .inl ym_22_279)), (q_23, .inl (cI, 1400, .inl ym_24_280)), (q_25, .inl (cZ, 1400, .inl ym_26_281))]) → va_S A s.heap H locs → lv_has ls 6 [(5, .int x5_284), (4, .int x4_285), (3, .int x3_286), (0, .ref a0), (1, .int x1), (2, .int x2)] → W p l e (headSpec wsX4_init rm_X4_init).room s m args below meth c H locs 13 89848 (MQ below (va_Qv post (fun (u : vMS × vMM) t => ∃ (am : Nat → Nat), am 0 = a0 ∧ qB (dC, dI) (tysA cI cZ cJ cL) A (wMM cI cZ am u.1 u.2) t) A) args s 13 89848 A) (F0 m 274 ls []) := by
          intro ym_2_269 ym_4_270 ym_6_271 ym_8_272 ym_10_273 ym_12_274 ym_14_275 ym_16_276 ym_18_277 ym_20_278 ym_22_279 ym_24_280 ym_26_281 y_282 y_283 x5_284 x4_285 x3_286 hw H locs ls hP hD hS hl
          rw [eex177_6] at hw
          try dsimp only at hw
          have hP := hP.sub (ws' := (wMM cI cZ (fun i => ([a0, q_1, q_3, q_5, q_7, q_9, q_11, q_13, q_15, q_17, q_19, q_21, q_23, q_25] : List Nat).getD i 0) (((1, x2, y_282, y_283), ym_2_269, ym_4_270, ym_6_271), (0, ym_8_272, ym_10_273, ym_12_274, (ym_14_275, 0, 0), (ym_16_276, 0, 0), (ym_18_277, ym_20_278, ym_22_279, 0), ym_24_280, ym_26_281)).1 (((1, x2, y_282, y_283), ym_2_269, ym_4_270, ym_6_271), (0, ym_8_272, ym_10_273, ym_12_274, (ym_14_275, 0, 0), (ym_16_276, 0, 0), (ym_18_277, ym_20_278, ym_22_279, 0), ym_24_280, ym_26_281)).2)) [0, 1, 2, 3, 4, 5, 6, 7, 8, 9, 10, 11, 12, 13] rfl
          have hD := hD.sub (ws' := (wMM cI cZ (fun i => ([a0, q_1, q_3, q_5, q_7, q_9, q_11, q_13, q_15, q_17, q_19, q_21, q_23, q_25] : List Nat).getD i 0) (((1, x2, y_282, y_283), ym_2_269, ym_4_270, ym_6_271), (0, ym_8_272, ym_10_273, ym_12_274, (ym_14_275, 0, 0), (ym_16_276, 0, 0), (ym_18_277, ym_20_278, ym_22_279, 0), ym_24_280, ym_26_281)).1 (((1, x2, y_282, y_283), ym_2_269, ym_4_270, ym_6_271), (0, ym_8_272, ym_10_273, ym_12_274, (ym_14_275, 0, 0), (ym_16_276, 0, 0), (ym_18_277, ym_20_278, ym_22_279, 0), ym_24_280, ym_26_281)).2)) [0, 1, 2, 3, 4, 5, 6, 7, 8, 9, 10, 11, 12, 13] (by decide) rfl
          exact W.vret hx hb hr (fun t ht hW => ⟨⟨(((1, x2, y_282, y_283), ym_2_269, ym_4_270, ym_6_271), (0, ym_8_272, ym_10_273, ym_12_274, (ym_14_275, 0, 0), (ym_16_276, 0, 0), (ym_18_277, ym_20_278, ym_22_279, 0), ym_24_280, ym_26_281)), rfl, hw, (fun i => ([a0, q_1, q_3, q_5, q_7, q_9, q_11, q_13, q_15, q_17, q_19, q_21, q_23, q_25] : List Nat).getD i 0), rfl, by rw [ht]; exact hP, va_K.moved hW.alike hK, hD⟩, hS.F ht⟩) hS.2.2 dX4_init_274
        have hlp177_6 : ∀ (n_287 : Nat) (ym_2_269 : (Nat → Int32)) (ym_4_270 : (Nat → Int32)) (ym_6_271 : (Nat → Int32)) (ym_8_272 : (Nat → Int32)) (ym_10_273 : (Nat → Int32)) (ym_12_274 : (Nat → Int32)) (ym_14_275 : (Nat → Int32)) (ym_16_276 : (Nat → Int32)) (ym_18_277 : (Nat → Int32)) (ym_20_278 : (Nat → Int32)) (ym_22_279 : (Nat → Int32)) (ym_24_280 : (Nat → Int32)) (ym_26_281 : (Nat → Int32)) (y_282 : Int32) (y_283 : Int32) (x5_284 : Int32) (x4_285 : Int32) (x3_286 : Int32), wp_X4_init_L177_6 post ex177_6 x2 x1 n_287 ym_2_269 ym_4_270 ym_6_271 ym_8_272 ym_10_273 ym_12_274 ym_14_275 ym_16_276 ym_18_277 ym_20_278 ym_22_279 ym_24_280 ym_26_281 y_282 y_283 x5_284 x4_285 x3_286 → ∀ (H : Heap) (locs : List Loc) (ls : Array Slot), va_P (dC, dI) vwCl ([(a0, .inr (4, [.int 0, .int 1, .int x2, .int y_282, .ref q_1, .ref q_3, .ref q_5, .int y_283, .ref q_7, .ref q_9, .ref q_11, .ref q_13, .int 0, .int 0, .ref q_15, .int 0, .int 0, .ref q_17, .ref q_19, .ref q_21, .int 0, .ref q_23, .ref q_25])), (q_1, .inl (cI, 8, .inl ym_2_269)), (q_3, .inl (cI, 8, .inl ym_4_270)), (q_5, .inl (cI, 8, .inl ym_6_271)), (q_7, .inl (cI, 1400, .inl ym_8_272)), (q_9, .inl (cI, 2800, .inl ym_10_273)), (q_11, .inl (cZ, 2800, .inl ym_12_274)), (q_13, .inl (cZ, 40000, .inl ym_14_275)), (q_15, .inl (cZ, 40000, .inl ym_16_276)), (q_17, .inl (cI, 8, .inl ym_18_277)), (q_19, .inl (cI, 8, .inl ym_20_278)), (q_21, .inl (cZ, 8, .inl ym_22_279)), (q_23, .inl (cI, 1400, .inl ym_24_280)), (q_25, .inl (cZ, 1400, .inl ym_26_281))]) H → va_D A ([(a0, .inr (4, [.int 0, .int 1, .int x2, .int y_282, .ref q_1, .ref q_3, .ref q_5, .int y_283, .ref q_7, .ref q_9, .ref q_11, .ref q_13, .int 0, .int 0, .ref q_15, .int 0, .int 0, .ref q_17, .ref q_19, .ref q_21, .int 0, .ref q_23, .ref q_25])), (q_1, .inl (cI, 8, .inl ym_2_269)), (q_3, .inl (cI, 8, .inl ym_4_270)), (q_5, .inl (cI, 8, .inl ym_6_271)), (q_7, .inl (cI, 1400, .inl ym_8_272)), (q_9, .inl (cI, 2800, .inl ym_10_273)), (q_11, .inl (cZ, 2800, .inl ym_12_274)), (q_13, .inl (cZ, 40000, .inl ym_14_275)), (q_15, .inl (cZ, 40000, .inl ym_16_276)), (q_17, .inl (cI, 8, .inl ym_18_277)), (q_19, .inl (cI, 8, .inl ym_20_278)), (q_21, .inl (cZ, 8, .inl ym_22_279)), (q_23, .inl (cI, 1400, .inl ym_24_280)), (q_25, .inl (cZ, 1400, .inl ym_26_281))]) → va_S A s.heap H locs → lv_has ls 6 [(5, .int x5_284), (4, .int x4_285), (3, .int x3_286), (0, .ref a0), (1, .int x1), (2, .int x2)] → W p l e (headSpec wsX4_init rm_X4_init).room s m args below meth c H locs 13 89848 (MQ below (va_Qv post (fun (u : vMS × vMM) t => ∃ (am : Nat → Nat), am 0 = a0 ∧ qB (dC, dI) (tysA cI cZ cJ cL) A (wMM cI cZ am u.1 u.2) t) A) args s 13 89848 A) (F0 m 177 ls []) := by
          intro n_287
          induction n_287 with
          | zero => intro _ _ _ _ _ _ _ _ _ _ _ _ _ _ _ _ _ _ hw; exact hw.elim
          | succ n_287 ih177_6 =>
            intro ym_2_269 ym_4_270 ym_6_271 ym_8_272 ym_10_273 ym_12_274 ym_14_275 ym_16_276 ym_18_277 ym_20_278 ym_22_279 ym_24_280 ym_26_281 y_282 y_283 x5_284 x4_285 x3_286 hw H locs ls hP hD hS hl
            unfold wp_X4_init_L177_6 at hw
            refine lv_iload hx hb dX4_init_177 (lv_at hl 0 rfl) ?_
            refine lv_if_eq (tgt := 274) hx hb dX4_init_179 (by decide) (fun c_288 => ?_) (fun c_288 => ?_)
            · have hw := hw.1 c_288
              exact hx177_6 ym_2_269 ym_4_270 ym_6_271 ym_8_272 ym_10_273 ym_12_274 ym_14_275 ym_16_276 ym_18_277 ym_20_278 ym_22_279 ym_24_280 ym_26_281 y_282 y_283 x5_284 x4_285 x3_286 hw _ _ _ hP hD hS (lv_sub hl [0, 1, 2, 3, 4, 5] rfl)
            · have hw := hw.2 c_288
              refine lv_aload_n hx hb dX4_init_182 rfl (lv_at hl 3 rfl) ?_
              refine va_get (D := (dC, dI)) (ci := 4) (v := .ref q_1) (C := RX4) (T := TX4) (N := 23) hx hb hT inX4 hown hK hP 0 rfl rfl 4 (by decide) (hT _ k_162) (fun _ h9 => h9) rfl dX4_init_183 ?_
              refine lv_aload_n hx hb dX4_init_186 rfl (lv_at hl 3 rfl) ?_
              refine va_get (D := (dC, dI)) (ci := 4) (v := .int y_282) (C := RX4) (T := TX4) (N := 23) hx hb hT inX4 hown hK hP 0 rfl rfl 3 (by decide) (hT _ k_179) (fun _ h9 => h9) rfl dX4_init_187 ?_
              refine lv_aload_n hx hb dX4_init_190 rfl (lv_at hl 3 rfl) ?_
              refine va_get (D := (dC, dI)) (ci := 4) (v := .int y_283) (C := RX4) (T := TX4) (N := 23) hx hb hT inX4 hown hK hP 0 rfl rfl 7 (by decide) (hT _ k_180) (fun _ h9 => h9) rfl dX4_init_191 ?_
              obtain ⟨h_289, hw⟩ := hw
              refine va_iast hx hb hK hP hD hS 1 0 rfl rfl h_289 dX4_init_194 (fun H locs hP hD hS => ?_)
              have hP : va_P (dC, dI) vwCl ([(a0, .inr (4, [.int 0, .int 1, .int x2, .int y_282, .ref q_1, .ref q_3, .ref q_5, .int y_283, .ref q_7, .ref q_9, .ref q_11, .ref q_13, .int 0, .int 0, .ref q_15, .int 0, .int 0, .ref q_17, .ref q_19, .ref q_21, .int 0, .ref q_23, .ref q_25])), (q_1, .inl (cI, 8, .inl (upd ym_2_269 y_282.toNatClampNeg y_283))), (q_3, .inl (cI, 8, .inl ym_4_270)), (q_5, .inl (cI, 8, .inl ym_6_271)), (q_7, .inl (cI, 1400, .inl ym_8_272)), (q_9, .inl (cI, 2800, .inl ym_10_273)), (q_11, .inl (cZ, 2800, .inl ym_12_274)), (q_13, .inl (cZ, 40000, .inl ym_14_275)), (q_15, .inl (cZ, 40000, .inl ym_16_276)), (q_17, .inl (cI, 8, .inl ym_18_277)), (q_19, .inl (cI, 8, .inl ym_20_278)), (q_21, .inl (cZ, 8, .inl ym_22_279)), (q_23, .inl (cI, 1400, .inl ym_24_280)), (q_25, .inl (cZ, 1400, .inl ym_26_281))]) H := hP
              have hD : va_D A ([(a0, .inr (4, [.int 0, .int 1, .int x2, .int y_282, .ref q_1, .ref q_3, .ref q_5, .int y_283, .ref q_7, .ref q_9, .ref q_11, .ref q_13, .int 0, .int 0, .ref q_15, .int 0, .int 0, .ref q_17, .ref q_19, .ref q_21, .int 0, .ref q_23, .ref q_25])), (q_1, .inl (cI, 8, .inl (upd ym_2_269 y_282.toNatClampNeg y_283))), (q_3, .inl (cI, 8, .inl ym_4_270)), (q_5, .inl (cI, 8, .inl ym_6_271)), (q_7, .inl (cI, 1400, .inl ym_8_272)), (q_9, .inl (cI, 2800, .inl ym_10_273)), (q_11, .inl (cZ, 2800, .inl ym_12_274)), (q_13, .inl (cZ, 40000, .inl ym_14_275)), (q_15, .inl (cZ, 40000, .inl ym_16_276)), (q_17, .inl (cI, 8, .inl ym_18_277)), (q_19, .inl (cI, 8, .inl ym_20_278)), (q_21, .inl (cZ, 8, .inl ym_22_279)), (q_23, .inl (cI, 1400, .inl ym_24_280)), (q_25, .inl (cZ, 1400, .inl ym_26_281))]) := hD
              refine lv_aload_n hx hb dX4_init_195 rfl (lv_at hl 3 rfl) ?_
              refine va_get (D := (dC, dI)) (ci := 4) (v := .ref q_3) (C := RX4) (T := TX4) (N := 23) hx hb hT inX4 hown hK hP 0 rfl rfl 5 (by decide) (hT _ k_163) (fun _ h9 => h9) rfl dX4_init_196 ?_
              refine lv_aload_n hx hb dX4_init_199 rfl (lv_at hl 3 rfl) ?_
              refine va_get (D := (dC, dI)) (ci := 4) (v := .int y_282) (C := RX4) (T := TX4) (N := 23) hx hb hT inX4 hown hK hP 0 rfl rfl 3 (by decide) (hT _ k_179) (fun _ h9 => h9) rfl dX4_init_200 ?_
              refine lv_iload_n hx hb dX4_init_203 rfl (lv_at hl 2 rfl) ?_
              obtain ⟨h_290, hw⟩ := hw
              refine va_iast hx hb hK hP hD hS 2 0 rfl rfl h_290 dX4_init_204 (fun H locs hP hD hS => ?_)
              have hP : va_P (dC, dI) vwCl ([(a0, .inr (4, [.int 0, .int 1, .int x2, .int y_282, .ref q_1, .ref q_3, .ref q_5, .int y_283, .ref q_7, .ref q_9, .ref q_11, .ref q_13, .int 0, .int 0, .ref q_15, .int 0, .int 0, .ref q_17, .ref q_19, .ref q_21, .int 0, .ref q_23, .ref q_25])), (q_1, .inl (cI, 8, .inl (upd ym_2_269 y_282.toNatClampNeg y_283))), (q_3, .inl (cI, 8, .inl (upd ym_4_270 y_282.toNatClampNeg x3_286))), (q_5, .inl (cI, 8, .inl ym_6_271)), (q_7, .inl (cI, 1400, .inl ym_8_272)), (q_9, .inl (cI, 2800, .inl ym_10_273)), (q_11, .inl (cZ, 2800, .inl ym_12_274)), (q_13, .inl (cZ, 40000, .inl ym_14_275)), (q_15, .inl (cZ, 40000, .inl ym_16_276)), (q_17, .inl (cI, 8, .inl ym_18_277)), (q_19, .inl (cI, 8, .inl ym_20_278)), (q_21, .inl (cZ, 8, .inl ym_22_279)), (q_23, .inl (cI, 1400, .inl ym_24_280)), (q_25, .inl (cZ, 1400, .inl ym_26_281))]) H := hP
              have hD : va_D A ([(a0, .inr (4, [.int 0, .int 1, .int x2, .int y_282, .ref q_1, .ref q_3, .ref q_5, .int y_283, .ref q_7, .ref q_9, .ref q_11, .ref q_13, .int 0, .int 0, .ref q_15, .int 0, .int 0, .ref q_17, .ref q_19, .ref q_21, .int 0, .ref q_23, .ref q_25])), (q_1, .inl (cI, 8, .inl (upd ym_2_269 y_282.toNatClampNeg y_283))), (q_3, .inl (cI, 8, .inl (upd ym_4_270 y_282.toNatClampNeg x3_286))), (q_5, .inl (cI, 8, .inl ym_6_271)), (q_7, .inl (cI, 1400, .inl ym_8_272)), (q_9, .inl (cI, 2800, .inl ym_10_273)), (q_11, .inl (cZ, 2800, .inl ym_12_274)), (q_13, .inl (cZ, 40000, .inl ym_14_275)), (q_15, .inl (cZ, 40000, .inl ym_16_276)), (q_17, .inl (cI, 8, .inl ym_18_277)), (q_19, .inl (cI, 8, .inl ym_20_278)), (q_21, .inl (cZ, 8, .inl ym_22_279)), (q_23, .inl (cI, 1400, .inl ym_24_280)), (q_25, .inl (cZ, 1400, .inl ym_26_281))]) := hD
              refine lv_aload_n hx hb dX4_init_205 rfl (lv_at hl 3 rfl) ?_
              refine va_get (D := (dC, dI)) (ci := 4) (v := .ref q_5) (C := RX4) (T := TX4) (N := 23) hx hb hT inX4 hown hK hP 0 rfl rfl 6 (by decide) (hT _ k_164) (fun _ h9 => h9) rfl dX4_init_206 ?_
              refine lv_aload_n hx hb dX4_init_209 rfl (lv_at hl 3 rfl) ?_
              refine va_get (D := (dC, dI)) (ci := 4) (v := .int y_282) (C := RX4) (T := TX4) (N := 23) hx hb hT inX4 hown hK hP 0 rfl rfl 3 (by decide) (hT _ k_179) (fun _ h9 => h9) rfl dX4_init_210 ?_
              refine lv_iload hx hb dX4_init_213 (lv_at hl 1 rfl) ?_
              obtain ⟨h_291, hw⟩ := hw
              refine va_iast hx hb hK hP hD hS 3 0 rfl rfl h_291 dX4_init_215 (fun H locs hP hD hS => ?_)
              have hP : va_P (dC, dI) vwCl ([(a0, .inr (4, [.int 0, .int 1, .int x2, .int y_282, .ref q_1, .ref q_3, .ref q_5, .int y_283, .ref q_7, .ref q_9, .ref q_11, .ref q_13, .int 0, .int 0, .ref q_15, .int 0, .int 0, .ref q_17, .ref q_19, .ref q_21, .int 0, .ref q_23, .ref q_25])), (q_1, .inl (cI, 8, .inl (upd ym_2_269 y_282.toNatClampNeg y_283))), (q_3, .inl (cI, 8, .inl (upd ym_4_270 y_282.toNatClampNeg x3_286))), (q_5, .inl (cI, 8, .inl (upd ym_6_271 y_282.toNatClampNeg x4_285))), (q_7, .inl (cI, 1400, .inl ym_8_272)), (q_9, .inl (cI, 2800, .inl ym_10_273)), (q_11, .inl (cZ, 2800, .inl ym_12_274)), (q_13, .inl (cZ, 40000, .inl ym_14_275)), (q_15, .inl (cZ, 40000, .inl ym_16_276)), (q_17, .inl (cI, 8, .inl ym_18_277)), (q_19, .inl (cI, 8, .inl ym_20_278)), (q_21, .inl (cZ, 8, .inl ym_22_279)), (q_23, .inl (cI, 1400, .inl ym_24_280)), (q_25, .inl (cZ, 1400, .inl ym_26_281))]) H := hP
              have hD : va_D A ([(a0, .inr (4, [.int 0, .int 1, .int x2, .int y_282, .ref q_1, .ref q_3, .ref q_5, .int y_283, .ref q_7, .ref q_9, .ref q_11, .ref q_13, .int 0, .int 0, .ref q_15, .int 0, .int 0, .ref q_17, .ref q_19, .ref q_21, .int 0, .ref q_23, .ref q_25])), (q_1, .inl (cI, 8, .inl (upd ym_2_269 y_282.toNatClampNeg y_283))), (q_3, .inl (cI, 8, .inl (upd ym_4_270 y_282.toNatClampNeg x3_286))), (q_5, .inl (cI, 8, .inl (upd ym_6_271 y_282.toNatClampNeg x4_285))), (q_7, .inl (cI, 1400, .inl ym_8_272)), (q_9, .inl (cI, 2800, .inl ym_10_273)), (q_11, .inl (cZ, 2800, .inl ym_12_274)), (q_13, .inl (cZ, 40000, .inl ym_14_275)), (q_15, .inl (cZ, 40000, .inl ym_16_276)), (q_17, .inl (cI, 8, .inl ym_18_277)), (q_19, .inl (cI, 8, .inl ym_20_278)), (q_21, .inl (cZ, 8, .inl ym_22_279)), (q_23, .inl (cI, 1400, .inl ym_24_280)), (q_25, .inl (cZ, 1400, .inl ym_26_281))]) := hD
              refine lv_aload_n hx hb dX4_init_216 rfl (lv_at hl 3 rfl) ?_
              refine lv_dup hx hb dX4_init_217 rfl ?_
              refine va_get (D := (dC, dI)) (ci := 4) (v := .int y_283) (C := RX4) (T := TX4) (N := 23) hx hb hT inX4 hown hK hP 0 rfl rfl 7 (by decide) (hT _ k_180) (fun _ h9 => h9) rfl dX4_init_218 ?_
              refine lv_iload_n hx hb dX4_init_221 rfl (lv_at hl 2 rfl) ?_
              refine lv_iload hx hb dX4_init_222 (lv_at hl 1 rfl) ?_
              refine lv_imul hx hb dX4_init_224 ?_
              refine lv_iadd hx hb dX4_init_225 ?_
              refine lv_topi (fun f_292 ef_292 => ?_)
              have hw := hw f_292 ef_292
              refine va_put (D := (dC, dI)) (ci := 4) (v := .int f_292) (ty := .int) (C := RX4) (T := TX4) (N := 23) hx hb hT inX4 tyX4 tyX4_ok nmX4 hown hK hP hD hS 0 rfl rfl 7 (by decide) (hT _ k_180) (fun _ h9 => h9) rfl (by decide +kernel) rfl rfl (Nat.le_of_ble_eq_true rfl) dX4_init_226 (fun H locs hP hD hS => ?_)
              have hP : va_P (dC, dI) vwCl ([(a0, .inr (4, [.int 0, .int 1, .int x2, .int y_282, .ref q_1, .ref q_3, .ref q_5, .int f_292, .ref q_7, .ref q_9, .ref q_11, .ref q_13, .int 0, .int 0, .ref q_15, .int 0, .int 0, .ref q_17, .ref q_19, .ref q_21, .int 0, .ref q_23, .ref q_25])), (q_1, .inl (cI, 8, .inl (upd ym_2_269 y_282.toNatClampNeg y_283))), (q_3, .inl (cI, 8, .inl (upd ym_4_270 y_282.toNatClampNeg x3_286))), (q_5, .inl (cI, 8, .inl (upd ym_6_271 y_282.toNatClampNeg x4_285))), (q_7, .inl (cI, 1400, .inl ym_8_272)), (q_9, .inl (cI, 2800, .inl ym_10_273)), (q_11, .inl (cZ, 2800, .inl ym_12_274)), (q_13, .inl (cZ, 40000, .inl ym_14_275)), (q_15, .inl (cZ, 40000, .inl ym_16_276)), (q_17, .inl (cI, 8, .inl ym_18_277)), (q_19, .inl (cI, 8, .inl ym_20_278)), (q_21, .inl (cZ, 8, .inl ym_22_279)), (q_23, .inl (cI, 1400, .inl ym_24_280)), (q_25, .inl (cZ, 1400, .inl ym_26_281))]) H := hP
              have hD : va_D A ([(a0, .inr (4, [.int 0, .int 1, .int x2, .int y_282, .ref q_1, .ref q_3, .ref q_5, .int f_292, .ref q_7, .ref q_9, .ref q_11, .ref q_13, .int 0, .int 0, .ref q_15, .int 0, .int 0, .ref q_17, .ref q_19, .ref q_21, .int 0, .ref q_23, .ref q_25])), (q_1, .inl (cI, 8, .inl (upd ym_2_269 y_282.toNatClampNeg y_283))), (q_3, .inl (cI, 8, .inl (upd ym_4_270 y_282.toNatClampNeg x3_286))), (q_5, .inl (cI, 8, .inl (upd ym_6_271 y_282.toNatClampNeg x4_285))), (q_7, .inl (cI, 1400, .inl ym_8_272)), (q_9, .inl (cI, 2800, .inl ym_10_273)), (q_11, .inl (cZ, 2800, .inl ym_12_274)), (q_13, .inl (cZ, 40000, .inl ym_14_275)), (q_15, .inl (cZ, 40000, .inl ym_16_276)), (q_17, .inl (cI, 8, .inl ym_18_277)), (q_19, .inl (cI, 8, .inl ym_20_278)), (q_21, .inl (cZ, 8, .inl ym_22_279)), (q_23, .inl (cI, 1400, .inl ym_24_280)), (q_25, .inl (cZ, 1400, .inl ym_26_281))]) := hD
              refine lv_aload_n hx hb dX4_init_229 rfl (lv_at hl 3 rfl) ?_
              refine lv_dup hx hb dX4_init_230 rfl ?_
              refine va_get (D := (dC, dI)) (ci := 4) (v := .int y_282) (C := RX4) (T := TX4) (N := 23) hx hb hT inX4 hown hK hP 0 rfl rfl 3 (by decide) (hT _ k_179) (fun _ h9 => h9) rfl dX4_init_231 ?_
              refine lv_iconst (v := 1) hx hb dX4_init_234 (by decide) ?_
              refine lv_iadd hx hb dX4_init_235 ?_
              refine lv_topi (fun f_293 ef_293 => ?_)
              have hw := hw f_293 ef_293
              refine va_put (D := (dC, dI)) (ci := 4) (v := .int f_293) (ty := .int) (C := RX4) (T := TX4) (N := 23) hx hb hT inX4 tyX4 tyX4_ok nmX4 hown hK hP hD hS 0 rfl rfl 3 (by decide) (hT _ k_179) (fun _ h9 => h9) rfl (by decide +kernel) rfl rfl (Nat.le_of_ble_eq_true rfl) dX4_init_236 (fun H locs hP hD hS => ?_)
              have hP : va_P (dC, dI) vwCl ([(a0, .inr (4, [.int 0, .int 1, .int x2, .int f_293, .ref q_1, .ref q_3, .ref q_5, .int f_292, .ref q_7, .ref q_9, .ref q_11, .ref q_13, .int 0, .int 0, .ref q_15, .int 0, .int 0, .ref q_17, .ref q_19, .ref q_21, .int 0, .ref q_23, .ref q_25])), (q_1, .inl (cI, 8, .inl (upd ym_2_269 y_282.toNatClampNeg y_283))), (q_3, .inl (cI, 8, .inl (upd ym_4_270 y_282.toNatClampNeg x3_286))), (q_5, .inl (cI, 8, .inl (upd ym_6_271 y_282.toNatClampNeg x4_285))), (q_7, .inl (cI, 1400, .inl ym_8_272)), (q_9, .inl (cI, 2800, .inl ym_10_273)), (q_11, .inl (cZ, 2800, .inl ym_12_274)), (q_13, .inl (cZ, 40000, .inl ym_14_275)), (q_15, .inl (cZ, 40000, .inl ym_16_276)), (q_17, .inl (cI, 8, .inl ym_18_277)), (q_19, .inl (cI, 8, .inl ym_20_278)), (q_21, .inl (cZ, 8, .inl ym_22_279)), (q_23, .inl (cI, 1400, .inl ym_24_280)), (q_25, .inl (cZ, 1400, .inl ym_26_281))]) H := hP
              have hD : va_D A ([(a0, .inr (4, [.int 0, .int 1, .int x2, .int f_293, .ref q_1, .ref q_3, .ref q_5, .int f_292, .ref q_7, .ref q_9, .ref q_11, .ref q_13, .int 0, .int 0, .ref q_15, .int 0, .int 0, .ref q_17, .ref q_19, .ref q_21, .int 0, .ref q_23, .ref q_25])), (q_1, .inl (cI, 8, .inl (upd ym_2_269 y_282.toNatClampNeg y_283))), (q_3, .inl (cI, 8, .inl (upd ym_4_270 y_282.toNatClampNeg x3_286))), (q_5, .inl (cI, 8, .inl (upd ym_6_271 y_282.toNatClampNeg x4_285))), (q_7, .inl (cI, 1400, .inl ym_8_272)), (q_9, .inl (cI, 2800, .inl ym_10_273)), (q_11, .inl (cZ, 2800, .inl ym_12_274)), (q_13, .inl (cZ, 40000, .inl ym_14_275)), (q_15, .inl (cZ, 40000, .inl ym_16_276)), (q_17, .inl (cI, 8, .inl ym_18_277)), (q_19, .inl (cI, 8, .inl ym_20_278)), (q_21, .inl (cZ, 8, .inl ym_22_279)), (q_23, .inl (cI, 1400, .inl ym_24_280)), (q_25, .inl (cZ, 1400, .inl ym_26_281))]) := hD
              refine lv_iload_n hx hb dX4_init_239 rfl (lv_at hl 2 rfl) ?_
              refine lv_iconst (v := 1) hx hb dX4_init_240 (by decide) ?_
              refine lv_icmp_gt (tgt := 250) hx hb dX4_init_241 (by decide) (fun c_294 => ?_) (fun c_294 => ?_)
              · have hw := hw.1 c_294
                refine lv_iconst (v := 1) hx hb dX4_init_250 (by decide) ?_
                refine lv_goto (tgt := 255) hx hb dX4_init_251 (by decide) ?_
                refine lv_istore (lv' := [(5, .int 1), (4, .int x4_285), (3, .int x3_286), (0, .ref a0), (1, .int x1), (2, .int x2)]) hx hb dX4_init_255 hl (by decide) rfl (fun ls hl => ?_)
                refine lv_iload_n hx hb dX4_init_257 rfl (lv_at hl 2 rfl) ?_
                refine lv_iconst (v := 1) hx hb dX4_init_258 (by decide) ?_
                refine lv_iadd hx hb dX4_init_259 ?_
                refine lv_iconst (v := 2) hx hb dX4_init_260 (by decide) ?_
                obtain ⟨h_295, hw⟩ := hw
                refine lv_idiv hx hb dX4_init_261 h_295 ?_
                refine lv_topi (fun x3_296 ex3_296 => ?_)
                have hw := hw x3_296 ex3_296
                refine lv_istore_n (lv' := [(3, .int x3_296), (5, .int 1), (4, .int x4_285), (0, .ref a0), (1, .int x1), (2, .int x2)]) hx hb dX4_init_262 rfl hl (by decide) rfl (fun ls hl => ?_)
                refine lv_iload hx hb dX4_init_263 (lv_at hl 2 rfl) ?_
                refine lv_iconst (v := 1) hx hb dX4_init_265 (by decide) ?_
                refine lv_iadd hx hb dX4_init_266 ?_
                refine lv_iconst (v := 2) hx hb dX4_init_267 (by decide) ?_
                obtain ⟨h_297, hw⟩ := hw
                refine lv_idiv hx hb dX4_init_268 h_297 ?_
                refine lv_topi (fun x4_298 ex4_298 => ?_)
                have hw := hw x4_298 ex4_298
                refine lv_istore (lv' := [(4, .int x4_298), (3, .int x3_296), (5, .int 1), (0, .ref a0), (1, .int x1), (2, .int x2)]) hx hb dX4_init_269 hl (by decide) rfl (fun ls hl => ?_)
                refine lv_goto (tgt := 177) hx hb dX4_init_271 (by decide) ?_
                exact ih177_6 (upd ym_2_269 y_282.toNatClampNeg y_283) (upd ym_4_270 y_282.toNatClampNeg x3_286) (upd ym_6_271 y_282.toNatClampNeg x4_285) ym_8_272 ym_10_273 ym_12_274 ym_14_275 ym_16_276 ym_18_277 ym_20_278 ym_22_279 ym_24_280 ym_26_281 f_293 f_292 1 x4_298 x3_296 hw _ _ _ hP hD hS (lv_sub hl [2, 0, 1, 3, 4, 5] rfl)
              · have hw := hw.2 c_294
                refine lv_iload hx hb dX4_init_244 (lv_at hl 1 rfl) ?_
                refine lv_iconst (v := 1) hx hb dX4_init_246 (by decide) ?_
                refine lv_icmp_le (tgt := 254) hx hb dX4_init_247 (by decide) (fun c_299 => ?_) (fun c_299 => ?_)
                · have hw := hw.1 c_299
                  refine lv_iconst (v := 0) hx hb dX4_init_254 (by decide) ?_
                  refine lv_istore (lv' := [(5, .int 0), (4, .int x4_285), (3, .int x3_286), (0, .ref a0), (1, .int x1), (2, .int x2)]) hx hb dX4_init_255 hl (by decide) rfl (fun ls hl => ?_)
                  refine lv_iload_n hx hb dX4_init_257 rfl (lv_at hl 2 rfl) ?_
                  refine lv_iconst (v := 1) hx hb dX4_init_258 (by decide) ?_
                  refine lv_iadd hx hb dX4_init_259 ?_
                  refine lv_iconst (v := 2) hx hb dX4_init_260 (by decide) ?_
                  obtain ⟨h_300, hw⟩ := hw
                  refine lv_idiv hx hb dX4_init_261 h_300 ?_
                  refine lv_topi (fun x3_301 ex3_301 => ?_)
                  have hw := hw x3_301 ex3_301
                  refine lv_istore_n (lv' := [(3, .int x3_301), (5, .int 0), (4, .int x4_285), (0, .ref a0), (1, .int x1), (2, .int x2)]) hx hb dX4_init_262 rfl hl (by decide) rfl (fun ls hl => ?_)
                  refine lv_iload hx hb dX4_init_263 (lv_at hl 2 rfl) ?_
                  refine lv_iconst (v := 1) hx hb dX4_init_265 (by decide) ?_
                  refine lv_iadd hx hb dX4_init_266 ?_
                  refine lv_iconst (v := 2) hx hb dX4_init_267 (by decide) ?_
                  obtain ⟨h_302, hw⟩ := hw
                  refine lv_idiv hx hb dX4_init_268 h_302 ?_
                  refine lv_topi (fun x4_303 ex4_303 => ?_)
                  have hw := hw x4_303 ex4_303
                  refine lv_istore (lv' := [(4, .int x4_303), (3, .int x3_301), (5, .int 0), (0, .ref a0), (1, .int x1), (2, .int x2)]) hx hb dX4_init_269 hl (by decide) rfl (fun ls hl => ?_)
                  refine lv_goto (tgt := 177) hx hb dX4_init_271 (by decide) ?_
                  exact ih177_6 (upd ym_2_269 y_282.toNatClampNeg y_283) (upd ym_4_270 y_282.toNatClampNeg x3_286) (upd ym_6_271 y_282.toNatClampNeg x4_285) ym_8_272 ym_10_273 ym_12_274 ym_14_275 ym_16_276 ym_18_277 ym_20_278 ym_22_279 ym_24_280 ym_26_281 f_293 f_292 0 x4_303 x3_301 hw _ _ _ hP hD hS (lv_sub hl [2, 0, 1, 3, 4, 5] rfl)
                · have hw := hw.2 c_299
                  refine lv_iconst (v := 1) hx hb dX4_init_250 (by decide) ?_
                  refine lv_goto (tgt := 255) hx hb dX4_init_251 (by decide) ?_
                  refine lv_istore (lv' := [(5, .int 1), (4, .int x4_285), (3, .int x3_286), (0, .ref a0), (1, .int x1), (2, .int x2)]) hx hb dX4_init_255 hl (by decide) rfl (fun ls hl => ?_)
                  refine lv_iload_n hx hb dX4_init_257 rfl (lv_at hl 2 rfl) ?_
                  refine lv_iconst (v := 1) hx hb dX4_init_258 (by decide) ?_
                  refine lv_iadd hx hb dX4_init_259 ?_
                  refine lv_iconst (v := 2) hx hb dX4_init_260 (by decide) ?_
                  obtain ⟨h_304, hw⟩ := hw
                  refine lv_idiv hx hb dX4_init_261 h_304 ?_
                  refine lv_topi (fun x3_305 ex3_305 => ?_)
                  have hw := hw x3_305 ex3_305
                  refine lv_istore_n (lv' := [(3, .int x3_305), (5, .int 1), (4, .int x4_285), (0, .ref a0), (1, .int x1), (2, .int x2)]) hx hb dX4_init_262 rfl hl (by decide) rfl (fun ls hl => ?_)
                  refine lv_iload hx hb dX4_init_263 (lv_at hl 2 rfl) ?_
                  refine lv_iconst (v := 1) hx hb dX4_init_265 (by decide) ?_
                  refine lv_iadd hx hb dX4_init_266 ?_
                  refine lv_iconst (v := 2) hx hb dX4_init_267 (by decide) ?_
                  obtain ⟨h_306, hw⟩ := hw
                  refine lv_idiv hx hb dX4_init_268 h_306 ?_
                  refine lv_topi (fun x4_307 ex4_307 => ?_)
                  have hw := hw x4_307 ex4_307
                  refine lv_istore (lv' := [(4, .int x4_307), (3, .int x3_305), (5, .int 1), (0, .ref a0), (1, .int x1), (2, .int x2)]) hx hb dX4_init_269 hl (by decide) rfl (fun ls hl => ?_)
                  refine lv_goto (tgt := 177) hx hb dX4_init_271 (by decide) ?_
                  exact ih177_6 (upd ym_2_269 y_282.toNatClampNeg y_283) (upd ym_4_270 y_282.toNatClampNeg x3_286) (upd ym_6_271 y_282.toNatClampNeg x4_285) ym_8_272 ym_10_273 ym_12_274 ym_14_275 ym_16_276 ym_18_277 ym_20_278 ym_22_279 ym_24_280 ym_26_281 f_293 f_292 1 x4_307 x3_305 hw _ _ _ hP hD hS (lv_sub hl [2, 0, 1, 3, 4, 5] rfl)
        exact hlp177_6 n_287 (fun _ => 0) (fun _ => 0) (fun _ => 0) (fun _ => 0) (fun _ => 0) (fun _ => 0) (fun _ => 0) (fun _ => 0) (fun _ => 0) (fun _ => 0) (fun _ => 0) (fun _ => 0) (fun _ => 0) 0 0 1 x2 1 hw _ _ _ hP hD hS (lv_sub hl [0, 1, 2, 3, 4, 5] rfl)
      · have hw := hw.2 c_268
        refine lv_bipush (v := 32) hx hb dX4_init_154 (by decide) ?_
        refine lv_goto (tgt := 160) hx hb dX4_init_156 (by decide) ?_
        refine va_putF (D := (dC, dI)) (ci := 4) (v := .int 32) (ty := .int) (C := RX4) (T := TX4) (N := 23) hx hb hT inX4 tyX4 tyX4_ok nmX4 hown hK hP hD hS 0 rfl rfl 2 (by decide) (hT _ k_178) (fun _ h9 => h9) rfl hin rfl (by decide +kernel) rfl rfl (Nat.le_of_ble_eq_true rfl) dX4_init_160 (fun H locs hP hD hS => ?_)
        have hP : va_P (dC, dI) vwCl ([(a0, .inr (4, [.int 0, .int 1, .int 32, .int 0, .ref q_1, .ref q_3, .ref q_5, .int 0, .ref q_7, .ref q_9, .ref q_11, .ref q_13, .int 0, .int 0, .ref q_15, .int 0, .int 0, .ref q_17, .ref q_19, .ref q_21, .int 0, .ref q_23, .ref q_25])), (q_1, .inl (cI, 8, .inl (fun _ => 0))), (q_3, .inl (cI, 8, .inl (fun _ => 0))), (q_5, .inl (cI, 8, .inl (fun _ => 0))), (q_7, .inl (cI, 1400, .inl (fun _ => 0))), (q_9, .inl (cI, 2800, .inl (fun _ => 0))), (q_11, .inl (cZ, 2800, .inl (fun _ => 0))), (q_13, .inl (cZ, 40000, .inl (fun _ => 0))), (q_15, .inl (cZ, 40000, .inl (fun _ => 0))), (q_17, .inl (cI, 8, .inl (fun _ => 0))), (q_19, .inl (cI, 8, .inl (fun _ => 0))), (q_21, .inl (cZ, 8, .inl (fun _ => 0))), (q_23, .inl (cI, 1400, .inl (fun _ => 0))), (q_25, .inl (cZ, 1400, .inl (fun _ => 0)))]) H := hP
        have hD : va_D A ([(a0, .inr (4, [.int 0, .int 1, .int 32, .int 0, .ref q_1, .ref q_3, .ref q_5, .int 0, .ref q_7, .ref q_9, .ref q_11, .ref q_13, .int 0, .int 0, .ref q_15, .int 0, .int 0, .ref q_17, .ref q_19, .ref q_21, .int 0, .ref q_23, .ref q_25])), (q_1, .inl (cI, 8, .inl (fun _ => 0))), (q_3, .inl (cI, 8, .inl (fun _ => 0))), (q_5, .inl (cI, 8, .inl (fun _ => 0))), (q_7, .inl (cI, 1400, .inl (fun _ => 0))), (q_9, .inl (cI, 2800, .inl (fun _ => 0))), (q_11, .inl (cZ, 2800, .inl (fun _ => 0))), (q_13, .inl (cZ, 40000, .inl (fun _ => 0))), (q_15, .inl (cZ, 40000, .inl (fun _ => 0))), (q_17, .inl (cI, 8, .inl (fun _ => 0))), (q_19, .inl (cI, 8, .inl (fun _ => 0))), (q_21, .inl (cZ, 8, .inl (fun _ => 0))), (q_23, .inl (cI, 1400, .inl (fun _ => 0))), (q_25, .inl (cZ, 1400, .inl (fun _ => 0)))]) := hD
        refine lv_aload_n hx hb dX4_init_163 rfl (lv_at hl 0 rfl) ?_
        refine va_get (D := (dC, dI)) (ci := 4) (v := .int 1) (C := RX4) (T := TX4) (N := 23) hx hb hT inX4 hown hK hP 0 rfl rfl 1 (by decide) (hT _ k_177) (fun _ h9 => h9) rfl dX4_init_164 ?_
        refine lv_istore_n (lv' := [(3, .int 1), (0, .ref a0), (1, .int x1), (2, .int x2)]) hx hb dX4_init_167 rfl hl (by decide) rfl (fun ls hl => ?_)
        refine lv_aload_n hx hb dX4_init_168 rfl (lv_at hl 1 rfl) ?_
        refine va_get (D := (dC, dI)) (ci := 4) (v := .int 32) (C := RX4) (T := TX4) (N := 23) hx hb hT inX4 hown hK hP 0 rfl rfl 2 (by decide) (hT _ k_178) (fun _ h9 => h9) rfl dX4_init_169 ?_
        refine lv_istore (lv' := [(4, .int 32), (3, .int 1), (0, .ref a0), (1, .int x1), (2, .int x2)]) hx hb dX4_init_172 hl (by decide) rfl (fun ls hl => ?_)
        refine lv_iconst (v := 1) hx hb dX4_init_174 (by decide) ?_
        refine lv_istore (lv' := [(5, .int 1), (4, .int 32), (3, .int 1), (0, .ref a0), (1, .int x1), (2, .int x2)]) hx hb dX4_init_175 hl (by decide) rfl (fun ls hl => ?_)
        obtain ⟨n_326, hw⟩ := hw
        obtain ⟨ex177_7, eex177_7⟩ : ∃ z : (Nat → Int32) → (Nat → Int32) → (Nat → Int32) → (Nat → Int32) → (Nat → Int32) → (Nat → Int32) → (Nat → Int32) → (Nat → Int32) → (Nat → Int32) → (Nat → Int32) → (Nat → Int32) → (Nat → Int32) → (Nat → Int32) → Int32 → Int32 → Int32 → Int32 → Int32 → Prop, z = (fun (ym_2_308 : (Nat → Int32)) (ym_4_309 : (Nat → Int32)) (ym_6_310 : (Nat → Int32)) (ym_8_311 : (Nat → Int32)) (ym_10_312 : (Nat → Int32)) (ym_12_313 : (Nat → Int32)) (ym_14_314 : (Nat → Int32)) (ym_16_315 : (Nat → Int32)) (ym_18_316 : (Nat → Int32)) (ym_20_317 : (Nat → Int32)) (ym_22_318 : (Nat → Int32)) (ym_24_319 : (Nat → Int32)) (ym_26_320 : (Nat → Int32)) (y_321 : Int32) (y_322 : Int32) (x5_323 : Int32) (x4_324 : Int32) (x3_325 : Int32) => post (((1, 32, y_321, y_322), ym_2_308, ym_4_309, ym_6_310), (0, ym_8_311, ym_10_312, ym_12_313, (ym_14_314, 0, 0), (ym_16_315, 0, 0), (ym_18_316, ym_20_317, ym_22_318, 0), ym_24_319, ym_26_320))) := ⟨_, rfl⟩
        rw [← eex177_7] at hw
        have hx177_7 : ∀ (ym_2_308 : (Nat → Int32)) (ym_4_309 : (Nat → Int32)) (ym_6_310 : (Nat → Int32)) (ym_8_311 : (Nat → Int32)) (ym_10_312 : (Nat → Int32)) (ym_12_313 : (Nat → Int32)) (ym_14_314 : (Nat → Int32)) (ym_16_315 : (Nat → Int32)) (ym_18_316 : (Nat → Int32)) (ym_20_317 : (Nat → Int32)) (ym_22_318 : (Nat → Int32)) (ym_24_319 : (Nat → Int32)) (ym_26_320 : (Nat → Int32)) (y_321 : Int32) (y_322 : Int32) (x5_323 : Int32) (x4_324 : Int32) (x3_325 : Int32), ex177_7 ym_2_308 ym_4_309 ym_6_310 ym_8_311 ym_10_312 ym_12_313 ym_14_314 ym_16_315 ym_18_316 ym_20_317 ym_22_318 ym_24_319 ym_26_320 y_321 y_322 x5_323 x4_324 x3_325 → ∀ (H : Heap) (locs : List Loc) (ls : Array Slot), va_P (dC, dI) vwCl ([(a0, .inr (4, [.int 0, .int 1, .int 32, .int y_321, .ref q_1, .ref q_3, .ref q_5, .int y_322, .ref q_7, .ref q_9, .ref q_11, .ref q_13, .int 0, .int 0, .ref q_15, .int 0, .int 0, .ref q_17, .ref q_19, .ref q_21, .int 0, .ref q_23, .ref q_25])), (q_1, .inl (cI, 8, .inl ym_2_308)), (q_3, .inl (cI, 8, .inl ym_4_309)), (q_5, .inl (cI, 8, .inl ym_6_310)), (q_7, .inl (cI, 1400, .inl ym_8_311)), (q_9, .inl (cI, 2800, .inl ym_10_312)), (q_11, .inl (cZ, 2800, .inl ym_12_313)), (q_13, .inl (cZ, 40000, .inl ym_14_314)), (q_15, .inl (cZ, 40000, .inl ym_16_315)), (q_17, .inl (cI, 8, .inl ym_18_316)), (q_19, .inl (cI, 8, .inl ym_20_317)), (q_21, .inl (cZ, 8, .inl ym_22_318)), (q_23, .inl (cI, 1400, .inl ym_24_319)), (q_25, .inl (cZ, 1400, .inl ym_26_320))]) H → va_D A ([(a0, .inr (4, [.int 0, .int 1, .int 32, .int y_321, .ref q_1, .ref q_3, .ref q_5, .int y_322, .ref q_7, .ref q_9, .ref q_11, .ref q_13, .int 0, .int 0, .ref q_15, .int 0, .int 0, .ref q_17, .ref q_19, .ref q_21, .int 0, .ref q_23, .ref q_25])), (q_1, .inl (cI, 8, .inl ym_2_308)), (q_3, .inl (cI, 8, .inl ym_4_309)), (q_5, .inl (cI, 8, .inl ym_6_310)), (q_7, .inl (cI, 1400, .inl ym_8_311)), (q_9, .inl (cI, 2800, .inl ym_10_312)), (q_11, .inl (cZ, 2800, .inl ym_12_313)), (q_13, .inl (cZ, 40000, .inl ym_14_314)), (q_15, .inl (cZ, 40000, .inl ym_16_315)), (q_17, .inl (cI, 8, .inl ym_18_316)), (q_19, .inl (cI, 8, .inl ym_20_317)), (q_21, .inl (cZ, 8, .inl ym_22_318)), (q_23, .inl (cI, 1400, .inl ym_24_319)), (q_25, .inl (cZ, 1400, .inl ym_26_320))]) → va_S A s.heap H locs → lv_has ls 6 [(5, .int x5_323), (4, .int x4_324), (3, .int x3_325), (0, .ref a0), (1, .int x1), (2, .int x2)] → W p l e (headSpec wsX4_init rm_X4_init).room s m args below meth c H locs 13 89848 (MQ below (va_Qv post (fun (u : vMS × vMM) t => ∃ (am : Nat → Nat), am 0 = a0 ∧ qB (dC, dI) (tysA cI cZ cJ cL) A (wMM cI cZ am u.1 u.2) t) A) args s 13 89848 A) (F0 m 274 ls []) := by
          intro ym_2_308 ym_4_309 ym_6_310 ym_8_311 ym_10_312 ym_12_313 ym_14_314 ym_16_315 ym_18_316 ym_20_317 ym_22_318 ym_24_319 ym_26_320 y_321 y_322 x5_323 x4_324 x3_325 hw H locs ls hP hD hS hl
          rw [eex177_7] at hw
          try dsimp only at hw
          have hP := hP.sub (ws' := (wMM cI cZ (fun i => ([a0, q_1, q_3, q_5, q_7, q_9, q_11, q_13, q_15, q_17, q_19, q_21, q_23, q_25] : List Nat).getD i 0) (((1, 32, y_321, y_322), ym_2_308, ym_4_309, ym_6_310), (0, ym_8_311, ym_10_312, ym_12_313, (ym_14_314, 0, 0), (ym_16_315, 0, 0), (ym_18_316, ym_20_317, ym_22_318, 0), ym_24_319, ym_26_320)).1 (((1, 32, y_321, y_322), ym_2_308, ym_4_309, ym_6_310), (0, ym_8_311, ym_10_312, ym_12_313, (ym_14_314, 0, 0), (ym_16_315, 0, 0), (ym_18_316, ym_20_317, ym_22_318, 0), ym_24_319, ym_26_320)).2)) [0, 1, 2, 3, 4, 5, 6, 7, 8, 9, 10, 11, 12, 13] rfl
          have hD := hD.sub (ws' := (wMM cI cZ (fun i => ([a0, q_1, q_3, q_5, q_7, q_9, q_11, q_13, q_15, q_17, q_19, q_21, q_23, q_25] : List Nat).getD i 0) (((1, 32, y_321, y_322), ym_2_308, ym_4_309, ym_6_310), (0, ym_8_311, ym_10_312, ym_12_313, (ym_14_314, 0, 0), (ym_16_315, 0, 0), (ym_18_316, ym_20_317, ym_22_318, 0), ym_24_319, ym_26_320)).1 (((1, 32, y_321, y_322), ym_2_308, ym_4_309, ym_6_310), (0, ym_8_311, ym_10_312, ym_12_313, (ym_14_314, 0, 0), (ym_16_315, 0, 0), (ym_18_316, ym_20_317, ym_22_318, 0), ym_24_319, ym_26_320)).2)) [0, 1, 2, 3, 4, 5, 6, 7, 8, 9, 10, 11, 12, 13] (by decide) rfl
          exact W.vret hx hb hr (fun t ht hW => ⟨⟨(((1, 32, y_321, y_322), ym_2_308, ym_4_309, ym_6_310), (0, ym_8_311, ym_10_312, ym_12_313, (ym_14_314, 0, 0), (ym_16_315, 0, 0), (ym_18_316, ym_20_317, ym_22_318, 0), ym_24_319, ym_26_320)), rfl, hw, (fun i => ([a0, q_1, q_3, q_5, q_7, q_9, q_11, q_13, q_15, q_17, q_19, q_21, q_23, q_25] : List Nat).getD i 0), rfl, by rw [ht]; exact hP, va_K.moved hW.alike hK, hD⟩, hS.F ht⟩) hS.2.2 dX4_init_274
        have hlp177_7 : ∀ (n_326 : Nat) (ym_2_308 : (Nat → Int32)) (ym_4_309 : (Nat → Int32)) (ym_6_310 : (Nat → Int32)) (ym_8_311 : (Nat → Int32)) (ym_10_312 : (Nat → Int32)) (ym_12_313 : (Nat → Int32)) (ym_14_314 : (Nat → Int32)) (ym_16_315 : (Nat → Int32)) (ym_18_316 : (Nat → Int32)) (ym_20_317 : (Nat → Int32)) (ym_22_318 : (Nat → Int32)) (ym_24_319 : (Nat → Int32)) (ym_26_320 : (Nat → Int32)) (y_321 : Int32) (y_322 : Int32) (x5_323 : Int32) (x4_324 : Int32) (x3_325 : Int32), wp_X4_init_L177_7 post ex177_7 x1 x2 n_326 ym_2_308 ym_4_309 ym_6_310 ym_8_311 ym_10_312 ym_12_313 ym_14_314 ym_16_315 ym_18_316 ym_20_317 ym_22_318 ym_24_319 ym_26_320 y_321 y_322 x5_323 x4_324 x3_325 → ∀ (H : Heap) (locs : List Loc) (ls : Array Slot), va_P (dC, dI) vwCl ([(a0, .inr (4, [.int 0, .int 1, .int 32, .int y_321, .ref q_1, .ref q_3, .ref q_5, .int y_322, .ref q_7, .ref q_9, .ref q_11, .ref q_13, .int 0, .int 0, .ref q_15, .int 0, .int 0, .ref q_17, .ref q_19, .ref q_21, .int 0, .ref q_23, .ref q_25])), (q_1, .inl (cI, 8, .inl ym_2_308)), (q_3, .inl (cI, 8, .inl ym_4_309)), (q_5, .inl (cI, 8, .inl ym_6_310)), (q_7, .inl (cI, 1400, .inl ym_8_311)), (q_9, .inl (cI, 2800, .inl ym_10_312)), (q_11, .inl (cZ, 2800, .inl ym_12_313)), (q_13, .inl (cZ, 40000, .inl ym_14_314)), (q_15, .inl (cZ, 40000, .inl ym_16_315)), (q_17, .inl (cI, 8, .inl ym_18_316)), (q_19, .inl (cI, 8, .inl ym_20_317)), (q_21, .inl (cZ, 8, .inl ym_22_318)), (q_23, .inl (cI, 1400, .inl ym_24_319)), (q_25, .inl (cZ, 1400, .inl ym_26_320))]) H → va_D A ([(a0, .inr (4, [.int 0, .int 1, .int 32, .int y_321, .ref q_1, .ref q_3, .ref q_5, .int y_322, .ref q_7, .ref q_9, .ref q_11, .ref q_13, .int 0, .int 0, .ref q_15, .int 0, .int 0, .ref q_17, .ref q_19, .ref q_21, .int 0, .ref q_23, .ref q_25])), (q_1, .inl (cI, 8, .inl ym_2_308)), (q_3, .inl (cI, 8, .inl ym_4_309)), (q_5, .inl (cI, 8, .inl ym_6_310)), (q_7, .inl (cI, 1400, .inl ym_8_311)), (q_9, .inl (cI, 2800, .inl ym_10_312)), (q_11, .inl (cZ, 2800, .inl ym_12_313)), (q_13, .inl (cZ, 40000, .inl ym_14_314)), (q_15, .inl (cZ, 40000, .inl ym_16_315)), (q_17, .inl (cI, 8, .inl ym_18_316)), (q_19, .inl (cI, 8, .inl ym_20_317)), (q_21, .inl (cZ, 8, .inl ym_22_318)), (q_23, .inl (cI, 1400, .inl ym_24_319)), (q_25, .inl (cZ, 1400, .inl ym_26_320))]) → va_S A s.heap H locs → lv_has ls 6 [(5, .int x5_323), (4, .int x4_324), (3, .int x3_325), (0, .ref a0), (1, .int x1), (2, .int x2)] → W p l e (headSpec wsX4_init rm_X4_init).room s m args below meth c H locs 13 89848 (MQ below (va_Qv post (fun (u : vMS × vMM) t => ∃ (am : Nat → Nat), am 0 = a0 ∧ qB (dC, dI) (tysA cI cZ cJ cL) A (wMM cI cZ am u.1 u.2) t) A) args s 13 89848 A) (F0 m 177 ls []) := by
          intro n_326
          induction n_326 with
          | zero => intro _ _ _ _ _ _ _ _ _ _ _ _ _ _ _ _ _ _ hw; exact hw.elim
          | succ n_326 ih177_7 =>
            intro ym_2_308 ym_4_309 ym_6_310 ym_8_311 ym_10_312 ym_12_313 ym_14_314 ym_16_315 ym_18_316 ym_20_317 ym_22_318 ym_24_319 ym_26_320 y_321 y_322 x5_323 x4_324 x3_325 hw H locs ls hP hD hS hl
            unfold wp_X4_init_L177_7 at hw
            refine lv_iload hx hb dX4_init_177 (lv_at hl 0 rfl) ?_
            refine lv_if_eq (tgt := 274) hx hb dX4_init_179 (by decide) (fun c_327 => ?_) (fun c_327 => ?_)
            · have hw := hw.1 c_327
              exact hx177_7 ym_2_308 ym_4_309 ym_6_310 ym_8_311 ym_10_312 ym_12_313 ym_14_314 ym_16_315 ym_18_316 ym_20_317 ym_22_318 ym_24_319 ym_26_320 y_321 y_322 x5_323 x4_324 x3_325 hw _ _ _ hP hD hS (lv_sub hl [0, 1, 2, 3, 4, 5] rfl)
            · have hw := hw.2 c_327
              refine lv_aload_n hx hb dX4_init_182 rfl (lv_at hl 3 rfl) ?_
              refine va_get (D := (dC, dI)) (ci := 4) (v := .ref q_1) (C := RX4) (T := TX4) (N := 23) hx hb hT inX4 hown hK hP 0 rfl rfl 4 (by decide) (hT _ k_162) (fun _ h9 => h9) rfl dX4_init_183 ?_
              refine lv_aload_n hx hb dX4_init_186 rfl (lv_at hl 3 rfl) ?_
              refine va_get (D := (dC, dI)) (ci := 4) (v := .int y_321) (C := RX4) (T := TX4) (N := 23) hx hb hT inX4 hown hK hP 0 rfl rfl 3 (by decide) (hT _ k_179) (fun _ h9 => h9) rfl dX4_init_187 ?_
              refine lv_aload_n hx hb dX4_init_190 rfl (lv_at hl 3 rfl) ?_
              refine va_get (D := (dC, dI)) (ci := 4) (v := .int y_322) (C := RX4) (T := TX4) (N := 23) hx hb hT inX4 hown hK hP 0 rfl rfl 7 (by decide) (hT _ k_180) (fun _ h9 => h9) rfl dX4_init_191 ?_
              obtain ⟨h_328, hw⟩ := hw
              refine va_iast hx hb hK hP hD hS 1 0 rfl rfl h_328 dX4_init_194 (fun H locs hP hD hS => ?_)
              have hP : va_P (dC, dI) vwCl ([(a0, .inr (4, [.int 0, .int 1, .int 32, .int y_321, .ref q_1, .ref q_3, .ref q_5, .int y_322, .ref q_7, .ref q_9, .ref q_11, .ref q_13, .int 0, .int 0, .ref q_15, .int 0, .int 0, .ref q_17, .ref q_19, .ref q_21, .int 0, .ref q_23, .ref q_25])), (q_1, .inl (cI, 8, .inl (upd ym_2_308 y_321.toNatClampNeg y_322))), (q_3, .inl (cI, 8, .inl ym_4_309)), (q_5, .inl (cI, 8, .inl ym_6_310)), (q_7, .inl (cI, 1400, .inl ym_8_311)), (q_9, .inl (cI, 2800, .inl ym_10_312)), (q_11, .inl (cZ, 2800, .inl ym_12_313)), (q_13, .inl (cZ, 40000, .inl ym_14_314)), (q_15, .inl (cZ, 40000, .inl ym_16_315)), (q_17, .inl (cI, 8, .inl ym_18_316)), (q_19, .inl (cI, 8, .inl ym_20_317)), (q_21, .inl (cZ, 8, .inl ym_22_318)), (q_23, .inl (cI, 1400, .inl ym_24_319)), (q_25, .inl (cZ, 1400, .inl ym_26_320))]) H := hP
              have hD : va_D A ([(a0, .inr (4, [.int 0, .int 1, .int 32, .int y_321, .ref q_1, .ref q_3, .ref q_5, .int y_322, .ref q_7, .ref q_9, .ref q_11, .ref q_13, .int 0, .int 0, .ref q_15, .int 0, .int 0, .ref q_17, .ref q_19, .ref q_21, .int 0, .ref q_23, .ref q_25])), (q_1, .inl (cI, 8, .inl (upd ym_2_308 y_321.toNatClampNeg y_322))), (q_3, .inl (cI, 8, .inl ym_4_309)), (q_5, .inl (cI, 8, .inl ym_6_310)), (q_7, .inl (cI, 1400, .inl ym_8_311)), (q_9, .inl (cI, 2800, .inl ym_10_312)), (q_11, .inl (cZ, 2800, .inl ym_12_313)), (q_13, .inl (cZ, 40000, .inl ym_14_314)), (q_15, .inl (cZ, 40000, .inl ym_16_315)), (q_17, .inl (cI, 8, .inl ym_18_316)), (q_19, .inl (cI, 8, .inl ym_20_317)), (q_21, .inl (cZ, 8, .inl ym_22_318)), (q_23, .inl (cI, 1400, .inl ym_24_319)), (q_25, .inl (cZ, 1400, .inl ym_26_320))]) := hD
              refine lv_aload_n hx hb dX4_init_195 rfl (lv_at hl 3 rfl) ?_
              refine va_get (D := (dC, dI)) (ci := 4) (v := .ref q_3) (C := RX4) (T := TX4) (N := 23) hx hb hT inX4 hown hK hP 0 rfl rfl 5 (by decide) (hT _ k_163) (fun _ h9 => h9) rfl dX4_init_196 ?_
              refine lv_aload_n hx hb dX4_init_199 rfl (lv_at hl 3 rfl) ?_
              refine va_get (D := (dC, dI)) (ci := 4) (v := .int y_321) (C := RX4) (T := TX4) (N := 23) hx hb hT inX4 hown hK hP 0 rfl rfl 3 (by decide) (hT _ k_179) (fun _ h9 => h9) rfl dX4_init_200 ?_
              refine lv_iload_n hx hb dX4_init_203 rfl (lv_at hl 2 rfl) ?_
              obtain ⟨h_329, hw⟩ := hw
              refine va_iast hx hb hK hP hD hS 2 0 rfl rfl h_329 dX4_init_204 (fun H locs hP hD hS => ?_)
              have hP : va_P (dC, dI) vwCl ([(a0, .inr (4, [.int 0, .int 1, .int 32, .int y_321, .ref q_1, .ref q_3, .ref q_5, .int y_322, .ref q_7, .ref q_9, .ref q_11, .ref q_13, .int 0, .int 0, .ref q_15, .int 0, .int 0, .ref q_17, .ref q_19, .ref q_21, .int 0, .ref q_23, .ref q_25])), (q_1, .inl (cI, 8, .inl (upd ym_2_308 y_321.toNatClampNeg y_322))), (q_3, .inl (cI, 8, .inl (upd ym_4_309 y_321.toNatClampNeg x3_325))), (q_5, .inl (cI, 8, .inl ym_6_310)), (q_7, .inl (cI, 1400, .inl ym_8_311)), (q_9, .inl (cI, 2800, .inl ym_10_312)), (q_11, .inl (cZ, 2800, .inl ym_12_313)), (q_13, .inl (cZ, 40000, .inl ym_14_314)), (q_15, .inl (cZ, 40000, .inl ym_16_315)), (q_17, .inl (cI, 8, .inl ym_18_316)), (q_19, .inl (cI, 8, .inl ym_20_317)), (q_21, .inl (cZ, 8, .inl ym_22_318)), (q_23, .inl (cI, 1400, .inl ym_24_319)), (q_25, .inl (cZ, 1400, .inl ym_26_320))]) H := hP
              have hD : va_D A ([(a0, .inr (4, [.int 0, .int 1, .int 32, .int y_321, .ref q_1, .ref q_3, .ref q_5, .int y_322, .ref q_7, .ref q_9, .ref q_11, .ref q_13, .int 0, .int 0, .ref q_15, .int 0, .int 0, .ref q_17, .ref q_19, .ref q_21, .int 0, .ref q_23, .ref q_25])), (q_1, .inl (cI, 8, .inl (upd ym_2_308 y_321.toNatClampNeg y_322))), (q_3, .inl (cI, 8, .inl (upd ym_4_309 y_321.toNatClampNeg x3_325))), (q_5, .inl (cI, 8, .inl ym_6_310)), (q_7, .inl (cI, 1400, .inl ym_8_311)), (q_9, .inl (cI, 2800, .inl ym_10_312)), (q_11, .inl (cZ, 2800, .inl ym_12_313)), (q_13, .inl (cZ, 40000, .inl ym_14_314)), (q_15, .inl (cZ, 40000, .inl ym_16_315)), (q_17, .inl (cI, 8, .inl ym_18_316)), (q_19, .inl (cI, 8, .inl ym_20_317)), (q_21, .inl (cZ, 8, .inl ym_22_318)), (q_23, .inl (cI, 1400, .inl ym_24_319)), (q_25, .inl (cZ, 1400, .inl ym_26_320))]) := hD
              refine lv_aload_n hx hb dX4_init_205 rfl (lv_at hl 3 rfl) ?_
              refine va_get (D := (dC, dI)) (ci := 4) (v := .ref q_5) (C := RX4) (T := TX4) (N := 23) hx hb hT inX4 hown hK hP 0 rfl rfl 6 (by decide) (hT _ k_164) (fun _ h9 => h9) rfl dX4_init_206 ?_
              refine lv_aload_n hx hb dX4_init_209 rfl (lv_at hl 3 rfl) ?_
              refine va_get (D := (dC, dI)) (ci := 4) (v := .int y_321) (C := RX4) (T := TX4) (N := 23) hx hb hT inX4 hown hK hP 0 rfl rfl 3 (by decide) (hT _ k_179) (fun _ h9 => h9) rfl dX4_init_210 ?_
              refine lv_iload hx hb dX4_init_213 (lv_at hl 1 rfl) ?_
              obtain ⟨h_330, hw⟩ := hw
              refine va_iast hx hb hK hP hD hS 3 0 rfl rfl h_330 dX4_init_215 (fun H locs hP hD hS => ?_)
              have hP : va_P (dC, dI) vwCl ([(a0, .inr (4, [.int 0, .int 1, .int 32, .int y_321, .ref q_1, .ref q_3, .ref q_5, .int y_322, .ref q_7, .ref q_9, .ref q_11, .ref q_13, .int 0, .int 0, .ref q_15, .int 0, .int 0, .ref q_17, .ref q_19, .ref q_21, .int 0, .ref q_23, .ref q_25])), (q_1, .inl (cI, 8, .inl (upd ym_2_308 y_321.toNatClampNeg y_322))), (q_3, .inl (cI, 8, .inl (upd ym_4_309 y_321.toNatClampNeg x3_325))), (q_5, .inl (cI, 8, .inl (upd ym_6_310 y_321.toNatClampNeg x4_324))), (q_7, .inl (cI, 1400, .inl ym_8_311)), (q_9, .inl (cI, 2800, .inl ym_10_312)), (q_11, .inl (cZ, 2800, .inl ym_12_313)), (q_13, .inl (cZ, 40000, .inl ym_14_314)), (q_15, .inl (cZ, 40000, .inl ym_16_315)), (q_17, .inl (cI, 8, .inl ym_18_316)), (q_19, .inl (cI, 8, .inl ym_20_317)), (q_21, .inl (cZ, 8, .inl ym_22_318)), (q_23, .inl (cI, 1400, .inl ym_24_319)), (q_25, .inl (cZ, 1400, .inl ym_26_320))]) H := hP
              have hD : va_D A ([(a0, .inr (4, [.int 0, .int 1, .int 32, .int y_321, .ref q_1, .ref q_3, .ref q_5, .int y_322, .ref q_7, .ref q_9, .ref q_11, .ref q_13, .int 0, .int 0, .ref q_15, .int 0, .int 0, .ref q_17, .ref q_19, .ref q_21, .int 0, .ref q_23, .ref q_25])), (q_1, .inl (cI, 8, .inl (upd ym_2_308 y_321.toNatClampNeg y_322))), (q_3, .inl (cI, 8, .inl (upd ym_4_309 y_321.toNatClampNeg x3_325))), (q_5, .inl (cI, 8, .inl (upd ym_6_310 y_321.toNatClampNeg x4_324))), (q_7, .inl (cI, 1400, .inl ym_8_311)), (q_9, .inl (cI, 2800, .inl ym_10_312)), (q_11, .inl (cZ, 2800, .inl ym_12_313)), (q_13, .inl (cZ, 40000, .inl ym_14_314)), (q_15, .inl (cZ, 40000, .inl ym_16_315)), (q_17, .inl (cI, 8, .inl ym_18_316)), (q_19, .inl (cI, 8, .inl ym_20_317)), (q_21, .inl (cZ, 8, .inl ym_22_318)), (q_23, .inl (cI, 1400, .inl ym_24_319)), (q_25, .inl (cZ, 1400, .inl ym_26_320))]) := hD
              refine lv_aload_n hx hb dX4_init_216 rfl (lv_at hl 3 rfl) ?_
              refine lv_dup hx hb dX4_init_217 rfl ?_
              refine va_get (D := (dC, dI)) (ci := 4) (v := .int y_322) (C := RX4) (T := TX4) (N := 23) hx hb hT inX4 hown hK hP 0 rfl rfl 7 (by decide) (hT _ k_180) (fun _ h9 => h9) rfl dX4_init_218 ?_
              refine lv_iload_n hx hb dX4_init_221 rfl (lv_at hl 2 rfl) ?_
              refine lv_iload hx hb dX4_init_222 (lv_at hl 1 rfl) ?_
              refine lv_imul hx hb dX4_init_224 ?_
              refine lv_iadd hx hb dX4_init_225 ?_
              refine lv_topi (fun f_331 ef_331 => ?_)
              have hw := hw f_331 ef_331
              refine va_put (D := (dC, dI)) (ci := 4) (v := .int f_331) (ty := .int) (C := RX4) (T := TX4) (N := 23) hx hb hT inX4 tyX4 tyX4_ok nmX4 hown hK hP hD hS 0 rfl rfl 7 (by decide) (hT _ k_180) (fun _ h9 => h9) rfl (by decide +kernel) rfl rfl (Nat.le_of_ble_eq_true rfl) dX4_init_226 (fun H locs hP hD hS => ?_)
              have hP : va_P (dC, dI) vwCl ([(a0, .inr (4, [.int 0, .int 1, .int 32, .int y_321, .ref q_1, .ref q_3, .ref q_5, .int f_331, .ref q_7, .ref q_9, .ref q_11, .ref q_13, .int 0, .int 0, .ref q_15, .int 0, .int 0, .ref q_17, .ref q_19, .ref q_21, .int 0, .ref q_23, .ref q_25])), (q_1, .inl (cI, 8, .inl (upd ym_2_308 y_321.toNatClampNeg y_322))), (q_3, .inl (cI, 8, .inl (upd ym_4_309 y_321.toNatClampNeg x3_325))), (q_5, .inl (cI, 8, .inl (upd ym_6_310 y_321.toNatClampNeg x4_324))), (q_7, .inl (cI, 1400, .inl ym_8_311)), (q_9, .inl (cI, 2800, .inl ym_10_312)), (q_11, .inl (cZ, 2800, .inl ym_12_313)), (q_13, .inl (cZ, 40000, .inl ym_14_314)), (q_15, .inl (cZ, 40000, .inl ym_16_315)), (q_17, .inl (cI, 8, .inl ym_18_316)), (q_19, .inl (cI, 8, .inl ym_20_317)), (q_21, .inl (cZ, 8, .inl ym_22_318)), (q_23, .inl (cI, 1400, .inl ym_24_319)), (q_25, .inl (cZ, 1400, .inl ym_26_320))]) H := hP
              have hD : va_D A ([(a0, .inr (4, [.int 0, .int 1, .int 32, .int y_321, .ref q_1, .ref q_3, .ref q_5, .int f_331, .ref q_7, .ref q_9, .ref q_11, .ref q_13, .int 0, .int 0, .ref q_15, .int 0, .int 0, .ref q_17, .ref q_19, .ref q_21, .int 0, .ref q_23, .ref q_25])), (q_1, .inl (cI, 8, .inl (upd ym_2_308 y_321.toNatClampNeg y_322))), (q_3, .inl (cI, 8, .inl (upd ym_4_309 y_321.toNatClampNeg x3_325))), (q_5, .inl (cI, 8, .inl (upd ym_6_310 y_321.toNatClampNeg x4_324))), (q_7, .inl (cI, 1400, .inl ym_8_311)), (q_9, .inl (cI, 2800, .inl ym_10_312)), (q_11, .inl (cZ, 2800, .inl ym_12_313)), (q_13, .inl (cZ, 40000, .inl ym_14_314)), (q_15, .inl (cZ, 40000, .inl ym_16_315)), (q_17, .inl (cI, 8, .inl ym_18_316)), (q_19, .inl (cI, 8, .inl ym_20_317)), (q_21, .inl (cZ, 8, .inl ym_22_318)), (q_23, .inl (cI, 1400, .inl ym_24_319)), (q_25, .inl (cZ, 1400, .inl ym_26_320))]) := hD
              refine lv_aload_n hx hb dX4_init_229 rfl (lv_at hl 3 rfl) ?_
              refine lv_dup hx hb dX4_init_230 rfl ?_
              refine va_get (D := (dC, dI)) (ci := 4) (v := .int y_321) (C := RX4) (T := TX4) (N := 23) hx hb hT inX4 hown hK hP 0 rfl rfl 3 (by decide) (hT _ k_179) (fun _ h9 => h9) rfl dX4_init_231 ?_
              refine lv_iconst (v := 1) hx hb dX4_init_234 (by decide) ?_
              refine lv_iadd hx hb dX4_init_235 ?_
              refine lv_topi (fun f_332 ef_332 => ?_)
              have hw := hw f_332 ef_332
              refine va_put (D := (dC, dI)) (ci := 4) (v := .int f_332) (ty := .int) (C := RX4) (T := TX4) (N := 23) hx hb hT inX4 tyX4 tyX4_ok nmX4 hown hK hP hD hS 0 rfl rfl 3 (by decide) (hT _ k_179) (fun _ h9 => h9) rfl (by decide +kernel) rfl rfl (Nat.le_of_ble_eq_true rfl) dX4_init_236 (fun H locs hP hD hS => ?_)
              have hP : va_P (dC, dI) vwCl ([(a0, .inr (4, [.int 0, .int 1, .int 32, .int f_332, .ref q_1, .ref q_3, .ref q_5, .int f_331, .ref q_7, .ref q_9, .ref q_11, .ref q_13, .int 0, .int 0, .ref q_15, .int 0, .int 0, .ref q_17, .ref q_19, .ref q_21, .int 0, .ref q_23, .ref q_25])), (q_1, .inl (cI, 8, .inl (upd ym_2_308 y_321.toNatClampNeg y_322))), (q_3, .inl (cI, 8, .inl (upd ym_4_309 y_321.toNatClampNeg x3_325))), (q_5, .inl (cI, 8, .inl (upd ym_6_310 y_321.toNatClampNeg x4_324))), (q_7, .inl (cI, 1400, .inl ym_8_311)), (q_9, .inl (cI, 2800, .inl ym_10_312)), (q_11, .inl (cZ, 2800, .inl ym_12_313)), (q_13, .inl (cZ, 40000, .inl ym_14_314)), (q_15, .inl (cZ, 40000, .inl ym_16_315)), (q_17, .inl (cI, 8, .inl ym_18_316)), (q_19, .inl (cI, 8, .inl ym_20_317)), (q_21, .inl (cZ, 8, .inl ym_22_318)), (q_23, .inl (cI, 1400, .inl ym_24_319)), (q_25, .inl (cZ, 1400, .inl ym_26_320))]) H := hP
              have hD : va_D A ([(a0, .inr (4, [.int 0, .int 1, .int 32, .int f_332, .ref q_1, .ref q_3, .ref q_5, .int f_331, .ref q_7, .ref q_9, .ref q_11, .ref q_13, .int 0, .int 0, .ref q_15, .int 0, .int 0, .ref q_17, .ref q_19, .ref q_21, .int 0, .ref q_23, .ref q_25])), (q_1, .inl (cI, 8, .inl (upd ym_2_308 y_321.toNatClampNeg y_322))), (q_3, .inl (cI, 8, .inl (upd ym_4_309 y_321.toNatClampNeg x3_325))), (q_5, .inl (cI, 8, .inl (upd ym_6_310 y_321.toNatClampNeg x4_324))), (q_7, .inl (cI, 1400, .inl ym_8_311)), (q_9, .inl (cI, 2800, .inl ym_10_312)), (q_11, .inl (cZ, 2800, .inl ym_12_313)), (q_13, .inl (cZ, 40000, .inl ym_14_314)), (q_15, .inl (cZ, 40000, .inl ym_16_315)), (q_17, .inl (cI, 8, .inl ym_18_316)), (q_19, .inl (cI, 8, .inl ym_20_317)), (q_21, .inl (cZ, 8, .inl ym_22_318)), (q_23, .inl (cI, 1400, .inl ym_24_319)), (q_25, .inl (cZ, 1400, .inl ym_26_320))]) := hD
              refine lv_iload_n hx hb dX4_init_239 rfl (lv_at hl 2 rfl) ?_
              refine lv_iconst (v := 1) hx hb dX4_init_240 (by decide) ?_
              refine lv_icmp_gt (tgt := 250) hx hb dX4_init_241 (by decide) (fun c_333 => ?_) (fun c_333 => ?_)
              · have hw := hw.1 c_333
                refine lv_iconst (v := 1) hx hb dX4_init_250 (by decide) ?_
                refine lv_goto (tgt := 255) hx hb dX4_init_251 (by decide) ?_
                refine lv_istore (lv' := [(5, .int 1), (4, .int x4_324), (3, .int x3_325), (0, .ref a0), (1, .int x1), (2, .int x2)]) hx hb dX4_init_255 hl (by decide) rfl (fun ls hl => ?_)
                refine lv_iload_n hx hb dX4_init_257 rfl (lv_at hl 2 rfl) ?_
                refine lv_iconst (v := 1) hx hb dX4_init_258 (by decide) ?_
                refine lv_iadd hx hb dX4_init_259 ?_
                refine lv_iconst (v := 2) hx hb dX4_init_260 (by decide) ?_
                obtain ⟨h_334, hw⟩ := hw
                refine lv_idiv hx hb dX4_init_261 h_334 ?_
                refine lv_topi (fun x3_335 ex3_335 => ?_)
                have hw := hw x3_335 ex3_335
                refine lv_istore_n (lv' := [(3, .int x3_335), (5, .int 1), (4, .int x4_324), (0, .ref a0), (1, .int x1), (2, .int x2)]) hx hb dX4_init_262 rfl hl (by decide) rfl (fun ls hl => ?_)
                refine lv_iload hx hb dX4_init_263 (lv_at hl 2 rfl) ?_
                refine lv_iconst (v := 1) hx hb dX4_init_265 (by decide) ?_
                refine lv_iadd hx hb dX4_init_266 ?_
                refine lv_iconst (v := 2) hx hb dX4_init_267 (by decide) ?_
                obtain ⟨h_336, hw⟩ := hw
                refine lv_idiv hx hb dX4_init_268 h_336 ?_
                refine lv_topi (fun x4_337 ex4_337 => ?_)
                have hw := hw x4_337 ex4_337
                refine lv_istore (lv' := [(4, .int x4_337), (3, .int x3_335), (5, .int 1), (0, .ref a0), (1, .int x1), (2, .int x2)]) hx hb dX4_init_269 hl (by decide) rfl (fun ls hl => ?_)
                refine lv_goto (tgt := 177) hx hb dX4_init_271 (by decide) ?_
                exact ih177_7 (upd ym_2_308 y_321.toNatClampNeg y_322) (upd ym_4_309 y_321.toNatClampNeg x3_325) (upd ym_6_310 y_321.toNatClampNeg x4_324) ym_8_311 ym_10_312 ym_12_313 ym_14_314 ym_16_315 ym_18_316 ym_20_317 ym_22_318 ym_24_319 ym_26_320 f_332 f_331 1 x4_337 x3_335 hw _ _ _ hP hD hS (lv_sub hl [2, 0, 1, 3, 4, 5] rfl)
              · have hw := hw.2 c_333
                refine lv_iload hx hb dX4_init_244 (lv_at hl 1 rfl) ?_
                refine lv_iconst (v := 1) hx hb dX4_init_246 (by decide) ?_
                refine lv_icmp_le (tgt := 254) hx hb dX4_init_247 (by decide) (fun c_338 => ?_) (fun c_338 => ?_)
                · have hw := hw.1 c_338
                  refine lv_iconst (v := 0) hx hb dX4_init_254 (by decide) ?_
                  refine lv_istore (lv' := [(5, .int 0), (4, .int x4_324), (3, .int x3_325), (0, .ref a0), (1, .int x1), (2, .int x2)]) hx hb dX4_init_255 hl (by decide) rfl (fun ls hl => ?_)
                  refine lv_iload_n hx hb dX4_init_257 rfl (lv_at hl 2 rfl) ?_
                  refine lv_iconst (v := 1) hx hb dX4_init_258 (by decide) ?_
                  refine lv_iadd hx hb dX4_init_259 ?_
                  refine lv_iconst (v := 2) hx hb dX4_init_260 (by decide) ?_
                  obtain ⟨h_339, hw⟩ := hw
                  refine lv_idiv hx hb dX4_init_261 h_339 ?_
                  refine lv_topi (fun x3_340 ex3_340 => ?_)
                  have hw := hw x3_340 ex3_340
                  refine lv_istore_n (lv' := [(3, .int x3_340), (5, .int 0), (4, .int x4_324), (0, .ref a0), (1, .int x1), (2, .int x2)]) hx hb dX4_init_262 rfl hl (by decide) rfl (fun ls hl => ?_)
                  refine lv_iload hx hb dX4_init_263 (lv_at hl 2 rfl) ?_
                  refine lv_iconst (v := 1) hx hb dX4_init_265 (by decide) ?_
                  refine lv_iadd hx hb dX4_init_266 ?_
                  refine lv_iconst (v := 2) hx hb dX4_init_267 (by decide) ?_
                  obtain ⟨h_341, hw⟩ := hw
                  refine lv_idiv hx hb dX4_init_268 h_341 ?_
                  refine lv_topi (fun x4_342 ex4_342 => ?_)
                  have hw := hw x4_342 ex4_342
                  refine lv_istore (lv' := [(4, .int x4_342), (3, .int x3_340), (5, .int 0), (0, .ref a0), (1, .int x1), (2, .int x2)]) hx hb dX4_init_269 hl (by decide) rfl (fun ls hl => ?_)
                  refine lv_goto (tgt := 177) hx hb dX4_init_271 (by decide) ?_
                  exact ih177_7 (upd ym_2_308 y_321.toNatClampNeg y_322) (upd ym_4_309 y_321.toNatClampNeg x3_325) (upd ym_6_310 y_321.toNatClampNeg x4_324) ym_8_311 ym_10_312 ym_12_313 ym_14_314 ym_16_315 ym_18_316 ym_20_317 ym_22_318 ym_24_319 ym_26_320 f_332 f_331 0 x4_342 x3_340 hw _ _ _ hP hD hS (lv_sub hl [2, 0, 1, 3, 4, 5] rfl)
                · have hw := hw.2 c_338
                  refine lv_iconst (v := 1) hx hb dX4_init_250 (by decide) ?_
                  refine lv_goto (tgt := 255) hx hb dX4_init_251 (by decide) ?_
                  refine lv_istore (lv' := [(5, .int 1), (4, .int x4_324), (3, .int x3_325), (0, .ref a0), (1, .int x1), (2, .int x2)]) hx hb dX4_init_255 hl (by decide) rfl (fun ls hl => ?_)
                  refine lv_iload_n hx hb dX4_init_257 rfl (lv_at hl 2 rfl) ?_
                  refine lv_iconst (v := 1) hx hb dX4_init_258 (by decide) ?_
                  refine lv_iadd hx hb dX4_init_259 ?_
                  refine lv_iconst (v := 2) hx hb dX4_init_260 (by decide) ?_
                  obtain ⟨h_343, hw⟩ := hw
                  refine lv_idiv hx hb dX4_init_261 h_343 ?_
                  refine lv_topi (fun x3_344 ex3_344 => ?_)
                  have hw := hw x3_344 ex3_344
                  refine lv_istore_n (lv' := [(3, .int x3_344), (5, .int 1), (4, .int x4_324), (0, .ref a0), (1, .int x1), (2, .int x2)]) hx hb dX4_init_262 rfl hl (by decide) rfl (fun ls hl => ?_)
                  refine lv_iload hx hb dX4_init_263 (lv_at hl 2 rfl) ?_
                  refine lv_iconst (v := 1) hx hb dX4_init_265 (by decide) ?_
                  refine lv_iadd hx hb dX4_init_266 ?_
                  refine lv_iconst (v := 2) hx hb dX4_init_267 (by decide) ?_
                  obtain ⟨h_345, hw⟩ := hw
                  refine lv_idiv hx hb dX4_init_268 h_345 ?_
                  refine lv_topi (fun x4_346 ex4_346 => ?_)
                  have hw := hw x4_346 ex4_346
                  refine lv_istore (lv' := [(4, .int x4_346), (3, .int x3_344), (5, .int 1), (0, .ref a0), (1, .int x1), (2, .int x2)]) hx hb dX4_init_269 hl (by decide) rfl (fun ls hl => ?_)
                  refine lv_goto (tgt := 177) hx hb dX4_init_271 (by decide) ?_
                  exact ih177_7 (upd ym_2_308 y_321.toNatClampNeg y_322) (upd ym_4_309 y_321.toNatClampNeg x3_325) (upd ym_6_310 y_321.toNatClampNeg x4_324) ym_8_311 ym_10_312 ym_12_313 ym_14_314 ym_16_315 ym_18_316 ym_20_317 ym_22_318 ym_24_319 ym_26_320 f_332 f_331 1 x4_346 x3_344 hw _ _ _ hP hD hS (lv_sub hl [2, 0, 1, 3, 4, 5] rfl)
        exact hlp177_7 n_326 (fun _ => 0) (fun _ => 0) (fun _ => 0) (fun _ => 0) (fun _ => 0) (fun _ => 0) (fun _ => 0) (fun _ => 0) (fun _ => 0) (fun _ => 0) (fun _ => 0) (fun _ => 0) (fun _ => 0) 0 0 1 32 1 hw _ _ _ hP hD hS (lv_sub hl [0, 1, 2, 3, 4, 5] rfl)
    · have hw := hw.2 c_267
      refine lv_iconst (v := 1) hx hb dX4_init_144 (by decide) ?_
      refine lv_goto (tgt := 160) hx hb dX4_init_145 (by decide) ?_
      refine va_putF (D := (dC, dI)) (ci := 4) (v := .int 1) (ty := .int) (C := RX4) (T := TX4) (N := 23) hx hb hT inX4 tyX4 tyX4_ok nmX4 hown hK hP hD hS 0 rfl rfl 2 (by decide) (hT _ k_178) (fun _ h9 => h9) rfl hin rfl (by decide +kernel) rfl rfl (Nat.le_of_ble_eq_true rfl) dX4_init_160 (fun H locs hP hD hS => ?_)
      have hP : va_P (dC, dI) vwCl ([(a0, .inr (4, [.int 0, .int 1, .int 1, .int 0, .ref q_1, .ref q_3, .ref q_5, .int 0, .ref q_7, .ref q_9, .ref q_11, .ref q_13, .int 0, .int 0, .ref q_15, .int 0, .int 0, .ref q_17, .ref q_19, .ref q_21, .int 0, .ref q_23, .ref q_25])), (q_1, .inl (cI, 8, .inl (fun _ => 0))), (q_3, .inl (cI, 8, .inl (fun _ => 0))), (q_5, .inl (cI, 8, .inl (fun _ => 0))), (q_7, .inl (cI, 1400, .inl (fun _ => 0))), (q_9, .inl (cI, 2800, .inl (fun _ => 0))), (q_11, .inl (cZ, 2800, .inl (fun _ => 0))), (q_13, .inl (cZ, 40000, .inl (fun _ => 0))), (q_15, .inl (cZ, 40000, .inl (fun _ => 0))), (q_17, .inl (cI, 8, .inl (fun _ => 0))), (q_19, .inl (cI, 8, .inl (fun _ => 0))), (q_21, .inl (cZ, 8, .inl (fun _ => 0))), (q_23, .inl (cI, 1400, .inl (fun _ => 0))), (q_25, .inl (cZ, 1400, .inl (fun _ => 0)))]) H := hP
      have hD : va_D A ([(a0, .inr (4, [.int 0, .int 1, .int 1, .int 0, .ref q_1, .ref q_3, .ref q_5, .int 0, .ref q_7, .ref q_9, .ref q_11, .ref q_13, .int 0, .int 0, .ref q_15, .int 0, .int 0, .ref q_17, .ref q_19, .ref q_21, .int 0, .ref q_23, .ref q_25])), (q_1, .inl (cI, 8, .inl (fun _ => 0))), (q_3, .inl (cI, 8, .inl (fun _ => 0))), (q_5, .inl (cI, 8, .inl (fun _ => 0))), (q_7, .inl (cI, 1400, .inl (fun _ => 0))), (q_9, .inl (cI, 2800, .inl (fun _ => 0))), (q_11, .inl (cZ, 2800, .inl (fun _ => 0))), (q_13, .inl (cZ, 40000, .inl (fun _ => 0))), (q_15, .inl (cZ, 40000, .inl (fun _ => 0))), (q_17, .inl (cI, 8, .inl (fun _ => 0))), (q_19, .inl (cI, 8, .inl (fun _ => 0))), (q_21, .inl (cZ, 8, .inl (fun _ => 0))), (q_23, .inl (cI, 1400, .inl (fun _ => 0))), (q_25, .inl (cZ, 1400, .inl (fun _ => 0)))]) := hD
      refine lv_aload_n hx hb dX4_init_163 rfl (lv_at hl 0 rfl) ?_
      refine va_get (D := (dC, dI)) (ci := 4) (v := .int 1) (C := RX4) (T := TX4) (N := 23) hx hb hT inX4 hown hK hP 0 rfl rfl 1 (by decide) (hT _ k_177) (fun _ h9 => h9) rfl dX4_init_164 ?_
      refine lv_istore_n (lv' := [(3, .int 1), (0, .ref a0), (1, .int x1), (2, .int x2)]) hx hb dX4_init_167 rfl hl (by decide) rfl (fun ls hl => ?_)
      refine lv_aload_n hx hb dX4_init_168 rfl (lv_at hl 1 rfl) ?_
      refine va_get (D := (dC, dI)) (ci := 4) (v := .int 1) (C := RX4) (T := TX4) (N := 23) hx hb hT inX4 hown hK hP 0 rfl rfl 2 (by decide) (hT _ k_178) (fun _ h9 => h9) rfl dX4_init_169 ?_
      refine lv_istore (lv' := [(4, .int 1), (3, .int 1), (0, .ref a0), (1, .int x1), (2, .int x2)]) hx hb dX4_init_172 hl (by decide) rfl (fun ls hl => ?_)
      refine lv_iconst (v := 1) hx hb dX4_init_174 (by decide) ?_
      refine lv_istore (lv' := [(5, .int 1), (4, .int 1), (3, .int 1), (0, .ref a0), (1, .int x1), (2, .int x2)]) hx hb dX4_init_175 hl (by decide) rfl (fun ls hl => ?_)
      obtain ⟨n_365, hw⟩ := hw
      obtain ⟨ex177_8, eex177_8⟩ : ∃ z : (Nat → Int32) → (Nat → Int32) → (Nat → Int32) → (Nat → Int32) → (Nat → Int32) → (Nat → Int32) → (Nat → Int32) → (Nat → Int32) → (Nat → Int32) → (Nat → Int32) → (Nat → Int32) → (Nat → Int32) → (Nat → Int32) → Int32 → Int32 → Int32 → Int32 → Int32 → Prop, z = (fun (ym_2_347 : (Nat → Int32)) (ym_4_348 : (Nat → Int32)) (ym_6_349 : (Nat → Int32)) (ym_8_350 : (Nat → Int32)) (ym_10_351 : (Nat → Int32)) (ym_12_352 : (Nat → Int32)) (ym_14_353 : (Nat → Int32)) (ym_16_354 : (Nat → Int32)) (ym_18_355 : (Nat → Int32)) (ym_20_356 : (Nat → Int32)) (ym_22_357 : (Nat → Int32)) (ym_24_358 : (Nat → Int32)) (ym_26_359 : (Nat → Int32)) (y_360 : Int32) (y_361 : Int32) (x5_362 : Int32) (x4_363 : Int32) (x3_364 : Int32) => post (((1, 1, y_360, y_361), ym_2_347, ym_4_348, ym_6_349), (0, ym_8_350, ym_10_351, ym_12_352, (ym_14_353, 0, 0), (ym_16_354, 0, 0), (ym_18_355, ym_20_356, ym_22_357, 0), ym_24_358, ym_26_359))) := ⟨_, rfl⟩
      rw [← eex177_8] at hw
      have hx177_8 : ∀ (ym_2_347 : (Nat → Int32)) (ym_4_348 : (Nat → Int32)) (ym_6_349 : (Nat → Int32)) (ym_8_350 : (Nat → Int32)) (ym_10_351 : (Nat → Int32)) (ym_12_352 : (Nat → Int32)) (ym_14_353 : (Nat → Int32)) (ym_16_354 : (Nat → Int32)) (ym_18_355 : (Nat → Int32)) (ym_20_356 : (Nat → Int32)) (ym_22_357 : (Nat → Int32)) (ym_24_358 : (Nat → Int32)) (ym_26_359 : (Nat → Int32)) (y_360 : Int32) (y_361 : Int32) (x5_362 : Int32) (x4_363 : Int32) (x3_364 : Int32), ex177_8 ym_2_347 ym_4_348 ym_6_349 ym_8_350 ym_10_351 ym_12_352 ym_14_353 ym_16_354 ym_18_355 ym_20_356 ym_22_357 ym_24_358 ym_26_359 y_360 y_361 x5_362 x4_363 x3_364 → ∀ (H : Heap) (locs : List Loc) (ls : Array Slot), va_P (dC, dI) vwCl ([(a0, .inr (4, [.int 0, .int 1, .int 1, .int y_360, .ref q_1, .ref q_3, .ref q_5, .int y_361, .ref q_7, .ref q_9, .ref q_11, .ref q_13, .int 0, .int 0, .ref q_15, .int 0, .int 0, .ref q_17, .ref q_19, .ref q_21, .int 0, .ref q_23, .ref q_25])), (q_1, .inl (cI, 8, .inl ym_2_347)), (q_3, .inl (cI, 8, .inl ym_4_348)), (q_5, .inl (cI, 8, .inl ym_6_349)), (q_7, .inl (cI, 1400, .inl ym_8_350)), (q_9, .inl (cI, 2800, .inl ym_10_351)), (q_11, .inl (cZ, 2800, .inl ym_12_352)), (q_13, .inl (cZ, 40000, .inl ym_14_353)), (q_15, .inl (cZ, 40000, .inl ym_16_354)), (q_17, .inl (cI, 8, .inl ym_18_355)), (q_19, .inl (cI, 8, .inl ym_20_356)), (q_21, .inl (cZ, 8, .inl ym_22_357)), (q_23, .inl (cI, 1400, .inl ym_24_358)), (q_25, .inl (cZ, 1400, .inl ym_26_359))]) H → va_D A ([(a0, .inr (4, [.int 0, .int 1, .int 1, .int y_360, .ref q_1, .ref q_3, .ref q_5, .int y_361, .ref q_7, .ref q_9, .ref q_11, .ref q_13, .int 0, .int 0, .ref q_15, .int 0, .int 0, .ref q_17, .ref q_19, .ref q_21, .int 0, .ref q_23, .ref q_25])), (q_1, .inl (cI, 8, .inl ym_2_347)), (q_3, .inl (cI, 8, .inl ym_4_348)), (q_5, .inl (cI, 8, .inl ym_6_349)), (q_7, .inl (cI, 1400, .inl ym_8_350)), (q_9, .inl (cI, 2800, .inl ym_10_351)), (q_11, .inl (cZ, 2800, .inl ym_12_352)), (q_13, .inl (cZ, 40000, .inl ym_14_353)), (q_15, .inl (cZ, 40000, .inl ym_16_354)), (q_17, .inl (cI, 8, .inl ym_18_355)), (q_19, .inl (cI, 8, .inl ym_20_356)), (q_21, .inl (cZ, 8, .inl ym_22_357)), (q_23, .inl (cI, 1400, .inl ym_24_358)), (q_25, .inl (cZ, 1400, .inl ym_26_359))]) → va_S A s.heap H locs → lv_has ls 6 [(5, .int x5_362), (4, .int x4_363), (3, .int x3_364), (0, .ref a0), (1, .int x1), (2, .int x2)] → W p l e (headSpec wsX4_init rm_X4_init).room s m args below meth c H locs 13 89848 (MQ below (va_Qv post (fun (u : vMS × vMM) t => ∃ (am : Nat → Nat), am 0 = a0 ∧ qB (dC, dI) (tysA cI cZ cJ cL) A (wMM cI cZ am u.1 u.2) t) A) args s 13 89848 A) (F0 m 274 ls []) := by
        intro ym_2_347 ym_4_348 ym_6_349 ym_8_350 ym_10_351 ym_12_352 ym_14_353 ym_16_354 ym_18_355 ym_20_356 ym_22_357 ym_24_358 ym_26_359 y_360 y_361 x5_362 x4_363 x3_364 hw H locs ls hP hD hS hl
        rw [eex177_8] at hw
        try dsimp only at hw
        have hP := hP.sub (ws' := (wMM cI cZ (fun i => ([a0, q_1, q_3, q_5, q_7, q_9, q_11, q_13, q_15, q_17, q_19, q_21, q_23, q_25] : List Nat).getD i 0) (((1, 1, y_360, y_361), ym_2_347, ym_4_348, ym_6_349), (0, ym_8_350, ym_10_351, ym_12_352, (ym_14_353, 0, 0), (ym_16_354, 0, 0), (ym_18_355, ym_20_356, ym_22_357, 0), ym_24_358, ym_26_359)).1 (((1, 1, y_360, y_361), ym_2_347, ym_4_348, ym_6_349), (0, ym_8_350, ym_10_351, ym_12_352, (ym_14_353, 0, 0), (ym_16_354, 0, 0), (ym_18_355, ym_20_356, ym_22_357, 0), ym_24_358, ym_26_359)).2)) [0, 1, 2, 3, 4, 5, 6, 7, 8, 9, 10, 11, 12, 13] rfl
        have hD := hD.sub (ws' := (wMM cI cZ (fun i => ([a0, q_1, q_3, q_5, q_7, q_9, q_11, q_13, q_15, q_17, q_19, q_21, q_23, q_25] : List Nat).getD i 0) (((1, 1, y_360, y_361), ym_2_347, ym_4_348, ym_6_349), (0, ym_8_350, ym_10_351, ym_12_352, (ym_14_353, 0, 0), (ym_16_354, 0, 0), (ym_18_355, ym_20_356, ym_22_357, 0), ym_24_358, ym_26_359)).1 (((1, 1, y_360, y_361), ym_2_347, ym_4_348, ym_6_349), (0, ym_8_350, ym_10_351, ym_12_352, (ym_14_353, 0, 0), (ym_16_354, 0, 0), (ym_18_355, ym_20_356, ym_22_357, 0), ym_24_358, ym_26_359)).2)) [0, 1, 2, 3, 4, 5, 6, 7, 8, 9, 10, 11, 12, 13] (by decide) rfl
        exact W.vret hx hb hr (fun t ht hW => ⟨⟨(((1, 1, y_360, y_361), ym_2_347, ym_4_348, ym_6_349), (0, ym_8_350, ym_10_351, ym_12_352, (ym_14_353, 0, 0), (ym_16_354, 0, 0), (ym_18_355, ym_20_356, ym_22_357, 0), ym_24_358, ym_26_359)), rfl, hw, (fun i => ([a0, q_1, q_3, q_5, q_7, q_9, q_11, q_13, q_15, q_17, q_19, q_21, q_23, q_25] : List Nat).getD i 0), rfl, by rw [ht]; exact hP, va_K.moved hW.alike hK, hD⟩, hS.F ht⟩) hS.2.2 dX4_init_274
      have hlp177_8 : ∀ (n_365 : Nat) (ym_2_347 : (Nat → Int32)) (ym_4_348 : (Nat → Int32)) (ym_6_349 : (Nat → Int32)) (ym_8_350 : (Nat → Int32)) (ym_10_351 : (Nat → Int32)) (ym_12_352 : (Nat → Int32)) (ym_14_353 : (Nat → Int32)) (ym_16_354 : (Nat → Int32)) (ym_18_355 : (Nat → Int32)) (ym_20_356 : (Nat → Int32)) (ym_22_357 : (Nat → Int32)) (ym_24_358 : (Nat → Int32)) (ym_26_359 : (Nat → Int32)) (y_360 : Int32) (y_361 : Int32) (x5_362 : Int32) (x4_363 : Int32) (x3_364 : Int32), wp_X4_init_L177_8 post ex177_8 x1 x2 n_365 ym_2_347 ym_4_348 ym_6_349 ym_8_350 ym_10_351 ym_12_352 ym_14_353 ym_16_354 ym_18_355 ym_20_356 ym_22_357 ym_24_358 ym_26_359 y_360 y_361 x5_362 x4_363 x3_364 → ∀ (H : Heap) (locs : List Loc) (ls : Array Slot), va_P (dC, dI) vwCl ([(a0, .inr (4, [.int 0, .int 1, .int 1, .int y_360, .ref q_1, .ref q_3, .ref q_5, .int y_361, .ref q_7, .ref q_9, .ref q_11, .ref q_13, .int 0, .int 0, .ref q_15, .int 0, .int 0, .ref q_17, .ref q_19, .ref q_21, .int 0, .ref q_23, .ref q_25])), (q_1, .inl (cI, 8, .inl ym_2_347)), (q_3, .inl (cI, 8, .inl ym_4_348)), (q_5, .inl (cI, 8, .inl ym_6_349)), (q_7, .inl (cI, 1400, .inl ym_8_350)), (q_9, .inl (cI, 2800, .inl ym_10_351)), (q_11, .inl (cZ, 2800, .inl ym_12_352)), (q_13, .inl (cZ, 40000, .inl ym_14_353)), (q_15, .inl (cZ, 40000, .inl ym_16_354)), (q_17, .inl (cI, 8, .inl ym_18_355)), (q_19, .inl (cI, 8, .inl ym_20_356)), (q_21, .inl (cZ, 8, .inl ym_22_357)), (q_23, .inl (cI, 1400, .inl ym_24_358)), (q_25, .inl (cZ, 1400, .inl ym_26_359))]) H → va_D A ([(a0, .inr (4, [.int 0, .int 1, .int 1, .int y_360, .ref q_1, .ref q_3, .ref q_5, .int y_361, .ref q_7, .ref q_9, .ref q_11, .ref q_13, .int 0, .int 0, .ref q_15, .int 0, .int 0, .ref q_17, .ref q_19, .ref q_21, .int 0, .ref q_23, .ref q_25])), (q_1, .inl (cI, 8, .inl ym_2_347)), (q_3, .inl (cI, 8, .inl ym_4_348)), (q_5, .inl (cI, 8, .inl ym_6_349)), (q_7, .inl (cI, 1400, .inl ym_8_350)), (q_9, .inl (cI, 2800, .inl ym_10_351)), (q_11, .inl (cZ, 2800, .inl ym_12_352)), (q_13, .inl (cZ, 40000, .inl ym_14_353)), (q_15, .inl (cZ, 40000, .inl ym_16_354)), (q_17, .inl (cI, 8, .inl ym_18_355)), (q_19, .inl (cI, 8, .inl ym_20_356)), (q_21, .inl (cZ, 8, .inl ym_22_357)), (q_23, .inl (cI, 1400, .inl ym_24_358)), (q_25, .inl (cZ, 1400, .inl ym_26_359))]) → va_S A s.heap H locs → lv_has ls 6 [(5, .int x5_362), (4, .int x4_363), (3, .int x3_364), (0, .ref a0), (1, .int x1), (2, .int x2)] → W p l e (headSpec wsX4_init rm_X4_init).room s m args below meth c H locs 13 89848 (MQ below (va_Qv post (fun (u : vMS × vMM) t => ∃ (am : Nat → Nat), am 0 = a0 ∧ qB (dC, dI) (tysA cI cZ cJ cL) A (wMM cI cZ am u.1 u.2) t) A) args s 13 89848 A) (F0 m 177 ls []) := by
        intro n_365
        induction n_365 with
        | zero => intro _ _ _ _ _ _ _ _ _ _ _ _ _ _ _ _ _ _ hw; exact hw.elim
        | succ n_365 ih177_8 =>
          intro ym_2_347 ym_4_348 ym_6_349 ym_8_350 ym_10_351 ym_12_352 ym_14_353 ym_16_354 ym_18_355 ym_20_356 ym_22_357 ym_24_358 ym_26_359 y_360 y_361 x5_362 x4_363 x3_364 hw H locs ls hP hD hS hl
          unfold wp_X4_init_L177_8 at hw
          refine lv_iload hx hb dX4_init_177 (lv_at hl 0 rfl) ?_
          refine lv_if_eq (tgt := 274) hx hb dX4_init_179 (by decide) (fun c_366 => ?_) (fun c_366 => ?_)
          · have hw := hw.1 c_366
            exact hx177_8 ym_2_347 ym_4_348 ym_6_349 ym_8_350 ym_10_351 ym_12_352 ym_14_353 ym_16_354 ym_18_355 ym_20_356 ym_22_357 ym_24_358 ym_26_359 y_360 y_361 x5_362 x4_363 x3_364 hw _ _ _ hP hD hS (lv_sub hl [0, 1, 2, 3, 4, 5] rfl)
          · have hw := hw.2 c_366
            refine lv_aload_n hx hb dX4_init_182 rfl (lv_at hl 3 rfl) ?_
            refine va_get (D := (dC, dI)) (ci := 4) (v := .ref q_1) (C := RX4) (T := TX4) (N := 23) hx hb hT inX4 hown hK hP 0 rfl rfl 4 (by decide) (hT _ k_162) (fun _ h9 => h9) rfl dX4_init_183 ?_
            refine lv_aload_n hx hb dX4_init_186 rfl (lv_at hl 3 rfl) ?_
            refine va_get (D := (dC, dI)) (ci := 4) (v := .int y_360) (C := RX4) (T := TX4) (N := 23) hx hb hT inX4 hown hK hP 0 rfl rfl 3 (by decide) (hT _ k_179) (fun _ h9 => h9) rfl dX4_init_187 ?_
            refine lv_aload_n hx hb dX4_init_190 rfl (lv_at hl 3 rfl) ?_
            refine va_get (D := (dC, dI)) (ci := 4) (v := .int y_361) (C := RX4) (T := TX4) (N := 23) hx hb hT inX4 hown hK hP 0 rfl rfl 7 (by decide) (hT _ k_180) (fun _ h9 => h9) rfl dX4_init_191 ?_
            obtain ⟨h_367, hw⟩ := hw
            refine va_iast hx hb hK hP hD hS 1 0 rfl rfl h_367 dX4_init_194 (fun H locs hP hD hS => ?_)
            have hP : va_P (dC, dI) vwCl ([(a0, .inr (4, [.int 0, .int 1, .int 1, .int y_360, .ref q_1, .ref q_3, .ref q_5, .int y_361, .ref q_7, .ref q_9, .ref q_11, .ref q_13, .int 0, .int 0, .ref q_15, .int 0, .int 0, .ref q_17, .ref q_19, .ref q_21, .int 0, .ref q_23, .ref q_25])), (q_1, .inl (cI, 8, .inl (upd ym_2_347 y_360.toNatClampNeg y_361))), (q_3, .inl (cI, 8, .inl ym_4_348)), (q_5, .inl (cI, 8, .inl ym_6_349)), (q_7, .inl (cI, 1400, .inl ym_8_350)), (q_9, .inl (cI, 2800, .inl ym_10_351)), (q_11, .inl (cZ, 2800, .inl ym_12_352)), (q_13, .inl (cZ, 40000, .inl ym_14_353)), (q_15, .inl (cZ, 40000, .inl ym_16_354)), (q_17, .inl (cI, 8, .inl ym_18_355)), (q_19, .inl (cI, 8, .inl ym_20_356)), (q_21, .inl (cZ, 8, .inl ym_22_357)), (q_23, .inl (cI, 1400, .inl ym_24_358)), (q_25, .inl (cZ, 1400, .inl ym_26_359))]) H := hP
            have hD : va_D A ([(a0, .inr (4, [.int 0, .int 1, .int 1, .int y_360, .ref q_1, .ref q_3, .ref q_5, .int y_361, .ref q_7, .ref q_9, .ref q_11, .ref q_13, .int 0, .int 0, .ref q_15, .int 0, .int 0, .ref q_17, .ref q_19, .ref q_21, .int 0, .ref q_23, .ref q_25])), (q_1, .inl (cI, 8, .inl (upd ym_2_347 y_360.toNatClampNeg y_361))), (q_3, .inl (cI, 8, .inl ym_4_348)), (q_5, .inl (cI, 8, .inl ym_6_349)), (q_7, .inl (cI, 1400, .inl ym_8_350)), (q_9, .inl (cI, 2800, .inl ym_10_351)), (q_11, .inl (cZ, 2800, .inl ym_12_352)), (q_13, .inl (cZ, 40000, .inl ym_14_353)), (q_15, .inl (cZ, 40000, .inl ym_16_354)), (q_17, .inl (cI, 8, .inl ym_18_355)), (q_19, .inl (cI, 8, .inl ym_20_356)), (q_21, .inl (cZ, 8, .inl ym_22_357)), (q_23, .inl (cI, 1400, .inl ym_24_358)), (q_25, .inl (cZ, 1400, .inl ym_26_359))]) := hD
            refine lv_aload_n hx hb dX4_init_195 rfl (lv_at hl 3 rfl) ?_
            refine va_get (D := (dC, dI)) (ci := 4) (v := .ref q_3) (C := RX4) (T := TX4) (N := 23) hx hb hT inX4 hown hK hP 0 rfl rfl 5 (by decide) (hT _ k_163) (fun _ h9 => h9) rfl dX4_init_196 ?_
            refine lv_aload_n hx hb dX4_init_199 rfl (lv_at hl 3 rfl) ?_
            refine va_get (D := (dC, dI)) (ci := 4) (v := .int y_360) (C := RX4) (T := TX4) (N := 23) hx hb hT inX4 hown hK hP 0 rfl rfl 3 (by decide) (hT _ k_179) (fun _ h9 => h9) rfl dX4_init_200 ?_
            refine lv_iload_n hx hb dX4_init_203 rfl (lv_at hl 2 rfl) ?_
            obtain ⟨h_368, hw⟩ := hw
            refine va_iast hx hb hK hP hD hS 2 0 rfl rfl h_368 dX4_init_204 (fun H locs hP hD hS => ?_)
            have hP : va_P (dC, dI) vwCl ([(a0, .inr (4, [.int 0, .int 1, .int 1, .int y_360, .ref q_1, .ref q_3, .ref q_5, .int y_361, .ref q_7, .ref q_9, .ref q_11, .ref q_13, .int 0, .int 0, .ref q_15, .int 0, .int 0, .ref q_17, .ref q_19, .ref q_21, .int 0, .ref q_23, .ref q_25])), (q_1, .inl (cI, 8, .inl (upd ym_2_347 y_360.toNatClampNeg y_361))), (q_3, .inl (cI, 8, .inl (upd ym_4_348 y_360.toNatClampNeg x3_364))), (q_5, .inl (cI, 8, .inl ym_6_349)), (q_7, .inl (cI, 1400, .inl ym_8_350)), (q_9, .inl (cI, 2800, .inl ym_10_351)), (q_11, .inl (cZ, 2800, .inl ym_12_352)), (q_13, .inl (cZ, 40000, .inl ym_14_353)), (q_15, .inl (cZ, 40000, .inl ym_16_354)), (q_17, .inl (cI, 8, .inl ym_18_355)), (q_19, .inl (cI, 8, .inl ym_20_356)), (q_21, .inl (cZ, 8, .inl ym_22_357)), (q_23, .inl (cI, 1400, .inl ym_24_358)), (q_25, .inl (cZ, 1400, .inl ym_26_359))]) H := hP
            have hD : va_D A ([(a0, .inr (4, [.int 0, .int 1, .int 1, .int y_360, .ref q_1, .ref q_3, .ref q_5, .int y_361, .ref q_7, .ref q_9, .ref q_11, .ref q_13, .int 0, .int 0, .ref q_15, .int 0, .int 0, .ref q_17, .ref q_19, .ref q_21, .int 0, .ref q_23, .ref q_25])), (q_1, .inl (cI, 8, .inl (upd ym_2_347 y_360.toNatClampNeg y_361))), (q_3, .inl (cI, 8, .inl (upd ym_4_348 y_360.toNatClampNeg x3_364))), (q_5, .inl (cI, 8, .inl ym_6_349)), (q_7, .inl (cI, 1400, .inl ym_8_350)), (q_9, .inl (cI, 2800, .inl ym_10_351)), (q_11, .inl (cZ, 2800, .inl ym_12_352)), (q_13, .inl (cZ, 40000, .inl ym_14_353)), (q_15, .inl (cZ, 40000, .inl ym_16_354)), (q_17, .inl (cI, 8, .inl ym_18_355)), (q_19, .inl (cI, 8, .inl ym_20_356)), (q_21, .inl (cZ, 8, .inl ym_22_357)), (q_23, .inl (cI, 1400, .inl ym_24_358)), (q_25, .inl (cZ, 1400, .inl ym_26_359))]) := hD
            refine lv_aload_n hx hb dX4_init_205 rfl (lv_at hl 3 rfl) ?_
            refine va_get (D := (dC, dI)) (ci := 4) (v := .ref q_5) (C := RX4) (T := TX4) (N := 23) hx hb hT inX4 hown hK hP 0 rfl rfl 6 (by decide) (hT _ k_164) (fun _ h9 => h9) rfl dX4_init_206 ?_
            refine lv_aload_n hx hb dX4_init_209 rfl (lv_at hl 3 rfl) ?_
            refine va_get (D := (dC, dI)) (ci := 4) (v := .int y_360) (C := RX4) (T := TX4) (N := 23) hx hb hT inX4 hown hK hP 0 rfl rfl 3 (by decide) (hT _ k_179) (fun _ h9 => h9) rfl dX4_init_210 ?_
            refine lv_iload hx hb dX4_init_213 (lv_at hl 1 rfl) ?_
            obtain ⟨h_369, hw⟩ := hw
            refine va_iast hx hb hK hP hD hS 3 0 rfl rfl h_369 dX4_init_215 (fun H locs hP hD hS => ?_)
            have hP : va_P (dC, dI) vwCl ([(a0, .inr (4, [.int 0, .int 1, .int 1, .int y_360, .ref q_1, .ref q_3, .ref q_5, .int y_361, .ref q_7, .ref q_9, .ref q_11, .ref q_13, .int 0, .int 0, .ref q_15, .int 0, .int 0, .ref q_17, .ref q_19, .ref q_21, .int 0, .ref q_23, .ref q_25])), (q_1, .inl (cI, 8, .inl (upd ym_2_347 y_360.toNatClampNeg y_361))), (q_3, .inl (cI, 8, .inl (upd ym_4_348 y_360.toNatClampNeg x3_364))), (q_5, .inl (cI, 8, .inl (upd ym_6_349 y_360.toNatClampNeg x4_363))), (q_7, .inl (cI, 1400, .inl ym_8_350)), (q_9, .inl (cI, 2800, .inl ym_10_351)), (q_11, .inl (cZ, 2800, .inl ym_12_352)), (q_13, .inl (cZ, 40000, .inl ym_14_353)), (q_15, .inl (cZ, 40000, .inl ym_16_354)), (q_17, .inl (cI, 8, .inl ym_18_355)), (q_19, .inl (cI, 8, .inl ym_20_356)), (q_21, .inl (cZ, 8, .inl ym_22_357)), (q_23, .inl (cI, 1400, .inl ym_24_358)), (q_25, .inl (cZ, 1400, .inl ym_26_359))]) H := hP
            have hD : va_D A ([(a0, .inr (4, [.int 0, .int 1, .int 1, .int y_360, .ref q_1, .ref q_3, .ref q_5, .int y_361, .ref q_7, .ref q_9, .ref q_11, .ref q_13, .int 0, .int 0, .ref q_15, .int 0, .int 0, .ref q_17, .ref q_19, .ref q_21, .int 0, .ref q_23, .ref q_25])), (q_1, .inl (cI, 8, .inl (upd ym_2_347 y_360.toNatClampNeg y_361))), (q_3, .inl (cI, 8, .inl (upd ym_4_348 y_360.toNatClampNeg x3_364))), (q_5, .inl (cI, 8, .inl (upd ym_6_349 y_360.toNatClampNeg x4_363))), (q_7, .inl (cI, 1400, .inl ym_8_350)), (q_9, .inl (cI, 2800, .inl ym_10_351)), (q_11, .inl (cZ, 2800, .inl ym_12_352)), (q_13, .inl (cZ, 40000, .inl ym_14_353)), (q_15, .inl (cZ, 40000, .inl ym_16_354)), (q_17, .inl (cI, 8, .inl ym_18_355)), (q_19, .inl (cI, 8, .inl ym_20_356)), (q_21, .inl (cZ, 8, .inl ym_22_357)), (q_23, .inl (cI, 1400, .inl ym_24_358)), (q_25, .inl (cZ, 1400, .inl ym_26_359))]) := hD
            refine lv_aload_n hx hb dX4_init_216 rfl (lv_at hl 3 rfl) ?_
            refine lv_dup hx hb dX4_init_217 rfl ?_
            refine va_get (D := (dC, dI)) (ci := 4) (v := .int y_361) (C := RX4) (T := TX4) (N := 23) hx hb hT inX4 hown hK hP 0 rfl rfl 7 (by decide) (hT _ k_180) (fun _ h9 => h9) rfl dX4_init_218 ?_
            refine lv_iload_n hx hb dX4_init_221 rfl (lv_at hl 2 rfl) ?_
            refine lv_iload hx hb dX4_init_222 (lv_at hl 1 rfl) ?_
            refine lv_imul hx hb dX4_init_224 ?_
            refine lv_iadd hx hb dX4_init_225 ?_
            refine lv_topi (fun f_370 ef_370 => ?_)
            have hw := hw f_370 ef_370
            refine va_put (D := (dC, dI)) (ci := 4) (v := .int f_370) (ty := .int) (C := RX4) (T := TX4) (N := 23) hx hb hT inX4 tyX4 tyX4_ok nmX4 hown hK hP hD hS 0 rfl rfl 7 (by decide) (hT _ k_180) (fun _ h9 => h9) rfl (by decide +kernel) rfl rfl (Nat.le_of_ble_eq_true rfl) dX4_init_226 (fun H locs hP hD hS => ?_)
            have hP : va_P (dC, dI) vwCl ([(a0, .inr (4, [.int 0, .int 1, .int 1, .int y_360, .ref q_1, .ref q_3, .ref q_5, .int f_370, .ref q_7, .ref q_9, .ref q_11, .ref q_13, .int 0, .int 0, .ref q_15, .int 0, .int 0, .ref q_17, .ref q_19, .ref q_21, .int 0, .ref q_23, .ref q_25])), (q_1, .inl (cI, 8, .inl (upd ym_2_347 y_360.toNatClampNeg y_361))), (q_3, .inl (cI, 8, .inl (upd ym_4_348 y_360.toNatClampNeg x3_364))), (q_5, .inl (cI, 8, .inl (upd ym_6_349 y_360.toNatClampNeg x4_363))), (q_7, .inl (cI, 1400, .inl ym_8_350)), (q_9, .inl (cI, 2800, .inl ym_10_351)), (q_11, .inl (cZ, 2800, .inl ym_12_352)), (q_13, .inl (cZ, 40000, .inl ym_14_353)), (q_15, .inl (cZ, 40000, .inl ym_16_354)), (q_17, .inl (cI, 8, .inl ym_18_355)), (q_19, .inl (cI, 8, .inl ym_20_356)), (q_21, .inl (cZ, 8, .inl ym_22_357)), (q_23, .inl (cI, 1400, .inl ym_24_358)), (q_25, .inl (cZ, 1400, .inl ym_26_359))]) H := hP
            have hD : va_D A ([(a0, .inr (4, [.int 0, .int 1, .int 1, .int y_360, .ref q_1, .ref q_3, .ref q_5, .int f_370, .ref q_7, .ref q_9, .ref q_11, .ref q_13, .int 0, .int 0, .ref q_15, .int 0, .int 0, .ref q_17, .ref q_19, .ref q_21, .int 0, .ref q_23, .ref q_25])), (q_1, .inl (cI, 8, .inl (upd ym_2_347 y_360.toNatClampNeg y_361))), (q_3, .inl (cI, 8, .inl (upd ym_4_348 y_360.toNatClampNeg x3_364))), (q_5, .inl (cI, 8, .inl (upd ym_6_349 y_360.toNatClampNeg x4_363))), (q_7, .inl (cI, 1400, .inl ym_8_350)), (q_9, .inl (cI, 2800, .inl ym_10_351)), (q_11, .inl (cZ, 2800, .inl ym_12_352)), (q_13, .inl (cZ, 40000, .inl ym_14_353)), (q_15, .inl (cZ, 40000, .inl ym_16_354)), (q_17, .inl (cI, 8, .inl ym_18_355)), (q_19, .inl (cI, 8, .inl ym_20_356)), (q_21, .inl (cZ, 8, .inl ym_22_357)), (q_23, .inl (cI, 1400, .inl ym_24_358)), (q_25, .inl (cZ, 1400, .inl ym_26_359))]) := hD
            refine lv_aload_n hx hb dX4_init_229 rfl (lv_at hl 3 rfl) ?_
            refine lv_dup hx hb dX4_init_230 rfl ?_
            refine va_get (D := (dC, dI)) (ci := 4) (v := .int y_360) (C := RX4) (T := TX4) (N := 23) hx hb hT inX4 hown hK hP 0 rfl rfl 3 (by decide) (hT _ k_179) (fun _ h9 => h9) rfl dX4_init_231 ?_
            refine lv_iconst (v := 1) hx hb dX4_init_234 (by decide) ?_
            refine lv_iadd hx hb dX4_init_235 ?_
            refine lv_topi (fun f_371 ef_371 => ?_)
            have hw := hw f_371 ef_371
            refine va_put (D := (dC, dI)) (ci := 4) (v := .int f_371) (ty := .int) (C := RX4) (T := TX4) (N := 23) hx hb hT inX4 tyX4 tyX4_ok nmX4 hown hK hP hD hS 0 rfl rfl 3 (by decide) (hT _ k_179) (fun _ h9 => h9) rfl (by decide +kernel) rfl rfl (Nat.le_of_ble_eq_true rfl) dX4_init_236 (fun H locs hP hD hS => ?_)
            have hP : va_P (dC, dI) vwCl ([(a0, .inr (4, [.int 0, .int 1, .int 1, .int f_371, .ref q_1, .ref q_3, .ref q_5, .int f_370, .ref q_7, .ref q_9, .ref q_11, .ref q_13, .int 0, .int 0, .ref q_15, .int 0, .int 0, .ref q_17, .ref q_19, .ref q_21, .int 0, .ref q_23, .ref q_25])), (q_1, .inl (cI, 8, .inl (upd ym_2_347 y_360.toNatClampNeg y_361))), (q_3, .inl (cI, 8, .inl (upd ym_4_348 y_360.toNatClampNeg x3_364))), (q_5, .inl (cI, 8, .inl (upd ym_6_349 y_360.toNatClampNeg x4_363))), (q_7, .inl (cI, 1400, .inl ym_8_350)), (q_9, .inl (cI, 2800, .inl ym_10_351)), (q_11, .inl (cZ, 2800, .inl ym_12_352)), (q_13, .inl (cZ, 40000, .inl ym_14_353)), (q_15, .inl (cZ, 40000, .inl ym_16_354)), (q_17, .inl (cI, 8, .inl ym_18_355)), (q_19, .inl (cI, 8, .inl ym_20_356)), (q_21, .inl (cZ, 8, .inl ym_22_357)), (q_23, .inl (cI, 1400, .inl ym_24_358)), (q_25, .inl (cZ, 1400, .inl ym_26_359))]) H := hP
            have hD : va_D A ([(a0, .inr (4, [.int 0, .int 1, .int 1, .int f_371, .ref q_1, .ref q_3, .ref q_5, .int f_370, .ref q_7, .ref q_9, .ref q_11, .ref q_13, .int 0, .int 0, .ref q_15, .int 0, .int 0, .ref q_17, .ref q_19, .ref q_21, .int 0, .ref q_23, .ref q_25])), (q_1, .inl (cI, 8, .inl (upd ym_2_347 y_360.toNatClampNeg y_361))), (q_3, .inl (cI, 8, .inl (upd ym_4_348 y_360.toNatClampNeg x3_364))), (q_5, .inl (cI, 8, .inl (upd ym_6_349 y_360.toNatClampNeg x4_363))), (q_7, .inl (cI, 1400, .inl ym_8_350)), (q_9, .inl (cI, 2800, .inl ym_10_351)), (q_11, .inl (cZ, 2800, .inl ym_12_352)), (q_13, .inl (cZ, 40000, .inl ym_14_353)), (q_15, .inl (cZ, 40000, .inl ym_16_354)), (q_17, .inl (cI, 8, .inl ym_18_355)), (q_19, .inl (cI, 8, .inl ym_20_356)), (q_21, .inl (cZ, 8, .inl ym_22_357)), (q_23, .inl (cI, 1400, .inl ym_24_358)), (q_25, .inl (cZ, 1400, .inl ym_26_359))]) := hD
            refine lv_iload_n hx hb dX4_init_239 rfl (lv_at hl 2 rfl) ?_
            refine lv_iconst (v := 1) hx hb dX4_init_240 (by decide) ?_
            refine lv_icmp_gt (tgt := 250) hx hb dX4_init_241 (by decide) (fun c_372 => ?_) (fun c_372 => ?_)
            · have hw := hw.1 c_372
              refine lv_iconst (v := 1) hx hb dX4_init_250 (by decide) ?_
              refine lv_goto (tgt := 255) hx hb dX4_init_251 (by decide) ?_
              refine lv_istore (lv' := [(5, .int 1), (4, .int x4_363), (3, .int x3_364), (0, .ref a0), (1, .int x1), (2, .int x2)]) hx hb dX4_init_255 hl (by decide) rfl (fun ls hl => ?_)
              refine lv_iload_n hx hb dX4_init_257 rfl (lv_at hl 2 rfl) ?_
              refine lv_iconst (v := 1) hx hb dX4_init_258 (by decide) ?_
              refine lv_iadd hx hb dX4_init_259 ?_
              refine lv_iconst (v := 2) hx hb dX4_init_260 (by decide) ?_
              obtain ⟨h_373, hw⟩ := hw
              refine lv_idiv hx hb dX4_init_261 h_373 ?_
              refine lv_topi (fun x3_374 ex3_374 => ?_)
              have hw := hw x3_374 ex3_374
              refine lv_istore_n (lv' := [(3, .int x3_374), (5, .int 1), (4, .int x4_363), (0, .ref a0), (1, .int x1), (2, .int x2)]) hx hb dX4_init_262 rfl hl (by decide) rfl (fun ls hl => ?_)
              refine lv_iload hx hb dX4_init_263 (lv_at hl 2 rfl) ?_
              refine lv_iconst (v := 1) hx hb dX4_init_265 (by decide) ?_
              refine lv_iadd hx hb dX4_init_266 ?_
              refine lv_iconst (v := 2) hx hb dX4_init_267 (by decide) ?_
              obtain ⟨h_375, hw⟩ := hw
              refine lv_idiv hx hb dX4_init_268 h_375 ?_
              refine lv_topi (fun x4_376 ex4_376 => ?_)
              have hw := hw x4_376 ex4_376
              refine lv_istore (lv' := [(4, .int x4_376), (3, .int x3_374), (5, .int 1), (0, .ref a0), (1, .int x1), (2, .int x2)]) hx hb dX4_init_269 hl (by decide) rfl (fun ls hl => ?_)
              refine lv_goto (tgt := 177) hx hb dX4_init_271 (by decide) ?_
              exact ih177_8 (upd ym_2_347 y_360.toNatClampNeg y_361) (upd ym_4_348 y_360.toNatClampNeg x3_364) (upd ym_6_349 y_360.toNatClampNeg x4_363) ym_8_350 ym_10_351 ym_12_352 ym_14_353 ym_16_354 ym_18_355 ym_20_356 ym_22_357 ym_24_358 ym_26_359 f_371 f_370 1 x4_376 x3_374 hw _ _ _ hP hD hS (lv_sub hl [2, 0, 1, 3, 4, 5] rfl)
            · have hw := hw.2 c_372
              refine lv_iload hx hb dX4_init_244 (lv_at hl 1 rfl) ?_
              refine lv_iconst (v := 1) hx hb dX4_init_246 (by decide) ?_
              refine lv_icmp_le (tgt := 254) hx hb dX4_init_247 (by decide) (fun c_377 => ?_) (fun c_377 => ?_)
              · have hw := hw.1 c_377
                refine lv_iconst (v := 0) hx hb dX4_init_254 (by decide) ?_
                refine lv_istore (lv' := [(5, .int 0), (4, .int x4_363), (3, .int x3_364), (0, .ref a0), (1, .int x1), (2, .int x2)]) hx hb dX4_init_255 hl (by decide) rfl (fun ls hl => ?_)
                refine lv_iload_n hx hb dX4_init_257 rfl (lv_at hl 2 rfl) ?_
                refine lv_iconst (v := 1) hx hb dX4_init_258 (by decide) ?_
                refine lv_iadd hx hb dX4_init_259 ?_
                refine lv_iconst (v := 2) hx hb dX4_init_260 (by decide) ?_
                obtain ⟨h_378, hw⟩ := hw
                refine lv_idiv hx hb dX4_init_261 h_378 ?_
                refine lv_topi (fun x3_379 ex3_379 => ?_)
                have hw := hw x3_379 ex3_379
                refine lv_istore_n (lv' := [(3, .int x3_379), (5, .int 0), (4, .int x4_363), (0, .ref a0), (1, .int x1), (2, .int x2)]) hx hb dX4_init_262 rfl hl (by decide) rfl (fun ls hl => ?_)
                refine lv_iload hx hb dX4_init_263 (lv_at hl 2 rfl) ?_
                refine lv_iconst (v := 1) hx hb dX4_init_265 (by decide) ?_
                refine lv_iadd hx hb dX4_init_266 ?_
                refine lv_iconst (v := 2) hx hb dX4_init_267 (by decide) ?_
                obtain ⟨h_380, hw⟩ := hw
                refine lv_idiv hx hb dX4_init_268 h_380 ?_
                refine lv_topi (fun x4_381 ex4_381 => ?_)
                have hw := hw x4_381 ex4_381
                refine lv_istore (lv' := [(4, .int x4_381), (3, .int x3_379), (5, .int 0), (0, .ref a0), (1, .int x1), (2, .int x2)]) hx hb dX4_init_269 hl (by decide) rfl (fun ls hl => ?_)
                refine lv_goto (tgt := 177) hx hb dX4_init_271 (by decide) ?_
                exact ih177_8 (upd ym_2_347 y_360.toNatClampNeg y_361) (upd ym_4_348 y_360.toNatClampNeg x3_364) (upd ym_6_349 y_360.toNatClampNeg x4_363) ym_8_350 ym_10_351 ym_12_352 ym_14_353 ym_16_354 ym_18_355 ym_20_356 ym_22_357 ym_24_358 ym_26_359 f_371 f_370 0 x4_381 x3_379 hw _ _ _ hP hD hS (lv_sub hl [2, 0, 1, 3, 4, 5] rfl)
              · have hw := hw.2 c_377
                refine lv_iconst (v := 1) hx hb dX4_init_250 (by decide) ?_
                refine lv_goto (tgt := 255) hx hb dX4_init_251 (by decide) ?_
                refine lv_istore (lv' := [(5, .int 1), (4, .int x4_363), (3, .int x3_364), (0, .ref a0), (1, .int x1), (2, .int x2)]) hx hb dX4_init_255 hl (by decide) rfl (fun ls hl => ?_)
                refine lv_iload_n hx hb dX4_init_257 rfl (lv_at hl 2 rfl) ?_
                refine lv_iconst (v := 1) hx hb dX4_init_258 (by decide) ?_
                refine lv_iadd hx hb dX4_init_259 ?_
                refine lv_iconst (v := 2) hx hb dX4_init_260 (by decide) ?_
                obtain ⟨h_382, hw⟩ := hw
                refine lv_idiv hx hb dX4_init_261 h_382 ?_
                refine lv_topi (fun x3_383 ex3_383 => ?_)
                have hw := hw x3_383 ex3_383
                refine lv_istore_n (lv' := [(3, .int x3_383), (5, .int 1), (4, .int x4_363), (0, .ref a0), (1, .int x1), (2, .int x2)]) hx hb dX4_init_262 rfl hl (by decide) rfl (fun ls hl => ?_)
                refine lv_iload hx hb dX4_init_263 (lv_at hl 2 rfl) ?_
                refine lv_iconst (v := 1) hx hb dX4_init_265 (by decide) ?_
                refine lv_iadd hx hb dX4_init_266 ?_
                refine lv_iconst (v := 2) hx hb dX4_init_267 (by decide) ?_
                obtain ⟨h_384, hw⟩ := hw
                refine lv_idiv hx hb dX4_init_268 h_384 ?_
                refine lv_topi (fun x4_385 ex4_385 => ?_)
                have hw := hw x4_385 ex4_385
                refine lv_istore (lv' := [(4, .int x4_385), (3, .int x3_383), (5, .int 1), (0, .ref a0), (1, .int x1), (2, .int x2)]) hx hb dX4_init_269 hl (by decide) rfl (fun ls hl => ?_)
                refine lv_goto (tgt := 177) hx hb dX4_init_271 (by decide) ?_
                exact ih177_8 (upd ym_2_347 y_360.toNatClampNeg y_361) (upd ym_4_348 y_360.toNatClampNeg x3_364) (upd ym_6_349 y_360.toNatClampNeg x4_363) ym_8_350 ym_10_351 ym_12_352 ym_14_353 ym_16_354 ym_18_355 ym_20_356 ym_22_357 ym_24_358 ym_26_359 f_371 f_370 1 x4_385 x3_383 hw _ _ _ hP hD hS (lv_sub hl [2, 0, 1, 3, 4, 5] rfl)
      exact hlp177_8 n_365 (fun _ => 0) (fun _ => 0) (fun _ => 0) (fun _ => 0) (fun _ => 0) (fun _ => 0) (fun _ => 0) (fun _ => 0) (fun _ => 0) (fun _ => 0) (fun _ => 0) (fun _ => 0) (fun _ => 0) 0 0 1 1 1 hw _ _ _ hP hD hS (lv_sub hl [0, 1, 2, 3, 4, 5] rfl)
def wp_X0_init (post : vBR → Prop)  : Prop := post ((fun _ => 0), 0, 0)
abbrev rm_X0_init : Room := { frames := 1, cells := 1, slots := 1250, locals := 12 }
set_option maxHeartbeats 4000000 in
set_option maxRecDepth 100000 in
theorem met_X0_init (l : Launch) (dC : Nat → ClassId) (dI : Nat → Nat → Nat) (cI cZ cJ cL : ClassId) (a0 : Nat) (sz : Nat) (post : vBR → Prop)  (hw : wp_X0_init post ) : Met l yX0_init wsX0_init rm_X0_init (pcW (dC, dI) (tysA cI cZ cJ cL) [(a0, .inr (0, [.null, .int 0, .int 0]))] sz [.ref a0]) (va_Qv post (fun (u : vBR) t => ∃ a1 : Nat, qB (dC, dI) (tysA cI cZ cJ cL) (va_A [(a0, .inr (0, [.null, .int 0, .int 0]))] sz) (wBR cI a0 a1 u) t) (va_A [(a0, .inr (0, [.null, .int 0, .int 0]))] sz)) 1 1250 (va_A [(a0, .inr (0, [.null, .int 0, .int 0]))] sz) := by
  refine Met.ofW (cc := cX0_init) (maxL := 1) (ret := none) (by decide) rfl ?_
  intro p e s m args below meth c s₁ Bd hml hv
  obtain ⟨hargs, hsz, hP, hK, hD0⟩ := hv
  have hx := Bd.exec
  have hb := Bd.bytes
  have hr := Bd.returns
  have hts := atoms_spec (ws := wsX0_init) Bd.pre
  have hT : ∀ w ∈ WALL, w.before args s = true := fun w h => hts w (List.mem_cons_of_mem _ h)
  have hown : s.vm.findClass RX0 = some m.cls := findClass_of_methodNamed Bd.named
  have hlocks := Bd.notSynchronized
  have hin : meth.name = "<init>" := (name_of_methodNamed Bd.named Bd.method).1
  subst hsz
  have hD := hD0.self (sz := s.heap.size)
  generalize hAe : va_A [(a0, .inr (0, [.null, .int 0, .int 0]))] s.heap.size = A at hD ⊢
  have hA : ∀ q : Nat, s.heap.size ≤ q → A q := fun q h => by rw [← hAe]; exact Or.inr h
  have hS : va_S A s.heap s.heap [] := va_S.rf
  have hP : va_P (dC, dI) vwCl [(a0, .inr (0, [.null, .int 0, .int 0]))] s.heap := hP
  have hl := lv_entry ([.ref a0]) (n := 1) (Nat.le_of_ble_eq_true rfl)
  rw [show entryFrame m args 1 = F0 m 0 _ [] from by rw [hargs]; exact lg_entry_eq m ([.ref a0]) 1]
  generalize (lg_sl ([.ref a0]) ++ List.replicate (1 - (lg_sl ([.ref a0])).length) Slot.unset).toArray = ls at hl ⊢
  have hl : lv_has ls 1 [(0, .ref a0)] := hl
  obtain ⟨H, hH⟩ : ∃ z : Heap, z = s.heap := ⟨_, rfl⟩
  obtain ⟨locs, hlocs⟩ : ∃ z : List Loc, z = [] := ⟨_, rfl⟩
  rw [show W p l e (headSpec wsX0_init rm_X0_init).room s m args below meth c s.heap [] 0 0 = W p l e (headSpec wsX0_init rm_X0_init).room s m args below meth c H locs 0 0 from by rw [hH, hlocs]]
  have hP : va_P (dC, dI) vwCl [(a0, .inr (0, [.null, .int 0, .int 0]))] H := by rw [hH]; exact hP
  have hS : va_S A s.heap H locs := by rw [hH, hlocs]; exact hS
  unfold wp_X0_init at hw
  refine lv_aload_n hx hb dX0_init_0 rfl (lv_at hl 0 rfl) ?_
  refine W.objInit hx hb hown (hT _ k_181) (hT _ k_159) (hT _ k_160) rfl (by rw [hml]; exact hl.1) rfl dX0_init_1 (Nat.le_of_ble_eq_true rfl) (Nat.le_of_ble_eq_true rfl) ?_
  refine W.eq (g2 := F0 m 4 ls []) rfl ?_
  refine lv_aload_n hx hb dX0_init_4 rfl (lv_at hl 0 rfl) ?_
  refine lv_sipush (v := 1250) hx hb dX0_init_5 (by decide) ?_
  refine va_newa (atype := .int) (N' := 1250) (a0 := (1250, .inl (fun _ => 0))) (ty := .int) (n := 1250) hx hb (hT _ k_161) rfl hK hP hD hS hA (fun _ => rfl) (by decide) (by decide) (by decide) (Nat.le_of_ble_eq_true rfl) (Nat.le_of_ble_eq_true rfl) dX0_init_8 (fun q_1 cA9 H hK9 hP hD hS => ?_)
  rw [cA_eq hK9 0 rfl 4 rfl] at hP hD
  have hP : va_P (dC, dI) vwCl ([(a0, .inr (0, [.null, .int 0, .int 0])), (q_1, .inl (cI, 1250, .inl (fun _ => 0)))]) H := hP
  have hD : va_D A ([(a0, .inr (0, [.null, .int 0, .int 0])), (q_1, .inl (cI, 1250, .inl (fun _ => 0)))]) := hD
  refine W.widen (k := 1) (n := 1250) (Nat.le_of_ble_eq_true rfl) (Nat.le_of_ble_eq_true rfl) ?_
  refine va_putF (D := (dC, dI)) (ci := 0) (v := .ref q_1) (ty := (.array .int)) (C := RX0) (T := TX0) (N := 3) hx hb hT inX0 tyX0 tyX0_ok nmX0 hown hK hP hD hS 0 rfl rfl 0 (by decide) (hT _ k_8) (fun _ h9 => h9) rfl hin rfl (by decide +kernel) rfl rfl (Nat.le_of_ble_eq_true rfl) dX0_init_10 (fun H locs hP hD hS => ?_)
  have hP : va_P (dC, dI) vwCl ([(a0, .inr (0, [.ref q_1, .int 0, .int 0])), (q_1, .inl (cI, 1250, .inl (fun _ => 0)))]) H := hP
  have hD : va_D A ([(a0, .inr (0, [.ref q_1, .int 0, .int 0])), (q_1, .inl (cI, 1250, .inl (fun _ => 0)))]) := hD
  refine lv_aload_n hx hb dX0_init_13 rfl (lv_at hl 0 rfl) ?_
  refine lv_iconst (v := 0) hx hb dX0_init_14 (by decide) ?_
  refine va_put (D := (dC, dI)) (ci := 0) (v := .int 0) (ty := .int) (C := RX0) (T := TX0) (N := 3) hx hb hT inX0 tyX0 tyX0_ok nmX0 hown hK hP hD hS 0 rfl rfl 1 (by decide) (hT _ k_0) (fun _ h9 => h9) rfl (by decide +kernel) rfl rfl (Nat.le_of_ble_eq_true rfl) dX0_init_15 (fun H locs hP hD hS => ?_)
  have hP : va_P (dC, dI) vwCl ([(a0, .inr (0, [.ref q_1, .int 0, .int 0])), (q_1, .inl (cI, 1250, .inl (fun _ => 0)))]) H := hP
  have hD : va_D A ([(a0, .inr (0, [.ref q_1, .int 0, .int 0])), (q_1, .inl (cI, 1250, .inl (fun _ => 0)))]) := hD
  refine lv_aload_n hx hb dX0_init_18 rfl (lv_at hl 0 rfl) ?_
  refine lv_iconst (v := 0) hx hb dX0_init_19 (by decide) ?_
  refine va_put (D := (dC, dI)) (ci := 0) (v := .int 0) (ty := .int) (C := RX0) (T := TX0) (N := 3) hx hb hT inX0 tyX0 tyX0_ok nmX0 hown hK hP hD hS 0 rfl rfl 2 (by decide) (hT _ k_2) (fun _ h9 => h9) rfl (by decide +kernel) rfl rfl (Nat.le_of_ble_eq_true rfl) dX0_init_20 (fun H locs hP hD hS => ?_)
  have hP : va_P (dC, dI) vwCl ([(a0, .inr (0, [.ref q_1, .int 0, .int 0])), (q_1, .inl (cI, 1250, .inl (fun _ => 0)))]) H := hP
  have hD : va_D A ([(a0, .inr (0, [.ref q_1, .int 0, .int 0])), (q_1, .inl (cI, 1250, .inl (fun _ => 0)))]) := hD
  have hP := hP.sub (ws' := (wBR cI a0 q_1 ((fun _ => 0), 0, 0))) [0, 1] rfl
  have hD := hD.sub (ws' := (wBR cI a0 q_1 ((fun _ => 0), 0, 0))) [0, 1] (by decide) rfl
  exact W.vret hx hb hr (fun t ht hW => ⟨⟨((fun _ => 0), 0, 0), rfl, hw, q_1, by rw [ht]; exact hP, va_K.moved hW.alike hK, hD⟩, hS.F ht⟩) hS.2.2 dX0_init_23
def wp_X1_fillRowsAndColumns_L12 (post : vRW → Prop) (ex12 : vRW → Int32 → Prop) (nl : Nat) (Z : Int32 × Int32 × Int32 × Int32 × Int32) (F : (Nat → Int32) × (Nat → Int32) × (Nat → Int32)) (x1_2 : Int32) : Nat → vRW → Int32 → Prop
  | 0, _, _ => False
  | n_7 + 1, R9_5, x2_6 => ((Z.1 ≤ x2_6 → (ex12 R9_5 x2_6)) ∧ (¬ Z.1 ≤ x2_6 → (vp_in ((x1_2 * Z.1) + x2_6) nl ∧ (vp_in ((x2_6 * Z.2.1) + x1_2) nl ∧ (∀ x2_16 : Int32, x2_16 = x2_6 + 1 → (wp_X1_fillRowsAndColumns_L12 post ex12 nl Z F x1_2 n_7 ((upd R9_5.1 (((x1_2 * Z.1) + x2_6).toNatClampNeg) ((32 * x1_2) + x2_6)), (upd R9_5.2.1 (((x2_6 * Z.2.1) + x1_2).toNatClampNeg) ((32 * x1_2) + x2_6)), R9_5.2.2) x2_16))))))
def wp_X1_fillRowsAndColumns_L2 (post : vRW → Prop) (ex2 : vRW → Int32 → Prop) (nl : Nat) (Z : Int32 × Int32 × Int32 × Int32 × Int32) (F : (Nat → Int32) × (Nat → Int32) × (Nat → Int32)) : Nat → vRW → Int32 → Prop
  | 0, _, _ => False
  | n_3 + 1, R9_1, x1_2 => ((Z.2.1 ≤ x1_2 → (ex2 R9_1 x1_2)) ∧ (¬ Z.2.1 ≤ x1_2 → (∃ n_7 : Nat, wp_X1_fillRowsAndColumns_L12 post (fun (R9_5 : vRW) (x2_6 : Int32) => ∀ x1_8 : Int32, x1_8 = x1_2 + 1 → (wp_X1_fillRowsAndColumns_L2 post ex2 nl Z F n_3 R9_5 x1_8)) nl Z F x1_2 n_7 R9_1 0)))
def wp_X1_fillRowsAndColumns (post : vRW → Prop) (nl : Nat) (Z : Int32 × Int32 × Int32 × Int32 × Int32) (F : (Nat → Int32) × (Nat → Int32) × (Nat → Int32)) (R9 : vRW)  : Prop := ∃ n_3 : Nat, wp_X1_fillRowsAndColumns_L2 post (fun (R9_1 : vRW) (x1_2 : Int32) => post R9_1) nl Z F n_3 R9 0
abbrev rm_X1_fillRowsAndColumns : Room := { frames := 0, cells := 0, slots := 0, locals := 0 }
set_option maxHeartbeats 4000000 in
set_option maxRecDepth 100000 in
theorem met_X1_fillRowsAndColumns (l : Launch) (dC : Nat → ClassId) (dI : Nat → Nat → Nat) (cI cZ cJ cL : ClassId) (a0 a1 a2 a3 a4 : Nat) (ra : Nat → Nat) (sz : Nat) (post : vRW → Prop) (nl : Nat) (Z : Int32 × Int32 × Int32 × Int32 × Int32) (F : (Nat → Int32) × (Nat → Int32) × (Nat → Int32)) (R9 : vRW)  (hw : wp_X1_fillRowsAndColumns post nl Z F R9 ) : Met l yX1_fillRowsAndColumns wsX1_fillRowsAndColumns rm_X1_fillRowsAndColumns (pcW (dC, dI) (tysA cI cZ cJ cL) (wSG cI cJ nl a0 a1 a2 a3 a4 ra Z F R9) sz [.ref a0]) (va_Qv post (fun u t => qB (dC, dI) (tysA cI cZ cJ cL) (va_A (wSG cI cJ nl a0 a1 a2 a3 a4 ra Z F R9) sz) (wSG cI cJ nl a0 a1 a2 a3 a4 ra Z F u) t) (va_A (wSG cI cJ nl a0 a1 a2 a3 a4 ra Z F R9) sz)) 0 0 (va_A (wSG cI cJ nl a0 a1 a2 a3 a4 ra Z F R9) sz) := by
  refine Met.ofW (cc := cX1_fillRowsAndColumns) (maxL := 3) (ret := none) (by decide) rfl ?_
  intro p e s m args below meth c s₁ Bd hml hv
  obtain ⟨hargs, hsz, hP, hK, hD0⟩ := hv
  have hx := Bd.exec
  have hb := Bd.bytes
  have hr := Bd.returns
  have hts := atoms_spec (ws := wsX1_fillRowsAndColumns) Bd.pre
  have hT : ∀ w ∈ WALL, w.before args s = true := fun w h => hts w (List.mem_cons_of_mem _ h)
  have hown : s.vm.findClass RX1 = some m.cls := findClass_of_methodNamed Bd.named
  have hlocks := Bd.notSynchronized
  subst hsz
  have hD := hD0.self (sz := s.heap.size)
  generalize hAe : va_A (wSG cI cJ nl a0 a1 a2 a3 a4 ra Z F R9) s.heap.size = A at hD ⊢
  have hA : ∀ q : Nat, s.heap.size ≤ q → A q := fun q h => by rw [← hAe]; exact Or.inr h
  have hS : va_S A s.heap s.heap [] := va_S.rf
  have hP : va_P (dC, dI) vwCl (wSG cI cJ nl a0 a1 a2 a3 a4 ra Z F R9) s.heap := hP
  have hl := lv_entry ([.ref a0]) (n := 3) (Nat.le_of_ble_eq_true rfl)
  rw [show entryFrame m args 3 = F0 m 0 _ [] from by rw [hargs]; exact lg_entry_eq m ([.ref a0]) 3]
  generalize (lg_sl ([.ref a0]) ++ List.replicate (3 - (lg_sl ([.ref a0])).length) Slot.unset).toArray = ls at hl ⊢
  have hl : lv_has ls 3 [(0, .ref a0)] := hl
  obtain ⟨H, hH⟩ : ∃ z : Heap, z = s.heap := ⟨_, rfl⟩
  obtain ⟨locs, hlocs⟩ : ∃ z : List Loc, z = [] := ⟨_, rfl⟩
  rw [show W p l e (headSpec wsX1_fillRowsAndColumns rm_X1_fillRowsAndColumns).room s m args below meth c s.heap [] 0 0 = W p l e (headSpec wsX1_fillRowsAndColumns rm_X1_fillRowsAndColumns).room s m args below meth c H locs 0 0 from by rw [hH, hlocs]]
  have hP : va_P (dC, dI) vwCl (wSG cI cJ nl a0 a1 a2 a3 a4 ra Z F R9) H := by rw [hH]; exact hP
  have hS : va_S A s.heap H locs := by rw [hH, hlocs]; exact hS
  unfold wp_X1_fillRowsAndColumns at hw
  refine lv_iconst (v := 0) hx hb dX1_fillRowsAndColumns_0 (by decide) ?_
  refine lv_istore_n (lv' := [(1, .int 0), (0, .ref a0)]) hx hb dX1_fillRowsAndColumns_1 rfl hl (by decide) rfl (fun ls hl => ?_)
  obtain ⟨n_3, hw⟩ := hw
  obtain ⟨ex2, eex2⟩ : ∃ z : vRW → Int32 → Prop, z = (fun (R9_1 : vRW) (x1_2 : Int32) => post R9_1) := ⟨_, rfl⟩
  rw [← eex2] at hw
  have hx2 : ∀ (R9_1 : vRW) (x1_2 : Int32), ex2 R9_1 x1_2 → ∀ (H : Heap) (locs : List Loc) (ls : Array Slot), va_P (dC, dI) vwCl (wSG cI cJ nl a0 a1 a2 a3 a4 ra Z F R9_1) H → va_D A (wSG cI cJ nl a0 a1 a2 a3 a4 ra Z F R9_1) → va_S A s.heap H locs → lv_has ls 3 [(1, .int x1_2), (0, .ref a0)] → W p l e (headSpec wsX1_fillRowsAndColumns rm_X1_fillRowsAndColumns).room s m args below meth c H locs 0 0 (MQ below (va_Qv post (fun u t => qB (dC, dI) (tysA cI cZ cJ cL) A (wSG cI cJ nl a0 a1 a2 a3 a4 ra Z F u) t) A) args s 0 0 A) (F0 m 74 ls []) := by
    intro R9_1 x1_2 hw H locs ls hP hD hS hl
    rw [eex2] at hw
    try dsimp only at hw
    exact W.vret hx hb hr (fun t ht hW => ⟨⟨R9_1, rfl, hw, by rw [ht]; exact hP, va_K.moved hW.alike hK, hD⟩, hS.F ht⟩) hS.2.2 dX1_fillRowsAndColumns_74
  have hlp2 : ∀ (n_3 : Nat) (R9_1 : vRW) (x1_2 : Int32), wp_X1_fillRowsAndColumns_L2 post ex2 nl Z F n_3 R9_1 x1_2 → ∀ (H : Heap) (locs : List Loc) (ls : Array Slot), va_P (dC, dI) vwCl (wSG cI cJ nl a0 a1 a2 a3 a4 ra Z F R9_1) H → va_D A (wSG cI cJ nl a0 a1 a2 a3 a4 ra Z F R9_1) → va_S A s.heap H locs → lv_has ls 3 [(1, .int x1_2), (0, .ref a0)] → W p l e (headSpec wsX1_fillRowsAndColumns rm_X1_fillRowsAndColumns).room s m args below meth c H locs 0 0 (MQ below (va_Qv post (fun u t => qB (dC, dI) (tysA cI cZ cJ cL) A (wSG cI cJ nl a0 a1 a2 a3 a4 ra Z F u) t) A) args s 0 0 A) (F0 m 2 ls []) := by
    intro n_3
    induction n_3 with
    | zero => intro _ _ hw; exact hw.elim
    | succ n_3 ih2 =>
      intro R9_1 x1_2 hw H locs ls hP hD hS hl
      unfold wp_X1_fillRowsAndColumns_L2 at hw
      refine lv_iload_n hx hb dX1_fillRowsAndColumns_2 rfl (lv_at hl 0 rfl) ?_
      refine lv_aload_n hx hb dX1_fillRowsAndColumns_3 rfl (lv_at hl 1 rfl) ?_
      refine va_get (D := (dC, dI)) (ci := 1) (v := .int Z.2.1) (C := RX1) (T := TX1) (N := 9) hx hb hT inX1 hown hK hP 0 rfl rfl 1 (by decide) (hT _ k_182) (fun _ h9 => h9) rfl dX1_fillRowsAndColumns_4 ?_
      refine lv_icmp_ge (tgt := 74) hx hb dX1_fillRowsAndColumns_7 (by decide) (fun c_4 => ?_) (fun c_4 => ?_)
      · have hw := hw.1 c_4
        exact hx2 R9_1 x1_2 hw _ _ _ hP hD hS (lv_sub hl [0, 1] rfl)
      · have hw := hw.2 c_4
        refine lv_iconst (v := 0) hx hb dX1_fillRowsAndColumns_10 (by decide) ?_
        refine lv_istore_n (lv' := [(2, .int 0), (1, .int x1_2), (0, .ref a0)]) hx hb dX1_fillRowsAndColumns_11 rfl hl (by decide) rfl (fun ls hl => ?_)
        obtain ⟨n_7, hw⟩ := hw
        obtain ⟨ex12, eex12⟩ : ∃ z : vRW → Int32 → Prop, z = (fun (R9_5 : vRW) (x2_6 : Int32) => ∀ x1_8 : Int32, x1_8 = x1_2 + 1 → (wp_X1_fillRowsAndColumns_L2 post ex2 nl Z F n_3 R9_5 x1_8)) := ⟨_, rfl⟩
        rw [← eex12] at hw
        have hx12 : ∀ (R9_5 : vRW) (x2_6 : Int32), ex12 R9_5 x2_6 → ∀ (H : Heap) (locs : List Loc) (ls : Array Slot), va_P (dC, dI) vwCl (wSG cI cJ nl a0 a1 a2 a3 a4 ra Z F R9_5) H → va_D A (wSG cI cJ nl a0 a1 a2 a3 a4 ra Z F R9_5) → va_S A s.heap H locs → lv_has ls 3 [(2, .int x2_6), (1, .int x1_2), (0, .ref a0)] → W p l e (headSpec wsX1_fillRowsAndColumns rm_X1_fillRowsAndColumns).room s m args below meth c H locs 0 0 (MQ below (va_Qv post (fun u t => qB (dC, dI) (tysA cI cZ cJ cL) A (wSG cI cJ nl a0 a1 a2 a3 a4 ra Z F u) t) A) args s 0 0 A) (F0 m 68 ls []) := by
          intro R9_5 x2_6 hw H locs ls hP hD hS hl
          rw [eex12] at hw
          try dsimp only at hw
          obtain ⟨x1_8, ex1_8⟩ : ∃ y : Int32, y = x1_2 + 1 := ⟨_, rfl⟩
          have hw := hw x1_8 ex1_8
          refine lv_iinc (v := x1_8) (lv' := [(1, .int x1_8), (2, .int x2_6), (0, .ref a0)]) hx hb dX1_fillRowsAndColumns_68 hl (k := 1) rfl (by rw [ex1_8]; rfl) (by decide) rfl (fun ls hl => ?_)
          refine lv_goto (tgt := 2) hx hb dX1_fillRowsAndColumns_71 (by decide) ?_
          exact ih2 R9_5 x1_8 hw _ _ _ hP hD hS (lv_sub hl [0, 2] rfl)
        have hlp12 : ∀ (n_7 : Nat) (R9_5 : vRW) (x2_6 : Int32), wp_X1_fillRowsAndColumns_L12 post ex12 nl Z F x1_2 n_7 R9_5 x2_6 → ∀ (H : Heap) (locs : List Loc) (ls : Array Slot), va_P (dC, dI) vwCl (wSG cI cJ nl a0 a1 a2 a3 a4 ra Z F R9_5) H → va_D A (wSG cI cJ nl a0 a1 a2 a3 a4 ra Z F R9_5) → va_S A s.heap H locs → lv_has ls 3 [(2, .int x2_6), (1, .int x1_2), (0, .ref a0)] → W p l e (headSpec wsX1_fillRowsAndColumns rm_X1_fillRowsAndColumns).room s m args below meth c H locs 0 0 (MQ below (va_Qv post (fun u t => qB (dC, dI) (tysA cI cZ cJ cL) A (wSG cI cJ nl a0 a1 a2 a3 a4 ra Z F u) t) A) args s 0 0 A) (F0 m 12 ls []) := by
          intro n_7
          induction n_7 with
          | zero => intro _ _ hw; exact hw.elim
          | succ n_7 ih12 =>
            intro R9_5 x2_6 hw H locs ls hP hD hS hl
            unfold wp_X1_fillRowsAndColumns_L12 at hw
            refine lv_iload_n hx hb dX1_fillRowsAndColumns_12 rfl (lv_at hl 0 rfl) ?_
            refine lv_aload_n hx hb dX1_fillRowsAndColumns_13 rfl (lv_at hl 2 rfl) ?_
            refine va_get (D := (dC, dI)) (ci := 1) (v := .int Z.1) (C := RX1) (T := TX1) (N := 9) hx hb hT inX1 hown hK hP 0 rfl rfl 0 (by decide) (hT _ k_183) (fun _ h9 => h9) rfl dX1_fillRowsAndColumns_14 ?_
            refine lv_icmp_ge (tgt := 68) hx hb dX1_fillRowsAndColumns_17 (by decide) (fun c_9 => ?_) (fun c_9 => ?_)
            · have hw := hw.1 c_9
              exact hx12 R9_5 x2_6 hw _ _ _ hP hD hS (lv_sub hl [0, 1, 2] rfl)
            · have hw := hw.2 c_9
              refine lv_aload_n hx hb dX1_fillRowsAndColumns_20 rfl (lv_at hl 2 rfl) ?_
              refine va_get (D := (dC, dI)) (ci := 1) (v := .ref a4) (C := RX1) (T := TX1) (N := 9) hx hb hT inX1 hown hK hP 0 rfl rfl 8 (by decide) (hT _ k_16) (fun _ h9 => h9) rfl dX1_fillRowsAndColumns_21 ?_
              refine lv_iconst (v := 0) hx hb dX1_fillRowsAndColumns_24 (by decide) ?_
              refine tt_aald hx hb hK hP 4 2 rfl rfl (show ¬ ((0 : Int32) < 0 ∨ 3 ≤ (0 : Int32).toNatClampNeg) by decide) dX1_fillRowsAndColumns_25 ?_
              refine W.eq (g2 := F0 m 26 ls [.ref (ra 0)]) (by rw [show (0 : Int32).toNatClampNeg = 0 by decide]; rfl) ?_
              refine lv_iload_n hx hb dX1_fillRowsAndColumns_26 rfl (lv_at hl 1 rfl) ?_
              refine lv_aload_n hx hb dX1_fillRowsAndColumns_27 rfl (lv_at hl 2 rfl) ?_
              refine va_get (D := (dC, dI)) (ci := 1) (v := .int Z.1) (C := RX1) (T := TX1) (N := 9) hx hb hT inX1 hown hK hP 0 rfl rfl 0 (by decide) (hT _ k_183) (fun _ h9 => h9) rfl dX1_fillRowsAndColumns_28 ?_
              refine lv_imul hx hb dX1_fillRowsAndColumns_31 ?_
              refine lv_iload_n hx hb dX1_fillRowsAndColumns_32 rfl (lv_at hl 0 rfl) ?_
              refine lv_iadd hx hb dX1_fillRowsAndColumns_33 ?_
              refine lv_bipush (v := 32) hx hb dX1_fillRowsAndColumns_34 (by decide) ?_
              refine lv_iload_n hx hb dX1_fillRowsAndColumns_36 rfl (lv_at hl 1 rfl) ?_
              refine lv_imul hx hb dX1_fillRowsAndColumns_37 ?_
              refine lv_iload_n hx hb dX1_fillRowsAndColumns_38 rfl (lv_at hl 0 rfl) ?_
              refine lv_iadd hx hb dX1_fillRowsAndColumns_39 ?_
              obtain ⟨h_12, hw⟩ := hw
              refine va_iast hx hb hK hP hD hS 5 0 rfl rfl h_12 dX1_fillRowsAndColumns_40 (fun H locs hP hD hS => ?_)
              have hP : va_P (dC, dI) vwCl (wSG cI cJ nl a0 a1 a2 a3 a4 ra Z F ((upd R9_5.1 (((x1_2 * Z.1) + x2_6).toNatClampNeg) ((32 * x1_2) + x2_6)), R9_5.2.1, R9_5.2.2)) H := hP
              have hD : va_D A (wSG cI cJ nl a0 a1 a2 a3 a4 ra Z F ((upd R9_5.1 (((x1_2 * Z.1) + x2_6).toNatClampNeg) ((32 * x1_2) + x2_6)), R9_5.2.1, R9_5.2.2)) := hD
              refine lv_aload_n hx hb dX1_fillRowsAndColumns_41 rfl (lv_at hl 2 rfl) ?_
              refine va_get (D := (dC, dI)) (ci := 1) (v := .ref a4) (C := RX1) (T := TX1) (N := 9) hx hb hT inX1 hown hK hP 0 rfl rfl 8 (by decide) (hT _ k_16) (fun _ h9 => h9) rfl dX1_fillRowsAndColumns_42 ?_
              refine lv_iconst (v := 1) hx hb dX1_fillRowsAndColumns_45 (by decide) ?_
              refine tt_aald hx hb hK hP 4 2 rfl rfl (show ¬ ((1 : Int32) < 0 ∨ 3 ≤ (1 : Int32).toNatClampNeg) by decide) dX1_fillRowsAndColumns_46 ?_
              refine W.eq (g2 := F0 m 47 ls [.ref (ra 1)]) (by rw [show (1 : Int32).toNatClampNeg = 1 by decide]; rfl) ?_
              refine lv_iload_n hx hb dX1_fillRowsAndColumns_47 rfl (lv_at hl 0 rfl) ?_
              refine lv_aload_n hx hb dX1_fillRowsAndColumns_48 rfl (lv_at hl 2 rfl) ?_
              refine va_get (D := (dC, dI)) (ci := 1) (v := .int Z.2.1) (C := RX1) (T := TX1) (N := 9) hx hb hT inX1 hown hK hP 0 rfl rfl 1 (by decide) (hT _ k_182) (fun _ h9 => h9) rfl dX1_fillRowsAndColumns_49 ?_
              refine lv_imul hx hb dX1_fillRowsAndColumns_52 ?_
              refine lv_iload_n hx hb dX1_fillRowsAndColumns_53 rfl (lv_at hl 1 rfl) ?_
              refine lv_iadd hx hb dX1_fillRowsAndColumns_54 ?_
              refine lv_bipush (v := 32) hx hb dX1_fillRowsAndColumns_55 (by decide) ?_
              refine lv_iload_n hx hb dX1_fillRowsAndColumns_57 rfl (lv_at hl 1 rfl) ?_
              refine lv_imul hx hb dX1_fillRowsAndColumns_58 ?_
              refine lv_iload_n hx hb dX1_fillRowsAndColumns_59 rfl (lv_at hl 0 rfl) ?_
              refine lv_iadd hx hb dX1_fillRowsAndColumns_60 ?_
              obtain ⟨h_15, hw⟩ := hw
              refine va_iast hx hb hK hP hD hS 6 0 rfl rfl h_15 dX1_fillRowsAndColumns_61 (fun H locs hP hD hS => ?_)
              have hP : va_P (dC, dI) vwCl (wSG cI cJ nl a0 a1 a2 a3 a4 ra Z F ((upd R9_5.1 (((x1_2 * Z.1) + x2_6).toNatClampNeg) ((32 * x1_2) + x2_6)), (upd R9_5.2.1 (((x2_6 * Z.2.1) + x1_2).toNatClampNeg) ((32 * x1_2) + x2_6)), R9_5.2.2)) H := hP
              have hD : va_D A (wSG cI cJ nl a0 a1 a2 a3 a4 ra Z F ((upd R9_5.1 (((x1_2 * Z.1) + x2_6).toNatClampNeg) ((32 * x1_2) + x2_6)), (upd R9_5.2.1 (((x2_6 * Z.2.1) + x1_2).toNatClampNeg) ((32 * x1_2) + x2_6)), R9_5.2.2)) := hD
              obtain ⟨x2_16, ex2_16⟩ : ∃ y : Int32, y = x2_6 + 1 := ⟨_, rfl⟩
              have hw := hw x2_16 ex2_16
              refine lv_iinc (v := x2_16) (lv' := [(2, .int x2_16), (1, .int x1_2), (0, .ref a0)]) hx hb dX1_fillRowsAndColumns_62 hl (k := 0) rfl (by rw [ex2_16]; rfl) (by decide) rfl (fun ls hl => ?_)
              refine lv_goto (tgt := 12) hx hb dX1_fillRowsAndColumns_65 (by decide) ?_
              exact ih12 ((upd R9_5.1 (((x1_2 * Z.1) + x2_6).toNatClampNeg) ((32 * x1_2) + x2_6)), (upd R9_5.2.1 (((x2_6 * Z.2.1) + x1_2).toNatClampNeg) ((32 * x1_2) + x2_6)), R9_5.2.2) x2_16 hw _ _ _ hP hD hS (lv_sub hl [0, 1, 2] rfl)
        exact hlp12 n_7 R9_1 0 hw _ _ _ hP hD hS (lv_sub hl [0, 1, 2] rfl)
  exact hlp2 n_3 R9 0 hw _ _ _ hP hD hS (lv_sub hl [0, 1] rfl)
def wp_X2_init (post : vSD → Prop) (x1 : Int32) : Prop := ¬ x1 < 0 ∧ x1.toNatClampNeg ≤ 1400 ∧ (¬ x1 < 0 ∧ x1.toNatClampNeg ≤ 1400 ∧ (post ((fun _ => 0), (fun _ => 0), 0)))
abbrev rm_X2_init : Room := { frames := 1, cells := 2, slots := 2800, locals := 12 }
set_option maxHeartbeats 4000000 in
set_option maxRecDepth 100000 in
theorem met_X2_init (l : Launch) (dC : Nat → ClassId) (dI : Nat → Nat → Nat) (cI cZ cJ cL : ClassId) (a0 : Nat) (sz : Nat) (post : vSD → Prop) (x1 : Int32) (hw : wp_X2_init post x1) : Met l yX2_init wsX2_init rm_X2_init (pcW (dC, dI) (tysA cI cZ cJ cL) [(a0, .inr (2, [.null, .null, .int 0]))] sz [.ref a0, .int x1]) (va_Qv post (fun (u : vSD) t => ∃ a1 a2 : Nat, qB (dC, dI) (tysA cI cZ cJ cL) (va_A [(a0, .inr (2, [.null, .null, .int 0]))] sz) (wSD cI cZ x1.toNatClampNeg a0 a1 a2 u) t) (va_A [(a0, .inr (2, [.null, .null, .int 0]))] sz)) 2 2800 (va_A [(a0, .inr (2, [.null, .null, .int 0]))] sz) := by
  refine Met.ofW (cc := cX2_init) (maxL := 2) (ret := none) (by decide) rfl ?_
  intro p e s m args below meth c s₁ Bd hml hv
  obtain ⟨hargs, hsz, hP, hK, hD0⟩ := hv
  have hx := Bd.exec
  have hb := Bd.bytes
  have hr := Bd.returns
  have hts := atoms_spec (ws := wsX2_init) Bd.pre
  have hT : ∀ w ∈ WALL, w.before args s = true := fun w h => hts w (List.mem_cons_of_mem _ h)
  have hown : s.vm.findClass RX2 = some m.cls := findClass_of_methodNamed Bd.named
  have hlocks := Bd.notSynchronized
  have hin : meth.name = "<init>" := (name_of_methodNamed Bd.named Bd.method).1
  subst hsz
  have hD := hD0.self (sz := s.heap.size)
  generalize hAe : va_A [(a0, .inr (2, [.null, .null, .int 0]))] s.heap.size = A at hD ⊢
  have hA : ∀ q : Nat, s.heap.size ≤ q → A q := fun q h => by rw [← hAe]; exact Or.inr h
  have hS : va_S A s.heap s.heap [] := va_S.rf
  have hP : va_P (dC, dI) vwCl [(a0, .inr (2, [.null, .null, .int 0]))] s.heap := hP
  have hl := lv_entry ([.ref a0, .int x1]) (n := 2) (Nat.le_of_ble_eq_true rfl)
  rw [show entryFrame m args 2 = F0 m 0 _ [] from by rw [hargs]; exact lg_entry_eq m ([.ref a0, .int x1]) 2]
  generalize (lg_sl ([.ref a0, .int x1]) ++ List.replicate (2 - (lg_sl ([.ref a0, .int x1])).length) Slot.unset).toArray = ls at hl ⊢
  have hl : lv_has ls 2 [(0, .ref a0), (1, .int x1)] := hl
  obtain ⟨H, hH⟩ : ∃ z : Heap, z = s.heap := ⟨_, rfl⟩
  obtain ⟨locs, hlocs⟩ : ∃ z : List Loc, z = [] := ⟨_, rfl⟩
  rw [show W p l e (headSpec wsX2_init rm_X2_init).room s m args below meth c s.heap [] 0 0 = W p l e (headSpec wsX2_init rm_X2_init).room s m args below meth c H locs 0 0 from by rw [hH, hlocs]]
  have hP : va_P (dC, dI) vwCl [(a0, .inr (2, [.null, .null, .int 0]))] H := by rw [hH]; exact hP
  have hS : va_S A s.heap H locs := by rw [hH, hlocs]; exact hS
  unfold wp_X2_init at hw
  refine lv_aload_n hx hb dX2_init_0 rfl (lv_at hl 0 rfl) ?_
  refine W.objInit hx hb hown (hT _ k_184) (hT _ k_159) (hT _ k_160) rfl (by rw [hml]; exact hl.1) rfl dX2_init_1 (Nat.le_of_ble_eq_true rfl) (Nat.le_of_ble_eq_true rfl) ?_
  refine W.eq (g2 := F0 m 4 ls []) rfl ?_
  refine lv_aload_n hx hb dX2_init_4 rfl (lv_at hl 0 rfl) ?_
  refine lv_iload_n hx hb dX2_init_5 rfl (lv_at hl 1 rfl) ?_
  obtain ⟨h_3, h_4, hw⟩ := hw
  refine va_newa (atype := .int) (N' := x1.toNatClampNeg) (a0 := (x1.toNatClampNeg, .inl (fun _ => 0))) (ty := .int) (n := x1) hx hb (hT _ k_161) rfl hK hP hD hS hA (fun _ => rfl) h_3 rfl (Nat.le_trans (Nat.mul_le_mul_right _ h_4) (by decide)) (Nat.le_of_ble_eq_true rfl) (Nat.le_trans (Nat.add_le_add_left h_4 _) (Nat.le_of_ble_eq_true rfl)) dX2_init_6 (fun q_1 cA9 H hK9 hP hD hS => ?_)
  rw [cA_eq hK9 0 rfl 4 rfl] at hP hD
  have hP : va_P (dC, dI) vwCl ([(a0, .inr (2, [.null, .null, .int 0])), (q_1, .inl (cI, x1.toNatClampNeg, .inl (fun _ => 0)))]) H := hP
  have hD : va_D A ([(a0, .inr (2, [.null, .null, .int 0])), (q_1, .inl (cI, x1.toNatClampNeg, .inl (fun _ => 0)))]) := hD
  refine W.widen (k := 1) (n := 1400) (Nat.le_of_ble_eq_true rfl) (Nat.add_le_add_left h_4 _) ?_
  refine va_putF (D := (dC, dI)) (ci := 2) (v := .ref q_1) (ty := (.array .int)) (C := RX2) (T := TX2) (N := 3) hx hb hT inX2 tyX2 tyX2_ok nmX2 hown hK hP hD hS 0 rfl rfl 0 (by decide) (hT _ k_11) (fun _ h9 => h9) rfl hin rfl (by decide +kernel) rfl rfl (Nat.le_of_ble_eq_true rfl) dX2_init_8 (fun H locs hP hD hS => ?_)
  have hP : va_P (dC, dI) vwCl ([(a0, .inr (2, [.ref q_1, .null, .int 0])), (q_1, .inl (cI, x1.toNatClampNeg, .inl (fun _ => 0)))]) H := hP
  have hD : va_D A ([(a0, .inr (2, [.ref q_1, .null, .int 0])), (q_1, .inl (cI, x1.toNatClampNeg, .inl (fun _ => 0)))]) := hD
  refine lv_aload_n hx hb dX2_init_11 rfl (lv_at hl 0 rfl) ?_
  refine lv_iload_n hx hb dX2_init_12 rfl (lv_at hl 1 rfl) ?_
  obtain ⟨h_7, h_8, hw⟩ := hw
  refine va_newa (atype := .boolean) (N' := x1.toNatClampNeg) (a0 := (x1.toNatClampNeg, .inl (fun _ => 0))) (ty := .boolean) (n := x1) hx hb (hT _ k_167) rfl hK hP hD hS hA (fun _ => rfl) h_7 rfl (Nat.le_trans (Nat.mul_le_mul_right _ h_8) (by decide)) (Nat.le_of_ble_eq_true rfl) (Nat.le_trans (Nat.add_le_add_left h_8 _) (Nat.le_of_ble_eq_true rfl)) dX2_init_13 (fun q_5 cA9 H hK9 hP hD hS => ?_)
  rw [cA_eq hK9 1 rfl 4 rfl] at hP hD
  have hP : va_P (dC, dI) vwCl ([(a0, .inr (2, [.ref q_1, .null, .int 0])), (q_1, .inl (cI, x1.toNatClampNeg, .inl (fun _ => 0))), (q_5, .inl (cZ, x1.toNatClampNeg, .inl (fun _ => 0)))]) H := hP
  have hD : va_D A ([(a0, .inr (2, [.ref q_1, .null, .int 0])), (q_1, .inl (cI, x1.toNatClampNeg, .inl (fun _ => 0))), (q_5, .inl (cZ, x1.toNatClampNeg, .inl (fun _ => 0)))]) := hD
  refine W.widen (k := 2) (n := 2800) (Nat.le_of_ble_eq_true rfl) (Nat.add_le_add_left h_8 _) ?_
  refine va_putF (D := (dC, dI)) (ci := 2) (v := .ref q_5) (ty := (.array .boolean)) (C := RX2) (T := TX2) (N := 3) hx hb hT inX2 tyX2 tyX2_ok nmX2 hown hK hP hD hS 0 rfl rfl 1 (by decide) (hT _ k_9) (fun _ h9 => h9) rfl hin rfl (by decide +kernel) rfl rfl (Nat.le_of_ble_eq_true rfl) dX2_init_15 (fun H locs hP hD hS => ?_)
  have hP : va_P (dC, dI) vwCl ([(a0, .inr (2, [.ref q_1, .ref q_5, .int 0])), (q_1, .inl (cI, x1.toNatClampNeg, .inl (fun _ => 0))), (q_5, .inl (cZ, x1.toNatClampNeg, .inl (fun _ => 0)))]) H := hP
  have hD : va_D A ([(a0, .inr (2, [.ref q_1, .ref q_5, .int 0])), (q_1, .inl (cI, x1.toNatClampNeg, .inl (fun _ => 0))), (q_5, .inl (cZ, x1.toNatClampNeg, .inl (fun _ => 0)))]) := hD
  refine lv_aload_n hx hb dX2_init_18 rfl (lv_at hl 0 rfl) ?_
  refine lv_iconst (v := 0) hx hb dX2_init_19 (by decide) ?_
  refine va_put (D := (dC, dI)) (ci := 2) (v := .int 0) (ty := .int) (C := RX2) (T := TX2) (N := 3) hx hb hT inX2 tyX2 tyX2_ok nmX2 hown hK hP hD hS 0 rfl rfl 2 (by decide) (hT _ k_10) (fun _ h9 => h9) rfl (by decide +kernel) rfl rfl (Nat.le_of_ble_eq_true rfl) dX2_init_20 (fun H locs hP hD hS => ?_)
  have hP : va_P (dC, dI) vwCl ([(a0, .inr (2, [.ref q_1, .ref q_5, .int 0])), (q_1, .inl (cI, x1.toNatClampNeg, .inl (fun _ => 0))), (q_5, .inl (cZ, x1.toNatClampNeg, .inl (fun _ => 0)))]) H := hP
  have hD : va_D A ([(a0, .inr (2, [.ref q_1, .ref q_5, .int 0])), (q_1, .inl (cI, x1.toNatClampNeg, .inl (fun _ => 0))), (q_5, .inl (cZ, x1.toNatClampNeg, .inl (fun _ => 0)))]) := hD
  have hP := hP.sub (ws' := (wSD cI cZ x1.toNatClampNeg a0 q_1 q_5 ((fun _ => 0), (fun _ => 0), 0))) [0, 1, 2] rfl
  have hD := hD.sub (ws' := (wSD cI cZ x1.toNatClampNeg a0 q_1 q_5 ((fun _ => 0), (fun _ => 0), 0))) [0, 1, 2] (by decide) rfl
  exact W.vret hx hb hr (fun t ht hW => ⟨⟨((fun _ => 0), (fun _ => 0), 0), rfl, hw, q_1, q_5, by rw [ht]; exact hP, va_K.moved hW.alike hK, hD⟩, hS.F ht⟩) hS.2.2 dX2_init_23
def wp_X1_fillQuarters_L4 (post : vRW → Prop) (ex4 : vRW → Int32 → Int32 → Prop) (nl : Nat) (Z : Int32 × Int32 × Int32 × Int32 × Int32) (F : (Nat → Int32) × (Nat → Int32) × (Nat → Int32)) : Nat → vRW → Int32 → Int32 → Prop
  | 0, _, _, _ => False
  | n_4 + 1, R9_1, x2_2, x1_3 => ((1024 ≤ x2_2 → (ex4 R9_1 x2_2 x1_3)) ∧ (¬ 1024 ≤ x2_2 → (wp_X1_everySecondBit (fun r_6 => wp_X1_everySecondBit (fun r_7 => ((Z.1 ≤ r_6 → (∀ x2_9 : Int32, x2_9 = x2_2 + 1 → (wp_X1_fillQuarters_L4 post ex4 nl Z F n_4 R9_1 x2_9 x1_3))) ∧ (¬ Z.1 ≤ r_6 → (((Z.2.1 ≤ r_7 → (∀ x2_11 : Int32, x2_11 = x2_2 + 1 → (wp_X1_fillQuarters_L4 post ex4 nl Z F n_4 R9_1 x2_11 x1_3))) ∧ (¬ Z.2.1 ≤ r_7 → (((Z.2.2.1 ≤ x1_3 → (∀ x2_13 : Int32, x2_13 = x2_2 + 1 → (wp_X1_fillQuarters_L4 post ex4 nl Z F n_4 R9_1 x2_13 x1_3))) ∧ (¬ Z.2.2.1 ≤ x1_3 → (vp_in x1_3 nl ∧ (∀ x1_17 : Int32, x1_17 = x1_3 + 1 → (∀ x2_18 : Int32, x2_18 = x2_2 + 1 → (wp_X1_fillQuarters_L4 post ex4 nl Z F n_4 (R9_1.1, R9_1.2.1, (upd R9_1.2.2 x1_3.toNatClampNeg ((32 * r_7) + r_6))) x2_18 x1_17)))))))))))))   (x2_2 >>> ((1 : Int32) &&& 31)))   x2_2)))
def wp_X1_fillQuarters (post : vRW → Prop) (nl : Nat) (Z : Int32 × Int32 × Int32 × Int32 × Int32) (F : (Nat → Int32) × (Nat → Int32) × (Nat → Int32)) (R9 : vRW)  : Prop := ∃ n_4 : Nat, wp_X1_fillQuarters_L4 post (fun (R9_1 : vRW) (x2_2 : Int32) (x1_3 : Int32) => post R9_1) nl Z F n_4 R9 0 0
abbrev rm_X1_fillQuarters : Room := { frames := 1, cells := 0, slots := 0, locals := 22 }
set_option maxHeartbeats 4000000 in
set_option maxRecDepth 100000 in
theorem met_X1_fillQuarters (l : Launch) (dC : Nat → ClassId) (dI : Nat → Nat → Nat) (cI cZ cJ cL : ClassId) (a0 a1 a2 a3 a4 : Nat) (ra : Nat → Nat) (sz : Nat) (post : vRW → Prop) (nl : Nat) (Z : Int32 × Int32 × Int32 × Int32 × Int32) (F : (Nat → Int32) × (Nat → Int32) × (Nat → Int32)) (R9 : vRW)  (hw : wp_X1_fillQuarters post nl Z F R9 ) : Met l yX1_fillQuarters wsX1_fillQuarters rm_X1_fillQuarters (pcW (dC, dI) (tysA cI cZ cJ cL) (wSG cI cJ nl a0 a1 a2 a3 a4 ra Z F R9) sz [.ref a0]) (va_Qv post (fun u t => qB (dC, dI) (tysA cI cZ cJ cL) (va_A (wSG cI cJ nl a0 a1 a2 a3 a4 ra Z F R9) sz) (wSG cI cJ nl a0 a1 a2 a3 a4 ra Z F u) t) (va_A (wSG cI cJ nl a0 a1 a2 a3 a4 ra Z F R9) sz)) 0 0 (va_A (wSG cI cJ nl a0 a1 a2 a3 a4 ra Z F R9) sz) := by
  refine Met.ofW (cc := cX1_fillQuarters) (maxL := 5) (ret := none) (by decide) rfl ?_
  intro p e s m args below meth c s₁ Bd hml hv
  obtain ⟨hargs, hsz, hP, hK, hD0⟩ := hv
  have hx := Bd.exec
  have hb := Bd.bytes
  have hr := Bd.returns
  have hts := atoms_spec (ws := wsX1_fillQuarters) Bd.pre
  have hT : ∀ w ∈ WALL, w.before args s = true := fun w h => hts w (List.mem_cons_of_mem _ h)
  have hown : s.vm.findClass RX1 = some m.cls := findClass_of_methodNamed Bd.named
  have hlocks := Bd.notSynchronized
  subst hsz
  have hD := hD0.self (sz := s.heap.size)
  generalize hAe : va_A (wSG cI cJ nl a0 a1 a2 a3 a4 ra Z F R9) s.heap.size = A at hD ⊢
  have hA : ∀ q : Nat, s.heap.size ≤ q → A q := fun q h => by rw [← hAe]; exact Or.inr h
  have hS : va_S A s.heap s.heap [] := va_S.rf
  have hP : va_P (dC, dI) vwCl (wSG cI cJ nl a0 a1 a2 a3 a4 ra Z F R9) s.heap := hP
  have hl := lv_entry ([.ref a0]) (n := 5) (Nat.le_of_ble_eq_true rfl)
  rw [show entryFrame m args 5 = F0 m 0 _ [] from by rw [hargs]; exact lg_entry_eq m ([.ref a0]) 5]
  generalize (lg_sl ([.ref a0]) ++ List.replicate (5 - (lg_sl ([.ref a0])).length) Slot.unset).toArray = ls at hl ⊢
  have hl : lv_has ls 5 [(0, .ref a0)] := hl
  obtain ⟨H, hH⟩ : ∃ z : Heap, z = s.heap := ⟨_, rfl⟩
  obtain ⟨locs, hlocs⟩ : ∃ z : List Loc, z = [] := ⟨_, rfl⟩
  rw [show W p l e (headSpec wsX1_fillQuarters rm_X1_fillQuarters).room s m args below meth c s.heap [] 0 0 = W p l e (headSpec wsX1_fillQuarters rm_X1_fillQuarters).room s m args below meth c H locs 0 0 from by rw [hH, hlocs]]
  have hP : va_P (dC, dI) vwCl (wSG cI cJ nl a0 a1 a2 a3 a4 ra Z F R9) H := by rw [hH]; exact hP
  have hS : va_S A s.heap H locs := by rw [hH, hlocs]; exact hS
  unfold wp_X1_fillQuarters at hw
  refine lv_iconst (v := 0) hx hb dX1_fillQuarters_0 (by decide) ?_
  refine lv_istore_n (lv' := [(1, .int 0), (0, .ref a0)]) hx hb dX1_fillQuarters_1 rfl hl (by decide) rfl (fun ls hl => ?_)
  refine lv_iconst (v := 0) hx hb dX1_fillQuarters_2 (by decide) ?_
  refine lv_istore_n (lv' := [(2, .int 0), (1, .int 0), (0, .ref a0)]) hx hb dX1_fillQuarters_3 rfl hl (by decide) rfl (fun ls hl => ?_)
  obtain ⟨n_4, hw⟩ := hw
  obtain ⟨ex4, eex4⟩ : ∃ z : vRW → Int32 → Int32 → Prop, z = (fun (R9_1 : vRW) (x2_2 : Int32) (x1_3 : Int32) => post R9_1) := ⟨_, rfl⟩
  rw [← eex4] at hw
  have hx4 : ∀ (R9_1 : vRW) (x2_2 : Int32) (x1_3 : Int32), ex4 R9_1 x2_2 x1_3 → ∀ (H : Heap) (locs : List Loc) (ls : Array Slot), va_P (dC, dI) vwCl (wSG cI cJ nl a0 a1 a2 a3 a4 ra Z F R9_1) H → va_D A (wSG cI cJ nl a0 a1 a2 a3 a4 ra Z F R9_1) → va_S A s.heap H locs → lv_has ls 5 [(2, .int x2_2), (1, .int x1_3), (0, .ref a0)] → W p l e (headSpec wsX1_fillQuarters rm_X1_fillQuarters).room s m args below meth c H locs 0 0 (MQ below (va_Qv post (fun u t => qB (dC, dI) (tysA cI cZ cJ cL) A (wSG cI cJ nl a0 a1 a2 a3 a4 ra Z F u) t) A) args s 0 0 A) (F0 m 73 ls []) := by
    intro R9_1 x2_2 x1_3 hw H locs ls hP hD hS hl
    rw [eex4] at hw
    try dsimp only at hw
    exact W.vret hx hb hr (fun t ht hW => ⟨⟨R9_1, rfl, hw, by rw [ht]; exact hP, va_K.moved hW.alike hK, hD⟩, hS.F ht⟩) hS.2.2 dX1_fillQuarters_73
  have hlp4 : ∀ (n_4 : Nat) (R9_1 : vRW) (x2_2 : Int32) (x1_3 : Int32), wp_X1_fillQuarters_L4 post ex4 nl Z F n_4 R9_1 x2_2 x1_3 → ∀ (H : Heap) (locs : List Loc) (ls : Array Slot), va_P (dC, dI) vwCl (wSG cI cJ nl a0 a1 a2 a3 a4 ra Z F R9_1) H → va_D A (wSG cI cJ nl a0 a1 a2 a3 a4 ra Z F R9_1) → va_S A s.heap H locs → lv_has ls 5 [(2, .int x2_2), (1, .int x1_3), (0, .ref a0)] → W p l e (headSpec wsX1_fillQuarters rm_X1_fillQuarters).room s m args below meth c H locs 0 0 (MQ below (va_Qv post (fun u t => qB (dC, dI) (tysA cI cZ cJ cL) A (wSG cI cJ nl a0 a1 a2 a3 a4 ra Z F u) t) A) args s 0 0 A) (F0 m 4 ls []) := by
    intro n_4
    induction n_4 with
    | zero => intro _ _ _ hw; exact hw.elim
    | succ n_4 ih4 =>
      intro R9_1 x2_2 x1_3 hw H locs ls hP hD hS hl
      unfold wp_X1_fillQuarters_L4 at hw
      refine lv_iload_n hx hb dX1_fillQuarters_4 rfl (lv_at hl 0 rfl) ?_
      refine lv_sipush (v := 1024) hx hb dX1_fillQuarters_5 (by decide) ?_
      refine lv_icmp_ge (tgt := 73) hx hb dX1_fillQuarters_8 (by decide) (fun c_5 => ?_) (fun c_5 => ?_)
      · have hw := hw.1 c_5
        exact hx4 R9_1 x2_2 x1_3 hw _ _ _ hP hD hS (lv_sub hl [0, 1, 2] rfl)
      · have hw := hw.2 c_5
        refine lv_iload_n hx hb dX1_fillQuarters_11 rfl (lv_at hl 0 rfl) ?_
        have hPc : va_P (dC, dI) vwCl [] H := hP.sub (ws' := []) [] rfl
        refine vp_callSi (W.runS (As := [.int x2_2]) (rest := []) ⟨hx, hb, hml, hown, hT⟩ (met_X1_everySecondBit l dC dI cI cZ cJ cL  _   x2_2 hw) (va_cwS 1 hT (gS k_185 k_187 k_43 k_186) rfl rfl rfl (by decide +kernel) ⟨(Nat.le_of_ble_eq_true rfl), (Nat.le_of_ble_eq_true rfl)⟩) ⟨bl_R, fun U hU hW => ⟨rfl, by rw [hU]; exact hPc, va_K.moved hW.alike hK⟩⟩ rfl rfl hl.1 rfl (lv_room (Nat.le_of_ble_eq_true rfl)) dX1_fillQuarters_12 ⟨Nat.le_of_ble_eq_true rfl, Nat.le_of_ble_eq_true rfl⟩) (fun r_6 hw => ?_)
        try dsimp only at hw
        refine lv_istore_n (lv' := [(3, .int r_6), (2, .int x2_2), (1, .int x1_3), (0, .ref a0)]) hx hb dX1_fillQuarters_15 rfl hl (by decide) rfl (fun ls hl => ?_)
        refine lv_iload_n hx hb dX1_fillQuarters_16 rfl (lv_at hl 1 rfl) ?_
        refine lv_iconst (v := 1) hx hb dX1_fillQuarters_17 (by decide) ?_
        refine lv_ishr hx hb dX1_fillQuarters_18 ?_
        have hPc : va_P (dC, dI) vwCl [] H := hP.sub (ws' := []) [] rfl
        refine vp_callSi (W.runS (As := [.int (x2_2 >>> ((1 : Int32) &&& 31))]) (rest := []) ⟨hx, hb, hml, hown, hT⟩ (met_X1_everySecondBit l dC dI cI cZ cJ cL  _   (x2_2 >>> ((1 : Int32) &&& 31)) hw) (va_cwS 1 hT (gS k_185 k_187 k_43 k_186) rfl rfl rfl (by decide +kernel) ⟨(Nat.le_of_ble_eq_true rfl), (Nat.le_of_ble_eq_true rfl)⟩) ⟨bl_R, fun U hU hW => ⟨rfl, by rw [hU]; exact hPc, va_K.moved hW.alike hK⟩⟩ rfl rfl hl.1 rfl (lv_room (Nat.le_of_ble_eq_true rfl)) dX1_fillQuarters_19 ⟨Nat.le_of_ble_eq_true rfl, Nat.le_of_ble_eq_true rfl⟩) (fun r_7 hw => ?_)
        try dsimp only at hw
        refine lv_istore (lv' := [(4, .int r_7), (3, .int r_6), (2, .int x2_2), (1, .int x1_3), (0, .ref a0)]) hx hb dX1_fillQuarters_22 hl (by decide) rfl (fun ls hl => ?_)
        refine lv_iload_n hx hb dX1_fillQuarters_24 rfl (lv_at hl 1 rfl) ?_
        refine lv_aload_n hx hb dX1_fillQuarters_25 rfl (lv_at hl 4 rfl) ?_
        refine va_get (D := (dC, dI)) (ci := 1) (v := .int Z.1) (C := RX1) (T := TX1) (N := 9) hx hb hT inX1 hown hK hP 0 rfl rfl 0 (by decide) (hT _ k_183) (fun _ h9 => h9) rfl dX1_fillQuarters_26 ?_
        refine lv_icmp_ge (tgt := 67) hx hb dX1_fillQuarters_29 (by decide) (fun c_8 => ?_) (fun c_8 => ?_)
        · have hw := hw.1 c_8
          obtain ⟨x2_9, ex2_9⟩ : ∃ y : Int32, y = x2_2 + 1 := ⟨_, rfl⟩
          have hw := hw x2_9 ex2_9
          refine lv_iinc (v := x2_9) (lv' := [(2, .int x2_9), (4, .int r_7), (3, .int r_6), (1, .int x1_3), (0, .ref a0)]) hx hb dX1_fillQuarters_67 hl (k := 2) rfl (by rw [ex2_9]; rfl) (by decide) rfl (fun ls hl => ?_)
          refine lv_goto (tgt := 4) hx hb dX1_fillQuarters_70 (by decide) ?_
          exact ih4 R9_1 x2_9 x1_3 hw _ _ _ hP hD hS (lv_sub hl [0, 3, 4] rfl)
        · have hw := hw.2 c_8
          refine lv_iload hx hb dX1_fillQuarters_32 (lv_at hl 0 rfl) ?_
          refine lv_aload_n hx hb dX1_fillQuarters_34 rfl (lv_at hl 4 rfl) ?_
          refine va_get (D := (dC, dI)) (ci := 1) (v := .int Z.2.1) (C := RX1) (T := TX1) (N := 9) hx hb hT inX1 hown hK hP 0 rfl rfl 1 (by decide) (hT _ k_182) (fun _ h9 => h9) rfl dX1_fillQuarters_35 ?_
          refine lv_icmp_ge (tgt := 67) hx hb dX1_fillQuarters_38 (by decide) (fun c_10 => ?_) (fun c_10 => ?_)
          · have hw := hw.1 c_10
            obtain ⟨x2_11, ex2_11⟩ : ∃ y : Int32, y = x2_2 + 1 := ⟨_, rfl⟩
            have hw := hw x2_11 ex2_11
            refine lv_iinc (v := x2_11) (lv' := [(2, .int x2_11), (4, .int r_7), (3, .int r_6), (1, .int x1_3), (0, .ref a0)]) hx hb dX1_fillQuarters_67 hl (k := 2) rfl (by rw [ex2_11]; rfl) (by decide) rfl (fun ls hl => ?_)
            refine lv_goto (tgt := 4) hx hb dX1_fillQuarters_70 (by decide) ?_
            exact ih4 R9_1 x2_11 x1_3 hw _ _ _ hP hD hS (lv_sub hl [0, 3, 4] rfl)
          · have hw := hw.2 c_10
            refine lv_iload_n hx hb dX1_fillQuarters_41 rfl (lv_at hl 3 rfl) ?_
            refine lv_aload_n hx hb dX1_fillQuarters_42 rfl (lv_at hl 4 rfl) ?_
            refine va_get (D := (dC, dI)) (ci := 1) (v := .int Z.2.2.1) (C := RX1) (T := TX1) (N := 9) hx hb hT inX1 hown hK hP 0 rfl rfl 2 (by decide) (hT _ k_188) (fun _ h9 => h9) rfl dX1_fillQuarters_43 ?_
            refine lv_icmp_ge (tgt := 67) hx hb dX1_fillQuarters_46 (by decide) (fun c_12 => ?_) (fun c_12 => ?_)
            · have hw := hw.1 c_12
              obtain ⟨x2_13, ex2_13⟩ : ∃ y : Int32, y = x2_2 + 1 := ⟨_, rfl⟩
              have hw := hw x2_13 ex2_13
              refine lv_iinc (v := x2_13) (lv' := [(2, .int x2_13), (4, .int r_7), (3, .int r_6), (1, .int x1_3), (0, .ref a0)]) hx hb dX1_fillQuarters_67 hl (k := 2) rfl (by rw [ex2_13]; rfl) (by decide) rfl (fun ls hl => ?_)
              refine lv_goto (tgt := 4) hx hb dX1_fillQuarters_70 (by decide) ?_
              exact ih4 R9_1 x2_13 x1_3 hw _ _ _ hP hD hS (lv_sub hl [0, 3, 4] rfl)
            · have hw := hw.2 c_12
              refine lv_aload_n hx hb dX1_fillQuarters_49 rfl (lv_at hl 4 rfl) ?_
              refine va_get (D := (dC, dI)) (ci := 1) (v := .ref a4) (C := RX1) (T := TX1) (N := 9) hx hb hT inX1 hown hK hP 0 rfl rfl 8 (by decide) (hT _ k_16) (fun _ h9 => h9) rfl dX1_fillQuarters_50 ?_
              refine lv_iconst (v := 2) hx hb dX1_fillQuarters_53 (by decide) ?_
              refine tt_aald hx hb hK hP 4 2 rfl rfl (show ¬ ((2 : Int32) < 0 ∨ 3 ≤ (2 : Int32).toNatClampNeg) by decide) dX1_fillQuarters_54 ?_
              refine W.eq (g2 := F0 m 55 ls [.ref (ra 2)]) (by rw [show (2 : Int32).toNatClampNeg = 2 by decide]; rfl) ?_
              refine lv_iload_n hx hb dX1_fillQuarters_55 rfl (lv_at hl 3 rfl) ?_
              refine lv_bipush (v := 32) hx hb dX1_fillQuarters_56 (by decide) ?_
              refine lv_iload hx hb dX1_fillQuarters_58 (lv_at hl 0 rfl) ?_
              refine lv_imul hx hb dX1_fillQuarters_60 ?_
              refine lv_iload_n hx hb dX1_fillQuarters_61 rfl (lv_at hl 1 rfl) ?_
              refine lv_iadd hx hb dX1_fillQuarters_62 ?_
              obtain ⟨h_16, hw⟩ := hw
              refine va_iast hx hb hK hP hD hS 7 0 rfl rfl h_16 dX1_fillQuarters_63 (fun H locs hP hD hS => ?_)
              have hP : va_P (dC, dI) vwCl (wSG cI cJ nl a0 a1 a2 a3 a4 ra Z F (R9_1.1, R9_1.2.1, (upd R9_1.2.2 x1_3.toNatClampNeg ((32 * r_7) + r_6)))) H := hP
              have hD : va_D A (wSG cI cJ nl a0 a1 a2 a3 a4 ra Z F (R9_1.1, R9_1.2.1, (upd R9_1.2.2 x1_3.toNatClampNeg ((32 * r_7) + r_6)))) := hD
              obtain ⟨x1_17, ex1_17⟩ : ∃ y : Int32, y = x1_3 + 1 := ⟨_, rfl⟩
              have hw := hw x1_17 ex1_17
              refine lv_iinc (v := x1_17) (lv' := [(1, .int x1_17), (4, .int r_7), (3, .int r_6), (2, .int x2_2), (0, .ref a0)]) hx hb dX1_fillQuarters_64 hl (k := 3) rfl (by rw [ex1_17]; rfl) (by decide) rfl (fun ls hl => ?_)
              obtain ⟨x2_18, ex2_18⟩ : ∃ y : Int32, y = x2_2 + 1 := ⟨_, rfl⟩
              have hw := hw x2_18 ex2_18
              refine lv_iinc (v := x2_18) (lv' := [(2, .int x2_18), (1, .int x1_17), (4, .int r_7), (3, .int r_6), (0, .ref a0)]) hx hb dX1_fillQuarters_67 hl (k := 3) rfl (by rw [ex2_18]; rfl) (by decide) rfl (fun ls hl => ?_)
              refine lv_goto (tgt := 4) hx hb dX1_fillQuarters_70 (by decide) ?_
              exact ih4 (R9_1.1, R9_1.2.1, (upd R9_1.2.2 x1_3.toNatClampNeg ((32 * r_7) + r_6))) x2_18 x1_17 hw _ _ _ hP hD hS (lv_sub hl [0, 1, 4] rfl)
  exact hlp4 n_4 R9 0 0 hw _ _ _ hP hD hS (lv_sub hl [0, 1, 2] rfl)
def wp_X1_init_L53 (post : vSH → Prop) (ex53 : (Nat → Int32) → (Nat → Int32) → (Nat → Int32) → Int32 → Int32 → Int32 → Prop) (x1 : Int32) (x2 : Int32) (f_7 : Int32) : Nat → (Nat → Int32) → (Nat → Int32) → (Nat → Int32) → Int32 → Int32 → Int32 → Prop
  | 0, _, _, _, _, _, _ => False
  | n_14 + 1, ym_2_8, ym_4_9, ym_6_10, x5_11, x4_12, x3_13 => ((6 ≤ x3_13 → (ex53 ym_2_8 ym_4_9 ym_6_10 x5_11 x4_12 x3_13)) ∧ (¬ 6 ≤ x3_13 → (((x5_11 = 0 → (wp_X1_halved (fun r_26 => vp_in x3_13 6 ∧ (wp_X1_halved (fun r_28 => vp_in x3_13 6 ∧ (vp_in x3_13 6 ∧ (vp_in x3_13 6 ∧ (vp_in x3_13 6 ∧ (∀ x4_33 : Int32, x4_33 = x4_12 + (((upd ym_2_8 x3_13.toNatClampNeg r_26) x3_13.toNatClampNeg) * ((upd ym_4_9 x3_13.toNatClampNeg r_28) x3_13.toNatClampNeg)) → (vp_in x3_13 6 ∧ (vp_in x3_13 6 ∧ (((((upd ym_2_8 x3_13.toNatClampNeg r_26) x3_13.toNatClampNeg) * ((upd ym_4_9 x3_13.toNatClampNeg r_28) x3_13.toNatClampNeg) = 1 → (∀ x3_38 : Int32, x3_38 = x3_13 + 1 → (wp_X1_init_L53 post ex53 x1 x2 f_7 n_14 (upd ym_2_8 x3_13.toNatClampNeg r_26) (upd ym_4_9 x3_13.toNatClampNeg r_28) (upd ym_6_10 x3_13.toNatClampNeg x4_12) 1 x4_33 x3_38))) ∧ (¬ ((upd ym_2_8 x3_13.toNatClampNeg r_26) x3_13.toNatClampNeg) * ((upd ym_4_9 x3_13.toNatClampNeg r_28) x3_13.toNatClampNeg) = 1 → (∀ x3_37 : Int32, x3_37 = x3_13 + 1 → (wp_X1_init_L53 post ex53 x1 x2 f_7 n_14 (upd ym_2_8 x3_13.toNatClampNeg r_26) (upd ym_4_9 x3_13.toNatClampNeg r_28) (upd ym_6_10 x3_13.toNatClampNeg x4_12) 0 x4_33 x3_37))))))))))))   x2 x3_13))   x1 x3_13)) ∧ (¬ x5_11 = 0 → (ex53 ym_2_8 ym_4_9 ym_6_10 x5_11 x4_12 x3_13))))))
def wp_X1_init (post : vSH → Prop) (x1 : Int32) (x2 : Int32) : Prop := ∀ f_7 : Int32, f_7 = x1 * x2 → (∃ n_14 : Nat, wp_X1_init_L53 post (fun (ym_2_8 : (Nat → Int32)) (ym_4_9 : (Nat → Int32)) (ym_6_10 : (Nat → Int32)) (x5_11 : Int32) (x4_12 : Int32) (x3_13 : Int32) => ¬ f_7 < 0 ∧ f_7.toNatClampNeg ≤ 1024 ∧ (wp_X1_fillRowsAndColumns (fun R9_22 => wp_X1_fillQuarters (fun R9_23 => post ((x1, x2, f_7, x3_13, x4_12), (ym_2_8, ym_4_9, ym_6_10), rows3 R9_23.1 R9_23.2.1 R9_23.2.2)) f_7.toNatClampNeg (x1, x2, f_7, x3_13, x4_12) (ym_2_8, ym_4_9, ym_6_10) R9_22 ) f_7.toNatClampNeg (x1, x2, f_7, x3_13, x4_12) (ym_2_8, ym_4_9, ym_6_10) ((fun _ => 0), (fun _ => 0), (fun _ => 0)) )) x1 x2 f_7 n_14 (fun _ => 0) (fun _ => 0) (fun _ => 0) 0 0 0)
abbrev rm_X1_init : Room := { frames := 2, cells := 7, slots := 3093, locals := 46 }
set_option maxHeartbeats 4000000 in
set_option maxRecDepth 100000 in
theorem met_X1_init (l : Launch) (dC : Nat → ClassId) (dI : Nat → Nat → Nat) (cI cZ cJ cL : ClassId) (a0 : Nat) (sz : Nat) (post : vSH → Prop) (x1 : Int32) (x2 : Int32) (hw : wp_X1_init post x1 x2) : Met l yX1_init wsX1_init rm_X1_init (pcC (dC, dI) (tysA cI cZ cJ cL) [(a0, .inr (1, [.int 0, .int 0, .int 0, .int 0, .int 0, .null, .null, .null, .null]))] sz [.ref a0, .int x1, .int x2]) (va_Qv post (fun (u : vSH) t => ∃ (a1 a2 a3 a4 : Nat) (ra : Nat → Nat), qB (dC, dI) (tysA cI cZ cJ cL) (va_A [(a0, .inr (1, [.int 0, .int 0, .int 0, .int 0, .int 0, .null, .null, .null, .null]))] sz) (wSH cI cJ u.1.2.2.1.toNatClampNeg a0 a1 a2 a3 a4 ra u) t) (va_A [(a0, .inr (1, [.int 0, .int 0, .int 0, .int 0, .int 0, .null, .null, .null, .null]))] sz)) 7 3093 (va_A [(a0, .inr (1, [.int 0, .int 0, .int 0, .int 0, .int 0, .null, .null, .null, .null]))] sz) := by
  refine Met.ofW (cc := cX1_init) (maxL := 6) (ret := none) (by decide) rfl ?_
  intro p e s m args below meth c s₁ Bd hml hv
  obtain ⟨hargs, hsz, hP, hK, hD0, hAO⟩ := hv
  have hx := Bd.exec
  have hb := Bd.bytes
  have hr := Bd.returns
  have hts := atoms_spec (ws := wsX1_init) Bd.pre
  have hT : ∀ w ∈ WALL, w.before args s = true := fun w h => hts w (List.mem_cons_of_mem _ h)
  have hown : s.vm.findClass RX1 = some m.cls := findClass_of_methodNamed Bd.named
  have hlocks := Bd.notSynchronized
  have hin : meth.name = "<init>" := (name_of_methodNamed Bd.named Bd.method).1
  subst hsz
  have hD := hD0.self (sz := s.heap.size)
  generalize hAe : va_A [(a0, .inr (1, [.int 0, .int 0, .int 0, .int 0, .int 0, .null, .null, .null, .null]))] s.heap.size = A at hD ⊢
  have hA : ∀ q : Nat, s.heap.size ≤ q → A q := fun q h => by rw [← hAe]; exact Or.inr h
  have hS : va_S A s.heap s.heap [] := va_S.rf
  have hP : va_P (dC, dI) vwCl [(a0, .inr (1, [.int 0, .int 0, .int 0, .int 0, .int 0, .null, .null, .null, .null]))] s.heap := hP
  have hl := lv_entry ([.ref a0, .int x1, .int x2]) (n := 6) (Nat.le_of_ble_eq_true rfl)
  rw [show entryFrame m args 6 = F0 m 0 _ [] from by rw [hargs]; exact lg_entry_eq m ([.ref a0, .int x1, .int x2]) 6]
  generalize (lg_sl ([.ref a0, .int x1, .int x2]) ++ List.replicate (6 - (lg_sl ([.ref a0, .int x1, .int x2])).length) Slot.unset).toArray = ls at hl ⊢
  have hl : lv_has ls 6 [(0, .ref a0), (1, .int x1), (2, .int x2)] := hl
  obtain ⟨H, hH⟩ : ∃ z : Heap, z = s.heap := ⟨_, rfl⟩
  obtain ⟨locs, hlocs⟩ : ∃ z : List Loc, z = [] := ⟨_, rfl⟩
  rw [show W p l e (headSpec wsX1_init rm_X1_init).room s m args below meth c s.heap [] 0 0 = W p l e (headSpec wsX1_init rm_X1_init).room s m args below meth c H locs 0 0 from by rw [hH, hlocs]]
  have hP : va_P (dC, dI) vwCl [(a0, .inr (1, [.int 0, .int 0, .int 0, .int 0, .int 0, .null, .null, .null, .null]))] H := by rw [hH]; exact hP
  have hS : va_S A s.heap H locs := by rw [hH, hlocs]; exact hS
  unfold wp_X1_init at hw
  refine lv_aload_n hx hb dX1_init_0 rfl (lv_at hl 0 rfl) ?_
  refine W.objInit hx hb hown (hT _ k_189) (hT _ k_159) (hT _ k_160) rfl (by rw [hml]; exact hl.1) rfl dX1_init_1 (Nat.le_of_ble_eq_true rfl) (Nat.le_of_ble_eq_true rfl) ?_
  refine W.eq (g2 := F0 m 4 ls []) rfl ?_
  refine lv_aload_n hx hb dX1_init_4 rfl (lv_at hl 0 rfl) ?_
  refine lv_bipush (v := 6) hx hb dX1_init_5 (by decide) ?_
  refine va_newa (atype := .int) (N' := 6) (a0 := (6, .inl (fun _ => 0))) (ty := .int) (n := 6) hx hb (hT _ k_161) rfl hK hP hD hS hA (fun _ => rfl) (by decide) (by decide) (by decide) (Nat.le_of_ble_eq_true rfl) (Nat.le_of_ble_eq_true rfl) dX1_init_7 (fun q_1 cA9 H hK9 hP hD hS => ?_)
  rw [cA_eq hK9 0 rfl 4 rfl] at hP hD
  have hP : va_P (dC, dI) vwCl ([(a0, .inr (1, [.int 0, .int 0, .int 0, .int 0, .int 0, .null, .null, .null, .null])), (q_1, .inl (cI, 6, .inl (fun _ => 0)))]) H := hP
  have hD : va_D A ([(a0, .inr (1, [.int 0, .int 0, .int 0, .int 0, .int 0, .null, .null, .null, .null])), (q_1, .inl (cI, 6, .inl (fun _ => 0)))]) := hD
  refine W.widen (k := 1) (n := 6) (Nat.le_of_ble_eq_true rfl) (Nat.le_of_ble_eq_true rfl) ?_
  refine va_putF (D := (dC, dI)) (ci := 1) (v := .ref q_1) (ty := (.array .int)) (C := RX1) (T := TX1) (N := 9) hx hb hT inX1 tyX1 tyX1_ok nmX1 hown hK hP hD hS 0 rfl rfl 5 (by decide) (hT _ k_13) (fun _ h9 => h9) rfl hin rfl (by decide +kernel) rfl rfl (Nat.le_of_ble_eq_true rfl) dX1_init_9 (fun H locs hP hD hS => ?_)
  have hP : va_P (dC, dI) vwCl ([(a0, .inr (1, [.int 0, .int 0, .int 0, .int 0, .int 0, .ref q_1, .null, .null, .null])), (q_1, .inl (cI, 6, .inl (fun _ => 0)))]) H := hP
  have hD : va_D A ([(a0, .inr (1, [.int 0, .int 0, .int 0, .int 0, .int 0, .ref q_1, .null, .null, .null])), (q_1, .inl (cI, 6, .inl (fun _ => 0)))]) := hD
  refine lv_aload_n hx hb dX1_init_12 rfl (lv_at hl 0 rfl) ?_
  refine lv_bipush (v := 6) hx hb dX1_init_13 (by decide) ?_
  refine va_newa (atype := .int) (N' := 6) (a0 := (6, .inl (fun _ => 0))) (ty := .int) (n := 6) hx hb (hT _ k_161) rfl hK hP hD hS hA (fun _ => rfl) (by decide) (by decide) (by decide) (Nat.le_of_ble_eq_true rfl) (Nat.le_of_ble_eq_true rfl) dX1_init_15 (fun q_3 cA9 H hK9 hP hD hS => ?_)
  rw [cA_eq hK9 0 rfl 4 rfl] at hP hD
  have hP : va_P (dC, dI) vwCl ([(a0, .inr (1, [.int 0, .int 0, .int 0, .int 0, .int 0, .ref q_1, .null, .null, .null])), (q_1, .inl (cI, 6, .inl (fun _ => 0))), (q_3, .inl (cI, 6, .inl (fun _ => 0)))]) H := hP
  have hD : va_D A ([(a0, .inr (1, [.int 0, .int 0, .int 0, .int 0, .int 0, .ref q_1, .null, .null, .null])), (q_1, .inl (cI, 6, .inl (fun _ => 0))), (q_3, .inl (cI, 6, .inl (fun _ => 0)))]) := hD
  refine W.widen (k := 2) (n := 12) (Nat.le_of_ble_eq_true rfl) (Nat.le_of_ble_eq_true rfl) ?_
  refine va_putF (D := (dC, dI)) (ci := 1) (v := .ref q_3) (ty := (.array .int)) (C := RX1) (T := TX1) (N := 9) hx hb hT inX1 tyX1 tyX1_ok nmX1 hown hK hP hD hS 0 rfl rfl 6 (by decide) (hT _ k_14) (fun _ h9 => h9) rfl hin rfl (by decide +kernel) rfl rfl (Nat.le_of_ble_eq_true rfl) dX1_init_17 (fun H locs hP hD hS => ?_)
  have hP : va_P (dC, dI) vwCl ([(a0, .inr (1, [.int 0, .int 0, .int 0, .int 0, .int 0, .ref q_1, .ref q_3, .null, .null])), (q_1, .inl (cI, 6, .inl (fun _ => 0))), (q_3, .inl (cI, 6, .inl (fun _ => 0)))]) H := hP
  have hD : va_D A ([(a0, .inr (1, [.int 0, .int 0, .int 0, .int 0, .int 0, .ref q_1, .ref q_3, .null, .null])), (q_1, .inl (cI, 6, .inl (fun _ => 0))), (q_3, .inl (cI, 6, .inl (fun _ => 0)))]) := hD
  refine lv_aload_n hx hb dX1_init_20 rfl (lv_at hl 0 rfl) ?_
  refine lv_bipush (v := 6) hx hb dX1_init_21 (by decide) ?_
  refine va_newa (atype := .int) (N' := 6) (a0 := (6, .inl (fun _ => 0))) (ty := .int) (n := 6) hx hb (hT _ k_161) rfl hK hP hD hS hA (fun _ => rfl) (by decide) (by decide) (by decide) (Nat.le_of_ble_eq_true rfl) (Nat.le_of_ble_eq_true rfl) dX1_init_23 (fun q_5 cA9 H hK9 hP hD hS => ?_)
  rw [cA_eq hK9 0 rfl 4 rfl] at hP hD
  have hP : va_P (dC, dI) vwCl ([(a0, .inr (1, [.int 0, .int 0, .int 0, .int 0, .int 0, .ref q_1, .ref q_3, .null, .null])), (q_1, .inl (cI, 6, .inl (fun _ => 0))), (q_3, .inl (cI, 6, .inl (fun _ => 0))), (q_5, .inl (cI, 6, .inl (fun _ => 0)))]) H := hP
  have hD : va_D A ([(a0, .inr (1, [.int 0, .int 0, .int 0, .int 0, .int 0, .ref q_1, .ref q_3, .null, .null])), (q_1, .inl (cI, 6, .inl (fun _ => 0))), (q_3, .inl (cI, 6, .inl (fun _ => 0))), (q_5, .inl (cI, 6, .inl (fun _ => 0)))]) := hD
  refine W.widen (k := 3) (n := 18) (Nat.le_of_ble_eq_true rfl) (Nat.le_of_ble_eq_true rfl) ?_
  refine va_putF (D := (dC, dI)) (ci := 1) (v := .ref q_5) (ty := (.array .int)) (C := RX1) (T := TX1) (N := 9) hx hb hT inX1 tyX1 tyX1_ok nmX1 hown hK hP hD hS 0 rfl rfl 7 (by decide) (hT _ k_15) (fun _ h9 => h9) rfl hin rfl (by decide +kernel) rfl rfl (Nat.le_of_ble_eq_true rfl) dX1_init_25 (fun H locs hP hD hS => ?_)
  have hP : va_P (dC, dI) vwCl ([(a0, .inr (1, [.int 0, .int 0, .int 0, .int 0, .int 0, .ref q_1, .ref q_3, .ref q_5, .null])), (q_1, .inl (cI, 6, .inl (fun _ => 0))), (q_3, .inl (cI, 6, .inl (fun _ => 0))), (q_5, .inl (cI, 6, .inl (fun _ => 0)))]) H := hP
  have hD : va_D A ([(a0, .inr (1, [.int 0, .int 0, .int 0, .int 0, .int 0, .ref q_1, .ref q_3, .ref q_5, .null])), (q_1, .inl (cI, 6, .inl (fun _ => 0))), (q_3, .inl (cI, 6, .inl (fun _ => 0))), (q_5, .inl (cI, 6, .inl (fun _ => 0)))]) := hD
  refine lv_aload_n hx hb dX1_init_28 rfl (lv_at hl 0 rfl) ?_
  refine lv_iload_n hx hb dX1_init_29 rfl (lv_at hl 1 rfl) ?_
  refine va_putF (D := (dC, dI)) (ci := 1) (v := .int x1) (ty := .int) (C := RX1) (T := TX1) (N := 9) hx hb hT inX1 tyX1 tyX1_ok nmX1 hown hK hP hD hS 0 rfl rfl 0 (by decide) (hT _ k_183) (fun _ h9 => h9) rfl hin rfl (by decide +kernel) rfl rfl (Nat.le_of_ble_eq_true rfl) dX1_init_30 (fun H locs hP hD hS => ?_)
  have hP : va_P (dC, dI) vwCl ([(a0, .inr (1, [.int x1, .int 0, .int 0, .int 0, .int 0, .ref q_1, .ref q_3, .ref q_5, .null])), (q_1, .inl (cI, 6, .inl (fun _ => 0))), (q_3, .inl (cI, 6, .inl (fun _ => 0))), (q_5, .inl (cI, 6, .inl (fun _ => 0)))]) H := hP
  have hD : va_D A ([(a0, .inr (1, [.int x1, .int 0, .int 0, .int 0, .int 0, .ref q_1, .ref q_3, .ref q_5, .null])), (q_1, .inl (cI, 6, .inl (fun _ => 0))), (q_3, .inl (cI, 6, .inl (fun _ => 0))), (q_5, .inl (cI, 6, .inl (fun _ => 0)))]) := hD
  refine lv_aload_n hx hb dX1_init_33 rfl (lv_at hl 0 rfl) ?_
  refine lv_iload_n hx hb dX1_init_34 rfl (lv_at hl 2 rfl) ?_
  refine va_putF (D := (dC, dI)) (ci := 1) (v := .int x2) (ty := .int) (C := RX1) (T := TX1) (N := 9) hx hb hT inX1 tyX1 tyX1_ok nmX1 hown hK hP hD hS 0 rfl rfl 1 (by decide) (hT _ k_182) (fun _ h9 => h9) rfl hin rfl (by decide +kernel) rfl rfl (Nat.le_of_ble_eq_true rfl) dX1_init_35 (fun H locs hP hD hS => ?_)
  have hP : va_P (dC, dI) vwCl ([(a0, .inr (1, [.int x1, .int x2, .int 0, .int 0, .int 0, .ref q_1, .ref q_3, .ref q_5, .null])), (q_1, .inl (cI, 6, .inl (fun _ => 0))), (q_3, .inl (cI, 6, .inl (fun _ => 0))), (q_5, .inl (cI, 6, .inl (fun _ => 0)))]) H := hP
  have hD : va_D A ([(a0, .inr (1, [.int x1, .int x2, .int 0, .int 0, .int 0, .ref q_1, .ref q_3, .ref q_5, .null])), (q_1, .inl (cI, 6, .inl (fun _ => 0))), (q_3, .inl (cI, 6, .inl (fun _ => 0))), (q_5, .inl (cI, 6, .inl (fun _ => 0)))]) := hD
  refine lv_aload_n hx hb dX1_init_38 rfl (lv_at hl 0 rfl) ?_
  refine lv_iload_n hx hb dX1_init_39 rfl (lv_at hl 1 rfl) ?_
  refine lv_iload_n hx hb dX1_init_40 rfl (lv_at hl 2 rfl) ?_
  refine lv_imul hx hb dX1_init_41 ?_
  refine lv_topi (fun f_7 ef_7 => ?_)
  have hw := hw f_7 ef_7
  refine va_putF (D := (dC, dI)) (ci := 1) (v := .int f_7) (ty := .int) (C := RX1) (T := TX1) (N := 9) hx hb hT inX1 tyX1 tyX1_ok nmX1 hown hK hP hD hS 0 rfl rfl 2 (by decide) (hT _ k_188) (fun _ h9 => h9) rfl hin rfl (by decide +kernel) rfl rfl (Nat.le_of_ble_eq_true rfl) dX1_init_42 (fun H locs hP hD hS => ?_)
  have hP : va_P (dC, dI) vwCl ([(a0, .inr (1, [.int x1, .int x2, .int f_7, .int 0, .int 0, .ref q_1, .ref q_3, .ref q_5, .null])), (q_1, .inl (cI, 6, .inl (fun _ => 0))), (q_3, .inl (cI, 6, .inl (fun _ => 0))), (q_5, .inl (cI, 6, .inl (fun _ => 0)))]) H := hP
  have hD : va_D A ([(a0, .inr (1, [.int x1, .int x2, .int f_7, .int 0, .int 0, .ref q_1, .ref q_3, .ref q_5, .null])), (q_1, .inl (cI, 6, .inl (fun _ => 0))), (q_3, .inl (cI, 6, .inl (fun _ => 0))), (q_5, .inl (cI, 6, .inl (fun _ => 0)))]) := hD
  refine lv_iconst (v := 0) hx hb dX1_init_45 (by decide) ?_
  refine lv_istore_n (lv' := [(3, .int 0), (0, .ref a0), (1, .int x1), (2, .int x2)]) hx hb dX1_init_46 rfl hl (by decide) rfl (fun ls hl => ?_)
  refine lv_iconst (v := 0) hx hb dX1_init_47 (by decide) ?_
  refine lv_istore (lv' := [(4, .int 0), (3, .int 0), (0, .ref a0), (1, .int x1), (2, .int x2)]) hx hb dX1_init_48 hl (by decide) rfl (fun ls hl => ?_)
  refine lv_iconst (v := 0) hx hb dX1_init_50 (by decide) ?_
  refine lv_istore (lv' := [(5, .int 0), (4, .int 0), (3, .int 0), (0, .ref a0), (1, .int x1), (2, .int x2)]) hx hb dX1_init_51 hl (by decide) rfl (fun ls hl => ?_)
  obtain ⟨n_14, hw⟩ := hw
  obtain ⟨ex53, eex53⟩ : ∃ z : (Nat → Int32) → (Nat → Int32) → (Nat → Int32) → Int32 → Int32 → Int32 → Prop, z = (fun (ym_2_8 : (Nat → Int32)) (ym_4_9 : (Nat → Int32)) (ym_6_10 : (Nat → Int32)) (x5_11 : Int32) (x4_12 : Int32) (x3_13 : Int32) => ¬ f_7 < 0 ∧ f_7.toNatClampNeg ≤ 1024 ∧ (wp_X1_fillRowsAndColumns (fun R9_22 => wp_X1_fillQuarters (fun R9_23 => post ((x1, x2, f_7, x3_13, x4_12), (ym_2_8, ym_4_9, ym_6_10), rows3 R9_23.1 R9_23.2.1 R9_23.2.2)) f_7.toNatClampNeg (x1, x2, f_7, x3_13, x4_12) (ym_2_8, ym_4_9, ym_6_10) R9_22 ) f_7.toNatClampNeg (x1, x2, f_7, x3_13, x4_12) (ym_2_8, ym_4_9, ym_6_10) ((fun _ => 0), (fun _ => 0), (fun _ => 0)) )) := ⟨_, rfl⟩
  rw [← eex53] at hw
  have hx53 : ∀ (ym_2_8 : (Nat → Int32)) (ym_4_9 : (Nat → Int32)) (ym_6_10 : (Nat → Int32)) (x5_11 : Int32) (x4_12 : Int32) (x3_13 : Int32), ex53 ym_2_8 ym_4_9 ym_6_10 x5_11 x4_12 x3_13 → ∀ (H : Heap) (locs : List Loc) (ls : Array Slot), va_P (dC, dI) vwCl ([(a0, .inr (1, [.int x1, .int x2, .int f_7, .int 0, .int 0, .ref q_1, .ref q_3, .ref q_5, .null])), (q_1, .inl (cI, 6, .inl ym_2_8)), (q_3, .inl (cI, 6, .inl ym_4_9)), (q_5, .inl (cI, 6, .inl ym_6_10))]) H → va_D A ([(a0, .inr (1, [.int x1, .int x2, .int f_7, .int 0, .int 0, .ref q_1, .ref q_3, .ref q_5, .null])), (q_1, .inl (cI, 6, .inl ym_2_8)), (q_3, .inl (cI, 6, .inl ym_4_9)), (q_5, .inl (cI, 6, .inl ym_6_10))]) → va_S A s.heap H locs → lv_has ls 6 [(5, .int x5_11), (4, .int x4_12), (3, .int x3_13), (0, .ref a0), (1, .int x1), (2, .int x2)] → W p l e (headSpec wsX1_init rm_X1_init).room s m args below meth c H locs 3 18 (MQ below (va_Qv post (fun (u : vSH) t => ∃ (a1 a2 a3 a4 : Nat) (ra : Nat → Nat), qB (dC, dI) (tysA cI cZ cJ cL) A (wSH cI cJ u.1.2.2.1.toNatClampNeg a0 a1 a2 a3 a4 ra u) t) A) args s 7 3093 A) (F0 m 142 ls []) := by
    intro ym_2_8 ym_4_9 ym_6_10 x5_11 x4_12 x3_13 hw H locs ls hP hD hS hl
    rw [eex53] at hw
    try dsimp only at hw
    refine lv_aload_n hx hb dX1_init_142 rfl (lv_at hl 3 rfl) ?_
    refine lv_iload_n hx hb dX1_init_143 rfl (lv_at hl 2 rfl) ?_
    refine va_putF (D := (dC, dI)) (ci := 1) (v := .int x3_13) (ty := .int) (C := RX1) (T := TX1) (N := 9) hx hb hT inX1 tyX1 tyX1_ok nmX1 hown hK hP hD hS 0 rfl rfl 3 (by decide) (hT _ k_12) (fun _ h9 => h9) rfl hin rfl (by decide +kernel) rfl rfl (Nat.le_of_ble_eq_true rfl) dX1_init_144 (fun H locs hP hD hS => ?_)
    have hP : va_P (dC, dI) vwCl ([(a0, .inr (1, [.int x1, .int x2, .int f_7, .int x3_13, .int 0, .ref q_1, .ref q_3, .ref q_5, .null])), (q_1, .inl (cI, 6, .inl ym_2_8)), (q_3, .inl (cI, 6, .inl ym_4_9)), (q_5, .inl (cI, 6, .inl ym_6_10))]) H := hP
    have hD : va_D A ([(a0, .inr (1, [.int x1, .int x2, .int f_7, .int x3_13, .int 0, .ref q_1, .ref q_3, .ref q_5, .null])), (q_1, .inl (cI, 6, .inl ym_2_8)), (q_3, .inl (cI, 6, .inl ym_4_9)), (q_5, .inl (cI, 6, .inl ym_6_10))]) := hD
    refine lv_aload_n hx hb dX1_init_147 rfl (lv_at hl 3 rfl) ?_
    refine lv_iload hx hb dX1_init_148 (lv_at hl 1 rfl) ?_
    refine va_putF (D := (dC, dI)) (ci := 1) (v := .int x4_12) (ty := .int) (C := RX1) (T := TX1) (N := 9) hx hb hT inX1 tyX1 tyX1_ok nmX1 hown hK hP hD hS 0 rfl rfl 4 (by decide) (hT _ k_190) (fun _ h9 => h9) rfl hin rfl (by decide +kernel) rfl rfl (Nat.le_of_ble_eq_true rfl) dX1_init_150 (fun H locs hP hD hS => ?_)
    have hP : va_P (dC, dI) vwCl ([(a0, .inr (1, [.int x1, .int x2, .int f_7, .int x3_13, .int x4_12, .ref q_1, .ref q_3, .ref q_5, .null])), (q_1, .inl (cI, 6, .inl ym_2_8)), (q_3, .inl (cI, 6, .inl ym_4_9)), (q_5, .inl (cI, 6, .inl ym_6_10))]) H := hP
    have hD : va_D A ([(a0, .inr (1, [.int x1, .int x2, .int f_7, .int x3_13, .int x4_12, .ref q_1, .ref q_3, .ref q_5, .null])), (q_1, .inl (cI, 6, .inl ym_2_8)), (q_3, .inl (cI, 6, .inl ym_4_9)), (q_5, .inl (cI, 6, .inl ym_6_10))]) := hD
    refine lv_aload_n hx hb dX1_init_153 rfl (lv_at hl 3 rfl) ?_
    refine lv_iconst (v := 3) hx hb dX1_init_154 (by decide) ?_
    refine lv_aload_n hx hb dX1_init_155 rfl (lv_at hl 3 rfl) ?_
    refine va_get (D := (dC, dI)) (ci := 1) (v := .int f_7) (C := RX1) (T := TX1) (N := 9) hx hb hT inX1 hown hK hP 0 rfl rfl 2 (by decide) (hT _ k_188) (fun _ h9 => h9) rfl dX1_init_156 ?_
    obtain ⟨h_17, h_18, hw⟩ := hw
    refine va_mna (X := [(a0, .inr (1, [.int x1, .int x2, .int f_7, .int x3_13, .int x4_12, .ref q_1, .ref q_3, .ref q_5, .null])), (q_1, .inl (cI, 6, .inl ym_2_8)), (q_3, .inl (cI, 6, .inl ym_4_9)), (q_5, .inl (cI, 6, .inl ym_6_10))]) (L := []) (f := fun _ => .inl (cI, 0, .inl (fun _ => 0))) (ty := .int) (N' := 3) (K' := f_7.toNatClampNeg) (z := (f_7.toNatClampNeg, .inl (fun _ => 0))) (cy := cI) hx hb hown (hT _ k_191) hAO (hT _ k_161) (hK.2 0 _ rfl).2 hK hP hD hS hA (by decide) h_17 (by decide) rfl (by decide) (Nat.le_trans (Nat.mul_le_mul_right _ h_18) (by decide)) (Nat.le_trans h_18 (by decide)) rfl rfl (Nat.le_of_ble_eq_true rfl) (Nat.le_trans (Nat.add_le_add_left (Nat.add_le_add_left (Nat.mul_le_mul_left 3 h_18) 3) _) (Nat.le_of_ble_eq_true rfl)) (fun _ => arrV_new _ _ _) dX1_init_159 (fun q_15 r_16 cA9 H _ _ hK9 hP hD hS => ?_)
    rw [cA_eq hK9 2 rfl 4 rfl, ← vr_rows (fun a _ h => by cases h)] at hP hD
    have hP : va_P (dC, dI) vwCl ([(a0, .inr (1, [.int x1, .int x2, .int f_7, .int x3_13, .int x4_12, .ref q_1, .ref q_3, .ref q_5, .null])), (q_1, .inl (cI, 6, .inl ym_2_8)), (q_3, .inl (cI, 6, .inl ym_4_9)), (q_5, .inl (cI, 6, .inl ym_6_10)), (q_15, .inl (cJ, 3, .inr (.inr (.inr (.inr (fun i => if i < 3 then some (r_16 i) else none)))))), (r_16 0, .inl (cI, f_7.toNatClampNeg, .inl (fun _ => 0))), (r_16 1, .inl (cI, f_7.toNatClampNeg, .inl (fun _ => 0))), (r_16 2, .inl (cI, f_7.toNatClampNeg, .inl (fun _ => 0)))]) H := hP
    have hD : va_D A ([(a0, .inr (1, [.int x1, .int x2, .int f_7, .int x3_13, .int x4_12, .ref q_1, .ref q_3, .ref q_5, .null])), (q_1, .inl (cI, 6, .inl ym_2_8)), (q_3, .inl (cI, 6, .inl ym_4_9)), (q_5, .inl (cI, 6, .inl ym_6_10)), (q_15, .inl (cJ, 3, .inr (.inr (.inr (.inr (fun i => if i < 3 then some (r_16 i) else none)))))), (r_16 0, .inl (cI, f_7.toNatClampNeg, .inl (fun _ => 0))), (r_16 1, .inl (cI, f_7.toNatClampNeg, .inl (fun _ => 0))), (r_16 2, .inl (cI, f_7.toNatClampNeg, .inl (fun _ => 0)))]) := hD
    refine W.widen (k := 7) (n := 3093) (Nat.le_of_ble_eq_true rfl) (by have := h_18; show _ + 3 + 3 * _ ≤ _; omega) ?_
    refine va_putF (D := (dC, dI)) (ci := 1) (v := .ref q_15) (ty := (.array (.array .int))) (C := RX1) (T := TX1) (N := 9) hx hb hT inX1 tyX1 tyX1_ok nmX1 hown hK hP hD hS 0 rfl rfl 8 (by decide) (hT _ k_16) (fun _ h9 => h9) rfl hin rfl (by decide +kernel) rfl rfl (Nat.le_of_ble_eq_true rfl) dX1_init_163 (fun H locs hP hD hS => ?_)
    have hP : va_P (dC, dI) vwCl ([(a0, .inr (1, [.int x1, .int x2, .int f_7, .int x3_13, .int x4_12, .ref q_1, .ref q_3, .ref q_5, .ref q_15])), (q_1, .inl (cI, 6, .inl ym_2_8)), (q_3, .inl (cI, 6, .inl ym_4_9)), (q_5, .inl (cI, 6, .inl ym_6_10)), (q_15, .inl (cJ, 3, .inr (.inr (.inr (.inr (fun i => if i < 3 then some (r_16 i) else none)))))), (r_16 0, .inl (cI, f_7.toNatClampNeg, .inl (fun _ => 0))), (r_16 1, .inl (cI, f_7.toNatClampNeg, .inl (fun _ => 0))), (r_16 2, .inl (cI, f_7.toNatClampNeg, .inl (fun _ => 0)))]) H := hP
    have hD : va_D A ([(a0, .inr (1, [.int x1, .int x2, .int f_7, .int x3_13, .int x4_12, .ref q_1, .ref q_3, .ref q_5, .ref q_15])), (q_1, .inl (cI, 6, .inl ym_2_8)), (q_3, .inl (cI, 6, .inl ym_4_9)), (q_5, .inl (cI, 6, .inl ym_6_10)), (q_15, .inl (cJ, 3, .inr (.inr (.inr (.inr (fun i => if i < 3 then some (r_16 i) else none)))))), (r_16 0, .inl (cI, f_7.toNatClampNeg, .inl (fun _ => 0))), (r_16 1, .inl (cI, f_7.toNatClampNeg, .inl (fun _ => 0))), (r_16 2, .inl (cI, f_7.toNatClampNeg, .inl (fun _ => 0)))]) := hD
    refine lv_aload_n hx hb dX1_init_166 rfl (lv_at hl 3 rfl) ?_
    have hPc := hP
    have hDc := hD
    have hFc := va_free (wc := wSG cI cJ f_7.toNatClampNeg a0 q_1 q_3 q_5 q_15 r_16 (x1, x2, f_7, x3_13, x4_12) (ym_2_8, ym_4_9, ym_6_10) ((fun _ => 0), (fun _ => 0), (fun _ => 0))) hD hS hA [0, 1, 2, 3, 4, 5, 6, 7] rfl
    refine va_callv (va_runV (As := []) (rest := []) ⟨hx, hb, hml, hown, hT⟩ (met_X1_fillRowsAndColumns l dC dI cI cZ cJ cL a0 q_1 q_3 q_5 q_15 r_16 H.size _ f_7.toNatClampNeg (x1, x2, f_7, x3_13, x4_12) (ym_2_8, ym_4_9, ym_6_10) ((fun _ => 0), (fun _ => 0), (fun _ => 0))  hw) (cwV 0 hT (gV k_192 k_194 k_195 k_43 k_193) rfl rfl rfl (by decide +kernel) ⟨(Nat.le_of_ble_eq_true rfl), (Nat.le_of_ble_eq_true rfl)⟩) ⟨bl_W, va_recv hK hPc (ci := 1) (q0 := 0) rfl rfl, fun U hU hW => ⟨rfl, by rw [hU], by rw [hU]; exact hPc, va_K.moved hW.alike hK, hDc.weaken (fun _ _ _ _ => trivial)⟩⟩ rfl rfl hl.1 rfl (lv_room (Nat.le_of_ble_eq_true rfl)) dX1_init_167 ⟨Nat.le_of_ble_eq_true rfl, Nat.le_of_ble_eq_true rfl⟩) hS (fun q _ h => hFc q h) hFc (fun R9_22 t H1 locs ht hvm hw hB hz1 hk1 hS => ?_)
    obtain ⟨hP1, -, hD1⟩ := hB
    try dsimp only at hw
    rw [ht] at hP1
    obtain ⟨hP, hD⟩ := va_join (wr := []) (w1 := wSG cI cJ f_7.toNatClampNeg a0 q_1 q_3 q_5 q_15 r_16 (x1, x2, f_7, x3_13, x4_12) (ym_2_8, ym_4_9, ym_6_10) R9_22) hP hD [0, 1, 2, 3, 4, 5, 6, 7] [] rfl rfl (by decide) (by decide) hk1 hFc hP1 hD1
    generalize H1 = H at hP hS ⊢
    have hP := hP.sub (ws' := [(a0, .inr (1, [.int x1, .int x2, .int f_7, .int x3_13, .int x4_12, .ref q_1, .ref q_3, .ref q_5, .ref q_15])), (q_1, .inl (cI, 6, .inl ym_2_8)), (q_3, .inl (cI, 6, .inl ym_4_9)), (q_5, .inl (cI, 6, .inl ym_6_10)), (q_15, .inl (cJ, 3, .inr (.inr (.inr (.inr (fun i => if i < 3 then some (r_16 i) else none)))))), (r_16 0, .inl (cI, f_7.toNatClampNeg, .inl R9_22.1)), (r_16 1, .inl (cI, f_7.toNatClampNeg, .inl R9_22.2.1)), (r_16 2, .inl (cI, f_7.toNatClampNeg, .inl R9_22.2.2))]) [0, 1, 2, 3, 4, 5, 6, 7] rfl
    have hD := hD.sub (ws' := [(a0, .inr (1, [.int x1, .int x2, .int f_7, .int x3_13, .int x4_12, .ref q_1, .ref q_3, .ref q_5, .ref q_15])), (q_1, .inl (cI, 6, .inl ym_2_8)), (q_3, .inl (cI, 6, .inl ym_4_9)), (q_5, .inl (cI, 6, .inl ym_6_10)), (q_15, .inl (cJ, 3, .inr (.inr (.inr (.inr (fun i => if i < 3 then some (r_16 i) else none)))))), (r_16 0, .inl (cI, f_7.toNatClampNeg, .inl R9_22.1)), (r_16 1, .inl (cI, f_7.toNatClampNeg, .inl R9_22.2.1)), (r_16 2, .inl (cI, f_7.toNatClampNeg, .inl R9_22.2.2))]) [0, 1, 2, 3, 4, 5, 6, 7] (by decide) rfl
    refine lv_aload_n hx hb dX1_init_170 rfl (lv_at hl 3 rfl) ?_
    have hPc := hP
    have hDc := hD
    have hFc := va_free (wc := wSG cI cJ f_7.toNatClampNeg a0 q_1 q_3 q_5 q_15 r_16 (x1, x2, f_7, x3_13, x4_12) (ym_2_8, ym_4_9, ym_6_10) R9_22) hD hS hA [0, 1, 2, 3, 4, 5, 6, 7] rfl
    refine va_callv (va_runV (As := []) (rest := []) ⟨hx, hb, hml, hown, hT⟩ (met_X1_fillQuarters l dC dI cI cZ cJ cL a0 q_1 q_3 q_5 q_15 r_16 H.size _ f_7.toNatClampNeg (x1, x2, f_7, x3_13, x4_12) (ym_2_8, ym_4_9, ym_6_10) R9_22  hw) (cwV 0 hT (gV k_196 k_198 k_199 k_43 k_197) rfl rfl rfl (by decide +kernel) ⟨(Nat.le_of_ble_eq_true rfl), (Nat.le_of_ble_eq_true rfl)⟩) ⟨bl_W, va_recv hK hPc (ci := 1) (q0 := 0) rfl rfl, fun U hU hW => ⟨rfl, by rw [hU], by rw [hU]; exact hPc, va_K.moved hW.alike hK, hDc.weaken (fun _ _ _ _ => trivial)⟩⟩ rfl rfl hl.1 rfl (lv_room (Nat.le_of_ble_eq_true rfl)) dX1_init_171 ⟨Nat.le_of_ble_eq_true rfl, Nat.le_of_ble_eq_true rfl⟩) hS (fun q _ h => hFc q h) hFc (fun R9_23 t H1 locs ht hvm hw hB hz1 hk1 hS => ?_)
    obtain ⟨hP1, -, hD1⟩ := hB
    try dsimp only at hw
    rw [ht] at hP1
    obtain ⟨hP, hD⟩ := va_join (wr := []) (w1 := wSG cI cJ f_7.toNatClampNeg a0 q_1 q_3 q_5 q_15 r_16 (x1, x2, f_7, x3_13, x4_12) (ym_2_8, ym_4_9, ym_6_10) R9_23) hP hD [0, 1, 2, 3, 4, 5, 6, 7] [] rfl rfl (by decide) (by decide) hk1 hFc hP1 hD1
    generalize H1 = H at hP hS ⊢
    have hP := hP.sub (ws' := [(a0, .inr (1, [.int x1, .int x2, .int f_7, .int x3_13, .int x4_12, .ref q_1, .ref q_3, .ref q_5, .ref q_15])), (q_1, .inl (cI, 6, .inl ym_2_8)), (q_3, .inl (cI, 6, .inl ym_4_9)), (q_5, .inl (cI, 6, .inl ym_6_10)), (q_15, .inl (cJ, 3, .inr (.inr (.inr (.inr (fun i => if i < 3 then some (r_16 i) else none)))))), (r_16 0, .inl (cI, f_7.toNatClampNeg, .inl R9_23.1)), (r_16 1, .inl (cI, f_7.toNatClampNeg, .inl R9_23.2.1)), (r_16 2, .inl (cI, f_7.toNatClampNeg, .inl R9_23.2.2))]) [0, 1, 2, 3, 4, 5, 6, 7] rfl
    have hD := hD.sub (ws' := [(a0, .inr (1, [.int x1, .int x2, .int f_7, .int x3_13, .int x4_12, .ref q_1, .ref q_3, .ref q_5, .ref q_15])), (q_1, .inl (cI, 6, .inl ym_2_8)), (q_3, .inl (cI, 6, .inl ym_4_9)), (q_5, .inl (cI, 6, .inl ym_6_10)), (q_15, .inl (cJ, 3, .inr (.inr (.inr (.inr (fun i => if i < 3 then some (r_16 i) else none)))))), (r_16 0, .inl (cI, f_7.toNatClampNeg, .inl R9_23.1)), (r_16 1, .inl (cI, f_7.toNatClampNeg, .inl R9_23.2.1)), (r_16 2, .inl (cI, f_7.toNatClampNeg, .inl R9_23.2.2))]) [0, 1, 2, 3, 4, 5, 6, 7] (by decide) rfl
    have hP := hP.sub (ws' := (wSH cI cJ ((x1, x2, f_7, x3_13, x4_12), (ym_2_8, ym_4_9, ym_6_10), rows3 R9_23.1 R9_23.2.1 R9_23.2.2).1.2.2.1.toNatClampNeg a0 q_1 q_3 q_5 q_15 r_16 ((x1, x2, f_7, x3_13, x4_12), (ym_2_8, ym_4_9, ym_6_10), rows3 R9_23.1 R9_23.2.1 R9_23.2.2))) [0, 1, 2, 3, 4, 5, 6, 7] rfl
    have hD := hD.sub (ws' := (wSH cI cJ ((x1, x2, f_7, x3_13, x4_12), (ym_2_8, ym_4_9, ym_6_10), rows3 R9_23.1 R9_23.2.1 R9_23.2.2).1.2.2.1.toNatClampNeg a0 q_1 q_3 q_5 q_15 r_16 ((x1, x2, f_7, x3_13, x4_12), (ym_2_8, ym_4_9, ym_6_10), rows3 R9_23.1 R9_23.2.1 R9_23.2.2))) [0, 1, 2, 3, 4, 5, 6, 7] (by decide) rfl
    exact W.vret hx hb hr (fun t ht hW => ⟨⟨((x1, x2, f_7, x3_13, x4_12), (ym_2_8, ym_4_9, ym_6_10), rows3 R9_23.1 R9_23.2.1 R9_23.2.2), rfl, hw, q_1, q_3, q_5, q_15, r_16, by rw [ht]; exact hP, va_K.moved hW.alike hK, hD⟩, hS.F ht⟩) hS.2.2 dX1_init_174
  have hlp53 : ∀ (n_14 : Nat) (ym_2_8 : (Nat → Int32)) (ym_4_9 : (Nat → Int32)) (ym_6_10 : (Nat → Int32)) (x5_11 : Int32) (x4_12 : Int32) (x3_13 : Int32), wp_X1_init_L53 post ex53 x1 x2 f_7 n_14 ym_2_8 ym_4_9 ym_6_10 x5_11 x4_12 x3_13 → ∀ (H : Heap) (locs : List Loc) (ls : Array Slot), va_P (dC, dI) vwCl ([(a0, .inr (1, [.int x1, .int x2, .int f_7, .int 0, .int 0, .ref q_1, .ref q_3, .ref q_5, .null])), (q_1, .inl (cI, 6, .inl ym_2_8)), (q_3, .inl (cI, 6, .inl ym_4_9)), (q_5, .inl (cI, 6, .inl ym_6_10))]) H → va_D A ([(a0, .inr (1, [.int x1, .int x2, .int f_7, .int 0, .int 0, .ref q_1, .ref q_3, .ref q_5, .null])), (q_1, .inl (cI, 6, .inl ym_2_8)), (q_3, .inl (cI, 6, .inl ym_4_9)), (q_5, .inl (cI, 6, .inl ym_6_10))]) → va_S A s.heap H locs → lv_has ls 6 [(5, .int x5_11), (4, .int x4_12), (3, .int x3_13), (0, .ref a0), (1, .int x1), (2, .int x2)] → W p l e (headSpec wsX1_init rm_X1_init).room s m args below meth c H locs 3 18 (MQ below (va_Qv post (fun (u : vSH) t => ∃ (a1 a2 a3 a4 : Nat) (ra : Nat → Nat), qB (dC, dI) (tysA cI cZ cJ cL) A (wSH cI cJ u.1.2.2.1.toNatClampNeg a0 a1 a2 a3 a4 ra u) t) A) args s 7 3093 A) (F0 m 53 ls []) := by
    intro n_14
    induction n_14 with
    | zero => intro _ _ _ _ _ _ hw; exact hw.elim
    | succ n_14 ih53 =>
      intro ym_2_8 ym_4_9 ym_6_10 x5_11 x4_12 x3_13 hw H locs ls hP hD hS hl
      unfold wp_X1_init_L53 at hw
      refine lv_iload_n hx hb dX1_init_53 rfl (lv_at hl 2 rfl) ?_
      refine lv_bipush (v := 6) hx hb dX1_init_54 (by decide) ?_
      refine lv_icmp_ge (tgt := 142) hx hb dX1_init_56 (by decide) (fun c_24 => ?_) (fun c_24 => ?_)
      · have hw := hw.1 c_24
        exact hx53 ym_2_8 ym_4_9 ym_6_10 x5_11 x4_12 x3_13 hw _ _ _ hP hD hS (lv_sub hl [0, 1, 2, 3, 4, 5] rfl)
      · have hw := hw.2 c_24
        refine lv_iload hx hb dX1_init_59 (lv_at hl 0 rfl) ?_
        refine lv_if_ne (tgt := 142) hx hb dX1_init_61 (by decide) (fun c_25 => ?_) (fun c_25 => ?_)
        · have hw := hw.2 c_25
          exact hx53 ym_2_8 ym_4_9 ym_6_10 x5_11 x4_12 x3_13 hw _ _ _ hP hD hS (lv_sub hl [0, 1, 2, 3, 4, 5] rfl)
        · have hw := hw.1 c_25
          refine lv_aload_n hx hb dX1_init_64 rfl (lv_at hl 3 rfl) ?_
          refine va_get (D := (dC, dI)) (ci := 1) (v := .ref q_1) (C := RX1) (T := TX1) (N := 9) hx hb hT inX1 hown hK hP 0 rfl rfl 5 (by decide) (hT _ k_13) (fun _ h9 => h9) rfl dX1_init_65 ?_
          refine lv_iload_n hx hb dX1_init_68 rfl (lv_at hl 2 rfl) ?_
          refine lv_iload_n hx hb dX1_init_69 rfl (lv_at hl 4 rfl) ?_
          refine lv_iload_n hx hb dX1_init_70 rfl (lv_at hl 2 rfl) ?_
          have hPc : va_P (dC, dI) vwCl [] H := hP.sub (ws' := []) [] rfl
          refine vp_callSi (W.runS (As := [.int x1, .int x3_13]) (rest := [.int x3_13, .ref q_1]) ⟨hx, hb, hml, hown, hT⟩ (met_X1_halved l dC dI cI cZ cJ cL  _   x1 x3_13 hw) (va_cwS 2 hT (gS k_200 k_202 k_43 k_201) rfl rfl rfl (by decide +kernel) ⟨(Nat.le_of_ble_eq_true rfl), (Nat.le_of_ble_eq_true rfl)⟩) ⟨bl_R, fun U hU hW => ⟨rfl, by rw [hU]; exact hPc, va_K.moved hW.alike hK⟩⟩ rfl rfl hl.1 rfl (lv_room (Nat.le_of_ble_eq_true rfl)) dX1_init_71 ⟨Nat.le_of_ble_eq_true rfl, Nat.le_of_ble_eq_true rfl⟩) (fun r_26 hw => ?_)
          try dsimp only at hw
          obtain ⟨h_27, hw⟩ := hw
          refine va_iast hx hb hK hP hD hS 1 0 rfl rfl h_27 dX1_init_74 (fun H locs hP hD hS => ?_)
          have hP : va_P (dC, dI) vwCl ([(a0, .inr (1, [.int x1, .int x2, .int f_7, .int 0, .int 0, .ref q_1, .ref q_3, .ref q_5, .null])), (q_1, .inl (cI, 6, .inl (upd ym_2_8 x3_13.toNatClampNeg r_26))), (q_3, .inl (cI, 6, .inl ym_4_9)), (q_5, .inl (cI, 6, .inl ym_6_10))]) H := hP
          have hD : va_D A ([(a0, .inr (1, [.int x1, .int x2, .int f_7, .int 0, .int 0, .ref q_1, .ref q_3, .ref q_5, .null])), (q_1, .inl (cI, 6, .inl (upd ym_2_8 x3_13.toNatClampNeg r_26))), (q_3, .inl (cI, 6, .inl ym_4_9)), (q_5, .inl (cI, 6, .inl ym_6_10))]) := hD
          refine lv_aload_n hx hb dX1_init_75 rfl (lv_at hl 3 rfl) ?_
          refine va_get (D := (dC, dI)) (ci := 1) (v := .ref q_3) (C := RX1) (T := TX1) (N := 9) hx hb hT inX1 hown hK hP 0 rfl rfl 6 (by decide) (hT _ k_14) (fun _ h9 => h9) rfl dX1_init_76 ?_
          refine lv_iload_n hx hb dX1_init_79 rfl (lv_at hl 2 rfl) ?_
          refine lv_iload_n hx hb dX1_init_80 rfl (lv_at hl 5 rfl) ?_
          refine lv_iload_n hx hb dX1_init_81 rfl (lv_at hl 2 rfl) ?_
          have hPc : va_P (dC, dI) vwCl [] H := hP.sub (ws' := []) [] rfl
          refine vp_callSi (W.runS (As := [.int x2, .int x3_13]) (rest := [.int x3_13, .ref q_3]) ⟨hx, hb, hml, hown, hT⟩ (met_X1_halved l dC dI cI cZ cJ cL  _   x2 x3_13 hw) (va_cwS 2 hT (gS k_200 k_202 k_43 k_201) rfl rfl rfl (by decide +kernel) ⟨(Nat.le_of_ble_eq_true rfl), (Nat.le_of_ble_eq_true rfl)⟩) ⟨bl_R, fun U hU hW => ⟨rfl, by rw [hU]; exact hPc, va_K.moved hW.alike hK⟩⟩ rfl rfl hl.1 rfl (lv_room (Nat.le_of_ble_eq_true rfl)) dX1_init_82 ⟨Nat.le_of_ble_eq_true rfl, Nat.le_of_ble_eq_true rfl⟩) (fun r_28 hw => ?_)
          try dsimp only at hw
          obtain ⟨h_29, hw⟩ := hw
          refine va_iast hx hb hK hP hD hS 2 0 rfl rfl h_29 dX1_init_85 (fun H locs hP hD hS => ?_)
          have hP : va_P (dC, dI) vwCl ([(a0, .inr (1, [.int x1, .int x2, .int f_7, .int 0, .int 0, .ref q_1, .ref q_3, .ref q_5, .null])), (q_1, .inl (cI, 6, .inl (upd ym_2_8 x3_13.toNatClampNeg r_26))), (q_3, .inl (cI, 6, .inl (upd ym_4_9 x3_13.toNatClampNeg r_28))), (q_5, .inl (cI, 6, .inl ym_6_10))]) H := hP
          have hD : va_D A ([(a0, .inr (1, [.int x1, .int x2, .int f_7, .int 0, .int 0, .ref q_1, .ref q_3, .ref q_5, .null])), (q_1, .inl (cI, 6, .inl (upd ym_2_8 x3_13.toNatClampNeg r_26))), (q_3, .inl (cI, 6, .inl (upd ym_4_9 x3_13.toNatClampNeg r_28))), (q_5, .inl (cI, 6, .inl ym_6_10))]) := hD
          refine lv_aload_n hx hb dX1_init_86 rfl (lv_at hl 3 rfl) ?_
          refine va_get (D := (dC, dI)) (ci := 1) (v := .ref q_5) (C := RX1) (T := TX1) (N := 9) hx hb hT inX1 hown hK hP 0 rfl rfl 7 (by decide) (hT _ k_15) (fun _ h9 => h9) rfl dX1_init_87 ?_
          refine lv_iload_n hx hb dX1_init_90 rfl (lv_at hl 2 rfl) ?_
          refine lv_iload hx hb dX1_init_91 (lv_at hl 1 rfl) ?_
          obtain ⟨h_30, hw⟩ := hw
          refine va_iast hx hb hK hP hD hS 3 0 rfl rfl h_30 dX1_init_93 (fun H locs hP hD hS => ?_)
          have hP : va_P (dC, dI) vwCl ([(a0, .inr (1, [.int x1, .int x2, .int f_7, .int 0, .int 0, .ref q_1, .ref q_3, .ref q_5, .null])), (q_1, .inl (cI, 6, .inl (upd ym_2_8 x3_13.toNatClampNeg r_26))), (q_3, .inl (cI, 6, .inl (upd ym_4_9 x3_13.toNatClampNeg r_28))), (q_5, .inl (cI, 6, .inl (upd ym_6_10 x3_13.toNatClampNeg x4_12)))]) H := hP
          have hD : va_D A ([(a0, .inr (1, [.int x1, .int x2, .int f_7, .int 0, .int 0, .ref q_1, .ref q_3, .ref q_5, .null])), (q_1, .inl (cI, 6, .inl (upd ym_2_8 x3_13.toNatClampNeg r_26))), (q_3, .inl (cI, 6, .inl (upd ym_4_9 x3_13.toNatClampNeg r_28))), (q_5, .inl (cI, 6, .inl (upd ym_6_10 x3_13.toNatClampNeg x4_12)))]) := hD
          refine lv_iload hx hb dX1_init_94 (lv_at hl 1 rfl) ?_
          refine lv_aload_n hx hb dX1_init_96 rfl (lv_at hl 3 rfl) ?_
          refine va_get (D := (dC, dI)) (ci := 1) (v := .ref q_1) (C := RX1) (T := TX1) (N := 9) hx hb hT inX1 hown hK hP 0 rfl rfl 5 (by decide) (hT _ k_13) (fun _ h9 => h9) rfl dX1_init_97 ?_
          refine lv_iload_n hx hb dX1_init_100 rfl (lv_at hl 2 rfl) ?_
          obtain ⟨h_31, hw⟩ := hw
          refine va_iald hx hb hK hP 1 0 rfl rfl h_31 dX1_init_101 ?_
          refine lv_aload_n hx hb dX1_init_102 rfl (lv_at hl 3 rfl) ?_
          refine va_get (D := (dC, dI)) (ci := 1) (v := .ref q_3) (C := RX1) (T := TX1) (N := 9) hx hb hT inX1 hown hK hP 0 rfl rfl 6 (by decide) (hT _ k_14) (fun _ h9 => h9) rfl dX1_init_103 ?_
          refine lv_iload_n hx hb dX1_init_106 rfl (lv_at hl 2 rfl) ?_
          obtain ⟨h_32, hw⟩ := hw
          refine va_iald hx hb hK hP 2 0 rfl rfl h_32 dX1_init_107 ?_
          refine lv_imul hx hb dX1_init_108 ?_
          refine lv_iadd hx hb dX1_init_109 ?_
          refine lv_topi (fun x4_33 ex4_33 => ?_)
          have hw := hw x4_33 ex4_33
          refine lv_istore (lv' := [(4, .int x4_33), (5, .int x5_11), (3, .int x3_13), (0, .ref a0), (1, .int x1), (2, .int x2)]) hx hb dX1_init_110 hl (by decide) rfl (fun ls hl => ?_)
          refine lv_aload_n hx hb dX1_init_112 rfl (lv_at hl 3 rfl) ?_
          refine va_get (D := (dC, dI)) (ci := 1) (v := .ref q_1) (C := RX1) (T := TX1) (N := 9) hx hb hT inX1 hown hK hP 0 rfl rfl 5 (by decide) (hT _ k_13) (fun _ h9 => h9) rfl dX1_init_113 ?_
          refine lv_iload_n hx hb dX1_init_116 rfl (lv_at hl 2 rfl) ?_
          obtain ⟨h_34, hw⟩ := hw
          refine va_iald hx hb hK hP 1 0 rfl rfl h_34 dX1_init_117 ?_
          refine lv_aload_n hx hb dX1_init_118 rfl (lv_at hl 3 rfl) ?_
          refine va_get (D := (dC, dI)) (ci := 1) (v := .ref q_3) (C := RX1) (T := TX1) (N := 9) hx hb hT inX1 hown hK hP 0 rfl rfl 6 (by decide) (hT _ k_14) (fun _ h9 => h9) rfl dX1_init_119 ?_
          refine lv_iload_n hx hb dX1_init_122 rfl (lv_at hl 2 rfl) ?_
          obtain ⟨h_35, hw⟩ := hw
          refine va_iald hx hb hK hP 2 0 rfl rfl h_35 dX1_init_123 ?_
          refine lv_imul hx hb dX1_init_124 ?_
          refine lv_iconst (v := 1) hx hb dX1_init_125 (by decide) ?_
          refine lv_icmp_ne (tgt := 133) hx hb dX1_init_126 (by decide) (fun c_36 => ?_) (fun c_36 => ?_)
          · have hw := hw.2 c_36
            refine lv_iconst (v := 0) hx hb dX1_init_133 (by decide) ?_
            refine lv_istore (lv' := [(5, .int 0), (4, .int x4_33), (3, .int x3_13), (0, .ref a0), (1, .int x1), (2, .int x2)]) hx hb dX1_init_134 hl (by decide) rfl (fun ls hl => ?_)
            obtain ⟨x3_37, ex3_37⟩ : ∃ y : Int32, y = x3_13 + 1 := ⟨_, rfl⟩
            have hw := hw x3_37 ex3_37
            refine lv_iinc (v := x3_37) (lv' := [(3, .int x3_37), (5, .int 0), (4, .int x4_33), (0, .ref a0), (1, .int x1), (2, .int x2)]) hx hb dX1_init_136 hl (k := 2) rfl (by rw [ex3_37]; rfl) (by decide) rfl (fun ls hl => ?_)
            refine lv_goto (tgt := 53) hx hb dX1_init_139 (by decide) ?_
            exact ih53 (upd ym_2_8 x3_13.toNatClampNeg r_26) (upd ym_4_9 x3_13.toNatClampNeg r_28) (upd ym_6_10 x3_13.toNatClampNeg x4_12) 0 x4_33 x3_37 hw _ _ _ hP hD hS (lv_sub hl [1, 2, 0, 3, 4, 5] rfl)
          · have hw := hw.1 c_36
            refine lv_iconst (v := 1) hx hb dX1_init_129 (by decide) ?_
            refine lv_goto (tgt := 134) hx hb dX1_init_130 (by decide) ?_
            refine lv_istore (lv' := [(5, .int 1), (4, .int x4_33), (3, .int x3_13), (0, .ref a0), (1, .int x1), (2, .int x2)]) hx hb dX1_init_134 hl (by decide) rfl (fun ls hl => ?_)
            obtain ⟨x3_38, ex3_38⟩ : ∃ y : Int32, y = x3_13 + 1 := ⟨_, rfl⟩
            have hw := hw x3_38 ex3_38
            refine lv_iinc (v := x3_38) (lv' := [(3, .int x3_38), (5, .int 1), (4, .int x4_33), (0, .ref a0), (1, .int x1), (2, .int x2)]) hx hb dX1_init_136 hl (k := 2) rfl (by rw [ex3_38]; rfl) (by decide) rfl (fun ls hl => ?_)
            refine lv_goto (tgt := 53) hx hb dX1_init_139 (by decide) ?_
            exact ih53 (upd ym_2_8 x3_13.toNatClampNeg r_26) (upd ym_4_9 x3_13.toNatClampNeg r_28) (upd ym_6_10 x3_13.toNatClampNeg x4_12) 1 x4_33 x3_38 hw _ _ _ hP hD hS (lv_sub hl [1, 2, 0, 3, 4, 5] rfl)
  exact hlp53 n_14 (fun _ => 0) (fun _ => 0) (fun _ => 0) 0 0 0 hw _ _ _ hP hD hS (lv_sub hl [0, 1, 2, 3, 4, 5] rfl)
def wp_X3_init (post : vSH × vTT → Prop) (x1 : Int32) (x2 : Int32) : Prop := wp_X3_nearest (fun r_2 => wp_X3_nearest (fun r_3 => wp_X1_init (fun u_4 => ¬ u_4.1.2.2.2.2 < 0 ∧ u_4.1.2.2.2.2.toNatClampNeg ≤ 1400 ∧ (wp_X2_init (fun u_21 => wp_X2_init (fun u_27 => wp_X0_init (fun u_33 => wp_X0_init (fun u_37 => post (u_4, ((fun _ => 0), (u_21.1, u_21.2.1, u_21.2.2), (u_27.1, u_27.2.1, u_27.2.2), (u_33.1, u_33.2.1, u_33.2.2), (u_37.1, u_37.2.1, u_37.2.2), 0))) ) ) u_4.1.2.2.2.2) u_4.1.2.2.2.2)) r_2 r_3)   x2.toInt64 1 32)   x1.toInt64 1 32
abbrev rm_X3_init : Room := { frames := 3, cells := 19, slots := 12614, locals := 71 }
set_option maxHeartbeats 4000000 in
set_option maxRecDepth 100000 in
theorem met_X3_init (l : Launch) (dC : Nat → ClassId) (dI : Nat → Nat → Nat) (cI cZ cJ cL : ClassId) (a0 : Nat) (sz : Nat) (post : vSH × vTT → Prop) (x1 : Int32) (x2 : Int32) (hw : wp_X3_init post x1 x2) : Met l yX3_init wsX3_init rm_X3_init (pcC (dC, dI) (tysA cI cZ cJ cL) [(a0, .inr (3, [.null, .null, .null, .null, .null, .null, .int 0]))] sz [.ref a0, .int x1, .int x2]) (va_Qv post (fun (u : vSH × vTT) t => ∃ (ad ra : Nat → Nat), ad 0 = a0 ∧ qB (dC, dI) (tysA cI cZ cJ cL) (va_A [(a0, .inr (3, [.null, .null, .null, .null, .null, .null, .int 0]))] sz) (wTT cI cZ cJ (u.1.1.2.2.1.toNatClampNeg) (u.1.1.2.2.2.2.toNatClampNeg) ad ra u.1 u.2) t) (va_A [(a0, .inr (3, [.null, .null, .null, .null, .null, .null, .int 0]))] sz)) 19 12614 (va_A [(a0, .inr (3, [.null, .null, .null, .null, .null, .null, .int 0]))] sz) := by
  refine Met.ofW (cc := cX3_init) (maxL := 3) (ret := none) (by decide) rfl ?_
  intro p e s m args below meth c s₁ Bd hml hv
  obtain ⟨hargs, hsz, hP, hK, hD0, hAO⟩ := hv
  have hx := Bd.exec
  have hb := Bd.bytes
  have hr := Bd.returns
  have hts := atoms_spec (ws := wsX3_init) Bd.pre
  have hT : ∀ w ∈ WALL, w.before args s = true := fun w h => hts w (List.mem_cons_of_mem _ h)
  have hown : s.vm.findClass RX3 = some m.cls := findClass_of_methodNamed Bd.named
  have hlocks := Bd.notSynchronized
  have hin : meth.name = "<init>" := (name_of_methodNamed Bd.named Bd.method).1
  subst hsz
  have hD := hD0.self (sz := s.heap.size)
  generalize hAe : va_A [(a0, .inr (3, [.null, .null, .null, .null, .null, .null, .int 0]))] s.heap.size = A at hD ⊢
  have hA : ∀ q : Nat, s.heap.size ≤ q → A q := fun q h => by rw [← hAe]; exact Or.inr h
  have hS : va_S A s.heap s.heap [] := va_S.rf
  have hP : va_P (dC, dI) vwCl [(a0, .inr (3, [.null, .null, .null, .null, .null, .null, .int 0]))] s.heap := hP
  have hl := lv_entry ([.ref a0, .int x1, .int x2]) (n := 3) (Nat.le_of_ble_eq_true rfl)
  rw [show entryFrame m args 3 = F0 m 0 _ [] from by rw [hargs]; exact lg_entry_eq m ([.ref a0, .int x1, .int x2]) 3]
  generalize (lg_sl ([.ref a0, .int x1, .int x2]) ++ List.replicate (3 - (lg_sl ([.ref a0, .int x1, .int x2])).length) Slot.unset).toArray = ls at hl ⊢
  have hl : lv_has ls 3 [(0, .ref a0), (1, .int x1), (2, .int x2)] := hl
  obtain ⟨H, hH⟩ : ∃ z : Heap, z = s.heap := ⟨_, rfl⟩
  obtain ⟨locs, hlocs⟩ : ∃ z : List Loc, z = [] := ⟨_, rfl⟩
  rw [show W p l e (headSpec wsX3_init rm_X3_init).room s m args below meth c s.heap [] 0 0 = W p l e (headSpec wsX3_init rm_X3_init).room s m args below meth c H locs 0 0 from by rw [hH, hlocs]]
  have hP : va_P (dC, dI) vwCl [(a0, .inr (3, [.null, .null, .null, .null, .null, .null, .int 0]))] H := by rw [hH]; exact hP
  have hS : va_S A s.heap H locs := by rw [hH, hlocs]; exact hS
  unfold wp_X3_init at hw
  refine lv_aload_n hx hb dX3_init_0 rfl (lv_at hl 0 rfl) ?_
  refine W.objInit hx hb hown (hT _ k_203) (hT _ k_159) (hT _ k_160) rfl (by rw [hml]; exact hl.1) rfl dX3_init_1 (Nat.le_of_ble_eq_true rfl) (Nat.le_of_ble_eq_true rfl) ?_
  refine W.eq (g2 := F0 m 4 ls []) rfl ?_
  refine lv_aload_n hx hb dX3_init_4 rfl (lv_at hl 0 rfl) ?_
  refine va_new (ci := 1) (fs := [.int 0, .int 0, .int 0, .int 0, .int 0, .null, .null, .null, .null]) (C := RX1) (T := TX1) (N := 9) hx hb hT inX1 tyX1 tyX1_ok hown (hT _ k_204) (hT _ k_205) (hT _ k_43) hK hP hD hS hA rfl (fun j hj => by rcases (show j = 0 ∨ j = 1 ∨ j = 2 ∨ j = 3 ∨ j = 4 ∨ j = 5 ∨ j = 6 ∨ j = 7 ∨ j = 8 by omega) with rfl | rfl | rfl | rfl | rfl | rfl | rfl | rfl | rfl <;> rfl) (Nat.le_of_ble_eq_true rfl) (Nat.le_of_ble_eq_true rfl) dX3_init_5 (fun q_1 H hP hD hS => ?_)
  have hP : va_P (dC, dI) vwCl ([(a0, .inr (3, [.null, .null, .null, .null, .null, .null, .int 0])), (q_1, .inr (1, [.int 0, .int 0, .int 0, .int 0, .int 0, .null, .null, .null, .null]))]) H := hP
  have hD : va_D A ([(a0, .inr (3, [.null, .null, .null, .null, .null, .null, .int 0])), (q_1, .inr (1, [.int 0, .int 0, .int 0, .int 0, .int 0, .null, .null, .null, .null]))]) := hD
  refine W.widen (k := 1) (n := 9) (Nat.le_of_ble_eq_true rfl) (Nat.le_of_ble_eq_true rfl) ?_
  refine lv_dup hx hb dX3_init_8 rfl ?_
  refine lv_iload_n hx hb dX3_init_9 rfl (lv_at hl 1 rfl) ?_
  refine lv_i2l hx hb dX3_init_10 rfl ?_
  refine lv_iconst (v := 1) hx hb dX3_init_11 (by decide) ?_
  refine lv_bipush (v := 32) hx hb dX3_init_12 (by decide) ?_
  have hPc : va_P (dC, dI) vwCl [] H := hP.sub (ws' := []) [] rfl
  refine vp_callSi (W.runS (As := [.long x1.toInt64, .int 1, .int 32]) (rest := [.ref q_1, .ref q_1, .ref a0]) ⟨hx, hb, hml, hown, hT⟩ (met_X3_nearest l dC dI cI cZ cJ cL  _   x1.toInt64 1 32 hw) (va_cwS 3 hT (gS k_140 k_142 k_57 k_141) rfl rfl rfl (by decide +kernel) ⟨(Nat.le_of_ble_eq_true rfl), (Nat.le_of_ble_eq_true rfl)⟩) ⟨bl_R, fun U hU hW => ⟨rfl, by rw [hU]; exact hPc, va_K.moved hW.alike hK⟩⟩ rfl rfl hl.1 rfl (lv_room (Nat.le_of_ble_eq_true rfl)) dX3_init_14 ⟨Nat.le_of_ble_eq_true rfl, Nat.le_of_ble_eq_true rfl⟩) (fun r_2 hw => ?_)
  try dsimp only at hw
  refine lv_iload_n hx hb dX3_init_17 rfl (lv_at hl 2 rfl) ?_
  refine lv_i2l hx hb dX3_init_18 rfl ?_
  refine lv_iconst (v := 1) hx hb dX3_init_19 (by decide) ?_
  refine lv_bipush (v := 32) hx hb dX3_init_20 (by decide) ?_
  have hPc : va_P (dC, dI) vwCl [] H := hP.sub (ws' := []) [] rfl
  refine vp_callSi (W.runS (As := [.long x2.toInt64, .int 1, .int 32]) (rest := [.int r_2, .ref q_1, .ref q_1, .ref a0]) ⟨hx, hb, hml, hown, hT⟩ (met_X3_nearest l dC dI cI cZ cJ cL  _   x2.toInt64 1 32 hw) (va_cwS 3 hT (gS k_140 k_142 k_57 k_141) rfl rfl rfl (by decide +kernel) ⟨(Nat.le_of_ble_eq_true rfl), (Nat.le_of_ble_eq_true rfl)⟩) ⟨bl_R, fun U hU hW => ⟨rfl, by rw [hU]; exact hPc, va_K.moved hW.alike hK⟩⟩ rfl rfl hl.1 rfl (lv_room (Nat.le_of_ble_eq_true rfl)) dX3_init_22 ⟨Nat.le_of_ble_eq_true rfl, Nat.le_of_ble_eq_true rfl⟩) (fun r_3 hw => ?_)
  try dsimp only at hw
  have hPc := hP.sub (ws' := [(q_1, .inr (1, [.int 0, .int 0, .int 0, .int 0, .int 0, .null, .null, .null, .null]))]) [1] rfl
  have hDc := hD.sub (ws' := [(q_1, .inr (1, [.int 0, .int 0, .int 0, .int 0, .int 0, .null, .null, .null, .null]))]) [1] (by decide) rfl
  have hFc := va_free (wc := [(q_1, .inr (1, [.int 0, .int 0, .int 0, .int 0, .int 0, .null, .null, .null, .null]))]) hD hS hA [1] rfl
  refine va_callv (va_runI (As := [.int r_2, .int r_3]) (rest := [.ref q_1, .ref a0]) ⟨hx, hb, hml, hown, hT⟩ (met_X1_init l dC dI cI cZ cJ cL q_1 H.size _ r_2 r_3 hw) (cwI 2 hT (goodW k_207) rfl rfl rfl (hT _ k_43) (hT _ k_206) (hT _ k_208) rfl (by decide +kernel) ⟨Nat.le_of_ble_eq_true rfl, Nat.le_of_ble_eq_true rfl⟩) ⟨bl_C, fun U hU hW => ⟨rfl, by rw [hU], by rw [hU]; exact hPc, va_K.moved hW.alike hK, hDc.weaken (fun _ _ _ _ => trivial), hAO.moved hW.alike⟩⟩ rfl rfl hl.1 rfl (lv_room (Nat.le_of_ble_eq_true rfl)) dX3_init_25 ⟨Nat.le_of_ble_eq_true rfl, Nat.le_of_ble_eq_true rfl⟩) hS (fun q _ h => hFc q h) hFc (fun u_4 t H1 locs ht hvm hw hB hz1 hk1 hS => ?_)
  obtain ⟨q_5, q_6, q_7, q_8, r_9, hP1, -, hD1⟩ := hB
  try dsimp only at hw
  rw [ht] at hP1
  obtain ⟨hP, hD⟩ := va_join (wr := [(a0, .inr (3, [.null, .null, .null, .null, .null, .null, .int 0]))]) (w1 := (wSH cI cJ u_4.1.2.2.1.toNatClampNeg q_1 q_5 q_6 q_7 q_8 r_9 u_4)) hP hD [1] [0] rfl rfl (by decide) (by decide) hk1 hFc hP1 hD1
  generalize H1 = H at hP hS ⊢
  have hP : va_P (dC, dI) vwCl ([(a0, .inr (3, [.null, .null, .null, .null, .null, .null, .int 0])), (q_1, .inr (1, [.int u_4.1.1, .int u_4.1.2.1, .int u_4.1.2.2.1, .int u_4.1.2.2.2.1, .int u_4.1.2.2.2.2, .ref q_5, .ref q_6, .ref q_7, .ref q_8])), (q_5, .inl (cI, 6, .inl u_4.2.1.1)), (q_6, .inl (cI, 6, .inl u_4.2.1.2.1)), (q_7, .inl (cI, 6, .inl u_4.2.1.2.2)), (q_8, .inl (cJ, 3, .inr (.inr (.inr (.inr (fun i => if i < 3 then some (r_9 i) else none)))))), (r_9 0, .inl (cI, u_4.1.2.2.1.toNatClampNeg, .inl (u_4.2.2 0))), (r_9 1, .inl (cI, u_4.1.2.2.1.toNatClampNeg, .inl (u_4.2.2 1))), (r_9 2, .inl (cI, u_4.1.2.2.1.toNatClampNeg, .inl (u_4.2.2 2)))]) H := hP
  have hD : va_D A ([(a0, .inr (3, [.null, .null, .null, .null, .null, .null, .int 0])), (q_1, .inr (1, [.int u_4.1.1, .int u_4.1.2.1, .int u_4.1.2.2.1, .int u_4.1.2.2.2.1, .int u_4.1.2.2.2.2, .ref q_5, .ref q_6, .ref q_7, .ref q_8])), (q_5, .inl (cI, 6, .inl u_4.2.1.1)), (q_6, .inl (cI, 6, .inl u_4.2.1.2.1)), (q_7, .inl (cI, 6, .inl u_4.2.1.2.2)), (q_8, .inl (cJ, 3, .inr (.inr (.inr (.inr (fun i => if i < 3 then some (r_9 i) else none)))))), (r_9 0, .inl (cI, u_4.1.2.2.1.toNatClampNeg, .inl (u_4.2.2 0))), (r_9 1, .inl (cI, u_4.1.2.2.1.toNatClampNeg, .inl (u_4.2.2 1))), (r_9 2, .inl (cI, u_4.1.2.2.1.toNatClampNeg, .inl (u_4.2.2 2)))]) := hD
  refine va_putF (D := (dC, dI)) (ci := 3) (v := .ref q_1) (ty := (.object "TagTrees$Shape")) (C := RX3) (T := TX3) (N := 7) hx hb hT inX3 tyX3 tyX3_ok nmX3 hown hK hP hD hS 0 rfl rfl 0 (by decide) (hT _ k_17) (fun _ h9 => h9) rfl hin rfl (by decide +kernel) rfl rfl (Nat.le_of_ble_eq_true rfl) dX3_init_28 (fun H locs hP hD hS => ?_)
  have hP : va_P (dC, dI) vwCl ([(a0, .inr (3, [.ref q_1, .null, .null, .null, .null, .null, .int 0])), (q_1, .inr (1, [.int u_4.1.1, .int u_4.1.2.1, .int u_4.1.2.2.1, .int u_4.1.2.2.2.1, .int u_4.1.2.2.2.2, .ref q_5, .ref q_6, .ref q_7, .ref q_8])), (q_5, .inl (cI, 6, .inl u_4.2.1.1)), (q_6, .inl (cI, 6, .inl u_4.2.1.2.1)), (q_7, .inl (cI, 6, .inl u_4.2.1.2.2)), (q_8, .inl (cJ, 3, .inr (.inr (.inr (.inr (fun i => if i < 3 then some (r_9 i) else none)))))), (r_9 0, .inl (cI, u_4.1.2.2.1.toNatClampNeg, .inl (u_4.2.2 0))), (r_9 1, .inl (cI, u_4.1.2.2.1.toNatClampNeg, .inl (u_4.2.2 1))), (r_9 2, .inl (cI, u_4.1.2.2.1.toNatClampNeg, .inl (u_4.2.2 2)))]) H := hP
  have hD : va_D A ([(a0, .inr (3, [.ref q_1, .null, .null, .null, .null, .null, .int 0])), (q_1, .inr (1, [.int u_4.1.1, .int u_4.1.2.1, .int u_4.1.2.2.1, .int u_4.1.2.2.2.1, .int u_4.1.2.2.2.2, .ref q_5, .ref q_6, .ref q_7, .ref q_8])), (q_5, .inl (cI, 6, .inl u_4.2.1.1)), (q_6, .inl (cI, 6, .inl u_4.2.1.2.1)), (q_7, .inl (cI, 6, .inl u_4.2.1.2.2)), (q_8, .inl (cJ, 3, .inr (.inr (.inr (.inr (fun i => if i < 3 then some (r_9 i) else none)))))), (r_9 0, .inl (cI, u_4.1.2.2.1.toNatClampNeg, .inl (u_4.2.2 0))), (r_9 1, .inl (cI, u_4.1.2.2.1.toNatClampNeg, .inl (u_4.2.2 1))), (r_9 2, .inl (cI, u_4.1.2.2.1.toNatClampNeg, .inl (u_4.2.2 2)))]) := hD
  refine lv_aload_n hx hb dX3_init_31 rfl (lv_at hl 0 rfl) ?_
  refine lv_aload_n hx hb dX3_init_32 rfl (lv_at hl 0 rfl) ?_
  refine va_get (D := (dC, dI)) (ci := 3) (v := .ref q_1) (C := RX3) (T := TX3) (N := 7) hx hb hT inX3 hown hK hP 0 rfl rfl 0 (by decide) (hT _ k_17) (fun _ h9 => h9) rfl dX3_init_33 ?_
  refine va_get (D := (dC, dI)) (ci := 1) (v := .int u_4.1.2.2.2.2) (C := RX1) (T := TX1) (N := 9) hx hb hT inX1 hown hK hP 1 rfl rfl 4 (by decide) (hT _ k_21) (fun _ h9 => h9) rfl dX3_init_36 ?_
  obtain ⟨h_18, h_19, hw⟩ := hw
  refine va_newa (atype := .int) (N' := u_4.1.2.2.2.2.toNatClampNeg) (a0 := (u_4.1.2.2.2.2.toNatClampNeg, .inl (fun _ => 0))) (ty := .int) (n := u_4.1.2.2.2.2) hx hb (hT _ k_161) rfl hK hP hD hS hA (fun _ => rfl) h_18 rfl (Nat.le_trans (Nat.mul_le_mul_right _ h_19) (by decide)) (Nat.le_of_ble_eq_true rfl) (Nat.le_trans (Nat.add_le_add_left h_19 _) (Nat.le_of_ble_eq_true rfl)) dX3_init_39 (fun q_16 cA9 H hK9 hP hD hS => ?_)
  rw [cA_eq hK9 0 rfl 4 rfl] at hP hD
  have hP : va_P (dC, dI) vwCl ([(a0, .inr (3, [.ref q_1, .null, .null, .null, .null, .null, .int 0])), (q_1, .inr (1, [.int u_4.1.1, .int u_4.1.2.1, .int u_4.1.2.2.1, .int u_4.1.2.2.2.1, .int u_4.1.2.2.2.2, .ref q_5, .ref q_6, .ref q_7, .ref q_8])), (q_5, .inl (cI, 6, .inl u_4.2.1.1)), (q_6, .inl (cI, 6, .inl u_4.2.1.2.1)), (q_7, .inl (cI, 6, .inl u_4.2.1.2.2)), (q_8, .inl (cJ, 3, .inr (.inr (.inr (.inr (fun i => if i < 3 then some (r_9 i) else none)))))), (r_9 0, .inl (cI, u_4.1.2.2.1.toNatClampNeg, .inl (u_4.2.2 0))), (r_9 1, .inl (cI, u_4.1.2.2.1.toNatClampNeg, .inl (u_4.2.2 1))), (r_9 2, .inl (cI, u_4.1.2.2.1.toNatClampNeg, .inl (u_4.2.2 2))), (q_16, .inl (cI, u_4.1.2.2.2.2.toNatClampNeg, .inl (fun _ => 0)))]) H := hP
  have hD : va_D A ([(a0, .inr (3, [.ref q_1, .null, .null, .null, .null, .null, .int 0])), (q_1, .inr (1, [.int u_4.1.1, .int u_4.1.2.1, .int u_4.1.2.2.1, .int u_4.1.2.2.2.1, .int u_4.1.2.2.2.2, .ref q_5, .ref q_6, .ref q_7, .ref q_8])), (q_5, .inl (cI, 6, .inl u_4.2.1.1)), (q_6, .inl (cI, 6, .inl u_4.2.1.2.1)), (q_7, .inl (cI, 6, .inl u_4.2.1.2.2)), (q_8, .inl (cJ, 3, .inr (.inr (.inr (.inr (fun i => if i < 3 then some (r_9 i) else none)))))), (r_9 0, .inl (cI, u_4.1.2.2.1.toNatClampNeg, .inl (u_4.2.2 0))), (r_9 1, .inl (cI, u_4.1.2.2.1.toNatClampNeg, .inl (u_4.2.2 1))), (r_9 2, .inl (cI, u_4.1.2.2.1.toNatClampNeg, .inl (u_4.2.2 2))), (q_16, .inl (cI, u_4.1.2.2.2.2.toNatClampNeg, .inl (fun _ => 0)))]) := hD
  refine W.widen (k := 9) (n := 4502) (Nat.le_of_ble_eq_true rfl) (Nat.add_le_add_left h_19 _) ?_
  refine va_putF (D := (dC, dI)) (ci := 3) (v := .ref q_16) (ty := (.array .int)) (C := RX3) (T := TX3) (N := 7) hx hb hT inX3 tyX3 tyX3_ok nmX3 hown hK hP hD hS 0 rfl rfl 1 (by decide) (hT _ k_44) (fun _ h9 => h9) rfl hin rfl (by decide +kernel) rfl rfl (Nat.le_of_ble_eq_true rfl) dX3_init_41 (fun H locs hP hD hS => ?_)
  have hP : va_P (dC, dI) vwCl ([(a0, .inr (3, [.ref q_1, .ref q_16, .null, .null, .null, .null, .int 0])), (q_1, .inr (1, [.int u_4.1.1, .int u_4.1.2.1, .int u_4.1.2.2.1, .int u_4.1.2.2.2.1, .int u_4.1.2.2.2.2, .ref q_5, .ref q_6, .ref q_7, .ref q_8])), (q_5, .inl (cI, 6, .inl u_4.2.1.1)), (q_6, .inl (cI, 6, .inl u_4.2.1.2.1)), (q_7, .inl (cI, 6, .inl u_4.2.1.2.2)), (q_8, .inl (cJ, 3, .inr (.inr (.inr (.inr (fun i => if i < 3 then some (r_9 i) else none)))))), (r_9 0, .inl (cI, u_4.1.2.2.1.toNatClampNeg, .inl (u_4.2.2 0))), (r_9 1, .inl (cI, u_4.1.2.2.1.toNatClampNeg, .inl (u_4.2.2 1))), (r_9 2, .inl (cI, u_4.1.2.2.1.toNatClampNeg, .inl (u_4.2.2 2))), (q_16, .inl (cI, u_4.1.2.2.2.2.toNatClampNeg, .inl (fun _ => 0)))]) H := hP
  have hD : va_D A ([(a0, .inr (3, [.ref q_1, .ref q_16, .null, .null, .null, .null, .int 0])), (q_1, .inr (1, [.int u_4.1.1, .int u_4.1.2.1, .int u_4.1.2.2.1, .int u_4.1.2.2.2.1, .int u_4.1.2.2.2.2, .ref q_5, .ref q_6, .ref q_7, .ref q_8])), (q_5, .inl (cI, 6, .inl u_4.2.1.1)), (q_6, .inl (cI, 6, .inl u_4.2.1.2.1)), (q_7, .inl (cI, 6, .inl u_4.2.1.2.2)), (q_8, .inl (cJ, 3, .inr (.inr (.inr (.inr (fun i => if i < 3 then some (r_9 i) else none)))))), (r_9 0, .inl (cI, u_4.1.2.2.1.toNatClampNeg, .inl (u_4.2.2 0))), (r_9 1, .inl (cI, u_4.1.2.2.1.toNatClampNeg, .inl (u_4.2.2 1))), (r_9 2, .inl (cI, u_4.1.2.2.1.toNatClampNeg, .inl (u_4.2.2 2))), (q_16, .inl (cI, u_4.1.2.2.2.2.toNatClampNeg, .inl (fun _ => 0)))]) := hD
  refine lv_aload_n hx hb dX3_init_44 rfl (lv_at hl 0 rfl) ?_
  refine va_new (ci := 2) (fs := [.null, .null, .int 0]) (C := RX2) (T := TX2) (N := 3) hx hb hT inX2 tyX2 tyX2_ok hown (hT _ k_209) (hT _ k_210) (hT _ k_33) hK hP hD hS hA rfl (fun j hj => by rcases (show j = 0 ∨ j = 1 ∨ j = 2 by omega) with rfl | rfl | rfl <;> rfl) (Nat.le_of_ble_eq_true rfl) (Nat.le_of_ble_eq_true rfl) dX3_init_45 (fun q_20 H hP hD hS => ?_)
  have hP : va_P (dC, dI) vwCl ([(a0, .inr (3, [.ref q_1, .ref q_16, .null, .null, .null, .null, .int 0])), (q_1, .inr (1, [.int u_4.1.1, .int u_4.1.2.1, .int u_4.1.2.2.1, .int u_4.1.2.2.2.1, .int u_4.1.2.2.2.2, .ref q_5, .ref q_6, .ref q_7, .ref q_8])), (q_5, .inl (cI, 6, .inl u_4.2.1.1)), (q_6, .inl (cI, 6, .inl u_4.2.1.2.1)), (q_7, .inl (cI, 6, .inl u_4.2.1.2.2)), (q_8, .inl (cJ, 3, .inr (.inr (.inr (.inr (fun i => if i < 3 then some (r_9 i) else none)))))), (r_9 0, .inl (cI, u_4.1.2.2.1.toNatClampNeg, .inl (u_4.2.2 0))), (r_9 1, .inl (cI, u_4.1.2.2.1.toNatClampNeg, .inl (u_4.2.2 1))), (r_9 2, .inl (cI, u_4.1.2.2.1.toNatClampNeg, .inl (u_4.2.2 2))), (q_16, .inl (cI, u_4.1.2.2.2.2.toNatClampNeg, .inl (fun _ => 0))), (q_20, .inr (2, [.null, .null, .int 0]))]) H := hP
  have hD : va_D A ([(a0, .inr (3, [.ref q_1, .ref q_16, .null, .null, .null, .null, .int 0])), (q_1, .inr (1, [.int u_4.1.1, .int u_4.1.2.1, .int u_4.1.2.2.1, .int u_4.1.2.2.2.1, .int u_4.1.2.2.2.2, .ref q_5, .ref q_6, .ref q_7, .ref q_8])), (q_5, .inl (cI, 6, .inl u_4.2.1.1)), (q_6, .inl (cI, 6, .inl u_4.2.1.2.1)), (q_7, .inl (cI, 6, .inl u_4.2.1.2.2)), (q_8, .inl (cJ, 3, .inr (.inr (.inr (.inr (fun i => if i < 3 then some (r_9 i) else none)))))), (r_9 0, .inl (cI, u_4.1.2.2.1.toNatClampNeg, .inl (u_4.2.2 0))), (r_9 1, .inl (cI, u_4.1.2.2.1.toNatClampNeg, .inl (u_4.2.2 1))), (r_9 2, .inl (cI, u_4.1.2.2.1.toNatClampNeg, .inl (u_4.2.2 2))), (q_16, .inl (cI, u_4.1.2.2.2.2.toNatClampNeg, .inl (fun _ => 0))), (q_20, .inr (2, [.null, .null, .int 0]))]) := hD
  refine W.widen (k := 10) (n := 4505) (Nat.le_of_ble_eq_true rfl) (Nat.le_of_ble_eq_true rfl) ?_
  refine lv_dup hx hb dX3_init_48 rfl ?_
  refine lv_aload_n hx hb dX3_init_49 rfl (lv_at hl 0 rfl) ?_
  refine va_get (D := (dC, dI)) (ci := 3) (v := .ref q_1) (C := RX3) (T := TX3) (N := 7) hx hb hT inX3 hown hK hP 0 rfl rfl 0 (by decide) (hT _ k_17) (fun _ h9 => h9) rfl dX3_init_50 ?_
  refine va_get (D := (dC, dI)) (ci := 1) (v := .int u_4.1.2.2.2.2) (C := RX1) (T := TX1) (N := 9) hx hb hT inX1 hown hK hP 1 rfl rfl 4 (by decide) (hT _ k_21) (fun _ h9 => h9) rfl dX3_init_53 ?_
  have hPc := hP.sub (ws' := [(q_20, .inr (2, [.null, .null, .int 0]))]) [10] rfl
  have hDc := hD.sub (ws' := [(q_20, .inr (2, [.null, .null, .int 0]))]) [10] (by decide) rfl
  have hFc := va_free (wc := [(q_20, .inr (2, [.null, .null, .int 0]))]) hD hS hA [10] rfl
  refine va_callv (va_runI (As := [.int u_4.1.2.2.2.2]) (rest := [.ref q_20, .ref a0]) ⟨hx, hb, hml, hown, hT⟩ (met_X2_init l dC dI cI cZ cJ cL q_20 H.size _ u_4.1.2.2.2.2 hw) (cwI 1 hT (goodW k_212) rfl rfl rfl (hT _ k_33) (hT _ k_211) (hT _ k_213) rfl (by decide +kernel) ⟨Nat.le_of_ble_eq_true rfl, Nat.le_of_ble_eq_true rfl⟩) ⟨bl_W, fun U hU hW => ⟨rfl, by rw [hU], by rw [hU]; exact hPc, va_K.moved hW.alike hK, hDc.weaken (fun _ _ _ _ => trivial)⟩⟩ rfl rfl hl.1 rfl (lv_room (Nat.le_of_ble_eq_true rfl)) dX3_init_56 ⟨Nat.le_of_ble_eq_true rfl, Nat.le_of_ble_eq_true rfl⟩) hS (fun q _ h => hFc q h) hFc (fun u_21 t H1 locs ht hvm hw hB hz1 hk1 hS => ?_)
  obtain ⟨q_22, q_23, hP1, -, hD1⟩ := hB
  try dsimp only at hw
  rw [ht] at hP1
  obtain ⟨hP, hD⟩ := va_join (wr := [(a0, .inr (3, [.ref q_1, .ref q_16, .null, .null, .null, .null, .int 0])), (q_1, .inr (1, [.int u_4.1.1, .int u_4.1.2.1, .int u_4.1.2.2.1, .int u_4.1.2.2.2.1, .int u_4.1.2.2.2.2, .ref q_5, .ref q_6, .ref q_7, .ref q_8])), (q_5, .inl (cI, 6, .inl u_4.2.1.1)), (q_6, .inl (cI, 6, .inl u_4.2.1.2.1)), (q_7, .inl (cI, 6, .inl u_4.2.1.2.2)), (q_8, .inl (cJ, 3, .inr (.inr (.inr (.inr (fun i => if i < 3 then some (r_9 i) else none)))))), (r_9 0, .inl (cI, u_4.1.2.2.1.toNatClampNeg, .inl (u_4.2.2 0))), (r_9 1, .inl (cI, u_4.1.2.2.1.toNatClampNeg, .inl (u_4.2.2 1))), (r_9 2, .inl (cI, u_4.1.2.2.1.toNatClampNeg, .inl (u_4.2.2 2))), (q_16, .inl (cI, u_4.1.2.2.2.2.toNatClampNeg, .inl (fun _ => 0)))]) (w1 := (wSD cI cZ u_4.1.2.2.2.2.toNatClampNeg q_20 q_22 q_23 u_21)) hP hD [10] [0, 1, 2, 3, 4, 5, 6, 7, 8, 9] rfl rfl (by decide) (by decide) hk1 hFc hP1 hD1
  generalize H1 = H at hP hS ⊢
  have hP : va_P (dC, dI) vwCl ([(a0, .inr (3, [.ref q_1, .ref q_16, .null, .null, .null, .null, .int 0])), (q_1, .inr (1, [.int u_4.1.1, .int u_4.1.2.1, .int u_4.1.2.2.1, .int u_4.1.2.2.2.1, .int u_4.1.2.2.2.2, .ref q_5, .ref q_6, .ref q_7, .ref q_8])), (q_5, .inl (cI, 6, .inl u_4.2.1.1)), (q_6, .inl (cI, 6, .inl u_4.2.1.2.1)), (q_7, .inl (cI, 6, .inl u_4.2.1.2.2)), (q_8, .inl (cJ, 3, .inr (.inr (.inr (.inr (fun i => if i < 3 then some (r_9 i) else none)))))), (r_9 0, .inl (cI, u_4.1.2.2.1.toNatClampNeg, .inl (u_4.2.2 0))), (r_9 1, .inl (cI, u_4.1.2.2.1.toNatClampNeg, .inl (u_4.2.2 1))), (r_9 2, .inl (cI, u_4.1.2.2.1.toNatClampNeg, .inl (u_4.2.2 2))), (q_16, .inl (cI, u_4.1.2.2.2.2.toNatClampNeg, .inl (fun _ => 0))), (q_20, .inr (2, [.ref q_22, .ref q_23, .int u_21.2.2])), (q_22, .inl (cI, u_4.1.2.2.2.2.toNatClampNeg, .inl u_21.1)), (q_23, .inl (cZ, u_4.1.2.2.2.2.toNatClampNeg, .inl u_21.2.1))]) H := hP
  have hD : va_D A ([(a0, .inr (3, [.ref q_1, .ref q_16, .null, .null, .null, .null, .int 0])), (q_1, .inr (1, [.int u_4.1.1, .int u_4.1.2.1, .int u_4.1.2.2.1, .int u_4.1.2.2.2.1, .int u_4.1.2.2.2.2, .ref q_5, .ref q_6, .ref q_7, .ref q_8])), (q_5, .inl (cI, 6, .inl u_4.2.1.1)), (q_6, .inl (cI, 6, .inl u_4.2.1.2.1)), (q_7, .inl (cI, 6, .inl u_4.2.1.2.2)), (q_8, .inl (cJ, 3, .inr (.inr (.inr (.inr (fun i => if i < 3 then some (r_9 i) else none)))))), (r_9 0, .inl (cI, u_4.1.2.2.1.toNatClampNeg, .inl (u_4.2.2 0))), (r_9 1, .inl (cI, u_4.1.2.2.1.toNatClampNeg, .inl (u_4.2.2 1))), (r_9 2, .inl (cI, u_4.1.2.2.1.toNatClampNeg, .inl (u_4.2.2 2))), (q_16, .inl (cI, u_4.1.2.2.2.2.toNatClampNeg, .inl (fun _ => 0))), (q_20, .inr (2, [.ref q_22, .ref q_23, .int u_21.2.2])), (q_22, .inl (cI, u_4.1.2.2.2.2.toNatClampNeg, .inl u_21.1)), (q_23, .inl (cZ, u_4.1.2.2.2.2.toNatClampNeg, .inl u_21.2.1))]) := hD
  refine va_putF (D := (dC, dI)) (ci := 3) (v := .ref q_20) (ty := (.object "TagTrees$Side")) (C := RX3) (T := TX3) (N := 7) hx hb hT inX3 tyX3 tyX3_ok nmX3 hown hK hP hD hS 0 rfl rfl 2 (by decide) (hT _ k_25) (fun _ h9 => h9) rfl hin rfl (by decide +kernel) rfl rfl (Nat.le_of_ble_eq_true rfl) dX3_init_59 (fun H locs hP hD hS => ?_)
  have hP : va_P (dC, dI) vwCl ([(a0, .inr (3, [.ref q_1, .ref q_16, .ref q_20, .null, .null, .null, .int 0])), (q_1, .inr (1, [.int u_4.1.1, .int u_4.1.2.1, .int u_4.1.2.2.1, .int u_4.1.2.2.2.1, .int u_4.1.2.2.2.2, .ref q_5, .ref q_6, .ref q_7, .ref q_8])), (q_5, .inl (cI, 6, .inl u_4.2.1.1)), (q_6, .inl (cI, 6, .inl u_4.2.1.2.1)), (q_7, .inl (cI, 6, .inl u_4.2.1.2.2)), (q_8, .inl (cJ, 3, .inr (.inr (.inr (.inr (fun i => if i < 3 then some (r_9 i) else none)))))), (r_9 0, .inl (cI, u_4.1.2.2.1.toNatClampNeg, .inl (u_4.2.2 0))), (r_9 1, .inl (cI, u_4.1.2.2.1.toNatClampNeg, .inl (u_4.2.2 1))), (r_9 2, .inl (cI, u_4.1.2.2.1.toNatClampNeg, .inl (u_4.2.2 2))), (q_16, .inl (cI, u_4.1.2.2.2.2.toNatClampNeg, .inl (fun _ => 0))), (q_20, .inr (2, [.ref q_22, .ref q_23, .int u_21.2.2])), (q_22, .inl (cI, u_4.1.2.2.2.2.toNatClampNeg, .inl u_21.1)), (q_23, .inl (cZ, u_4.1.2.2.2.2.toNatClampNeg, .inl u_21.2.1))]) H := hP
  have hD : va_D A ([(a0, .inr (3, [.ref q_1, .ref q_16, .ref q_20, .null, .null, .null, .int 0])), (q_1, .inr (1, [.int u_4.1.1, .int u_4.1.2.1, .int u_4.1.2.2.1, .int u_4.1.2.2.2.1, .int u_4.1.2.2.2.2, .ref q_5, .ref q_6, .ref q_7, .ref q_8])), (q_5, .inl (cI, 6, .inl u_4.2.1.1)), (q_6, .inl (cI, 6, .inl u_4.2.1.2.1)), (q_7, .inl (cI, 6, .inl u_4.2.1.2.2)), (q_8, .inl (cJ, 3, .inr (.inr (.inr (.inr (fun i => if i < 3 then some (r_9 i) else none)))))), (r_9 0, .inl (cI, u_4.1.2.2.1.toNatClampNeg, .inl (u_4.2.2 0))), (r_9 1, .inl (cI, u_4.1.2.2.1.toNatClampNeg, .inl (u_4.2.2 1))), (r_9 2, .inl (cI, u_4.1.2.2.1.toNatClampNeg, .inl (u_4.2.2 2))), (q_16, .inl (cI, u_4.1.2.2.2.2.toNatClampNeg, .inl (fun _ => 0))), (q_20, .inr (2, [.ref q_22, .ref q_23, .int u_21.2.2])), (q_22, .inl (cI, u_4.1.2.2.2.2.toNatClampNeg, .inl u_21.1)), (q_23, .inl (cZ, u_4.1.2.2.2.2.toNatClampNeg, .inl u_21.2.1))]) := hD
  refine lv_aload_n hx hb dX3_init_62 rfl (lv_at hl 0 rfl) ?_
  refine va_new (ci := 2) (fs := [.null, .null, .int 0]) (C := RX2) (T := TX2) (N := 3) hx hb hT inX2 tyX2 tyX2_ok hown (hT _ k_209) (hT _ k_210) (hT _ k_33) hK hP hD hS hA rfl (fun j hj => by rcases (show j = 0 ∨ j = 1 ∨ j = 2 by omega) with rfl | rfl | rfl <;> rfl) (Nat.le_of_ble_eq_true rfl) (Nat.le_of_ble_eq_true rfl) dX3_init_63 (fun q_26 H hP hD hS => ?_)
  have hP : va_P (dC, dI) vwCl ([(a0, .inr (3, [.ref q_1, .ref q_16, .ref q_20, .null, .null, .null, .int 0])), (q_1, .inr (1, [.int u_4.1.1, .int u_4.1.2.1, .int u_4.1.2.2.1, .int u_4.1.2.2.2.1, .int u_4.1.2.2.2.2, .ref q_5, .ref q_6, .ref q_7, .ref q_8])), (q_5, .inl (cI, 6, .inl u_4.2.1.1)), (q_6, .inl (cI, 6, .inl u_4.2.1.2.1)), (q_7, .inl (cI, 6, .inl u_4.2.1.2.2)), (q_8, .inl (cJ, 3, .inr (.inr (.inr (.inr (fun i => if i < 3 then some (r_9 i) else none)))))), (r_9 0, .inl (cI, u_4.1.2.2.1.toNatClampNeg, .inl (u_4.2.2 0))), (r_9 1, .inl (cI, u_4.1.2.2.1.toNatClampNeg, .inl (u_4.2.2 1))), (r_9 2, .inl (cI, u_4.1.2.2.1.toNatClampNeg, .inl (u_4.2.2 2))), (q_16, .inl (cI, u_4.1.2.2.2.2.toNatClampNeg, .inl (fun _ => 0))), (q_20, .inr (2, [.ref q_22, .ref q_23, .int u_21.2.2])), (q_22, .inl (cI, u_4.1.2.2.2.2.toNatClampNeg, .inl u_21.1)), (q_23, .inl (cZ, u_4.1.2.2.2.2.toNatClampNeg, .inl u_21.2.1)), (q_26, .inr (2, [.null, .null, .int 0]))]) H := hP
  have hD : va_D A ([(a0, .inr (3, [.ref q_1, .ref q_16, .ref q_20, .null, .null, .null, .int 0])), (q_1, .inr (1, [.int u_4.1.1, .int u_4.1.2.1, .int u_4.1.2.2.1, .int u_4.1.2.2.2.1, .int u_4.1.2.2.2.2, .ref q_5, .ref q_6, .ref q_7, .ref q_8])), (q_5, .inl (cI, 6, .inl u_4.2.1.1)), (q_6, .inl (cI, 6, .inl u_4.2.1.2.1)), (q_7, .inl (cI, 6, .inl u_4.2.1.2.2)), (q_8, .inl (cJ, 3, .inr (.inr (.inr (.inr (fun i => if i < 3 then some (r_9 i) else none)))))), (r_9 0, .inl (cI, u_4.1.2.2.1.toNatClampNeg, .inl (u_4.2.2 0))), (r_9 1, .inl (cI, u_4.1.2.2.1.toNatClampNeg, .inl (u_4.2.2 1))), (r_9 2, .inl (cI, u_4.1.2.2.1.toNatClampNeg, .inl (u_4.2.2 2))), (q_16, .inl (cI, u_4.1.2.2.2.2.toNatClampNeg, .inl (fun _ => 0))), (q_20, .inr (2, [.ref q_22, .ref q_23, .int u_21.2.2])), (q_22, .inl (cI, u_4.1.2.2.2.2.toNatClampNeg, .inl u_21.1)), (q_23, .inl (cZ, u_4.1.2.2.2.2.toNatClampNeg, .inl u_21.2.1)), (q_26, .inr (2, [.null, .null, .int 0]))]) := hD
  refine W.widen (k := 13) (n := 7308) (Nat.le_of_ble_eq_true rfl) (Nat.le_of_ble_eq_true rfl) ?_
  refine lv_dup hx hb dX3_init_66 rfl ?_
  refine lv_aload_n hx hb dX3_init_67 rfl (lv_at hl 0 rfl) ?_
  refine va_get (D := (dC, dI)) (ci := 3) (v := .ref q_1) (C := RX3) (T := TX3) (N := 7) hx hb hT inX3 hown hK hP 0 rfl rfl 0 (by decide) (hT _ k_17) (fun _ h9 => h9) rfl dX3_init_68 ?_
  refine va_get (D := (dC, dI)) (ci := 1) (v := .int u_4.1.2.2.2.2) (C := RX1) (T := TX1) (N := 9) hx hb hT inX1 hown hK hP 1 rfl rfl 4 (by decide) (hT _ k_21) (fun _ h9 => h9) rfl dX3_init_71 ?_
  have hPc := hP.sub (ws' := [(q_26, .inr (2, [.null, .null, .int 0]))]) [13] rfl
  have hDc := hD.sub (ws' := [(q_26, .inr (2, [.null, .null, .int 0]))]) [13] (by decide) rfl
  have hFc := va_free (wc := [(q_26, .inr (2, [.null, .null, .int 0]))]) hD hS hA [13] rfl
  refine va_callv (va_runI (As := [.int u_4.1.2.2.2.2]) (rest := [.ref q_26, .ref a0]) ⟨hx, hb, hml, hown, hT⟩ (met_X2_init l dC dI cI cZ cJ cL q_26 H.size _ u_4.1.2.2.2.2 hw) (cwI 1 hT (goodW k_212) rfl rfl rfl (hT _ k_33) (hT _ k_211) (hT _ k_213) rfl (by decide +kernel) ⟨Nat.le_of_ble_eq_true rfl, Nat.le_of_ble_eq_true rfl⟩) ⟨bl_W, fun U hU hW => ⟨rfl, by rw [hU], by rw [hU]; exact hPc, va_K.moved hW.alike hK, hDc.weaken (fun _ _ _ _ => trivial)⟩⟩ rfl rfl hl.1 rfl (lv_room (Nat.le_of_ble_eq_true rfl)) dX3_init_74 ⟨Nat.le_of_ble_eq_true rfl, Nat.le_of_ble_eq_true rfl⟩) hS (fun q _ h => hFc q h) hFc (fun u_27 t H1 locs ht hvm hw hB hz1 hk1 hS => ?_)
  obtain ⟨q_28, q_29, hP1, -, hD1⟩ := hB
  try dsimp only at hw
  rw [ht] at hP1
  obtain ⟨hP, hD⟩ := va_join (wr := [(a0, .inr (3, [.ref q_1, .ref q_16, .ref q_20, .null, .null, .null, .int 0])), (q_1, .inr (1, [.int u_4.1.1, .int u_4.1.2.1, .int u_4.1.2.2.1, .int u_4.1.2.2.2.1, .int u_4.1.2.2.2.2, .ref q_5, .ref q_6, .ref q_7, .ref q_8])), (q_5, .inl (cI, 6, .inl u_4.2.1.1)), (q_6, .inl (cI, 6, .inl u_4.2.1.2.1)), (q_7, .inl (cI, 6, .inl u_4.2.1.2.2)), (q_8, .inl (cJ, 3, .inr (.inr (.inr (.inr (fun i => if i < 3 then some (r_9 i) else none)))))), (r_9 0, .inl (cI, u_4.1.2.2.1.toNatClampNeg, .inl (u_4.2.2 0))), (r_9 1, .inl (cI, u_4.1.2.2.1.toNatClampNeg, .inl (u_4.2.2 1))), (r_9 2, .inl (cI, u_4.1.2.2.1.toNatClampNeg, .inl (u_4.2.2 2))), (q_16, .inl (cI, u_4.1.2.2.2.2.toNatClampNeg, .inl (fun _ => 0))), (q_20, .inr (2, [.ref q_22, .ref q_23, .int u_21.2.2])), (q_22, .inl (cI, u_4.1.2.2.2.2.toNatClampNeg, .inl u_21.1)), (q_23, .inl (cZ, u_4.1.2.2.2.2.toNatClampNeg, .inl u_21.2.1))]) (w1 := (wSD cI cZ u_4.1.2.2.2.2.toNatClampNeg q_26 q_28 q_29 u_27)) hP hD [13] [0, 1, 2, 3, 4, 5, 6, 7, 8, 9, 10, 11, 12] rfl rfl (by decide) (by decide) hk1 hFc hP1 hD1
  generalize H1 = H at hP hS ⊢
  have hP : va_P (dC, dI) vwCl ([(a0, .inr (3, [.ref q_1, .ref q_16, .ref q_20, .null, .null, .null, .int 0])), (q_1, .inr (1, [.int u_4.1.1, .int u_4.1.2.1, .int u_4.1.2.2.1, .int u_4.1.2.2.2.1, .int u_4.1.2.2.2.2, .ref q_5, .ref q_6, .ref q_7, .ref q_8])), (q_5, .inl (cI, 6, .inl u_4.2.1.1)), (q_6, .inl (cI, 6, .inl u_4.2.1.2.1)), (q_7, .inl (cI, 6, .inl u_4.2.1.2.2)), (q_8, .inl (cJ, 3, .inr (.inr (.inr (.inr (fun i => if i < 3 then some (r_9 i) else none)))))), (r_9 0, .inl (cI, u_4.1.2.2.1.toNatClampNeg, .inl (u_4.2.2 0))), (r_9 1, .inl (cI, u_4.1.2.2.1.toNatClampNeg, .inl (u_4.2.2 1))), (r_9 2, .inl (cI, u_4.1.2.2.1.toNatClampNeg, .inl (u_4.2.2 2))), (q_16, .inl (cI, u_4.1.2.2.2.2.toNatClampNeg, .inl (fun _ => 0))), (q_20, .inr (2, [.ref q_22, .ref q_23, .int u_21.2.2])), (q_22, .inl (cI, u_4.1.2.2.2.2.toNatClampNeg, .inl u_21.1)), (q_23, .inl (cZ, u_4.1.2.2.2.2.toNatClampNeg, .inl u_21.2.1)), (q_26, .inr (2, [.ref q_28, .ref q_29, .int u_27.2.2])), (q_28, .inl (cI, u_4.1.2.2.2.2.toNatClampNeg, .inl u_27.1)), (q_29, .inl (cZ, u_4.1.2.2.2.2.toNatClampNeg, .inl u_27.2.1))]) H := hP
  have hD : va_D A ([(a0, .inr (3, [.ref q_1, .ref q_16, .ref q_20, .null, .null, .null, .int 0])), (q_1, .inr (1, [.int u_4.1.1, .int u_4.1.2.1, .int u_4.1.2.2.1, .int u_4.1.2.2.2.1, .int u_4.1.2.2.2.2, .ref q_5, .ref q_6, .ref q_7, .ref q_8])), (q_5, .inl (cI, 6, .inl u_4.2.1.1)), (q_6, .inl (cI, 6, .inl u_4.2.1.2.1)), (q_7, .inl (cI, 6, .inl u_4.2.1.2.2)), (q_8, .inl (cJ, 3, .inr (.inr (.inr (.inr (fun i => if i < 3 then some (r_9 i) else none)))))), (r_9 0, .inl (cI, u_4.1.2.2.1.toNatClampNeg, .inl (u_4.2.2 0))), (r_9 1, .inl (cI, u_4.1.2.2.1.toNatClampNeg, .inl (u_4.2.2 1))), (r_9 2, .inl (cI, u_4.1.2.2.1.toNatClampNeg, .inl (u_4.2.2 2))), (q_16, .inl (cI, u_4.1.2.2.2.2.toNatClampNeg, .inl (fun _ => 0))), (q_20, .inr (2, [.ref q_22, .ref q_23, .int u_21.2.2])), (q_22, .inl (cI, u_4.1.2.2.2.2.toNatClampNeg, .inl u_21.1)), (q_23, .inl (cZ, u_4.1.2.2.2.2.toNatClampNeg, .inl u_21.2.1)), (q_26, .inr (2, [.ref q_28, .ref q_29, .int u_27.2.2])), (q_28, .inl (cI, u_4.1.2.2.2.2.toNatClampNeg, .inl u_27.1)), (q_29, .inl (cZ, u_4.1.2.2.2.2.toNatClampNeg, .inl u_27.2.1))]) := hD
  refine va_putF (D := (dC, dI)) (ci := 3) (v := .ref q_26) (ty := (.object "TagTrees$Side")) (C := RX3) (T := TX3) (N := 7) hx hb hT inX3 tyX3 tyX3_ok nmX3 hown hK hP hD hS 0 rfl rfl 3 (by decide) (hT _ k_27) (fun _ h9 => h9) rfl hin rfl (by decide +kernel) rfl rfl (Nat.le_of_ble_eq_true rfl) dX3_init_77 (fun H locs hP hD hS => ?_)
  have hP : va_P (dC, dI) vwCl ([(a0, .inr (3, [.ref q_1, .ref q_16, .ref q_20, .ref q_26, .null, .null, .int 0])), (q_1, .inr (1, [.int u_4.1.1, .int u_4.1.2.1, .int u_4.1.2.2.1, .int u_4.1.2.2.2.1, .int u_4.1.2.2.2.2, .ref q_5, .ref q_6, .ref q_7, .ref q_8])), (q_5, .inl (cI, 6, .inl u_4.2.1.1)), (q_6, .inl (cI, 6, .inl u_4.2.1.2.1)), (q_7, .inl (cI, 6, .inl u_4.2.1.2.2)), (q_8, .inl (cJ, 3, .inr (.inr (.inr (.inr (fun i => if i < 3 then some (r_9 i) else none)))))), (r_9 0, .inl (cI, u_4.1.2.2.1.toNatClampNeg, .inl (u_4.2.2 0))), (r_9 1, .inl (cI, u_4.1.2.2.1.toNatClampNeg, .inl (u_4.2.2 1))), (r_9 2, .inl (cI, u_4.1.2.2.1.toNatClampNeg, .inl (u_4.2.2 2))), (q_16, .inl (cI, u_4.1.2.2.2.2.toNatClampNeg, .inl (fun _ => 0))), (q_20, .inr (2, [.ref q_22, .ref q_23, .int u_21.2.2])), (q_22, .inl (cI, u_4.1.2.2.2.2.toNatClampNeg, .inl u_21.1)), (q_23, .inl (cZ, u_4.1.2.2.2.2.toNatClampNeg, .inl u_21.2.1)), (q_26, .inr (2, [.ref q_28, .ref q_29, .int u_27.2.2])), (q_28, .inl (cI, u_4.1.2.2.2.2.toNatClampNeg, .inl u_27.1)), (q_29, .inl (cZ, u_4.1.2.2.2.2.toNatClampNeg, .inl u_27.2.1))]) H := hP
  have hD : va_D A ([(a0, .inr (3, [.ref q_1, .ref q_16, .ref q_20, .ref q_26, .null, .null, .int 0])), (q_1, .inr (1, [.int u_4.1.1, .int u_4.1.2.1, .int u_4.1.2.2.1, .int u_4.1.2.2.2.1, .int u_4.1.2.2.2.2, .ref q_5, .ref q_6, .ref q_7, .ref q_8])), (q_5, .inl (cI, 6, .inl u_4.2.1.1)), (q_6, .inl (cI, 6, .inl u_4.2.1.2.1)), (q_7, .inl (cI, 6, .inl u_4.2.1.2.2)), (q_8, .inl (cJ, 3, .inr (.inr (.inr (.inr (fun i => if i < 3 then some (r_9 i) else none)))))), (r_9 0, .inl (cI, u_4.1.2.2.1.toNatClampNeg, .inl (u_4.2.2 0))), (r_9 1, .inl (cI, u_4.1.2.2.1.toNatClampNeg, .inl (u_4.2.2 1))), (r_9 2, .inl (cI, u_4.1.2.2.1.toNatClampNeg, .inl (u_4.2.2 2))), (q_16, .inl (cI, u_4.1.2.2.2.2.toNatClampNeg, .inl (fun _ => 0))), (q_20, .inr (2, [.ref q_22, .ref q_23, .int u_21.2.2])), (q_22, .inl (cI, u_4.1.2.2.2.2.toNatClampNeg, .inl u_21.1)), (q_23, .inl (cZ, u_4.1.2.2.2.2.toNatClampNeg, .inl u_21.2.1)), (q_26, .inr (2, [.ref q_28, .ref q_29, .int u_27.2.2])), (q_28, .inl (cI, u_4.1.2.2.2.2.toNatClampNeg, .inl u_27.1)), (q_29, .inl (cZ, u_4.1.2.2.2.2.toNatClampNeg, .inl u_27.2.1))]) := hD
  refine lv_aload_n hx hb dX3_init_80 rfl (lv_at hl 0 rfl) ?_
  refine va_new (ci := 0) (fs := [.null, .int 0, .int 0]) (C := RX0) (T := TX0) (N := 3) hx hb hT inX0 tyX0 tyX0_ok hown (hT _ k_214) (hT _ k_215) (hT _ k_7) hK hP hD hS hA rfl (fun j hj => by rcases (show j = 0 ∨ j = 1 ∨ j = 2 by omega) with rfl | rfl | rfl <;> rfl) (Nat.le_of_ble_eq_true rfl) (Nat.le_of_ble_eq_true rfl) dX3_init_81 (fun q_32 H hP hD hS => ?_)
  have hP : va_P (dC, dI) vwCl ([(a0, .inr (3, [.ref q_1, .ref q_16, .ref q_20, .ref q_26, .null, .null, .int 0])), (q_1, .inr (1, [.int u_4.1.1, .int u_4.1.2.1, .int u_4.1.2.2.1, .int u_4.1.2.2.2.1, .int u_4.1.2.2.2.2, .ref q_5, .ref q_6, .ref q_7, .ref q_8])), (q_5, .inl (cI, 6, .inl u_4.2.1.1)), (q_6, .inl (cI, 6, .inl u_4.2.1.2.1)), (q_7, .inl (cI, 6, .inl u_4.2.1.2.2)), (q_8, .inl (cJ, 3, .inr (.inr (.inr (.inr (fun i => if i < 3 then some (r_9 i) else none)))))), (r_9 0, .inl (cI, u_4.1.2.2.1.toNatClampNeg, .inl (u_4.2.2 0))), (r_9 1, .inl (cI, u_4.1.2.2.1.toNatClampNeg, .inl (u_4.2.2 1))), (r_9 2, .inl (cI, u_4.1.2.2.1.toNatClampNeg, .inl (u_4.2.2 2))), (q_16, .inl (cI, u_4.1.2.2.2.2.toNatClampNeg, .inl (fun _ => 0))), (q_20, .inr (2, [.ref q_22, .ref q_23, .int u_21.2.2])), (q_22, .inl (cI, u_4.1.2.2.2.2.toNatClampNeg, .inl u_21.1)), (q_23, .inl (cZ, u_4.1.2.2.2.2.toNatClampNeg, .inl u_21.2.1)), (q_26, .inr (2, [.ref q_28, .ref q_29, .int u_27.2.2])), (q_28, .inl (cI, u_4.1.2.2.2.2.toNatClampNeg, .inl u_27.1)), (q_29, .inl (cZ, u_4.1.2.2.2.2.toNatClampNeg, .inl u_27.2.1)), (q_32, .inr (0, [.null, .int 0, .int 0]))]) H := hP
  have hD : va_D A ([(a0, .inr (3, [.ref q_1, .ref q_16, .ref q_20, .ref q_26, .null, .null, .int 0])), (q_1, .inr (1, [.int u_4.1.1, .int u_4.1.2.1, .int u_4.1.2.2.1, .int u_4.1.2.2.2.1, .int u_4.1.2.2.2.2, .ref q_5, .ref q_6, .ref q_7, .ref q_8])), (q_5, .inl (cI, 6, .inl u_4.2.1.1)), (q_6, .inl (cI, 6, .inl u_4.2.1.2.1)), (q_7, .inl (cI, 6, .inl u_4.2.1.2.2)), (q_8, .inl (cJ, 3, .inr (.inr (.inr (.inr (fun i => if i < 3 then some (r_9 i) else none)))))), (r_9 0, .inl (cI, u_4.1.2.2.1.toNatClampNeg, .inl (u_4.2.2 0))), (r_9 1, .inl (cI, u_4.1.2.2.1.toNatClampNeg, .inl (u_4.2.2 1))), (r_9 2, .inl (cI, u_4.1.2.2.1.toNatClampNeg, .inl (u_4.2.2 2))), (q_16, .inl (cI, u_4.1.2.2.2.2.toNatClampNeg, .inl (fun _ => 0))), (q_20, .inr (2, [.ref q_22, .ref q_23, .int u_21.2.2])), (q_22, .inl (cI, u_4.1.2.2.2.2.toNatClampNeg, .inl u_21.1)), (q_23, .inl (cZ, u_4.1.2.2.2.2.toNatClampNeg, .inl u_21.2.1)), (q_26, .inr (2, [.ref q_28, .ref q_29, .int u_27.2.2])), (q_28, .inl (cI, u_4.1.2.2.2.2.toNatClampNeg, .inl u_27.1)), (q_29, .inl (cZ, u_4.1.2.2.2.2.toNatClampNeg, .inl u_27.2.1)), (q_32, .inr (0, [.null, .int 0, .int 0]))]) := hD
  refine W.widen (k := 16) (n := 10111) (Nat.le_of_ble_eq_true rfl) (Nat.le_of_ble_eq_true rfl) ?_
  refine lv_dup hx hb dX3_init_84 rfl ?_
  have hPc := hP.sub (ws' := [(q_32, .inr (0, [.null, .int 0, .int 0]))]) [16] rfl
  have hDc := hD.sub (ws' := [(q_32, .inr (0, [.null, .int 0, .int 0]))]) [16] (by decide) rfl
  have hFc := va_free (wc := [(q_32, .inr (0, [.null, .int 0, .int 0]))]) hD hS hA [16] rfl
  refine va_callv (va_runI (As := []) (rest := [.ref q_32, .ref a0]) ⟨hx, hb, hml, hown, hT⟩ (met_X0_init l dC dI cI cZ cJ cL q_32 H.size _  hw) (cwI 0 hT (goodW k_217) rfl rfl rfl (hT _ k_7) (hT _ k_216) (hT _ k_218) rfl (by decide +kernel) ⟨Nat.le_of_ble_eq_true rfl, Nat.le_of_ble_eq_true rfl⟩) ⟨bl_W, fun U hU hW => ⟨rfl, by rw [hU], by rw [hU]; exact hPc, va_K.moved hW.alike hK, hDc.weaken (fun _ _ _ _ => trivial)⟩⟩ rfl rfl hl.1 rfl (lv_room (Nat.le_of_ble_eq_true rfl)) dX3_init_85 ⟨Nat.le_of_ble_eq_true rfl, Nat.le_of_ble_eq_true rfl⟩) hS (fun q _ h => hFc q h) hFc (fun u_33 t H1 locs ht hvm hw hB hz1 hk1 hS => ?_)
  obtain ⟨q_34, hP1, -, hD1⟩ := hB
  try dsimp only at hw
  rw [ht] at hP1
  obtain ⟨hP, hD⟩ := va_join (wr := [(a0, .inr (3, [.ref q_1, .ref q_16, .ref q_20, .ref q_26, .null, .null, .int 0])), (q_1, .inr (1, [.int u_4.1.1, .int u_4.1.2.1, .int u_4.1.2.2.1, .int u_4.1.2.2.2.1, .int u_4.1.2.2.2.2, .ref q_5, .ref q_6, .ref q_7, .ref q_8])), (q_5, .inl (cI, 6, .inl u_4.2.1.1)), (q_6, .inl (cI, 6, .inl u_4.2.1.2.1)), (q_7, .inl (cI, 6, .inl u_4.2.1.2.2)), (q_8, .inl (cJ, 3, .inr (.inr (.inr (.inr (fun i => if i < 3 then some (r_9 i) else none)))))), (r_9 0, .inl (cI, u_4.1.2.2.1.toNatClampNeg, .inl (u_4.2.2 0))), (r_9 1, .inl (cI, u_4.1.2.2.1.toNatClampNeg, .inl (u_4.2.2 1))), (r_9 2, .inl (cI, u_4.1.2.2.1.toNatClampNeg, .inl (u_4.2.2 2))), (q_16, .inl (cI, u_4.1.2.2.2.2.toNatClampNeg, .inl (fun _ => 0))), (q_20, .inr (2, [.ref q_22, .ref q_23, .int u_21.2.2])), (q_22, .inl (cI, u_4.1.2.2.2.2.toNatClampNeg, .inl u_21.1)), (q_23, .inl (cZ, u_4.1.2.2.2.2.toNatClampNeg, .inl u_21.2.1)), (q_26, .inr (2, [.ref q_28, .ref q_29, .int u_27.2.2])), (q_28, .inl (cI, u_4.1.2.2.2.2.toNatClampNeg, .inl u_27.1)), (q_29, .inl (cZ, u_4.1.2.2.2.2.toNatClampNeg, .inl u_27.2.1))]) (w1 := (wBR cI q_32 q_34 u_33)) hP hD [16] [0, 1, 2, 3, 4, 5, 6, 7, 8, 9, 10, 11, 12, 13, 14, 15] rfl rfl (by decide) (by decide) hk1 hFc hP1 hD1
  generalize H1 = H at hP hS ⊢
  have hP : va_P (dC, dI) vwCl ([(a0, .inr (3, [.ref q_1, .ref q_16, .ref q_20, .ref q_26, .null, .null, .int 0])), (q_1, .inr (1, [.int u_4.1.1, .int u_4.1.2.1, .int u_4.1.2.2.1, .int u_4.1.2.2.2.1, .int u_4.1.2.2.2.2, .ref q_5, .ref q_6, .ref q_7, .ref q_8])), (q_5, .inl (cI, 6, .inl u_4.2.1.1)), (q_6, .inl (cI, 6, .inl u_4.2.1.2.1)), (q_7, .inl (cI, 6, .inl u_4.2.1.2.2)), (q_8, .inl (cJ, 3, .inr (.inr (.inr (.inr (fun i => if i < 3 then some (r_9 i) else none)))))), (r_9 0, .inl (cI, u_4.1.2.2.1.toNatClampNeg, .inl (u_4.2.2 0))), (r_9 1, .inl (cI, u_4.1.2.2.1.toNatClampNeg, .inl (u_4.2.2 1))), (r_9 2, .inl (cI, u_4.1.2.2.1.toNatClampNeg, .inl (u_4.2.2 2))), (q_16, .inl (cI, u_4.1.2.2.2.2.toNatClampNeg, .inl (fun _ => 0))), (q_20, .inr (2, [.ref q_22, .ref q_23, .int u_21.2.2])), (q_22, .inl (cI, u_4.1.2.2.2.2.toNatClampNeg, .inl u_21.1)), (q_23, .inl (cZ, u_4.1.2.2.2.2.toNatClampNeg, .inl u_21.2.1)), (q_26, .inr (2, [.ref q_28, .ref q_29, .int u_27.2.2])), (q_28, .inl (cI, u_4.1.2.2.2.2.toNatClampNeg, .inl u_27.1)), (q_29, .inl (cZ, u_4.1.2.2.2.2.toNatClampNeg, .inl u_27.2.1)), (q_32, .inr (0, [.ref q_34, .int u_33.2.1, .int u_33.2.2])), (q_34, .inl (cI, 1250, .inl u_33.1))]) H := hP
  have hD : va_D A ([(a0, .inr (3, [.ref q_1, .ref q_16, .ref q_20, .ref q_26, .null, .null, .int 0])), (q_1, .inr (1, [.int u_4.1.1, .int u_4.1.2.1, .int u_4.1.2.2.1, .int u_4.1.2.2.2.1, .int u_4.1.2.2.2.2, .ref q_5, .ref q_6, .ref q_7, .ref q_8])), (q_5, .inl (cI, 6, .inl u_4.2.1.1)), (q_6, .inl (cI, 6, .inl u_4.2.1.2.1)), (q_7, .inl (cI, 6, .inl u_4.2.1.2.2)), (q_8, .inl (cJ, 3, .inr (.inr (.inr (.inr (fun i => if i < 3 then some (r_9 i) else none)))))), (r_9 0, .inl (cI, u_4.1.2.2.1.toNatClampNeg, .inl (u_4.2.2 0))), (r_9 1, .inl (cI, u_4.1.2.2.1.toNatClampNeg, .inl (u_4.2.2 1))), (r_9 2, .inl (cI, u_4.1.2.2.1.toNatClampNeg, .inl (u_4.2.2 2))), (q_16, .inl (cI, u_4.1.2.2.2.2.toNatClampNeg, .inl (fun _ => 0))), (q_20, .inr (2, [.ref q_22, .ref q_23, .int u_21.2.2])), (q_22, .inl (cI, u_4.1.2.2.2.2.toNatClampNeg, .inl u_21.1)), (q_23, .inl (cZ, u_4.1.2.2.2.2.toNatClampNeg, .inl u_21.2.1)), (q_26, .inr (2, [.ref q_28, .ref q_29, .int u_27.2.2])), (q_28, .inl (cI, u_4.1.2.2.2.2.toNatClampNeg, .inl u_27.1)), (q_29, .inl (cZ, u_4.1.2.2.2.2.toNatClampNeg, .inl u_27.2.1)), (q_32, .inr (0, [.ref q_34, .int u_33.2.1, .int u_33.2.2])), (q_34, .inl (cI, 1250, .inl u_33.1))]) := hD
  refine va_putF (D := (dC, dI)) (ci := 3) (v := .ref q_32) (ty := (.object "TagTrees$BitRow")) (C := RX3) (T := TX3) (N := 7) hx hb hT inX3 tyX3 tyX3_ok nmX3 hown hK hP hD hS 0 rfl rfl 4 (by decide) (hT _ k_22) (fun _ h9 => h9) rfl hin rfl (by decide +kernel) rfl rfl (Nat.le_of_ble_eq_true rfl) dX3_init_88 (fun H locs hP hD hS => ?_)
  have hP : va_P (dC, dI) vwCl ([(a0, .inr (3, [.ref q_1, .ref q_16, .ref q_20, .ref q_26, .ref q_32, .null, .int 0])), (q_1, .inr (1, [.int u_4.1.1, .int u_4.1.2.1, .int u_4.1.2.2.1, .int u_4.1.2.2.2.1, .int u_4.1.2.2.2.2, .ref q_5, .ref q_6, .ref q_7, .ref q_8])), (q_5, .inl (cI, 6, .inl u_4.2.1.1)), (q_6, .inl (cI, 6, .inl u_4.2.1.2.1)), (q_7, .inl (cI, 6, .inl u_4.2.1.2.2)), (q_8, .inl (cJ, 3, .inr (.inr (.inr (.inr (fun i => if i < 3 then some (r_9 i) else none)))))), (r_9 0, .inl (cI, u_4.1.2.2.1.toNatClampNeg, .inl (u_4.2.2 0))), (r_9 1, .inl (cI, u_4.1.2.2.1.toNatClampNeg, .inl (u_4.2.2 1))), (r_9 2, .inl (cI, u_4.1.2.2.1.toNatClampNeg, .inl (u_4.2.2 2))), (q_16, .inl (cI, u_4.1.2.2.2.2.toNatClampNeg, .inl (fun _ => 0))), (q_20, .inr (2, [.ref q_22, .ref q_23, .int u_21.2.2])), (q_22, .inl (cI, u_4.1.2.2.2.2.toNatClampNeg, .inl u_21.1)), (q_23, .inl (cZ, u_4.1.2.2.2.2.toNatClampNeg, .inl u_21.2.1)), (q_26, .inr (2, [.ref q_28, .ref q_29, .int u_27.2.2])), (q_28, .inl (cI, u_4.1.2.2.2.2.toNatClampNeg, .inl u_27.1)), (q_29, .inl (cZ, u_4.1.2.2.2.2.toNatClampNeg, .inl u_27.2.1)), (q_32, .inr (0, [.ref q_34, .int u_33.2.1, .int u_33.2.2])), (q_34, .inl (cI, 1250, .inl u_33.1))]) H := hP
  have hD : va_D A ([(a0, .inr (3, [.ref q_1, .ref q_16, .ref q_20, .ref q_26, .ref q_32, .null, .int 0])), (q_1, .inr (1, [.int u_4.1.1, .int u_4.1.2.1, .int u_4.1.2.2.1, .int u_4.1.2.2.2.1, .int u_4.1.2.2.2.2, .ref q_5, .ref q_6, .ref q_7, .ref q_8])), (q_5, .inl (cI, 6, .inl u_4.2.1.1)), (q_6, .inl (cI, 6, .inl u_4.2.1.2.1)), (q_7, .inl (cI, 6, .inl u_4.2.1.2.2)), (q_8, .inl (cJ, 3, .inr (.inr (.inr (.inr (fun i => if i < 3 then some (r_9 i) else none)))))), (r_9 0, .inl (cI, u_4.1.2.2.1.toNatClampNeg, .inl (u_4.2.2 0))), (r_9 1, .inl (cI, u_4.1.2.2.1.toNatClampNeg, .inl (u_4.2.2 1))), (r_9 2, .inl (cI, u_4.1.2.2.1.toNatClampNeg, .inl (u_4.2.2 2))), (q_16, .inl (cI, u_4.1.2.2.2.2.toNatClampNeg, .inl (fun _ => 0))), (q_20, .inr (2, [.ref q_22, .ref q_23, .int u_21.2.2])), (q_22, .inl (cI, u_4.1.2.2.2.2.toNatClampNeg, .inl u_21.1)), (q_23, .inl (cZ, u_4.1.2.2.2.2.toNatClampNeg, .inl u_21.2.1)), (q_26, .inr (2, [.ref q_28, .ref q_29, .int u_27.2.2])), (q_28, .inl (cI, u_4.1.2.2.2.2.toNatClampNeg, .inl u_27.1)), (q_29, .inl (cZ, u_4.1.2.2.2.2.toNatClampNeg, .inl u_27.2.1)), (q_32, .inr (0, [.ref q_34, .int u_33.2.1, .int u_33.2.2])), (q_34, .inl (cI, 1250, .inl u_33.1))]) := hD
  refine lv_aload_n hx hb dX3_init_91 rfl (lv_at hl 0 rfl) ?_
  refine va_new (ci := 0) (fs := [.null, .int 0, .int 0]) (C := RX0) (T := TX0) (N := 3) hx hb hT inX0 tyX0 tyX0_ok hown (hT _ k_214) (hT _ k_215) (hT _ k_7) hK hP hD hS hA rfl (fun j hj => by rcases (show j = 0 ∨ j = 1 ∨ j = 2 by omega) with rfl | rfl | rfl <;> rfl) (Nat.le_of_ble_eq_true rfl) (Nat.le_of_ble_eq_true rfl) dX3_init_92 (fun q_36 H hP hD hS => ?_)
  have hP : va_P (dC, dI) vwCl ([(a0, .inr (3, [.ref q_1, .ref q_16, .ref q_20, .ref q_26, .ref q_32, .null, .int 0])), (q_1, .inr (1, [.int u_4.1.1, .int u_4.1.2.1, .int u_4.1.2.2.1, .int u_4.1.2.2.2.1, .int u_4.1.2.2.2.2, .ref q_5, .ref q_6, .ref q_7, .ref q_8])), (q_5, .inl (cI, 6, .inl u_4.2.1.1)), (q_6, .inl (cI, 6, .inl u_4.2.1.2.1)), (q_7, .inl (cI, 6, .inl u_4.2.1.2.2)), (q_8, .inl (cJ, 3, .inr (.inr (.inr (.inr (fun i => if i < 3 then some (r_9 i) else none)))))), (r_9 0, .inl (cI, u_4.1.2.2.1.toNatClampNeg, .inl (u_4.2.2 0))), (r_9 1, .inl (cI, u_4.1.2.2.1.toNatClampNeg, .inl (u_4.2.2 1))), (r_9 2, .inl (cI, u_4.1.2.2.1.toNatClampNeg, .inl (u_4.2.2 2))), (q_16, .inl (cI, u_4.1.2.2.2.2.toNatClampNeg, .inl (fun _ => 0))), (q_20, .inr (2, [.ref q_22, .ref q_23, .int u_21.2.2])), (q_22, .inl (cI, u_4.1.2.2.2.2.toNatClampNeg, .inl u_21.1)), (q_23, .inl (cZ, u_4.1.2.2.2.2.toNatClampNeg, .inl u_21.2.1)), (q_26, .inr (2, [.ref q_28, .ref q_29, .int u_27.2.2])), (q_28, .inl (cI, u_4.1.2.2.2.2.toNatClampNeg, .inl u_27.1)), (q_29, .inl (cZ, u_4.1.2.2.2.2.toNatClampNeg, .inl u_27.2.1)), (q_32, .inr (0, [.ref q_34, .int u_33.2.1, .int u_33.2.2])), (q_34, .inl (cI, 1250, .inl u_33.1)), (q_36, .inr (0, [.null, .int 0, .int 0]))]) H := hP
  have hD : va_D A ([(a0, .inr (3, [.ref q_1, .ref q_16, .ref q_20, .ref q_26, .ref q_32, .null, .int 0])), (q_1, .inr (1, [.int u_4.1.1, .int u_4.1.2.1, .int u_4.1.2.2.1, .int u_4.1.2.2.2.1, .int u_4.1.2.2.2.2, .ref q_5, .ref q_6, .ref q_7, .ref q_8])), (q_5, .inl (cI, 6, .inl u_4.2.1.1)), (q_6, .inl (cI, 6, .inl u_4.2.1.2.1)), (q_7, .inl (cI, 6, .inl u_4.2.1.2.2)), (q_8, .inl (cJ, 3, .inr (.inr (.inr (.inr (fun i => if i < 3 then some (r_9 i) else none)))))), (r_9 0, .inl (cI, u_4.1.2.2.1.toNatClampNeg, .inl (u_4.2.2 0))), (r_9 1, .inl (cI, u_4.1.2.2.1.toNatClampNeg, .inl (u_4.2.2 1))), (r_9 2, .inl (cI, u_4.1.2.2.1.toNatClampNeg, .inl (u_4.2.2 2))), (q_16, .inl (cI, u_4.1.2.2.2.2.toNatClampNeg, .inl (fun _ => 0))), (q_20, .inr (2, [.ref q_22, .ref q_23, .int u_21.2.2])), (q_22, .inl (cI, u_4.1.2.2.2.2.toNatClampNeg, .inl u_21.1)), (q_23, .inl (cZ, u_4.1.2.2.2.2.toNatClampNeg, .inl u_21.2.1)), (q_26, .inr (2, [.ref q_28, .ref q_29, .int u_27.2.2])), (q_28, .inl (cI, u_4.1.2.2.2.2.toNatClampNeg, .inl u_27.1)), (q_29, .inl (cZ, u_4.1.2.2.2.2.toNatClampNeg, .inl u_27.2.1)), (q_32, .inr (0, [.ref q_34, .int u_33.2.1, .int u_33.2.2])), (q_34, .inl (cI, 1250, .inl u_33.1)), (q_36, .inr (0, [.null, .int 0, .int 0]))]) := hD
  refine W.widen (k := 18) (n := 11364) (Nat.le_of_ble_eq_true rfl) (Nat.le_of_ble_eq_true rfl) ?_
  refine lv_dup hx hb dX3_init_95 rfl ?_
  have hPc := hP.sub (ws' := [(q_36, .inr (0, [.null, .int 0, .int 0]))]) [18] rfl
  have hDc := hD.sub (ws' := [(q_36, .inr (0, [.null, .int 0, .int 0]))]) [18] (by decide) rfl
  have hFc := va_free (wc := [(q_36, .inr (0, [.null, .int 0, .int 0]))]) hD hS hA [18] rfl
  refine va_callv (va_runI (As := []) (rest := [.ref q_36, .ref a0]) ⟨hx, hb, hml, hown, hT⟩ (met_X0_init l dC dI cI cZ cJ cL q_36 H.size _  hw) (cwI 0 hT (goodW k_217) rfl rfl rfl (hT _ k_7) (hT _ k_216) (hT _ k_218) rfl (by decide +kernel) ⟨Nat.le_of_ble_eq_true rfl, Nat.le_of_ble_eq_true rfl⟩) ⟨bl_W, fun U hU hW => ⟨rfl, by rw [hU], by rw [hU]; exact hPc, va_K.moved hW.alike hK, hDc.weaken (fun _ _ _ _ => trivial)⟩⟩ rfl rfl hl.1 rfl (lv_room (Nat.le_of_ble_eq_true rfl)) dX3_init_96 ⟨Nat.le_of_ble_eq_true rfl, Nat.le_of_ble_eq_true rfl⟩) hS (fun q _ h => hFc q h) hFc (fun u_37 t H1 locs ht hvm hw hB hz1 hk1 hS => ?_)
  obtain ⟨q_38, hP1, -, hD1⟩ := hB
  try dsimp only at hw
  rw [ht] at hP1
  obtain ⟨hP, hD⟩ := va_join (wr := [(a0, .inr (3, [.ref q_1, .ref q_16, .ref q_20, .ref q_26, .ref q_32, .null, .int 0])), (q_1, .inr (1, [.int u_4.1.1, .int u_4.1.2.1, .int u_4.1.2.2.1, .int u_4.1.2.2.2.1, .int u_4.1.2.2.2.2, .ref q_5, .ref q_6, .ref q_7, .ref q_8])), (q_5, .inl (cI, 6, .inl u_4.2.1.1)), (q_6, .inl (cI, 6, .inl u_4.2.1.2.1)), (q_7, .inl (cI, 6, .inl u_4.2.1.2.2)), (q_8, .inl (cJ, 3, .inr (.inr (.inr (.inr (fun i => if i < 3 then some (r_9 i) else none)))))), (r_9 0, .inl (cI, u_4.1.2.2.1.toNatClampNeg, .inl (u_4.2.2 0))), (r_9 1, .inl (cI, u_4.1.2.2.1.toNatClampNeg, .inl (u_4.2.2 1))), (r_9 2, .inl (cI, u_4.1.2.2.1.toNatClampNeg, .inl (u_4.2.2 2))), (q_16, .inl (cI, u_4.1.2.2.2.2.toNatClampNeg, .inl (fun _ => 0))), (q_20, .inr (2, [.ref q_22, .ref q_23, .int u_21.2.2])), (q_22, .inl (cI, u_4.1.2.2.2.2.toNatClampNeg, .inl u_21.1)), (q_23, .inl (cZ, u_4.1.2.2.2.2.toNatClampNeg, .inl u_21.2.1)), (q_26, .inr (2, [.ref q_28, .ref q_29, .int u_27.2.2])), (q_28, .inl (cI, u_4.1.2.2.2.2.toNatClampNeg, .inl u_27.1)), (q_29, .inl (cZ, u_4.1.2.2.2.2.toNatClampNeg, .inl u_27.2.1)), (q_32, .inr (0, [.ref q_34, .int u_33.2.1, .int u_33.2.2])), (q_34, .inl (cI, 1250, .inl u_33.1))]) (w1 := (wBR cI q_36 q_38 u_37)) hP hD [18] [0, 1, 2, 3, 4, 5, 6, 7, 8, 9, 10, 11, 12, 13, 14, 15, 16, 17] rfl rfl (by decide) (by decide) hk1 hFc hP1 hD1
  generalize H1 = H at hP hS ⊢
  have hP : va_P (dC, dI) vwCl ([(a0, .inr (3, [.ref q_1, .ref q_16, .ref q_20, .ref q_26, .ref q_32, .null, .int 0])), (q_1, .inr (1, [.int u_4.1.1, .int u_4.1.2.1, .int u_4.1.2.2.1, .int u_4.1.2.2.2.1, .int u_4.1.2.2.2.2, .ref q_5, .ref q_6, .ref q_7, .ref q_8])), (q_5, .inl (cI, 6, .inl u_4.2.1.1)), (q_6, .inl (cI, 6, .inl u_4.2.1.2.1)), (q_7, .inl (cI, 6, .inl u_4.2.1.2.2)), (q_8, .inl (cJ, 3, .inr (.inr (.inr (.inr (fun i => if i < 3 then some (r_9 i) else none)))))), (r_9 0, .inl (cI, u_4.1.2.2.1.toNatClampNeg, .inl (u_4.2.2 0))), (r_9 1, .inl (cI, u_4.1.2.2.1.toNatClampNeg, .inl (u_4.2.2 1))), (r_9 2, .inl (cI, u_4.1.2.2.1.toNatClampNeg, .inl (u_4.2.2 2))), (q_16, .inl (cI, u_4.1.2.2.2.2.toNatClampNeg, .inl (fun _ => 0))), (q_20, .inr (2, [.ref q_22, .ref q_23, .int u_21.2.2])), (q_22, .inl (cI, u_4.1.2.2.2.2.toNatClampNeg, .inl u_21.1)), (q_23, .inl (cZ, u_4.1.2.2.2.2.toNatClampNeg, .inl u_21.2.1)), (q_26, .inr (2, [.ref q_28, .ref q_29, .int u_27.2.2])), (q_28, .inl (cI, u_4.1.2.2.2.2.toNatClampNeg, .inl u_27.1)), (q_29, .inl (cZ, u_4.1.2.2.2.2.toNatClampNeg, .inl u_27.2.1)), (q_32, .inr (0, [.ref q_34, .int u_33.2.1, .int u_33.2.2])), (q_34, .inl (cI, 1250, .inl u_33.1)), (q_36, .inr (0, [.ref q_38, .int u_37.2.1, .int u_37.2.2])), (q_38, .inl (cI, 1250, .inl u_37.1))]) H := hP
  have hD : va_D A ([(a0, .inr (3, [.ref q_1, .ref q_16, .ref q_20, .ref q_26, .ref q_32, .null, .int 0])), (q_1, .inr (1, [.int u_4.1.1, .int u_4.1.2.1, .int u_4.1.2.2.1, .int u_4.1.2.2.2.1, .int u_4.1.2.2.2.2, .ref q_5, .ref q_6, .ref q_7, .ref q_8])), (q_5, .inl (cI, 6, .inl u_4.2.1.1)), (q_6, .inl (cI, 6, .inl u_4.2.1.2.1)), (q_7, .inl (cI, 6, .inl u_4.2.1.2.2)), (q_8, .inl (cJ, 3, .inr (.inr (.inr (.inr (fun i => if i < 3 then some (r_9 i) else none)))))), (r_9 0, .inl (cI, u_4.1.2.2.1.toNatClampNeg, .inl (u_4.2.2 0))), (r_9 1, .inl (cI, u_4.1.2.2.1.toNatClampNeg, .inl (u_4.2.2 1))), (r_9 2, .inl (cI, u_4.1.2.2.1.toNatClampNeg, .inl (u_4.2.2 2))), (q_16, .inl (cI, u_4.1.2.2.2.2.toNatClampNeg, .inl (fun _ => 0))), (q_20, .inr (2, [.ref q_22, .ref q_23, .int u_21.2.2])), (q_22, .inl (cI, u_4.1.2.2.2.2.toNatClampNeg, .inl u_21.1)), (q_23, .inl (cZ, u_4.1.2.2.2.2.toNatClampNeg, .inl u_21.2.1)), (q_26, .inr (2, [.ref q_28, .ref q_29, .int u_27.2.2])), (q_28, .inl (cI, u_4.1.2.2.2.2.toNatClampNeg, .inl u_27.1)), (q_29, .inl (cZ, u_4.1.2.2.2.2.toNatClampNeg, .inl u_27.2.1)), (q_32, .inr (0, [.ref q_34, .int u_33.2.1, .int u_33.2.2])), (q_34, .inl (cI, 1250, .inl u_33.1)), (q_36, .inr (0, [.ref q_38, .int u_37.2.1, .int u_37.2.2])), (q_38, .inl (cI, 1250, .inl u_37.1))]) := hD
  refine va_putF (D := (dC, dI)) (ci := 3) (v := .ref q_36) (ty := (.object "TagTrees$BitRow")) (C := RX3) (T := TX3) (N := 7) hx hb hT inX3 tyX3 tyX3_ok nmX3 hown hK hP hD hS 0 rfl rfl 5 (by decide) (hT _ k_24) (fun _ h9 => h9) rfl hin rfl (by decide +kernel) rfl rfl (Nat.le_of_ble_eq_true rfl) dX3_init_99 (fun H locs hP hD hS => ?_)
  have hP : va_P (dC, dI) vwCl ([(a0, .inr (3, [.ref q_1, .ref q_16, .ref q_20, .ref q_26, .ref q_32, .ref q_36, .int 0])), (q_1, .inr (1, [.int u_4.1.1, .int u_4.1.2.1, .int u_4.1.2.2.1, .int u_4.1.2.2.2.1, .int u_4.1.2.2.2.2, .ref q_5, .ref q_6, .ref q_7, .ref q_8])), (q_5, .inl (cI, 6, .inl u_4.2.1.1)), (q_6, .inl (cI, 6, .inl u_4.2.1.2.1)), (q_7, .inl (cI, 6, .inl u_4.2.1.2.2)), (q_8, .inl (cJ, 3, .inr (.inr (.inr (.inr (fun i => if i < 3 then some (r_9 i) else none)))))), (r_9 0, .inl (cI, u_4.1.2.2.1.toNatClampNeg, .inl (u_4.2.2 0))), (r_9 1, .inl (cI, u_4.1.2.2.1.toNatClampNeg, .inl (u_4.2.2 1))), (r_9 2, .inl (cI, u_4.1.2.2.1.toNatClampNeg, .inl (u_4.2.2 2))), (q_16, .inl (cI, u_4.1.2.2.2.2.toNatClampNeg, .inl (fun _ => 0))), (q_20, .inr (2, [.ref q_22, .ref q_23, .int u_21.2.2])), (q_22, .inl (cI, u_4.1.2.2.2.2.toNatClampNeg, .inl u_21.1)), (q_23, .inl (cZ, u_4.1.2.2.2.2.toNatClampNeg, .inl u_21.2.1)), (q_26, .inr (2, [.ref q_28, .ref q_29, .int u_27.2.2])), (q_28, .inl (cI, u_4.1.2.2.2.2.toNatClampNeg, .inl u_27.1)), (q_29, .inl (cZ, u_4.1.2.2.2.2.toNatClampNeg, .inl u_27.2.1)), (q_32, .inr (0, [.ref q_34, .int u_33.2.1, .int u_33.2.2])), (q_34, .inl (cI, 1250, .inl u_33.1)), (q_36, .inr (0, [.ref q_38, .int u_37.2.1, .int u_37.2.2])), (q_38, .inl (cI, 1250, .inl u_37.1))]) H := hP
  have hD : va_D A ([(a0, .inr (3, [.ref q_1, .ref q_16, .ref q_20, .ref q_26, .ref q_32, .ref q_36, .int 0])), (q_1, .inr (1, [.int u_4.1.1, .int u_4.1.2.1, .int u_4.1.2.2.1, .int u_4.1.2.2.2.1, .int u_4.1.2.2.2.2, .ref q_5, .ref q_6, .ref q_7, .ref q_8])), (q_5, .inl (cI, 6, .inl u_4.2.1.1)), (q_6, .inl (cI, 6, .inl u_4.2.1.2.1)), (q_7, .inl (cI, 6, .inl u_4.2.1.2.2)), (q_8, .inl (cJ, 3, .inr (.inr (.inr (.inr (fun i => if i < 3 then some (r_9 i) else none)))))), (r_9 0, .inl (cI, u_4.1.2.2.1.toNatClampNeg, .inl (u_4.2.2 0))), (r_9 1, .inl (cI, u_4.1.2.2.1.toNatClampNeg, .inl (u_4.2.2 1))), (r_9 2, .inl (cI, u_4.1.2.2.1.toNatClampNeg, .inl (u_4.2.2 2))), (q_16, .inl (cI, u_4.1.2.2.2.2.toNatClampNeg, .inl (fun _ => 0))), (q_20, .inr (2, [.ref q_22, .ref q_23, .int u_21.2.2])), (q_22, .inl (cI, u_4.1.2.2.2.2.toNatClampNeg, .inl u_21.1)), (q_23, .inl (cZ, u_4.1.2.2.2.2.toNatClampNeg, .inl u_21.2.1)), (q_26, .inr (2, [.ref q_28, .ref q_29, .int u_27.2.2])), (q_28, .inl (cI, u_4.1.2.2.2.2.toNatClampNeg, .inl u_27.1)), (q_29, .inl (cZ, u_4.1.2.2.2.2.toNatClampNeg, .inl u_27.2.1)), (q_32, .inr (0, [.ref q_34, .int u_33.2.1, .int u_33.2.2])), (q_34, .inl (cI, 1250, .inl u_33.1)), (q_36, .inr (0, [.ref q_38, .int u_37.2.1, .int u_37.2.2])), (q_38, .inl (cI, 1250, .inl u_37.1))]) := hD
  refine lv_aload_n hx hb dX3_init_102 rfl (lv_at hl 0 rfl) ?_
  refine lv_iconst (v := 0) hx hb dX3_init_103 (by decide) ?_
  refine va_put (D := (dC, dI)) (ci := 3) (v := .int 0) (ty := .int) (C := RX3) (T := TX3) (N := 7) hx hb hT inX3 tyX3 tyX3_ok nmX3 hown hK hP hD hS 0 rfl rfl 6 (by decide) (hT _ k_38) (fun _ h9 => h9) rfl (by decide +kernel) rfl rfl (Nat.le_of_ble_eq_true rfl) dX3_init_104 (fun H locs hP hD hS => ?_)
  have hP : va_P (dC, dI) vwCl ([(a0, .inr (3, [.ref q_1, .ref q_16, .ref q_20, .ref q_26, .ref q_32, .ref q_36, .int 0])), (q_1, .inr (1, [.int u_4.1.1, .int u_4.1.2.1, .int u_4.1.2.2.1, .int u_4.1.2.2.2.1, .int u_4.1.2.2.2.2, .ref q_5, .ref q_6, .ref q_7, .ref q_8])), (q_5, .inl (cI, 6, .inl u_4.2.1.1)), (q_6, .inl (cI, 6, .inl u_4.2.1.2.1)), (q_7, .inl (cI, 6, .inl u_4.2.1.2.2)), (q_8, .inl (cJ, 3, .inr (.inr (.inr (.inr (fun i => if i < 3 then some (r_9 i) else none)))))), (r_9 0, .inl (cI, u_4.1.2.2.1.toNatClampNeg, .inl (u_4.2.2 0))), (r_9 1, .inl (cI, u_4.1.2.2.1.toNatClampNeg, .inl (u_4.2.2 1))), (r_9 2, .inl (cI, u_4.1.2.2.1.toNatClampNeg, .inl (u_4.2.2 2))), (q_16, .inl (cI, u_4.1.2.2.2.2.toNatClampNeg, .inl (fun _ => 0))), (q_20, .inr (2, [.ref q_22, .ref q_23, .int u_21.2.2])), (q_22, .inl (cI, u_4.1.2.2.2.2.toNatClampNeg, .inl u_21.1)), (q_23, .inl (cZ, u_4.1.2.2.2.2.toNatClampNeg, .inl u_21.2.1)), (q_26, .inr (2, [.ref q_28, .ref q_29, .int u_27.2.2])), (q_28, .inl (cI, u_4.1.2.2.2.2.toNatClampNeg, .inl u_27.1)), (q_29, .inl (cZ, u_4.1.2.2.2.2.toNatClampNeg, .inl u_27.2.1)), (q_32, .inr (0, [.ref q_34, .int u_33.2.1, .int u_33.2.2])), (q_34, .inl (cI, 1250, .inl u_33.1)), (q_36, .inr (0, [.ref q_38, .int u_37.2.1, .int u_37.2.2])), (q_38, .inl (cI, 1250, .inl u_37.1))]) H := hP
  have hD : va_D A ([(a0, .inr (3, [.ref q_1, .ref q_16, .ref q_20, .ref q_26, .ref q_32, .ref q_36, .int 0])), (q_1, .inr (1, [.int u_4.1.1, .int u_4.1.2.1, .int u_4.1.2.2.1, .int u_4.1.2.2.2.1, .int u_4.1.2.2.2.2, .ref q_5, .ref q_6, .ref q_7, .ref q_8])), (q_5, .inl (cI, 6, .inl u_4.2.1.1)), (q_6, .inl (cI, 6, .inl u_4.2.1.2.1)), (q_7, .inl (cI, 6, .inl u_4.2.1.2.2)), (q_8, .inl (cJ, 3, .inr (.inr (.inr (.inr (fun i => if i < 3 then some (r_9 i) else none)))))), (r_9 0, .inl (cI, u_4.1.2.2.1.toNatClampNeg, .inl (u_4.2.2 0))), (r_9 1, .inl (cI, u_4.1.2.2.1.toNatClampNeg, .inl (u_4.2.2 1))), (r_9 2, .inl (cI, u_4.1.2.2.1.toNatClampNeg, .inl (u_4.2.2 2))), (q_16, .inl (cI, u_4.1.2.2.2.2.toNatClampNeg, .inl (fun _ => 0))), (q_20, .inr (2, [.ref q_22, .ref q_23, .int u_21.2.2])), (q_22, .inl (cI, u_4.1.2.2.2.2.toNatClampNeg, .inl u_21.1)), (q_23, .inl (cZ, u_4.1.2.2.2.2.toNatClampNeg, .inl u_21.2.1)), (q_26, .inr (2, [.ref q_28, .ref q_29, .int u_27.2.2])), (q_28, .inl (cI, u_4.1.2.2.2.2.toNatClampNeg, .inl u_27.1)), (q_29, .inl (cZ, u_4.1.2.2.2.2.toNatClampNeg, .inl u_27.2.1)), (q_32, .inr (0, [.ref q_34, .int u_33.2.1, .int u_33.2.2])), (q_34, .inl (cI, 1250, .inl u_33.1)), (q_36, .inr (0, [.ref q_38, .int u_37.2.1, .int u_37.2.2])), (q_38, .inl (cI, 1250, .inl u_37.1))]) := hD
  have hP := hP.sub (ws' := (wTT cI cZ cJ (u_4.1.2.2.1.toNatClampNeg) (u_4.1.2.2.2.2.toNatClampNeg) (fun i => ([a0, q_1, q_5, q_6, q_7, q_8, r_9 0, r_9 1, r_9 2, q_16, q_20, q_22, q_23, q_26, q_28, q_29, q_32, q_34, q_36, q_38] : List Nat).getD i 0) r_9 u_4 (u_4, ((fun _ => 0), (u_21.1, u_21.2.1, u_21.2.2), (u_27.1, u_27.2.1, u_27.2.2), (u_33.1, u_33.2.1, u_33.2.2), (u_37.1, u_37.2.1, u_37.2.2), 0)).2)) [0, 1, 2, 3, 4, 5, 6, 7, 8, 9, 10, 11, 12, 13, 14, 15, 16, 17, 18, 19] rfl
  have hD := hD.sub (ws' := (wTT cI cZ cJ (u_4.1.2.2.1.toNatClampNeg) (u_4.1.2.2.2.2.toNatClampNeg) (fun i => ([a0, q_1, q_5, q_6, q_7, q_8, r_9 0, r_9 1, r_9 2, q_16, q_20, q_22, q_23, q_26, q_28, q_29, q_32, q_34, q_36, q_38] : List Nat).getD i 0) r_9 u_4 (u_4, ((fun _ => 0), (u_21.1, u_21.2.1, u_21.2.2), (u_27.1, u_27.2.1, u_27.2.2), (u_33.1, u_33.2.1, u_33.2.2), (u_37.1, u_37.2.1, u_37.2.2), 0)).2)) [0, 1, 2, 3, 4, 5, 6, 7, 8, 9, 10, 11, 12, 13, 14, 15, 16, 17, 18, 19] (by decide) rfl
  exact W.vret hx hb hr (fun t ht hW => ⟨⟨(u_4, ((fun _ => 0), (u_21.1, u_21.2.1, u_21.2.2), (u_27.1, u_27.2.1, u_27.2.2), (u_33.1, u_33.2.1, u_33.2.2), (u_37.1, u_37.2.1, u_37.2.2), 0)), rfl, hw, (fun i => ([a0, q_1, q_5, q_6, q_7, q_8, r_9 0, r_9 1, r_9 2, q_16, q_20, q_22, q_23, q_26, q_28, q_29, q_32, q_34, q_36, q_38] : List Nat).getD i 0), r_9, rfl, by rw [ht]; exact hP, va_K.moved hW.alike hK, hD⟩, hS.F ht⟩) hS.2.2 dX3_init_107
