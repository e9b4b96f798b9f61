theorem k_0 : (Cond.fieldLink RX0 15 "TagTrees$BitRow" "first" "I") ∈ WALL := List.mem_filter.mpr ⟨List.mem_append_right _ (List.mem_of_getElem? (i := 110) (by decide +kernel)), by decide +kernel⟩
theorem k_1 : (Cond.constant RX0 22 40000) ∈ WALL := List.mem_filter.mpr ⟨List.mem_append_right _ (List.mem_of_getElem? (i := 370) (by decide +kernel)), by decide +kernel⟩
theorem k_2 : (Cond.fieldLink RX0 19 "TagTrees$BitRow" "many" "I") ∈ WALL := List.mem_filter.mpr ⟨List.mem_append_right _ (List.mem_of_getElem? (i := 111) (by decide +kernel)), by decide +kernel⟩
theorem k_3 : (Cond.methodLink RX0 23 yX0_placeOf) ∈ WALL := List.mem_filter.mpr ⟨List.mem_append_right _ (List.mem_of_getElem? (i := 371) (by decide +kernel)), by decide +kernel⟩
theorem k_4 : (Cond.code yX0_placeOf cX0_placeOf 3 (some .int)) ∈ WALL := List.mem_filter.mpr ⟨List.mem_append_right _ (List.mem_of_getElem? (i := 374) (by decide +kernel)), by decide +kernel⟩
theorem k_5 : (Cond.instanceMethod yX0_placeOf) ∈ WALL := List.mem_filter.mpr ⟨List.mem_append_right _ (List.mem_of_getElem? (i := 373) (by decide +kernel)), by decide +kernel⟩
theorem k_6 : (Cond.selects RX0 yX0_placeOf yX0_placeOf) ∈ WALL := List.mem_filter.mpr ⟨List.mem_append_left _ (List.mem_of_getElem? (i := 13) (by decide +kernel)), by decide +kernel⟩
theorem k_7 : (Cond.initialized RX0) ∈ WALL := List.mem_filter.mpr ⟨List.mem_append_right _ (List.mem_of_getElem? (i := 4) (by decide +kernel)), by decide +kernel⟩
theorem k_8 : (Cond.fieldLink RX0 9 "TagTrees$BitRow" "words" "[I") ∈ WALL := List.mem_filter.mpr ⟨List.mem_append_right _ (List.mem_of_getElem? (i := 109) (by decide +kernel)), by decide +kernel⟩
theorem dX0_placeOf_0 : decode cX0_placeOf 0 = .ok (.aload_n 0, 1) := by decide +kernel
theorem dX0_placeOf_1 : decode cX0_placeOf 1 = .ok (.getfield 15, 3) := by decide +kernel
theorem dX0_placeOf_4 : decode cX0_placeOf 4 = .ok (.iload_n 1, 1) := by decide +kernel
theorem dX0_placeOf_5 : decode cX0_placeOf 5 = .ok (.iadd, 1) := by decide +kernel
theorem dX0_placeOf_6 : decode cX0_placeOf 6 = .ok (.istore_n 2, 1) := by decide +kernel
theorem dX0_placeOf_7 : decode cX0_placeOf 7 = .ok (.iload_n 2, 1) := by decide +kernel
theorem dX0_placeOf_8 : decode cX0_placeOf 8 = .ok (.ldc 22, 2) := by decide +kernel
theorem dX0_placeOf_10 : decode cX0_placeOf 10 = .ok (.if_icmp .lt 10, 3) := by decide +kernel
theorem dX0_placeOf_13 : decode cX0_placeOf 13 = .ok (.iload_n 2, 1) := by decide +kernel
theorem dX0_placeOf_14 : decode cX0_placeOf 14 = .ok (.ldc 22, 2) := by decide +kernel
theorem dX0_placeOf_16 : decode cX0_placeOf 16 = .ok (.isub, 1) := by decide +kernel
theorem dX0_placeOf_17 : decode cX0_placeOf 17 = .ok (.goto 4, 3) := by decide +kernel
theorem dX0_placeOf_20 : decode cX0_placeOf 20 = .ok (.iload_n 2, 1) := by decide +kernel
theorem dX0_placeOf_21 : decode cX0_placeOf 21 = .ok (.ireturn, 1) := by decide +kernel
theorem dX0_empty_0 : decode cX0_empty 0 = .ok (.aload_n 0, 1) := by decide +kernel
theorem dX0_empty_1 : decode cX0_empty 1 = .ok (.iconst 0, 1) := by decide +kernel
theorem dX0_empty_2 : decode cX0_empty 2 = .ok (.putfield 15, 3) := by decide +kernel
theorem dX0_empty_5 : decode cX0_empty 5 = .ok (.aload_n 0, 1) := by decide +kernel
theorem dX0_empty_6 : decode cX0_empty 6 = .ok (.iconst 0, 1) := by decide +kernel
theorem dX0_empty_7 : decode cX0_empty 7 = .ok (.putfield 19, 3) := by decide +kernel
theorem dX0_empty_10 : decode cX0_empty 10 = .ok (.return_, 1) := by decide +kernel
theorem dX0_look_0 : decode cX0_look 0 = .ok (.iload_n 1, 1) := by decide +kernel
theorem dX0_look_1 : decode cX0_look 1 = .ok (.ifCond .lt 11, 3) := by decide +kernel
theorem dX0_look_4 : decode cX0_look 4 = .ok (.iload_n 1, 1) := by decide +kernel
theorem dX0_look_5 : decode cX0_look 5 = .ok (.aload_n 0, 1) := by decide +kernel
theorem dX0_look_6 : decode cX0_look 6 = .ok (.getfield 19, 3) := by decide +kernel
theorem dX0_look_9 : decode cX0_look 9 = .ok (.if_icmp .lt 5, 3) := by decide +kernel
theorem dX0_look_12 : decode cX0_look 12 = .ok (.iconst 0, 1) := by decide +kernel
theorem dX0_look_13 : decode cX0_look 13 = .ok (.ireturn, 1) := by decide +kernel
theorem dX0_look_14 : decode cX0_look 14 = .ok (.aload_n 0, 1) := by decide +kernel
theorem dX0_look_15 : decode cX0_look 15 = .ok (.iload_n 1, 1) := by decide +kernel
theorem dX0_look_16 : decode cX0_look 16 = .ok (.invokevirtual 23, 3) := by decide +kernel
theorem dX0_look_19 : decode cX0_look 19 = .ok (.istore_n 2, 1) := by decide +kernel
theorem dX0_look_20 : decode cX0_look 20 = .ok (.aload_n 0, 1) := by decide +kernel
theorem dX0_look_21 : decode cX0_look 21 = .ok (.getfield 9, 3) := by decide +kernel
theorem dX0_look_24 : decode cX0_look 24 = .ok (.iload_n 2, 1) := by decide +kernel
theorem dX0_look_25 : decode cX0_look 25 = .ok (.iconst 5, 1) := by decide +kernel
theorem dX0_look_26 : decode cX0_look 26 = .ok (.ishr, 1) := by decide +kernel
theorem dX0_look_27 : decode cX0_look 27 = .ok (.iaload, 1) := by decide +kernel
theorem dX0_look_28 : decode cX0_look 28 = .ok (.iload_n 2, 1) := by decide +kernel
theorem dX0_look_29 : decode cX0_look 29 = .ok (.bipush 31, 2) := by decide +kernel
theorem dX0_look_31 : decode cX0_look 31 = .ok (.iand, 1) := by decide +kernel
theorem dX0_look_32 : decode cX0_look 32 = .ok (.iushr, 1) := by decide +kernel
theorem dX0_look_33 : decode cX0_look 33 = .ok (.iconst 1, 1) := by decide +kernel
theorem dX0_look_34 : decode cX0_look 34 = .ok (.iand, 1) := by decide +kernel
theorem dX0_look_35 : decode cX0_look 35 = .ok (.ireturn, 1) := by decide +kernel
theorem dX0_append_0 : decode cX0_append 0 = .ok (.aload_n 0, 1) := by decide +kernel
theorem dX0_append_1 : decode cX0_append 1 = .ok (.getfield 19, 3) := by decide +kernel
theorem dX0_append_4 : decode cX0_append 4 = .ok (.ldc 22, 2) := by decide +kernel
theorem dX0_append_6 : decode cX0_append 6 = .ok (.if_icmp .lt 4, 3) := by decide +kernel
theorem dX0_append_9 : decode cX0_append 9 = .ok (.return_, 1) := by decide +kernel
theorem dX0_append_10 : decode cX0_append 10 = .ok (.aload_n 0, 1) := by decide +kernel
theorem dX0_append_11 : decode cX0_append 11 = .ok (.aload_n 0, 1) := by decide +kernel
theorem dX0_append_12 : decode cX0_append 12 = .ok (.getfield 19, 3) := by decide +kernel
theorem dX0_append_15 : decode cX0_append 15 = .ok (.invokevirtual 23, 3) := by decide +kernel
theorem dX0_append_18 : decode cX0_append 18 = .ok (.istore_n 2, 1) := by decide +kernel
theorem dX0_append_19 : decode cX0_append 19 = .ok (.iconst 1, 1) := by decide +kernel
theorem dX0_append_20 : decode cX0_append 20 = .ok (.iload_n 2, 1) := by decide +kernel
theorem dX0_append_21 : decode cX0_append 21 = .ok (.bipush 31, 2) := by decide +kernel
theorem dX0_append_23 : decode cX0_append 23 = .ok (.iand, 1) := by decide +kernel
theorem dX0_append_24 : decode cX0_append 24 = .ok (.ishl, 1) := by decide +kernel
theorem dX0_append_25 : decode cX0_append 25 = .ok (.istore_n 3, 1) := by decide +kernel
theorem dX0_append_26 : decode cX0_append 26 = .ok (.aload_n 0, 1) := by decide +kernel
theorem dX0_append_27 : decode cX0_append 27 = .ok (.getfield 9, 3) := by decide +kernel
theorem dX0_append_30 : decode cX0_append 30 = .ok (.iload_n 2, 1) := by decide +kernel
theorem dX0_append_31 : decode cX0_append 31 = .ok (.iconst 5, 1) := by decide +kernel
theorem dX0_append_32 : decode cX0_append 32 = .ok (.ishr, 1) := by decide +kernel
theorem dX0_append_33 : decode cX0_append 33 = .ok (.iload_n 1, 1) := by decide +kernel
theorem dX0_append_34 : decode cX0_append 34 = .ok (.iconst 1, 1) := by decide +kernel
theorem dX0_append_35 : decode cX0_append 35 = .ok (.if_icmp .ne 16, 3) := by decide +kernel
theorem dX0_append_38 : decode cX0_append 38 = .ok (.aload_n 0, 1) := by decide +kernel
theorem dX0_append_39 : decode cX0_append 39 = .ok (.getfield 9, 3) := by decide +kernel
theorem dX0_append_42 : decode cX0_append 42 = .ok (.iload_n 2, 1) := by decide +kernel
theorem dX0_append_43 : decode cX0_append 43 = .ok (.iconst 5, 1) := by decide +kernel
theorem dX0_append_44 : decode cX0_append 44 = .ok (.ishr, 1) := by decide +kernel
theorem dX0_append_45 : decode cX0_append 45 = .ok (.iaload, 1) := by decide +kernel
theorem dX0_append_46 : decode cX0_append 46 = .ok (.iload_n 3, 1) := by decide +kernel
theorem dX0_append_47 : decode cX0_append 47 = .ok (.ior, 1) := by decide +kernel
theorem dX0_append_48 : decode cX0_append 48 = .ok (.goto 15, 3) := by decide +kernel
theorem dX0_append_51 : decode cX0_append 51 = .ok (.aload_n 0, 1) := by decide +kernel
theorem dX0_append_52 : decode cX0_append 52 = .ok (.getfield 9, 3) := by decide +kernel
theorem dX0_append_55 : decode cX0_append 55 = .ok (.iload_n 2, 1) := by decide +kernel
theorem dX0_append_56 : decode cX0_append 56 = .ok (.iconst 5, 1) := by decide +kernel
theorem dX0_append_57 : decode cX0_append 57 = .ok (.ishr, 1) := by decide +kernel
theorem dX0_append_58 : decode cX0_append 58 = .ok (.iaload, 1) := by decide +kernel
theorem dX0_append_59 : decode cX0_append 59 = .ok (.iload_n 3, 1) := by decide +kernel
theorem dX0_append_60 : decode cX0_append 60 = .ok (.iconst (-1), 1) := by decide +kernel
theorem dX0_append_61 : decode cX0_append 61 = .ok (.ixor, 1) := by decide +kernel
theorem dX0_append_62 : decode cX0_append 62 = .ok (.iand, 1) := by decide +kernel
theorem dX0_append_63 : decode cX0_append 63 = .ok (.iastore, 1) := by decide +kernel
theorem dX0_append_64 : decode cX0_append 64 = .ok (.aload_n 0, 1) := by decide +kernel
theorem dX0_append_65 : decode cX0_append 65 = .ok (.dup, 1) := by decide +kernel
theorem dX0_append_66 : decode cX0_append 66 = .ok (.getfield 19, 3) := by decide +kernel
theorem dX0_append_69 : decode cX0_append 69 = .ok (.iconst 1, 1) := by decide +kernel
theorem dX0_append_70 : decode cX0_append 70 = .ok (.iadd, 1) := by decide +kernel
theorem dX0_append_71 : decode cX0_append 71 = .ok (.putfield 19, 3) := by decide +kernel
theorem dX0_append_74 : decode cX0_append 74 = .ok (.return_, 1) := by decide +kernel
theorem dX0_drop_0 : decode cX0_drop 0 = .ok (.aload_n 0, 1) := by decide +kernel
theorem dX0_drop_1 : decode cX0_drop 1 = .ok (.aload_n 0, 1) := by decide +kernel
theorem dX0_drop_2 : decode cX0_drop 2 = .ok (.iload_n 1, 1) := by decide +kernel
theorem dX0_drop_3 : decode cX0_drop 3 = .ok (.invokevirtual 23, 3) := by decide +kernel
theorem dX0_drop_6 : decode cX0_drop 6 = .ok (.putfield 15, 3) := by decide +kernel
theorem dX0_drop_9 : decode cX0_drop 9 = .ok (.aload_n 0, 1) := by decide +kernel
theorem dX0_drop_10 : decode cX0_drop 10 = .ok (.dup, 1) := by decide +kernel
theorem dX0_drop_11 : decode cX0_drop 11 = .ok (.getfield 19, 3) := by decide +kernel
theorem dX0_drop_14 : decode cX0_drop 14 = .ok (.iload_n 1, 1) := by decide +kernel
theorem dX0_drop_15 : decode cX0_drop 15 = .ok (.isub, 1) := by decide +kernel
theorem dX0_drop_16 : decode cX0_drop 16 = .ok (.putfield 19, 3) := by decide +kernel
theorem dX0_drop_19 : decode cX0_drop 19 = .ok (.return_, 1) := by decide +kernel
def wp_X0_placeOf (post : Int32 → Prop)  (B : vBR) (x1 : Int32) : Prop := ∀ x2_1 : Int32, x2_1 = B.2.1 + x1 → (((x2_1 < 40000 → (post x2_1)) ∧ (¬ x2_1 < 40000 → (post (x2_1 - 40000)))))
abbrev rm_X0_placeOf : Room := { frames := 0, cells := 0, slots := 0, locals := 0 }
set_option maxHeartbeats 4000000 in
set_option maxRecDepth 100000 in
theorem met_X0_placeOf (l : Launch) (dC : Nat → ClassId) (dI : Nat → Nat → Nat) (cI cZ cJ cL : ClassId) (a0 a1 : Nat) (post : Int32 → Prop)  (B : vBR) (x1 : Int32) (hw : wp_X0_placeOf post  B x1) : Met l yX0_placeOf wsX0_placeOf rm_X0_placeOf (pcR (dC, dI) (tysA cI cZ cJ cL) (wBR cI a0 a1 B) [.ref a0, .int x1]) (vp_Si post) 0 0 (fun _ => False) := by
  refine Met.ofW (cc := cX0_placeOf) (maxL := 3) (ret := (some .int)) (by decide) rfl ?_
  intro p e s m args below meth c s₁ Bd hml hv
  obtain ⟨hargs, hP, hK⟩ := hv
  have hx := Bd.exec
  have hb := Bd.bytes
  have hr := Bd.returns
  have hts := atoms_spec (ws := wsX0_placeOf) Bd.pre
  have hT : ∀ w ∈ WALL, w.before args s = true := fun w h => hts w (List.mem_cons_of_mem _ h)
  have hown : s.vm.findClass RX0 = some m.cls := findClass_of_methodNamed Bd.named
  have hlocks := Bd.notSynchronized
  have hP : va_P (dC, dI) vwCl (wBR cI a0 a1 B) s.heap := hP
  have hl := lv_entry ([.ref a0, .int x1]) (n := 3) (Nat.le_of_ble_eq_true rfl)
  rw [show entryFrame m args 3 = F0 m 0 _ [] from by rw [hargs]; exact lg_entry_eq m ([.ref a0, .int x1]) 3]
  generalize (lg_sl ([.ref a0, .int x1]) ++ List.replicate (3 - (lg_sl ([.ref a0, .int x1])).length) Slot.unset).toArray = ls at hl ⊢
  have hl : lv_has ls 3 [(0, .ref a0), (1, .int x1)] := hl
  generalize hH : s.heap = H at hP ⊢
  unfold wp_X0_placeOf at hw
  refine lv_aload_n hx hb dX0_placeOf_0 rfl (lv_at hl 0 rfl) ?_
  refine va_get (D := (dC, dI)) (ci := 0) (v := .int B.2.1) (C := RX0) (T := TX0) (N := 3) hx hb hT inX0 hown hK hP 0 rfl rfl 1 (by decide) (hT _ k_0) (fun _ h9 => h9) rfl dX0_placeOf_1 ?_
  refine lv_iload_n hx hb dX0_placeOf_4 rfl (lv_at hl 1 rfl) ?_
  refine lv_iadd hx hb dX0_placeOf_5 ?_
  refine lv_topi (fun x2_1 ex2_1 => ?_)
  have hw := hw x2_1 ex2_1
  refine lv_istore_n (lv' := [(2, .int x2_1), (0, .ref a0), (1, .int x1)]) hx hb dX0_placeOf_6 rfl hl (by decide) rfl (fun ls hl => ?_)
  refine lv_iload_n hx hb dX0_placeOf_7 rfl (lv_at hl 0 rfl) ?_
  refine lv_ldc hx hb hown (hT _ k_1) dX0_placeOf_8 ?_
  refine lv_icmp_lt (tgt := 20) hx hb dX0_placeOf_10 (by decide) (fun c_2 => ?_) (fun c_2 => ?_)
  · have hw := hw.1 c_2
    refine lv_iload_n hx hb dX0_placeOf_20 rfl (lv_at hl 0 rfl) ?_
    exact W.iret (v := x2_1) hx hb hr (fun t ht hW => ⟨x2_1, rfl, hw, ht.trans hH.symm⟩) (fun q h => by cases h) dX0_placeOf_21
  · have hw := hw.2 c_2
    refine lv_iload_n hx hb dX0_placeOf_13 rfl (lv_at hl 0 rfl) ?_
    refine lv_ldc hx hb hown (hT _ k_1) dX0_placeOf_14 ?_
    refine lv_isub hx hb dX0_placeOf_16 ?_
    refine lv_goto (tgt := 21) hx hb dX0_placeOf_17 (by decide) ?_
    exact W.iret (v := (x2_1 - 40000)) hx hb hr (fun t ht hW => ⟨(x2_1 - 40000), rfl, hw, ht.trans hH.symm⟩) (fun q h => by cases h) dX0_placeOf_21
def wp_X0_empty (post : vBR → Prop)  (B : vBR)  : Prop := post (B.1, 0, 0)
abbrev rm_X0_empty : Room := { frames := 0, cells := 0, slots := 0, locals := 0 }
set_option maxHeartbeats 4000000 in
set_option maxRecDepth 100000 in
theorem met_X0_empty (l : Launch) (dC : Nat → ClassId) (dI : Nat → Nat → Nat) (cI cZ cJ cL : ClassId) (a0 a1 : Nat) (sz : Nat) (post : vBR → Prop)  (B : vBR)  (hw : wp_X0_empty post  B ) : Met l yX0_empty wsX0_empty rm_X0_empty (pcW (dC, dI) (tysA cI cZ cJ cL) (wBR cI a0 a1 B) sz [.ref a0]) (va_Qv post (fun u t => qB (dC, dI) (tysA cI cZ cJ cL) (va_A (wBR cI a0 a1 B) sz) (wBR cI a0 a1 u) t) (va_A (wBR cI a0 a1 B) sz)) 0 0 (va_A (wBR cI a0 a1 B) sz) := by
  refine Met.ofW (cc := cX0_empty) (maxL := 1) (ret := none) (by decide) rfl ?_
  intro p e s m args below meth c s₁ Bd hml hv
  obtain ⟨hargs, hsz, hP, hK, hD0⟩ := hv
  have hx := Bd.exec
  have hb := Bd.bytes
  have hr := Bd.returns
  have hts := atoms_spec (ws := wsX0_empty) Bd.pre
  have hT : ∀ w ∈ WALL, w.before args s = true := fun w h => hts w (List.mem_cons_of_mem _ h)
  have hown : s.vm.findClass RX0 = some m.cls := findClass_of_methodNamed Bd.named
  have hlocks := Bd.notSynchronized
  subst hsz
  have hD := hD0.self (sz := s.heap.size)
  generalize hAe : va_A (wBR cI a0 a1 B) s.heap.size = A at hD ⊢
  have hA : ∀ q : Nat, s.heap.size ≤ q → A q := fun q h => by rw [← hAe]; exact Or.inr h
  have hS : va_S A s.heap s.heap [] := va_S.rf
  have hP : va_P (dC, dI) vwCl (wBR cI a0 a1 B) s.heap := hP
  have hl := lv_entry ([.ref a0]) (n := 1) (Nat.le_of_ble_eq_true rfl)
  rw [show entryFrame m args 1 = F0 m 0 _ [] from by rw [hargs]; exact lg_entry_eq m ([.ref a0]) 1]
  generalize (lg_sl ([.ref a0]) ++ List.replicate (1 - (lg_sl ([.ref a0])).length) Slot.unset).toArray = ls at hl ⊢
  have hl : lv_has ls 1 [(0, .ref a0)] := hl
  obtain ⟨H, hH⟩ : ∃ z : Heap, z = s.heap := ⟨_, rfl⟩
  obtain ⟨locs, hlocs⟩ : ∃ z : List Loc, z = [] := ⟨_, rfl⟩
  rw [show W p l e (headSpec wsX0_empty rm_X0_empty).room s m args below meth c s.heap [] 0 0 = W p l e (headSpec wsX0_empty rm_X0_empty).room s m args below meth c H locs 0 0 from by rw [hH, hlocs]]
  have hP : va_P (dC, dI) vwCl (wBR cI a0 a1 B) H := by rw [hH]; exact hP
  have hS : va_S A s.heap H locs := by rw [hH, hlocs]; exact hS
  unfold wp_X0_empty at hw
  refine lv_aload_n hx hb dX0_empty_0 rfl (lv_at hl 0 rfl) ?_
  refine lv_iconst (v := 0) hx hb dX0_empty_1 (by decide) ?_
  refine va_put (D := (dC, dI)) (ci := 0) (v := .int 0) (ty := .int) (C := RX0) (T := TX0) (N := 3) hx hb hT inX0 tyX0 tyX0_ok nmX0 hown hK hP hD hS 0 rfl rfl 1 (by decide) (hT _ k_0) (fun _ h9 => h9) rfl (by decide +kernel) rfl rfl (Nat.le_of_ble_eq_true rfl) dX0_empty_2 (fun H locs hP hD hS => ?_)
  have hP : va_P (dC, dI) vwCl (wBR cI a0 a1 (B.1, 0, B.2.2)) H := hP
  have hD : va_D A (wBR cI a0 a1 (B.1, 0, B.2.2)) := hD
  refine lv_aload_n hx hb dX0_empty_5 rfl (lv_at hl 0 rfl) ?_
  refine lv_iconst (v := 0) hx hb dX0_empty_6 (by decide) ?_
  refine va_put (D := (dC, dI)) (ci := 0) (v := .int 0) (ty := .int) (C := RX0) (T := TX0) (N := 3) hx hb hT inX0 tyX0 tyX0_ok nmX0 hown hK hP hD hS 0 rfl rfl 2 (by decide) (hT _ k_2) (fun _ h9 => h9) rfl (by decide +kernel) rfl rfl (Nat.le_of_ble_eq_true rfl) dX0_empty_7 (fun H locs hP hD hS => ?_)
  have hP : va_P (dC, dI) vwCl (wBR cI a0 a1 (B.1, 0, 0)) H := hP
  have hD : va_D A (wBR cI a0 a1 (B.1, 0, 0)) := hD
  exact W.vret hx hb hr (fun t ht hW => ⟨⟨(B.1, 0, 0), rfl, hw, by rw [ht]; exact hP, va_K.moved hW.alike hK, hD⟩, hS.F ht⟩) hS.2.2 dX0_empty_10
def wp_X0_look (post : Int32 → Prop)  (B : vBR) (x1 : Int32) : Prop := ((x1 < 0 → (post 0)) ∧ (¬ x1 < 0 → (((x1 < B.2.2 → (wp_X0_placeOf (fun r_3 => vp_in (r_3 >>> ((5 : Int32) &&& 31)) 1250 ∧ (post ((((B.1 (r_3 >>> ((5 : Int32) &&& 31)).toNatClampNeg).toUInt32 >>> ((r_3 &&& 31).toUInt32 &&& Int32.toUInt32 31)).toInt32) &&& 1)))  B x1)) ∧ (¬ x1 < B.2.2 → (post 0))))))
abbrev rm_X0_look : Room := { frames := 1, cells := 0, slots := 0, locals := 22 }
set_option maxHeartbeats 4000000 in
set_option maxRecDepth 100000 in
theorem met_X0_look (l : Launch) (dC : Nat → ClassId) (dI : Nat → Nat → Nat) (cI cZ cJ cL : ClassId) (a0 a1 : Nat) (post : Int32 → Prop)  (B : vBR) (x1 : Int32) (hw : wp_X0_look post  B x1) : Met l yX0_look wsX0_look rm_X0_look (pcR (dC, dI) (tysA cI cZ cJ cL) (wBR cI a0 a1 B) [.ref a0, .int x1]) (vp_Si post) 0 0 (fun _ => False) := by
  refine Met.ofW (cc := cX0_look) (maxL := 3) (ret := (some .int)) (by decide) rfl ?_
  intro p e s m args below meth c s₁ Bd hml hv
  obtain ⟨hargs, hP, hK⟩ := hv
  have hx := Bd.exec
  have hb := Bd.bytes
  have hr := Bd.returns
  have hts := atoms_spec (ws := wsX0_look) Bd.pre
  have hT : ∀ w ∈ WALL, w.before args s = true := fun w h => hts w (List.mem_cons_of_mem _ h)
  have hown : s.vm.findClass RX0 = some m.cls := findClass_of_methodNamed Bd.named
  have hlocks := Bd.notSynchronized
  have hP : va_P (dC, dI) vwCl (wBR cI a0 a1 B) s.heap := hP
  have hl := lv_entry ([.ref a0, .int x1]) (n := 3) (Nat.le_of_ble_eq_true rfl)
  rw [show entryFrame m args 3 = F0 m 0 _ [] from by rw [hargs]; exact lg_entry_eq m ([.ref a0, .int x1]) 3]
  generalize (lg_sl ([.ref a0, .int x1]) ++ List.replicate (3 - (lg_sl ([.ref a0, .int x1])).length) Slot.unset).toArray = ls at hl ⊢
  have hl : lv_has ls 3 [(0, .ref a0), (1, .int x1)] := hl
  generalize hH : s.heap = H at hP ⊢
  unfold wp_X0_look at hw
  refine lv_iload_n hx hb dX0_look_0 rfl (lv_at hl 1 rfl) ?_
  refine lv_if_lt (tgt := 12) hx hb dX0_look_1 (by decide) (fun c_1 => ?_) (fun c_1 => ?_)
  · have hw := hw.1 c_1
    refine lv_iconst (v := 0) hx hb dX0_look_12 (by decide) ?_
    exact W.iret (v := 0) hx hb hr (fun t ht hW => ⟨0, rfl, hw, ht.trans hH.symm⟩) (fun q h => by cases h) dX0_look_13
  · have hw := hw.2 c_1
    refine lv_iload_n hx hb dX0_look_4 rfl (lv_at hl 1 rfl) ?_
    refine lv_aload_n hx hb dX0_look_5 rfl (lv_at hl 0 rfl) ?_
    refine va_get (D := (dC, dI)) (ci := 0) (v := .int B.2.2) (C := RX0) (T := TX0) (N := 3) hx hb hT inX0 hown hK hP 0 rfl rfl 2 (by decide) (hT _ k_2) (fun _ h9 => h9) rfl dX0_look_6 ?_
    refine lv_icmp_lt (tgt := 14) hx hb dX0_look_9 (by decide) (fun c_2 => ?_) (fun c_2 => ?_)
    · have hw := hw.1 c_2
      refine lv_aload_n hx hb dX0_look_14 rfl (lv_at hl 0 rfl) ?_
      refine lv_iload_n hx hb dX0_look_15 rfl (lv_at hl 1 rfl) ?_
      have hPc := hP
      refine vp_callSi (W.runV (As := [.int x1]) (rest := []) ⟨hx, hb, hml, hown, hT⟩ (met_X0_placeOf l dC dI cI cZ cJ cL a0 a1 _  B x1 hw) (cwV 1 hT (gV k_3 k_5 k_6 k_7 k_4) rfl rfl rfl (by decide +kernel) ⟨(Nat.le_of_ble_eq_true rfl), (Nat.le_of_ble_eq_true rfl)⟩) ⟨bl_R, va_recv hK hPc (ci := 0) (q0 := 0) rfl rfl, fun U hU hW => ⟨rfl, by rw [hU]; exact hPc, va_K.moved hW.alike hK⟩⟩ rfl rfl hl.1 rfl (lv_room (Nat.le_of_ble_eq_true rfl)) dX0_look_16 ⟨Nat.le_of_ble_eq_true rfl, Nat.le_of_ble_eq_true rfl⟩) (fun r_3 hw => ?_)
      try dsimp only at hw
      refine lv_istore_n (lv' := [(2, .int r_3), (0, .ref a0), (1, .int x1)]) hx hb dX0_look_19 rfl hl (by decide) rfl (fun ls hl => ?_)
      refine lv_aload_n hx hb dX0_look_20 rfl (lv_at hl 1 rfl) ?_
      refine va_get (D := (dC, dI)) (ci := 0) (v := .ref a1) (C := RX0) (T := TX0) (N := 3) hx hb hT inX0 hown hK hP 0 rfl rfl 0 (by decide) (hT _ k_8) (fun _ h9 => h9) rfl dX0_look_21 ?_
      refine lv_iload_n hx hb dX0_look_24 rfl (lv_at hl 0 rfl) ?_
      refine lv_iconst (v := 5) hx hb dX0_look_25 (by decide) ?_
      refine lv_ishr hx hb dX0_look_26 ?_
      obtain ⟨h_4, hw⟩ := hw
      refine va_iald hx hb hK hP 1 0 rfl rfl h_4 dX0_look_27 ?_
      refine lv_iload_n hx hb dX0_look_28 rfl (lv_at hl 0 rfl) ?_
      refine lv_bipush (v := 31) hx hb dX0_look_29 (by decide) ?_
      refine lv_iand hx hb dX0_look_31 ?_
      refine lv_iushr hx hb dX0_look_32 rfl ?_
      refine lv_iconst (v := 1) hx hb dX0_look_33 (by decide) ?_
      refine lv_iand hx hb dX0_look_34 ?_
      exact W.iret (v := ((((B.1 (r_3 >>> ((5 : Int32) &&& 31)).toNatClampNeg).toUInt32 >>> ((r_3 &&& 31).toUInt32 &&& Int32.toUInt32 31)).toInt32) &&& 1)) hx hb hr (fun t ht hW => ⟨((((B.1 (r_3 >>> ((5 : Int32) &&& 31)).toNatClampNeg).toUInt32 >>> ((r_3 &&& 31).toUInt32 &&& Int32.toUInt32 31)).toInt32) &&& 1), rfl, hw, ht.trans hH.symm⟩) (fun q h => by cases h) dX0_look_35
    · have hw := hw.2 c_2
      refine lv_iconst (v := 0) hx hb dX0_look_12 (by decide) ?_
      exact W.iret (v := 0) hx hb hr (fun t ht hW => ⟨0, rfl, hw, ht.trans hH.symm⟩) (fun q h => by cases h) dX0_look_13
def wp_X0_append (post : vBR → Prop)  (B : vBR) (x1 : Int32) : Prop := ((B.2.2 < 40000 → (wp_X0_placeOf (fun r_2 => ∀ x3_3 : Int32, x3_3 = (1 : Int32) <<< ((r_2 &&& 31) &&& 31) → (((x1 = 1 → (vp_in (r_2 >>> ((5 : Int32) &&& 31)) 1250 ∧ (vp_in (r_2 >>> ((5 : Int32) &&& 31)) 1250 ∧ (∀ f_10 : Int32, f_10 = B.2.2 + 1 → (post ((upd B.1 ((r_2 >>> ((5 : Int32) &&& 31)).toNatClampNeg) ((B.1 (r_2 >>> ((5 : Int32) &&& 31)).toNatClampNeg) ||| x3_3)), B.2.1, f_10)))))) ∧ (¬ x1 = 1 → (vp_in (r_2 >>> ((5 : Int32) &&& 31)) 1250 ∧ (vp_in (r_2 >>> ((5 : Int32) &&& 31)) 1250 ∧ (∀ f_7 : Int32, f_7 = B.2.2 + 1 → (post ((upd B.1 ((r_2 >>> ((5 : Int32) &&& 31)).toNatClampNeg) ((B.1 (r_2 >>> ((5 : Int32) &&& 31)).toNatClampNeg) &&& (x3_3 ^^^ (-1)))), B.2.1, f_7)))))))))  B B.2.2)) ∧ (¬ B.2.2 < 40000 → (post B)))
abbrev rm_X0_append : Room := { frames := 1, cells := 0, slots := 0, locals := 22 }
set_option maxHeartbeats 4000000 in
set_option maxRecDepth 100000 in
theorem met_X0_append (l : Launch) (dC : Nat → ClassId) (dI : Nat → Nat → Nat) (cI cZ cJ cL : ClassId) (a0 a1 : Nat) (sz : Nat) (post : vBR → Prop)  (B : vBR) (x1 : Int32) (hw : wp_X0_append post  B x1) : Met l yX0_append wsX0_append rm_X0_append (pcW (dC, dI) (tysA cI cZ cJ cL) (wBR cI a0 a1 B) sz [.ref a0, .int x1]) (va_Qv post (fun u t => qB (dC, dI) (tysA cI cZ cJ cL) (va_A (wBR cI a0 a1 B) sz) (wBR cI a0 a1 u) t) (va_A (wBR cI a0 a1 B) sz)) 0 0 (va_A (wBR cI a0 a1 B) sz) := by
  refine Met.ofW (cc := cX0_append) (maxL := 4) (ret := none) (by decide) rfl ?_
  intro p e s m args below meth c s₁ Bd hml hv
  obtain ⟨hargs, hsz, hP, hK, hD0⟩ := hv
  have hx := Bd.exec
  have hb := Bd.bytes
  have hr := Bd.returns
  have hts := atoms_spec (ws := wsX0_append) Bd.pre
  have hT : ∀ w ∈ WALL, w.before args s = true := fun w h => hts w (List.mem_cons_of_mem _ h)
  have hown : s.vm.findClass RX0 = some m.cls := findClass_of_methodNamed Bd.named
  have hlocks := Bd.notSynchronized
  subst hsz
  have hD := hD0.self (sz := s.heap.size)
  generalize hAe : va_A (wBR cI a0 a1 B) s.heap.size = A at hD ⊢
  have hA : ∀ q : Nat, s.heap.size ≤ q → A q := fun q h => by rw [← hAe]; exact Or.inr h
  have hS : va_S A s.heap s.heap [] := va_S.rf
  have hP : va_P (dC, dI) vwCl (wBR cI a0 a1 B) s.heap := hP
  have hl := lv_entry ([.ref a0, .int x1]) (n := 4) (Nat.le_of_ble_eq_true rfl)
  rw [show entryFrame m args 4 = F0 m 0 _ [] from by rw [hargs]; exact lg_entry_eq m ([.ref a0, .int x1]) 4]
  generalize (lg_sl ([.ref a0, .int x1]) ++ List.replicate (4 - (lg_sl ([.ref a0, .int x1])).length) Slot.unset).toArray = ls at hl ⊢
  have hl : lv_has ls 4 [(0, .ref a0), (1, .int x1)] := hl
  obtain ⟨H, hH⟩ : ∃ z : Heap, z = s.heap := ⟨_, rfl⟩
  obtain ⟨locs, hlocs⟩ : ∃ z : List Loc, z = [] := ⟨_, rfl⟩
  rw [show W p l e (headSpec wsX0_append rm_X0_append).room s m args below meth c s.heap [] 0 0 = W p l e (headSpec wsX0_append rm_X0_append).room s m args below meth c H locs 0 0 from by rw [hH, hlocs]]
  have hP : va_P (dC, dI) vwCl (wBR cI a0 a1 B) H := by rw [hH]; exact hP
  have hS : va_S A s.heap H locs := by rw [hH, hlocs]; exact hS
  unfold wp_X0_append at hw
  refine lv_aload_n hx hb dX0_append_0 rfl (lv_at hl 0 rfl) ?_
  refine va_get (D := (dC, dI)) (ci := 0) (v := .int B.2.2) (C := RX0) (T := TX0) (N := 3) hx hb hT inX0 hown hK hP 0 rfl rfl 2 (by decide) (hT _ k_2) (fun _ h9 => h9) rfl dX0_append_1 ?_
  refine lv_ldc hx hb hown (hT _ k_1) dX0_append_4 ?_
  refine lv_icmp_lt (tgt := 10) hx hb dX0_append_6 (by decide) (fun c_1 => ?_) (fun c_1 => ?_)
  · have hw := hw.1 c_1
    refine lv_aload_n hx hb dX0_append_10 rfl (lv_at hl 0 rfl) ?_
    refine lv_aload_n hx hb dX0_append_11 rfl (lv_at hl 0 rfl) ?_
    refine va_get (D := (dC, dI)) (ci := 0) (v := .int B.2.2) (C := RX0) (T := TX0) (N := 3) hx hb hT inX0 hown hK hP 0 rfl rfl 2 (by decide) (hT _ k_2) (fun _ h9 => h9) rfl dX0_append_12 ?_
    have hPc := hP
    refine vp_callSi (W.runV (As := [.int B.2.2]) (rest := []) ⟨hx, hb, hml, hown, hT⟩ (met_X0_placeOf l dC dI cI cZ cJ cL a0 a1 _  B B.2.2 hw) (cwV 1 hT (gV k_3 k_5 k_6 k_7 k_4) rfl rfl rfl (by decide +kernel) ⟨(Nat.le_of_ble_eq_true rfl), (Nat.le_of_ble_eq_true rfl)⟩) ⟨bl_R, va_recv hK hPc (ci := 0) (q0 := 0) rfl rfl, fun U hU hW => ⟨rfl, by rw [hU]; exact hPc, va_K.moved hW.alike hK⟩⟩ rfl rfl hl.1 rfl (lv_room (Nat.le_of_ble_eq_true rfl)) dX0_append_15 ⟨Nat.le_of_ble_eq_true rfl, Nat.le_of_ble_eq_true rfl⟩) (fun r_2 hw => ?_)
    try dsimp only at hw
    refine lv_istore_n (lv' := [(2, .int r_2), (0, .ref a0), (1, .int x1)]) hx hb dX0_append_18 rfl hl (by decide) rfl (fun ls hl => ?_)
    refine lv_iconst (v := 1) hx hb dX0_append_19 (by decide) ?_
    refine lv_iload_n hx hb dX0_append_20 rfl (lv_at hl 0 rfl) ?_
    refine lv_bipush (v := 31) hx hb dX0_append_21 (by decide) ?_
    refine lv_iand hx hb dX0_append_23 ?_
    refine lv_ishl hx hb dX0_append_24 ?_
    refine lv_topi (fun x3_3 ex3_3 => ?_)
    have hw := hw x3_3 ex3_3
    refine lv_istore_n (lv' := [(3, .int x3_3), (2, .int r_2), (0, .ref a0), (1, .int x1)]) hx hb dX0_append_25 rfl hl (by decide) rfl (fun ls hl => ?_)
    refine lv_aload_n hx hb dX0_append_26 rfl (lv_at hl 2 rfl) ?_
    refine va_get (D := (dC, dI)) (ci := 0) (v := .ref a1) (C := RX0) (T := TX0) (N := 3) hx hb hT inX0 hown hK hP 0 rfl rfl 0 (by decide) (hT _ k_8) (fun _ h9 => h9) rfl dX0_append_27 ?_
    refine lv_iload_n hx hb dX0_append_30 rfl (lv_at hl 1 rfl) ?_
    refine lv_iconst (v := 5) hx hb dX0_append_31 (by decide) ?_
    refine lv_ishr hx hb dX0_append_32 ?_
    refine lv_iload_n hx hb dX0_append_33 rfl (lv_at hl 3 rfl) ?_
    refine lv_iconst (v := 1) hx hb dX0_append_34 (by decide) ?_
    refine lv_icmp_ne (tgt := 51) hx hb dX0_append_35 (by decide) (fun c_4 => ?_) (fun c_4 => ?_)
    · have hw := hw.2 c_4
      refine lv_aload_n hx hb dX0_append_51 rfl (lv_at hl 2 rfl) ?_
      refine va_get (D := (dC, dI)) (ci := 0) (v := .ref a1) (C := RX0) (T := TX0) (N := 3) hx hb hT inX0 hown hK hP 0 rfl rfl 0 (by decide) (hT _ k_8) (fun _ h9 => h9) rfl dX0_append_52 ?_
      refine lv_iload_n hx hb dX0_append_55 rfl (lv_at hl 1 rfl) ?_
      refine lv_iconst (v := 5) hx hb dX0_append_56 (by decide) ?_
      refine lv_ishr hx hb dX0_append_57 ?_
      obtain ⟨h_5, hw⟩ := hw
      refine va_iald hx hb hK hP 1 0 rfl rfl h_5 dX0_append_58 ?_
      refine lv_iload_n hx hb dX0_append_59 rfl (lv_at hl 0 rfl) ?_
      refine lv_iconst (v := (-1)) hx hb dX0_append_60 (by decide) ?_
      refine lv_ixor hx hb dX0_append_61 ?_
      refine lv_iand hx hb dX0_append_62 ?_
      obtain ⟨h_6, hw⟩ := hw
      refine va_iast hx hb hK hP hD hS 1 0 rfl rfl h_6 dX0_append_63 (fun H locs hP hD hS => ?_)
      have hP : va_P (dC, dI) vwCl (wBR cI a0 a1 ((upd B.1 ((r_2 >>> ((5 : Int32) &&& 31)).toNatClampNeg) ((B.1 (r_2 >>> ((5 : Int32) &&& 31)).toNatClampNeg) &&& (x3_3 ^^^ (-1)))), B.2.1, B.2.2)) H := hP
      have hD : va_D A (wBR cI a0 a1 ((upd B.1 ((r_2 >>> ((5 : Int32) &&& 31)).toNatClampNeg) ((B.1 (r_2 >>> ((5 : Int32) &&& 31)).toNatClampNeg) &&& (x3_3 ^^^ (-1)))), B.2.1, B.2.2)) := hD
      refine lv_aload_n hx hb dX0_append_64 rfl (lv_at hl 2 rfl) ?_
      refine lv_dup hx hb dX0_append_65 rfl ?_
      refine va_get (D := (dC, dI)) (ci := 0) (v := .int B.2.2) (C := RX0) (T := TX0) (N := 3) hx hb hT inX0 hown hK hP 0 rfl rfl 2 (by decide) (hT _ k_2) (fun _ h9 => h9) rfl dX0_append_66 ?_
      refine lv_iconst (v := 1) hx hb dX0_append_69 (by decide) ?_
      refine lv_iadd hx hb dX0_append_70 ?_
      refine lv_topi (fun f_7 ef_7 => ?_)
      have hw := hw f_7 ef_7
      refine va_put (D := (dC, dI)) (ci := 0) (v := .int f_7) (ty := .int) (C := RX0) (T := TX0) (N := 3) hx hb hT inX0 tyX0 tyX0_ok nmX0 hown hK hP hD hS 0 rfl rfl 2 (by decide) (hT _ k_2) (fun _ h9 => h9) rfl (by decide +kernel) rfl rfl (Nat.le_of_ble_eq_true rfl) dX0_append_71 (fun H locs hP hD hS => ?_)
      have hP : va_P (dC, dI) vwCl (wBR cI a0 a1 ((upd B.1 ((r_2 >>> ((5 : Int32) &&& 31)).toNatClampNeg) ((B.1 (r_2 >>> ((5 : Int32) &&& 31)).toNatClampNeg) &&& (x3_3 ^^^ (-1)))), B.2.1, f_7)) H := hP
      have hD : va_D A (wBR cI a0 a1 ((upd B.1 ((r_2 >>> ((5 : Int32) &&& 31)).toNatClampNeg) ((B.1 (r_2 >>> ((5 : Int32) &&& 31)).toNatClampNeg) &&& (x3_3 ^^^ (-1)))), B.2.1, f_7)) := hD
      exact W.vret hx hb hr (fun t ht hW => ⟨⟨((upd B.1 ((r_2 >>> ((5 : Int32) &&& 31)).toNatClampNeg) ((B.1 (r_2 >>> ((5 : Int32) &&& 31)).toNatClampNeg) &&& (x3_3 ^^^ (-1)))), B.2.1, f_7), rfl, hw, by rw [ht]; exact hP, va_K.moved hW.alike hK, hD⟩, hS.F ht⟩) hS.2.2 dX0_append_74
    · have hw := hw.1 c_4
      refine lv_aload_n hx hb dX0_append_38 rfl (lv_at hl 2 rfl) ?_
      refine va_get (D := (dC, dI)) (ci := 0) (v := .ref a1) (C := RX0) (T := TX0) (N := 3) hx hb hT inX0 hown hK hP 0 rfl rfl 0 (by decide) (hT _ k_8) (fun _ h9 => h9) rfl dX0_append_39 ?_
      refine lv_iload_n hx hb dX0_append_42 rfl (lv_at hl 1 rfl) ?_
      refine lv_iconst (v := 5) hx hb dX0_append_43 (by decide) ?_
      refine lv_ishr hx hb dX0_append_44 ?_
      obtain ⟨h_8, hw⟩ := hw
      refine va_iald hx hb hK hP 1 0 rfl rfl h_8 dX0_append_45 ?_
      refine lv_iload_n hx hb dX0_append_46 rfl (lv_at hl 0 rfl) ?_
      refine lv_ior hx hb dX0_append_47 ?_
      refine lv_goto (tgt := 63) hx hb dX0_append_48 (by decide) ?_
      obtain ⟨h_9, hw⟩ := hw
      refine va_iast hx hb hK hP hD hS 1 0 rfl rfl h_9 dX0_append_63 (fun H locs hP hD hS => ?_)
      have hP : va_P (dC, dI) vwCl (wBR cI a0 a1 ((upd B.1 ((r_2 >>> ((5 : Int32) &&& 31)).toNatClampNeg) ((B.1 (r_2 >>> ((5 : Int32) &&& 31)).toNatClampNeg) ||| x3_3)), B.2.1, B.2.2)) H := hP
      have hD : va_D A (wBR cI a0 a1 ((upd B.1 ((r_2 >>> ((5 : Int32) &&& 31)).toNatClampNeg) ((B.1 (r_2 >>> ((5 : Int32) &&& 31)).toNatClampNeg) ||| x3_3)), B.2.1, B.2.2)) := hD
      refine lv_aload_n hx hb dX0_append_64 rfl (lv_at hl 2 rfl) ?_
      refine lv_dup hx hb dX0_append_65 rfl ?_
      refine va_get (D := (dC, dI)) (ci := 0) (v := .int B.2.2) (C := RX0) (T := TX0) (N := 3) hx hb hT inX0 hown hK hP 0 rfl rfl 2 (by decide) (hT _ k_2) (fun _ h9 => h9) rfl dX0_append_66 ?_
      refine lv_iconst (v := 1) hx hb dX0_append_69 (by decide) ?_
      refine lv_iadd hx hb dX0_append_70 ?_
      refine lv_topi (fun f_10 ef_10 => ?_)
      have hw := hw f_10 ef_10
      refine va_put (D := (dC, dI)) (ci := 0) (v := .int f_10) (ty := .int) (C := RX0) (T := TX0) (N := 3) hx hb hT inX0 tyX0 tyX0_ok nmX0 hown hK hP hD hS 0 rfl rfl 2 (by decide) (hT _ k_2) (fun _ h9 => h9) rfl (by decide +kernel) rfl rfl (Nat.le_of_ble_eq_true rfl) dX0_append_71 (fun H locs hP hD hS => ?_)
      have hP : va_P (dC, dI) vwCl (wBR cI a0 a1 ((upd B.1 ((r_2 >>> ((5 : Int32) &&& 31)).toNatClampNeg) ((B.1 (r_2 >>> ((5 : Int32) &&& 31)).toNatClampNeg) ||| x3_3)), B.2.1, f_10)) H := hP
      have hD : va_D A (wBR cI a0 a1 ((upd B.1 ((r_2 >>> ((5 : Int32) &&& 31)).toNatClampNeg) ((B.1 (r_2 >>> ((5 : Int32) &&& 31)).toNatClampNeg) ||| x3_3)), B.2.1, f_10)) := hD
      exact W.vret hx hb hr (fun t ht hW => ⟨⟨((upd B.1 ((r_2 >>> ((5 : Int32) &&& 31)).toNatClampNeg) ((B.1 (r_2 >>> ((5 : Int32) &&& 31)).toNatClampNeg) ||| x3_3)), B.2.1, f_10), rfl, hw, by rw [ht]; exact hP, va_K.moved hW.alike hK, hD⟩, hS.F ht⟩) hS.2.2 dX0_append_74
  · have hw := hw.2 c_1
    exact W.vret hx hb hr (fun t ht hW => ⟨⟨B, rfl, hw, by rw [ht]; exact hP, va_K.moved hW.alike hK, hD⟩, hS.F ht⟩) hS.2.2 dX0_append_9
def wp_X0_drop (post : vBR → Prop)  (B : vBR) (x1 : Int32) : Prop := wp_X0_placeOf (fun r_1 => ∀ f_2 : Int32, f_2 = B.2.2 - x1 → (post (B.1, r_1, f_2)))  B x1
abbrev rm_X0_drop : Room := { frames := 1, cells := 0, slots := 0, locals := 22 }
set_option maxHeartbeats 4000000 in
set_option maxRecDepth 100000 in
theorem met_X0_drop (l : Launch) (dC : Nat → ClassId) (dI : Nat → Nat → Nat) (cI cZ cJ cL : ClassId) (a0 a1 : Nat) (sz : Nat) (post : vBR → Prop)  (B : vBR) (x1 : Int32) (hw : wp_X0_drop post  B x1) : Met l yX0_drop wsX0_drop rm_X0_drop (pcW (dC, dI) (tysA cI cZ cJ cL) (wBR cI a0 a1 B) sz [.ref a0, .int x1]) (va_Qv post (fun u t => qB (dC, dI) (tysA cI cZ cJ cL) (va_A (wBR cI a0 a1 B) sz) (wBR cI a0 a1 u) t) (va_A (wBR cI a0 a1 B) sz)) 0 0 (va_A (wBR cI a0 a1 B) sz) := by
  refine Met.ofW (cc := cX0_drop) (maxL := 2) (ret := none) (by decide) rfl ?_
  intro p e s m args below meth c s₁ Bd hml hv
  obtain ⟨hargs, hsz, hP, hK, hD0⟩ := hv
  have hx := Bd.exec
  have hb := Bd.bytes
  have hr := Bd.returns
  have hts := atoms_spec (ws := wsX0_drop) Bd.pre
  have hT : ∀ w ∈ WALL, w.before args s = true := fun w h => hts w (List.mem_cons_of_mem _ h)
  have hown : s.vm.findClass RX0 = some m.cls := findClass_of_methodNamed Bd.named
  have hlocks := Bd.notSynchronized
  subst hsz
  have hD := hD0.self (sz := s.heap.size)
  generalize hAe : va_A (wBR cI a0 a1 B) s.heap.size = A at hD ⊢
  have hA : ∀ q : Nat, s.heap.size ≤ q → A q := fun q h => by rw [← hAe]; exact Or.inr h
  have hS : va_S A s.heap s.heap [] := va_S.rf
  have hP : va_P (dC, dI) vwCl (wBR cI a0 a1 B) s.heap := hP
  have hl := lv_entry ([.ref a0, .int x1]) (n := 2) (Nat.le_of_ble_eq_true rfl)
  rw [show entryFrame m args 2 = F0 m 0 _ [] from by rw [hargs]; exact lg_entry_eq m ([.ref a0, .int x1]) 2]
  generalize (lg_sl ([.ref a0, .int x1]) ++ List.replicate (2 - (lg_sl ([.ref a0, .int x1])).length) Slot.unset).toArray = ls at hl ⊢
  have hl : lv_has ls 2 [(0, .ref a0), (1, .int x1)] := hl
  obtain ⟨H, hH⟩ : ∃ z : Heap, z = s.heap := ⟨_, rfl⟩
  obtain ⟨locs, hlocs⟩ : ∃ z : List Loc, z = [] := ⟨_, rfl⟩
  rw [show W p l e (headSpec wsX0_drop rm_X0_drop).room s m args below meth c s.heap [] 0 0 = W p l e (headSpec wsX0_drop rm_X0_drop).room s m args below meth c H locs 0 0 from by rw [hH, hlocs]]
  have hP : va_P (dC, dI) vwCl (wBR cI a0 a1 B) H := by rw [hH]; exact hP
  have hS : va_S A s.heap H locs := by rw [hH, hlocs]; exact hS
  unfold wp_X0_drop at hw
  refine lv_aload_n hx hb dX0_drop_0 rfl (lv_at hl 0 rfl) ?_
  refine lv_aload_n hx hb dX0_drop_1 rfl (lv_at hl 0 rfl) ?_
  refine lv_iload_n hx hb dX0_drop_2 rfl (lv_at hl 1 rfl) ?_
  have hPc := hP
  refine vp_callSi (W.runV (As := [.int x1]) (rest := [.ref a0]) ⟨hx, hb, hml, hown, hT⟩ (met_X0_placeOf l dC dI cI cZ cJ cL a0 a1 _  B x1 hw) (cwV 1 hT (gV k_3 k_5 k_6 k_7 k_4) rfl rfl rfl (by decide +kernel) ⟨(Nat.le_of_ble_eq_true rfl), (Nat.le_of_ble_eq_true rfl)⟩) ⟨bl_R, va_recv hK hPc (ci := 0) (q0 := 0) rfl rfl, fun U hU hW => ⟨rfl, by rw [hU]; exact hPc, va_K.moved hW.alike hK⟩⟩ rfl rfl hl.1 rfl (lv_room (Nat.le_of_ble_eq_true rfl)) dX0_drop_3 ⟨Nat.le_of_ble_eq_true rfl, Nat.le_of_ble_eq_true rfl⟩) (fun r_1 hw => ?_)
  try dsimp only at hw
  refine va_put (D := (dC, dI)) (ci := 0) (v := .int r_1) (ty := .int) (C := RX0) (T := TX0) (N := 3) hx hb hT inX0 tyX0 tyX0_ok nmX0 hown hK hP hD hS 0 rfl rfl 1 (by decide) (hT _ k_0) (fun _ h9 => h9) rfl (by decide +kernel) rfl rfl (Nat.le_of_ble_eq_true rfl) dX0_drop_6 (fun H locs hP hD hS => ?_)
  have hP : va_P (dC, dI) vwCl (wBR cI a0 a1 (B.1, r_1, B.2.2)) H := hP
  have hD : va_D A (wBR cI a0 a1 (B.1, r_1, B.2.2)) := hD
  refine lv_aload_n hx hb dX0_drop_9 rfl (lv_at hl 0 rfl) ?_
  refine lv_dup hx hb dX0_drop_10 rfl ?_
  refine va_get (D := (dC, dI)) (ci := 0) (v := .int B.2.2) (C := RX0) (T := TX0) (N := 3) hx hb hT inX0 hown hK hP 0 rfl rfl 2 (by decide) (hT _ k_2) (fun _ h9 => h9) rfl dX0_drop_11 ?_
  refine lv_iload_n hx hb dX0_drop_14 rfl (lv_at hl 1 rfl) ?_
  refine lv_isub hx hb dX0_drop_15 ?_
  refine lv_topi (fun f_2 ef_2 => ?_)
  have hw := hw f_2 ef_2
  refine va_put (D := (dC, dI)) (ci := 0) (v := .int f_2) (ty := .int) (C := RX0) (T := TX0) (N := 3) hx hb hT inX0 tyX0 tyX0_ok nmX0 hown hK hP hD hS 0 rfl rfl 2 (by decide) (hT _ k_2) (fun _ h9 => h9) rfl (by decide +kernel) rfl rfl (Nat.le_of_ble_eq_true rfl) dX0_drop_16 (fun H locs hP hD hS => ?_)
  have hP : va_P (dC, dI) vwCl (wBR cI a0 a1 (B.1, r_1, f_2)) H := hP
  have hD : va_D A (wBR cI a0 a1 (B.1, r_1, f_2)) := hD
  exact W.vret hx hb hr (fun t ht hW => ⟨⟨(B.1, r_1, f_2), rfl, hw, by rw [ht]; exact hP, va_K.moved hW.alike hK, hD⟩, hS.F ht⟩) hS.2.2 dX0_drop_19
