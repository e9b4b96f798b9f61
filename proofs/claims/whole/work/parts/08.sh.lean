theorem k_12 : (Cond.fieldLink RX1 35 "TagTrees$Shape" "levels" "I") ∈ WALL := List.mem_filter.mpr ⟨List.mem_append_right _ (List.mem_of_getElem? (i := 53) (by decide +kernel)), by decide +kernel⟩
theorem k_13 : (Cond.fieldLink RX1 9 "TagTrees$Shape" "across" "[I") ∈ WALL := List.mem_filter.mpr ⟨List.mem_append_right _ (List.mem_of_getElem? (i := 57) (by decide +kernel)), by decide +kernel⟩
theorem k_14 : (Cond.fieldLink RX1 15 "TagTrees$Shape" "down" "[I") ∈ WALL := List.mem_filter.mpr ⟨List.mem_append_right _ (List.mem_of_getElem? (i := 59) (by decide +kernel)), by decide +kernel⟩
theorem k_15 : (Cond.fieldLink RX1 18 "TagTrees$Shape" "firstNode" "[I") ∈ WALL := List.mem_filter.mpr ⟨List.mem_append_right _ (List.mem_of_getElem? (i := 61) (by decide +kernel)), by decide +kernel⟩
theorem k_16 : (Cond.fieldLink RX1 43 "TagTrees$Shape" "places" "[[I") ∈ WALL := List.mem_filter.mpr ⟨List.mem_append_right _ (List.mem_of_getElem? (i := 62) (by decide +kernel)), by decide +kernel⟩
theorem dX1_halved_0 : decode cX1_halved 0 = .ok (.iload_n 0, 1) := by decide +kernel
theorem dX1_halved_1 : decode cX1_halved 1 = .ok (.iconst 1, 1) := by decide +kernel
theorem dX1_halved_2 : decode cX1_halved 2 = .ok (.iload_n 1, 1) := by decide +kernel
theorem dX1_halved_3 : decode cX1_halved 3 = .ok (.ishl, 1) := by decide +kernel
theorem dX1_halved_4 : decode cX1_halved 4 = .ok (.iadd, 1) := by decide +kernel
theorem dX1_halved_5 : decode cX1_halved 5 = .ok (.iconst 1, 1) := by decide +kernel
theorem dX1_halved_6 : decode cX1_halved 6 = .ok (.isub, 1) := by decide +kernel
theorem dX1_halved_7 : decode cX1_halved 7 = .ok (.iload_n 1, 1) := by decide +kernel
theorem dX1_halved_8 : decode cX1_halved 8 = .ok (.ishr, 1) := by decide +kernel
theorem dX1_halved_9 : decode cX1_halved 9 = .ok (.ireturn, 1) := by decide +kernel
theorem dX1_everySecondBit_0 : decode cX1_everySecondBit 0 = .ok (.iconst 0, 1) := by decide +kernel
theorem dX1_everySecondBit_1 : decode cX1_everySecondBit 1 = .ok (.istore_n 1, 1) := by decide +kernel
theorem dX1_everySecondBit_2 : decode cX1_everySecondBit 2 = .ok (.iconst 0, 1) := by decide +kernel
theorem dX1_everySecondBit_3 : decode cX1_everySecondBit 3 = .ok (.istore_n 2, 1) := by decide +kernel
theorem dX1_everySecondBit_4 : decode cX1_everySecondBit 4 = .ok (.iload_n 2, 1) := by decide +kernel
theorem dX1_everySecondBit_5 : decode cX1_everySecondBit 5 = .ok (.bipush 6, 2) := by decide +kernel
theorem dX1_everySecondBit_7 : decode cX1_everySecondBit 7 = .ok (.if_icmp .ge 21, 3) := by decide +kernel
theorem dX1_everySecondBit_10 : decode cX1_everySecondBit 10 = .ok (.iload_n 1, 1) := by decide +kernel
theorem dX1_everySecondBit_11 : decode cX1_everySecondBit 11 = .ok (.iload_n 0, 1) := by decide +kernel
theorem dX1_everySecondBit_12 : decode cX1_everySecondBit 12 = .ok (.iconst 2, 1) := by decide +kernel
theorem dX1_everySecondBit_13 : decode cX1_everySecondBit 13 = .ok (.iload_n 2, 1) := by decide +kernel
theorem dX1_everySecondBit_14 : decode cX1_everySecondBit 14 = .ok (.imul, 1) := by decide +kernel
theorem dX1_everySecondBit_15 : decode cX1_everySecondBit 15 = .ok (.ishr, 1) := by decide +kernel
theorem dX1_everySecondBit_16 : decode cX1_everySecondBit 16 = .ok (.iconst 1, 1) := by decide +kernel
theorem dX1_everySecondBit_17 : decode cX1_everySecondBit 17 = .ok (.iand, 1) := by decide +kernel
theorem dX1_everySecondBit_18 : decode cX1_everySecondBit 18 = .ok (.iload_n 2, 1) := by decide +kernel
theorem dX1_everySecondBit_19 : decode cX1_everySecondBit 19 = .ok (.ishl, 1) := by decide +kernel
theorem dX1_everySecondBit_20 : decode cX1_everySecondBit 20 = .ok (.ior, 1) := by decide +kernel
theorem dX1_everySecondBit_21 : decode cX1_everySecondBit 21 = .ok (.istore_n 1, 1) := by decide +kernel
theorem dX1_everySecondBit_22 : decode cX1_everySecondBit 22 = .ok (.iinc 2 1, 3) := by decide +kernel
theorem dX1_everySecondBit_25 : decode cX1_everySecondBit 25 = .ok (.goto (-21), 3) := by decide +kernel
theorem dX1_everySecondBit_28 : decode cX1_everySecondBit 28 = .ok (.iload_n 1, 1) := by decide +kernel
theorem dX1_everySecondBit_29 : decode cX1_everySecondBit 29 = .ok (.ireturn, 1) := by decide +kernel
theorem dX1_hasNode_0 : decode cX1_hasNode 0 = .ok (.iload_n 1, 1) := by decide +kernel
theorem dX1_hasNode_1 : decode cX1_hasNode 1 = .ok (.ifCond .lt 43, 3) := by decide +kernel
theorem dX1_hasNode_4 : decode cX1_hasNode 4 = .ok (.iload_n 1, 1) := by decide +kernel
theorem dX1_hasNode_5 : decode cX1_hasNode 5 = .ok (.aload_n 0, 1) := by decide +kernel
theorem dX1_hasNode_6 : decode cX1_hasNode 6 = .ok (.getfield 35, 3) := by decide +kernel
theorem dX1_hasNode_9 : decode cX1_hasNode 9 = .ok (.if_icmp .ge 35, 3) := by decide +kernel
theorem dX1_hasNode_12 : decode cX1_hasNode 12 = .ok (.iload_n 2, 1) := by decide +kernel
theorem dX1_hasNode_13 : decode cX1_hasNode 13 = .ok (.ifCond .lt 31, 3) := by decide +kernel
theorem dX1_hasNode_16 : decode cX1_hasNode 16 = .ok (.iload_n 2, 1) := by decide +kernel
theorem dX1_hasNode_17 : decode cX1_hasNode 17 = .ok (.aload_n 0, 1) := by decide +kernel
theorem dX1_hasNode_18 : decode cX1_hasNode 18 = .ok (.getfield 9, 3) := by decide +kernel
theorem dX1_hasNode_21 : decode cX1_hasNode 21 = .ok (.iload_n 1, 1) := by decide +kernel
theorem dX1_hasNode_22 : decode cX1_hasNode 22 = .ok (.iaload, 1) := by decide +kernel
theorem dX1_hasNode_23 : decode cX1_hasNode 23 = .ok (.if_icmp .ge 21, 3) := by decide +kernel
theorem dX1_hasNode_26 : decode cX1_hasNode 26 = .ok (.iload_n 3, 1) := by decide +kernel
theorem dX1_hasNode_27 : decode cX1_hasNode 27 = .ok (.ifCond .lt 17, 3) := by decide +kernel
theorem dX1_hasNode_30 : decode cX1_hasNode 30 = .ok (.iload_n 3, 1) := by decide +kernel
theorem dX1_hasNode_31 : decode cX1_hasNode 31 = .ok (.aload_n 0, 1) := by decide +kernel
theorem dX1_hasNode_32 : decode cX1_hasNode 32 = .ok (.getfield 15, 3) := by decide +kernel
theorem dX1_hasNode_35 : decode cX1_hasNode 35 = .ok (.iload_n 1, 1) := by decide +kernel
theorem dX1_hasNode_36 : decode cX1_hasNode 36 = .ok (.iaload, 1) := by decide +kernel
theorem dX1_hasNode_37 : decode cX1_hasNode 37 = .ok (.if_icmp .ge 7, 3) := by decide +kernel
theorem dX1_hasNode_40 : decode cX1_hasNode 40 = .ok (.iconst 1, 1) := by decide +kernel
theorem dX1_hasNode_41 : decode cX1_hasNode 41 = .ok (.goto 4, 3) := by decide +kernel
theorem dX1_hasNode_44 : decode cX1_hasNode 44 = .ok (.iconst 0, 1) := by decide +kernel
theorem dX1_hasNode_45 : decode cX1_hasNode 45 = .ok (.ireturn, 1) := by decide +kernel
theorem dX1_nodeAt_0 : decode cX1_nodeAt 0 = .ok (.aload_n 0, 1) := by decide +kernel
theorem dX1_nodeAt_1 : decode cX1_nodeAt 1 = .ok (.getfield 18, 3) := by decide +kernel
theorem dX1_nodeAt_4 : decode cX1_nodeAt 4 = .ok (.iload_n 1, 1) := by decide +kernel
theorem dX1_nodeAt_5 : decode cX1_nodeAt 5 = .ok (.iaload, 1) := by decide +kernel
theorem dX1_nodeAt_6 : decode cX1_nodeAt 6 = .ok (.iload_n 3, 1) := by decide +kernel
theorem dX1_nodeAt_7 : decode cX1_nodeAt 7 = .ok (.aload_n 0, 1) := by decide +kernel
theorem dX1_nodeAt_8 : decode cX1_nodeAt 8 = .ok (.getfield 9, 3) := by decide +kernel
theorem dX1_nodeAt_11 : decode cX1_nodeAt 11 = .ok (.iload_n 1, 1) := by decide +kernel
theorem dX1_nodeAt_12 : decode cX1_nodeAt 12 = .ok (.iaload, 1) := by decide +kernel
theorem dX1_nodeAt_13 : decode cX1_nodeAt 13 = .ok (.imul, 1) := by decide +kernel
theorem dX1_nodeAt_14 : decode cX1_nodeAt 14 = .ok (.iadd, 1) := by decide +kernel
theorem dX1_nodeAt_15 : decode cX1_nodeAt 15 = .ok (.iload_n 2, 1) := by decide +kernel
theorem dX1_nodeAt_16 : decode cX1_nodeAt 16 = .ok (.iadd, 1) := by decide +kernel
theorem dX1_nodeAt_17 : decode cX1_nodeAt 17 = .ok (.ireturn, 1) := by decide +kernel
theorem dX1_leafX_0 : decode cX1_leafX 0 = .ok (.aload_n 0, 1) := by decide +kernel
theorem dX1_leafX_1 : decode cX1_leafX 1 = .ok (.getfield 43, 3) := by decide +kernel
theorem dX1_leafX_4 : decode cX1_leafX 4 = .ok (.iload_n 1, 1) := by decide +kernel
theorem dX1_leafX_5 : decode cX1_leafX 5 = .ok (.aaload, 1) := by decide +kernel
theorem dX1_leafX_6 : decode cX1_leafX 6 = .ok (.iload_n 2, 1) := by decide +kernel
theorem dX1_leafX_7 : decode cX1_leafX 7 = .ok (.iaload, 1) := by decide +kernel
theorem dX1_leafX_8 : decode cX1_leafX 8 = .ok (.bipush 31, 2) := by decide +kernel
theorem dX1_leafX_10 : decode cX1_leafX 10 = .ok (.iand, 1) := by decide +kernel
theorem dX1_leafX_11 : decode cX1_leafX 11 = .ok (.ireturn, 1) := by decide +kernel
theorem dX1_leafY_0 : decode cX1_leafY 0 = .ok (.aload_n 0, 1) := by decide +kernel
theorem dX1_leafY_1 : decode cX1_leafY 1 = .ok (.getfield 43, 3) := by decide +kernel
theorem dX1_leafY_4 : decode cX1_leafY 4 = .ok (.iload_n 1, 1) := by decide +kernel
theorem dX1_leafY_5 : decode cX1_leafY 5 = .ok (.aaload, 1) := by decide +kernel
theorem dX1_leafY_6 : decode cX1_leafY 6 = .ok (.iload_n 2, 1) := by decide +kernel
theorem dX1_leafY_7 : decode cX1_leafY 7 = .ok (.iaload, 1) := by decide +kernel
theorem dX1_leafY_8 : decode cX1_leafY 8 = .ok (.bipush 32, 2) := by decide +kernel
theorem dX1_leafY_10 : decode cX1_leafY 10 = .ok (.idiv, 1) := by decide +kernel
theorem dX1_leafY_11 : decode cX1_leafY 11 = .ok (.ireturn, 1) := by decide +kernel
def wp_X1_halved (post : Int32 → Prop)   (x0 : Int32) (x1 : Int32) : Prop := post (((x0 + ((1 : Int32) <<< (x1 &&& 31))) - 1) >>> (x1 &&& 31))
abbrev rm_X1_halved : Room := { frames := 0, cells := 0, slots := 0, locals := 0 }
set_option maxHeartbeats 4000000 in
set_option maxRecDepth 100000 in
theorem met_X1_halved (l : Launch) (dC : Nat → ClassId) (dI : Nat → Nat → Nat) (cI cZ cJ cL : ClassId)  (post : Int32 → Prop)   (x0 : Int32) (x1 : Int32) (hw : wp_X1_halved post   x0 x1) : Met l yX1_halved wsX1_halved rm_X1_halved (pcR (dC, dI) (tysA cI cZ cJ cL) [] [.int x0, .int x1]) (vp_Si post) 0 0 (fun _ => False) := by
  refine Met.ofW (cc := cX1_halved) (maxL := 2) (ret := (some .int)) (by decide) rfl ?_
  intro p e s m args below meth c s₁ Bd hml hv
  obtain ⟨hargs, hP, hK⟩ := hv
  have hx := Bd.exec
  have hb := Bd.bytes
  have hr := Bd.returns
  have hts := atoms_spec (ws := wsX1_halved) Bd.pre
  have hT : ∀ w ∈ WALL, w.before args s = true := fun w h => hts w (List.mem_cons_of_mem _ h)
  have hown : s.vm.findClass RX1 = some m.cls := findClass_of_methodNamed Bd.named
  have hlocks := Bd.notSynchronized
  have hP : va_P (dC, dI) vwCl [] s.heap := hP
  have hl := lv_entry ([.int x0, .int x1]) (n := 2) (Nat.le_of_ble_eq_true rfl)
  rw [show entryFrame m args 2 = F0 m 0 _ [] from by rw [hargs]; exact lg_entry_eq m ([.int x0, .int x1]) 2]
  generalize (lg_sl ([.int x0, .int x1]) ++ List.replicate (2 - (lg_sl ([.int x0, .int x1])).length) Slot.unset).toArray = ls at hl ⊢
  have hl : lv_has ls 2 [(0, .int x0), (1, .int x1)] := hl
  generalize hH : s.heap = H at hP ⊢
  unfold wp_X1_halved at hw
  refine lv_iload_n hx hb dX1_halved_0 rfl (lv_at hl 0 rfl) ?_
  refine lv_iconst (v := 1) hx hb dX1_halved_1 (by decide) ?_
  refine lv_iload_n hx hb dX1_halved_2 rfl (lv_at hl 1 rfl) ?_
  refine lv_ishl hx hb dX1_halved_3 ?_
  refine lv_iadd hx hb dX1_halved_4 ?_
  refine lv_iconst (v := 1) hx hb dX1_halved_5 (by decide) ?_
  refine lv_isub hx hb dX1_halved_6 ?_
  refine lv_iload_n hx hb dX1_halved_7 rfl (lv_at hl 1 rfl) ?_
  refine lv_ishr hx hb dX1_halved_8 ?_
  exact W.iret (v := (((x0 + ((1 : Int32) <<< (x1 &&& 31))) - 1) >>> (x1 &&& 31))) hx hb hr (fun t ht hW => ⟨(((x0 + ((1 : Int32) <<< (x1 &&& 31))) - 1) >>> (x1 &&& 31)), rfl, hw, ht.trans hH.symm⟩) (fun q h => by cases h) dX1_halved_9
def wp_X1_everySecondBit_L4 (post : Int32 → Prop) (ex4 : Int32 → Int32 → Prop) (x0 : Int32) : Nat → Int32 → Int32 → Prop
  | 0, _, _ => False
  | n_3 + 1, x2_1, x1_2 => ((6 ≤ x2_1 → (ex4 x2_1 x1_2)) ∧ (¬ 6 ≤ x2_1 → (∀ x1_5 : Int32, x1_5 = x1_2 ||| (((x0 >>> ((2 * x2_1) &&& 31)) &&& 1) <<< (x2_1 &&& 31)) → (∀ x2_6 : Int32, x2_6 = x2_1 + 1 → (wp_X1_everySecondBit_L4 post ex4 x0 n_3 x2_6 x1_5)))))
def wp_X1_everySecondBit (post : Int32 → Prop)   (x0 : Int32) : Prop := ∃ n_3 : Nat, wp_X1_everySecondBit_L4 post (fun (x2_1 : Int32) (x1_2 : Int32) => post x1_2) x0 n_3 0 0
abbrev rm_X1_everySecondBit : Room := { frames := 0, cells := 0, slots := 0, locals := 0 }
set_option maxHeartbeats 4000000 in
set_option maxRecDepth 100000 in
theorem met_X1_everySecondBit (l : Launch) (dC : Nat → ClassId) (dI : Nat → Nat → Nat) (cI cZ cJ cL : ClassId)  (post : Int32 → Prop)   (x0 : Int32) (hw : wp_X1_everySecondBit post   x0) : Met l yX1_everySecondBit wsX1_everySecondBit rm_X1_everySecondBit (pcR (dC, dI) (tysA cI cZ cJ cL) [] [.int x0]) (vp_Si post) 0 0 (fun _ => False) := by
  refine Met.ofW (cc := cX1_everySecondBit) (maxL := 3) (ret := (some .int)) (by decide) rfl ?_
  intro p e s m args below meth c s₁ Bd hml hv
  obtain ⟨hargs, hP, hK⟩ := hv
  have hx := Bd.exec
  have hb := Bd.bytes
  have hr := Bd.returns
  have hts := atoms_spec (ws := wsX1_everySecondBit) Bd.pre
  have hT : ∀ w ∈ WALL, w.before args s = true := fun w h => hts w (List.mem_cons_of_mem _ h)
  have hown : s.vm.findClass RX1 = some m.cls := findClass_of_methodNamed Bd.named
  have hlocks := Bd.notSynchronized
  have hP : va_P (dC, dI) vwCl [] s.heap := hP
  have hl := lv_entry ([.int x0]) (n := 3) (Nat.le_of_ble_eq_true rfl)
  rw [show entryFrame m args 3 = F0 m 0 _ [] from by rw [hargs]; exact lg_entry_eq m ([.int x0]) 3]
  generalize (lg_sl ([.int x0]) ++ List.replicate (3 - (lg_sl ([.int x0])).length) Slot.unset).toArray = ls at hl ⊢
  have hl : lv_has ls 3 [(0, .int x0)] := hl
  generalize hH : s.heap = H at hP ⊢
  unfold wp_X1_everySecondBit at hw
  refine lv_iconst (v := 0) hx hb dX1_everySecondBit_0 (by decide) ?_
  refine lv_istore_n (lv' := [(1, .int 0), (0, .int x0)]) hx hb dX1_everySecondBit_1 rfl hl (by decide) rfl (fun ls hl => ?_)
  refine lv_iconst (v := 0) hx hb dX1_everySecondBit_2 (by decide) ?_
  refine lv_istore_n (lv' := [(2, .int 0), (1, .int 0), (0, .int x0)]) hx hb dX1_everySecondBit_3 rfl hl (by decide) rfl (fun ls hl => ?_)
  obtain ⟨n_3, hw⟩ := hw
  obtain ⟨ex4, eex4⟩ : ∃ z : Int32 → Int32 → Prop, z = (fun (x2_1 : Int32) (x1_2 : Int32) => post x1_2) := ⟨_, rfl⟩
  rw [← eex4] at hw
  have hx4 : ∀ (x2_1 : Int32) (x1_2 : Int32), ex4 x2_1 x1_2 → ∀ (ls : Array Slot), lv_has ls 3 [(2, .int x2_1), (1, .int x1_2), (0, .int x0)] → W p l e (headSpec wsX1_everySecondBit rm_X1_everySecondBit).room s m args below meth c H [] 0 0 (MQ below (vp_Si post) args s 0 0 (fun _ => False)) (F0 m 28 ls []) := by
    intro x2_1 x1_2 hw ls hl
    rw [eex4] at hw
    try dsimp only at hw
    refine lv_iload_n hx hb dX1_everySecondBit_28 rfl (lv_at hl 1 rfl) ?_
    exact W.iret (v := x1_2) hx hb hr (fun t ht hW => ⟨x1_2, rfl, hw, ht.trans hH.symm⟩) (fun q h => by cases h) dX1_everySecondBit_29
  have hlp4 : ∀ (n_3 : Nat) (x2_1 : Int32) (x1_2 : Int32), wp_X1_everySecondBit_L4 post ex4 x0 n_3 x2_1 x1_2 → ∀ (ls : Array Slot), lv_has ls 3 [(2, .int x2_1), (1, .int x1_2), (0, .int x0)] → W p l e (headSpec wsX1_everySecondBit rm_X1_everySecondBit).room s m args below meth c H [] 0 0 (MQ below (vp_Si post) args s 0 0 (fun _ => False)) (F0 m 4 ls []) := by
    intro n_3
    induction n_3 with
    | zero => intro _ _ hw; exact hw.elim
    | succ n_3 ih4 =>
      intro x2_1 x1_2 hw ls hl
      unfold wp_X1_everySecondBit_L4 at hw
      refine lv_iload_n hx hb dX1_everySecondBit_4 rfl (lv_at hl 0 rfl) ?_
      refine lv_bipush (v := 6) hx hb dX1_everySecondBit_5 (by decide) ?_
      refine lv_icmp_ge (tgt := 28) hx hb dX1_everySecondBit_7 (by decide) (fun c_4 => ?_) (fun c_4 => ?_)
      · have hw := hw.1 c_4
        exact hx4 x2_1 x1_2 hw _ (lv_sub hl [0, 1, 2] rfl)
      · have hw := hw.2 c_4
        refine lv_iload_n hx hb dX1_everySecondBit_10 rfl (lv_at hl 1 rfl) ?_
        refine lv_iload_n hx hb dX1_everySecondBit_11 rfl (lv_at hl 2 rfl) ?_
        refine lv_iconst (v := 2) hx hb dX1_everySecondBit_12 (by decide) ?_
        refine lv_iload_n hx hb dX1_everySecondBit_13 rfl (lv_at hl 0 rfl) ?_
        refine lv_imul hx hb dX1_everySecondBit_14 ?_
        refine lv_ishr hx hb dX1_everySecondBit_15 ?_
        refine lv_iconst (v := 1) hx hb dX1_everySecondBit_16 (by decide) ?_
        refine lv_iand hx hb dX1_everySecondBit_17 ?_
        refine lv_iload_n hx hb dX1_everySecondBit_18 rfl (lv_at hl 0 rfl) ?_
        refine lv_ishl hx hb dX1_everySecondBit_19 ?_
        refine lv_ior hx hb dX1_everySecondBit_20 ?_
        refine lv_topi (fun x1_5 ex1_5 => ?_)
        have hw := hw x1_5 ex1_5
        refine lv_istore_n (lv' := [(1, .int x1_5), (2, .int x2_1), (0, .int x0)]) hx hb dX1_everySecondBit_21 rfl hl (by decide) rfl (fun ls hl => ?_)
        obtain ⟨x2_6, ex2_6⟩ : ∃ y : Int32, y = x2_1 + 1 := ⟨_, rfl⟩
        have hw := hw x2_6 ex2_6
        refine lv_iinc (v := x2_6) (lv' := [(2, .int x2_6), (1, .int x1_5), (0, .int x0)]) hx hb dX1_everySecondBit_22 hl (k := 1) rfl (by rw [ex2_6]; rfl) (by decide) rfl (fun ls hl => ?_)
        refine lv_goto (tgt := 4) hx hb dX1_everySecondBit_25 (by decide) ?_
        exact ih4 x2_6 x1_5 hw _ (lv_sub hl [0, 1, 2] rfl)
  exact hlp4 n_3 0 0 hw _ (lv_sub hl [0, 1, 2] rfl)
def wp_X1_hasNode (post : Int32 → Prop) (nl : Nat) (S : vSH)  (x1 : Int32) (x2 : Int32) (x3 : Int32) : Prop := ((x1 < 0 → (post 0)) ∧ (¬ x1 < 0 → (((S.1.2.2.2.1 ≤ x1 → (post 0)) ∧ (¬ S.1.2.2.2.1 ≤ x1 → (((x2 < 0 → (post 0)) ∧ (¬ x2 < 0 → (vp_in x1 6 ∧ ((((S.2.1.1 x1.toNatClampNeg) ≤ x2 → (post 0)) ∧ (¬ (S.2.1.1 x1.toNatClampNeg) ≤ x2 → (((x3 < 0 → (post 0)) ∧ (¬ x3 < 0 → (vp_in x1 6 ∧ ((((S.2.1.2.1 x1.toNatClampNeg) ≤ x3 → (post 0)) ∧ (¬ (S.2.1.2.1 x1.toNatClampNeg) ≤ x3 → (post 1))))))))))))))))))))
abbrev rm_X1_hasNode : Room := { frames := 0, cells := 0, slots := 0, locals := 0 }
set_option maxHeartbeats 4000000 in
set_option maxRecDepth 100000 in
theorem met_X1_hasNode (l : Launch) (dC : Nat → ClassId) (dI : Nat → Nat → Nat) (cI cZ cJ cL : ClassId) (a0 a1 a2 a3 a4 : Nat) (ra : Nat → Nat) (post : Int32 → Prop) (nl : Nat) (S : vSH)  (x1 : Int32) (x2 : Int32) (x3 : Int32) (hw : wp_X1_hasNode post nl S  x1 x2 x3) : Met l yX1_hasNode wsX1_hasNode rm_X1_hasNode (pcR (dC, dI) (tysA cI cZ cJ cL) (wSH cI cJ nl a0 a1 a2 a3 a4 ra S) [.ref a0, .int x1, .int x2, .int x3]) (vp_Si post) 0 0 (fun _ => False) := by
  refine Met.ofW (cc := cX1_hasNode) (maxL := 4) (ret := (some .boolean)) (by decide) rfl ?_
  intro p e s m args below meth c s₁ Bd hml hv
  obtain ⟨hargs, hP, hK⟩ := hv
  have hx := Bd.exec
  have hb := Bd.bytes
  have hr := Bd.returns
  have hts := atoms_spec (ws := wsX1_hasNode) Bd.pre
  have hT : ∀ w ∈ WALL, w.before args s = true := fun w h => hts w (List.mem_cons_of_mem _ h)
  have hown : s.vm.findClass RX1 = some m.cls := findClass_of_methodNamed Bd.named
  have hlocks := Bd.notSynchronized
  have hP : va_P (dC, dI) vwCl (wSH cI cJ nl a0 a1 a2 a3 a4 ra S) s.heap := hP
  have hl := lv_entry ([.ref a0, .int x1, .int x2, .int x3]) (n := 4) (Nat.le_of_ble_eq_true rfl)
  rw [show entryFrame m args 4 = F0 m 0 _ [] from by rw [hargs]; exact lg_entry_eq m ([.ref a0, .int x1, .int x2, .int x3]) 4]
  generalize (lg_sl ([.ref a0, .int x1, .int x2, .int x3]) ++ List.replicate (4 - (lg_sl ([.ref a0, .int x1, .int x2, .int x3])).length) Slot.unset).toArray = ls at hl ⊢
  have hl : lv_has ls 4 [(0, .ref a0), (1, .int x1), (2, .int x2), (3, .int x3)] := hl
  generalize hH : s.heap = H at hP ⊢
  unfold wp_X1_hasNode at hw
  refine lv_iload_n hx hb dX1_hasNode_0 rfl (lv_at hl 1 rfl) ?_
  refine lv_if_lt (tgt := 44) hx hb dX1_hasNode_1 (by decide) (fun c_1 => ?_) (fun c_1 => ?_)
  · have hw := hw.1 c_1
    refine lv_iconst (v := 0) hx hb dX1_hasNode_44 (by decide) ?_
    exact W.zret (v := 0) (ty := .boolean) hx hb hr rfl (fun t ht hW => ⟨0, rfl, hw, ht.trans hH.symm⟩) (fun q h => by cases h) dX1_hasNode_45
  · have hw := hw.2 c_1
    refine lv_iload_n hx hb dX1_hasNode_4 rfl (lv_at hl 1 rfl) ?_
    refine lv_aload_n hx hb dX1_hasNode_5 rfl (lv_at hl 0 rfl) ?_
    refine va_get (D := (dC, dI)) (ci := 1) (v := .int S.1.2.2.2.1) (C := RX1) (T := TX1) (N := 9) hx hb hT inX1 hown hK hP 0 rfl rfl 3 (by decide) (hT _ k_12) (fun _ h9 => h9) rfl dX1_hasNode_6 ?_
    refine lv_icmp_ge (tgt := 44) hx hb dX1_hasNode_9 (by decide) (fun c_2 => ?_) (fun c_2 => ?_)
    · have hw := hw.1 c_2
      refine lv_iconst (v := 0) hx hb dX1_hasNode_44 (by decide) ?_
      exact W.zret (v := 0) (ty := .boolean) hx hb hr rfl (fun t ht hW => ⟨0, rfl, hw, ht.trans hH.symm⟩) (fun q h => by cases h) dX1_hasNode_45
    · have hw := hw.2 c_2
      refine lv_iload_n hx hb dX1_hasNode_12 rfl (lv_at hl 2 rfl) ?_
      refine lv_if_lt (tgt := 44) hx hb dX1_hasNode_13 (by decide) (fun c_3 => ?_) (fun c_3 => ?_)
      · have hw := hw.1 c_3
        refine lv_iconst (v := 0) hx hb dX1_hasNode_44 (by decide) ?_
        exact W.zret (v := 0) (ty := .boolean) hx hb hr rfl (fun t ht hW => ⟨0, rfl, hw, ht.trans hH.symm⟩) (fun q h => by cases h) dX1_hasNode_45
      · have hw := hw.2 c_3
        refine lv_iload_n hx hb dX1_hasNode_16 rfl (lv_at hl 2 rfl) ?_
        refine lv_aload_n hx hb dX1_hasNode_17 rfl (lv_at hl 0 rfl) ?_
        refine va_get (D := (dC, dI)) (ci := 1) (v := .ref a1) (C := RX1) (T := TX1) (N := 9) hx hb hT inX1 hown hK hP 0 rfl rfl 5 (by decide) (hT _ k_13) (fun _ h9 => h9) rfl dX1_hasNode_18 ?_
        refine lv_iload_n hx hb dX1_hasNode_21 rfl (lv_at hl 1 rfl) ?_
        obtain ⟨h_4, hw⟩ := hw
        refine va_iald hx hb hK hP 1 0 rfl rfl h_4 dX1_hasNode_22 ?_
        refine lv_icmp_ge (tgt := 44) hx hb dX1_hasNode_23 (by decide) (fun c_5 => ?_) (fun c_5 => ?_)
        · have hw := hw.1 c_5
          refine lv_iconst (v := 0) hx hb dX1_hasNode_44 (by decide) ?_
          exact W.zret (v := 0) (ty := .boolean) hx hb hr rfl (fun t ht hW => ⟨0, rfl, hw, ht.trans hH.symm⟩) (fun q h => by cases h) dX1_hasNode_45
        · have hw := hw.2 c_5
          refine lv_iload_n hx hb dX1_hasNode_26 rfl (lv_at hl 3 rfl) ?_
          refine lv_if_lt (tgt := 44) hx hb dX1_hasNode_27 (by decide) (fun c_6 => ?_) (fun c_6 => ?_)
          · have hw := hw.1 c_6
            refine lv_iconst (v := 0) hx hb dX1_hasNode_44 (by decide) ?_
            exact W.zret (v := 0) (ty := .boolean) hx hb hr rfl (fun t ht hW => ⟨0, rfl, hw, ht.trans hH.symm⟩) (fun q h => by cases h) dX1_hasNode_45
          · have hw := hw.2 c_6
            refine lv_iload_n hx hb dX1_hasNode_30 rfl (lv_at hl 3 rfl) ?_
            refine lv_aload_n hx hb dX1_hasNode_31 rfl (lv_at hl 0 rfl) ?_
            refine va_get (D := (dC, dI)) (ci := 1) (v := .ref a2) (C := RX1) (T := TX1) (N := 9) hx hb hT inX1 hown hK hP 0 rfl rfl 6 (by decide) (hT _ k_14) (fun _ h9 => h9) rfl dX1_hasNode_32 ?_
            refine lv_iload_n hx hb dX1_hasNode_35 rfl (lv_at hl 1 rfl) ?_
            obtain ⟨h_7, hw⟩ := hw
            refine va_iald hx hb hK hP 2 0 rfl rfl h_7 dX1_hasNode_36 ?_
            refine lv_icmp_ge (tgt := 44) hx hb dX1_hasNode_37 (by decide) (fun c_8 => ?_) (fun c_8 => ?_)
            · have hw := hw.1 c_8
              refine lv_iconst (v := 0) hx hb dX1_hasNode_44 (by decide) ?_
              exact W.zret (v := 0) (ty := .boolean) hx hb hr rfl (fun t ht hW => ⟨0, rfl, hw, ht.trans hH.symm⟩) (fun q h => by cases h) dX1_hasNode_45
            · have hw := hw.2 c_8
              refine lv_iconst (v := 1) hx hb dX1_hasNode_40 (by decide) ?_
              refine lv_goto (tgt := 45) hx hb dX1_hasNode_41 (by decide) ?_
              exact W.zret (v := 1) (ty := .boolean) hx hb hr rfl (fun t ht hW => ⟨1, rfl, hw, ht.trans hH.symm⟩) (fun q h => by cases h) dX1_hasNode_45
def wp_X1_nodeAt (post : Int32 → Prop) (nl : Nat) (S : vSH)  (x1 : Int32) (x2 : Int32) (x3 : Int32) : Prop := vp_in x1 6 ∧ (vp_in x1 6 ∧ (post (((S.2.1.2.2 x1.toNatClampNeg) + (x3 * (S.2.1.1 x1.toNatClampNeg))) + x2)))
abbrev rm_X1_nodeAt : Room := { frames := 0, cells := 0, slots := 0, locals := 0 }
set_option maxHeartbeats 4000000 in
set_option maxRecDepth 100000 in
theorem met_X1_nodeAt (l : Launch) (dC : Nat → ClassId) (dI : Nat → Nat → Nat) (cI cZ cJ cL : ClassId) (a0 a1 a2 a3 a4 : Nat) (ra : Nat → Nat) (post : Int32 → Prop) (nl : Nat) (S : vSH)  (x1 : Int32) (x2 : Int32) (x3 : Int32) (hw : wp_X1_nodeAt post nl S  x1 x2 x3) : Met l yX1_nodeAt wsX1_nodeAt rm_X1_nodeAt (pcR (dC, dI) (tysA cI cZ cJ cL) (wSH cI cJ nl a0 a1 a2 a3 a4 ra S) [.ref a0, .int x1, .int x2, .int x3]) (vp_Si post) 0 0 (fun _ => False) := by
  refine Met.ofW (cc := cX1_nodeAt) (maxL := 4) (ret := (some .int)) (by decide) rfl ?_
  intro p e s m args below meth c s₁ Bd hml hv
  obtain ⟨hargs, hP, hK⟩ := hv
  have hx := Bd.exec
  have hb := Bd.bytes
  have hr := Bd.returns
  have hts := atoms_spec (ws := wsX1_nodeAt) Bd.pre
  have hT : ∀ w ∈ WALL, w.before args s = true := fun w h => hts w (List.mem_cons_of_mem _ h)
  have hown : s.vm.findClass RX1 = some m.cls := findClass_of_methodNamed Bd.named
  have hlocks := Bd.notSynchronized
  have hP : va_P (dC, dI) vwCl (wSH cI cJ nl a0 a1 a2 a3 a4 ra S) s.heap := hP
  have hl := lv_entry ([.ref a0, .int x1, .int x2, .int x3]) (n := 4) (Nat.le_of_ble_eq_true rfl)
  rw [show entryFrame m args 4 = F0 m 0 _ [] from by rw [hargs]; exact lg_entry_eq m ([.ref a0, .int x1, .int x2, .int x3]) 4]
  generalize (lg_sl ([.ref a0, .int x1, .int x2, .int x3]) ++ List.replicate (4 - (lg_sl ([.ref a0, .int x1, .int x2, .int x3])).length) Slot.unset).toArray = ls at hl ⊢
  have hl : lv_has ls 4 [(0, .ref a0), (1, .int x1), (2, .int x2), (3, .int x3)] := hl
  generalize hH : s.heap = H at hP ⊢
  unfold wp_X1_nodeAt at hw
  refine lv_aload_n hx hb dX1_nodeAt_0 rfl (lv_at hl 0 rfl) ?_
  refine va_get (D := (dC, dI)) (ci := 1) (v := .ref a3) (C := RX1) (T := TX1) (N := 9) hx hb hT inX1 hown hK hP 0 rfl rfl 7 (by decide) (hT _ k_15) (fun _ h9 => h9) rfl dX1_nodeAt_1 ?_
  refine lv_iload_n hx hb dX1_nodeAt_4 rfl (lv_at hl 1 rfl) ?_
  obtain ⟨h_1, hw⟩ := hw
  refine va_iald hx hb hK hP 3 0 rfl rfl h_1 dX1_nodeAt_5 ?_
  refine lv_iload_n hx hb dX1_nodeAt_6 rfl (lv_at hl 3 rfl) ?_
  refine lv_aload_n hx hb dX1_nodeAt_7 rfl (lv_at hl 0 rfl) ?_
  refine va_get (D := (dC, dI)) (ci := 1) (v := .ref a1) (C := RX1) (T := TX1) (N := 9) hx hb hT inX1 hown hK hP 0 rfl rfl 5 (by decide) (hT _ k_13) (fun _ h9 => h9) rfl dX1_nodeAt_8 ?_
  refine lv_iload_n hx hb dX1_nodeAt_11 rfl (lv_at hl 1 rfl) ?_
  obtain ⟨h_2, hw⟩ := hw
  refine va_iald hx hb hK hP 1 0 rfl rfl h_2 dX1_nodeAt_12 ?_
  refine lv_imul hx hb dX1_nodeAt_13 ?_
  refine lv_iadd hx hb dX1_nodeAt_14 ?_
  refine lv_iload_n hx hb dX1_nodeAt_15 rfl (lv_at hl 2 rfl) ?_
  refine lv_iadd hx hb dX1_nodeAt_16 ?_
  exact W.iret (v := (((S.2.1.2.2 x1.toNatClampNeg) + (x3 * (S.2.1.1 x1.toNatClampNeg))) + x2)) hx hb hr (fun t ht hW => ⟨(((S.2.1.2.2 x1.toNatClampNeg) + (x3 * (S.2.1.1 x1.toNatClampNeg))) + x2), rfl, hw, ht.trans hH.symm⟩) (fun q h => by cases h) dX1_nodeAt_17
def wp_X1_leafX (post : Int32 → Prop) (nl : Nat) (S : vSH)  (x1 : Int32) (x2 : Int32) : Prop := ∃ o_2 : Nat, o_2 < 3 ∧ x1 = nI o_2 ∧ (vp_in x2 nl ∧ (post (((S.2.2 o_2) x2.toNatClampNeg) &&& 31)))
abbrev rm_X1_leafX : Room := { frames := 0, cells := 0, slots := 0, locals := 0 }
set_option maxHeartbeats 4000000 in
set_option maxRecDepth 100000 in
theorem met_X1_leafX (l : Launch) (dC : Nat → ClassId) (dI : Nat → Nat → Nat) (cI cZ cJ cL : ClassId) (a0 a1 a2 a3 a4 : Nat) (ra : Nat → Nat) (post : Int32 → Prop) (nl : Nat) (S : vSH)  (x1 : Int32) (x2 : Int32) (hw : wp_X1_leafX post nl S  x1 x2) : Met l yX1_leafX wsX1_leafX rm_X1_leafX (pcR (dC, dI) (tysA cI cZ cJ cL) (wSH cI cJ nl a0 a1 a2 a3 a4 ra S) [.ref a0, .int x1, .int x2]) (vp_Si post) 0 0 (fun _ => False) := by
  refine Met.ofW (cc := cX1_leafX) (maxL := 3) (ret := (some .int)) (by decide) rfl ?_
  intro p e s m args below meth c s₁ Bd hml hv
  obtain ⟨hargs, hP, hK⟩ := hv
  have hx := Bd.exec
  have hb := Bd.bytes
  have hr := Bd.returns
  have hts := atoms_spec (ws := wsX1_leafX) Bd.pre
  have hT : ∀ w ∈ WALL, w.before args s = true := fun w h => hts w (List.mem_cons_of_mem _ h)
  have hown : s.vm.findClass RX1 = some m.cls := findClass_of_methodNamed Bd.named
  have hlocks := Bd.notSynchronized
  have hP : va_P (dC, dI) vwCl (wSH cI cJ nl a0 a1 a2 a3 a4 ra S) s.heap := hP
  have hl := lv_entry ([.ref a0, .int x1, .int x2]) (n := 3) (Nat.le_of_ble_eq_true rfl)
  rw [show entryFrame m args 3 = F0 m 0 _ [] from by rw [hargs]; exact lg_entry_eq m ([.ref a0, .int x1, .int x2]) 3]
  generalize (lg_sl ([.ref a0, .int x1, .int x2]) ++ List.replicate (3 - (lg_sl ([.ref a0, .int x1, .int x2])).length) Slot.unset).toArray = ls at hl ⊢
  have hl : lv_has ls 3 [(0, .ref a0), (1, .int x1), (2, .int x2)] := hl
  generalize hH : s.heap = H at hP ⊢
  unfold wp_X1_leafX at hw
  refine lv_aload_n hx hb dX1_leafX_0 rfl (lv_at hl 0 rfl) ?_
  refine va_get (D := (dC, dI)) (ci := 1) (v := .ref a4) (C := RX1) (T := TX1) (N := 9) hx hb hT inX1 hown hK hP 0 rfl rfl 8 (by decide) (hT _ k_16) (fun _ h9 => h9) rfl dX1_leafX_1 ?_
  refine lv_iload_n hx hb dX1_leafX_4 rfl (lv_at hl 1 rfl) ?_
  obtain ⟨o_2, h_1, eo_2, hw⟩ := hw
  refine tt_aald hx hb hK hP 4 2 rfl rfl (by rw [eo_2]; exact vp_in_nI h_1 (by decide)) dX1_leafX_5 ?_
  refine W.eq (g2 := F0 m 6 ls [.ref (ra o_2)]) (by rw [eo_2, nI_clamp (by omega)]; rcases (show o_2 = 0 ∨ o_2 = 1 ∨ o_2 = 2 by omega) with h9 | h9 | h9 <;> rw [h9] <;> rfl) ?_
  refine lv_iload_n hx hb dX1_leafX_6 rfl (lv_at hl 2 rfl) ?_
  obtain ⟨h_3, hw⟩ := hw
  refine va_iald (cA := cI) (n := nl) (f := (S.2.2 o_2)) hx hb hK hP (5 + o_2) 0 (by rcases (show o_2 = 0 ∨ o_2 = 1 ∨ o_2 = 2 by omega) with h9 | h9 | h9 <;> rw [h9] <;> rfl) rfl h_3 dX1_leafX_7 ?_
  refine lv_bipush (v := 31) hx hb dX1_leafX_8 (by decide) ?_
  refine lv_iand hx hb dX1_leafX_10 ?_
  exact W.iret (v := (((S.2.2 o_2) x2.toNatClampNeg) &&& 31)) hx hb hr (fun t ht hW => ⟨(((S.2.2 o_2) x2.toNatClampNeg) &&& 31), rfl, hw, ht.trans hH.symm⟩) (fun q h => by cases h) dX1_leafX_11
def wp_X1_leafY (post : Int32 → Prop) (nl : Nat) (S : vSH)  (x1 : Int32) (x2 : Int32) : Prop := ∃ o_2 : Nat, o_2 < 3 ∧ x1 = nI o_2 ∧ (vp_in x2 nl ∧ (¬ (32 : Int32) = 0 ∧ (post (((S.2.2 o_2) x2.toNatClampNeg) / 32))))
abbrev rm_X1_leafY : Room := { frames := 0, cells := 0, slots := 0, locals := 0 }
set_option maxHeartbeats 4000000 in
set_option maxRecDepth 100000 in
theorem met_X1_leafY (l : Launch) (dC : Nat → ClassId) (dI : Nat → Nat → Nat) (cI cZ cJ cL : ClassId) (a0 a1 a2 a3 a4 : Nat) (ra : Nat → Nat) (post : Int32 → Prop) (nl : Nat) (S : vSH)  (x1 : Int32) (x2 : Int32) (hw : wp_X1_leafY post nl S  x1 x2) : Met l yX1_leafY wsX1_leafY rm_X1_leafY (pcR (dC, dI) (tysA cI cZ cJ cL) (wSH cI cJ nl a0 a1 a2 a3 a4 ra S) [.ref a0, .int x1, .int x2]) (vp_Si post) 0 0 (fun _ => False) := by
  refine Met.ofW (cc := cX1_leafY) (maxL := 3) (ret := (some .int)) (by decide) rfl ?_
  intro p e s m args below meth c s₁ Bd hml hv
  obtain ⟨hargs, hP, hK⟩ := hv
  have hx := Bd.exec
  have hb := Bd.bytes
  have hr := Bd.returns
  have hts := atoms_spec (ws := wsX1_leafY) Bd.pre
  have hT : ∀ w ∈ WALL, w.before args s = true := fun w h => hts w (List.mem_cons_of_mem _ h)
  have hown : s.vm.findClass RX1 = some m.cls := findClass_of_methodNamed Bd.named
  have hlocks := Bd.notSynchronized
  have hP : va_P (dC, dI) vwCl (wSH cI cJ nl a0 a1 a2 a3 a4 ra S) s.heap := hP
  have hl := lv_entry ([.ref a0, .int x1, .int x2]) (n := 3) (Nat.le_of_ble_eq_true rfl)
  rw [show entryFrame m args 3 = F0 m 0 _ [] from by rw [hargs]; exact lg_entry_eq m ([.ref a0, .int x1, .int x2]) 3]
  generalize (lg_sl ([.ref a0, .int x1, .int x2]) ++ List.replicate (3 - (lg_sl ([.ref a0, .int x1, .int x2])).length) Slot.unset).toArray = ls at hl ⊢
  have hl : lv_has ls 3 [(0, .ref a0), (1, .int x1), (2, .int x2)] := hl
  generalize hH : s.heap = H at hP ⊢
  unfold wp_X1_leafY at hw
  refine lv_aload_n hx hb dX1_leafY_0 rfl (lv_at hl 0 rfl) ?_
  refine va_get (D := (dC, dI)) (ci := 1) (v := .ref a4) (C := RX1) (T := TX1) (N := 9) hx hb hT inX1 hown hK hP 0 rfl rfl 8 (by decide) (hT _ k_16) (fun _ h9 => h9) rfl dX1_leafY_1 ?_
  refine lv_iload_n hx hb dX1_leafY_4 rfl (lv_at hl 1 rfl) ?_
  obtain ⟨o_2, h_1, eo_2, hw⟩ := hw
  refine tt_aald hx hb hK hP 4 2 rfl rfl (by rw [eo_2]; exact vp_in_nI h_1 (by decide)) dX1_leafY_5 ?_
  refine W.eq (g2 := F0 m 6 ls [.ref (ra o_2)]) (by rw [eo_2, nI_clamp (by omega)]; rcases (show o_2 = 0 ∨ o_2 = 1 ∨ o_2 = 2 by omega) with h9 | h9 | h9 <;> rw [h9] <;> rfl) ?_
  refine lv_iload_n hx hb dX1_leafY_6 rfl (lv_at hl 2 rfl) ?_
  obtain ⟨h_3, hw⟩ := hw
  refine va_iald (cA := cI) (n := nl) (f := (S.2.2 o_2)) hx hb hK hP (5 + o_2) 0 (by rcases (show o_2 = 0 ∨ o_2 = 1 ∨ o_2 = 2 by omega) with h9 | h9 | h9 <;> rw [h9] <;> rfl) rfl h_3 dX1_leafY_7 ?_
  refine lv_bipush (v := 32) hx hb dX1_leafY_8 (by decide) ?_
  obtain ⟨h_4, hw⟩ := hw
  refine lv_idiv hx hb dX1_leafY_10 h_4 ?_
  exact W.iret (v := (((S.2.2 o_2) x2.toNatClampNeg) / 32)) hx hb hr (fun t ht hW => ⟨(((S.2.2 o_2) x2.toNatClampNeg) / 32), rfl, hw, ht.trans hH.symm⟩) (fun q h => by cases h) dX1_leafY_11
