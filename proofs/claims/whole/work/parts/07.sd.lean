theorem k_9 : (Cond.fieldLink RX2 13 "TagTrees$Side" "found" "[Z") ∈ WALL := List.mem_filter.mpr ⟨List.mem_append_right _ (List.mem_of_getElem? (i := 91) (by decide +kernel)), by decide +kernel⟩
theorem k_10 : (Cond.fieldLink RX2 17 "TagTrees$Side" "manyFound" "I") ∈ WALL := List.mem_filter.mpr ⟨List.mem_append_right _ (List.mem_of_getElem? (i := 93) (by decide +kernel)), by decide +kernel⟩
theorem k_11 : (Cond.fieldLink RX2 7 "TagTrees$Side" "bounds" "[I") ∈ WALL := List.mem_filter.mpr ⟨List.mem_append_right _ (List.mem_of_getElem? (i := 89) (by decide +kernel)), by decide +kernel⟩
theorem dX2_find_0 : decode cX2_find 0 = .ok (.aload_n 0, 1) := by decide +kernel
theorem dX2_find_1 : decode cX2_find 1 = .ok (.getfield 13, 3) := by decide +kernel
theorem dX2_find_4 : decode cX2_find 4 = .ok (.iload_n 1, 1) := by decide +kernel
theorem dX2_find_5 : decode cX2_find 5 = .ok (.baload, 1) := by decide +kernel
theorem dX2_find_6 : decode cX2_find 6 = .ok (.ifCond .ne 20, 3) := by decide +kernel
theorem dX2_find_9 : decode cX2_find 9 = .ok (.aload_n 0, 1) := by decide +kernel
theorem dX2_find_10 : decode cX2_find 10 = .ok (.getfield 13, 3) := by decide +kernel
theorem dX2_find_13 : decode cX2_find 13 = .ok (.iload_n 1, 1) := by decide +kernel
theorem dX2_find_14 : decode cX2_find 14 = .ok (.iconst 1, 1) := by decide +kernel
theorem dX2_find_15 : decode cX2_find 15 = .ok (.bastore, 1) := by decide +kernel
theorem dX2_find_16 : decode cX2_find 16 = .ok (.aload_n 0, 1) := by decide +kernel
theorem dX2_find_17 : decode cX2_find 17 = .ok (.dup, 1) := by decide +kernel
theorem dX2_find_18 : decode cX2_find 18 = .ok (.getfield 17, 3) := by decide +kernel
theorem dX2_find_21 : decode cX2_find 21 = .ok (.iconst 1, 1) := by decide +kernel
theorem dX2_find_22 : decode cX2_find 22 = .ok (.iadd, 1) := by decide +kernel
theorem dX2_find_23 : decode cX2_find 23 = .ok (.putfield 17, 3) := by decide +kernel
theorem dX2_find_26 : decode cX2_find 26 = .ok (.return_, 1) := by decide +kernel
theorem dX2_forget_0 : decode cX2_forget 0 = .ok (.iconst 0, 1) := by decide +kernel
theorem dX2_forget_1 : decode cX2_forget 1 = .ok (.istore_n 1, 1) := by decide +kernel
theorem dX2_forget_2 : decode cX2_forget 2 = .ok (.iload_n 1, 1) := by decide +kernel
theorem dX2_forget_3 : decode cX2_forget 3 = .ok (.aload_n 0, 1) := by decide +kernel
theorem dX2_forget_4 : decode cX2_forget 4 = .ok (.getfield 7, 3) := by decide +kernel
theorem dX2_forget_7 : decode cX2_forget 7 = .ok (.arraylength, 1) := by decide +kernel
theorem dX2_forget_8 : decode cX2_forget 8 = .ok (.if_icmp .ge 32, 3) := by decide +kernel
theorem dX2_forget_11 : decode cX2_forget 11 = .ok (.iload_n 1, 1) := by decide +kernel
theorem dX2_forget_12 : decode cX2_forget 12 = .ok (.aload_n 0, 1) := by decide +kernel
theorem dX2_forget_13 : decode cX2_forget 13 = .ok (.getfield 13, 3) := by decide +kernel
theorem dX2_forget_16 : decode cX2_forget 16 = .ok (.arraylength, 1) := by decide +kernel
theorem dX2_forget_17 : decode cX2_forget 17 = .ok (.if_icmp .ge 23, 3) := by decide +kernel
theorem dX2_forget_20 : decode cX2_forget 20 = .ok (.aload_n 0, 1) := by decide +kernel
theorem dX2_forget_21 : decode cX2_forget 21 = .ok (.getfield 7, 3) := by decide +kernel
theorem dX2_forget_24 : decode cX2_forget 24 = .ok (.iload_n 1, 1) := by decide +kernel
theorem dX2_forget_25 : decode cX2_forget 25 = .ok (.iconst 0, 1) := by decide +kernel
theorem dX2_forget_26 : decode cX2_forget 26 = .ok (.iastore, 1) := by decide +kernel
theorem dX2_forget_27 : decode cX2_forget 27 = .ok (.aload_n 0, 1) := by decide +kernel
theorem dX2_forget_28 : decode cX2_forget 28 = .ok (.getfield 13, 3) := by decide +kernel
theorem dX2_forget_31 : decode cX2_forget 31 = .ok (.iload_n 1, 1) := by decide +kernel
theorem dX2_forget_32 : decode cX2_forget 32 = .ok (.iconst 0, 1) := by decide +kernel
theorem dX2_forget_33 : decode cX2_forget 33 = .ok (.bastore, 1) := by decide +kernel
theorem dX2_forget_34 : decode cX2_forget 34 = .ok (.iinc 1 1, 3) := by decide +kernel
theorem dX2_forget_37 : decode cX2_forget 37 = .ok (.goto (-35), 3) := by decide +kernel
theorem dX2_forget_40 : decode cX2_forget 40 = .ok (.aload_n 0, 1) := by decide +kernel
theorem dX2_forget_41 : decode cX2_forget 41 = .ok (.iconst 0, 1) := by decide +kernel
theorem dX2_forget_42 : decode cX2_forget 42 = .ok (.putfield 17, 3) := by decide +kernel
theorem dX2_forget_45 : decode cX2_forget 45 = .ok (.return_, 1) := by decide +kernel
def wp_X2_find (post : vSD → Prop) (nn : Nat) (D : vSD) (x1 : Int32) : Prop := vp_in x1 nn ∧ ((((D.2.1 x1.toNatClampNeg) = 0 → (vp_in x1 nn ∧ (∀ f_4 : Int32, f_4 = D.2.2 + 1 → (post (D.1, (upd D.2.1 x1.toNatClampNeg (vp_nar .boolean 1)), f_4))))) ∧ (¬ (D.2.1 x1.toNatClampNeg) = 0 → (post D))))
abbrev rm_X2_find : Room := { frames := 0, cells := 0, slots := 0, locals := 0 }
set_option maxHeartbeats 4000000 in
set_option maxRecDepth 100000 in
theorem met_X2_find (l : Launch) (dC : Nat → ClassId) (dI : Nat → Nat → Nat) (cI cZ cJ cL : ClassId) (a0 a1 a2 : Nat) (sz : Nat) (post : vSD → Prop) (nn : Nat) (D : vSD) (x1 : Int32) (hw : wp_X2_find post nn D x1) : Met l yX2_find wsX2_find rm_X2_find (pcW (dC, dI) (tysA cI cZ cJ cL) (wSD cI cZ nn a0 a1 a2 D) sz [.ref a0, .int x1]) (va_Qv post (fun u t => qB (dC, dI) (tysA cI cZ cJ cL) (va_A (wSD cI cZ nn a0 a1 a2 D) sz) (wSD cI cZ nn a0 a1 a2 u) t) (va_A (wSD cI cZ nn a0 a1 a2 D) sz)) 0 0 (va_A (wSD cI cZ nn a0 a1 a2 D) sz) := by
  refine Met.ofW (cc := cX2_find) (maxL := 2) (ret := none) (by decide) rfl ?_
  intro p e s m args below meth c s₁ Bd hml hv
  obtain ⟨hargs, hsz, hP, hK, hD0⟩ := hv
  have hx := Bd.exec
  have hb := Bd.bytes
  have hr := Bd.returns
  have hts := atoms_spec (ws := wsX2_find) Bd.pre
  have hT : ∀ w ∈ WALL, w.before args s = true := fun w h => hts w (List.mem_cons_of_mem _ h)
  have hown : s.vm.findClass RX2 = some m.cls := findClass_of_methodNamed Bd.named
  have hlocks := Bd.notSynchronized
  subst hsz
  have hD := hD0.self (sz := s.heap.size)
  generalize hAe : va_A (wSD cI cZ nn a0 a1 a2 D) s.heap.size = A at hD ⊢
  have hA : ∀ q : Nat, s.heap.size ≤ q → A q := fun q h => by rw [← hAe]; exact Or.inr h
  have hS : va_S A s.heap s.heap [] := va_S.rf
  have hP : va_P (dC, dI) vwCl (wSD cI cZ nn a0 a1 a2 D) s.heap := hP
  have hl := lv_entry ([.ref a0, .int x1]) (n := 2) (Nat.le_of_ble_eq_true rfl)
  rw [show entryFrame m args 2 = F0 m 0 _ [] from by rw [hargs]; exact lg_entry_eq m ([.ref a0, .int x1]) 2]
  generalize (lg_sl ([.ref a0, .int x1]) ++ List.replicate (2 - (lg_sl ([.ref a0, .int x1])).length) Slot.unset).toArray = ls at hl ⊢
  have hl : lv_has ls 2 [(0, .ref a0), (1, .int x1)] := hl
  obtain ⟨H, hH⟩ : ∃ z : Heap, z = s.heap := ⟨_, rfl⟩
  obtain ⟨locs, hlocs⟩ : ∃ z : List Loc, z = [] := ⟨_, rfl⟩
  rw [show W p l e (headSpec wsX2_find rm_X2_find).room s m args below meth c s.heap [] 0 0 = W p l e (headSpec wsX2_find rm_X2_find).room s m args below meth c H locs 0 0 from by rw [hH, hlocs]]
  have hP : va_P (dC, dI) vwCl (wSD cI cZ nn a0 a1 a2 D) H := by rw [hH]; exact hP
  have hS : va_S A s.heap H locs := by rw [hH, hlocs]; exact hS
  unfold wp_X2_find at hw
  refine lv_aload_n hx hb dX2_find_0 rfl (lv_at hl 0 rfl) ?_
  refine va_get (D := (dC, dI)) (ci := 2) (v := .ref a2) (C := RX2) (T := TX2) (N := 3) hx hb hT inX2 hown hK hP 0 rfl rfl 1 (by decide) (hT _ k_9) (fun _ h9 => h9) rfl dX2_find_1 ?_
  refine lv_iload_n hx hb dX2_find_4 rfl (lv_at hl 1 rfl) ?_
  obtain ⟨h_1, hw⟩ := hw
  refine va_zald hx hb hK hP 2 1 rfl rfl h_1 dX2_find_5 ?_
  refine lv_if_ne (tgt := 26) hx hb dX2_find_6 (by decide) (fun c_2 => ?_) (fun c_2 => ?_)
  · have hw := hw.2 c_2
    exact W.vret hx hb hr (fun t ht hW => ⟨⟨D, rfl, hw, by rw [ht]; exact hP, va_K.moved hW.alike hK, hD⟩, hS.F ht⟩) hS.2.2 dX2_find_26
  · have hw := hw.1 c_2
    refine lv_aload_n hx hb dX2_find_9 rfl (lv_at hl 0 rfl) ?_
    refine va_get (D := (dC, dI)) (ci := 2) (v := .ref a2) (C := RX2) (T := TX2) (N := 3) hx hb hT inX2 hown hK hP 0 rfl rfl 1 (by decide) (hT _ k_9) (fun _ h9 => h9) rfl dX2_find_10 ?_
    refine lv_iload_n hx hb dX2_find_13 rfl (lv_at hl 1 rfl) ?_
    refine lv_iconst (v := 1) hx hb dX2_find_14 (by decide) ?_
    obtain ⟨h_3, hw⟩ := hw
    refine va_zast hx hb hK hP hD hS 2 1 rfl rfl h_3 dX2_find_15 (fun H locs hP hD hS => ?_)
    have hP : va_P (dC, dI) vwCl (wSD cI cZ nn a0 a1 a2 (D.1, (upd D.2.1 x1.toNatClampNeg (vp_nar .boolean 1)), D.2.2)) H := hP
    have hD : va_D A (wSD cI cZ nn a0 a1 a2 (D.1, (upd D.2.1 x1.toNatClampNeg (vp_nar .boolean 1)), D.2.2)) := hD
    refine lv_aload_n hx hb dX2_find_16 rfl (lv_at hl 0 rfl) ?_
    refine lv_dup hx hb dX2_find_17 rfl ?_
    refine va_get (D := (dC, dI)) (ci := 2) (v := .int D.2.2) (C := RX2) (T := TX2) (N := 3) hx hb hT inX2 hown hK hP 0 rfl rfl 2 (by decide) (hT _ k_10) (fun _ h9 => h9) rfl dX2_find_18 ?_
    refine lv_iconst (v := 1) hx hb dX2_find_21 (by decide) ?_
    refine lv_iadd hx hb dX2_find_22 ?_
    refine lv_topi (fun f_4 ef_4 => ?_)
    have hw := hw f_4 ef_4
    refine va_put (D := (dC, dI)) (ci := 2) (v := .int f_4) (ty := .int) (C := RX2) (T := TX2) (N := 3) hx hb hT inX2 tyX2 tyX2_ok nmX2 hown hK hP hD hS 0 rfl rfl 2 (by decide) (hT _ k_10) (fun _ h9 => h9) rfl (by decide +kernel) rfl rfl (Nat.le_of_ble_eq_true rfl) dX2_find_23 (fun H locs hP hD hS => ?_)
    have hP : va_P (dC, dI) vwCl (wSD cI cZ nn a0 a1 a2 (D.1, (upd D.2.1 x1.toNatClampNeg (vp_nar .boolean 1)), f_4)) H := hP
    have hD : va_D A (wSD cI cZ nn a0 a1 a2 (D.1, (upd D.2.1 x1.toNatClampNeg (vp_nar .boolean 1)), f_4)) := hD
    exact W.vret hx hb hr (fun t ht hW => ⟨⟨(D.1, (upd D.2.1 x1.toNatClampNeg (vp_nar .boolean 1)), f_4), rfl, hw, by rw [ht]; exact hP, va_K.moved hW.alike hK, hD⟩, hS.F ht⟩) hS.2.2 dX2_find_26
def wp_X2_forget_L2 (post : vSD → Prop) (ex2 : vSD → Int32 → Prop) (nn : Nat) : Nat → vSD → Int32 → Prop
  | 0, _, _ => False
  | n_3 + 1, D_1, x1_2 => (((nI nn) ≤ x1_2 → (ex2 D_1 x1_2)) ∧ (¬ (nI nn) ≤ x1_2 → ((((nI nn) ≤ x1_2 → (ex2 D_1 x1_2)) ∧ (¬ (nI nn) ≤ x1_2 → (vp_in x1_2 nn ∧ (vp_in x1_2 nn ∧ (∀ x1_8 : Int32, x1_8 = x1_2 + 1 → (wp_X2_forget_L2 post ex2 nn n_3 ((upd D_1.1 x1_2.toNatClampNeg 0), (upd D_1.2.1 x1_2.toNatClampNeg (vp_nar .boolean 0)), D_1.2.2) x1_8)))))))))
def wp_X2_forget (post : vSD → Prop) (nn : Nat) (D : vSD)  : Prop := ∃ n_3 : Nat, wp_X2_forget_L2 post (fun (D_1 : vSD) (x1_2 : Int32) => post (D_1.1, D_1.2.1, 0)) nn n_3 D 0
abbrev rm_X2_forget : Room := { frames := 0, cells := 0, slots := 0, locals := 0 }
set_option maxHeartbeats 4000000 in
set_option maxRecDepth 100000 in
theorem met_X2_forget (l : Launch) (dC : Nat → ClassId) (dI : Nat → Nat → Nat) (cI cZ cJ cL : ClassId) (a0 a1 a2 : Nat) (sz : Nat) (post : vSD → Prop) (nn : Nat) (D : vSD)  (hw : wp_X2_forget post nn D ) : Met l yX2_forget wsX2_forget rm_X2_forget (pcW (dC, dI) (tysA cI cZ cJ cL) (wSD cI cZ nn a0 a1 a2 D) sz [.ref a0]) (va_Qv post (fun u t => qB (dC, dI) (tysA cI cZ cJ cL) (va_A (wSD cI cZ nn a0 a1 a2 D) sz) (wSD cI cZ nn a0 a1 a2 u) t) (va_A (wSD cI cZ nn a0 a1 a2 D) sz)) 0 0 (va_A (wSD cI cZ nn a0 a1 a2 D) sz) := by
  refine Met.ofW (cc := cX2_forget) (maxL := 2) (ret := none) (by decide) rfl ?_
  intro p e s m args below meth c s₁ Bd hml hv
  obtain ⟨hargs, hsz, hP, hK, hD0⟩ := hv
  have hx := Bd.exec
  have hb := Bd.bytes
  have hr := Bd.returns
  have hts := atoms_spec (ws := wsX2_forget) Bd.pre
  have hT : ∀ w ∈ WALL, w.before args s = true := fun w h => hts w (List.mem_cons_of_mem _ h)
  have hown : s.vm.findClass RX2 = some m.cls := findClass_of_methodNamed Bd.named
  have hlocks := Bd.notSynchronized
  subst hsz
  have hD := hD0.self (sz := s.heap.size)
  generalize hAe : va_A (wSD cI cZ nn a0 a1 a2 D) s.heap.size = A at hD ⊢
  have hA : ∀ q : Nat, s.heap.size ≤ q → A q := fun q h => by rw [← hAe]; exact Or.inr h
  have hS : va_S A s.heap s.heap [] := va_S.rf
  have hP : va_P (dC, dI) vwCl (wSD cI cZ nn a0 a1 a2 D) s.heap := hP
  have hl := lv_entry ([.ref a0]) (n := 2) (Nat.le_of_ble_eq_true rfl)
  rw [show entryFrame m args 2 = F0 m 0 _ [] from by rw [hargs]; exact lg_entry_eq m ([.ref a0]) 2]
  generalize (lg_sl ([.ref a0]) ++ List.replicate (2 - (lg_sl ([.ref a0])).length) Slot.unset).toArray = ls at hl ⊢
  have hl : lv_has ls 2 [(0, .ref a0)] := hl
  obtain ⟨H, hH⟩ : ∃ z : Heap, z = s.heap := ⟨_, rfl⟩
  obtain ⟨locs, hlocs⟩ : ∃ z : List Loc, z = [] := ⟨_, rfl⟩
  rw [show W p l e (headSpec wsX2_forget rm_X2_forget).room s m args below meth c s.heap [] 0 0 = W p l e (headSpec wsX2_forget rm_X2_forget).room s m args below meth c H locs 0 0 from by rw [hH, hlocs]]
  have hP : va_P (dC, dI) vwCl (wSD cI cZ nn a0 a1 a2 D) H := by rw [hH]; exact hP
  have hS : va_S A s.heap H locs := by rw [hH, hlocs]; exact hS
  unfold wp_X2_forget at hw
  refine lv_iconst (v := 0) hx hb dX2_forget_0 (by decide) ?_
  refine lv_istore_n (lv' := [(1, .int 0), (0, .ref a0)]) hx hb dX2_forget_1 rfl hl (by decide) rfl (fun ls hl => ?_)
  obtain ⟨n_3, hw⟩ := hw
  obtain ⟨ex2, eex2⟩ : ∃ z : vSD → Int32 → Prop, z = (fun (D_1 : vSD) (x1_2 : Int32) => post (D_1.1, D_1.2.1, 0)) := ⟨_, rfl⟩
  rw [← eex2] at hw
  have hx2 : ∀ (D_1 : vSD) (x1_2 : Int32), ex2 D_1 x1_2 → ∀ (H : Heap) (locs : List Loc) (ls : Array Slot), va_P (dC, dI) vwCl (wSD cI cZ nn a0 a1 a2 D_1) H → va_D A (wSD cI cZ nn a0 a1 a2 D_1) → va_S A s.heap H locs → lv_has ls 2 [(1, .int x1_2), (0, .ref a0)] → W p l e (headSpec wsX2_forget rm_X2_forget).room s m args below meth c H locs 0 0 (MQ below (va_Qv post (fun u t => qB (dC, dI) (tysA cI cZ cJ cL) A (wSD cI cZ nn a0 a1 a2 u) t) A) args s 0 0 A) (F0 m 40 ls []) := by
    intro D_1 x1_2 hw H locs ls hP hD hS hl
    rw [eex2] at hw
    try dsimp only at hw
    refine lv_aload_n hx hb dX2_forget_40 rfl (lv_at hl 1 rfl) ?_
    refine lv_iconst (v := 0) hx hb dX2_forget_41 (by decide) ?_
    refine va_put (D := (dC, dI)) (ci := 2) (v := .int 0) (ty := .int) (C := RX2) (T := TX2) (N := 3) hx hb hT inX2 tyX2 tyX2_ok nmX2 hown hK hP hD hS 0 rfl rfl 2 (by decide) (hT _ k_10) (fun _ h9 => h9) rfl (by decide +kernel) rfl rfl (Nat.le_of_ble_eq_true rfl) dX2_forget_42 (fun H locs hP hD hS => ?_)
    have hP : va_P (dC, dI) vwCl (wSD cI cZ nn a0 a1 a2 (D_1.1, D_1.2.1, 0)) H := hP
    have hD : va_D A (wSD cI cZ nn a0 a1 a2 (D_1.1, D_1.2.1, 0)) := hD
    exact W.vret hx hb hr (fun t ht hW => ⟨⟨(D_1.1, D_1.2.1, 0), rfl, hw, by rw [ht]; exact hP, va_K.moved hW.alike hK, hD⟩, hS.F ht⟩) hS.2.2 dX2_forget_45
  have hlp2 : ∀ (n_3 : Nat) (D_1 : vSD) (x1_2 : Int32), wp_X2_forget_L2 post ex2 nn n_3 D_1 x1_2 → ∀ (H : Heap) (locs : List Loc) (ls : Array Slot), va_P (dC, dI) vwCl (wSD cI cZ nn a0 a1 a2 D_1) H → va_D A (wSD cI cZ nn a0 a1 a2 D_1) → va_S A s.heap H locs → lv_has ls 2 [(1, .int x1_2), (0, .ref a0)] → W p l e (headSpec wsX2_forget rm_X2_forget).room s m args below meth c H locs 0 0 (MQ below (va_Qv post (fun u t => qB (dC, dI) (tysA cI cZ cJ cL) A (wSD cI cZ nn a0 a1 a2 u) t) A) args s 0 0 A) (F0 m 2 ls []) := by
    intro n_3
    induction n_3 with
    | zero => intro _ _ hw; exact hw.elim
    | succ n_3 ih2 =>
      intro D_1 x1_2 hw H locs ls hP hD hS hl
      unfold wp_X2_forget_L2 at hw
      refine lv_iload_n hx hb dX2_forget_2 rfl (lv_at hl 0 rfl) ?_
      refine lv_aload_n hx hb dX2_forget_3 rfl (lv_at hl 1 rfl) ?_
      refine va_get (D := (dC, dI)) (ci := 2) (v := .ref a1) (C := RX2) (T := TX2) (N := 3) hx hb hT inX2 hown hK hP 0 rfl rfl 0 (by decide) (hT _ k_11) (fun _ h9 => h9) rfl dX2_forget_4 ?_
      refine va_alen (v := nI nn) hx hb hK hP 1 0 rfl rfl rfl dX2_forget_7 ?_
      refine lv_icmp_ge (tgt := 40) hx hb dX2_forget_8 (by decide) (fun c_4 => ?_) (fun c_4 => ?_)
      · have hw := hw.1 c_4
        exact hx2 D_1 x1_2 hw _ _ _ hP hD hS (lv_sub hl [0, 1] rfl)
      · have hw := hw.2 c_4
        refine lv_iload_n hx hb dX2_forget_11 rfl (lv_at hl 0 rfl) ?_
        refine lv_aload_n hx hb dX2_forget_12 rfl (lv_at hl 1 rfl) ?_
        refine va_get (D := (dC, dI)) (ci := 2) (v := .ref a2) (C := RX2) (T := TX2) (N := 3) hx hb hT inX2 hown hK hP 0 rfl rfl 1 (by decide) (hT _ k_9) (fun _ h9 => h9) rfl dX2_forget_13 ?_
        refine va_alen (v := nI nn) hx hb hK hP 2 1 rfl rfl rfl dX2_forget_16 ?_
        refine lv_icmp_ge (tgt := 40) hx hb dX2_forget_17 (by decide) (fun c_5 => ?_) (fun c_5 => ?_)
        · have hw := hw.1 c_5
          exact hx2 D_1 x1_2 hw _ _ _ hP hD hS (lv_sub hl [0, 1] rfl)
        · have hw := hw.2 c_5
          refine lv_aload_n hx hb dX2_forget_20 rfl (lv_at hl 1 rfl) ?_
          refine va_get (D := (dC, dI)) (ci := 2) (v := .ref a1) (C := RX2) (T := TX2) (N := 3) hx hb hT inX2 hown hK hP 0 rfl rfl 0 (by decide) (hT _ k_11) (fun _ h9 => h9) rfl dX2_forget_21 ?_
          refine lv_iload_n hx hb dX2_forget_24 rfl (lv_at hl 0 rfl) ?_
          refine lv_iconst (v := 0) hx hb dX2_forget_25 (by decide) ?_
          obtain ⟨h_6, hw⟩ := hw
          refine va_iast hx hb hK hP hD hS 1 0 rfl rfl h_6 dX2_forget_26 (fun H locs hP hD hS => ?_)
          have hP : va_P (dC, dI) vwCl (wSD cI cZ nn a0 a1 a2 ((upd D_1.1 x1_2.toNatClampNeg 0), D_1.2.1, D_1.2.2)) H := hP
          have hD : va_D A (wSD cI cZ nn a0 a1 a2 ((upd D_1.1 x1_2.toNatClampNeg 0), D_1.2.1, D_1.2.2)) := hD
          refine lv_aload_n hx hb dX2_forget_27 rfl (lv_at hl 1 rfl) ?_
          refine va_get (D := (dC, dI)) (ci := 2) (v := .ref a2) (C := RX2) (T := TX2) (N := 3) hx hb hT inX2 hown hK hP 0 rfl rfl 1 (by decide) (hT _ k_9) (fun _ h9 => h9) rfl dX2_forget_28 ?_
          refine lv_iload_n hx hb dX2_forget_31 rfl (lv_at hl 0 rfl) ?_
          refine lv_iconst (v := 0) hx hb dX2_forget_32 (by decide) ?_
          obtain ⟨h_7, hw⟩ := hw
          refine va_zast hx hb hK hP hD hS 2 1 rfl rfl h_7 dX2_forget_33 (fun H locs hP hD hS => ?_)
          have hP : va_P (dC, dI) vwCl (wSD cI cZ nn a0 a1 a2 ((upd D_1.1 x1_2.toNatClampNeg 0), (upd D_1.2.1 x1_2.toNatClampNeg (vp_nar .boolean 0)), D_1.2.2)) H := hP
          have hD : va_D A (wSD cI cZ nn a0 a1 a2 ((upd D_1.1 x1_2.toNatClampNeg 0), (upd D_1.2.1 x1_2.toNatClampNeg (vp_nar .boolean 0)), D_1.2.2)) := hD
          obtain ⟨x1_8, ex1_8⟩ : ∃ y : Int32, y = x1_2 + 1 := ⟨_, rfl⟩
          have hw := hw x1_8 ex1_8
          refine lv_iinc (v := x1_8) (lv' := [(1, .int x1_8), (0, .ref a0)]) hx hb dX2_forget_34 hl (k := 0) rfl (by rw [ex1_8]; rfl) (by decide) rfl (fun ls hl => ?_)
          refine lv_goto (tgt := 2) hx hb dX2_forget_37 (by decide) ?_
          exact ih2 ((upd D_1.1 x1_2.toNatClampNeg 0), (upd D_1.2.1 x1_2.toNatClampNeg (vp_nar .boolean 0)), D_1.2.2) x1_8 hw _ _ _ hP hD hS (lv_sub hl [0, 1] rfl)
  exact hlp2 n_3 D 0 hw _ _ _ hP hD hS (lv_sub hl [0, 1] rfl)
