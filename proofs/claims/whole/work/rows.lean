section
-- ===== PART A: goes FIRST, ahead of the names: the tables' words, and 'selects' of the private methods out of them =====
/-- a private method of a class that the tables say can be made, by its rows of tables_1 -/
def lw_okq (q : MethodName × Nat) : Prop := (q.1.cls ≠ "java/lang/invoke/MethodHandle" ∧ q.1.cls ≠ "java/lang/invoke/VarHandle") ∧ Cond.instantiable q.1.cls q.2 ∈ tables_1 ∧ Cond.privateMethod q.1 ∈ tables_1 ∧ Cond.instanceMethod q.1 ∈ tables_1
theorem lw_p0 : lw_okq (⟨"TagTrees$Shape", "fillRowsAndColumns", "()V"⟩, 9) := ⟨⟨by decide +kernel, by decide +kernel⟩, List.mem_of_getElem? (i := 23) (by decide +kernel), List.mem_of_getElem? (i := 37) (by decide +kernel), List.mem_of_getElem? (i := 38) (by decide +kernel)⟩
theorem lw_p1 : lw_okq (⟨"TagTrees$Shape", "fillQuarters", "()V"⟩, 9) := ⟨⟨by decide +kernel, by decide +kernel⟩, List.mem_of_getElem? (i := 23) (by decide +kernel), List.mem_of_getElem? (i := 41) (by decide +kernel), List.mem_of_getElem? (i := 42) (by decide +kernel)⟩
theorem lw_p2 : lw_okq (⟨"TagTrees", "checkNode", "(III)V"⟩, 7) := ⟨⟨by decide +kernel, by decide +kernel⟩, List.mem_of_getElem? (i := 15) (by decide +kernel), List.mem_of_getElem? (i := 172) (by decide +kernel), List.mem_of_getElem? (i := 173) (by decide +kernel)⟩
theorem lw_p3 : lw_okq (⟨"java/lang/Throwable", "fillInStackTrace", "(I)Ljava/lang/Throwable;"⟩, 6) := ⟨⟨by decide +kernel, by decide +kernel⟩, List.mem_of_getElem? (i := 219) (by decide +kernel), List.mem_of_getElem? (i := 217) (by decide +kernel), List.mem_of_getElem? (i := 218) (by decide +kernel)⟩
theorem lw_p4 : lw_okq (⟨"TagTrees", "checkNothingTold", "()V"⟩, 7) := ⟨⟨by decide +kernel, by decide +kernel⟩, List.mem_of_getElem? (i := 15) (by decide +kernel), List.mem_of_getElem? (i := 265) (by decide +kernel), List.mem_of_getElem? (i := 266) (by decide +kernel)⟩
theorem lw_p5 : lw_okq (⟨"TagTrees", "renewLeasts", "()V"⟩, 7) := ⟨⟨by decide +kernel, by decide +kernel⟩, List.mem_of_getElem? (i := 15) (by decide +kernel), List.mem_of_getElem? (i := 289) (by decide +kernel), List.mem_of_getElem? (i := 290) (by decide +kernel)⟩
theorem lw_p6 : lw_okq (⟨"TagTrees", "leastOfChildren", "(III)I"⟩, 7) := ⟨⟨by decide +kernel, by decide +kernel⟩, List.mem_of_getElem? (i := 15) (by decide +kernel), List.mem_of_getElem? (i := 293) (by decide +kernel), List.mem_of_getElem? (i := 294) (by decide +kernel)⟩
theorem lw_p7 : lw_okq (⟨"TagTrees", "costOfLeaf", "(III)I"⟩, 7) := ⟨⟨by decide +kernel, by decide +kernel⟩, List.mem_of_getElem? (i := 15) (by decide +kernel), List.mem_of_getElem? (i := 320) (by decide +kernel), List.mem_of_getElem? (i := 321) (by decide +kernel)⟩
theorem lw_p8 : lw_okq (⟨"TagTrees", "costOfNode", "(III)I"⟩, 7) := ⟨⟨by decide +kernel, by decide +kernel⟩, List.mem_of_getElem? (i := 15) (by decide +kernel), List.mem_of_getElem? (i := 327) (by decide +kernel), List.mem_of_getElem? (i := 328) (by decide +kernel)⟩
theorem lw_p9 : lw_okq (⟨"TagTrees", "hasBits", "(III)Z"⟩, 7) := ⟨⟨by decide +kernel, by decide +kernel⟩, List.mem_of_getElem? (i := 15) (by decide +kernel), List.mem_of_getElem? (i := 331) (by decide +kernel), List.mem_of_getElem? (i := 332) (by decide +kernel)⟩
theorem lw_p10 : lw_okq (⟨"TagTrees", "boundAfter", "(III)I"⟩, 7) := ⟨⟨by decide +kernel, by decide +kernel⟩, List.mem_of_getElem? (i := 15) (by decide +kernel), List.mem_of_getElem? (i := 335) (by decide +kernel), List.mem_of_getElem? (i := 336) (by decide +kernel)⟩
theorem lw_p11 : lw_okq (⟨"TagTrees", "tellLeaf", "(III)V"⟩, 7) := ⟨⟨by decide +kernel, by decide +kernel⟩, List.mem_of_getElem? (i := 15) (by decide +kernel), List.mem_of_getElem? (i := 359) (by decide +kernel), List.mem_of_getElem? (i := 360) (by decide +kernel)⟩
theorem lw_p12 : lw_okq (⟨"TagTrees", "tellNode", "(III)V"⟩, 7) := ⟨⟨by decide +kernel, by decide +kernel⟩, List.mem_of_getElem? (i := 15) (by decide +kernel), List.mem_of_getElem? (i := 363) (by decide +kernel), List.mem_of_getElem? (i := 364) (by decide +kernel)⟩
theorem lw_p13 : lw_okq (⟨"TagTrees$BitRow", "placeOf", "(I)I"⟩, 3) := ⟨⟨by decide +kernel, by decide +kernel⟩, List.mem_of_getElem? (i := 104) (by decide +kernel), List.mem_of_getElem? (i := 372) (by decide +kernel), List.mem_of_getElem? (i := 373) (by decide +kernel)⟩
theorem lw_p14 : lw_okq (⟨"TagTrees", "costBelow", "(IIIII)I"⟩, 7) := ⟨⟨by decide +kernel, by decide +kernel⟩, List.mem_of_getElem? (i := 15) (by decide +kernel), List.mem_of_getElem? (i := 398) (by decide +kernel), List.mem_of_getElem? (i := 399) (by decide +kernel)⟩
theorem lw_p15 : lw_okq (⟨"TagTrees", "learnLeaf", "(III)Z"⟩, 7) := ⟨⟨by decide +kernel, by decide +kernel⟩, List.mem_of_getElem? (i := 15) (by decide +kernel), List.mem_of_getElem? (i := 445) (by decide +kernel), List.mem_of_getElem? (i := 446) (by decide +kernel)⟩
def lw_privs_1 : List (MethodName × Nat) := [(⟨"TagTrees$Shape", "fillRowsAndColumns", "()V"⟩, 9), (⟨"TagTrees$Shape", "fillQuarters", "()V"⟩, 9), (⟨"TagTrees", "checkNode", "(III)V"⟩, 7), (⟨"java/lang/Throwable", "fillInStackTrace", "(I)Ljava/lang/Throwable;"⟩, 6), (⟨"TagTrees", "checkNothingTold", "()V"⟩, 7), (⟨"TagTrees", "renewLeasts", "()V"⟩, 7), (⟨"TagTrees", "leastOfChildren", "(III)I"⟩, 7), (⟨"TagTrees", "costOfLeaf", "(III)I"⟩, 7), (⟨"TagTrees", "costOfNode", "(III)I"⟩, 7), (⟨"TagTrees", "hasBits", "(III)Z"⟩, 7), (⟨"TagTrees", "boundAfter", "(III)I"⟩, 7), (⟨"TagTrees", "tellLeaf", "(III)V"⟩, 7), (⟨"TagTrees", "tellNode", "(III)V"⟩, 7), (⟨"TagTrees$BitRow", "placeOf", "(I)I"⟩, 3), (⟨"TagTrees", "costBelow", "(IIIII)I"⟩, 7), (⟨"TagTrees", "learnLeaf", "(III)Z"⟩, 7)]
theorem lw_r1 : ∀ q ∈ lw_privs_1, lw_okq q := List.forall_mem_cons.mpr ⟨lw_p0, List.forall_mem_cons.mpr ⟨lw_p1, List.forall_mem_cons.mpr ⟨lw_p2, List.forall_mem_cons.mpr ⟨lw_p3, List.forall_mem_cons.mpr ⟨lw_p4, List.forall_mem_cons.mpr ⟨lw_p5, List.forall_mem_cons.mpr ⟨lw_p6, List.forall_mem_cons.mpr ⟨lw_p7, List.forall_mem_cons.mpr ⟨lw_p8, List.forall_mem_cons.mpr ⟨lw_p9, List.forall_mem_cons.mpr ⟨lw_p10, List.forall_mem_cons.mpr ⟨lw_p11, List.forall_mem_cons.mpr ⟨lw_p12, List.forall_mem_cons.mpr ⟨lw_p13, List.forall_mem_cons.mpr ⟨lw_p14, List.forall_mem_cons.mpr ⟨lw_p15, fun _ h => absurd h List.not_mem_nil⟩⟩⟩⟩⟩⟩⟩⟩⟩⟩⟩⟩⟩⟩⟩⟩
theorem lw_p16 : lw_okq (⟨"TagTrees", "takeBits", "(IIIZ)I"⟩, 7) := ⟨⟨by decide +kernel, by decide +kernel⟩, List.mem_of_getElem? (i := 15) (by decide +kernel), List.mem_of_getElem? (i := 449) (by decide +kernel), List.mem_of_getElem? (i := 450) (by decide +kernel)⟩
theorem lw_p17 : lw_okq (⟨"TagTreesModel", "isLeaf", "(II)Z"⟩, 23) := ⟨⟨by decide +kernel, by decide +kernel⟩, List.mem_of_getElem? (i := 493) (by decide +kernel), List.mem_of_getElem? (i := 578) (by decide +kernel), List.mem_of_getElem? (i := 579) (by decide +kernel)⟩
theorem lw_p18 : lw_okq (⟨"TagTreesModel", "lift", "()V"⟩, 23) := ⟨⟨by decide +kernel, by decide +kernel⟩, List.mem_of_getElem? (i := 493) (by decide +kernel), List.mem_of_getElem? (i := 585) (by decide +kernel), List.mem_of_getElem? (i := 586) (by decide +kernel)⟩
theorem lw_p19 : lw_okq (⟨"TagTreesModel", "node", "(III)I"⟩, 23) := ⟨⟨by decide +kernel, by decide +kernel⟩, List.mem_of_getElem? (i := 493) (by decide +kernel), List.mem_of_getElem? (i := 589) (by decide +kernel), List.mem_of_getElem? (i := 590) (by decide +kernel)⟩
theorem lw_p20 : lw_okq (⟨"TagTreesModel", "tell", "(IIIIZ)Z"⟩, 23) := ⟨⟨by decide +kernel, by decide +kernel⟩, List.mem_of_getElem? (i := 493) (by decide +kernel), List.mem_of_getElem? (i := 602) (by decide +kernel), List.mem_of_getElem? (i := 603) (by decide +kernel)⟩
theorem lw_p21 : lw_okq (⟨"TagTreesModel", "bitOf", "(I)Z"⟩, 23) := ⟨⟨by decide +kernel, by decide +kernel⟩, List.mem_of_getElem? (i := 493) (by decide +kernel), List.mem_of_getElem? (i := 606) (by decide +kernel), List.mem_of_getElem? (i := 607) (by decide +kernel)⟩
theorem lw_p22 : lw_okq (⟨"TagTreesModel", "keep", "(I)V"⟩, 23) := ⟨⟨by decide +kernel, by decide +kernel⟩, List.mem_of_getElem? (i := 493) (by decide +kernel), List.mem_of_getElem? (i := 610) (by decide +kernel), List.mem_of_getElem? (i := 611) (by decide +kernel)⟩
theorem lw_p23 : lw_okq (⟨"TagTreesModel", "leafOf", "(II)I"⟩, 23) := ⟨⟨by decide +kernel, by decide +kernel⟩, List.mem_of_getElem? (i := 493) (by decide +kernel), List.mem_of_getElem? (i := 622) (by decide +kernel), List.mem_of_getElem? (i := 623) (by decide +kernel)⟩
theorem lw_p24 : lw_okq (⟨"TagTreesModel", "leavesOf", "(III)I"⟩, 23) := ⟨⟨by decide +kernel, by decide +kernel⟩, List.mem_of_getElem? (i := 493) (by decide +kernel), List.mem_of_getElem? (i := 626) (by decide +kernel), List.mem_of_getElem? (i := 627) (by decide +kernel)⟩
theorem lw_p25 : lw_okq (⟨"TagTreesModel", "add", "(Z)V"⟩, 23) := ⟨⟨by decide +kernel, by decide +kernel⟩, List.mem_of_getElem? (i := 493) (by decide +kernel), List.mem_of_getElem? (i := 638) (by decide +kernel), List.mem_of_getElem? (i := 639) (by decide +kernel)⟩
theorem lw_p26 : lw_okq (⟨"TagTreesModel", "take", "(III)Z"⟩, 23) := ⟨⟨by decide +kernel, by decide +kernel⟩, List.mem_of_getElem? (i := 493) (by decide +kernel), List.mem_of_getElem? (i := 650) (by decide +kernel), List.mem_of_getElem? (i := 651) (by decide +kernel)⟩
theorem lw_p27 : lw_okq (⟨"TagTreesModel", "isNode", "(III)Z"⟩, 23) := ⟨⟨by decide +kernel, by decide +kernel⟩, List.mem_of_getElem? (i := 493) (by decide +kernel), List.mem_of_getElem? (i := 666) (by decide +kernel), List.mem_of_getElem? (i := 667) (by decide +kernel)⟩
theorem lw_p28 : lw_okq (⟨"TagTreesModel", "knownIn", "(I)I"⟩, 23) := ⟨⟨by decide +kernel, by decide +kernel⟩, List.mem_of_getElem? (i := 493) (by decide +kernel), List.mem_of_getElem? (i := 682) (by decide +kernel), List.mem_of_getElem? (i := 683) (by decide +kernel)⟩
def lw_privs_2 : List (MethodName × Nat) := [(⟨"TagTrees", "takeBits", "(IIIZ)I"⟩, 7), (⟨"TagTreesModel", "isLeaf", "(II)Z"⟩, 23), (⟨"TagTreesModel", "lift", "()V"⟩, 23), (⟨"TagTreesModel", "node", "(III)I"⟩, 23), (⟨"TagTreesModel", "tell", "(IIIIZ)Z"⟩, 23), (⟨"TagTreesModel", "bitOf", "(I)Z"⟩, 23), (⟨"TagTreesModel", "keep", "(I)V"⟩, 23), (⟨"TagTreesModel", "leafOf", "(II)I"⟩, 23), (⟨"TagTreesModel", "leavesOf", "(III)I"⟩, 23), (⟨"TagTreesModel", "add", "(Z)V"⟩, 23), (⟨"TagTreesModel", "take", "(III)Z"⟩, 23), (⟨"TagTreesModel", "isNode", "(III)Z"⟩, 23), (⟨"TagTreesModel", "knownIn", "(I)I"⟩, 23)]
theorem lw_r2 : ∀ q ∈ lw_privs_2, lw_okq q := List.forall_mem_cons.mpr ⟨lw_p16, List.forall_mem_cons.mpr ⟨lw_p17, List.forall_mem_cons.mpr ⟨lw_p18, List.forall_mem_cons.mpr ⟨lw_p19, List.forall_mem_cons.mpr ⟨lw_p20, List.forall_mem_cons.mpr ⟨lw_p21, List.forall_mem_cons.mpr ⟨lw_p22, List.forall_mem_cons.mpr ⟨lw_p23, List.forall_mem_cons.mpr ⟨lw_p24, List.forall_mem_cons.mpr ⟨lw_p25, List.forall_mem_cons.mpr ⟨lw_p26, List.forall_mem_cons.mpr ⟨lw_p27, List.forall_mem_cons.mpr ⟨lw_p28, fun _ h => absurd h List.not_mem_nil⟩⟩⟩⟩⟩⟩⟩⟩⟩⟩⟩⟩⟩
def lw_privs : List (MethodName × Nat) := lw_privs_1 ++ (lw_privs_2)
def lw_tbl : List Cond := k2_sels lw_privs ++ tables_1
theorem lw_privs_ok : ∀ q ∈ lw_privs, lw_okq q := by
  show ∀ q ∈ lw_privs_1 ++ (lw_privs_2), lw_okq q
  exact List.forall_mem_append.mpr ⟨lw_r1, lw_r2⟩
def va_AOA (t : FieldType) (U : State) : Prop := (Cond.arrayOver (.array t)).before #[] U = true
theorem va_AOA.use {t : FieldType} {A : Array Value} {U : State} (h : va_AOA t U) : (Cond.arrayOver (.array t)).before A U = true := h
/-! ===== BEGIN words of one list among another's, by their places ===== -/
theorem goodIn_r {big : List Cond} (ws : List Cond) (ps : List Nat) (hp : ws = ps.filterMap (fun i => big[i]?)) (h : ws.all goodWord = true) : GoodIn big ws := by
  intro w hw
  have h1 := List.all_eq_true.mp h w hw
  rw [hp] at hw
  obtain ⟨i, -, hi⟩ := List.mem_filterMap.mp hw
  have hm : w ∈ big := by first | exact List.mem_of_getElem? hi | exact List.getElem?_mem hi
  exact ⟨hm, good_of_word h1⟩
theorem goodIn_app {big a b : List Cond} (ha : GoodIn big a) (hb : GoodIn big b) : GoodIn big (a ++ b) := fun w h => (List.mem_append.mp h).elim (ha w) (hb w)
theorem goodIn_ca {big a b : List Cond} {c : Cond} (ha : GoodIn big (c :: a)) (hb : GoodIn big b) : GoodIn big (c :: (a ++ b)) := fun w h => (List.mem_cons.mp h).elim (fun e => ha w (List.mem_cons.mpr (Or.inl e))) (fun h => (List.mem_append.mp h).elim (fun h => ha w (List.mem_cons.mpr (Or.inr h))) (hb w))
theorem goodIn_sub {big ws : List Cond} (hm : ∀ w ∈ ws, w ∈ big) (h : ws.all goodWord = true) : GoodIn big ws := fun w hw => ⟨hm w hw, good_of_word (List.all_eq_true.mp h w hw)⟩
/-! ===== END ===== -/

/-! ===== BEGIN new T[n][m]: the outer array a place, the inner ones among the pooled ===== -/
/-- f, but v at every address of l -/
def vr_up {α : Type} (f : Nat → α) (l : List Nat) (v : α) : Nat → α := fun a => if a ∈ l then v else f a
theorem vr_up_in {α : Type} {f : Nat → α} {l : List Nat} {v : α} {a : Nat} (h : a ∈ l) : vr_up f l v a = v := if_pos h
theorem vr_up_ne {α : Type} {f : Nat → α} {l : List Nat} {v : α} {a : Nat} (h : a ∉ l) : vr_up f l v a = f a := if_neg h
theorem vr_rows {L l : List Nat} {f : Nat → va_E} {e : va_E} (h : ∀ a, a ∈ l → a ∉ L) : va_pl L f ++ l.map (fun a => (a, e)) = va_pl (L ++ l) (vr_up f l e) := by
  unfold va_pl
  rw [List.map_append]
  congr 1
  · apply List.map_congr_left
    intro a ha
    rw [vr_up_ne (fun q => h a q ha)]
  · apply List.map_congr_left
    intro a ha
    rw [vr_up_in ha]
theorem vr_lay {X rows : va_W} {x : Nat × va_E} {pl : va_W} {D : va_G} {cl : List vw_C} {H : Heap} (hP : va_P D cl (((X ++ pl) ++ [x]) ++ rows) H) : va_P D cl ((X ++ [x]) ++ (pl ++ rows)) H := by
  rw [List.append_assoc (X ++ pl)] at hP
  have h := va_P.swap hP
  rw [← List.append_assoc X] at h
  have h2 := va_P.swap h
  rw [List.append_assoc (X ++ [x])] at h2
  exact h2
theorem vr_layD {X rows : va_W} {x : Nat × va_E} {pl : va_W} {A : Nat → Prop} (hD : va_D A (((X ++ pl) ++ [x]) ++ rows)) : va_D A ((X ++ [x]) ++ (pl ++ rows)) := by
  rw [List.append_assoc (X ++ pl)] at hD
  have h := va_D.swap hD
  rw [← List.append_assoc X] at h
  have h2 := va_D.swap h
  rw [List.append_assoc (X ++ [x])] at h2
  exact h2
theorem vr_outer (c : ClassId) (N h0 : Nat) : ∀ i : Nat, Jvm.Free.Multi.outerC c N h0 i = arrV c N (fun j => va_rf (if j < i then some (h0 + 1 + j) else none))
  | 0 => by
    show ({ cls := c, slots := Array.replicate N .null, vm := .none } : Cell) = _
    rw [arrV_new]
    refine congrArg (arrV c N) (funext fun j => ?_)
    simp [va_rf]
  | i + 1 => by
    show (Jvm.Free.Multi.outerC c N h0 i).setSlot i (.ref (h0 + 1 + i)) = _
    rw [vr_outer c N h0 i, arrV_store]
    refine congrArg (arrV c N) (funext fun j => ?_)
    by_cases e : j = i
    · subst e
      simp [updV, va_rf]
    · by_cases h : j < i
      · simp [updV, e, h, Nat.lt_succ_of_lt h]
      · simp [updV, e, h, show ¬ j < i + 1 by omega]
section VGM
variable {p : Program} {l : Launch} {e : Env} {R : Room} {s : State} {m : MethodId} {args : Array Value} {below : List Frame} {meth : Method} {c : Code} {H : Heap} {locs : List Loc} {cells slots : Nat} {Q : State → Prop}
variable {cc : ByteArray} {pc : Nat} {ls : Array Slot} {rest : List Value} {D : va_G} {cl : List vw_C} {A : Nat → Prop} {a : Nat} {tys : List (ClassId × FieldType)} {ws : va_W} {H0 : Heap}
theorem va_mna {X : va_W} {L : List Nat} {f : Nat → va_E} {cc : ByteArray} (hexec : p.tables.exec = Jvm.exec) (hb : c.code = cc) {own : String} {index : Nat} {ty : FieldType} {cy : ClassId} (hown : s.vm.findClass own = some m.cls) (hclink : (Cond.classLink own index ("[" ++ (FieldType.array ty).toString)).before args s = true) (hover : va_AOA ty s) (harr : (Cond.arrayClass ty).before args s = true) (hcy : s.vm.findClass (FieldType.array ty).toString = some cy)
    (hK : va_K D cl tys s) (hP : va_P D cl (X ++ va_pl L f) H) (hD : va_D A (X ++ va_pl L f)) (hS : va_S A H0 H locs) (hA : ∀ q, H0.size ≤ q → A q) {n k : Int32} {N' K' : Nat} {z : vp_A} (hn : ¬ n < 0) (hk : ¬ k < 0) (hN : n.toNatClampNeg = N') (hM : k.toNatClampNeg = K')
    (hb1 : N' * 4 ≤ 536870912) (hb2 : K' * componentBytes ty ≤ 536870912) (hb3 : K' ≤ 536870912) (hdf : fits ty (defaultValue ty) = true) (hdd : (defaultValue ty).isDefault = true) (hcells : cells + (1 + N') ≤ R.cells) (hslots : slots + (N' + N' * K') ≤ R.slots) (hz : ∀ c : ClassId, Jvm.Free.Multi.innerC c K' (defaultValue ty) = vp_cell c z) (hdg : decode cc pc = .ok (.multianewarray index 2, 4))
    (kk : ∀ (q : Nat) (r : Nat → Nat) (cA : ClassId) (H1 : Heap), (∀ i j : Nat, i < N' → j < N' → r i = r j → i = j) → (∀ i : Nat, i < N' → r i ∉ L) → va_K D cl (tys ++ [(cA, .array ty)]) s →
      va_P D cl ((X ++ [(q, .inl (cA, N', .inr (.inr (.inr (.inr (fun i => if i < N' then some (r i) else none))))))]) ++ va_pl (L ++ (List.range N').map r) (vr_up f ((List.range N').map r) (.inl (cy, z)))) H1 → va_D A ((X ++ [(q, .inl (cA, N', .inr (.inr (.inr (.inr (fun i => if i < N' then some (r i) else none))))))]) ++ va_pl (L ++ (List.range N').map r) (vr_up f ((List.range N').map r) (.inl (cy, z)))) → va_S A H0 H1 locs →
      W p l e R s m args below meth c H1 locs (cells + 1 + N') (slots + N' + N' * K') Q (F0 m (pc + 4) ls (.ref q :: rest))) : W p l e R s m args below meth c H locs cells slots Q (F0 m pc ls (.int k :: .int n :: rest)) := by
  subst hN
  subst hM
  intro T hT Xs
  obtain ⟨vm₁, cA, comp, -, fA, fC, hO, -, X', step⟩ := Xs.multianewarray2F hexec hown hclink (va_AOA.use hover) harr (g := F0 m pc ls (.int k :: .int n :: rest)) rfl (by rw [hb]; exact hdg) rfl hn hk hb1 hb2 hb3 hdf hdd hcells hslots
  have ec : some cy = some comp := hcy.symm.trans fC
  cases ec
  generalize hF : Jvm.Free.Multi.fill (T.setVm vm₁) cA cy n.toNatClampNeg k.toNatClampNeg (defaultValue ty) n.toNatClampNeg = F at X' step
  have hTh : (T.setVm vm₁).heap = H := hT
  obtain ⟨f1, f2, -, -⟩ := Jvm.Free.Multi.fill_facts (T.setVm vm₁) cA cy n.toNatClampNeg k.toNatClampNeg (defaultValue ty) n.toNatClampNeg
  rw [hF, hTh] at f1 f2
  have hold : ∀ x : Nat, x < H.size → F.heap[x]? = H[x]? := fun x hx => by
    have := Jvm.Free.Multi.fill_old (T.setVm vm₁) cA cy n.toNatClampNeg k.toNatClampNeg (defaultValue ty) (a := x) (by rw [hTh]; exact hx) n.toNatClampNeg
    rw [hF, hTh] at this
    exact this
  have hrow : ∀ j : Nat, j < n.toNatClampNeg → F.heap[H.size + 1 + j]? = some (vp_cell cy z) := fun j hj => by
    have := Jvm.Free.Multi.fill_inner (T.setVm vm₁) cA cy n.toNatClampNeg k.toNatClampNeg (defaultValue ty) n.toNatClampNeg j hj
    rw [hF, hTh, hz] at this
    exact this
  have hout : Jvm.Free.Multi.outerC cA n.toNatClampNeg H.size n.toNatClampNeg = vp_cell cA (n.toNatClampNeg, .inr (.inr (.inr (.inr (fun i => if i < n.toNatClampNeg then some (H.size + 1 + i) else none))))) := by
    rw [vp_cell_q]
    exact vr_outer cA n.toNatClampNeg H.size n.toNatClampNeg
  rw [hout] at f2
  have hlt : ∀ a, a ∈ L → a < H.size := fun a ha => by
    obtain ⟨k9, hk9⟩ := va_pl_get (X := X) (f := f) ha
    exact (hP k9 _ hk9).lt
  have hnl : ∀ i : Nat, i < n.toNatClampNeg → H.size + 1 + i ∉ L := fun i _ h => by
    have := hlt _ h
    omega
  have hnm : ∀ a, a ∈ (List.range n.toNatClampNeg).map (fun i => H.size + 1 + i) → a ∉ L := fun a ha h => by
    obtain ⟨i, -, rfl⟩ := List.mem_map.mp ha
    have := hlt _ h
    omega
  have hP0 : va_P D cl (X ++ va_pl L f) F.heap := hP.kept (fun k9 x hx => hold x.1 ((hP k9 x hx).lt))
  have hP1 : va_P D cl ((X ++ va_pl L f) ++ [(H.size, .inl (cA, n.toNatClampNeg, .inr (.inr (.inr (.inr (fun i => if i < n.toNatClampNeg then some (H.size + 1 + i) else none))))))]) F.heap := hP0.app (fun k9 x hx => by
    have h0 : k9 < 1 := (List.getElem?_eq_some_iff.mp hx).1
    rw [show k9 = 0 by omega] at hx
    cases hx
    exact f2)
  have hP2 : va_P D cl (((X ++ va_pl L f) ++ [(H.size, .inl (cA, n.toNatClampNeg, .inr (.inr (.inr (.inr (fun i => if i < n.toNatClampNeg then some (H.size + 1 + i) else none))))))]) ++ ((List.range n.toNatClampNeg).map (fun i => H.size + 1 + i)).map (fun a => (a, .inl (cy, z)))) F.heap := hP1.app (fun k9 x hx => by
    obtain ⟨a, ha, rfl⟩ := List.mem_map.mp (List.mem_of_getElem? hx)
    obtain ⟨i, hi, rfl⟩ := List.mem_map.mp ha
    exact hrow i (List.mem_range.mp hi))
  have hD2 : va_D A (((X ++ va_pl L f) ++ [(H.size, .inl (cA, n.toNatClampNeg, .inr (.inr (.inr (.inr (fun i => if i < n.toNatClampNeg then some (H.size + 1 + i) else none))))))]) ++ ((List.range n.toNatClampNeg).map (fun i => H.size + 1 + i)).map (fun a => (a, .inl (cy, z)))) := by
    have hD1 := hD.push (e := .inl (cA, n.toNatClampNeg, .inr (.inr (.inr (.inr (fun i => if i < n.toNatClampNeg then some (H.size + 1 + i) else none)))))) hP rfl (hA _ hS.1)
    generalize hW1 : (X ++ va_pl L f) ++ [(H.size, .inl (cA, n.toNatClampNeg, .inr (.inr (.inr (.inr (fun i => if i < n.toNatClampNeg then some (H.size + 1 + i) else none))))))] = W1 at hD1 hP1 ⊢
    have hle : ∀ (k9 : Nat) (x : Nat × va_E), W1[k9]? = some x → x.1 ≤ H.size := fun k9 x hx => by
      rw [← hW1] at hx
      by_cases hl : k9 < (X ++ va_pl L f).length
      · rw [List.getElem?_append_left hl] at hx
        exact Nat.le_of_lt ((hP k9 x hx).lt)
      · rw [List.getElem?_append_right (by omega)] at hx
        have h0 : k9 - (X ++ va_pl L f).length < 1 := (List.getElem?_eq_some_iff.mp hx).1
        rw [show k9 - (X ++ va_pl L f).length = 0 by omega] at hx
        cases hx
        exact Nat.le_refl _
    have hr : ∀ (k9 : Nat) (x : Nat × va_E), (((List.range n.toNatClampNeg).map (fun i => H.size + 1 + i)).map (fun a => ((a, .inl (cy, z)) : Nat × va_E)))[k9]? = some x → x.1 = H.size + 1 + k9 := fun k9 x hx => by
      rw [List.getElem?_map, List.getElem?_map] at hx
      by_cases h9 : k9 < n.toNatClampNeg
      · rw [List.getElem?_range h9] at hx
        cases hx
        rfl
      · have hn0 : (List.range n.toNatClampNeg)[k9]? = none := List.getElem?_eq_none (by rw [List.length_range]; omega)
        rw [hn0] at hx
        cases hx
    refine ⟨fun i j x y hi hj hxy => ?_, fun k9 x hx => ?_⟩
    · by_cases h1 : i < W1.length <;> by_cases h2 : j < W1.length
      · rw [List.getElem?_append_left h1] at hi
        rw [List.getElem?_append_left h2] at hj
        exact hD1.1 i j x y hi hj hxy
      · rw [List.getElem?_append_left h1] at hi
        rw [List.getElem?_append_right (by omega)] at hj
        have := hle _ _ hi
        have := hr _ _ hj
        omega
      · rw [List.getElem?_append_right (by omega)] at hi
        rw [List.getElem?_append_left h2] at hj
        have := hle _ _ hj
        have := hr _ _ hi
        omega
      · rw [List.getElem?_append_right (by omega)] at hi hj
        have := hr _ _ hi
        have := hr _ _ hj
        omega
    · by_cases h1 : k9 < W1.length
      · rw [List.getElem?_append_left h1] at hx
        exact hD1.2 k9 x hx
      · rw [List.getElem?_append_right (by omega)] at hx
        have := hr _ _ hx
        exact hA _ (by have := hS.1; omega)
  have hAr : ArrOfT s cA (.array ty) := fun N9 z9 => by
    obtain ⟨-, k9, hk9, cm9, hkk9⟩ := (hO 0 0 0).1
    exact ⟨(fun q hq => by cases hq), k9, hk9, cm9, hkk9⟩
  have hK2 : va_K D cl (tys ++ [(cA, .array ty)]) s := ⟨hK.1, fun k9 x hx => by
    by_cases hl : k9 < tys.length
    · rw [List.getElem?_append_left hl] at hx
      exact hK.2 k9 x hx
    · rw [List.getElem?_append_right (by omega)] at hx
      have h0 : k9 - tys.length < 1 := (List.getElem?_eq_some_iff.mp hx).1
      rw [show k9 - tys.length = 0 by omega] at hx
      cases hx
      exact ⟨hAr, fA⟩⟩
  obtain ⟨t, a1, b1⟩ := kk H.size (fun i => H.size + 1 + i) cA F.heap (fun i j _ _ h => by have h9 : H.size + 1 + i = H.size + 1 + j := h; omega) hnl hK2 (by rw [← vr_rows hnm]; exact vr_lay hP2) (by rw [← vr_rows hnm]; exact vr_layD hD2) ⟨by rw [f1]; have := hS.1; omega, fun x h1 h2 => (hold x (Nat.lt_of_lt_of_le h1 hS.1)).trans (hS.2.1 x h1 h2), hS.2.2⟩ F rfl X'
  refine ⟨t, step t ?_, b1⟩
  have e : T.heap.size = H.size := by rw [hT]
  rw [e]
  exact a1
end VGM
/-! ===== END ===== -/

/-! ===== BEGIN exceptions that leave a method, and their catching by the caller (launches without stack traces) ===== -/
section VXA
/-! The laws vx_back, vx_callV, vx_callS, vx_callSW, vx_throw0, vx_throwS follow proofs of the library, with one case more: JvmDerived/Free/Laws.lean (Back.of_free), Shelf42/LK1.lean (callV, callS), Shelf/KitTraced.lean (throwNew0V, throwNewS). -/
/-- where a method has thrown q: the class by its name, the cell, what was written, the world -/
def vx_T (XC : String → State → State → Prop) (st : State) (q : Addr) (t : State) (mc ms : Nat) (free : Addr → Prop) : Prop :=
  ∃ (E : String) (ce : Cell) (L : List Loc), XC E st t ∧ t.heap[q]? = some ce ∧ ce.vm = .none ∧ st.vm.findClass E = some ce.cls ∧ st.WarmedH t.vm ∧ st.sameButNew ({ t with vm := st.vm } : State) L mc ms ∧ ∀ z ∈ L, free z.base
def vx_Q (Qc : Array Value → State → Outcome → State → Prop) (XC : String → State → State → Prop) (mc ms : Nat) (free : Addr → Prop) : Array Value → State → Outcome → State → Prop := fun a st o t =>
  (Qc a st o t ∧ ∃ L, FrameEnd st o t L mc ms ∧ ∀ q ∈ L, free q.base) ∨ ∃ q, o = .threw q ∧ vx_T XC st q t mc ms free
/-- a callee that returns or throws -/
def vx_Met (l : Launch) (y : MethodName) (ws : List Cond) (rm : Room) (Pc : Array Value → State → Prop) (Qc : Array Value → State → Outcome → State → Prop) (XC : String → State → State → Prop) (mc ms : Nat) (free : Addr → Prop) : Prop :=
  MetFree l y (headSpec ws rm) Pc (fun _ _ _ _ _ => True) (vx_Q Qc XC mc ms free)
def vx_Post (XC : String → State → State → Prop) (mc ms : Nat) (free : Addr → Prop) : Pt → Array Value → Addr → Pt → Prop := fun A a q B =>
  ∃ (g : JFrame) (mk : MethodId) (t : State) (L : List Loc) (E : String) (ce : Cell), B.U.heap = t.heap ∧ B.U.vm = t.vm ∧ XC E (A.U.calling g mk a) t ∧ t.heap[q]? = some ce ∧ ce.vm = .none ∧ A.U.vm.findClass E = some ce.cls ∧ B.locs = A.locs ++ L ∧ (∀ z ∈ L, free z.base) ∧ B.cells = A.cells + mc ∧ B.slots = A.slots + ms
def vx_Back (l : Launch) (R : Room) (p : Program) (e : Env) (below : List Frame) (s : State) (sargs : Array Value) (y : MethodName) (len W9 : Nat)
    (Pre : Pt → Array Value → Prop) (Post : Pt → Array Value → Option Value → Pt → Prop) (PostX : Pt → Array Value → Addr → Pt → Prop) : Prop :=
  ∀ (m : MethodId) (meth : Method) (c : Code) (A : Pt) (g : JFrame) (ig : Instr) (mk : MethodId) (a : Array Value),
    Stand p l e R s m sargs below meth c A.U A.locs A.cells A.slots → g.method = m → g.locals.size = c.maxLocals → decode c.code g.pc = .ok (ig, len) →
    2 * g.monitorRoom + (g.stack.map fun v => v.category).sum ≤ W9 → A.U.methodNamed? y = some mk → Pre A a →
    (∃ (v : Option Value) (B : Pt), Stand p l e R s m sargs below meth c B.U B.locs B.cells B.slots ∧ Post A a v B ∧
      Steps p.tables e below (doInvoke e (A.U.setTop g) [] mk a).1 (B.U.setTop { g with pc := g.pc + len, stack := v.toList ++ g.stack })) ∨
    (∃ (q : Addr) (B : Pt), Stand p l e R s m sargs below meth c B.U B.locs B.cells B.slots ∧ PostX A a q B ∧
      Steps p.tables e below (doInvoke e (A.U.setTop g) [] mk a).1 ((B.U.setTop g).pushFrame (.throwing q)))
section Payer
variable {l : Launch} {R : Room} {p : Program} {e : Env} {below : List Frame} {s : State} {sargs : Array Value} {y : MethodName} {len W9 : Nat}
theorem vx_back {ws : List Cond} {rm : Room} {Pc : Array Value → State → Prop} {Qc : Array Value → State → Outcome → State → Prop} {XC : String → State → State → Prop} {mc ms : Nat} {free : Addr → Prop} {bytes : ByteArray} {maxL : Nat} {ret : Option FieldType}
    (hM : vx_Met l y ws rm Pc Qc XC mc ms free) (hblind : FrameBlind Pc) (hrc : rm.cells = mc) (hrs : rm.slots = ms)
    (hframes : rm.frames + 1 ≤ R.frames) (hlocals : W9 + (maxL + 11) + rm.locals ≤ R.locals)
    (hws : ∀ w ∈ ws, ∀ a' U, s.WarmedH U.vm → w.before a' U = true) (hcode : Cond.code y bytes maxL ret ∈ ws) (hinit : ∀ a' U, s.WarmedH U.vm → (Cond.initialized y.cls).before a' U = true) :
    vx_Back l R p e below s sargs y len W9 (PreOf R mc ms Pc) (PostOf Qc mc ms free) (vx_Post XC mc ms free) := by
  intro m meth c A g ig mk a X hg hsize hdg hW hn hp
  have h1 : (headSpec ws rm).pre.before a A.U = true := atoms_intro fun w hw => hws w hw _ _ X.warmed
  have h2 : (Cond.code y bytes maxL ret).before a A.U = true := hws _ hcode _ _ X.warmed
  have h3 : (Cond.initialized y.cls).before a A.U = true := hinit _ _ X.warmed
  have h4 : A.cells + (headSpec ws rm).room.cells ≤ R.cells := by rw [show (headSpec ws rm).room.cells = mc from hrc]; exact hp.1
  have h5 : A.slots + (headSpec ws rm).room.slots ≤ R.slots := by rw [show (headSpec ws rm).room.slots = ms from hrs]; exact hp.2.1
  have hPc : Pc a (A.U.calling g mk a) := hblind _ _ _ _ hp.2.2
  obtain ⟨U, Ls, c0, s0⟩ := A
  dsimp only [Pt.U, Pt.locs, Pt.cells, Pt.slots] at h1 h2 h3 h4 h5 X hn hPc ⊢
  obtain ⟨methY, cY, hmY, hcY, -, hlY, -, -, -, -⟩ := Cond.code_spec hn h2
  obtain ⟨kY, hkY, -⟩ := className_of_methodNamed hn
  have hinitY : kY.init = .initialized := Cond.initialized_spec (findClass_of_methodNamed hn) hkY h3
  have h : At U g.method c below := by rw [hg]; exact X.here
  have hlocals9 : W9 + (maxL + 11) + (headSpec ws rm).room.locals ≤ R.locals := hlocals
  have happ : (headSpec ws rm).appliesLoose y e.platform (U.calling g mk a) = true :=
    Spec.appliesLoose_calling (g := g) h hdg hn hkY hinitY
      (X.room_calling (g := g) (R' := (headSpec ws rm).room) hsize hmY hcY hframes (by rw [hlY]; omega) h4 h5) h1
  obtain ⟨mid, hmid⟩ := h.above
  have hfr : (U.setTop g).frames = (.java g :: mid) ++ below := by rw [State.frames_setTop' g h.top, hmid]; rfl
  obtain ⟨o, s₂, hsteps, -, hend, hq⟩ := Steps.callFree hM p X.admits X.cas X.clock (acts := []) hfr happ hPc trivial
  have hq' : vx_Q Qc XC mc ms free a (U.calling g mk a) o s₂ := hq
  rw [State.frames_setTop' g h.top] at hend
  obtain ⟨g₀, hg0⟩ := Option.isSome_iff_exists.mp h.top
  obtain ⟨r, hr⟩ := State.topJava?_eq_some.mp hg0
  have hr' : (({ U with heap := s₂.heap, slotsUsed := s₂.slotsUsed } : State).setVm s₂.vm).frames = .java g₀ :: r := hr
  rcases hq' with ⟨hqc, L, hfe, hL⟩ | ⟨q, rfl, E, ce, L, hx, hce, hcv, hcl, hW₂, hsm, hL⟩
  · obtain ⟨⟨v, rfl⟩, hW₂, e2, q2, q3, q4, q5, q6⟩ := id hfe
    have e3 : s₂ = ({ (U.calling g mk a).setFrames s₂.frames with heap := s₂.heap, slotsUsed := s₂.slotsUsed } : State).setVm s₂.vm := by
      have : s₂ = ({ s₂ with vm := (U.calling g mk a).vm } : State).setVm s₂.vm := rfl
      rw [e2] at this
      exact this
    obtain ⟨c₂, i₂, len₂, hc₂, hd₂, hf₂⟩ := hend
    have hW' : U.WarmedH s₂.vm := hW₂
    have hcc : c₂ = c := by
      have h1 : s₂.code? g.method = U.code? g.method := by
        rw [State.code?_eq, State.code?_eq, hW'.alike.method?]
      exact Option.some.inj (hc₂.symm.trans (h1.trans h.code))
    subst hcc
    have hlen : len₂ = len := by rw [hdg] at hd₂; cases hd₂; rfl
    subst hlen
    have hs₂ : s₂ = (({ U with heap := s₂.heap, slotsUsed := s₂.slotsUsed } : State).setVm s₂.vm).setTop { g with pc := g.pc + len₂, stack := v.toList ++ g.stack } := by
      refine e3.trans ?_
      rw [hf₂, State.calling_eq h.top, State.setFrames_setFrames, State.setTop_of_frames _ hr', hr]
      rfl
    have hsame : U.sameButNew ({ U with heap := s₂.heap, slotsUsed := s₂.slotsUsed } : State) L mc ms := by
      refine ⟨?_, q2, q3, q4, q5, q6⟩
      obtain ⟨t, ht, -⟩ := State.frames_cons hr
      show ({ U with heap := s₂.heap, slotsUsed := s₂.slotsUsed } : State) = { U.setFrames U.frames with heap := s₂.heap, slotsUsed := s₂.slotsUsed }
      rw [State.setFrames_self ht]
    subst hg
    refine Or.inl ⟨v, ⟨(({ U with heap := s₂.heap, slotsUsed := s₂.slotsUsed } : State).setVm s₂.vm), Ls ++ L, c0 + mc, s0 + ms⟩,
      ⟨X.admits, X.cas, X.clock, X.frames, X.room, X.hears, X.method, X.code, (X.here.setHeapUsed s₂.heap s₂.slotsUsed).setVm hW'.alike, X.tail, State.WarmedH.trans X.warmed hW', X.limits, X.bytes, X.same.trans (hsame.setVm s.vm)⟩,
      ⟨g, mk, s₂, L, rfl, rfl, hqc, rfl, hL, rfl, rfl⟩, ?_⟩
    show Steps p.tables e below _ ((({ U with heap := s₂.heap, slotsUsed := s₂.slotsUsed } : State).setVm s₂.vm).setTop { g with pc := g.pc + len₂, stack := v.toList ++ g.stack })
    rw [← hs₂]
    exact hsteps
  · obtain ⟨e2, q2, q3, q4, q5, q6⟩ := id hsm
    have e3 : s₂ = ({ (U.calling g mk a).setFrames s₂.frames with heap := s₂.heap, slotsUsed := s₂.slotsUsed } : State).setVm s₂.vm := by
      have : s₂ = ({ s₂ with vm := (U.calling g mk a).vm } : State).setVm s₂.vm := rfl
      rw [e2] at this
      exact this
    have hf₂ : s₂.frames = .throwing q :: .java g :: U.frames.tail := hend
    have hW' : U.WarmedH s₂.vm := hW₂
    have hs₂ : s₂ = ((({ U with heap := s₂.heap, slotsUsed := s₂.slotsUsed } : State).setVm s₂.vm).setTop g).pushFrame (.throwing q) := by
      refine e3.trans ?_
      rw [hf₂, State.calling_eq h.top, State.setFrames_setFrames, State.pushFrame, State.frames_setTop _ hr', State.setTop_of_frames _ hr', State.setFrames_setFrames, hr]
      rfl
    have hsame : U.sameButNew ({ U with heap := s₂.heap, slotsUsed := s₂.slotsUsed } : State) L mc ms := by
      refine ⟨?_, q2, q3, q4, q5, q6⟩
      obtain ⟨t, ht, -⟩ := State.frames_cons hr
      show ({ U with heap := s₂.heap, slotsUsed := s₂.slotsUsed } : State) = { U.setFrames U.frames with heap := s₂.heap, slotsUsed := s₂.slotsUsed }
      rw [State.setFrames_self ht]
    subst hg
    refine Or.inr ⟨q, ⟨(({ U with heap := s₂.heap, slotsUsed := s₂.slotsUsed } : State).setVm s₂.vm), Ls ++ L, c0 + mc, s0 + ms⟩,
      ⟨X.admits, X.cas, X.clock, X.frames, X.room, X.hears, X.method, X.code, (X.here.setHeapUsed s₂.heap s₂.slotsUsed).setVm hW'.alike, X.tail, State.WarmedH.trans X.warmed hW', X.limits, X.bytes, X.same.trans (hsame.setVm s.vm)⟩,
      ⟨g, mk, s₂, L, E, ce, rfl, rfl, hx, hce, hcv, hcl, rfl, hL, rfl, rfl⟩, ?_⟩
    show Steps p.tables e below _ (((({ U with heap := s₂.heap, slotsUsed := s₂.slotsUsed } : State).setVm s₂.vm).setTop g).pushFrame (.throwing q))
    rw [← hs₂]
    exact hsteps
end Payer
section Calls
variable {p : Program} {l : Launch} {e : Env} {R : Room} {s : State} {m : MethodId} {args : Array Value} {below : List Frame} {meth : Method} {c : Code} {T : State} {locs : List Loc} {cells slots : Nat}
theorem vx_callV (X : Stand p l e R s m args below meth c T locs cells slots) (hexec : p.tables.exec = Jvm.exec) {own C : String} {index : Nat} {y : MethodName} {bytes : ByteArray} {maxL : Nat} {ret : Option FieldType}
    (hown : s.vm.findClass own = some m.cls) (hlink : (Cond.methodLink own index y).before args s = true) (hinst : (Cond.instanceMethod y).before args s = true) (hsel : (Cond.selects C y y).before args s = true)
    (hcode : (Cond.code y bytes maxL ret).before args s = true) (hy : y.cls ≠ "java/lang/invoke/MethodHandle" ∧ y.cls ≠ "java/lang/invoke/VarHandle")
    {W9 : Nat} {Pre : Pt → Array Value → Prop} {Post : Pt → Array Value → Option Value → Pt → Prop} {PostX : Pt → Array Value → Addr → Pt → Prop} (hK : vx_Back l R p e below s args y 3 W9 Pre Post PostX)
    {b : Addr} {cellB : Cell} (hcell : T.heap[b]? = some cellB) (hobj : cellB.vm.isStatics = false) (hcls : s.vm.findClass C = some cellB.cls)
    {g : JFrame} (hg : g.method = m) (hsize : g.locals.size = c.maxLocals) {argsL rest : List Value} (hlen : ∀ sig, parseMethodDescriptor y.desc = some sig → argsL.length = sig.parameters.length)
    (hstack : g.stack = argsL.reverse ++ .ref b :: rest) (hW : 2 * g.monitorRoom + (rest.map fun v => v.category).sum ≤ W9) (hdg : decode c.code g.pc = .ok (.invokevirtual index, 3))
    (hpre : ∀ vm₁, s.WarmedH vm₁ → Pre ⟨T.setVm vm₁, locs, cells, slots⟩ (Value.ref b :: argsL).toArray) :
    (∃ (v : Option Value) (vm₁ : Vm) (B : Pt), s.WarmedH vm₁ ∧ Stand p l e R s m args below meth c B.U B.locs B.cells B.slots ∧ Post ⟨T.setVm vm₁, locs, cells, slots⟩ (Value.ref b :: argsL).toArray v B ∧
      ∀ target, Steps p.tables e below (B.U.setTop { g with pc := g.pc + 3, stack := v.toList ++ rest }) target → Steps p.tables e below (T.setTop g) target) ∨
    (∃ (q : Addr) (vm₁ : Vm) (B : Pt), s.WarmedH vm₁ ∧ Stand p l e R s m args below meth c B.U B.locs B.cells B.slots ∧ PostX ⟨T.setVm vm₁, locs, cells, slots⟩ (Value.ref b :: argsL).toArray q B ∧
      Steps p.tables e below (T.setTop g) ((B.U.setTop { g with stack := rest }).pushFrame (.throwing q))) := by
  obtain ⟨mk, methM, hnamed, hmethM, hstM, habM⟩ := Cond.instanceMethod_spec hinst
  obtain ⟨methM', cM, hmethM', -, -, -, -, -, -, hsigM⟩ := Cond.code_spec hnamed hcode
  cases hmethM.symm.trans hmethM'
  obtain ⟨c2, r2, m2, q1, q2, q3, q4, kP, hkP, hkPi⟩ := Cond.selects_spec hsel
  cases hcls.symm.trans q1
  cases (State.methodFound?_of_named hnamed hy).symm.trans q2
  cases hnamed.symm.trans q3
  have hselP : selectMethod e.platform s.vm cellB.cls mk = .method mk := by rw [Launch.admits_selectMethod X.admits]; exact q4
  obtain ⟨vm₁, X₁, hstep₁⟩ := X.invokevirtual hexec hown hlink hnamed hmethM hstM hkP hkPi hy (a := b) (cell := cellB) hcell
    (fun z h => by rw [h] at hobj; cases hobj) hselP hmethM habM hkP hkPi (g := g) hg (argsL := argsL) (rest := rest) (hlen _ hsigM) hstack hdg
  rcases hK m meth c ⟨T.setVm vm₁, locs, cells, slots⟩ { g with stack := rest } (.invokevirtual index) mk (Value.ref b :: argsL).toArray X₁ hg hsize hdg hW (X₁.named hnamed) (hpre vm₁ X₁.warmed) with ⟨v, B, X', hpost, hsteps⟩ | ⟨q, B, X', hpost, hsteps⟩
  · exact Or.inl ⟨v, vm₁, B, X₁.warmed, X', hpost, fun target h => hstep₁ _ fun acts => by rw [doInvoke_state]; exact hsteps.trans h⟩
  · exact Or.inr ⟨q, vm₁, B, X₁.warmed, X', hpost, hstep₁ _ fun acts => by rw [doInvoke_state]; exact hsteps⟩
theorem vx_callS (X : Stand p l e R s m args below meth c T locs cells slots) (hexec : p.tables.exec = Jvm.exec) {own : String} {index : Nat} {y : MethodName} {bytes : ByteArray} {maxL : Nat} {ret : Option FieldType}
    (hown : s.vm.findClass own = some m.cls) (hlink : (Cond.methodLink own index y).before args s = true) (hstat : (Cond.static y).before args s = true) (hinit : (Cond.initialized y.cls).before args s = true)
    (hcode : (Cond.code y bytes maxL ret).before args s = true) (hy : y.cls ≠ "java/lang/invoke/MethodHandle" ∧ y.cls ≠ "java/lang/invoke/VarHandle")
    {W9 : Nat} {Pre : Pt → Array Value → Prop} {Post : Pt → Array Value → Option Value → Pt → Prop} {PostX : Pt → Array Value → Addr → Pt → Prop} (hK : vx_Back l R p e below s args y 3 W9 Pre Post PostX)
    {g : JFrame} (hg : g.method = m) (hsize : g.locals.size = c.maxLocals) {argsL rest : List Value} (hlen : ∀ sig, parseMethodDescriptor y.desc = some sig → argsL.length = sig.parameters.length)
    (hstack : g.stack = argsL.reverse ++ rest) (hW : 2 * g.monitorRoom + (rest.map fun v => v.category).sum ≤ W9) (hdg : decode c.code g.pc = .ok (.invokestatic index, 3))
    (hpre : ∀ vm₁, s.WarmedH vm₁ → Pre ⟨T.setVm vm₁, locs, cells, slots⟩ argsL.toArray) :
    (∃ (v : Option Value) (vm₁ : Vm) (B : Pt), s.WarmedH vm₁ ∧ Stand p l e R s m args below meth c B.U B.locs B.cells B.slots ∧ Post ⟨T.setVm vm₁, locs, cells, slots⟩ argsL.toArray v B ∧
      ∀ target, Steps p.tables e below (B.U.setTop { g with pc := g.pc + 3, stack := v.toList ++ rest }) target → Steps p.tables e below (T.setTop g) target) ∨
    (∃ (q : Addr) (vm₁ : Vm) (B : Pt), s.WarmedH vm₁ ∧ Stand p l e R s m args below meth c B.U B.locs B.cells B.slots ∧ PostX ⟨T.setVm vm₁, locs, cells, slots⟩ argsL.toArray q B ∧
      Steps p.tables e below (T.setTop g) ((B.U.setTop { g with stack := rest }).pushFrame (.throwing q))) := by
  obtain ⟨mk, hnamed⟩ := Cond.code_named hcode
  obtain ⟨methM, cM, hmethM, -, -, -, -, -, -, hsigM⟩ := Cond.code_spec hnamed hcode
  have hstatic : methM.isStatic = true := Cond.static_spec hnamed hmethM hstat
  obtain ⟨kP, hkP, -⟩ := className_of_methodNamed hnamed
  have hinitP : kP.init = .initialized := Cond.initialized_spec (findClass_of_methodNamed hnamed) hkP hinit
  obtain ⟨vm₁, X₁, hstep₁⟩ := X.invokestatic hexec hown hlink hnamed hmethM hstatic hkP hinitP hy (g := g) hg (argsL := argsL) (rest := rest) (hlen _ hsigM) hstack hdg
  rcases hK m meth c ⟨T.setVm vm₁, locs, cells, slots⟩ { g with stack := rest } (.invokestatic index) mk argsL.toArray X₁ hg hsize hdg hW (X₁.named hnamed) (hpre vm₁ X₁.warmed) with ⟨v, B, X', hpost, hsteps⟩ | ⟨q, B, X', hpost, hsteps⟩
  · exact Or.inl ⟨v, vm₁, B, X₁.warmed, X', hpost, fun target h => hstep₁ _ fun acts => by rw [doInvoke_state]; exact hsteps.trans h⟩
  · exact Or.inr ⟨q, vm₁, B, X₁.warmed, X', hpost, hstep₁ _ fun acts => by rw [doInvoke_state]; exact hsteps⟩
end Calls
theorem vx_cls {s : State} {T : State} {vm₁ : Vm} {E : String} {k : ClassId} (hW : s.WarmedH vm₁) (h : (T.setVm vm₁).vm.findClass E = some k) : s.vm.findClass E = some k := by
  have h1 : vm₁.findClass E = some k := h
  rw [hW.alike.findClass] at h1
  exact h1
/-- the method's frame g, with q thrown over it -/
def vx_W (p : Program) (l : Launch) (e : Env) (R : Room) (s : State) (m : MethodId) (args : Array Value) (below : List Frame) (meth : Method) (c : Code) (H : Heap) (locs : List Loc) (cells slots : Nat) (Q : State → Prop) (g : JFrame) (q : Addr) : Prop :=
  ∀ T : State, T.heap = H → Stand p l e R s m args below meth c T locs cells slots → ∃ t, Steps p.tables e below ((T.setTop g).pushFrame (.throwing q)) t ∧ Q t
def vx_Run (p : Program) (l : Launch) (e : Env) (R : Room) (s : State) (m : MethodId) (args : Array Value) (below : List Frame) (meth : Method) (c : Code) (H : Heap) (locs : List Loc) (cells slots mc ms : Nat) (g : JFrame) (rest : List Value) (Qa : State → Outcome → State → Prop) (XC : String → State → State → Prop) (free : Addr → Prop) : Prop :=
  ∀ T : State, T.heap = H → Stand p l e R s m args below meth c T locs cells slots →
    (∃ (v : Option Value) (st₀ t T' : State) (L : List Loc), st₀.heap = H ∧ Stand p l e R s m args below meth c T' (locs ++ L) (cells + mc) (slots + ms) ∧ (∀ q ∈ L, free q.base) ∧ T'.heap = t.heap ∧ T'.vm = t.vm ∧ Qa st₀ (.returned v) t ∧
      Goes p e below T g T' { g with pc := g.pc + 3, stack := v.toList ++ rest }) ∨
    (∃ (q : Addr) (st₀ t T' : State) (L : List Loc) (E : String) (ce : Cell), st₀.heap = H ∧ Stand p l e R s m args below meth c T' (locs ++ L) (cells + mc) (slots + ms) ∧ (∀ z ∈ L, free z.base) ∧ T'.heap = t.heap ∧ T'.vm = t.vm ∧ XC E st₀ t ∧ t.heap[q]? = some ce ∧ ce.vm = .none ∧ s.vm.findClass E = some ce.cls ∧
      Steps p.tables e below (T.setTop g) ((T'.setTop { g with stack := rest }).pushFrame (.throwing q)))
def vx_X {S : Type} (px : S → Prop) (B : String → S → State → Prop) (A : Nat → Prop) : String → State → State → Prop := fun E st t => ∃ u : S, px u ∧ B E u t ∧ va_F A st t
section Runs
variable {p : Program} {l : Launch} {e : Env} {R : Room} {s : State} {m : MethodId} {args : Array Value} {below : List Frame} {meth : Method} {c : Code} {H : Heap} {locs : List Loc} {cells slots : Nat}
variable {y : MethodName} {bytes cc : ByteArray} {maxL nL mc ms n index : Nat} {ret : Option FieldType} {ws : List Cond} {rm : Room} {Pc : Array Value → State → Prop} {Qc : Array Value → State → Outcome → State → Prop} {XC : String → State → State → Prop} {free : Addr → Prop} {Ts : List Cond} {own C : String} {b : Addr} {As rest : List Value} {g : JFrame}
theorem vx_callBack (cb : CallB R s args own index y bytes maxL ret ws rm mc ms n) (hM : vx_Met l y ws rm Pc Qc XC mc ms free) (hbl : FrameBlind Pc) : vx_Back l R p e below s args y 3 8 (PreOf R mc ms Pc) (PostOf Qc mc ms free) (vx_Post XC mc ms free) := by
  obtain ⟨hrc, hrs, hfr, hlo, hws, hcw, -, hini, -⟩ := cb
  exact vx_back (bytes := bytes) (maxL := maxL) (ret := ret) hM hbl hrc hrs hfr hlo hws hcw (fun a' U hW => word_at hW (Or.inl (by first | rfl | simp [Cond.onTables, Cond.keeps, Cond.steady])) hini)
theorem vx_runV (S : CallFix p m c cc nL s args Ts own) (hM : vx_Met l y ws rm Pc Qc XC mc ms free) (cw : CallW R s args own C index y bytes maxL ret ws rm mc ms n) (hp : PreV s H C b Pc As)
    (hg : g.method = m) (hn : As.length = n) (hsize : g.locals.size = nL) (hstack : g.stack = As.reverse ++ .ref b :: rest) (hW : 2 * g.monitorRoom + (rest.map fun v => v.category).sum ≤ 8) (hdg : decode cc g.pc = .ok (.invokevirtual index, 3)) (hf : cells + mc ≤ R.cells ∧ slots + ms ≤ R.slots) :
    vx_Run p l e R s m args below meth c H locs cells slots mc ms g rest (Qc (Value.ref b :: As).toArray) XC free := by
  have hK : vx_Back l R p e below s args y 3 8 (PreOf R mc ms Pc) (PostOf Qc mc ms free) (vx_Post XC mc ms free) := vx_callBack cw.1 hM hp.1
  obtain ⟨⟨-, -, -, -, -, -, hcode, -, hy, hlen, hl⟩, hin, hse⟩ := cw
  obtain ⟨hx, hb, hml, ho, -⟩ := S
  obtain ⟨-, ⟨cellB, hcB, hoB, hclB⟩, hPc⟩ := hp
  intro T hT X
  rcases vx_callV X hx (C := C) (bytes := bytes) (maxL := maxL) (ret := ret) ho hl hin hse hcode hy hK (by rw [hT]; exact hcB) hoB hclB hg (hsize.trans hml.symm) (argsL := As) (rest := rest) (fun sig h => hn.trans (hlen sig h)) hstack hW (by rw [hb]; exact hdg)
    (fun vm₁ hW₁ => ⟨hf.1, hf.2, hPc (T.setVm vm₁) hT hW₁⟩) with ⟨v, vm₁, ⟨U', l2, c2, s2⟩, hW₁, X', ⟨g', mk, t, L, e1, e2, hq, h1, hL, h2, h3⟩, st⟩ | ⟨q, vm₁, ⟨U', l2, c2, s2⟩, hW₁, X', ⟨g', mk, t, L, E, ce, e1, e2, hq, hce, hcv, hcl, h1, hL, h2, h3⟩, st⟩
  · dsimp only [Pt.U, Pt.locs, Pt.cells, Pt.slots] at X' e1 e2 h1 h2 h3 st
    subst h1; subst h2; subst h3
    exact Or.inl ⟨v, (T.setVm vm₁).calling g' mk (Value.ref b :: As).toArray, t, U', L, hT, X', hL, e1, e2, hq, st⟩
  · dsimp only [Pt.U, Pt.locs, Pt.cells, Pt.slots] at X' e1 e2 h1 h2 h3 st hcl
    subst h1; subst h2; subst h3
    exact Or.inr ⟨q, (T.setVm vm₁).calling g' mk (Value.ref b :: As).toArray, t, U', L, E, ce, hT, X', hL, e1, e2, hq, hce, hcv, vx_cls hW₁ hcl, st⟩
theorem vx_runS (S : CallFix p m c cc nL s args Ts own) (hM : vx_Met l y ws rm Pc Qc XC mc ms free) (cw : CallB R s args own index y bytes maxL ret ws rm mc ms n ∧ (Cond.static y).before args s = true) (hp : PreS s H Pc As)
    (hg : g.method = m) (hn : As.length = n) (hsize : g.locals.size = nL) (hstack : g.stack = As.reverse ++ rest) (hW : 2 * g.monitorRoom + (rest.map fun v => v.category).sum ≤ 8) (hdg : decode cc g.pc = .ok (.invokestatic index, 3)) (hf : cells + mc ≤ R.cells ∧ slots + ms ≤ R.slots) :
    vx_Run p l e R s m args below meth c H locs cells slots mc ms g rest (Qc As.toArray) XC free := by
  have hK : vx_Back l R p e below s args y 3 8 (PreOf R mc ms Pc) (PostOf Qc mc ms free) (vx_Post XC mc ms free) := vx_callBack cw.1 hM hp.1
  obtain ⟨⟨-, -, -, -, -, -, hcode, hini, hy, hlen, hl⟩, hstt⟩ := cw
  obtain ⟨hx, hb, hml, ho, -⟩ := S
  intro T hT X
  rcases vx_callS X hx (bytes := bytes) (maxL := maxL) (ret := ret) ho hl hstt hini hcode hy hK hg (hsize.trans hml.symm) (argsL := As) (rest := rest) (fun sig h => hn.trans (hlen sig h)) hstack hW (by rw [hb]; exact hdg)
    (fun vm₁ hW₁ => ⟨hf.1, hf.2, hp.2 (T.setVm vm₁) hT hW₁⟩) with ⟨v, vm₁, ⟨U', l2, c2, s2⟩, hW₁, X', ⟨g', mk, t, L, e1, e2, hq, h1, hL, h2, h3⟩, st⟩ | ⟨q, vm₁, ⟨U', l2, c2, s2⟩, hW₁, X', ⟨g', mk, t, L, E, ce, e1, e2, hq, hce, hcv, hcl, h1, hL, h2, h3⟩, st⟩
  · dsimp only [Pt.U, Pt.locs, Pt.cells, Pt.slots] at X' e1 e2 h1 h2 h3 st
    subst h1; subst h2; subst h3
    exact Or.inl ⟨v, (T.setVm vm₁).calling g' mk As.toArray, t, U', L, hT, X', hL, e1, e2, hq, st⟩
  · dsimp only [Pt.U, Pt.locs, Pt.cells, Pt.slots] at X' e1 e2 h1 h2 h3 st hcl
    subst h1; subst h2; subst h3
    exact Or.inr ⟨q, (T.setVm vm₁).calling g' mk As.toArray, t, U', L, E, ce, hT, X', hL, e1, e2, hq, hce, hcv, vx_cls hW₁ hcl, st⟩
end Runs
section Rows
variable {p : Program} {l : Launch} {e : Env} {R : Room} {s : State} {m : MethodId} {args : Array Value} {below : List Frame} {meth : Method} {c : Code} {H : Heap} {locs : List Loc} {cells slots : Nat} {Q : State → Prop}
variable {mc ms : Nat} {free : Addr → Prop} {A0 A1 : Nat → Prop} {H0 : Heap} {a : Array Value} {pc : Nat} {ls : Array Slot} {st0 rest : List Value}
theorem vx_keep {st₀ t T' : State} {L : List Loc} (h0 : st₀.heap = H) (e1 : T'.heap = t.heap) (hS : va_S A0 H0 H locs) (hA : ∀ q, q < H.size → A1 q → A0 q) (hf : ∀ q, free q → A0 q) (hL : ∀ q ∈ L, free q.base) (hF : va_F A1 st₀ t) :
    H.size ≤ T'.heap.size ∧ (∀ q : Nat, q < H.size → ¬ A1 q → T'.heap[q]? = H[q]?) ∧ va_S A0 H0 T'.heap (locs ++ L) := by
  obtain ⟨hz, hk⟩ := hF
  rw [h0] at hz hk
  exact ⟨by rw [e1]; exact hz, fun q h1 h2 => by rw [e1]; exact hk q h1 h2,
    ⟨Nat.le_trans hS.1 (by rw [e1]; exact hz), fun q h1 h2 => by rw [e1, hk q (Nat.lt_of_lt_of_le h1 hS.1) (fun z => h2 (hA q (Nat.lt_of_lt_of_le h1 hS.1) z))]; exact hS.2.1 q h1 h2, fun q hq => by
      rcases List.mem_append.mp hq with h | h
      · exact hS.2.2 q h
      · exact hf _ (hL q h)⟩⟩
theorem vx_calli {S SX : Type} {post : Int32 → S → Prop} {px : SX → Prop} {B : S → State → Prop} {BX : String → SX → State → Prop} {AX : Nat → Prop} (hr : vx_Run p l e R s m args below meth c H locs cells slots mc ms (F0 m pc ls st0) rest (va_Qi post B A1 a) (vx_X px BX AX) free) (hS : va_S A0 H0 H locs) (hA : ∀ q, q < H.size → A1 q → A0 q) (hf : ∀ q, free q → A0 q) (hAX : ∀ q, q < H.size → AX q → A0 q)
    (kx : ∀ (E : String) (ce : Cell) (q9 : Addr) (u : SX) (t : State) (H1 : Heap) (locs1 : List Loc), t.heap = H1 → s.vm.Alike t.vm → px u → BX E u t → H.size ≤ H1.size → (∀ q : Nat, q < H.size → ¬ AX q → H1[q]? = H[q]?) → va_S A0 H0 H1 locs1 → H1[q9]? = some ce → ce.vm = .none → s.vm.findClass E = some ce.cls → vx_W p l e R s m args below meth c H1 locs1 (cells + mc) (slots + ms) Q (F0 m pc ls rest) q9)
    (kk : ∀ (r : Int32) (u : S) (t : State) (H1 : Heap) (locs1 : List Loc), t.heap = H1 → s.vm.Alike t.vm → post r u → B u t → H.size ≤ H1.size → (∀ q : Nat, q < H.size → ¬ A1 q → H1[q]? = H[q]?) → va_S A0 H0 H1 locs1 → W p l e R s m args below meth c H1 locs1 (cells + mc) (slots + ms) Q (F0 m (pc + 3) ls (.int r :: rest))) : W p l e R s m args below meth c H locs cells slots Q (F0 m pc ls st0) := by
  intro T hT X
  rcases hr T hT X with ⟨v, st₀, t, T', L, h0, X', hL, e1, e2, ⟨⟨r, u, hv, hp, hb⟩, hF⟩, st⟩ | ⟨q, st₀, t, T', L, E, ce, h0, X', hL, e1, e2, ⟨u, hp, hb, hF⟩, hce, hcv, hcl, st⟩
  · cases hv
    obtain ⟨k1, k2, k3⟩ := vx_keep h0 e1 hS hA hf hL hF
    obtain ⟨t2, a1, b1⟩ := kk r u t T'.heap (locs ++ L) e1.symm (by rw [← e2]; exact X'.warmed.alike) hp hb k1 k2 k3 T' rfl X'
    exact ⟨t2, st t2 a1, b1⟩
  · obtain ⟨k1, k2, k3⟩ := vx_keep h0 e1 hS hAX hf hL hF
    obtain ⟨t2, a1, b1⟩ := kx E ce q u t T'.heap (locs ++ L) e1.symm (by rw [← e2]; exact X'.warmed.alike) hp hb k1 k2 k3 (by rw [e1]; exact hce) hcv hcl T' rfl X'
    exact ⟨t2, st.trans a1, b1⟩
theorem vx_calll {S SX : Type} {post : Int64 → S → Prop} {px : SX → Prop} {B : S → State → Prop} {BX : String → SX → State → Prop} {AX : Nat → Prop} (hr : vx_Run p l e R s m args below meth c H locs cells slots mc ms (F0 m pc ls st0) rest (va_Ql post B A1 a) (vx_X px BX AX) free) (hS : va_S A0 H0 H locs) (hA : ∀ q, q < H.size → A1 q → A0 q) (hf : ∀ q, free q → A0 q) (hAX : ∀ q, q < H.size → AX q → A0 q)
    (kx : ∀ (E : String) (ce : Cell) (q9 : Addr) (u : SX) (t : State) (H1 : Heap) (locs1 : List Loc), t.heap = H1 → s.vm.Alike t.vm → px u → BX E u t → H.size ≤ H1.size → (∀ q : Nat, q < H.size → ¬ AX q → H1[q]? = H[q]?) → va_S A0 H0 H1 locs1 → H1[q9]? = some ce → ce.vm = .none → s.vm.findClass E = some ce.cls → vx_W p l e R s m args below meth c H1 locs1 (cells + mc) (slots + ms) Q (F0 m pc ls rest) q9)
    (kk : ∀ (r : Int64) (u : S) (t : State) (H1 : Heap) (locs1 : List Loc), t.heap = H1 → s.vm.Alike t.vm → post r u → B u t → H.size ≤ H1.size → (∀ q : Nat, q < H.size → ¬ A1 q → H1[q]? = H[q]?) → va_S A0 H0 H1 locs1 → W p l e R s m args below meth c H1 locs1 (cells + mc) (slots + ms) Q (F0 m (pc + 3) ls (.long r :: rest))) : W p l e R s m args below meth c H locs cells slots Q (F0 m pc ls st0) := by
  intro T hT X
  rcases hr T hT X with ⟨v, st₀, t, T', L, h0, X', hL, e1, e2, ⟨⟨r, u, hv, hp, hb⟩, hF⟩, st⟩ | ⟨q, st₀, t, T', L, E, ce, h0, X', hL, e1, e2, ⟨u, hp, hb, hF⟩, hce, hcv, hcl, st⟩
  · cases hv
    obtain ⟨k1, k2, k3⟩ := vx_keep h0 e1 hS hA hf hL hF
    obtain ⟨t2, a1, b1⟩ := kk r u t T'.heap (locs ++ L) e1.symm (by rw [← e2]; exact X'.warmed.alike) hp hb k1 k2 k3 T' rfl X'
    exact ⟨t2, st t2 a1, b1⟩
  · obtain ⟨k1, k2, k3⟩ := vx_keep h0 e1 hS hAX hf hL hF
    obtain ⟨t2, a1, b1⟩ := kx E ce q u t T'.heap (locs ++ L) e1.symm (by rw [← e2]; exact X'.warmed.alike) hp hb k1 k2 k3 (by rw [e1]; exact hce) hcv hcl T' rfl X'
    exact ⟨t2, st.trans a1, b1⟩
theorem vx_callf {S SX : Type} {post : UInt32 → S → Prop} {px : SX → Prop} {B : S → State → Prop} {BX : String → SX → State → Prop} {AX : Nat → Prop} (hr : vx_Run p l e R s m args below meth c H locs cells slots mc ms (F0 m pc ls st0) rest (va_Qf post B A1 a) (vx_X px BX AX) free) (hS : va_S A0 H0 H locs) (hA : ∀ q, q < H.size → A1 q → A0 q) (hf : ∀ q, free q → A0 q) (hAX : ∀ q, q < H.size → AX q → A0 q)
    (kx : ∀ (E : String) (ce : Cell) (q9 : Addr) (u : SX) (t : State) (H1 : Heap) (locs1 : List Loc), t.heap = H1 → s.vm.Alike t.vm → px u → BX E u t → H.size ≤ H1.size → (∀ q : Nat, q < H.size → ¬ AX q → H1[q]? = H[q]?) → va_S A0 H0 H1 locs1 → H1[q9]? = some ce → ce.vm = .none → s.vm.findClass E = some ce.cls → vx_W p l e R s m args below meth c H1 locs1 (cells + mc) (slots + ms) Q (F0 m pc ls rest) q9)
    (kk : ∀ (r : UInt32) (u : S) (t : State) (H1 : Heap) (locs1 : List Loc), t.heap = H1 → s.vm.Alike t.vm → post r u → B u t → H.size ≤ H1.size → (∀ q : Nat, q < H.size → ¬ A1 q → H1[q]? = H[q]?) → va_S A0 H0 H1 locs1 → W p l e R s m args below meth c H1 locs1 (cells + mc) (slots + ms) Q (F0 m (pc + 3) ls (.float r :: rest))) : W p l e R s m args below meth c H locs cells slots Q (F0 m pc ls st0) := by
  intro T hT X
  rcases hr T hT X with ⟨v, st₀, t, T', L, h0, X', hL, e1, e2, ⟨⟨r, u, hv, hp, hb⟩, hF⟩, st⟩ | ⟨q, st₀, t, T', L, E, ce, h0, X', hL, e1, e2, ⟨u, hp, hb, hF⟩, hce, hcv, hcl, st⟩
  · cases hv
    obtain ⟨k1, k2, k3⟩ := vx_keep h0 e1 hS hA hf hL hF
    obtain ⟨t2, a1, b1⟩ := kk r u t T'.heap (locs ++ L) e1.symm (by rw [← e2]; exact X'.warmed.alike) hp hb k1 k2 k3 T' rfl X'
    exact ⟨t2, st t2 a1, b1⟩
  · obtain ⟨k1, k2, k3⟩ := vx_keep h0 e1 hS hAX hf hL hF
    obtain ⟨t2, a1, b1⟩ := kx E ce q u t T'.heap (locs ++ L) e1.symm (by rw [← e2]; exact X'.warmed.alike) hp hb k1 k2 k3 (by rw [e1]; exact hce) hcv hcl T' rfl X'
    exact ⟨t2, st.trans a1, b1⟩
theorem vx_calld {S SX : Type} {post : UInt64 → S → Prop} {px : SX → Prop} {B : S → State → Prop} {BX : String → SX → State → Prop} {AX : Nat → Prop} (hr : vx_Run p l e R s m args below meth c H locs cells slots mc ms (F0 m pc ls st0) rest (va_Qd post B A1 a) (vx_X px BX AX) free) (hS : va_S A0 H0 H locs) (hA : ∀ q, q < H.size → A1 q → A0 q) (hf : ∀ q, free q → A0 q) (hAX : ∀ q, q < H.size → AX q → A0 q)
    (kx : ∀ (E : String) (ce : Cell) (q9 : Addr) (u : SX) (t : State) (H1 : Heap) (locs1 : List Loc), t.heap = H1 → s.vm.Alike t.vm → px u → BX E u t → H.size ≤ H1.size → (∀ q : Nat, q < H.size → ¬ AX q → H1[q]? = H[q]?) → va_S A0 H0 H1 locs1 → H1[q9]? = some ce → ce.vm = .none → s.vm.findClass E = some ce.cls → vx_W p l e R s m args below meth c H1 locs1 (cells + mc) (slots + ms) Q (F0 m pc ls rest) q9)
    (kk : ∀ (r : UInt64) (u : S) (t : State) (H1 : Heap) (locs1 : List Loc), t.heap = H1 → s.vm.Alike t.vm → post r u → B u t → H.size ≤ H1.size → (∀ q : Nat, q < H.size → ¬ A1 q → H1[q]? = H[q]?) → va_S A0 H0 H1 locs1 → W p l e R s m args below meth c H1 locs1 (cells + mc) (slots + ms) Q (F0 m (pc + 3) ls (.double r :: rest))) : W p l e R s m args below meth c H locs cells slots Q (F0 m pc ls st0) := by
  intro T hT X
  rcases hr T hT X with ⟨v, st₀, t, T', L, h0, X', hL, e1, e2, ⟨⟨r, u, hv, hp, hb⟩, hF⟩, st⟩ | ⟨q, st₀, t, T', L, E, ce, h0, X', hL, e1, e2, ⟨u, hp, hb, hF⟩, hce, hcv, hcl, st⟩
  · cases hv
    obtain ⟨k1, k2, k3⟩ := vx_keep h0 e1 hS hA hf hL hF
    obtain ⟨t2, a1, b1⟩ := kk r u t T'.heap (locs ++ L) e1.symm (by rw [← e2]; exact X'.warmed.alike) hp hb k1 k2 k3 T' rfl X'
    exact ⟨t2, st t2 a1, b1⟩
  · obtain ⟨k1, k2, k3⟩ := vx_keep h0 e1 hS hAX hf hL hF
    obtain ⟨t2, a1, b1⟩ := kx E ce q u t T'.heap (locs ++ L) e1.symm (by rw [← e2]; exact X'.warmed.alike) hp hb k1 k2 k3 (by rw [e1]; exact hce) hcv hcl T' rfl X'
    exact ⟨t2, st.trans a1, b1⟩
theorem vx_callv {S SX : Type} {post : S → Prop} {px : SX → Prop} {B : S → State → Prop} {BX : String → SX → State → Prop} {AX : Nat → Prop} (hr : vx_Run p l e R s m args below meth c H locs cells slots mc ms (F0 m pc ls st0) rest (va_Qv post B A1 a) (vx_X px BX AX) free) (hS : va_S A0 H0 H locs) (hA : ∀ q, q < H.size → A1 q → A0 q) (hf : ∀ q, free q → A0 q) (hAX : ∀ q, q < H.size → AX q → A0 q)
    (kx : ∀ (E : String) (ce : Cell) (q9 : Addr) (u : SX) (t : State) (H1 : Heap) (locs1 : List Loc), t.heap = H1 → s.vm.Alike t.vm → px u → BX E u t → H.size ≤ H1.size → (∀ q : Nat, q < H.size → ¬ AX q → H1[q]? = H[q]?) → va_S A0 H0 H1 locs1 → H1[q9]? = some ce → ce.vm = .none → s.vm.findClass E = some ce.cls → vx_W p l e R s m args below meth c H1 locs1 (cells + mc) (slots + ms) Q (F0 m pc ls rest) q9)
    (kk : ∀ (u : S) (t : State) (H1 : Heap) (locs1 : List Loc), t.heap = H1 → s.vm.Alike t.vm → post u → B u t → H.size ≤ H1.size → (∀ q : Nat, q < H.size → ¬ A1 q → H1[q]? = H[q]?) → va_S A0 H0 H1 locs1 → W p l e R s m args below meth c H1 locs1 (cells + mc) (slots + ms) Q (F0 m (pc + 3) ls (rest))) : W p l e R s m args below meth c H locs cells slots Q (F0 m pc ls st0) := by
  intro T hT X
  rcases hr T hT X with ⟨v, st₀, t, T', L, h0, X', hL, e1, e2, ⟨⟨u, hv, hp, hb⟩, hF⟩, st⟩ | ⟨q, st₀, t, T', L, E, ce, h0, X', hL, e1, e2, ⟨u, hp, hb, hF⟩, hce, hcv, hcl, st⟩
  · cases hv
    obtain ⟨k1, k2, k3⟩ := vx_keep h0 e1 hS hA hf hL hF
    obtain ⟨t2, a1, b1⟩ := kk u t T'.heap (locs ++ L) e1.symm (by rw [← e2]; exact X'.warmed.alike) hp hb k1 k2 k3 T' rfl X'
    exact ⟨t2, st t2 a1, b1⟩
  · obtain ⟨k1, k2, k3⟩ := vx_keep h0 e1 hS hAX hf hL hF
    obtain ⟨t2, a1, b1⟩ := kx E ce q u t T'.heap (locs ++ L) e1.symm (by rw [← e2]; exact X'.warmed.alike) hp hb k1 k2 k3 (by rw [e1]; exact hce) hcv hcl T' rfl X'
    exact ⟨t2, st.trans a1, b1⟩
/-- caught by the row x of this method's table; the rows ahead don't take it -/
theorem vx_catch {own name : String} {E : String} {ce : Cell} {q : Addr} (hown : s.vm.findClass own = some m.cls) (pre : List ExceptionTableEntry) (x : ExceptionTableEntry) (suf : List ExceptionTableEntry) (hsplit : c.exceptionTable.toList = pre ++ x :: suf)
    (hpass : ∀ z ∈ pre, covers z pc = false ∨ (z.catchType ≠ 0 ∧ ∃ nm : String, (Cond.classLink own z.catchType nm).before args s = true ∧ va_Nc E nm s)) (hx : covers x pc = true) (h0 : x.catchType ≠ 0)
    (hlink : (Cond.classLink own x.catchType name).before args s = true) (hcast : (Cond.castable E name).before args s = true) (hcell : H[q]? = some ce) (hv : ce.vm = .none) (hcl : s.vm.findClass E = some ce.cls)
    (kk : W p l e R s m args below meth c H locs cells slots Q (F0 m x.handlerPc ls [.ref q])) : vx_W p l e R s m args below meth c H locs cells slots Q (F0 m pc ls rest) q := by
  intro T hT X
  have hpl : e.platform.magicAccessors = ({} : Platform).magicAccessors := by rw [X.admits.platform]
  obtain ⟨c3, c4, hc3, hc4, hasg⟩ := Cond.castable_spec hcast
  cases Option.some.inj (hc3.symm.trans hcl)
  obtain ⟨c5, hc5, hcl5⟩ := Cond.classLink_spec hown hlink e.platform hpl
  cases Option.some.inj (hc4.symm.trans hc5)
  obtain ⟨vm', X', st⟩ := X.thenCaughtThrough q (g := F0 m pc ls rest) rfl (Steps.refl _) (by rw [hT]; exact hcell) (by rw [hv]; rfl) (by obtain ⟨k9, h9, -⟩ := Vm.findClass_spec hcl; exact ⟨k9, h9⟩) pre x suf hsplit
    (fun z hz => by
      rcases hpass z hz with h | ⟨hz0, nm, hl1, hn1⟩
      · exact Or.inl h
      · obtain ⟨c6, hc6, hcl6⟩ := Cond.classLink_spec hown hl1 e.platform hpl
        obtain ⟨a8, b8, h1, h2, h3⟩ := hn1
        cases Option.some.inj (h1.symm.trans hcl)
        cases Option.some.inj (h2.symm.trans hc6)
        exact Or.inr ⟨hz0, _, hcl6, h3⟩) hx (Or.inr ⟨h0, c4, hcl5, hasg⟩)
  obtain ⟨t, a1, b1⟩ := kk (T.setVm vm') hT X'
  exact ⟨t, st.trans a1, b1⟩
end Rows
section Ends
variable {p : Program} {l : Launch} {e : Env} {R : Room} {s : State} {m : MethodId} {args : Array Value} {below : List Frame} {meth : Method} {c : Code} {H : Heap} {locs : List Loc} {cells slots : Nat} {Q : State → Prop}
variable {mc ms : Nat} {free : Addr → Prop} {A0 A1 : Nat → Prop} {H0 : Heap} {a : Array Value} {ls : Array Slot} {st0 rest : List Value}
variable {Qc : Array Value → State → Outcome → State → Prop} {XC : String → State → State → Prop}
/-- what a body that may throw owes at its end -/
def vx_MQ (below : List Frame) (Qc : Array Value → State → Outcome → State → Prop) (XC : String → State → State → Prop) (a : Array Value) (s : State) (mc ms : Nat) (free : Addr → Prop) : State → Prop := fun t =>
  ∃ o, t.status = .running ∧ Ended t below o ∧ vx_Q Qc XC mc ms free a s o t
theorem vx_ret {g : JFrame} {mc ms : Nat} (k : W p l e R s m args below meth c H locs cells slots (MQ below Qc args s mc ms free) g) : W p l e R s m args below meth c H locs cells slots (vx_MQ below Qc XC args s mc ms free) g := by
  intro T hT X
  obtain ⟨t, a1, o, b1, b2, b3, b4⟩ := k T hT X
  exact ⟨t, a1, o, b1, b2, Or.inl ⟨b3, b4⟩⟩
/-- not caught here: it goes on to the caller -/
theorem vx_widen {g : JFrame} {q : Addr} {k n : Nat} (h1 : cells ≤ k) (h2 : slots ≤ n) (kk : vx_W p l e R s m args below meth c H locs k n Q g q) : vx_W p l e R s m args below meth c H locs cells slots Q g q := fun T hT X => kk T hT (stand_widen X h1 h2)
theorem vx_out {pc : Nat} {E : String} {ce : Cell} {q : Addr} {mc ms : Nat} (hout : ∀ x ∈ c.exceptionTable.toList, covers x pc = false) (hlocks : meth.locks = false) (hcell : H[q]? = some ce) (hv : ce.vm = .none) (hcl : s.vm.findClass E = some ce.cls)
    (hx : ∀ t : State, t.heap = H → s.vm.Alike t.vm → XC E s t) (hf : ∀ z ∈ locs, free z.base) (hc : cells ≤ mc) (hs : slots ≤ ms) :
    vx_W p l e R s m args below meth c H locs cells slots (vx_MQ below Qc XC args s mc ms free) (F0 m pc ls rest) q := by
  intro T hT X
  obtain ⟨st1, hrun, hend, hW, hsm⟩ := X.leaveThrown q (g := F0 m pc ls rest) rfl rfl rfl hout hlocks
  have hcell9 : (T.setFrames (.throwing q :: below)).heap[q]? = some ce := by
    show T.heap[q]? = some ce
    rw [hT]; exact hcell
  exact ⟨_, st1, .threw q, hrun, hend, Or.inr ⟨q, rfl, E, ce, locs, hx _ hT hW.alike, hcell9, hv, hcl, hW, hsm.mono hc hs, hf⟩⟩
theorem vx_frame {U : State} {k n : Nat} (h : s.sameButNew ({ U with vm := s.vm } : State) locs k n) : s.heap.size ≤ U.heap.size ∧ ∀ q : Nat, q < s.heap.size → (∀ z ∈ locs, z.base ≠ q) → U.heap[q]? = s.heap[q]? := by
  obtain ⟨-, h2, -, -, -, h6⟩ := h
  refine ⟨h2, fun q hq hz => ?_⟩
  obtain ⟨c9, e1, e2, e3, e4⟩ := h6 q _ (Array.getElem?_eq_getElem hq)
  have hs : c9.slots = (s.heap[q]).slots := Array.ext_getElem? fun i => e4 i fun hm => hz _ hm rfl
  have h9 : c9 = s.heap[q] := by
    rw [hs] at e2
    exact e2
  have e5 : U.heap[q]? = some c9 := e1
  rw [e5, h9, Array.getElem?_eq_getElem hq]
/-- the words of a throw but the four that speak of the heap -/
def vx_no (w : Cond) : Bool := decide (w ≠ .isRef (.static Bundle.tN "UNASSIGNED_STACK" Bundle.steD)) && decide (w ≠ .isRef (.static Bundle.tN "SUPPRESSED_SENTINEL" Bundle.listD)) && decide (w ≠ .laysStatic Bundle.tN "UNASSIGNED_STACK" Bundle.steD) && decide (w ≠ .laysStatic Bundle.tN "SUPPRESSED_SENTINEL" Bundle.listD)
def vx_at0 (own : String) (ic : Nat) (X : String) (names : List String) : List Cond := (Bundle.ownAtoms0 own ic X names).filter vx_no
def vx_atS (own : String) (ic : Nat) (X : String) (names : List String) : List Cond := (Bundle.ownAtoms own ic X names).filter vx_no
/-- a word that the tables alone decide, or a good one -/
def vx_ot (w : Cond) : Bool := w.onTables || goodWord w
theorem vx_ot_at {args a' : Array Value} {s U : State} {w : Cond} (hW : s.WarmedH U.vm) (hvm : s.vm = U.vm) (hg : vx_ot w = true) (h : w.before args s = true) : w.before a' U = true := by
  simp only [vx_ot, Bool.or_eq_true] at hg
  rcases hg with hg | hg
  · exact va_tabs hg hvm h
  · exact word_at hW (good_of_word hg) h
/-- a list's words: the good ones out of the method's own list, the others by premises of their own -/
theorem vx_hat {args : Array Value} {s : State} {L B : List Cond} (h1 : ∀ w ∈ L.filter goodWord, w.before args s = true) (h2 : ∀ w ∈ L.filter (fun w => !goodWord w), w ∈ B) (h3 : ∀ w ∈ B, w.before args s = true) : ∀ w ∈ L, w.before args s = true := by
  intro w hw
  by_cases g : goodWord w = true
  · exact h1 w (List.mem_filter.mpr ⟨hw, g⟩)
  · refine h3 w (h2 w (List.mem_filter.mpr ⟨hw, ?_⟩))
    show (!goodWord w) = true
    cases hgw : goodWord w
    · rfl
    · exact absurd hgw g
theorem vx_c {args : Array Value} {s : State} {w : Cond} {B : List Cond} (h : w.before args s = true) (t : ∀ w ∈ B, w.before args s = true) : ∀ w' ∈ w :: B, w'.before args s = true := fun w' h' => (List.mem_cons.mp h').elim (fun e => by rw [e]; exact h) (t w')
theorem vx_n {args : Array Value} {s : State} : ∀ w ∈ ([] : List Cond), w.before args s = true := fun _ h => nomatch h
theorem vx_own {args : Array Value} {s : State} {L : List Cond} (h1 : ∀ w ∈ L.filter vx_no, w.before args s = true)
    (hU : (Cond.isRef (.static Bundle.tN "UNASSIGNED_STACK" Bundle.steD)).before args s = true) (hN : (Cond.isRef (.static Bundle.tN "SUPPRESSED_SENTINEL" Bundle.listD)).before args s = true)
    (lU : (Cond.laysStatic Bundle.tN "UNASSIGNED_STACK" Bundle.steD).before args s = true) (lN : (Cond.laysStatic Bundle.tN "SUPPRESSED_SENTINEL" Bundle.listD).before args s = true) : ∀ w ∈ L, w.before args s = true := by
  intro w hw
  by_cases e1 : w = .isRef (.static Bundle.tN "UNASSIGNED_STACK" Bundle.steD)
  · rw [e1]; exact hU
  · by_cases e2 : w = .isRef (.static Bundle.tN "SUPPRESSED_SENTINEL" Bundle.listD)
    · rw [e2]; exact hN
    · by_cases e3 : w = .laysStatic Bundle.tN "UNASSIGNED_STACK" Bundle.steD
      · rw [e3]; exact lU
      · by_cases e4 : w = .laysStatic Bundle.tN "SUPPRESSED_SENTINEL" Bundle.listD
        · rw [e4]; exact lN
        · exact h1 w (List.mem_filter.mpr ⟨hw, by unfold vx_no; rw [decide_eq_true e1, decide_eq_true e2, decide_eq_true e3, decide_eq_true e4]; rfl⟩)
/-- where a static field lies, its class's statics cell in H -/
def vx_L (C n d : String) (A : Nat → Prop) (U : State) (H : Heap) : Prop := ∃ (c : ClassId) (k : Class) (i : Nat) (f : Field) (a : Nat) (cell : Cell), U.vm.findClass C = some c ∧ U.fieldFound? C n d = some (c, k, i, f) ∧ f.isStatic = true ∧ k.statics = some a ∧ H[a]? = some cell ∧ cell.vm.isStatics = true ∧ cell.cls = c ∧ f.slot < cell.slots.size ∧ k.staticTypes[f.slot]? = some f.type ∧ ¬ A a
theorem vx_L.moved {C n d : String} {A : Nat → Prop} {u U : State} {H : Heap} (hvm : u.vm.Alike U.vm) (h : vx_L C n d A u H) : vx_L C n d A U H := by
  obtain ⟨c, k, i, f, a, cell, h1, h2, h3, h4, h5, h6, h7, h8, h9, h10⟩ := h
  obtain ⟨k', hi', he⟩ := State.fieldFound?_setVm hvm h2
  exact ⟨c, k', i, f, a, cell, by rw [hvm.findClass]; exact h1, hi', h3, by rw [he]; exact h4, h5, h6, h7, h8, by rw [he]; exact h9, h10⟩
theorem vx_L.kept {C n d : String} {A : Nat → Prop} {U : State} {H H1 : Heap} (h : vx_L C n d A U H) (hq : ∀ a : Nat, a < H.size → ¬ A a → H1[a]? = H[a]?) : vx_L C n d A U H1 := by
  obtain ⟨c, k, i, f, a, cell, h1, h2, h3, h4, h5, h6, h7, h8, h9, h10⟩ := h
  exact ⟨c, k, i, f, a, cell, h1, h2, h3, h4, by rw [hq a (Array.getElem?_eq_some_iff.mp h5).1 h10]; exact h5, h6, h7, h8, h9, h10⟩
theorem vx_L.narrow {C n d : String} {A B : Nat → Prop} {U : State} {H : Heap} (h : vx_L C n d A U H) (hAB : ∀ q, B q → A q) : vx_L C n d B U H := by
  obtain ⟨c, k, i, f, a, cell, h1, h2, h3, h4, h5, h6, h7, h8, h9, h10⟩ := h
  exact ⟨c, k, i, f, a, cell, h1, h2, h3, h4, h5, h6, h7, h8, h9, fun z => h10 (hAB _ z)⟩
theorem vx_L.word {C n d : String} {A : Nat → Prop} {s : State} {args : Array Value} (h : vx_L C n d A s s.heap) : (Cond.laysStatic C n d).before args s = true := by
  obtain ⟨c, k, i, f, a, cell, h1, h2, h3, h4, h5, h6, h7, h8, h9, -⟩ := h
  show (Cond.laysStatic C n d).holds args s none s [] = true
  exact Cond.laysStatic_of h1 h2 h3 h4 h5 h6 h7 h8 h9
/-- .. and what it holds: null or some reference -/
def vx_Zq (C n d : String) (A : Nat → Prop) (U : State) (H : Heap) : Prop := va_Zq C n d A U H ∧ vx_L C n d A U H
theorem vx_Zq.moved {C n d : String} {A : Nat → Prop} {u U : State} {H : Heap} (hvm : u.vm.Alike U.vm) (h : vx_Zq C n d A u H) : vx_Zq C n d A U H := ⟨va_Zq.moved hvm h.1, vx_L.moved hvm h.2⟩
theorem vx_Zq.kept {C n d : String} {A : Nat → Prop} {U : State} {H H1 : Heap} (h : vx_Zq C n d A U H) (hq : ∀ a : Nat, a < H.size → ¬ A a → H1[a]? = H[a]?) : vx_Zq C n d A U H1 := ⟨va_Zq.kept h.1 hq, vx_L.kept h.2 hq⟩
theorem vx_Zq.narrow {C n d : String} {A B : Nat → Prop} {U : State} {H : Heap} (h : vx_Zq C n d A U H) (hAB : ∀ q, B q → A q) : vx_Zq C n d B U H := ⟨va_Zq.narrow h.1 hAB, vx_L.narrow h.2 hAB⟩
theorem vx_Zqof {args : Array Value} {s : State} {C n d : String} {A : Nat → Prop} (hl : (Cond.laysStatic C n d).before args s = true) (hini : (Cond.initialized C).before args s = true) (h : (Cond.isRef (.static C n d)).before args s = true) (hA : ∀ a : Nat, a < s.heap.size → ¬ A a) : vx_Zq C n d A s s.heap := by
  refine ⟨va_Zqof hl hini h hA, ?_⟩
  obtain ⟨c, k, i, f, a, cell, h1, h2, h3, h4, h5, h6, h7, h8, h9⟩ := Cond.laysStatic_spec hl
  exact ⟨c, k, i, f, a, cell, h1, h2, h3, h4, h5, h6, h7, h8, h9, hA a (Array.getElem?_eq_some_iff.mp h5).1⟩
theorem vx_isRef {C n d : String} {v : Value} {A : Nat → Prop} {s : State} {args : Array Value} (h : va_Z C n d v A s s.heap) (hv : v.isRef = true) : (Cond.isRef (.static C n d)).before args s = true := by
  obtain ⟨cf, kf, fi, f, a, cell, h1, h2, h3, h4, h5, h6, h7, -⟩ := h
  have he : (Term.static C n d).eval args s none [] s = some v := by
    simp [Term.eval, State.fieldNamed?, h1, h2, h4, h5, h6, h7]
  simp only [Cond.before, Cond.holds, Cond.value, he]
  cases v <;> simp_all [Value.isRef]
theorem vx_isRefq {C n d : String} {A : Nat → Prop} {s : State} {args : Array Value} (h : va_Zq C n d A s s.heap) : (Cond.isRef (.static C n d)).before args s = true := by
  rcases h with h | ⟨t, h⟩
  · exact vx_isRef h rfl
  · exact vx_isRef h rfl
/-- the same frame, seen from here: as if the method were called anew in this heap -/
theorem vx_rebase {T : State} (X : Stand p l e R s m args below meth c T locs cells slots) {R' : Room} (hf : R'.frames ≤ R.frames) (hl : R'.locals ≤ R.locals) (hc : cells + R'.cells ≤ R.cells) (hs : slots + R'.slots ≤ R.slots) :
    Stand p l e R' ((T.setVm s.vm).setFrames (.invoking m args :: below)) m args below meth c T [] 0 0 := by
  have htop : (T.setVm s.vm).topJava?.isSome := X.here.top
  have hF : ((T.setVm s.vm).setFrames (.invoking m args :: below)).frames = .invoking m args :: below := State.frames_setFrames _ (State.cur_lt_of_top htop)
  obtain ⟨g₀, hg0⟩ := Option.isSome_iff_exists.mp htop
  obtain ⟨r, hr⟩ := State.topJava?_eq_some.mp hg0
  have hl9 : e.platform.stackLimits (T.setVm s.vm).me = e.platform.stackLimits s.me := X.limits
  have hb9 : (T.setVm s.vm).me.stackBytes = s.me.stackBytes := X.bytes
  refine ⟨X.admits, X.cas, X.clock, hF, ?_, X.hears, X.method, X.code, X.here, X.tail, X.warmed, ?_, ?_, ?_⟩
  · have h := X.room
    have hU : ((T.setVm s.vm).setFrames (.invoking m args :: below)).localsInUse = s.localsInUse := by
      rw [State.localsInUse_invoking hF (meth := meth) (c := c) X.method X.code, State.localsInUse_invoking X.frames X.method X.code]
    simp only [State.hasRoom, Bool.and_eq_true, decide_eq_true_eq] at h ⊢
    obtain ⟨⟨⟨⟨h1, h2, h3, h4, h5, h6⟩, h7⟩, h8⟩, h9⟩ := h
    rw [X.frames, List.length_cons] at h2 h3
    have q1 := X.heapSize
    have q2 := X.used
    simp only [hF, hU, List.length_cons, State.stackLimits_setFrames, State.stackBytes_setFrames, hl9, hb9]
    refine ⟨⟨⟨⟨by omega, by omega, by omega, by omega, by omega, h6⟩, ?_⟩, ?_⟩, X.book⟩
    · show T.heap.size + R'.cells ≤ e.platform.maxCells
      omega
    · show T.slotsUsed + R'.slots ≤ e.platform.maxSlots
      omega
  · rw [State.stackLimits_setFrames]; rfl
  · rw [State.stackBytes_setFrames]; rfl
  · refine ⟨?_, Nat.le_refl _, Nat.le_refl _, ?_, ?_, fun a c9 h9 => ⟨c9, h9, rfl, rfl, fun _ _ => rfl⟩⟩
    · obtain ⟨t, ht, -⟩ := State.frames_cons hr
      show T.setVm s.vm = { ((T.setVm s.vm).setFrames (.invoking m args :: below)).setFrames (T.setVm s.vm).frames with heap := T.heap, slotsUsed := T.slotsUsed }
      rw [State.setFrames_setFrames, State.setFrames_self ht]
      rfl
    · show T.slotsUsed = T.slotsUsed + ((T.heap.toList.drop T.heap.size).map (·.slots.size)).sum
      rw [List.drop_eq_nil_of_le (Nat.le_of_eq Array.length_toList)]
      rfl
    · show ((T.heap.toList.drop T.heap.size).map (·.slots.size)).sum ≤ 0
      rw [List.drop_eq_nil_of_le (Nat.le_of_eq Array.length_toList)]
      exact Nat.le_refl _
/-- 'throw new E()': new; dup; invokespecial; athrow -/
theorem vx_throw0 {cc : ByteArray} {pc : Nat} (hexec : p.tables.exec = Jvm.exec) (hb : c.code = cc) (hl : l.stackTraces = false) {own cls : String} {names : List String} {ik ic mc ms : Nat} {A : Nat → Prop}
    (hown : s.vm.findClass own = some m.cls) (hcls : Bundle.fit cls = true) (hnames : ∀ n ∈ names, Bundle.fit n = true)
    (hk : (Cond.classLink own ik cls).before args s = true) (hini : (Cond.initialized cls).before args s = true) (hat : ∀ w ∈ vx_at0 own ic cls names, w.before args s = true)
    (hgood : ∀ w ∈ Cond.classLink own ik cls :: Cond.initialized cls :: vx_at0 own ic cls names, vx_ot w = true)
    (hU : vx_Zq Bundle.tN "UNASSIGNED_STACK" Bundle.steD A s s.heap) (hN : vx_Zq Bundle.tN "SUPPRESSED_SENTINEL" Bundle.listD A s s.heap) (hS : va_S A s.heap H locs) (hsize : ls.size = c.maxLocals)
    (d0 : decode cc pc = .ok (.new ik, 3)) (d3 : decode cc (pc + 3) = .ok (.dup, 1)) (d4 : decode cc (pc + 4) = .ok (.invokespecial ic, 3)) (d7 : decode cc (pc + 7) = .ok (.athrow, 1))
    (hout : ∀ x ∈ c.exceptionTable.toList, covers x (pc + 7) = false)
    (hRframes : names.length + 3 < R.frames) (hRlocals : (rest.map fun v => v.category).sum + (13 * (names.length + 1) + 42) ≤ R.locals) (hRcells : cells + 1 ≤ R.cells) (hRslots : slots + 6 ≤ R.slots) (hlocks : meth.locks = false)
    (hx : ∀ t : State, s.vm.Alike t.vm → H.size ≤ t.heap.size → (∀ q : Nat, q < H.size → t.heap[q]? = H[q]?) → XC cls s t)
    (hf : ∀ z ∈ locs, free z.base) (hc : cells + 1 ≤ mc) (hs : slots + 6 ≤ ms) :
    W p l e R s m args below meth c H locs cells slots (vx_MQ below Qc XC args s mc ms free) (F0 m pc ls rest) := by
  intro T hT X
  have htr : e.platform.stackTraces = false := (show e.platform.stackTraces = l.stackTraces by rw [X.admits.platform]).trans hl
  have Y := vx_rebase X (R' := { frames := R.frames, locals := R.locals, cells := 1, slots := 6 }) (Nat.le_refl _) (Nat.le_refl _) hRcells hRslots
  obtain ⟨s', hA⟩ : ∃ z, z = (T.setVm s.vm).setFrames (.invoking m args :: below) := ⟨_, rfl⟩
  rw [← hA] at Y
  have hvm : s'.vm = s.vm := by rw [hA]; rfl
  have hhp : s'.heap = H := by rw [hA]; exact hT
  have hW0 : s.WarmedH s'.vm := by rw [hvm]; exact State.WarmedH.refl s
  have hat' : ∀ w ∈ vx_at0 own ic cls names, w.before args s' = true := fun w hw => vx_ot_at hW0 hvm.symm (hgood w (List.mem_cons_of_mem _ (List.mem_cons_of_mem _ hw))) (hat w hw)
  have hk' : (Cond.classLink own ik cls).before args s' = true := vx_ot_at hW0 hvm.symm (hgood _ List.mem_cons_self) hk
  have hini' : (Cond.initialized cls).before args s' = true := vx_ot_at hW0 hvm.symm (hgood _ (List.mem_cons_of_mem _ List.mem_cons_self)) hini
  have hU' : vx_Zq Bundle.tN "UNASSIGNED_STACK" Bundle.steD A s' s'.heap := by rw [hhp]; exact vx_Zq.moved hW0.alike (hU.kept hS.2.1)
  have hN' : vx_Zq Bundle.tN "SUPPRESSED_SENTINEL" Bundle.listD A s' s'.heap := by rw [hhp]; exact vx_Zq.moved hW0.alike (hN.kept hS.2.1)
  have h : ∀ w ∈ Bundle.ownAtoms0 own ic cls names, w.before args s' = true := vx_own hat' (vx_isRefq hU'.1) (vx_isRefq hN'.1) hU'.2.word hN'.2.word
  have hown' : s'.vm.findClass own = some m.cls := by rw [hvm]; exact hown
  have hins : (Cond.instantiable cls 6).before args s' = true := h _ (by simp [Bundle.ownAtoms0])
  obtain ⟨vm₁, cX, kX, hfX, hkX, -, -, X₁, st1⟩ := Y.newCold hexec (own := own) (C := cls) (index := ik) (n := 6) hown' hk' hins hini'
    (g := F0 m pc ls rest) rfl (by rw [hb]; exact d0) (Nat.le_refl _) (Nat.le_refl _)
  generalize hT1 : (T.setVm vm₁).pushCell { cls := cX, slots := kX.instanceTypes.map defaultValue, vm := .none } = T1 at X₁ st1
  have hcat : (Value.ref T.heap.size).category = 1 := rfl
  have hcellA : T1.heap[T.heap.size]? = some (freshCell cX kX) := by rw [← hT1]; exact State.heap_pushCell_size _ _
  have d3' : decode c.code (pc + 3) = .ok (.dup, 1) := by rw [hb]; exact d3
  obtain ⟨U, hsteps, hrun, hend, hW, hsame, ce, hce, hO⟩ := X₁.ctorThrow0 hexec htr (own := own) (cls := cls) (names := names) (ic := ic) hown' hcls hnames h (fun x hx => nomatch hx) hfX hkX hcellA (by rw [hhp, hT]; exact Nat.le_refl _)
    (g := { method := m, pc := pc + 4, locals := ls, stack := .ref T.heap.size :: .ref T.heap.size :: rest, locked := none }) rfl hsize rfl rfl (rest := rest) rfl
    (by rw [hb]; exact d4) (by rw [hb]; exact d7) hout hRframes (by simp only [List.map_cons, List.sum_cons, hcat]; omega) hlocks
  obtain ⟨f1, f2⟩ := vx_frame hsame
  rw [hhp] at f1 f2
  have hWs : s.WarmedH U.vm := State.WarmedH.trans hW0 hW
  have hcl : s.vm.findClass cls = some ce.cls := by
    have h9 := hO.cls
    rw [hvm] at h9
    exact h9
  have hall : s.sameButNew ({ U with vm := s.vm } : State) locs mc ms := by
    subst hA
    obtain ⟨e1, e2⟩ := hsame
    rw [State.setFrames_setFrames] at e1
    have h2 : (T.setVm s.vm).sameButNew ({ U with vm := s.vm } : State) [] (0 + 1) (0 + 6) := ⟨e1, e2⟩
    have h3 := X.same.trans h2
    rw [List.append_nil] at h3
    exact h3.mono hc hs
  refine ⟨U, ?_, .threw T.heap.size, hrun, hend, Or.inr ⟨T.heap.size, rfl, cls, ce, locs, hx U hWs.alike f1 (fun q hq => f2 q hq (fun z hz => nomatch hz)), hce, hO.vm, hcl, hWs, hall, hf⟩⟩
  refine st1 _ ?_
  show Steps p.tables e below (T1.setTop { method := m, pc := pc + 3, locals := ls, stack := .ref T.heap.size :: rest, locked := none }) _
  jvm_step X₁.here [X₁.here.top, hexec, d3', Value.category]
  exact hsteps
/-- 'throw new E("text")': new; dup; ldc; invokespecial; athrow -/
theorem vx_throwS {cc : ByteArray} {pc : Nat} (hexec : p.tables.exec = Jvm.exec) (hb : c.code = cc) (hl : l.stackTraces = false) {own cls text : String} {names : List String} {ik is ic mc ms sa : Nat} {A : Nat → Prop}
    (hown : s.vm.findClass own = some m.cls) (hcls : Bundle.fit cls = true) (hnames : ∀ n ∈ names, Bundle.fit n = true)
    (hk : (Cond.classLink own ik cls).before args s = true) (hini : (Cond.initialized cls).before args s = true) (hstr : vk_R own is text sa s) (hat : ∀ w ∈ vx_atS own ic cls names, w.before args s = true)
    (hgood : ∀ w ∈ Cond.classLink own ik cls :: Cond.initialized cls :: vx_atS own ic cls names, vx_ot w = true)
    (hU : vx_Zq Bundle.tN "UNASSIGNED_STACK" Bundle.steD A s s.heap) (hN : vx_Zq Bundle.tN "SUPPRESSED_SENTINEL" Bundle.listD A s s.heap) (hS : va_S A s.heap H locs) (hsize : ls.size = c.maxLocals)
    (d0 : decode cc pc = .ok (.new ik, 3)) (d3 : decode cc (pc + 3) = .ok (.dup, 1)) (d4 : decode cc (pc + 4) = .ok (.ldc is, 2)) (d6 : decode cc (pc + 6) = .ok (.invokespecial ic, 3)) (d9 : decode cc (pc + 9) = .ok (.athrow, 1))
    (hout : ∀ x ∈ c.exceptionTable.toList, covers x (pc + 9) = false)
    (hRframes : names.length + 3 < R.frames) (hRlocals : (rest.map fun v => v.category).sum + (13 * (names.length + 1) + 43) ≤ R.locals) (hRcells : cells + 1 ≤ R.cells) (hRslots : slots + 6 ≤ R.slots) (hlocks : meth.locks = false)
    (hx : ∀ t : State, s.vm.Alike t.vm → H.size ≤ t.heap.size → (∀ q : Nat, q < H.size → t.heap[q]? = H[q]?) → XC cls s t)
    (hf : ∀ z ∈ locs, free z.base) (hc : cells + 1 ≤ mc) (hs : slots + 6 ≤ ms) :
    W p l e R s m args below meth c H locs cells slots (vx_MQ below Qc XC args s mc ms free) (F0 m pc ls rest) := by
  intro T hT X
  have htr : e.platform.stackTraces = false := (show e.platform.stackTraces = l.stackTraces by rw [X.admits.platform]).trans hl
  have Y := vx_rebase X (R' := { frames := R.frames, locals := R.locals, cells := 1, slots := 6 }) (Nat.le_refl _) (Nat.le_refl _) hRcells hRslots
  obtain ⟨s', hA⟩ : ∃ z, z = (T.setVm s.vm).setFrames (.invoking m args :: below) := ⟨_, rfl⟩
  rw [← hA] at Y
  have hvm : s'.vm = s.vm := by rw [hA]; rfl
  have hhp : s'.heap = H := by rw [hA]; exact hT
  have hW0 : s.WarmedH s'.vm := by rw [hvm]; exact State.WarmedH.refl s
  have hat' : ∀ w ∈ vx_atS own ic cls names, w.before args s' = true := fun w hw => vx_ot_at hW0 hvm.symm (hgood w (List.mem_cons_of_mem _ (List.mem_cons_of_mem _ hw))) (hat w hw)
  have hk' : (Cond.classLink own ik cls).before args s' = true := vx_ot_at hW0 hvm.symm (hgood _ List.mem_cons_self) hk
  have hini' : (Cond.initialized cls).before args s' = true := vx_ot_at hW0 hvm.symm (hgood _ (List.mem_cons_of_mem _ List.mem_cons_self)) hini
  have hU' : vx_Zq Bundle.tN "UNASSIGNED_STACK" Bundle.steD A s' s'.heap := by rw [hhp]; exact vx_Zq.moved hW0.alike (hU.kept hS.2.1)
  have hN' : vx_Zq Bundle.tN "SUPPRESSED_SENTINEL" Bundle.listD A s' s'.heap := by rw [hhp]; exact vx_Zq.moved hW0.alike (hN.kept hS.2.1)
  have h : ∀ w ∈ Bundle.ownAtoms own ic cls names, w.before args s' = true := vx_own hat' (vx_isRefq hU'.1) (vx_isRefq hN'.1) hU'.2.word hN'.2.word
  have hown' : s'.vm.findClass own = some m.cls := by rw [hvm]; exact hown
  have hins : (Cond.instantiable cls 6).before args s' = true := h _ (by simp [Bundle.ownAtoms])
  obtain ⟨vm₁, cX, kX, hfX, hkX, -, -, X₁, st1⟩ := Y.newCold hexec (own := own) (C := cls) (index := ik) (n := 6) hown' hk' hins hini'
    (g := F0 m pc ls rest) rfl (by rw [hb]; exact d0) (Nat.le_refl _) (Nat.le_refl _)
  generalize hT1 : (T.setVm vm₁).pushCell { cls := cX, slots := kX.instanceTypes.map defaultValue, vm := .none } = T1 at X₁ st1
  have hcat : (Value.ref T.heap.size).category = 1 := rfl
  have hcellA : T1.heap[T.heap.size]? = some (freshCell cX kX) := by rw [← hT1]; exact State.heap_pushCell_size _ _
  have d3' : decode c.code (pc + 3) = .ok (.dup, 1) := by rw [hb]; exact d3
  have d4' : decode c.code (pc + 4) = .ok (.ldc is, 2) := by rw [hb]; exact d4
  have hstr' : vk_R own is text sa s' := vk_R.warm hW0 hstr
  obtain ⟨U, hsteps, hrun, hend, hW, hsame, ce, hce, hO⟩ := X₁.ctorThrowS hexec htr (own := own) (cls := cls) (names := names) (ic := ic) hown' hcls hnames h (fun x hx => nomatch hx) hfX hkX hcellA (by rw [hhp, hT]; exact Nat.le_refl _) (msg := .ref sa) rfl
    (g := { method := m, pc := pc + 6, locals := ls, stack := .ref sa :: .ref T.heap.size :: .ref T.heap.size :: rest, locked := none }) rfl hsize rfl rfl (rest := rest) rfl
    (by rw [hb]; exact d6) (by rw [hb]; exact d9) hout hRframes (by simp only [List.map_cons, List.sum_cons, hcat]; omega) hlocks
  obtain ⟨f1, f2⟩ := vx_frame hsame
  rw [hhp] at f1 f2
  have hWs : s.WarmedH U.vm := State.WarmedH.trans hW0 hW
  have hcl : s.vm.findClass cls = some ce.cls := by
    have h9 := hO.cls
    rw [hvm] at h9
    exact h9
  have hall : s.sameButNew ({ U with vm := s.vm } : State) locs mc ms := by
    subst hA
    obtain ⟨e1, e2⟩ := hsame
    rw [State.setFrames_setFrames] at e1
    have h2 : (T.setVm s.vm).sameButNew ({ U with vm := s.vm } : State) [] (0 + 1) (0 + 6) := ⟨e1, e2⟩
    have h3 := X.same.trans h2
    rw [List.append_nil] at h3
    exact h3.mono hc hs
  refine ⟨U, ?_, .threw T.heap.size, hrun, hend, Or.inr ⟨T.heap.size, rfl, cls, ce, locs, hx U hWs.alike f1 (fun q hq => f2 q hq (fun z hz => nomatch hz)), hce, hO.vm, hcl, hWs, hall, hf⟩⟩
  refine st1 _ ?_
  show Steps p.tables e below (T1.setTop { method := m, pc := pc + 3, locals := ls, stack := .ref T.heap.size :: rest, locked := none }) _
  jvm_step X₁.here [X₁.here.top, hexec, d3', Value.category]
  exact X₁.ldcString hexec (own := own) (text := text) (index := is) (a := sa) hown' hstr'.1 hstr'.2
    (g := { method := m, pc := pc + 4, locals := ls, stack := .ref T.heap.size :: .ref T.heap.size :: rest, locked := none }) rfl d4' _ hsteps
/-- 'throw new E("text")', the text by a wide index -/
theorem vx_throwSW {cc : ByteArray} {pc : Nat} (hexec : p.tables.exec = Jvm.exec) (hb : c.code = cc) (hl : l.stackTraces = false) {own cls text : String} {names : List String} {ik is ic mc ms sa : Nat} {A : Nat → Prop}
    (hown : s.vm.findClass own = some m.cls) (hcls : Bundle.fit cls = true) (hnames : ∀ n ∈ names, Bundle.fit n = true)
    (hk : (Cond.classLink own ik cls).before args s = true) (hini : (Cond.initialized cls).before args s = true) (hstr : vk_R own is text sa s) (hat : ∀ w ∈ vx_atS own ic cls names, w.before args s = true)
    (hgood : ∀ w ∈ Cond.classLink own ik cls :: Cond.initialized cls :: vx_atS own ic cls names, vx_ot w = true)
    (hU : vx_Zq Bundle.tN "UNASSIGNED_STACK" Bundle.steD A s s.heap) (hN : vx_Zq Bundle.tN "SUPPRESSED_SENTINEL" Bundle.listD A s s.heap) (hS : va_S A s.heap H locs) (hsize : ls.size = c.maxLocals)
    (d0 : decode cc pc = .ok (.new ik, 3)) (d3 : decode cc (pc + 3) = .ok (.dup, 1)) (d4 : decode cc (pc + 4) = .ok (.ldc_w is, 3)) (d7 : decode cc (pc + 7) = .ok (.invokespecial ic, 3)) (d10 : decode cc (pc + 10) = .ok (.athrow, 1))
    (hout : ∀ x ∈ c.exceptionTable.toList, covers x (pc + 10) = false)
    (hRframes : names.length + 3 < R.frames) (hRlocals : (rest.map fun v => v.category).sum + (13 * (names.length + 1) + 43) ≤ R.locals) (hRcells : cells + 1 ≤ R.cells) (hRslots : slots + 6 ≤ R.slots) (hlocks : meth.locks = false)
    (hx : ∀ t : State, s.vm.Alike t.vm → H.size ≤ t.heap.size → (∀ q : Nat, q < H.size → t.heap[q]? = H[q]?) → XC cls s t)
    (hf : ∀ z ∈ locs, free z.base) (hc : cells + 1 ≤ mc) (hs : slots + 6 ≤ ms) :
    W p l e R s m args below meth c H locs cells slots (vx_MQ below Qc XC args s mc ms free) (F0 m pc ls rest) := by
  intro T hT X
  have htr : e.platform.stackTraces = false := (show e.platform.stackTraces = l.stackTraces by rw [X.admits.platform]).trans hl
  have Y := vx_rebase X (R' := { frames := R.frames, locals := R.locals, cells := 1, slots := 6 }) (Nat.le_refl _) (Nat.le_refl _) hRcells hRslots
  obtain ⟨s', hA⟩ : ∃ z, z = (T.setVm s.vm).setFrames (.invoking m args :: below) := ⟨_, rfl⟩
  rw [← hA] at Y
  have hvm : s'.vm = s.vm := by rw [hA]; rfl
  have hhp : s'.heap = H := by rw [hA]; exact hT
  have hW0 : s.WarmedH s'.vm := by rw [hvm]; exact State.WarmedH.refl s
  have hat' : ∀ w ∈ vx_atS own ic cls names, w.before args s' = true := fun w hw => vx_ot_at hW0 hvm.symm (hgood w (List.mem_cons_of_mem _ (List.mem_cons_of_mem _ hw))) (hat w hw)
  have hk' : (Cond.classLink own ik cls).before args s' = true := vx_ot_at hW0 hvm.symm (hgood _ List.mem_cons_self) hk
  have hini' : (Cond.initialized cls).before args s' = true := vx_ot_at hW0 hvm.symm (hgood _ (List.mem_cons_of_mem _ List.mem_cons_self)) hini
  have hU' : vx_Zq Bundle.tN "UNASSIGNED_STACK" Bundle.steD A s' s'.heap := by rw [hhp]; exact vx_Zq.moved hW0.alike (hU.kept hS.2.1)
  have hN' : vx_Zq Bundle.tN "SUPPRESSED_SENTINEL" Bundle.listD A s' s'.heap := by rw [hhp]; exact vx_Zq.moved hW0.alike (hN.kept hS.2.1)
  have h : ∀ w ∈ Bundle.ownAtoms own ic cls names, w.before args s' = true := vx_own hat' (vx_isRefq hU'.1) (vx_isRefq hN'.1) hU'.2.word hN'.2.word
  have hown' : s'.vm.findClass own = some m.cls := by rw [hvm]; exact hown
  have hins : (Cond.instantiable cls 6).before args s' = true := h _ (by simp [Bundle.ownAtoms])
  obtain ⟨vm₁, cX, kX, hfX, hkX, -, -, X₁, st1⟩ := Y.newCold hexec (own := own) (C := cls) (index := ik) (n := 6) hown' hk' hins hini'
    (g := F0 m pc ls rest) rfl (by rw [hb]; exact d0) (Nat.le_refl _) (Nat.le_refl _)
  generalize hT1 : (T.setVm vm₁).pushCell { cls := cX, slots := kX.instanceTypes.map defaultValue, vm := .none } = T1 at X₁ st1
  have hcat : (Value.ref T.heap.size).category = 1 := rfl
  have hcellA : T1.heap[T.heap.size]? = some (freshCell cX kX) := by rw [← hT1]; exact State.heap_pushCell_size _ _
  have d3' : decode c.code (pc + 3) = .ok (.dup, 1) := by rw [hb]; exact d3
  have d4' : decode c.code (pc + 4) = .ok (.ldc_w is, 3) := by rw [hb]; exact d4
  have hstr' : vk_R own is text sa s' := vk_R.warm hW0 hstr
  obtain ⟨U, hsteps, hrun, hend, hW, hsame, ce, hce, hO⟩ := X₁.ctorThrowS hexec htr (own := own) (cls := cls) (names := names) (ic := ic) hown' hcls hnames h (fun x hx => nomatch hx) hfX hkX hcellA (by rw [hhp, hT]; exact Nat.le_refl _) (msg := .ref sa) rfl
    (g := { method := m, pc := pc + 7, locals := ls, stack := .ref sa :: .ref T.heap.size :: .ref T.heap.size :: rest, locked := none }) rfl hsize rfl rfl (rest := rest) rfl
    (by rw [hb]; exact d7) (by rw [hb]; exact d10) hout hRframes (by simp only [List.map_cons, List.sum_cons, hcat]; omega) hlocks
  obtain ⟨f1, f2⟩ := vx_frame hsame
  rw [hhp] at f1 f2
  have hWs : s.WarmedH U.vm := State.WarmedH.trans hW0 hW
  have hcl : s.vm.findClass cls = some ce.cls := by
    have h9 := hO.cls
    rw [hvm] at h9
    exact h9
  have hall : s.sameButNew ({ U with vm := s.vm } : State) locs mc ms := by
    subst hA
    obtain ⟨e1, e2⟩ := hsame
    rw [State.setFrames_setFrames] at e1
    have h2 : (T.setVm s.vm).sameButNew ({ U with vm := s.vm } : State) [] (0 + 1) (0 + 6) := ⟨e1, e2⟩
    have h3 := X.same.trans h2
    rw [List.append_nil] at h3
    exact h3.mono hc hs
  refine ⟨U, ?_, .threw T.heap.size, hrun, hend, Or.inr ⟨T.heap.size, rfl, cls, ce, locs, hx U hWs.alike f1 (fun q hq => f2 q hq (fun z hz => nomatch hz)), hce, hO.vm, hcl, hWs, hall, hf⟩⟩
  refine st1 _ ?_
  show Steps p.tables e below (T1.setTop { method := m, pc := pc + 3, locals := ls, stack := .ref T.heap.size :: rest, locked := none }) _
  jvm_step X₁.here [X₁.here.top, hexec, d3', Value.category]
  exact X₁.ldcStringW hexec (own := own) (text := text) (index := is) (a := sa) hown' hstr'.1 hstr'.2
    (g := { method := m, pc := pc + 4, locals := ls, stack := .ref T.heap.size :: .ref T.heap.size :: rest, locked := none }) rfl d4' _ hsteps
end Ends
section Bodies
variable {l : Launch}
theorem vx_ofW {y : MethodName} {ws ws' : List Cond} {rm : Room} {Pc : Array Value → State → Prop} {Qc : Array Value → State → Outcome → State → Prop} {XC : String → State → State → Prop} {mc ms : Nat} {free : Addr → Prop} {cc : ByteArray} {maxL : Nat} {ret : Option FieldType}
    (hy : plainName y.cls = true) (hw : ws = Cond.code y cc maxL ret :: ws')
    (body : ∀ p e s m args below meth c s₁, BodyLoose p l y (headSpec ws rm) cc maxL ret e s m args below meth c s₁ → c.maxLocals = maxL → (∀ x ∈ c.exceptionTable.toList, False) → Pc args s →
      W p l e (headSpec ws rm).room s m args below meth c s.heap [] 0 0 (vx_MQ below Qc XC args s mc ms free) (entryFrame m args maxL)) : vx_Met l y ws rm Pc Qc XC mc ms free := by
  refine MetFree.of_bodyS (code := cc) (maxLocals := maxL) (ret := ret) hy ?_ ?_
  · intro args s m h hn
    obtain ⟨meth, c, h1, h2, h3, h4, h5, h6, -, -⟩ := Cond.code_spec hn (atoms_spec (ws := ws) h _ (by rw [hw]; exact List.mem_cons_self))
    exact ⟨meth, c, h1, h2, h3, h4, h5, h6⟩
  · intro p e s m args below meth c s₁ B hml hP _
    have hh0 : s₁.heap = s.heap := by rw [B.state]; rfl
    have ht : ∀ x ∈ c.exceptionTable.toList, False := by
      obtain ⟨meth9, c9, h1, h2, -, -, -, -, h7, -⟩ := Cond.code_spec B.named (atoms_spec (ws := ws) B.pre _ (by rw [hw]; exact List.mem_cons_self))
      cases Option.some.inj (h1.symm.trans B.method)
      cases Option.some.inj (h2.symm.trans (Stand.of_body B).code)
      intro x hx
      rw [Array.isEmpty_iff.mp h7] at hx
      cases hx
    obtain ⟨t, a1, o, b1, b2, b3⟩ := body p e s m args below meth c s₁ B hml ht hP s₁ hh0 (Stand.of_body B)
    exact ⟨t, o, a1, b1, b2, b3⟩
/-- the table of a body with handlers -/
theorem vx_table {p : Program} {x y : MethodName} {S : Spec} {cc bytes : ByteArray} {maxL maxL' : Nat} {ret ret' : Option FieldType} {e : Env} {s s₁ : State} {m : MethodId} {args : Array Value} {below : List Frame} {meth : Method} {c : Code} {hh : List (Nat × Nat × Nat × Nat)}
    (B : BodyLoose p l y S cc maxL ret e s m args below meth c s₁) (h : (Cond.codeWith y bytes maxL' ret' hh).before args s = true) : c.exceptionTable.toList = tableOf hh := by
  obtain ⟨m9, meth9, c9, hn9, h1, h2, -, -, h6, -⟩ := Cond.codeWith_spec h
  cases Option.some.inj (hn9.symm.trans B.named)
  cases Option.some.inj (h1.symm.trans B.method)
  cases Option.some.inj (h2.symm.trans (Stand.of_body B).code)
  rw [← h6, table_eq]
end Bodies
end VXA
/-! ===== END ===== -/
/-! ===== BEGIN a static call of a method with an exception table ===== -/
section VXS
variable {p : Program} {l : Launch} {e : Env} {R : Room} {s : State} {m : MethodId} {args : Array Value} {below : List Frame} {meth : Method} {c : Code} {T : State} {H : Heap} {locs : List Loc} {cells slots : Nat}
abbrev vx_CSW (R : Room) (s : State) (args : Array Value) (own : String) (index : Nat) (y : MethodName) (bytes : ByteArray) (maxL : Nat) (ret : Option FieldType) (hh : List (Nat × Nat × Nat × Nat)) (ws : List Cond) (rm : Room) (mc ms n : Nat) : Prop :=
  (rm.cells = mc ∧ rm.slots = ms ∧ rm.frames + 1 ≤ R.frames ∧ 8 + (maxL + 11) + rm.locals ≤ R.locals ∧ (∀ w ∈ ws, ∀ (a' : Array Value) (U : State), s.WarmedH U.vm → w.before a' U = true) ∧ Cond.codeWith y bytes maxL ret hh ∈ ws) ∧
  (Cond.codeWith y bytes maxL ret hh).before args s = true ∧ (Cond.initialized y.cls).before args s = true ∧ (y.cls ≠ "java/lang/invoke/MethodHandle" ∧ y.cls ≠ "java/lang/invoke/VarHandle") ∧
  (∀ sig, parseMethodDescriptor y.desc = some sig → n = sig.parameters.length) ∧ (Cond.methodLink own index y).before args s = true ∧ (Cond.static y).before args s = true
theorem vx_cwSW {own : String} {index maxL mc ms : Nat} {y : MethodName} {bytes : ByteArray} {ret : Option FieldType} {hh : List (Nat × Nat × Nat × Nat)} {Ts ws ws' : List Cond} {rm : Room} (n : Nat) (ht : ∀ w ∈ Ts, w.before args s = true) (hT : GoodIn Ts (va_wsS own index y ws)) (hw : ws = Cond.codeWith y bytes maxL ret hh :: ws') (hrc : rm.cells = mc) (hrs : rm.slots = ms)
    (hd : y.cls ≠ "java/lang/invoke/MethodHandle" ∧ y.cls ≠ "java/lang/invoke/VarHandle" ∧ (parseMethodDescriptor y.desc).map (fun d => d.parameters.length) = some n) (hR : rm.frames + 1 ≤ R.frames ∧ 8 + (maxL + 11) + rm.locals ≤ R.locals) :
    vx_CSW R s args own index y bytes maxL ret hh ws rm mc ms n := by
  have ok : ∀ w ∈ va_wsS own index y ws, w.before args s = true := fun w h => ht w (hT w h).1
  have hG : GoodIn Ts ws := fun w h => hT w (by unfold va_wsS; exact List.mem_append_right _ h)
  have hc : Cond.codeWith y bytes maxL ret hh ∈ ws := by rw [hw]; exact List.mem_cons_self
  refine ⟨⟨hrc, hrs, hR.1, hR.2, pay_in ht hG, hc⟩, ht _ (hG _ hc).1, ok _ (by simp [va_wsS]), ⟨hd.1, hd.2.1⟩, fun sig h => ?_, ok _ (by simp [va_wsS]), ok _ (by simp [va_wsS])⟩
  have h2 := hd.2.2
  rw [h] at h2
  exact (Option.some.inj h2).symm
theorem vx_callSW (X : Stand p l e R s m args below meth c T locs cells slots) (hexec : p.tables.exec = Jvm.exec) {own : String} {index : Nat} {y : MethodName} {bytes : ByteArray} {maxL : Nat} {ret : Option FieldType} {hh : List (Nat × Nat × Nat × Nat)}
    (hown : s.vm.findClass own = some m.cls) (hlink : (Cond.methodLink own index y).before args s = true) (hstat : (Cond.static y).before args s = true) (hinit : (Cond.initialized y.cls).before args s = true)
    (hcode : (Cond.codeWith y bytes maxL ret hh).before args s = true) (hy : y.cls ≠ "java/lang/invoke/MethodHandle" ∧ y.cls ≠ "java/lang/invoke/VarHandle")
    {W9 : Nat} {Pre : Pt → Array Value → Prop} {Post : Pt → Array Value → Option Value → Pt → Prop} (hK : Back l R p e below s args y 3 W9 Pre Post)
    {g : JFrame} (hg : g.method = m) (hsize : g.locals.size = c.maxLocals) {argsL rest : List Value} (hlen : ∀ sig, parseMethodDescriptor y.desc = some sig → argsL.length = sig.parameters.length)
    (hstack : g.stack = argsL.reverse ++ rest) (hW : 2 * g.monitorRoom + (rest.map fun v => v.category).sum ≤ W9) (hdg : decode c.code g.pc = .ok (.invokestatic index, 3))
    (hpre : ∀ vm₁, s.WarmedH vm₁ → Pre ⟨T.setVm vm₁, locs, cells, slots⟩ argsL.toArray) :
    ∃ (v : Option Value) (vm₁ : Vm) (B : Pt), s.WarmedH vm₁ ∧ Stand p l e R s m args below meth c B.U B.locs B.cells B.slots ∧ Post ⟨T.setVm vm₁, locs, cells, slots⟩ argsL.toArray v B ∧
      ∀ target, Steps p.tables e below (B.U.setTop { g with pc := g.pc + 3, stack := v.toList ++ rest }) target → Steps p.tables e below (T.setTop g) target := by
  obtain ⟨mk, methM, cM, hnamed, hmethM, -, -, -, -, -, -, hsigM⟩ := Cond.codeWith_spec hcode
  have hstatic : methM.isStatic = true := Cond.static_spec hnamed hmethM hstat
  obtain ⟨kP, hkP, -⟩ := className_of_methodNamed hnamed
  have hinitP : kP.init = .initialized := Cond.initialized_spec (findClass_of_methodNamed hnamed) hkP hinit
  obtain ⟨vm₁, X₁, hstep₁⟩ := X.invokestatic hexec hown hlink hnamed hmethM hstatic hkP hinitP hy (g := g) hg (argsL := argsL) (rest := rest) (hlen _ hsigM) hstack hdg
  obtain ⟨v, B, X', hpost, hsteps⟩ := hK m meth c ⟨T.setVm vm₁, locs, cells, slots⟩ { g with stack := rest } (.invokestatic index) mk argsL.toArray X₁ hg hsize hdg hW (X₁.named hnamed) (hpre vm₁ X₁.warmed)
  exact ⟨v, vm₁, B, X₁.warmed, X', hpost, fun target h => hstep₁ _ fun acts => by rw [doInvoke_state]; exact hsteps.trans h⟩
theorem vx_runSW {y : MethodName} {bytes cc : ByteArray} {maxL nL mc ms n index : Nat} {ret : Option FieldType} {hh : List (Nat × Nat × Nat × Nat)} {ws : List Cond} {rm : Room} {Pc : Array Value → State → Prop} {Qc : Array Value → State → Outcome → State → Prop} {free : Addr → Prop} {Ts : List Cond} {own : String} {As rest : List Value} {g : JFrame}
    (S : CallFix p m c cc nL s args Ts own) (hM : Met l y ws rm Pc Qc mc ms free) (cw : vx_CSW R s args own index y bytes maxL ret hh ws rm mc ms n) (hp : PreS s H Pc As)
    (hg : g.method = m) (hn : As.length = n) (hsize : g.locals.size = nL) (hstack : g.stack = As.reverse ++ rest) (hW : 2 * g.monitorRoom + (rest.map fun v => v.category).sum ≤ 8) (hdg : decode cc g.pc = .ok (.invokestatic index, 3)) (hf : cells + mc ≤ R.cells ∧ slots + ms ≤ R.slots) :
    va_Run p l e R s m args below meth c H locs cells slots mc ms g rest (Qc As.toArray) (free) := by
  obtain ⟨⟨hrc, hrs, hfr, hlo, hws, hcw⟩, hcode, hini, hy, hlen, hl, hstt⟩ := cw
  have hK : Back l R p e below s args y 3 8 (PreOf R mc ms Pc) (PostOf Qc mc ms free) := va_backW (hh := hh) (bytes := bytes) (maxL := maxL) (ret := ret) hM hp.1 hrc hrs hfr hlo hws hcw (fun a' U hW => word_at hW (Or.inl (by first | rfl | simp [Cond.onTables, Cond.keeps, Cond.steady])) hini)
  obtain ⟨hx, hb, hml, ho, -⟩ := S
  intro T hT X
  obtain ⟨v, vm₁, ⟨U', l2, c2, s2⟩, hW₁, X', ⟨g', mk, t, L, e1, e2, hq, h1, hL, h2, h3⟩, st⟩ := vx_callSW X hx (hh := hh) (bytes := bytes) (maxL := maxL) (ret := ret) ho hl hstt hini hcode hy hK hg (hsize.trans hml.symm) (argsL := As) (rest := rest) (fun sig h => hn.trans (hlen sig h)) hstack hW (by rw [hb]; exact hdg)
    (fun vm₁ hW₁ => ⟨hf.1, hf.2, hp.2 (T.setVm vm₁) hT hW₁⟩)
  dsimp only [Pt.U, Pt.locs, Pt.cells, Pt.slots] at X' e1 e2 h1 h2 h3 st
  subst h1; subst h2; subst h3
  exact ⟨v, (T.setVm vm₁).calling g' mk As.toArray, t, U', L, hT, X', hL, e1, e2, hq, st⟩
/-- not caught here, past rows that name other classes: it goes on to the caller -/
theorem vx_outP {p : Program} {l : Launch} {e : Env} {R : Room} {s : State} {m : MethodId} {args : Array Value} {below : List Frame} {meth : Method} {c : Code} {H : Heap} {locs : List Loc} {cells slots : Nat} {free : Addr → Prop} {ls : Array Slot} {rest : List Value} {Qc : Array Value → State → Outcome → State → Prop} {XC : String → State → State → Prop}
    {pc : Nat} {own E : String} {ce : Cell} {q : Addr} {mc ms : Nat} (hown : s.vm.findClass own = some m.cls) (hlocks : meth.locks = false)
    (hpass : ∀ z ∈ c.exceptionTable.toList, covers z pc = false ∨ (z.catchType ≠ 0 ∧ ∃ nm : String, (Cond.classLink own z.catchType nm).before args s = true ∧ va_Nc E nm s)) (hcell : H[q]? = some ce) (hv : ce.vm = .none) (hcl : s.vm.findClass E = some ce.cls)
    (hx : ∀ t : State, t.heap = H → s.vm.Alike t.vm → XC E s t) (hf : ∀ z ∈ locs, free z.base) (hc : cells ≤ mc) (hs : slots ≤ ms) :
    vx_W p l e R s m args below meth c H locs cells slots (vx_MQ below Qc XC args s mc ms free) (F0 m pc ls rest) q := by
  intro T hT X
  have hpl : e.platform.magicAccessors = ({} : Platform).magicAccessors := by rw [X.admits.platform]
  obtain ⟨vm', hW', X', st⟩ := X.outThrough hlocks q (g := F0 m pc ls rest) rfl rfl rfl (cell := ce) (by rw [hT]; exact hcell) (by rw [hv]; rfl)
    (by obtain ⟨k9, h9, -⟩ := Vm.findClass_spec hcl; exact ⟨k9, h9⟩) (fun z hz => by
      rcases hpass z hz with h | ⟨hz0, nm, hl1, hn1⟩
      · exact Or.inl h
      · obtain ⟨c6, hc6, hcl6⟩ := Cond.classLink_spec hown hl1 e.platform hpl
        obtain ⟨a8, b8, h1, h2, h3⟩ := hn1
        cases Option.some.inj (h1.symm.trans hcl)
        cases Option.some.inj (h2.symm.trans hc6)
        exact Or.inr ⟨hz0, _, hcl6, h3⟩)
  obtain ⟨g₀, hfr⟩ := X'.frames_eq
  have hcell9 : ((T.setVm vm').setFrames (.throwing q :: below)).heap[q]? = some ce := by
    show T.heap[q]? = some ce
    rw [hT]; exact hcell
  have hend : Ended ((T.setVm vm').setFrames (.throwing q :: below)) below (.threw q) := State.frames_setFrames _ (State.cur_lt_of_frames hfr)
  refine ⟨(T.setVm vm').setFrames (.throwing q :: below), ?_, .threw q, X'.here.running, hend, Or.inr ⟨q, rfl, E, ce, locs, hx _ hT (X'.ends _).1.alike, hcell9, hv, hcl, (X'.ends _).1, (X'.ends _).2.mono hc hs, hf⟩⟩
  rw [X.pushThrowing_eq]
  exact st
/-- a thing of a world lies in the heap -/
theorem vx_lt {D : va_G} {cl : List vw_C} {ws : va_W} {H1 : Heap} (h : va_P D cl ws H1) {k : Nat} {q : Nat × va_E} (hk : ws[k]? = some q) : q.1 < H1.size := (h k q hk).lt
end VXS
/-! ===== END ===== -/
/-! ===== BEGIN methods with a table of their own: called by a name, returning or throwing ===== -/
section VXH
/-! vx_backW, vx_callVX, vx_callSX, vx_callVW, vx_runVW, vx_runVX, vx_runSX, vx_ofWH follow the same proofs as their sisters above (Free/Laws.lean, Shelf42/LK1.lean); vx_outP calls Shelf42/NT130.lean (outThrough). -/
section
variable {l : Launch} {R : Room} {p : Program} {e : Env} {below : List Frame} {s : State} {sargs : Array Value} {y : MethodName} {len W9 : Nat}
theorem vx_backW {ws : List Cond} {rm : Room} {Pc : Array Value → State → Prop} {Qc : Array Value → State → Outcome → State → Prop} {XC : String → State → State → Prop} {mc ms : Nat} {free : Addr → Prop} {bytes : ByteArray} {maxL : Nat} {ret : Option FieldType} {hh : List (Nat × Nat × Nat × Nat)}
    (hM : vx_Met l y ws rm Pc Qc XC mc ms free) (hblind : FrameBlind Pc) (hrc : rm.cells = mc) (hrs : rm.slots = ms)
    (hframes : rm.frames + 1 ≤ R.frames) (hlocals : W9 + (maxL + 11) + rm.locals ≤ R.locals)
    (hws : ∀ w ∈ ws, ∀ a' U, s.WarmedH U.vm → w.before a' U = true) (hcode : Cond.codeWith y bytes maxL ret hh ∈ ws) (hinit : ∀ a' U, s.WarmedH U.vm → (Cond.initialized y.cls).before a' U = true) :
    vx_Back l R p e below s sargs y len W9 (PreOf R mc ms Pc) (PostOf Qc mc ms free) (vx_Post XC mc ms free) := by
  intro m meth c A g ig mk a X hg hsize hdg hW hn hp
  have h1 : (headSpec ws rm).pre.before a A.U = true := atoms_intro fun w hw => hws w hw _ _ X.warmed
  have h2 : (Cond.codeWith y bytes maxL ret hh).before a A.U = true := hws _ hcode _ _ X.warmed
  have h3 : (Cond.initialized y.cls).before a A.U = true := hinit _ _ X.warmed
  have h4 : A.cells + (headSpec ws rm).room.cells ≤ R.cells := by rw [show (headSpec ws rm).room.cells = mc from hrc]; exact hp.1
  have h5 : A.slots + (headSpec ws rm).room.slots ≤ R.slots := by rw [show (headSpec ws rm).room.slots = ms from hrs]; exact hp.2.1
  have hPc : Pc a (A.U.calling g mk a) := hblind _ _ _ _ hp.2.2
  obtain ⟨U, Ls, c0, s0⟩ := A
  dsimp only [Pt.U, Pt.locs, Pt.cells, Pt.slots] at h1 h2 h3 h4 h5 X hn hPc ⊢
  obtain ⟨m9, methY, cY, hn9, hmY, hcY, -, hlY, -⟩ := Cond.codeWith_spec h2
  cases Option.some.inj (hn9.symm.trans hn)
  obtain ⟨kY, hkY, -⟩ := className_of_methodNamed hn
  have hinitY : kY.init = .initialized := Cond.initialized_spec (findClass_of_methodNamed hn) hkY h3
  have h : At U g.method c below := by rw [hg]; exact X.here
  have hlocals9 : W9 + (maxL + 11) + (headSpec ws rm).room.locals ≤ R.locals := hlocals
  have happ : (headSpec ws rm).appliesLoose y e.platform (U.calling g mk a) = true :=
    Spec.appliesLoose_calling (g := g) h hdg hn hkY hinitY
      (X.room_calling (g := g) (R' := (headSpec ws rm).room) hsize hmY hcY hframes (by rw [hlY]; omega) h4 h5) h1
  obtain ⟨mid, hmid⟩ := h.above
  have hfr : (U.setTop g).frames = (.java g :: mid) ++ below := by rw [State.frames_setTop' g h.top, hmid]; rfl
  obtain ⟨o, s₂, hsteps, -, hend, hq⟩ := Steps.callFree hM p X.admits X.cas X.clock (acts := []) hfr happ hPc trivial
  have hq' : vx_Q Qc XC mc ms free a (U.calling g mk a) o s₂ := hq
  rw [State.frames_setTop' g h.top] at hend
  obtain ⟨g₀, hg0⟩ := Option.isSome_iff_exists.mp h.top
  obtain ⟨r, hr⟩ := State.topJava?_eq_some.mp hg0
  have hr' : (({ U with heap := s₂.heap, slotsUsed := s₂.slotsUsed } : State).setVm s₂.vm).frames = .java g₀ :: r := hr
  rcases hq' with ⟨hqc, L, hfe, hL⟩ | ⟨q, rfl, E, ce, L, hx, hce, hcv, hcl, hW₂, hsm, hL⟩
  · obtain ⟨⟨v, rfl⟩, hW₂, e2, q2, q3, q4, q5, q6⟩ := id hfe
    have e3 : s₂ = ({ (U.calling g mk a).setFrames s₂.frames with heap := s₂.heap, slotsUsed := s₂.slotsUsed } : State).setVm s₂.vm := by
      have : s₂ = ({ s₂ with vm := (U.calling g mk a).vm } : State).setVm s₂.vm := rfl
      rw [e2] at this
      exact this
    obtain ⟨c₂, i₂, len₂, hc₂, hd₂, hf₂⟩ := hend
    have hW' : U.WarmedH s₂.vm := hW₂
    have hcc : c₂ = c := by
      have h1 : s₂.code? g.method = U.code? g.method := by
        rw [State.code?_eq, State.code?_eq, hW'.alike.method?]
      exact Option.some.inj (hc₂.symm.trans (h1.trans h.code))
    subst hcc
    have hlen : len₂ = len := by rw [hdg] at hd₂; cases hd₂; rfl
    subst hlen
    have hs₂ : s₂ = (({ U with heap := s₂.heap, slotsUsed := s₂.slotsUsed } : State).setVm s₂.vm).setTop { g with pc := g.pc + len₂, stack := v.toList ++ g.stack } := by
      refine e3.trans ?_
      rw [hf₂, State.calling_eq h.top, State.setFrames_setFrames, State.setTop_of_frames _ hr', hr]
      rfl
    have hsame : U.sameButNew ({ U with heap := s₂.heap, slotsUsed := s₂.slotsUsed } : State) L mc ms := by
      refine ⟨?_, q2, q3, q4, q5, q6⟩
      obtain ⟨t, ht, -⟩ := State.frames_cons hr
      show ({ U with heap := s₂.heap, slotsUsed := s₂.slotsUsed } : State) = { U.setFrames U.frames with heap := s₂.heap, slotsUsed := s₂.slotsUsed }
      rw [State.setFrames_self ht]
    subst hg
    refine Or.inl ⟨v, ⟨(({ U with heap := s₂.heap, slotsUsed := s₂.slotsUsed } : State).setVm s₂.vm), Ls ++ L, c0 + mc, s0 + ms⟩,
      ⟨X.admits, X.cas, X.clock, X.frames, X.room, X.hears, X.method, X.code, (X.here.setHeapUsed s₂.heap s₂.slotsUsed).setVm hW'.alike, X.tail, State.WarmedH.trans X.warmed hW', X.limits, X.bytes, X.same.trans (hsame.setVm s.vm)⟩,
      ⟨g, mk, s₂, L, rfl, rfl, hqc, rfl, hL, rfl, rfl⟩, ?_⟩
    show Steps p.tables e below _ ((({ U with heap := s₂.heap, slotsUsed := s₂.slotsUsed } : State).setVm s₂.vm).setTop { g with pc := g.pc + len₂, stack := v.toList ++ g.stack })
    rw [← hs₂]
    exact hsteps
  · obtain ⟨e2, q2, q3, q4, q5, q6⟩ := id hsm
    have e3 : s₂ = ({ (U.calling g mk a).setFrames s₂.frames with heap := s₂.heap, slotsUsed := s₂.slotsUsed } : State).setVm s₂.vm := by
      have : s₂ = ({ s₂ with vm := (U.calling g mk a).vm } : State).setVm s₂.vm := rfl
      rw [e2] at this
      exact this
    have hf₂ : s₂.frames = .throwing q :: .java g :: U.frames.tail := hend
    have hW' : U.WarmedH s₂.vm := hW₂
    have hs₂ : s₂ = ((({ U with heap := s₂.heap, slotsUsed := s₂.slotsUsed } : State).setVm s₂.vm).setTop g).pushFrame (.throwing q) := by
      refine e3.trans ?_
      rw [hf₂, State.calling_eq h.top, State.setFrames_setFrames, State.pushFrame, State.frames_setTop _ hr', State.setTop_of_frames _ hr', State.setFrames_setFrames, hr]
      rfl
    have hsame : U.sameButNew ({ U with heap := s₂.heap, slotsUsed := s₂.slotsUsed } : State) L mc ms := by
      refine ⟨?_, q2, q3, q4, q5, q6⟩
      obtain ⟨t, ht, -⟩ := State.frames_cons hr
      show ({ U with heap := s₂.heap, slotsUsed := s₂.slotsUsed } : State) = { U.setFrames U.frames with heap := s₂.heap, slotsUsed := s₂.slotsUsed }
      rw [State.setFrames_self ht]
    subst hg
    refine Or.inr ⟨q, ⟨(({ U with heap := s₂.heap, slotsUsed := s₂.slotsUsed } : State).setVm s₂.vm), Ls ++ L, c0 + mc, s0 + ms⟩,
      ⟨X.admits, X.cas, X.clock, X.frames, X.room, X.hears, X.method, X.code, (X.here.setHeapUsed s₂.heap s₂.slotsUsed).setVm hW'.alike, X.tail, State.WarmedH.trans X.warmed hW', X.limits, X.bytes, X.same.trans (hsame.setVm s.vm)⟩,
      ⟨g, mk, s₂, L, E, ce, rfl, rfl, hx, hce, hcv, hcl, rfl, hL, rfl, rfl⟩, ?_⟩
    show Steps p.tables e below _ (((({ U with heap := s₂.heap, slotsUsed := s₂.slotsUsed } : State).setVm s₂.vm).setTop g).pushFrame (.throwing q))
    rw [← hs₂]
    exact hsteps
end
variable {p : Program} {l : Launch} {e : Env} {R : Room} {s : State} {m : MethodId} {args : Array Value} {below : List Frame} {meth : Method} {c : Code} {T : State} {H : Heap} {locs : List Loc} {cells slots : Nat}
theorem vx_callVX (X : Stand p l e R s m args below meth c T locs cells slots) (hexec : p.tables.exec = Jvm.exec) {own C : String} {index : Nat} {y : MethodName} {bytes : ByteArray} {maxL : Nat} {ret : Option FieldType} {hh : List (Nat × Nat × Nat × Nat)}
    (hown : s.vm.findClass own = some m.cls) (hlink : (Cond.methodLink own index y).before args s = true) (hinst : (Cond.instanceMethod y).before args s = true) (hsel : (Cond.selects C y y).before args s = true)
    (hcode : (Cond.codeWith y bytes maxL ret hh).before args s = true) (hy : y.cls ≠ "java/lang/invoke/MethodHandle" ∧ y.cls ≠ "java/lang/invoke/VarHandle")
    {W9 : Nat} {Pre : Pt → Array Value → Prop} {Post : Pt → Array Value → Option Value → Pt → Prop} {PostX : Pt → Array Value → Addr → Pt → Prop} (hK : vx_Back l R p e below s args y 3 W9 Pre Post PostX)
    {b : Addr} {cellB : Cell} (hcell : T.heap[b]? = some cellB) (hobj : cellB.vm.isStatics = false) (hcls : s.vm.findClass C = some cellB.cls)
    {g : JFrame} (hg : g.method = m) (hsize : g.locals.size = c.maxLocals) {argsL rest : List Value} (hlen : ∀ sig, parseMethodDescriptor y.desc = some sig → argsL.length = sig.parameters.length)
    (hstack : g.stack = argsL.reverse ++ .ref b :: rest) (hW : 2 * g.monitorRoom + (rest.map fun v => v.category).sum ≤ W9) (hdg : decode c.code g.pc = .ok (.invokevirtual index, 3))
    (hpre : ∀ vm₁, s.WarmedH vm₁ → Pre ⟨T.setVm vm₁, locs, cells, slots⟩ (Value.ref b :: argsL).toArray) :
    (∃ (v : Option Value) (vm₁ : Vm) (B : Pt), s.WarmedH vm₁ ∧ Stand p l e R s m args below meth c B.U B.locs B.cells B.slots ∧ Post ⟨T.setVm vm₁, locs, cells, slots⟩ (Value.ref b :: argsL).toArray v B ∧
      ∀ target, Steps p.tables e below (B.U.setTop { g with pc := g.pc + 3, stack := v.toList ++ rest }) target → Steps p.tables e below (T.setTop g) target) ∨
    (∃ (q : Addr) (vm₁ : Vm) (B : Pt), s.WarmedH vm₁ ∧ Stand p l e R s m args below meth c B.U B.locs B.cells B.slots ∧ PostX ⟨T.setVm vm₁, locs, cells, slots⟩ (Value.ref b :: argsL).toArray q B ∧
      Steps p.tables e below (T.setTop g) ((B.U.setTop { g with stack := rest }).pushFrame (.throwing q))) := by
  obtain ⟨mk, methM, hnamed, hmethM, hstM, habM⟩ := Cond.instanceMethod_spec hinst
  obtain ⟨m8, methM', cM, hn8, hmethM', -, -, -, -, -, -, hsigM⟩ := Cond.codeWith_spec hcode
  cases Option.some.inj (hn8.symm.trans hnamed)
  cases hmethM.symm.trans hmethM'
  obtain ⟨c2, r2, m2, q1, q2, q3, q4, kP, hkP, hkPi⟩ := Cond.selects_spec hsel
  cases hcls.symm.trans q1
  cases (State.methodFound?_of_named hnamed hy).symm.trans q2
  cases hnamed.symm.trans q3
  have hselP : selectMethod e.platform s.vm cellB.cls mk = .method mk := by rw [Launch.admits_selectMethod X.admits]; exact q4
  obtain ⟨vm₁, X₁, hstep₁⟩ := X.invokevirtual hexec hown hlink hnamed hmethM hstM hkP hkPi hy (a := b) (cell := cellB) hcell
    (fun z h => by rw [h] at hobj; cases hobj) hselP hmethM habM hkP hkPi (g := g) hg (argsL := argsL) (rest := rest) (hlen _ hsigM) hstack hdg
  rcases hK m meth c ⟨T.setVm vm₁, locs, cells, slots⟩ { g with stack := rest } (.invokevirtual index) mk (Value.ref b :: argsL).toArray X₁ hg hsize hdg hW (X₁.named hnamed) (hpre vm₁ X₁.warmed) with ⟨v, B, X', hpost, hsteps⟩ | ⟨q, B, X', hpost, hsteps⟩
  · exact Or.inl ⟨v, vm₁, B, X₁.warmed, X', hpost, fun target h => hstep₁ _ fun acts => by rw [doInvoke_state]; exact hsteps.trans h⟩
  · exact Or.inr ⟨q, vm₁, B, X₁.warmed, X', hpost, hstep₁ _ fun acts => by rw [doInvoke_state]; exact hsteps⟩
theorem vx_callSX (X : Stand p l e R s m args below meth c T locs cells slots) (hexec : p.tables.exec = Jvm.exec) {own : String} {index : Nat} {y : MethodName} {bytes : ByteArray} {maxL : Nat} {ret : Option FieldType} {hh : List (Nat × Nat × Nat × Nat)}
    (hown : s.vm.findClass own = some m.cls) (hlink : (Cond.methodLink own index y).before args s = true) (hstat : (Cond.static y).before args s = true) (hinit : (Cond.initialized y.cls).before args s = true)
    (hcode : (Cond.codeWith y bytes maxL ret hh).before args s = true) (hy : y.cls ≠ "java/lang/invoke/MethodHandle" ∧ y.cls ≠ "java/lang/invoke/VarHandle")
    {W9 : Nat} {Pre : Pt → Array Value → Prop} {Post : Pt → Array Value → Option Value → Pt → Prop} {PostX : Pt → Array Value → Addr → Pt → Prop} (hK : vx_Back l R p e below s args y 3 W9 Pre Post PostX)
    {g : JFrame} (hg : g.method = m) (hsize : g.locals.size = c.maxLocals) {argsL rest : List Value} (hlen : ∀ sig, parseMethodDescriptor y.desc = some sig → argsL.length = sig.parameters.length)
    (hstack : g.stack = argsL.reverse ++ rest) (hW : 2 * g.monitorRoom + (rest.map fun v => v.category).sum ≤ W9) (hdg : decode c.code g.pc = .ok (.invokestatic index, 3))
    (hpre : ∀ vm₁, s.WarmedH vm₁ → Pre ⟨T.setVm vm₁, locs, cells, slots⟩ argsL.toArray) :
    (∃ (v : Option Value) (vm₁ : Vm) (B : Pt), s.WarmedH vm₁ ∧ Stand p l e R s m args below meth c B.U B.locs B.cells B.slots ∧ Post ⟨T.setVm vm₁, locs, cells, slots⟩ argsL.toArray v B ∧
      ∀ target, Steps p.tables e below (B.U.setTop { g with pc := g.pc + 3, stack := v.toList ++ rest }) target → Steps p.tables e below (T.setTop g) target) ∨
    (∃ (q : Addr) (vm₁ : Vm) (B : Pt), s.WarmedH vm₁ ∧ Stand p l e R s m args below meth c B.U B.locs B.cells B.slots ∧ PostX ⟨T.setVm vm₁, locs, cells, slots⟩ argsL.toArray q B ∧
      Steps p.tables e below (T.setTop g) ((B.U.setTop { g with stack := rest }).pushFrame (.throwing q))) := by
  obtain ⟨mk, methM, cM, hnamed, hmethM, -, -, -, -, -, -, hsigM⟩ := Cond.codeWith_spec hcode
  have hstatic : methM.isStatic = true := Cond.static_spec hnamed hmethM hstat
  obtain ⟨kP, hkP, -⟩ := className_of_methodNamed hnamed
  have hinitP : kP.init = .initialized := Cond.initialized_spec (findClass_of_methodNamed hnamed) hkP hinit
  obtain ⟨vm₁, X₁, hstep₁⟩ := X.invokestatic hexec hown hlink hnamed hmethM hstatic hkP hinitP hy (g := g) hg (argsL := argsL) (rest := rest) (hlen _ hsigM) hstack hdg
  rcases hK m meth c ⟨T.setVm vm₁, locs, cells, slots⟩ { g with stack := rest } (.invokestatic index) mk argsL.toArray X₁ hg hsize hdg hW (X₁.named hnamed) (hpre vm₁ X₁.warmed) with ⟨v, B, X', hpost, hsteps⟩ | ⟨q, B, X', hpost, hsteps⟩
  · exact Or.inl ⟨v, vm₁, B, X₁.warmed, X', hpost, fun target h => hstep₁ _ fun acts => by rw [doInvoke_state]; exact hsteps.trans h⟩
  · exact Or.inr ⟨q, vm₁, B, X₁.warmed, X', hpost, hstep₁ _ fun acts => by rw [doInvoke_state]; exact hsteps⟩
theorem vx_callVW (X : Stand p l e R s m args below meth c T locs cells slots) (hexec : p.tables.exec = Jvm.exec) {own C : String} {index : Nat} {y : MethodName} {bytes : ByteArray} {maxL : Nat} {ret : Option FieldType} {hh : List (Nat × Nat × Nat × Nat)}
    (hown : s.vm.findClass own = some m.cls) (hlink : (Cond.methodLink own index y).before args s = true) (hinst : (Cond.instanceMethod y).before args s = true) (hsel : (Cond.selects C y y).before args s = true)
    (hcode : (Cond.codeWith y bytes maxL ret hh).before args s = true) (hy : y.cls ≠ "java/lang/invoke/MethodHandle" ∧ y.cls ≠ "java/lang/invoke/VarHandle")
    {W9 : Nat} {Pre : Pt → Array Value → Prop} {Post : Pt → Array Value → Option Value → Pt → Prop} (hK : Back l R p e below s args y 3 W9 Pre Post)
    {b : Addr} {cellB : Cell} (hcell : T.heap[b]? = some cellB) (hobj : cellB.vm.isStatics = false) (hcls : s.vm.findClass C = some cellB.cls)
    {g : JFrame} (hg : g.method = m) (hsize : g.locals.size = c.maxLocals) {argsL rest : List Value} (hlen : ∀ sig, parseMethodDescriptor y.desc = some sig → argsL.length = sig.parameters.length)
    (hstack : g.stack = argsL.reverse ++ .ref b :: rest) (hW : 2 * g.monitorRoom + (rest.map fun v => v.category).sum ≤ W9) (hdg : decode c.code g.pc = .ok (.invokevirtual index, 3))
    (hpre : ∀ vm₁, s.WarmedH vm₁ → Pre ⟨T.setVm vm₁, locs, cells, slots⟩ (Value.ref b :: argsL).toArray) :
    ∃ (v : Option Value) (vm₁ : Vm) (B : Pt), s.WarmedH vm₁ ∧ Stand p l e R s m args below meth c B.U B.locs B.cells B.slots ∧ Post ⟨T.setVm vm₁, locs, cells, slots⟩ (Value.ref b :: argsL).toArray v B ∧
      ∀ target, Steps p.tables e below (B.U.setTop { g with pc := g.pc + 3, stack := v.toList ++ rest }) target → Steps p.tables e below (T.setTop g) target := by
  obtain ⟨mk, methM, hnamed, hmethM, hstM, habM⟩ := Cond.instanceMethod_spec hinst
  obtain ⟨m8, methM', cM, hn8, hmethM', -, -, -, -, -, -, hsigM⟩ := Cond.codeWith_spec hcode
  cases Option.some.inj (hn8.symm.trans hnamed)
  cases hmethM.symm.trans hmethM'
  obtain ⟨c2, r2, m2, q1, q2, q3, q4, kP, hkP, hkPi⟩ := Cond.selects_spec hsel
  cases hcls.symm.trans q1
  cases (State.methodFound?_of_named hnamed hy).symm.trans q2
  cases hnamed.symm.trans q3
  have hselP : selectMethod e.platform s.vm cellB.cls mk = .method mk := by rw [Launch.admits_selectMethod X.admits]; exact q4
  obtain ⟨vm₁, X₁, hstep₁⟩ := X.invokevirtual hexec hown hlink hnamed hmethM hstM hkP hkPi hy (a := b) (cell := cellB) hcell
    (fun z h => by rw [h] at hobj; cases hobj) hselP hmethM habM hkP hkPi (g := g) hg (argsL := argsL) (rest := rest) (hlen _ hsigM) hstack hdg
  obtain ⟨v, B, X', hpost, hsteps⟩ := hK m meth c ⟨T.setVm vm₁, locs, cells, slots⟩ { g with stack := rest } (.invokevirtual index) mk (Value.ref b :: argsL).toArray X₁ hg hsize hdg hW (X₁.named hnamed) (hpre vm₁ X₁.warmed)
  exact ⟨v, vm₁, B, X₁.warmed, X', hpost, fun target h => hstep₁ _ fun acts => by rw [doInvoke_state]; exact hsteps.trans h⟩
abbrev vx_CVW (R : Room) (s : State) (args : Array Value) (own C : String) (index : Nat) (y : MethodName) (bytes : ByteArray) (maxL : Nat) (ret : Option FieldType) (hh : List (Nat × Nat × Nat × Nat)) (ws : List Cond) (rm : Room) (mc ms n : Nat) : Prop :=
  (rm.cells = mc ∧ rm.slots = ms ∧ rm.frames + 1 ≤ R.frames ∧ 8 + (maxL + 11) + rm.locals ≤ R.locals ∧ (∀ w ∈ ws, ∀ (a' : Array Value) (U : State), s.WarmedH U.vm → w.before a' U = true) ∧ Cond.codeWith y bytes maxL ret hh ∈ ws) ∧
  (Cond.codeWith y bytes maxL ret hh).before args s = true ∧ (Cond.initialized y.cls).before args s = true ∧ (y.cls ≠ "java/lang/invoke/MethodHandle" ∧ y.cls ≠ "java/lang/invoke/VarHandle") ∧
  (∀ sig, parseMethodDescriptor y.desc = some sig → n = sig.parameters.length) ∧ (Cond.methodLink own index y).before args s = true ∧ (Cond.instanceMethod y).before args s = true ∧ (Cond.selects C y y).before args s = true
theorem vx_cwVW {own C : String} {index maxL mc ms : Nat} {y : MethodName} {bytes : ByteArray} {ret : Option FieldType} {hh : List (Nat × Nat × Nat × Nat)} {Ts ws ws' : List Cond} {rm : Room} (n : Nat) (ht : ∀ w ∈ Ts, w.before args s = true) (hT : GoodIn Ts (wsV own index C y ws)) (hw : ws = Cond.codeWith y bytes maxL ret hh :: ws') (hrc : rm.cells = mc) (hrs : rm.slots = ms)
    (hd : y.cls = C ∧ y.cls ≠ "java/lang/invoke/MethodHandle" ∧ y.cls ≠ "java/lang/invoke/VarHandle" ∧ (parseMethodDescriptor y.desc).map (fun d => d.parameters.length) = some n) (hR : rm.frames + 1 ≤ R.frames ∧ 8 + (maxL + 11) + rm.locals ≤ R.locals) :
    vx_CVW R s args own C index y bytes maxL ret hh ws rm mc ms n := by
  obtain ⟨hC, hd⟩ := hd
  subst hC
  have ok : ∀ w ∈ wsV own index y.cls y ws, w.before args s = true := fun w h => ht w (hT w h).1
  have hG : GoodIn Ts ws := fun w h => hT w (by unfold wsV; exact List.mem_append_right _ h)
  have hc : Cond.codeWith y bytes maxL ret hh ∈ ws := by rw [hw]; exact List.mem_cons_self
  refine ⟨⟨hrc, hrs, hR.1, hR.2, pay_in ht hG, hc⟩, ht _ (hG _ hc).1, ok _ (by simp [wsV]), ⟨hd.1, hd.2.1⟩, fun sig h => ?_, ok _ (by simp [wsV]), ok _ (by simp [wsV]), ok _ (by simp [wsV])⟩
  have h2 := hd.2.2
  rw [h] at h2
  exact (Option.some.inj h2).symm
theorem vx_runVW {y : MethodName} {bytes cc : ByteArray} {maxL nL mc ms n index : Nat} {ret : Option FieldType} {hh : List (Nat × Nat × Nat × Nat)} {ws : List Cond} {rm : Room} {Pc : Array Value → State → Prop} {Qc : Array Value → State → Outcome → State → Prop} {free : Addr → Prop} {Ts : List Cond} {own C : String} {b : Addr} {As rest : List Value} {g : JFrame}
    (S : CallFix p m c cc nL s args Ts own) (hM : Met l y ws rm Pc Qc mc ms free) (cw : vx_CVW R s args own C index y bytes maxL ret hh ws rm mc ms n) (hp : PreV s H C b Pc As)
    (hg : g.method = m) (hn : As.length = n) (hsize : g.locals.size = nL) (hstack : g.stack = As.reverse ++ .ref b :: rest) (hW : 2 * g.monitorRoom + (rest.map fun v => v.category).sum ≤ 8) (hdg : decode cc g.pc = .ok (.invokevirtual index, 3)) (hf : cells + mc ≤ R.cells ∧ slots + ms ≤ R.slots) :
    va_Run p l e R s m args below meth c H locs cells slots mc ms g rest (Qc (Value.ref b :: As).toArray) free := by
  obtain ⟨⟨hrc, hrs, hfr, hlo, hws, hcw⟩, hcode, hini, hy, hlen, hl, hin, hse⟩ := cw
  have hK : Back l R p e below s args y 3 8 (PreOf R mc ms Pc) (PostOf Qc mc ms free) := va_backW (hh := hh) (bytes := bytes) (maxL := maxL) (ret := ret) hM hp.1 hrc hrs hfr hlo hws hcw (fun a' U hW => word_at hW (Or.inl (by first | rfl | simp [Cond.onTables, Cond.keeps, Cond.steady])) hini)
  obtain ⟨hx, hb, hml, ho, -⟩ := S
  obtain ⟨-, ⟨cellB, hcB, hoB, hclB⟩, hPc⟩ := hp
  intro T hT X
  obtain ⟨v, vm₁, ⟨U', l2, c2, s2⟩, hW₁, X', ⟨g', mk, t, L, e1, e2, hq, h1, hL, h2, h3⟩, st⟩ := vx_callVW X hx (C := C) (hh := hh) (bytes := bytes) (maxL := maxL) (ret := ret) ho hl hin hse hcode hy hK (by rw [hT]; exact hcB) hoB hclB hg (hsize.trans hml.symm) (argsL := As) (rest := rest) (fun sig h => hn.trans (hlen sig h)) hstack hW (by rw [hb]; exact hdg)
    (fun vm₁ hW₁ => ⟨hf.1, hf.2, hPc (T.setVm vm₁) hT hW₁⟩)
  dsimp only [Pt.U, Pt.locs, Pt.cells, Pt.slots] at X' e1 e2 h1 h2 h3 st
  subst h1; subst h2; subst h3
  exact ⟨v, (T.setVm vm₁).calling g' mk (Value.ref b :: As).toArray, t, U', L, hT, X', hL, e1, e2, hq, st⟩
section
variable {y : MethodName} {bytes cc : ByteArray} {maxL nL mc ms n index : Nat} {ret : Option FieldType} {ws : List Cond} {rm : Room} {Pc : Array Value → State → Prop} {Qc : Array Value → State → Outcome → State → Prop} {XC : String → State → State → Prop} {free : Addr → Prop} {Ts : List Cond} {own C : String} {b : Addr} {As rest : List Value} {g : JFrame}
theorem vx_runVX {hh : List (Nat × Nat × Nat × Nat)} (S : CallFix p m c cc nL s args Ts own) (hM : vx_Met l y ws rm Pc Qc XC mc ms free) (cw : vx_CVW R s args own C index y bytes maxL ret hh ws rm mc ms n) (hp : PreV s H C b Pc As)
    (hg : g.method = m) (hn : As.length = n) (hsize : g.locals.size = nL) (hstack : g.stack = As.reverse ++ .ref b :: rest) (hW : 2 * g.monitorRoom + (rest.map fun v => v.category).sum ≤ 8) (hdg : decode cc g.pc = .ok (.invokevirtual index, 3)) (hf : cells + mc ≤ R.cells ∧ slots + ms ≤ R.slots) :
    vx_Run p l e R s m args below meth c H locs cells slots mc ms g rest (Qc (Value.ref b :: As).toArray) XC free := by
  obtain ⟨⟨hrc, hrs, hfr, hlo, hws, hcw⟩, hcode, hini, hy, hlen, hl, hin, hse⟩ := cw
  have hK : vx_Back l R p e below s args y 3 8 (PreOf R mc ms Pc) (PostOf Qc mc ms free) (vx_Post XC mc ms free) := vx_backW (hh := hh) (bytes := bytes) (maxL := maxL) (ret := ret) hM hp.1 hrc hrs hfr hlo hws hcw (fun a' U hW => word_at hW (Or.inl (by first | rfl | simp [Cond.onTables, Cond.keeps, Cond.steady])) hini)
  obtain ⟨hx, hb, hml, ho, -⟩ := S
  obtain ⟨-, ⟨cellB, hcB, hoB, hclB⟩, hPc⟩ := hp
  intro T hT X
  rcases vx_callVX X hx (C := C) (hh := hh) (bytes := bytes) (maxL := maxL) (ret := ret) ho hl hin hse hcode hy hK (by rw [hT]; exact hcB) hoB hclB hg (hsize.trans hml.symm) (argsL := As) (rest := rest) (fun sig h => hn.trans (hlen sig h)) hstack hW (by rw [hb]; exact hdg)
    (fun vm₁ hW₁ => ⟨hf.1, hf.2, hPc (T.setVm vm₁) hT hW₁⟩) with ⟨v, vm₁, ⟨U', l2, c2, s2⟩, hW₁, X', ⟨g', mk, t, L, e1, e2, hq, h1, hL, h2, h3⟩, st⟩ | ⟨q, vm₁, ⟨U', l2, c2, s2⟩, hW₁, X', ⟨g', mk, t, L, E, ce, e1, e2, hq, hce, hcv, hcl, h1, hL, h2, h3⟩, st⟩
  · dsimp only [Pt.U, Pt.locs, Pt.cells, Pt.slots] at X' e1 e2 h1 h2 h3 st
    subst h1; subst h2; subst h3
    exact Or.inl ⟨v, (T.setVm vm₁).calling g' mk (Value.ref b :: As).toArray, t, U', L, hT, X', hL, e1, e2, hq, st⟩
  · dsimp only [Pt.U, Pt.locs, Pt.cells, Pt.slots] at X' e1 e2 h1 h2 h3 st hcl
    subst h1; subst h2; subst h3
    exact Or.inr ⟨q, (T.setVm vm₁).calling g' mk (Value.ref b :: As).toArray, t, U', L, E, ce, hT, X', hL, e1, e2, hq, hce, hcv, vx_cls hW₁ hcl, st⟩
theorem vx_runSX {hh : List (Nat × Nat × Nat × Nat)} (S : CallFix p m c cc nL s args Ts own) (hM : vx_Met l y ws rm Pc Qc XC mc ms free) (cw : vx_CSW R s args own index y bytes maxL ret hh ws rm mc ms n) (hp : PreS s H Pc As)
    (hg : g.method = m) (hn : As.length = n) (hsize : g.locals.size = nL) (hstack : g.stack = As.reverse ++ rest) (hW : 2 * g.monitorRoom + (rest.map fun v => v.category).sum ≤ 8) (hdg : decode cc g.pc = .ok (.invokestatic index, 3)) (hf : cells + mc ≤ R.cells ∧ slots + ms ≤ R.slots) :
    vx_Run p l e R s m args below meth c H locs cells slots mc ms g rest (Qc As.toArray) XC free := by
  obtain ⟨⟨hrc, hrs, hfr, hlo, hws, hcw⟩, hcode, hini, hy, hlen, hl, hstt⟩ := cw
  have hK : vx_Back l R p e below s args y 3 8 (PreOf R mc ms Pc) (PostOf Qc mc ms free) (vx_Post XC mc ms free) := vx_backW (hh := hh) (bytes := bytes) (maxL := maxL) (ret := ret) hM hp.1 hrc hrs hfr hlo hws hcw (fun a' U hW => word_at hW (Or.inl (by first | rfl | simp [Cond.onTables, Cond.keeps, Cond.steady])) hini)
  obtain ⟨hx, hb, hml, ho, -⟩ := S
  intro T hT X
  rcases vx_callSX X hx (hh := hh) (bytes := bytes) (maxL := maxL) (ret := ret) ho hl hstt hini hcode hy hK hg (hsize.trans hml.symm) (argsL := As) (rest := rest) (fun sig h => hn.trans (hlen sig h)) hstack hW (by rw [hb]; exact hdg)
    (fun vm₁ hW₁ => ⟨hf.1, hf.2, hp.2 (T.setVm vm₁) hT hW₁⟩) with ⟨v, vm₁, ⟨U', l2, c2, s2⟩, hW₁, X', ⟨g', mk, t, L, e1, e2, hq, h1, hL, h2, h3⟩, st⟩ | ⟨q, vm₁, ⟨U', l2, c2, s2⟩, hW₁, X', ⟨g', mk, t, L, E, ce, e1, e2, hq, hce, hcv, hcl, h1, hL, h2, h3⟩, st⟩
  · dsimp only [Pt.U, Pt.locs, Pt.cells, Pt.slots] at X' e1 e2 h1 h2 h3 st
    subst h1; subst h2; subst h3
    exact Or.inl ⟨v, (T.setVm vm₁).calling g' mk As.toArray, t, U', L, hT, X', hL, e1, e2, hq, st⟩
  · dsimp only [Pt.U, Pt.locs, Pt.cells, Pt.slots] at X' e1 e2 h1 h2 h3 st hcl
    subst h1; subst h2; subst h3
    exact Or.inr ⟨q, (T.setVm vm₁).calling g' mk As.toArray, t, U', L, E, ce, hT, X', hL, e1, e2, hq, hce, hcv, vx_cls hW₁ hcl, st⟩
end
end VXH
theorem vx_ofWH {l : Launch} {y : MethodName} {ws ws' : List Cond} {rm : Room} {Pc : Array Value → State → Prop} {Qc : Array Value → State → Outcome → State → Prop} {XC : String → State → State → Prop} {mc ms : Nat} {free : Addr → Prop} {cc : ByteArray} {maxL : Nat} {ret : Option FieldType} {hh : List (Nat × Nat × Nat × Nat)}
    (hy : plainName y.cls = true) (hw : ws = Cond.codeWith y cc maxL ret hh :: ws')
    (body : ∀ p e s m args below meth c s₁, BodyLoose p l y (headSpec ws rm) cc maxL ret e s m args below meth c s₁ → c.maxLocals = maxL → Pc args s →
      W p l e (headSpec ws rm).room s m args below meth c s.heap [] 0 0 (vx_MQ below Qc XC args s mc ms free) (entryFrame m args maxL)) : vx_Met l y ws rm Pc Qc XC mc ms free := by
  refine MetFree.of_bodyS (code := cc) (maxLocals := maxL) (ret := ret) hy ?_ ?_
  · intro args s m h hn
    obtain ⟨m9, meth, c, hn9, h1, h2, h3, h4, -, h5, h6, -⟩ := Cond.codeWith_spec (atoms_spec (ws := ws) h _ (by rw [hw]; exact List.mem_cons_self))
    cases hn.symm.trans hn9
    exact ⟨meth, c, h1, h2, h3, h4, h5, h6⟩
  · intro p e s m args below meth c s₁ B hml hP _
    have hh0 : s₁.heap = s.heap := by rw [B.state]; rfl
    obtain ⟨t, a1, o, b1, b2, b3⟩ := body p e s m args below meth c s₁ B hml hP s₁ hh0 (Stand.of_body B)
    exact ⟨t, o, a1, b1, b2, b3⟩
/-! ===== END ===== -/
end
section
def RX0 : String := "TagTrees$BitRow"
def TX0 : u_T := fun k => match k with
  | 0 => ("TagTrees$BitRow", "words", "[I", true)
  | 1 => ("TagTrees$BitRow", "first", "I", false)
  | _ => ("TagTrees$BitRow", "many", "I", false)
def tyX0 : Nat → FieldType := fun k => match k with
  | 0 => .array .int
  | 1 => .int
  | _ => .int
abbrev wsX00 : List Cond := u_ws RX0 TX0 3
theorem nmX0 : ∀ a, a < 3 → ∀ b, b < 3 → a ≠ b → (TX0 a).2.1 ≠ (TX0 b).2.1 := by decide +kernel
theorem tyX0_ok : ∀ k, k < 3 → parseFieldDescriptor (TX0 k).2.2.1 = some (tyX0 k) := by decide +kernel
def RX1 : String := "TagTrees$Shape"
def TX1 : u_T := fun k => match k with
  | 0 => ("TagTrees$Shape", "width", "I", true)
  | 1 => ("TagTrees$Shape", "height", "I", true)
  | 2 => ("TagTrees$Shape", "leaves", "I", true)
  | 3 => ("TagTrees$Shape", "levels", "I", true)
  | 4 => ("TagTrees$Shape", "nodes", "I", true)
  | 5 => ("TagTrees$Shape", "across", "[I", true)
  | 6 => ("TagTrees$Shape", "down", "[I", true)
  | 7 => ("TagTrees$Shape", "firstNode", "[I", true)
  | _ => ("TagTrees$Shape", "places", "[[I", true)
def tyX1 : Nat → FieldType := fun k => match k with
  | 0 => .int
  | 1 => .int
  | 2 => .int
  | 3 => .int
  | 4 => .int
  | 5 => .array .int
  | 6 => .array .int
  | 7 => .array .int
  | _ => .array (.array .int)
abbrev wsX10 : List Cond := u_ws RX1 TX1 9
theorem nmX1 : ∀ a, a < 9 → ∀ b, b < 9 → a ≠ b → (TX1 a).2.1 ≠ (TX1 b).2.1 := by decide +kernel
theorem tyX1_ok : ∀ k, k < 9 → parseFieldDescriptor (TX1 k).2.2.1 = some (tyX1 k) := by decide +kernel
def RX2 : String := "TagTrees$Side"
def TX2 : u_T := fun k => match k with
  | 0 => ("TagTrees$Side", "bounds", "[I", true)
  | 1 => ("TagTrees$Side", "found", "[Z", true)
  | _ => ("TagTrees$Side", "manyFound", "I", false)
def tyX2 : Nat → FieldType := fun k => match k with
  | 0 => .array .int
  | 1 => .array .boolean
  | _ => .int
abbrev wsX20 : List Cond := u_ws RX2 TX2 3
theorem nmX2 : ∀ a, a < 3 → ∀ b, b < 3 → a ≠ b → (TX2 a).2.1 ≠ (TX2 b).2.1 := by decide +kernel
theorem tyX2_ok : ∀ k, k < 3 → parseFieldDescriptor (TX2 k).2.2.1 = some (tyX2 k) := by decide +kernel
def RX3 : String := "TagTrees"
def TX3 : u_T := fun k => match k with
  | 0 => ("TagTrees", "shape", "LTagTrees$Shape;", true)
  | 1 => ("TagTrees", "leasts", "[I", true)
  | 2 => ("TagTrees", "coder", "LTagTrees$Side;", true)
  | 3 => ("TagTrees", "decoder", "LTagTrees$Side;", true)
  | 4 => ("TagTrees", "toldBits", "LTagTrees$BitRow;", true)
  | 5 => ("TagTrees", "waitingBits", "LTagTrees$BitRow;", true)
  | _ => ("TagTrees", "passed", "I", false)
def tyX3 : Nat → FieldType := fun k => match k with
  | 0 => .object "TagTrees$Shape"
  | 1 => .array .int
  | 2 => .object "TagTrees$Side"
  | 3 => .object "TagTrees$Side"
  | 4 => .object "TagTrees$BitRow"
  | 5 => .object "TagTrees$BitRow"
  | _ => .int
abbrev wsX30 : List Cond := u_ws RX3 TX3 7
theorem nmX3 : ∀ a, a < 7 → ∀ b, b < 7 → a ≠ b → (TX3 a).2.1 ≠ (TX3 b).2.1 := by decide +kernel
theorem tyX3_ok : ∀ k, k < 7 → parseFieldDescriptor (TX3 k).2.2.1 = some (tyX3 k) := by decide +kernel
def RX4 : String := "TagTreesModel"
def TX4 : u_T := fun k => match k with
  | 0 => ("TagTreesModel", "code", "I", false)
  | 1 => ("TagTreesModel", "width", "I", true)
  | 2 => ("TagTreesModel", "height", "I", true)
  | 3 => ("TagTreesModel", "levels", "I", false)
  | 4 => ("TagTreesModel", "begins", "[I", true)
  | 5 => ("TagTreesModel", "wides", "[I", true)
  | 6 => ("TagTreesModel", "highs", "[I", true)
  | 7 => ("TagTreesModel", "nodes", "I", false)
  | 8 => ("TagTreesModel", "values", "[I", true)
  | 9 => ("TagTreesModel", "bounds", "[I", true)
  | 10 => ("TagTreesModel", "knowns", "[Z", true)
  | 11 => ("TagTreesModel", "bits", "[Z", true)
  | 12 => ("TagTreesModel", "told", "I", false)
  | 13 => ("TagTreesModel", "passed", "I", false)
  | 14 => ("TagTreesModel", "waiting", "[Z", true)
  | 15 => ("TagTreesModel", "first", "I", false)
  | 16 => ("TagTreesModel", "waits", "I", false)
  | 17 => ("TagTreesModel", "way", "[I", true)
  | 18 => ("TagTreesModel", "newBounds", "[I", true)
  | 19 => ("TagTreesModel", "newKnowns", "[Z", true)
  | 20 => ("TagTreesModel", "made", "I", false)
  | 21 => ("TagTreesModel", "savedBounds", "[I", true)
  | _ => ("TagTreesModel", "savedKnowns", "[Z", true)
def tyX4 : Nat → FieldType := fun k => match k with
  | 0 => .int
  | 1 => .int
  | 2 => .int
  | 3 => .int
  | 4 => .array .int
  | 5 => .array .int
  | 6 => .array .int
  | 7 => .int
  | 8 => .array .int
  | 9 => .array .int
  | 10 => .array .boolean
  | 11 => .array .boolean
  | 12 => .int
  | 13 => .int
  | 14 => .array .boolean
  | 15 => .int
  | 16 => .int
  | 17 => .array .int
  | 18 => .array .int
  | 19 => .array .boolean
  | 20 => .int
  | 21 => .array .int
  | _ => .array .boolean
abbrev wsX40 : List Cond := u_ws RX4 TX4 23
theorem nmX4 : ∀ a, a < 23 → ∀ b, b < 23 → a ≠ b → (TX4 a).2.1 ≠ (TX4 b).2.1 := by decide +kernel
theorem tyX4_ok : ∀ k, k < 23 → parseFieldDescriptor (TX4 k).2.2.1 = some (tyX4 k) := by decide +kernel
def RL : String := "TagTreesLaw"
def WALL : List Cond := lw_tbl.filter goodWord
theorem wall_good : ∀ w ∈ WALL, goodWord w = true := fun w h => (List.mem_filter.mp h).2
theorem wall_tbl : ∀ w ∈ WALL, w ∈ lw_tbl := fun w h => (List.mem_filter.mp h).1
abbrev vwCl : List vw_C := [(RX0, TX0, 3), (RX1, TX1, 9), (RX2, TX2, 3), (RX3, TX3, 7), (RX4, TX4, 23)]
abbrev cX3_init : ByteArray := prog_1_method_1_code
def yX3_init : MethodName := ⟨RX3, "<init>", "(II)V"⟩
def wsX3_init : List Cond := .code yX3_init cX3_init 3 none :: WALL
abbrev cX3_nearest : ByteArray := prog_1_method_18_code
def yX3_nearest : MethodName := ⟨RX3, "nearest", "(JII)I"⟩
def wsX3_nearest : List Cond := .code yX3_nearest cX3_nearest 4 (some .int) :: WALL
abbrev cX1_init : ByteArray := prog_3_method_1_code
def yX1_init : MethodName := ⟨RX1, "<init>", "(II)V"⟩
def wsX1_init : List Cond := .code yX1_init cX1_init 6 none :: WALL
abbrev cX1_halved : ByteArray := prog_3_method_2_code
def yX1_halved : MethodName := ⟨RX1, "halved", "(II)I"⟩
def wsX1_halved : List Cond := .code yX1_halved cX1_halved 2 (some .int) :: WALL
abbrev cX1_fillRowsAndColumns : ByteArray := prog_3_method_3_code
def yX1_fillRowsAndColumns : MethodName := ⟨RX1, "fillRowsAndColumns", "()V"⟩
def wsX1_fillRowsAndColumns : List Cond := .code yX1_fillRowsAndColumns cX1_fillRowsAndColumns 3 none :: WALL
abbrev cX1_fillQuarters : ByteArray := prog_3_method_4_code
def yX1_fillQuarters : MethodName := ⟨RX1, "fillQuarters", "()V"⟩
def wsX1_fillQuarters : List Cond := .code yX1_fillQuarters cX1_fillQuarters 5 none :: WALL
abbrev cX1_everySecondBit : ByteArray := prog_3_method_5_code
def yX1_everySecondBit : MethodName := ⟨RX1, "everySecondBit", "(I)I"⟩
def wsX1_everySecondBit : List Cond := .code yX1_everySecondBit cX1_everySecondBit 3 (some .int) :: WALL
abbrev cX2_init : ByteArray := prog_4_method_1_code
def yX2_init : MethodName := ⟨RX2, "<init>", "(I)V"⟩
def wsX2_init : List Cond := .code yX2_init cX2_init 2 none :: WALL
abbrev cX0_init : ByteArray := prog_2_method_1_code
def yX0_init : MethodName := ⟨RX0, "<init>", "()V"⟩
def wsX0_init : List Cond := .code yX0_init cX0_init 1 none :: WALL
abbrev cX3_told : ByteArray := prog_1_method_16_code
def yX3_told : MethodName := ⟨RX3, "told", "(I)I"⟩
def wsX3_told : List Cond := .code yX3_told cX3_told 2 (some .int) :: WALL
abbrev cX3_reset : ByteArray := prog_1_method_17_code
def yX3_reset : MethodName := ⟨RX3, "reset", "()V"⟩
def wsX3_reset : List Cond := .code yX3_reset cX3_reset 1 none :: WALL
abbrev cX2_forget : ByteArray := prog_4_method_3_code
def yX2_forget : MethodName := ⟨RX2, "forget", "()V"⟩
def wsX2_forget : List Cond := .code yX2_forget cX2_forget 2 none :: WALL
abbrev cX0_empty : ByteArray := prog_2_method_6_code
def yX0_empty : MethodName := ⟨RX0, "empty", "()V"⟩
def wsX0_empty : List Cond := .code yX0_empty cX0_empty 1 none :: WALL
abbrev cL_cell : ByteArray := method_2_code
def yL_cell : MethodName := ⟨RL, "cell", "([II)I"⟩
def wsL_cell : List Cond := .code yL_cell cL_cell 2 (some .int) :: WALL
abbrev cL_value : ByteArray := method_3_code
def yL_value : MethodName := ⟨RL, "value", "(LTagTrees;III[J)I"⟩
def wsL_value : List Cond := .codeWith yL_value cL_value 6 (some .int) [(0, 12, 15, 13), (0, 12, 19, 15), (0, 12, 23, 17)] :: WALL
abbrev cX3_value : ByteArray := prog_1_method_2_code
def yX3_value : MethodName := ⟨RX3, "value", "(III)I"⟩
def wsX3_value : List Cond := .code yX3_value cX3_value 6 (some .int) :: WALL
abbrev cX3_checkNode : ByteArray := prog_1_method_19_code
def yX3_checkNode : MethodName := ⟨RX3, "checkNode", "(III)V"⟩
def wsX3_checkNode : List Cond := .code yX3_checkNode cX3_checkNode 4 none :: WALL
abbrev cX1_hasNode : ByteArray := prog_3_method_6_code
def yX1_hasNode : MethodName := ⟨RX1, "hasNode", "(III)Z"⟩
def wsX1_hasNode : List Cond := .code yX1_hasNode cX1_hasNode 4 (some .boolean) :: WALL
abbrev cX3_checkNothingTold : ByteArray := prog_1_method_22_code
def yX3_checkNothingTold : MethodName := ⟨RX3, "checkNothingTold", "()V"⟩
def wsX3_checkNothingTold : List Cond := .code yX3_checkNothingTold cX3_checkNothingTold 1 none :: WALL
abbrev cX1_nodeAt : ByteArray := prog_3_method_7_code
def yX1_nodeAt : MethodName := ⟨RX1, "nodeAt", "(III)I"⟩
def wsX1_nodeAt : List Cond := .code yX1_nodeAt cX1_nodeAt 4 (some .int) :: WALL
abbrev cX3_renewLeasts : ByteArray := prog_1_method_24_code
def yX3_renewLeasts : MethodName := ⟨RX3, "renewLeasts", "()V"⟩
def wsX3_renewLeasts : List Cond := .code yX3_renewLeasts cX3_renewLeasts 4 none :: WALL
abbrev cX3_leastOfChildren : ByteArray := prog_1_method_25_code
def yX3_leastOfChildren : MethodName := ⟨RX3, "leastOfChildren", "(III)I"⟩
def wsX3_leastOfChildren : List Cond := .code yX3_leastOfChildren cX3_leastOfChildren 8 (some .int) :: WALL
abbrev cL_values : ByteArray := method_4_code
def yL_values : MethodName := ⟨RL, "values", "(LTagTrees;IIIII[J)I"⟩
def wsL_values : List Cond := .codeWith yL_values cL_values 8 (some .int) [(0, 16, 19, 13), (0, 16, 23, 15), (0, 16, 27, 17)] :: WALL
abbrev cX3_values : ByteArray := prog_1_method_3_code
def yX3_values : MethodName := ⟨RX3, "values", "(IIIII)I"⟩
def wsX3_values : List Cond := .code yX3_values cX3_values 11 (some .int) :: WALL
abbrev cL_encode : ByteArray := method_5_code
def yL_encode : MethodName := ⟨RL, "encode", "(LTagTrees;III[J)I"⟩
def wsL_encode : List Cond := .codeWith yL_encode cL_encode 6 (some .int) [(0, 12, 15, 13), (0, 12, 19, 15), (0, 12, 23, 26)] :: WALL
abbrev cX3_encode : ByteArray := prog_1_method_4_code
def yX3_encode : MethodName := ⟨RX3, "encode", "(III)I"⟩
def wsX3_encode : List Cond := .code yX3_encode cX3_encode 5 (some .int) :: WALL
abbrev cX3_checkThreshold : ByteArray := prog_1_method_20_code
def yX3_checkThreshold : MethodName := ⟨RX3, "checkThreshold", "(I)V"⟩
def wsX3_checkThreshold : List Cond := .code yX3_checkThreshold cX3_checkThreshold 1 none :: WALL
abbrev cX3_costOfLeaf : ByteArray := prog_1_method_29_code
def yX3_costOfLeaf : MethodName := ⟨RX3, "costOfLeaf", "(III)I"⟩
def wsX3_costOfLeaf : List Cond := .code yX3_costOfLeaf cX3_costOfLeaf 9 (some .int) :: WALL
abbrev cX3_costOfNode : ByteArray := prog_1_method_28_code
def yX3_costOfNode : MethodName := ⟨RX3, "costOfNode", "(III)I"⟩
def wsX3_costOfNode : List Cond := .code yX3_costOfNode cX3_costOfNode 5 (some .int) :: WALL
abbrev cX3_hasBits : ByteArray := prog_1_method_26_code
def yX3_hasBits : MethodName := ⟨RX3, "hasBits", "(III)Z"⟩
def wsX3_hasBits : List Cond := .code yX3_hasBits cX3_hasBits 4 (some .boolean) :: WALL
abbrev cX3_boundAfter : ByteArray := prog_1_method_27_code
def yX3_boundAfter : MethodName := ⟨RX3, "boundAfter", "(III)I"⟩
def wsX3_boundAfter : List Cond := .code yX3_boundAfter cX3_boundAfter 4 (some .int) :: WALL
abbrev cX3_checkRoom : ByteArray := prog_1_method_23_code
def yX3_checkRoom : MethodName := ⟨RX3, "checkRoom", "(LTagTrees$BitRow;I)V"⟩
def wsX3_checkRoom : List Cond := .code yX3_checkRoom cX3_checkRoom 2 none :: WALL
abbrev cX3_tellLeaf : ByteArray := prog_1_method_31_code
def yX3_tellLeaf : MethodName := ⟨RX3, "tellLeaf", "(III)V"⟩
def wsX3_tellLeaf : List Cond := .code yX3_tellLeaf cX3_tellLeaf 7 none :: WALL
abbrev cX3_tellNode : ByteArray := prog_1_method_32_code
def yX3_tellNode : MethodName := ⟨RX3, "tellNode", "(III)V"⟩
def wsX3_tellNode : List Cond := .code yX3_tellNode cX3_tellNode 6 none :: WALL
abbrev cX0_append : ByteArray := prog_2_method_4_code
def yX0_append : MethodName := ⟨RX0, "append", "(I)V"⟩
def wsX0_append : List Cond := .code yX0_append cX0_append 4 none :: WALL
abbrev cX0_placeOf : ByteArray := prog_2_method_2_code
def yX0_placeOf : MethodName := ⟨RX0, "placeOf", "(I)I"⟩
def wsX0_placeOf : List Cond := .code yX0_placeOf cX0_placeOf 3 (some .int) :: WALL
abbrev cX2_find : ByteArray := prog_4_method_2_code
def yX2_find : MethodName := ⟨RX2, "find", "(I)V"⟩
def wsX2_find : List Cond := .code yX2_find cX2_find 2 none :: WALL
abbrev cL_cost : ByteArray := method_6_code
def yL_cost : MethodName := ⟨RL, "cost", "(LTagTrees;III[J)I"⟩
def wsL_cost : List Cond := .codeWith yL_cost cL_cost 6 (some .int) [(0, 12, 15, 13), (0, 12, 19, 15)] :: WALL
abbrev cX3_cost : ByteArray := prog_1_method_5_code
def yX3_cost : MethodName := ⟨RX3, "cost", "(III)I"⟩
def wsX3_cost : List Cond := .code yX3_cost cX3_cost 4 (some .int) :: WALL
abbrev cL_encodeAll : ByteArray := method_7_code
def yL_encodeAll : MethodName := ⟨RL, "encodeAll", "(LTagTrees;II[J)I"⟩
def wsL_encodeAll : List Cond := .codeWith yL_encodeAll cL_encodeAll 5 (some .int) [(0, 10, 13, 15), (0, 10, 17, 26)] :: WALL
abbrev cX3_encodeAll : ByteArray := prog_1_method_6_code
def yX3_encodeAll : MethodName := ⟨RX3, "encodeAll", "(II)I"⟩
def wsX3_encodeAll : List Cond := .code yX3_encodeAll cX3_encodeAll 5 (some .int) :: WALL
abbrev cX3_checkOrder : ByteArray := prog_1_method_21_code
def yX3_checkOrder : MethodName := ⟨RX3, "checkOrder", "(I)V"⟩
def wsX3_checkOrder : List Cond := .code yX3_checkOrder cX3_checkOrder 1 none :: WALL
abbrev cX3_costBelow : ByteArray := prog_1_method_30_code
def yX3_costBelow : MethodName := ⟨RX3, "costBelow", "(IIIII)I"⟩
def wsX3_costBelow : List Cond := .code yX3_costBelow cX3_costBelow 11 (some .int) :: WALL
abbrev cX1_leafX : ByteArray := prog_3_method_8_code
def yX1_leafX : MethodName := ⟨RX1, "leafX", "(II)I"⟩
def wsX1_leafX : List Cond := .code yX1_leafX cX1_leafX 3 (some .int) :: WALL
abbrev cX1_leafY : ByteArray := prog_3_method_9_code
def yX1_leafY : MethodName := ⟨RX1, "leafY", "(II)I"⟩
def wsX1_leafY : List Cond := .code yX1_leafY cX1_leafY 3 (some .int) :: WALL
abbrev cL_bitAt : ByteArray := method_8_code
def yL_bitAt : MethodName := ⟨RL, "bitAt", "(LTagTrees;I[J)I"⟩
def wsL_bitAt : List Cond := .codeWith yL_bitAt cL_bitAt 4 (some .int) [(0, 9, 12, 13)] :: WALL
abbrev cX3_bitAt : ByteArray := prog_1_method_7_code
def yX3_bitAt : MethodName := ⟨RX3, "bitAt", "(I)I"⟩
def wsX3_bitAt : List Cond := .code yX3_bitAt cX3_bitAt 2 (some .int) :: WALL
abbrev cX0_look : ByteArray := prog_2_method_3_code
def yX0_look : MethodName := ⟨RX0, "look", "(I)I"⟩
def wsX0_look : List Cond := .code yX0_look cX0_look 3 (some .int) :: WALL
abbrev cL_feed : ByteArray := method_9_code
def yL_feed : MethodName := ⟨RL, "feed", "(LTagTrees;I[J)I"⟩
def wsL_feed : List Cond := .codeWith yL_feed cL_feed 4 (some .int) [(0, 9, 12, 15), (0, 9, 15, 26)] :: WALL
abbrev cX3_feed : ByteArray := prog_1_method_8_code
def yX3_feed : MethodName := ⟨RX3, "feed", "(I)I"⟩
def wsX3_feed : List Cond := .code yX3_feed cX3_feed 2 (some .int) :: WALL
abbrev cL_pass : ByteArray := method_10_code
def yL_pass : MethodName := ⟨RL, "pass", "(LTagTrees;I[J)I"⟩
def wsL_pass : List Cond := .codeWith yL_pass cL_pass 4 (some .int) [(0, 9, 12, 15), (0, 9, 15, 26)] :: WALL
abbrev cX3_pass : ByteArray := prog_1_method_9_code
def yX3_pass : MethodName := ⟨RX3, "pass", "(I)I"⟩
def wsX3_pass : List Cond := .code yX3_pass cX3_pass 4 (some .int) :: WALL
abbrev cL_decode : ByteArray := method_11_code
def yL_decode : MethodName := ⟨RL, "decode", "(LTagTrees;III[J)I"⟩
def wsL_decode : List Cond := .codeWith yL_decode cL_decode 6 (some .int) [(0, 12, 15, 13), (0, 12, 19, 15)] :: WALL
abbrev cX3_decode : ByteArray := prog_1_method_10_code
def yX3_decode : MethodName := ⟨RX3, "decode", "(III)I"⟩
def wsX3_decode : List Cond := .code yX3_decode cX3_decode 5 (some .int) :: WALL
abbrev cX3_learnLeaf : ByteArray := prog_1_method_33_code
def yX3_learnLeaf : MethodName := ⟨RX3, "learnLeaf", "(III)Z"⟩
def wsX3_learnLeaf : List Cond := .code yX3_learnLeaf cX3_learnLeaf 5 (some .boolean) :: WALL
abbrev cX3_takeBits : ByteArray := prog_1_method_34_code
def yX3_takeBits : MethodName := ⟨RX3, "takeBits", "(IIIZ)I"⟩
def wsX3_takeBits : List Cond := .code yX3_takeBits cX3_takeBits 10 (some .int) :: WALL
abbrev cX0_drop : ByteArray := prog_2_method_5_code
def yX0_drop : MethodName := ⟨RX0, "drop", "(I)V"⟩
def wsX0_drop : List Cond := .code yX0_drop cX0_drop 2 none :: WALL
abbrev cL_decodeAll : ByteArray := method_12_code
def yL_decodeAll : MethodName := ⟨RL, "decodeAll", "(LTagTrees;II[J)I"⟩
def wsL_decodeAll : List Cond := .codeWith yL_decodeAll cL_decodeAll 5 (some .int) [(0, 10, 13, 15)] :: WALL
abbrev cX3_decodeAll : ByteArray := prog_1_method_11_code
def yX3_decodeAll : MethodName := ⟨RX3, "decodeAll", "(II)I"⟩
def wsX3_decodeAll : List Cond := .code yX3_decodeAll cX3_decodeAll 4 (some .int) :: WALL
abbrev cL_known : ByteArray := method_13_code
def yL_known : MethodName := ⟨RL, "known", "(LTagTrees;II[J)I"⟩
def wsL_known : List Cond := .codeWith yL_known cL_known 5 (some .int) [(0, 10, 13, 13)] :: WALL
abbrev cX3_known : ByteArray := prog_1_method_12_code
def yX3_known : MethodName := ⟨RX3, "known", "(II)I"⟩
def wsX3_known : List Cond := .code yX3_known cX3_known 5 (some .int) :: WALL
abbrev cL_bound : ByteArray := method_14_code
def yL_bound : MethodName := ⟨RL, "bound", "(LTagTrees;ZIII[J)I"⟩
def wsL_bound : List Cond := .codeWith yL_bound cL_bound 7 (some .int) [(0, 14, 17, 13)] :: WALL
abbrev cX3_bound : ByteArray := prog_1_method_13_code
def yX3_bound : MethodName := ⟨RX3, "bound", "(ZIII)I"⟩
def wsX3_bound : List Cond := .code yX3_bound cX3_bound 6 (some .int) :: WALL
abbrev cL_least : ByteArray := method_15_code
def yL_least : MethodName := ⟨RL, "least", "(LTagTrees;III[J)I"⟩
def wsL_least : List Cond := .codeWith yL_least cL_least 6 (some .int) [(0, 12, 15, 13)] :: WALL
abbrev cX3_least : ByteArray := prog_1_method_14_code
def yX3_least : MethodName := ⟨RX3, "least", "(III)I"⟩
def wsX3_least : List Cond := .code yX3_least cX3_least 4 (some .int) :: WALL
abbrev cL_leaf : ByteArray := method_16_code
def yL_leaf : MethodName := ⟨RL, "leaf", "(LTagTrees;II[J)I"⟩
def wsL_leaf : List Cond := .codeWith yL_leaf cL_leaf 5 (some .int) [(0, 10, 13, 15), (0, 10, 17, 13)] :: WALL
abbrev cX3_leaf : ByteArray := prog_1_method_15_code
def yX3_leaf : MethodName := ⟨RX3, "leaf", "(II)I"⟩
def wsX3_leaf : List Cond := .code yX3_leaf cX3_leaf 3 (some .int) :: WALL
abbrev cX4_init : ByteArray := prog_6_method_1_code
def yX4_init : MethodName := ⟨RX4, "<init>", "(II)V"⟩
def wsX4_init : List Cond := .code yX4_init cX4_init 6 none :: WALL
abbrev cX4_thrown : ByteArray := prog_6_method_2_code
def yX4_thrown : MethodName := ⟨RX4, "thrown", "()I"⟩
def wsX4_thrown : List Cond := .code yX4_thrown cX4_thrown 1 (some .int) :: WALL
abbrev cX4_value : ByteArray := prog_6_method_8_code
def yX4_value : MethodName := ⟨RX4, "value", "(III)I"⟩
def wsX4_value : List Cond := .code yX4_value cX4_value 5 (some .int) :: WALL
abbrev cX4_isLeaf : ByteArray := prog_6_method_4_code
def yX4_isLeaf : MethodName := ⟨RX4, "isLeaf", "(II)Z"⟩
def wsX4_isLeaf : List Cond := .code yX4_isLeaf cX4_isLeaf 3 (some .boolean) :: WALL
abbrev cX4_in : ByteArray := prog_6_method_3_code
def yX4_in : MethodName := ⟨RX4, "in", "(III)Z"⟩
def wsX4_in : List Cond := .code yX4_in cX4_in 3 (some .boolean) :: WALL
abbrev cX4_lift : ByteArray := prog_6_method_7_code
def yX4_lift : MethodName := ⟨RX4, "lift", "()V"⟩
def wsX4_lift : List Cond := .code yX4_lift cX4_lift 10 none :: WALL
abbrev cX4_node : ByteArray := prog_6_method_6_code
def yX4_node : MethodName := ⟨RX4, "node", "(III)I"⟩
def wsX4_node : List Cond := .code yX4_node cX4_node 4 (some .int) :: WALL
abbrev cX4_values : ByteArray := prog_6_method_9_code
def yX4_values : MethodName := ⟨RX4, "values", "(IIIII)I"⟩
def wsX4_values : List Cond := .code yX4_values cX4_values 11 (some .int) :: WALL
abbrev cX4_encode : ByteArray := prog_6_method_13_code
def yX4_encode : MethodName := ⟨RX4, "encode", "(III)I"⟩
def wsX4_encode : List Cond := .code yX4_encode cX4_encode 5 (some .int) :: WALL
abbrev cX4_tell : ByteArray := prog_6_method_11_code
def yX4_tell : MethodName := ⟨RX4, "tell", "(IIIIZ)Z"⟩
def wsX4_tell : List Cond := .code yX4_tell cX4_tell 12 (some .boolean) :: WALL
abbrev cX4_bitOf : ByteArray := prog_6_method_10_code
def yX4_bitOf : MethodName := ⟨RX4, "bitOf", "(I)Z"⟩
def wsX4_bitOf : List Cond := .code yX4_bitOf cX4_bitOf 2 (some .boolean) :: WALL
abbrev cX4_keep : ByteArray := prog_6_method_12_code
def yX4_keep : MethodName := ⟨RX4, "keep", "(I)V"⟩
def wsX4_keep : List Cond := .code yX4_keep cX4_keep 3 none :: WALL
abbrev cX4_cost : ByteArray := prog_6_method_14_code
def yX4_cost : MethodName := ⟨RX4, "cost", "(III)I"⟩
def wsX4_cost : List Cond := .code yX4_cost cX4_cost 5 (some .int) :: WALL
abbrev cX4_encodeAll : ByteArray := prog_6_method_17_code
def yX4_encodeAll : MethodName := ⟨RX4, "encodeAll", "(II)I"⟩
def wsX4_encodeAll : List Cond := .code yX4_encodeAll cX4_encodeAll 7 (some .int) :: WALL
abbrev cX4_leafOf : ByteArray := prog_6_method_15_code
def yX4_leafOf : MethodName := ⟨RX4, "leafOf", "(II)I"⟩
def wsX4_leafOf : List Cond := .code yX4_leafOf cX4_leafOf 9 (some .int) :: WALL
abbrev cX4_leavesOf : ByteArray := prog_6_method_16_code
def yX4_leavesOf : MethodName := ⟨RX4, "leavesOf", "(III)I"⟩
def wsX4_leavesOf : List Cond := .code yX4_leavesOf cX4_leavesOf 6 (some .int) :: WALL
abbrev cX4_bitAt : ByteArray := prog_6_method_18_code
def yX4_bitAt : MethodName := ⟨RX4, "bitAt", "(I)I"⟩
def wsX4_bitAt : List Cond := .code yX4_bitAt cX4_bitAt 2 (some .int) :: WALL
abbrev cX4_feed : ByteArray := prog_6_method_20_code
def yX4_feed : MethodName := ⟨RX4, "feed", "(I)I"⟩
def wsX4_feed : List Cond := .code yX4_feed cX4_feed 2 (some .int) :: WALL
abbrev cX4_add : ByteArray := prog_6_method_19_code
def yX4_add : MethodName := ⟨RX4, "add", "(Z)V"⟩
def wsX4_add : List Cond := .code yX4_add cX4_add 2 none :: WALL
abbrev cX4_pass : ByteArray := prog_6_method_21_code
def yX4_pass : MethodName := ⟨RX4, "pass", "(I)I"⟩
def wsX4_pass : List Cond := .code yX4_pass cX4_pass 4 (some .int) :: WALL
abbrev cX4_decode : ByteArray := prog_6_method_23_code
def yX4_decode : MethodName := ⟨RX4, "decode", "(III)I"⟩
def wsX4_decode : List Cond := .code yX4_decode cX4_decode 5 (some .int) :: WALL
abbrev cX4_take : ByteArray := prog_6_method_22_code
def yX4_take : MethodName := ⟨RX4, "take", "(III)Z"⟩
def wsX4_take : List Cond := .code yX4_take cX4_take 5 (some .boolean) :: WALL
abbrev cX4_decodeAll : ByteArray := prog_6_method_24_code
def yX4_decodeAll : MethodName := ⟨RX4, "decodeAll", "(II)I"⟩
def wsX4_decodeAll : List Cond := .code yX4_decodeAll cX4_decodeAll 6 (some .int) :: WALL
abbrev cX4_known : ByteArray := prog_6_method_25_code
def yX4_known : MethodName := ⟨RX4, "known", "(II)I"⟩
def wsX4_known : List Cond := .code yX4_known cX4_known 4 (some .int) :: WALL
abbrev cX4_bound : ByteArray := prog_6_method_26_code
def yX4_bound : MethodName := ⟨RX4, "bound", "(ZIII)I"⟩
def wsX4_bound : List Cond := .code yX4_bound cX4_bound 5 (some .int) :: WALL
abbrev cX4_isNode : ByteArray := prog_6_method_5_code
def yX4_isNode : MethodName := ⟨RX4, "isNode", "(III)Z"⟩
def wsX4_isNode : List Cond := .code yX4_isNode cX4_isNode 4 (some .boolean) :: WALL
abbrev cX4_least : ByteArray := prog_6_method_27_code
def yX4_least : MethodName := ⟨RX4, "least", "(III)I"⟩
def wsX4_least : List Cond := .code yX4_least cX4_least 4 (some .int) :: WALL
abbrev cX4_leaf : ByteArray := prog_6_method_28_code
def yX4_leaf : MethodName := ⟨RX4, "leaf", "(II)I"⟩
def wsX4_leaf : List Cond := .code yX4_leaf cX4_leaf 3 (some .int) :: WALL
abbrev cX4_told : ByteArray := prog_6_method_29_code
def yX4_told : MethodName := ⟨RX4, "told", "(I)I"⟩
def wsX4_told : List Cond := .code yX4_told cX4_told 2 (some .int) :: WALL
abbrev cX4_knownIn : ByteArray := prog_6_method_30_code
def yX4_knownIn : MethodName := ⟨RX4, "knownIn", "(I)I"⟩
def wsX4_knownIn : List Cond := .code yX4_knownIn cX4_knownIn 4 (some .int) :: WALL
abbrev cX4_reset : ByteArray := prog_6_method_31_code
def yX4_reset : MethodName := ⟨RX4, "reset", "()V"⟩
def wsX4_reset : List Cond := .code yX4_reset cX4_reset 2 none :: WALL
theorem inX0 : ∀ w ∈ wsX00, w ∈ WALL := by decide +kernel
theorem inX1 : ∀ w ∈ wsX10, w ∈ WALL := by decide +kernel
theorem inX2 : ∀ w ∈ wsX20, w ∈ WALL := by decide +kernel
theorem inX3 : ∀ w ∈ wsX30, w ∈ WALL := by decide +kernel
theorem inX4 : ∀ w ∈ wsX40, w ∈ WALL := by decide +kernel
theorem good_of {w : Cond} (h : w ∈ WALL) : w ∈ WALL ∧ ((w.onTables && w.keeps) = true ∨ ∃ ty, w = .arrayClass ty) := ⟨h, good_of_word (wall_good w h)⟩
theorem goodW {c : Cond} (h : c ∈ WALL) : GoodIn WALL (c :: WALL) := fun w hw => (List.mem_cons.mp hw).elim (fun e => by rw [e]; exact good_of h) (fun e => good_of e)
theorem gV {own C : String} {idx : Nat} {y : MethodName} {c : Cond} (h1 : Cond.methodLink own idx y ∈ WALL) (h2 : Cond.instanceMethod y ∈ WALL) (h3 : Cond.selects C y y ∈ WALL) (h4 : Cond.initialized C ∈ WALL) (h5 : c ∈ WALL) : GoodIn WALL (wsV own idx C y (c :: WALL)) := fun w hw => (List.mem_append.mp hw).elim (fun e => by
  simp only [List.mem_cons, List.not_mem_nil, or_false] at e
  rcases e with rfl | rfl | rfl | rfl
  · exact good_of h1
  · exact good_of h2
  · exact good_of h3
  · exact good_of h4) (fun e => goodW h5 w e)
theorem gS {own : String} {idx : Nat} {y : MethodName} {c : Cond} (h1 : Cond.methodLink own idx y ∈ WALL) (h2 : Cond.static y ∈ WALL) (h3 : Cond.initialized y.cls ∈ WALL) (h5 : c ∈ WALL) : GoodIn WALL (va_wsS own idx y (c :: WALL)) := fun w hw => (List.mem_append.mp hw).elim (fun e => by
  simp only [List.mem_cons, List.not_mem_nil, or_false] at e
  rcases e with rfl | rfl | rfl
  · exact good_of h1
  · exact good_of h2
  · exact good_of h3) (fun e => goodW h5 w e)
end
section
-- the worlds of the class: words for its cells
abbrev vBR : Type := (Nat → Int32) × Int32 × Int32
abbrev vSD : Type := (Nat → Int32) × (Nat → Int32) × Int32
abbrev vSH : Type := (Int32 × Int32 × Int32 × Int32 × Int32) × ((Nat → Int32) × (Nat → Int32) × (Nat → Int32)) × (Nat → Nat → Int32)
abbrev vTT : Type := (Nat → Int32) × vSD × vSD × vBR × vBR × Int32
abbrev tysA (cI cZ cJ cL : ClassId) : List (ClassId × FieldType) := [(cI, .int), (cZ, .boolean), (cJ, .array .int), (cL, .long)]
abbrev wBR (cI : ClassId) (a0 a1 : Nat) (B : vBR) : va_W := [(a0, .inr (0, [.ref a1, .int B.2.1, .int B.2.2])), (a1, .inl (cI, 1250, .inl B.1))]
abbrev wSD (cI cZ : ClassId) (nn a0 a1 a2 : Nat) (D : vSD) : va_W := [(a0, .inr (2, [.ref a1, .ref a2, .int D.2.2])), (a1, .inl (cI, nn, .inl D.1)), (a2, .inl (cZ, nn, .inl D.2.1))]
abbrev wSH (cI cJ : ClassId) (nl a0 a1 a2 a3 a4 : Nat) (ra : Nat → Nat) (S : vSH) : va_W := [(a0, .inr (1, [.int S.1.1, .int S.1.2.1, .int S.1.2.2.1, .int S.1.2.2.2.1, .int S.1.2.2.2.2, .ref a1, .ref a2, .ref a3, .ref a4])), (a1, .inl (cI, 6, .inl S.2.1.1)), (a2, .inl (cI, 6, .inl S.2.1.2.1)), (a3, .inl (cI, 6, .inl S.2.1.2.2)), (a4, .inl (cJ, 3, .inr (.inr (.inr (.inr (fun i => if i < 3 then some (ra i) else none)))))), (ra 0, .inl (cI, nl, .inl (S.2.2 0))), (ra 1, .inl (cI, nl, .inl (S.2.2 1))), (ra 2, .inl (cI, nl, .inl (S.2.2 2)))]
abbrev wTT (cI cZ cJ : ClassId) (nl nn : Nat) (ad ra : Nat → Nat) (S : vSH) (T : vTT) : va_W := [(ad 0, .inr (3, [.ref (ad 1), .ref (ad 9), .ref (ad 10), .ref (ad 13), .ref (ad 16), .ref (ad 18), .int T.2.2.2.2.2])), (ad 1, .inr (1, [.int S.1.1, .int S.1.2.1, .int S.1.2.2.1, .int S.1.2.2.2.1, .int S.1.2.2.2.2, .ref (ad 2), .ref (ad 3), .ref (ad 4), .ref (ad 5)])), (ad 2, .inl (cI, 6, .inl S.2.1.1)), (ad 3, .inl (cI, 6, .inl S.2.1.2.1)), (ad 4, .inl (cI, 6, .inl S.2.1.2.2)), (ad 5, .inl (cJ, 3, .inr (.inr (.inr (.inr (fun i => if i < 3 then some (ra i) else none)))))), (ra 0, .inl (cI, nl, .inl (S.2.2 0))), (ra 1, .inl (cI, nl, .inl (S.2.2 1))), (ra 2, .inl (cI, nl, .inl (S.2.2 2))), (ad 9, .inl (cI, nn, .inl T.1)), (ad 10, .inr (2, [.ref (ad 11), .ref (ad 12), .int T.2.1.2.2])), (ad 11, .inl (cI, nn, .inl T.2.1.1)), (ad 12, .inl (cZ, nn, .inl T.2.1.2.1)), (ad 13, .inr (2, [.ref (ad 14), .ref (ad 15), .int T.2.2.1.2.2])), (ad 14, .inl (cI, nn, .inl T.2.2.1.1)), (ad 15, .inl (cZ, nn, .inl T.2.2.1.2.1)), (ad 16, .inr (0, [.ref (ad 17), .int T.2.2.2.1.2.1, .int T.2.2.2.1.2.2])), (ad 17, .inl (cI, 1250, .inl T.2.2.2.1.1)), (ad 18, .inr (0, [.ref (ad 19), .int T.2.2.2.2.1.2.1, .int T.2.2.2.2.1.2.2])), (ad 19, .inl (cI, 1250, .inl T.2.2.2.2.1.1))]
abbrev vMS : Type := (Int32 × Int32 × Int32 × Int32) × (Nat → Int32) × (Nat → Int32) × (Nat → Int32)
abbrev vMM : Type := Int32 × (Nat → Int32) × (Nat → Int32) × (Nat → Int32) × ((Nat → Int32) × Int32 × Int32) × ((Nat → Int32) × Int32 × Int32) × ((Nat → Int32) × (Nat → Int32) × (Nat → Int32) × Int32) × (Nat → Int32) × (Nat → Int32)
abbrev wMM (cI cZ : ClassId) (am : Nat → Nat) (Y : vMS) (G : vMM) : va_W := [(am 0, .inr (4, [.int G.1, .int Y.1.1, .int Y.1.2.1, .int Y.1.2.2.1, .ref (am 1), .ref (am 2), .ref (am 3), .int Y.1.2.2.2, .ref (am 4), .ref (am 5), .ref (am 6), .ref (am 7), .int G.2.2.2.2.1.2.1, .int G.2.2.2.2.1.2.2, .ref (am 8), .int G.2.2.2.2.2.1.2.1, .int G.2.2.2.2.2.1.2.2, .ref (am 9), .ref (am 10), .ref (am 11), .int G.2.2.2.2.2.2.1.2.2.2, .ref (am 12), .ref (am 13)])), (am 1, .inl (cI, 8, .inl Y.2.1)), (am 2, .inl (cI, 8, .inl Y.2.2.1)), (am 3, .inl (cI, 8, .inl Y.2.2.2)), (am 4, .inl (cI, 1400, .inl G.2.1)), (am 5, .inl (cI, 2800, .inl G.2.2.1)), (am 6, .inl (cZ, 2800, .inl G.2.2.2.1)), (am 7, .inl (cZ, 40000, .inl G.2.2.2.2.1.1)), (am 8, .inl (cZ, 40000, .inl G.2.2.2.2.2.1.1)), (am 9, .inl (cI, 8, .inl G.2.2.2.2.2.2.1.1)), (am 10, .inl (cI, 8, .inl G.2.2.2.2.2.2.1.2.1)), (am 11, .inl (cZ, 8, .inl G.2.2.2.2.2.2.1.2.2.1)), (am 12, .inl (cI, 1400, .inl G.2.2.2.2.2.2.2.1)), (am 13, .inl (cZ, 1400, .inl G.2.2.2.2.2.2.2.2))]
-- a method's start: one that only reads, one that writes
abbrev pcR (D : va_G) (tys : List (ClassId × FieldType)) (ws : va_W) (av : List Value) : Array Value → State → Prop := va_Pc av (fun U => va_P D vwCl ws U.heap ∧ va_K D vwCl tys U)
abbrev pcW (D : va_G) (tys : List (ClassId × FieldType)) (ws : va_W) (sz : Nat) (av : List Value) : Array Value → State → Prop := va_Pc av (fun U => U.heap.size = sz ∧ va_P D vwCl ws U.heap ∧ va_K D vwCl tys U ∧ va_D (fun _ => True) ws)
abbrev qB (D : va_G) (tys : List (ClassId × FieldType)) (A : Nat → Prop) (ws : va_W) (t : State) : Prop := va_P D vwCl ws t.heap ∧ va_K D vwCl tys t ∧ va_D A ws
theorem tt_aald {p : Program} {l : Launch} {e : Env} {R : Room} {s : State} {m : MethodId} {args : Array Value} {below : List Frame} {meth : Method} {c : Code} {H : Heap} {locs : List Loc} {cells slots : Nat} {Q : State → Prop} {cc : ByteArray} {pc : Nat} {ls : Array Slot} {rest : List Value} {D : va_G} {cl : List vw_C} {a : Nat} {tys : List (ClassId × FieldType)} {ws : va_W}
    (hexec : p.tables.exec = Jvm.exec) (hb : c.code = cc) (hK : va_K D cl tys s) (hP : va_P D cl ws H) (q0 t0 : Nat) {cA : ClassId} {t : FieldType} {n : Nat} {f : Nat → Option Nat} (ha : ws[q0]? = some (a, .inl (cA, n, .inr (.inr (.inr (.inr f)))))) (ht : tys[t0]? = some (cA, .array t)) {i : Int32} (hin : vp_in i n) (hdg : decode cc pc = .ok (.aaload, 1))
    (kk : W p l e R s m args below meth c H locs cells slots Q (F0 m (pc + 1) ls (va_rf (f i.toNatClampNeg) :: rest))) : W p l e R s m args below meth c H locs cells slots Q (F0 m pc ls (.int i :: .ref a :: rest)) := by
  have hlt : i.toNatClampNeg < n := Nat.not_le.mp fun q => hin (Or.inr q)
  exact W.aald (v := va_rf (f i.toNatClampNeg)) (ty := .array t) hexec hb (hP q0 _ ha) ((hK.2 t0 _ ht).1 n (fun j => va_rf (f j))) rfl (fun q => by cases q) (by show ¬ (i < 0 ∨ (arrV _ _ _).slots.size ≤ _); rw [arrV_size]; exact hin) (by show (arrV _ _ _).slots[_]? = _; rw [arrV_read _ _ hlt]) rfl rfl hdg kk
theorem bl_R {D : va_G} {tys : List (ClassId × FieldType)} {ws : va_W} {av : List Value} : FrameBlind (pcR D tys ws av) := fun a U g mk q => by
  obtain ⟨q0, qP, qK⟩ := q
  exact ⟨q0, qP, va_K.moved (u := U) (U := U.calling g mk a) (Vm.Alike.refl U.vm) qK⟩
theorem bl_W {D : va_G} {tys : List (ClassId × FieldType)} {ws : va_W} {sz : Nat} {av : List Value} : FrameBlind (pcW D tys ws sz av) := fun a U g mk q => by
  obtain ⟨q0, q1, qP, qK, qD⟩ := q
  exact ⟨q0, q1, qP, va_K.moved (u := U) (U := U.calling g mk a) (Vm.Alike.refl U.vm) qK, qD⟩
end
section
theorem k_0 : (Cond.fieldLink RX3 18 "TagTrees" "shape" "LTagTrees$Shape;") ∈ WALL := List.mem_filter.mpr ⟨List.mem_append_right _ (List.mem_of_getElem? (i := 120) (by decide +kernel)), by decide +kernel⟩
theorem k_1 : (Cond.fieldLink RX3 148 "TagTrees$Shape" "width" "I") ∈ WALL := List.mem_filter.mpr ⟨List.mem_append_right _ (List.mem_of_getElem? (i := 48) (by decide +kernel)), by decide +kernel⟩
theorem k_2 : (Cond.fieldLink RX3 151 "TagTrees$Shape" "height" "I") ∈ WALL := List.mem_filter.mpr ⟨List.mem_append_right _ (List.mem_of_getElem? (i := 50) (by decide +kernel)), by decide +kernel⟩
theorem k_3 : (Cond.fieldLink RX3 103 "TagTrees$Shape" "levels" "I") ∈ WALL := List.mem_filter.mpr ⟨List.mem_append_right _ (List.mem_of_getElem? (i := 54) (by decide +kernel)), by decide +kernel⟩
theorem k_4 : (Cond.fieldLink RX3 22 "TagTrees$Shape" "nodes" "I") ∈ WALL := List.mem_filter.mpr ⟨List.mem_append_right _ (List.mem_of_getElem? (i := 55) (by decide +kernel)), by decide +kernel⟩
theorem k_5 : (Cond.fieldLink RX3 45 "TagTrees" "toldBits" "LTagTrees$BitRow;") ∈ WALL := List.mem_filter.mpr ⟨List.mem_append_right _ (List.mem_of_getElem? (i := 124) (by decide +kernel)), by decide +kernel⟩
theorem k_6 : (Cond.fieldLink RX3 116 "TagTrees$BitRow" "many" "I") ∈ WALL := List.mem_filter.mpr ⟨List.mem_append_right _ (List.mem_of_getElem? (i := 112) (by decide +kernel)), by decide +kernel⟩
theorem k_7 : (Cond.fieldLink RX3 49 "TagTrees" "waitingBits" "LTagTrees$BitRow;") ∈ WALL := List.mem_filter.mpr ⟨List.mem_append_right _ (List.mem_of_getElem? (i := 125) (by decide +kernel)), by decide +kernel⟩
theorem k_8 : (Cond.fieldLink RX3 35 "TagTrees" "coder" "LTagTrees$Side;") ∈ WALL := List.mem_filter.mpr ⟨List.mem_append_right _ (List.mem_of_getElem? (i := 122) (by decide +kernel)), by decide +kernel⟩
theorem k_9 : (Cond.fieldLink RX3 154 "TagTrees$Side" "manyFound" "I") ∈ WALL := List.mem_filter.mpr ⟨List.mem_append_right _ (List.mem_of_getElem? (i := 94) (by decide +kernel)), by decide +kernel⟩
theorem k_10 : (Cond.fieldLink RX3 39 "TagTrees" "decoder" "LTagTrees$Side;") ∈ WALL := List.mem_filter.mpr ⟨List.mem_append_right _ (List.mem_of_getElem? (i := 123) (by decide +kernel)), by decide +kernel⟩
theorem k_11 : (Cond.classLink RX3 59 "java/lang/IllegalArgumentException") ∈ WALL := List.mem_filter.mpr ⟨List.mem_append_right _ (List.mem_of_getElem? (i := 248) (by decide +kernel)), by decide +kernel⟩
theorem k_12 : (Cond.initialized "java/lang/IllegalArgumentException") ∈ WALL := List.mem_filter.mpr ⟨List.mem_append_right _ (List.mem_of_getElem? (i := 10) (by decide +kernel)), by decide +kernel⟩
theorem k_13 : (Cond.classLink RX3 172 "java/lang/IllegalStateException") ∈ WALL := List.mem_filter.mpr ⟨List.mem_append_right _ (List.mem_of_getElem? (i := 268) (by decide +kernel)), by decide +kernel⟩
theorem k_14 : (Cond.initialized "java/lang/IllegalStateException") ∈ WALL := List.mem_filter.mpr ⟨List.mem_append_right _ (List.mem_of_getElem? (i := 11) (by decide +kernel)), by decide +kernel⟩
theorem k_15 : (Cond.constant RX3 177 40000) ∈ WALL := List.mem_filter.mpr ⟨List.mem_append_right _ (List.mem_of_getElem? (i := 341) (by decide +kernel)), by decide +kernel⟩
theorem k_16 : (Cond.classLink RX3 178 "java/lang/UnsupportedOperationException") ∈ WALL := List.mem_filter.mpr ⟨List.mem_append_right _ (List.mem_of_getElem? (i := 342) (by decide +kernel)), by decide +kernel⟩
theorem k_17 : (Cond.initialized "java/lang/UnsupportedOperationException") ∈ WALL := List.mem_filter.mpr ⟨List.mem_append_right _ (List.mem_of_getElem? (i := 13) (by decide +kernel)), by decide +kernel⟩
theorem k_18 : (Cond.fieldLink RX3 139 "TagTrees$Side" "found" "[Z") ∈ WALL := List.mem_filter.mpr ⟨List.mem_append_right _ (List.mem_of_getElem? (i := 92) (by decide +kernel)), by decide +kernel⟩
theorem k_19 : (Cond.fieldLink RX4 64 "TagTreesModel" "code" "I") ∈ WALL := List.mem_filter.mpr ⟨List.mem_append_right _ (List.mem_of_getElem? (i := 499) (by decide +kernel)), by decide +kernel⟩
theorem k_20 : (Cond.fieldLink RX4 7 "TagTreesModel" "begins" "[I") ∈ WALL := List.mem_filter.mpr ⟨List.mem_append_right _ (List.mem_of_getElem? (i := 503) (by decide +kernel)), by decide +kernel⟩
theorem k_21 : (Cond.fieldLink RX4 13 "TagTreesModel" "wides" "[I") ∈ WALL := List.mem_filter.mpr ⟨List.mem_append_right _ (List.mem_of_getElem? (i := 504) (by decide +kernel)), by decide +kernel⟩
theorem k_22 : (Cond.fieldLink RX4 33 "TagTreesModel" "waiting" "[Z") ∈ WALL := List.mem_filter.mpr ⟨List.mem_append_right _ (List.mem_of_getElem? (i := 513) (by decide +kernel)), by decide +kernel⟩
theorem k_23 : (Cond.fieldLink RX4 87 "TagTreesModel" "first" "I") ∈ WALL := List.mem_filter.mpr ⟨List.mem_append_right _ (List.mem_of_getElem? (i := 514) (by decide +kernel)), by decide +kernel⟩
theorem k_24 : (Cond.constant RX4 29 40000) ∈ WALL := List.mem_filter.mpr ⟨List.mem_append_right _ (List.mem_of_getElem? (i := 498) (by decide +kernel)), by decide +kernel⟩
theorem k_25 : (Cond.fieldLink RX4 58 "TagTreesModel" "levels" "I") ∈ WALL := List.mem_filter.mpr ⟨List.mem_append_right _ (List.mem_of_getElem? (i := 502) (by decide +kernel)), by decide +kernel⟩
theorem k_26 : (Cond.fieldLink RX4 22 "TagTreesModel" "bounds" "[I") ∈ WALL := List.mem_filter.mpr ⟨List.mem_append_right _ (List.mem_of_getElem? (i := 508) (by decide +kernel)), by decide +kernel⟩
theorem k_27 : (Cond.fieldLink RX4 36 "TagTreesModel" "way" "[I") ∈ WALL := List.mem_filter.mpr ⟨List.mem_append_right _ (List.mem_of_getElem? (i := 516) (by decide +kernel)), by decide +kernel⟩
theorem k_28 : (Cond.fieldLink RX4 39 "TagTreesModel" "newBounds" "[I") ∈ WALL := List.mem_filter.mpr ⟨List.mem_append_right _ (List.mem_of_getElem? (i := 517) (by decide +kernel)), by decide +kernel⟩
theorem k_29 : (Cond.fieldLink RX4 25 "TagTreesModel" "knowns" "[Z") ∈ WALL := List.mem_filter.mpr ⟨List.mem_append_right _ (List.mem_of_getElem? (i := 509) (by decide +kernel)), by decide +kernel⟩
theorem k_30 : (Cond.fieldLink RX4 42 "TagTreesModel" "newKnowns" "[Z") ∈ WALL := List.mem_filter.mpr ⟨List.mem_append_right _ (List.mem_of_getElem? (i := 518) (by decide +kernel)), by decide +kernel⟩
theorem k_31 : (Cond.fieldLink RX4 51 "TagTreesModel" "width" "I") ∈ WALL := List.mem_filter.mpr ⟨List.mem_append_right _ (List.mem_of_getElem? (i := 500) (by decide +kernel)), by decide +kernel⟩
theorem k_32 : (Cond.fieldLink RX4 55 "TagTreesModel" "height" "I") ∈ WALL := List.mem_filter.mpr ⟨List.mem_append_right _ (List.mem_of_getElem? (i := 501) (by decide +kernel)), by decide +kernel⟩
theorem k_33 : (Cond.fieldLink RX4 93 "TagTreesModel" "waits" "I") ∈ WALL := List.mem_filter.mpr ⟨List.mem_append_right _ (List.mem_of_getElem? (i := 515) (by decide +kernel)), by decide +kernel⟩
theorem k_34 : (Cond.fieldLink RX4 61 "TagTreesModel" "nodes" "I") ∈ WALL := List.mem_filter.mpr ⟨List.mem_append_right _ (List.mem_of_getElem? (i := 506) (by decide +kernel)), by decide +kernel⟩
theorem k_35 : (Cond.fieldLink RX4 79 "TagTreesModel" "told" "I") ∈ WALL := List.mem_filter.mpr ⟨List.mem_append_right _ (List.mem_of_getElem? (i := 511) (by decide +kernel)), by decide +kernel⟩
theorem k_36 : (Cond.fieldLink RX4 119 "TagTreesModel" "passed" "I") ∈ WALL := List.mem_filter.mpr ⟨List.mem_append_right _ (List.mem_of_getElem? (i := 512) (by decide +kernel)), by decide +kernel⟩
theorem k_37 : (Cond.fieldLink RX0 15 "TagTrees$BitRow" "first" "I") ∈ WALL := List.mem_filter.mpr ⟨List.mem_append_right _ (List.mem_of_getElem? (i := 110) (by decide +kernel)), by decide +kernel⟩
theorem k_38 : (Cond.constant RX0 22 40000) ∈ WALL := List.mem_filter.mpr ⟨List.mem_append_right _ (List.mem_of_getElem? (i := 370) (by decide +kernel)), by decide +kernel⟩
theorem k_39 : (Cond.fieldLink RX0 19 "TagTrees$BitRow" "many" "I") ∈ WALL := List.mem_filter.mpr ⟨List.mem_append_right _ (List.mem_of_getElem? (i := 111) (by decide +kernel)), by decide +kernel⟩
theorem k_40 : (Cond.fieldLink RX1 35 "TagTrees$Shape" "levels" "I") ∈ WALL := List.mem_filter.mpr ⟨List.mem_append_right _ (List.mem_of_getElem? (i := 53) (by decide +kernel)), by decide +kernel⟩
theorem k_41 : (Cond.fieldLink RX1 9 "TagTrees$Shape" "across" "[I") ∈ WALL := List.mem_filter.mpr ⟨List.mem_append_right _ (List.mem_of_getElem? (i := 57) (by decide +kernel)), by decide +kernel⟩
theorem k_42 : (Cond.fieldLink RX1 15 "TagTrees$Shape" "down" "[I") ∈ WALL := List.mem_filter.mpr ⟨List.mem_append_right _ (List.mem_of_getElem? (i := 59) (by decide +kernel)), by decide +kernel⟩
theorem k_43 : (Cond.fieldLink RX1 18 "TagTrees$Shape" "firstNode" "[I") ∈ WALL := List.mem_filter.mpr ⟨List.mem_append_right _ (List.mem_of_getElem? (i := 61) (by decide +kernel)), by decide +kernel⟩
theorem k_44 : (Cond.fieldLink RX1 43 "TagTrees$Shape" "places" "[[I") ∈ WALL := List.mem_filter.mpr ⟨List.mem_append_right _ (List.mem_of_getElem? (i := 62) (by decide +kernel)), by decide +kernel⟩
theorem k_45 : (Cond.fieldLink RX2 13 "TagTrees$Side" "found" "[Z") ∈ WALL := List.mem_filter.mpr ⟨List.mem_append_right _ (List.mem_of_getElem? (i := 91) (by decide +kernel)), by decide +kernel⟩
theorem k_46 : (Cond.fieldLink RX2 17 "TagTrees$Side" "manyFound" "I") ∈ WALL := List.mem_filter.mpr ⟨List.mem_append_right _ (List.mem_of_getElem? (i := 93) (by decide +kernel)), by decide +kernel⟩
theorem k_47 : (Cond.fieldLink RX2 7 "TagTrees$Side" "bounds" "[I") ∈ WALL := List.mem_filter.mpr ⟨List.mem_append_right _ (List.mem_of_getElem? (i := 89) (by decide +kernel)), by decide +kernel⟩
theorem k_48 : (Cond.methodLink RX3 100 yX3_checkOrder) ∈ WALL := List.mem_filter.mpr ⟨List.mem_append_right _ (List.mem_of_getElem? (i := 393) (by decide +kernel)), by decide +kernel⟩
theorem k_49 : (Cond.code yX3_checkOrder cX3_checkOrder 1 none) ∈ WALL := List.mem_filter.mpr ⟨List.mem_append_right _ (List.mem_of_getElem? (i := 395) (by decide +kernel)), by decide +kernel⟩
theorem k_50 : (Cond.static yX3_checkOrder) ∈ WALL := List.mem_filter.mpr ⟨List.mem_append_right _ (List.mem_of_getElem? (i := 394) (by decide +kernel)), by decide +kernel⟩
theorem k_51 : (Cond.initialized RX3) ∈ WALL := List.mem_filter.mpr ⟨List.mem_append_right _ (List.mem_of_getElem? (i := 1) (by decide +kernel)), by decide +kernel⟩
theorem k_52 : (Cond.classLink RX3 119 "java/lang/IndexOutOfBoundsException") ∈ WALL := List.mem_filter.mpr ⟨List.mem_append_right _ (List.mem_of_getElem? (i := 179) (by decide +kernel)), by decide +kernel⟩
theorem k_53 : (Cond.initialized "java/lang/IndexOutOfBoundsException") ∈ WALL := List.mem_filter.mpr ⟨List.mem_append_right _ (List.mem_of_getElem? (i := 9) (by decide +kernel)), by decide +kernel⟩
theorem k_54 : (Cond.fieldLink RX3 78 "TagTrees$Shape" "leaves" "I") ∈ WALL := List.mem_filter.mpr ⟨List.mem_append_right _ (List.mem_of_getElem? (i := 52) (by decide +kernel)), by decide +kernel⟩
theorem k_55 : (Cond.methodLink RX3 110 yX1_leafX) ∈ WALL := List.mem_filter.mpr ⟨List.mem_append_right _ (List.mem_of_getElem? (i := 401) (by decide +kernel)), by decide +kernel⟩
theorem k_56 : (Cond.code yX1_leafX cX1_leafX 3 (some .int)) ∈ WALL := List.mem_filter.mpr ⟨List.mem_append_right _ (List.mem_of_getElem? (i := 404) (by decide +kernel)), by decide +kernel⟩
theorem k_57 : (Cond.instanceMethod yX1_leafX) ∈ WALL := List.mem_filter.mpr ⟨List.mem_append_right _ (List.mem_of_getElem? (i := 402) (by decide +kernel)), by decide +kernel⟩
theorem k_58 : (Cond.selects RX1 yX1_leafX yX1_leafX) ∈ WALL := List.mem_filter.mpr ⟨List.mem_append_right _ (List.mem_of_getElem? (i := 403) (by decide +kernel)), by decide +kernel⟩
theorem k_59 : (Cond.initialized RX1) ∈ WALL := List.mem_filter.mpr ⟨List.mem_append_right _ (List.mem_of_getElem? (i := 2) (by decide +kernel)), by decide +kernel⟩
theorem k_60 : (Cond.methodLink RX3 113 yX1_leafY) ∈ WALL := List.mem_filter.mpr ⟨List.mem_append_right _ (List.mem_of_getElem? (i := 405) (by decide +kernel)), by decide +kernel⟩
theorem k_61 : (Cond.code yX1_leafY cX1_leafY 3 (some .int)) ∈ WALL := List.mem_filter.mpr ⟨List.mem_append_right _ (List.mem_of_getElem? (i := 408) (by decide +kernel)), by decide +kernel⟩
theorem k_62 : (Cond.instanceMethod yX1_leafY) ∈ WALL := List.mem_filter.mpr ⟨List.mem_append_right _ (List.mem_of_getElem? (i := 406) (by decide +kernel)), by decide +kernel⟩
theorem k_63 : (Cond.selects RX1 yX1_leafY yX1_leafY) ∈ WALL := List.mem_filter.mpr ⟨List.mem_append_right _ (List.mem_of_getElem? (i := 407) (by decide +kernel)), by decide +kernel⟩
theorem k_64 : (Cond.methodLink RX3 69 yX1_nodeAt) ∈ WALL := List.mem_filter.mpr ⟨List.mem_append_right _ (List.mem_of_getElem? (i := 284) (by decide +kernel)), by decide +kernel⟩
theorem k_65 : (Cond.code yX1_nodeAt cX1_nodeAt 4 (some .int)) ∈ WALL := List.mem_filter.mpr ⟨List.mem_append_right _ (List.mem_of_getElem? (i := 287) (by decide +kernel)), by decide +kernel⟩
theorem k_66 : (Cond.instanceMethod yX1_nodeAt) ∈ WALL := List.mem_filter.mpr ⟨List.mem_append_right _ (List.mem_of_getElem? (i := 285) (by decide +kernel)), by decide +kernel⟩
theorem k_67 : (Cond.selects RX1 yX1_nodeAt yX1_nodeAt) ∈ WALL := List.mem_filter.mpr ⟨List.mem_append_right _ (List.mem_of_getElem? (i := 286) (by decide +kernel)), by decide +kernel⟩
theorem k_68 : (Cond.methodLink RX3 157 yX2_forget) ∈ WALL := List.mem_filter.mpr ⟨List.mem_append_right _ (List.mem_of_getElem? (i := 150) (by decide +kernel)), by decide +kernel⟩
theorem k_69 : (Cond.code yX2_forget cX2_forget 2 none) ∈ WALL := List.mem_filter.mpr ⟨List.mem_append_right _ (List.mem_of_getElem? (i := 153) (by decide +kernel)), by decide +kernel⟩
theorem k_70 : (Cond.instanceMethod yX2_forget) ∈ WALL := List.mem_filter.mpr ⟨List.mem_append_right _ (List.mem_of_getElem? (i := 151) (by decide +kernel)), by decide +kernel⟩
theorem k_71 : (Cond.selects RX2 yX2_forget yX2_forget) ∈ WALL := List.mem_filter.mpr ⟨List.mem_append_right _ (List.mem_of_getElem? (i := 152) (by decide +kernel)), by decide +kernel⟩
theorem k_72 : (Cond.initialized RX2) ∈ WALL := List.mem_filter.mpr ⟨List.mem_append_right _ (List.mem_of_getElem? (i := 3) (by decide +kernel)), by decide +kernel⟩
theorem k_73 : (Cond.methodLink RX3 160 yX0_empty) ∈ WALL := List.mem_filter.mpr ⟨List.mem_append_right _ (List.mem_of_getElem? (i := 154) (by decide +kernel)), by decide +kernel⟩
theorem k_74 : (Cond.code yX0_empty cX0_empty 1 none) ∈ WALL := List.mem_filter.mpr ⟨List.mem_append_right _ (List.mem_of_getElem? (i := 157) (by decide +kernel)), by decide +kernel⟩
theorem k_75 : (Cond.instanceMethod yX0_empty) ∈ WALL := List.mem_filter.mpr ⟨List.mem_append_right _ (List.mem_of_getElem? (i := 155) (by decide +kernel)), by decide +kernel⟩
theorem k_76 : (Cond.selects RX0 yX0_empty yX0_empty) ∈ WALL := List.mem_filter.mpr ⟨List.mem_append_right _ (List.mem_of_getElem? (i := 156) (by decide +kernel)), by decide +kernel⟩
theorem k_77 : (Cond.initialized RX0) ∈ WALL := List.mem_filter.mpr ⟨List.mem_append_right _ (List.mem_of_getElem? (i := 4) (by decide +kernel)), by decide +kernel⟩
theorem k_78 : (Cond.fieldLink RX3 52 "TagTrees" "passed" "I") ∈ WALL := List.mem_filter.mpr ⟨List.mem_append_right _ (List.mem_of_getElem? (i := 126) (by decide +kernel)), by decide +kernel⟩
theorem k_79 : (Cond.methodLink RX3 163 yX1_hasNode) ∈ WALL := List.mem_filter.mpr ⟨List.mem_append_right _ (List.mem_of_getElem? (i := 175) (by decide +kernel)), by decide +kernel⟩
theorem k_80 : (Cond.code yX1_hasNode cX1_hasNode 4 (some .boolean)) ∈ WALL := List.mem_filter.mpr ⟨List.mem_append_right _ (List.mem_of_getElem? (i := 178) (by decide +kernel)), by decide +kernel⟩
theorem k_81 : (Cond.instanceMethod yX1_hasNode) ∈ WALL := List.mem_filter.mpr ⟨List.mem_append_right _ (List.mem_of_getElem? (i := 176) (by decide +kernel)), by decide +kernel⟩
theorem k_82 : (Cond.selects RX1 yX1_hasNode yX1_hasNode) ∈ WALL := List.mem_filter.mpr ⟨List.mem_append_right _ (List.mem_of_getElem? (i := 177) (by decide +kernel)), by decide +kernel⟩
theorem k_83 : (Cond.fieldLink RX3 26 "TagTrees" "leasts" "[I") ∈ WALL := List.mem_filter.mpr ⟨List.mem_append_right _ (List.mem_of_getElem? (i := 121) (by decide +kernel)), by decide +kernel⟩
theorem k_84 : (Cond.methodLink RX3 81 Lib.Math.min.name) ∈ WALL := List.mem_filter.mpr ⟨List.mem_append_right _ (List.mem_of_getElem? (i := 296) (by decide +kernel)), by decide +kernel⟩
theorem k_85 : (Cond.static Lib.Math.min.name) ∈ WALL := List.mem_filter.mpr ⟨List.mem_append_right _ (List.mem_of_getElem? (i := 297) (by decide +kernel)), by decide +kernel⟩
theorem k_86 : (Cond.initialized "java/lang/Math") ∈ WALL := List.mem_filter.mpr ⟨List.mem_append_right _ (List.mem_of_getElem? (i := 12) (by decide +kernel)), by decide +kernel⟩
theorem k_87 : (Cond.code Lib.Math.min.name Lib.Math.min.code 2 (some .int)) ∈ WALL := List.mem_filter.mpr ⟨List.mem_append_right _ (List.mem_of_getElem? (i := 298) (by decide +kernel)), by decide +kernel⟩
theorem k_88 : (Cond.methodLink RX3 192 yX3_hasBits) ∈ WALL := List.mem_filter.mpr ⟨List.mem_append_right _ (List.mem_of_getElem? (i := 330) (by decide +kernel)), by decide +kernel⟩
theorem k_89 : (Cond.code yX3_hasBits cX3_hasBits 4 (some .boolean)) ∈ WALL := List.mem_filter.mpr ⟨List.mem_append_right _ (List.mem_of_getElem? (i := 333) (by decide +kernel)), by decide +kernel⟩
theorem k_90 : (Cond.instanceMethod yX3_hasBits) ∈ WALL := List.mem_filter.mpr ⟨List.mem_append_right _ (List.mem_of_getElem? (i := 332) (by decide +kernel)), by decide +kernel⟩
theorem k_91 : (Cond.selects RX3 yX3_hasBits yX3_hasBits) ∈ WALL := List.mem_filter.mpr ⟨List.mem_append_left _ (List.mem_of_getElem? (i := 9) (by decide +kernel)), by decide +kernel⟩
theorem k_92 : (Cond.methodLink RX4 67 yX4_in) ∈ WALL := List.mem_filter.mpr ⟨List.mem_append_right _ (List.mem_of_getElem? (i := 581) (by decide +kernel)), by decide +kernel⟩
theorem k_93 : (Cond.code yX4_in cX4_in 3 (some .boolean)) ∈ WALL := List.mem_filter.mpr ⟨List.mem_append_right _ (List.mem_of_getElem? (i := 583) (by decide +kernel)), by decide +kernel⟩
theorem k_94 : (Cond.static yX4_in) ∈ WALL := List.mem_filter.mpr ⟨List.mem_append_right _ (List.mem_of_getElem? (i := 582) (by decide +kernel)), by decide +kernel⟩
theorem k_95 : (Cond.initialized RX4) ∈ WALL := List.mem_filter.mpr ⟨List.mem_append_right _ (List.mem_of_getElem? (i := 5) (by decide +kernel)), by decide +kernel⟩
theorem k_96 : (Cond.fieldLink RX4 16 "TagTreesModel" "highs" "[I") ∈ WALL := List.mem_filter.mpr ⟨List.mem_append_right _ (List.mem_of_getElem? (i := 505) (by decide +kernel)), by decide +kernel⟩
theorem k_97 : (Cond.fieldLink RX4 19 "TagTreesModel" "values" "[I") ∈ WALL := List.mem_filter.mpr ⟨List.mem_append_right _ (List.mem_of_getElem? (i := 507) (by decide +kernel)), by decide +kernel⟩
theorem k_98 : (Cond.methodLink RX4 71 yX4_node) ∈ WALL := List.mem_filter.mpr ⟨List.mem_append_right _ (List.mem_of_getElem? (i := 588) (by decide +kernel)), by decide +kernel⟩
theorem k_99 : (Cond.code yX4_node cX4_node 4 (some .int)) ∈ WALL := List.mem_filter.mpr ⟨List.mem_append_right _ (List.mem_of_getElem? (i := 591) (by decide +kernel)), by decide +kernel⟩
theorem k_100 : (Cond.instanceMethod yX4_node) ∈ WALL := List.mem_filter.mpr ⟨List.mem_append_right _ (List.mem_of_getElem? (i := 590) (by decide +kernel)), by decide +kernel⟩
theorem k_101 : (Cond.selects RX4 yX4_node yX4_node) ∈ WALL := List.mem_filter.mpr ⟨List.mem_append_left _ (List.mem_of_getElem? (i := 19) (by decide +kernel)), by decide +kernel⟩
theorem k_102 : (Cond.fieldLink RX4 90 "TagTreesModel" "made" "I") ∈ WALL := List.mem_filter.mpr ⟨List.mem_append_right _ (List.mem_of_getElem? (i := 519) (by decide +kernel)), by decide +kernel⟩
theorem k_103 : (Cond.methodLink RX4 96 yX4_bitOf) ∈ WALL := List.mem_filter.mpr ⟨List.mem_append_right _ (List.mem_of_getElem? (i := 605) (by decide +kernel)), by decide +kernel⟩
theorem k_104 : (Cond.code yX4_bitOf cX4_bitOf 2 (some .boolean)) ∈ WALL := List.mem_filter.mpr ⟨List.mem_append_right _ (List.mem_of_getElem? (i := 608) (by decide +kernel)), by decide +kernel⟩
theorem k_105 : (Cond.instanceMethod yX4_bitOf) ∈ WALL := List.mem_filter.mpr ⟨List.mem_append_right _ (List.mem_of_getElem? (i := 607) (by decide +kernel)), by decide +kernel⟩
theorem k_106 : (Cond.selects RX4 yX4_bitOf yX4_bitOf) ∈ WALL := List.mem_filter.mpr ⟨List.mem_append_left _ (List.mem_of_getElem? (i := 21) (by decide +kernel)), by decide +kernel⟩
theorem k_107 : (Cond.fieldLink RX4 30 "TagTreesModel" "bits" "[Z") ∈ WALL := List.mem_filter.mpr ⟨List.mem_append_right _ (List.mem_of_getElem? (i := 510) (by decide +kernel)), by decide +kernel⟩
theorem k_108 : (Cond.methodLink RX4 108 yX4_leavesOf) ∈ WALL := List.mem_filter.mpr ⟨List.mem_append_right _ (List.mem_of_getElem? (i := 625) (by decide +kernel)), by decide +kernel⟩
theorem k_109 : (Cond.code yX4_leavesOf cX4_leavesOf 6 (some .int)) ∈ WALL := List.mem_filter.mpr ⟨List.mem_append_right _ (List.mem_of_getElem? (i := 628) (by decide +kernel)), by decide +kernel⟩
theorem k_110 : (Cond.instanceMethod yX4_leavesOf) ∈ WALL := List.mem_filter.mpr ⟨List.mem_append_right _ (List.mem_of_getElem? (i := 627) (by decide +kernel)), by decide +kernel⟩
theorem k_111 : (Cond.selects RX4 yX4_leavesOf yX4_leavesOf) ∈ WALL := List.mem_filter.mpr ⟨List.mem_append_left _ (List.mem_of_getElem? (i := 24) (by decide +kernel)), by decide +kernel⟩
theorem k_112 : (Cond.methodLink RX4 115 yX4_add) ∈ WALL := List.mem_filter.mpr ⟨List.mem_append_right _ (List.mem_of_getElem? (i := 637) (by decide +kernel)), by decide +kernel⟩
theorem k_113 : (Cond.code yX4_add cX4_add 2 none) ∈ WALL := List.mem_filter.mpr ⟨List.mem_append_right _ (List.mem_of_getElem? (i := 640) (by decide +kernel)), by decide +kernel⟩
theorem k_114 : (Cond.instanceMethod yX4_add) ∈ WALL := List.mem_filter.mpr ⟨List.mem_append_right _ (List.mem_of_getElem? (i := 639) (by decide +kernel)), by decide +kernel⟩
theorem k_115 : (Cond.selects RX4 yX4_add yX4_add) ∈ WALL := List.mem_filter.mpr ⟨List.mem_append_left _ (List.mem_of_getElem? (i := 25) (by decide +kernel)), by decide +kernel⟩
theorem k_116 : (Cond.methodLink RX4 128 yX4_knownIn) ∈ WALL := List.mem_filter.mpr ⟨List.mem_append_right _ (List.mem_of_getElem? (i := 681) (by decide +kernel)), by decide +kernel⟩
theorem k_117 : (Cond.code yX4_knownIn cX4_knownIn 4 (some .int)) ∈ WALL := List.mem_filter.mpr ⟨List.mem_append_right _ (List.mem_of_getElem? (i := 684) (by decide +kernel)), by decide +kernel⟩
theorem k_118 : (Cond.instanceMethod yX4_knownIn) ∈ WALL := List.mem_filter.mpr ⟨List.mem_append_right _ (List.mem_of_getElem? (i := 683) (by decide +kernel)), by decide +kernel⟩
theorem k_119 : (Cond.selects RX4 yX4_knownIn yX4_knownIn) ∈ WALL := List.mem_filter.mpr ⟨List.mem_append_left _ (List.mem_of_getElem? (i := 28) (by decide +kernel)), by decide +kernel⟩
theorem k_120 : (Cond.methodLink RX0 23 yX0_placeOf) ∈ WALL := List.mem_filter.mpr ⟨List.mem_append_right _ (List.mem_of_getElem? (i := 371) (by decide +kernel)), by decide +kernel⟩
theorem k_121 : (Cond.code yX0_placeOf cX0_placeOf 3 (some .int)) ∈ WALL := List.mem_filter.mpr ⟨List.mem_append_right _ (List.mem_of_getElem? (i := 374) (by decide +kernel)), by decide +kernel⟩
theorem k_122 : (Cond.instanceMethod yX0_placeOf) ∈ WALL := List.mem_filter.mpr ⟨List.mem_append_right _ (List.mem_of_getElem? (i := 373) (by decide +kernel)), by decide +kernel⟩
theorem k_123 : (Cond.selects RX0 yX0_placeOf yX0_placeOf) ∈ WALL := List.mem_filter.mpr ⟨List.mem_append_left _ (List.mem_of_getElem? (i := 13) (by decide +kernel)), by decide +kernel⟩
theorem k_124 : (Cond.fieldLink RX0 9 "TagTrees$BitRow" "words" "[I") ∈ WALL := List.mem_filter.mpr ⟨List.mem_append_right _ (List.mem_of_getElem? (i := 109) (by decide +kernel)), by decide +kernel⟩
theorem k_125 : (Cond.methodLink RX3 124 yX0_look) ∈ WALL := List.mem_filter.mpr ⟨List.mem_append_right _ (List.mem_of_getElem? (i := 417) (by decide +kernel)), by decide +kernel⟩
theorem k_126 : (Cond.code yX0_look cX0_look 3 (some .int)) ∈ WALL := List.mem_filter.mpr ⟨List.mem_append_right _ (List.mem_of_getElem? (i := 420) (by decide +kernel)), by decide +kernel⟩
theorem k_127 : (Cond.instanceMethod yX0_look) ∈ WALL := List.mem_filter.mpr ⟨List.mem_append_right _ (List.mem_of_getElem? (i := 418) (by decide +kernel)), by decide +kernel⟩
theorem k_128 : (Cond.selects RX0 yX0_look yX0_look) ∈ WALL := List.mem_filter.mpr ⟨List.mem_append_right _ (List.mem_of_getElem? (i := 419) (by decide +kernel)), by decide +kernel⟩
theorem k_129 : (Cond.methodLink RX3 93 yX3_checkRoom) ∈ WALL := List.mem_filter.mpr ⟨List.mem_append_right _ (List.mem_of_getElem? (i := 338) (by decide +kernel)), by decide +kernel⟩
theorem k_130 : (Cond.code yX3_checkRoom cX3_checkRoom 2 none) ∈ WALL := List.mem_filter.mpr ⟨List.mem_append_right _ (List.mem_of_getElem? (i := 340) (by decide +kernel)), by decide +kernel⟩
theorem k_131 : (Cond.static yX3_checkRoom) ∈ WALL := List.mem_filter.mpr ⟨List.mem_append_right _ (List.mem_of_getElem? (i := 339) (by decide +kernel)), by decide +kernel⟩
theorem k_132 : (Cond.methodLink RX3 130 yX0_append) ∈ WALL := List.mem_filter.mpr ⟨List.mem_append_right _ (List.mem_of_getElem? (i := 366) (by decide +kernel)), by decide +kernel⟩
theorem k_133 : (Cond.code yX0_append cX0_append 4 none) ∈ WALL := List.mem_filter.mpr ⟨List.mem_append_right _ (List.mem_of_getElem? (i := 369) (by decide +kernel)), by decide +kernel⟩
theorem k_134 : (Cond.instanceMethod yX0_append) ∈ WALL := List.mem_filter.mpr ⟨List.mem_append_right _ (List.mem_of_getElem? (i := 367) (by decide +kernel)), by decide +kernel⟩
theorem k_135 : (Cond.selects RX0 yX0_append yX0_append) ∈ WALL := List.mem_filter.mpr ⟨List.mem_append_right _ (List.mem_of_getElem? (i := 368) (by decide +kernel)), by decide +kernel⟩
theorem k_136 : (Cond.methodLink RX3 55 yX3_checkNode) ∈ WALL := List.mem_filter.mpr ⟨List.mem_append_right _ (List.mem_of_getElem? (i := 171) (by decide +kernel)), by decide +kernel⟩
theorem k_137 : (Cond.code yX3_checkNode cX3_checkNode 4 none) ∈ WALL := List.mem_filter.mpr ⟨List.mem_append_right _ (List.mem_of_getElem? (i := 174) (by decide +kernel)), by decide +kernel⟩
theorem k_138 : (Cond.instanceMethod yX3_checkNode) ∈ WALL := List.mem_filter.mpr ⟨List.mem_append_right _ (List.mem_of_getElem? (i := 173) (by decide +kernel)), by decide +kernel⟩
theorem k_139 : (Cond.selects RX3 yX3_checkNode yX3_checkNode) ∈ WALL := List.mem_filter.mpr ⟨List.mem_append_left _ (List.mem_of_getElem? (i := 2) (by decide +kernel)), by decide +kernel⟩
theorem k_140 : (Cond.fieldLink RX3 143 "TagTrees$Side" "bounds" "[I") ∈ WALL := List.mem_filter.mpr ⟨List.mem_append_right _ (List.mem_of_getElem? (i := 90) (by decide +kernel)), by decide +kernel⟩
theorem k_141 : (Cond.fieldLink RX3 183 "TagTrees$Shape" "down" "[I") ∈ WALL := List.mem_filter.mpr ⟨List.mem_append_right _ (List.mem_of_getElem? (i := 60) (by decide +kernel)), by decide +kernel⟩
theorem k_142 : (Cond.fieldLink RX3 186 "TagTrees$Shape" "across" "[I") ∈ WALL := List.mem_filter.mpr ⟨List.mem_append_right _ (List.mem_of_getElem? (i := 58) (by decide +kernel)), by decide +kernel⟩
theorem k_143 : (Cond.methodLink RX3 189 yX3_leastOfChildren) ∈ WALL := List.mem_filter.mpr ⟨List.mem_append_right _ (List.mem_of_getElem? (i := 292) (by decide +kernel)), by decide +kernel⟩
theorem k_144 : (Cond.code yX3_leastOfChildren cX3_leastOfChildren 8 (some .int)) ∈ WALL := List.mem_filter.mpr ⟨List.mem_append_right _ (List.mem_of_getElem? (i := 295) (by decide +kernel)), by decide +kernel⟩
theorem k_145 : (Cond.instanceMethod yX3_leastOfChildren) ∈ WALL := List.mem_filter.mpr ⟨List.mem_append_right _ (List.mem_of_getElem? (i := 294) (by decide +kernel)), by decide +kernel⟩
theorem k_146 : (Cond.selects RX3 yX3_leastOfChildren yX3_leastOfChildren) ∈ WALL := List.mem_filter.mpr ⟨List.mem_append_left _ (List.mem_of_getElem? (i := 6) (by decide +kernel)), by decide +kernel⟩
theorem k_147 : (Cond.methodLink RX3 195 yX3_boundAfter) ∈ WALL := List.mem_filter.mpr ⟨List.mem_append_right _ (List.mem_of_getElem? (i := 334) (by decide +kernel)), by decide +kernel⟩
theorem k_148 : (Cond.code yX3_boundAfter cX3_boundAfter 4 (some .int)) ∈ WALL := List.mem_filter.mpr ⟨List.mem_append_right _ (List.mem_of_getElem? (i := 337) (by decide +kernel)), by decide +kernel⟩
theorem k_149 : (Cond.instanceMethod yX3_boundAfter) ∈ WALL := List.mem_filter.mpr ⟨List.mem_append_right _ (List.mem_of_getElem? (i := 336) (by decide +kernel)), by decide +kernel⟩
theorem k_150 : (Cond.selects RX3 yX3_boundAfter yX3_boundAfter) ∈ WALL := List.mem_filter.mpr ⟨List.mem_append_left _ (List.mem_of_getElem? (i := 10) (by decide +kernel)), by decide +kernel⟩
theorem k_151 : (Cond.methodLink RX3 207 yX2_find) ∈ WALL := List.mem_filter.mpr ⟨List.mem_append_right _ (List.mem_of_getElem? (i := 375) (by decide +kernel)), by decide +kernel⟩
theorem k_152 : (Cond.code yX2_find cX2_find 2 none) ∈ WALL := List.mem_filter.mpr ⟨List.mem_append_right _ (List.mem_of_getElem? (i := 378) (by decide +kernel)), by decide +kernel⟩
theorem k_153 : (Cond.instanceMethod yX2_find) ∈ WALL := List.mem_filter.mpr ⟨List.mem_append_right _ (List.mem_of_getElem? (i := 376) (by decide +kernel)), by decide +kernel⟩
theorem k_154 : (Cond.selects RX2 yX2_find yX2_find) ∈ WALL := List.mem_filter.mpr ⟨List.mem_append_right _ (List.mem_of_getElem? (i := 377) (by decide +kernel)), by decide +kernel⟩
theorem k_155 : (Cond.methodLink RX3 198 Lib.Math.max.name) ∈ WALL := List.mem_filter.mpr ⟨List.mem_append_right _ (List.mem_of_getElem? (i := 323) (by decide +kernel)), by decide +kernel⟩
theorem k_156 : (Cond.static Lib.Math.max.name) ∈ WALL := List.mem_filter.mpr ⟨List.mem_append_right _ (List.mem_of_getElem? (i := 324) (by decide +kernel)), by decide +kernel⟩
theorem k_157 : (Cond.code Lib.Math.max.name Lib.Math.max.code 2 (some .int)) ∈ WALL := List.mem_filter.mpr ⟨List.mem_append_right _ (List.mem_of_getElem? (i := 325) (by decide +kernel)), by decide +kernel⟩
theorem k_158 : (Cond.methodLink RX4 75 yX4_isLeaf) ∈ WALL := List.mem_filter.mpr ⟨List.mem_append_right _ (List.mem_of_getElem? (i := 577) (by decide +kernel)), by decide +kernel⟩
theorem k_159 : (Cond.code yX4_isLeaf cX4_isLeaf 3 (some .boolean)) ∈ WALL := List.mem_filter.mpr ⟨List.mem_append_right _ (List.mem_of_getElem? (i := 580) (by decide +kernel)), by decide +kernel⟩
theorem k_160 : (Cond.instanceMethod yX4_isLeaf) ∈ WALL := List.mem_filter.mpr ⟨List.mem_append_right _ (List.mem_of_getElem? (i := 579) (by decide +kernel)), by decide +kernel⟩
theorem k_161 : (Cond.selects RX4 yX4_isLeaf yX4_isLeaf) ∈ WALL := List.mem_filter.mpr ⟨List.mem_append_left _ (List.mem_of_getElem? (i := 17) (by decide +kernel)), by decide +kernel⟩
theorem k_162 : (Cond.methodLink RX4 82 yX4_lift) ∈ WALL := List.mem_filter.mpr ⟨List.mem_append_right _ (List.mem_of_getElem? (i := 584) (by decide +kernel)), by decide +kernel⟩
theorem k_163 : (Cond.code yX4_lift cX4_lift 10 none) ∈ WALL := List.mem_filter.mpr ⟨List.mem_append_right _ (List.mem_of_getElem? (i := 587) (by decide +kernel)), by decide +kernel⟩
theorem k_164 : (Cond.instanceMethod yX4_lift) ∈ WALL := List.mem_filter.mpr ⟨List.mem_append_right _ (List.mem_of_getElem? (i := 586) (by decide +kernel)), by decide +kernel⟩
theorem k_165 : (Cond.selects RX4 yX4_lift yX4_lift) ∈ WALL := List.mem_filter.mpr ⟨List.mem_append_left _ (List.mem_of_getElem? (i := 18) (by decide +kernel)), by decide +kernel⟩
theorem k_166 : (Cond.constantLong RX4 85 1000) ∈ WALL := List.mem_filter.mpr ⟨List.mem_append_right _ (List.mem_of_getElem? (i := 596) (by decide +kernel)), by decide +kernel⟩
theorem k_167 : (Cond.methodLink RX4 100 yX4_tell) ∈ WALL := List.mem_filter.mpr ⟨List.mem_append_right _ (List.mem_of_getElem? (i := 601) (by decide +kernel)), by decide +kernel⟩
theorem k_168 : (Cond.code yX4_tell cX4_tell 12 (some .boolean)) ∈ WALL := List.mem_filter.mpr ⟨List.mem_append_right _ (List.mem_of_getElem? (i := 604) (by decide +kernel)), by decide +kernel⟩
theorem k_169 : (Cond.instanceMethod yX4_tell) ∈ WALL := List.mem_filter.mpr ⟨List.mem_append_right _ (List.mem_of_getElem? (i := 603) (by decide +kernel)), by decide +kernel⟩
theorem k_170 : (Cond.selects RX4 yX4_tell yX4_tell) ∈ WALL := List.mem_filter.mpr ⟨List.mem_append_left _ (List.mem_of_getElem? (i := 20) (by decide +kernel)), by decide +kernel⟩
theorem k_171 : (Cond.methodLink RX4 104 yX4_keep) ∈ WALL := List.mem_filter.mpr ⟨List.mem_append_right _ (List.mem_of_getElem? (i := 609) (by decide +kernel)), by decide +kernel⟩
theorem k_172 : (Cond.code yX4_keep cX4_keep 3 none) ∈ WALL := List.mem_filter.mpr ⟨List.mem_append_right _ (List.mem_of_getElem? (i := 612) (by decide +kernel)), by decide +kernel⟩
theorem k_173 : (Cond.instanceMethod yX4_keep) ∈ WALL := List.mem_filter.mpr ⟨List.mem_append_right _ (List.mem_of_getElem? (i := 611) (by decide +kernel)), by decide +kernel⟩
theorem k_174 : (Cond.selects RX4 yX4_keep yX4_keep) ∈ WALL := List.mem_filter.mpr ⟨List.mem_append_left _ (List.mem_of_getElem? (i := 22) (by decide +kernel)), by decide +kernel⟩
theorem k_175 : (Cond.fieldLink RX4 45 "TagTreesModel" "savedBounds" "[I") ∈ WALL := List.mem_filter.mpr ⟨List.mem_append_right _ (List.mem_of_getElem? (i := 520) (by decide +kernel)), by decide +kernel⟩
theorem k_176 : (Cond.fieldLink RX4 48 "TagTreesModel" "savedKnowns" "[Z") ∈ WALL := List.mem_filter.mpr ⟨List.mem_append_right _ (List.mem_of_getElem? (i := 521) (by decide +kernel)), by decide +kernel⟩
theorem k_177 : (Cond.methodLink RX4 111 yX4_leafOf) ∈ WALL := List.mem_filter.mpr ⟨List.mem_append_right _ (List.mem_of_getElem? (i := 621) (by decide +kernel)), by decide +kernel⟩
theorem k_178 : (Cond.code yX4_leafOf cX4_leafOf 9 (some .int)) ∈ WALL := List.mem_filter.mpr ⟨List.mem_append_right _ (List.mem_of_getElem? (i := 624) (by decide +kernel)), by decide +kernel⟩
theorem k_179 : (Cond.instanceMethod yX4_leafOf) ∈ WALL := List.mem_filter.mpr ⟨List.mem_append_right _ (List.mem_of_getElem? (i := 623) (by decide +kernel)), by decide +kernel⟩
theorem k_180 : (Cond.selects RX4 yX4_leafOf yX4_leafOf) ∈ WALL := List.mem_filter.mpr ⟨List.mem_append_left _ (List.mem_of_getElem? (i := 23) (by decide +kernel)), by decide +kernel⟩
theorem k_181 : (Cond.methodLink RX4 125 yX4_isNode) ∈ WALL := List.mem_filter.mpr ⟨List.mem_append_right _ (List.mem_of_getElem? (i := 665) (by decide +kernel)), by decide +kernel⟩
theorem k_182 : (Cond.code yX4_isNode cX4_isNode 4 (some .boolean)) ∈ WALL := List.mem_filter.mpr ⟨List.mem_append_right _ (List.mem_of_getElem? (i := 668) (by decide +kernel)), by decide +kernel⟩
theorem k_183 : (Cond.instanceMethod yX4_isNode) ∈ WALL := List.mem_filter.mpr ⟨List.mem_append_right _ (List.mem_of_getElem? (i := 667) (by decide +kernel)), by decide +kernel⟩
theorem k_184 : (Cond.selects RX4 yX4_isNode yX4_isNode) ∈ WALL := List.mem_filter.mpr ⟨List.mem_append_left _ (List.mem_of_getElem? (i := 27) (by decide +kernel)), by decide +kernel⟩
theorem k_185 : (Cond.methodLink RX3 66 yX3_checkNothingTold) ∈ WALL := List.mem_filter.mpr ⟨List.mem_append_right _ (List.mem_of_getElem? (i := 264) (by decide +kernel)), by decide +kernel⟩
theorem k_186 : (Cond.code yX3_checkNothingTold cX3_checkNothingTold 1 none) ∈ WALL := List.mem_filter.mpr ⟨List.mem_append_right _ (List.mem_of_getElem? (i := 267) (by decide +kernel)), by decide +kernel⟩
theorem k_187 : (Cond.instanceMethod yX3_checkNothingTold) ∈ WALL := List.mem_filter.mpr ⟨List.mem_append_right _ (List.mem_of_getElem? (i := 266) (by decide +kernel)), by decide +kernel⟩
theorem k_188 : (Cond.selects RX3 yX3_checkNothingTold yX3_checkNothingTold) ∈ WALL := List.mem_filter.mpr ⟨List.mem_append_left _ (List.mem_of_getElem? (i := 4) (by decide +kernel)), by decide +kernel⟩
theorem k_189 : (Cond.methodLink RX3 73 yX3_renewLeasts) ∈ WALL := List.mem_filter.mpr ⟨List.mem_append_right _ (List.mem_of_getElem? (i := 288) (by decide +kernel)), by decide +kernel⟩
theorem k_190 : (Cond.code yX3_renewLeasts cX3_renewLeasts 4 none) ∈ WALL := List.mem_filter.mpr ⟨List.mem_append_right _ (List.mem_of_getElem? (i := 291) (by decide +kernel)), by decide +kernel⟩
theorem k_191 : (Cond.instanceMethod yX3_renewLeasts) ∈ WALL := List.mem_filter.mpr ⟨List.mem_append_right _ (List.mem_of_getElem? (i := 290) (by decide +kernel)), by decide +kernel⟩
theorem k_192 : (Cond.selects RX3 yX3_renewLeasts yX3_renewLeasts) ∈ WALL := List.mem_filter.mpr ⟨List.mem_append_left _ (List.mem_of_getElem? (i := 5) (by decide +kernel)), by decide +kernel⟩
theorem k_193 : (Cond.methodLink RX3 11 yX3_nearest) ∈ WALL := List.mem_filter.mpr ⟨List.mem_append_right _ (List.mem_of_getElem? (i := 24) (by decide +kernel)), by decide +kernel⟩
theorem k_194 : (Cond.code yX3_nearest cX3_nearest 4 (some .int)) ∈ WALL := List.mem_filter.mpr ⟨List.mem_append_right _ (List.mem_of_getElem? (i := 26) (by decide +kernel)), by decide +kernel⟩
theorem k_195 : (Cond.static yX3_nearest) ∈ WALL := List.mem_filter.mpr ⟨List.mem_append_right _ (List.mem_of_getElem? (i := 25) (by decide +kernel)), by decide +kernel⟩
theorem k_196 : (Cond.methodLink RX3 201 yX3_costOfNode) ∈ WALL := List.mem_filter.mpr ⟨List.mem_append_right _ (List.mem_of_getElem? (i := 326) (by decide +kernel)), by decide +kernel⟩
theorem k_197 : (Cond.code yX3_costOfNode cX3_costOfNode 5 (some .int)) ∈ WALL := List.mem_filter.mpr ⟨List.mem_append_right _ (List.mem_of_getElem? (i := 329) (by decide +kernel)), by decide +kernel⟩
theorem k_198 : (Cond.instanceMethod yX3_costOfNode) ∈ WALL := List.mem_filter.mpr ⟨List.mem_append_right _ (List.mem_of_getElem? (i := 328) (by decide +kernel)), by decide +kernel⟩
theorem k_199 : (Cond.selects RX3 yX3_costOfNode yX3_costOfNode) ∈ WALL := List.mem_filter.mpr ⟨List.mem_append_left _ (List.mem_of_getElem? (i := 8) (by decide +kernel)), by decide +kernel⟩
theorem k_200 : (Cond.methodLink RX3 106 yX3_costBelow) ∈ WALL := List.mem_filter.mpr ⟨List.mem_append_right _ (List.mem_of_getElem? (i := 397) (by decide +kernel)), by decide +kernel⟩
theorem k_201 : (Cond.code yX3_costBelow cX3_costBelow 11 (some .int)) ∈ WALL := List.mem_filter.mpr ⟨List.mem_append_right _ (List.mem_of_getElem? (i := 400) (by decide +kernel)), by decide +kernel⟩
theorem k_202 : (Cond.instanceMethod yX3_costBelow) ∈ WALL := List.mem_filter.mpr ⟨List.mem_append_right _ (List.mem_of_getElem? (i := 399) (by decide +kernel)), by decide +kernel⟩
theorem k_203 : (Cond.selects RX3 yX3_costBelow yX3_costBelow) ∈ WALL := List.mem_filter.mpr ⟨List.mem_append_left _ (List.mem_of_getElem? (i := 14) (by decide +kernel)), by decide +kernel⟩
theorem k_204 : (Cond.methodLink RX3 204 yX3_tellNode) ∈ WALL := List.mem_filter.mpr ⟨List.mem_append_right _ (List.mem_of_getElem? (i := 362) (by decide +kernel)), by decide +kernel⟩
theorem k_205 : (Cond.code yX3_tellNode cX3_tellNode 6 none) ∈ WALL := List.mem_filter.mpr ⟨List.mem_append_right _ (List.mem_of_getElem? (i := 365) (by decide +kernel)), by decide +kernel⟩
theorem k_206 : (Cond.instanceMethod yX3_tellNode) ∈ WALL := List.mem_filter.mpr ⟨List.mem_append_right _ (List.mem_of_getElem? (i := 364) (by decide +kernel)), by decide +kernel⟩
theorem k_207 : (Cond.selects RX3 yX3_tellNode yX3_tellNode) ∈ WALL := List.mem_filter.mpr ⟨List.mem_append_left _ (List.mem_of_getElem? (i := 12) (by decide +kernel)), by decide +kernel⟩
theorem k_208 : (Cond.methodLink RX3 210 yX3_takeBits) ∈ WALL := List.mem_filter.mpr ⟨List.mem_append_right _ (List.mem_of_getElem? (i := 448) (by decide +kernel)), by decide +kernel⟩
theorem k_209 : (Cond.code yX3_takeBits cX3_takeBits 10 (some .int)) ∈ WALL := List.mem_filter.mpr ⟨List.mem_append_right _ (List.mem_of_getElem? (i := 451) (by decide +kernel)), by decide +kernel⟩
theorem k_210 : (Cond.instanceMethod yX3_takeBits) ∈ WALL := List.mem_filter.mpr ⟨List.mem_append_right _ (List.mem_of_getElem? (i := 450) (by decide +kernel)), by decide +kernel⟩
theorem k_211 : (Cond.selects RX3 yX3_takeBits yX3_takeBits) ∈ WALL := List.mem_filter.mpr ⟨List.mem_append_left _ (List.mem_of_getElem? (i := 16) (by decide +kernel)), by decide +kernel⟩
theorem k_212 : (Cond.methodLink RX3 214 yX0_drop) ∈ WALL := List.mem_filter.mpr ⟨List.mem_append_right _ (List.mem_of_getElem? (i := 452) (by decide +kernel)), by decide +kernel⟩
theorem k_213 : (Cond.code yX0_drop cX0_drop 2 none) ∈ WALL := List.mem_filter.mpr ⟨List.mem_append_right _ (List.mem_of_getElem? (i := 455) (by decide +kernel)), by decide +kernel⟩
theorem k_214 : (Cond.instanceMethod yX0_drop) ∈ WALL := List.mem_filter.mpr ⟨List.mem_append_right _ (List.mem_of_getElem? (i := 453) (by decide +kernel)), by decide +kernel⟩
theorem k_215 : (Cond.selects RX0 yX0_drop yX0_drop) ∈ WALL := List.mem_filter.mpr ⟨List.mem_append_right _ (List.mem_of_getElem? (i := 454) (by decide +kernel)), by decide +kernel⟩
theorem k_216 : (Cond.methodLink RX4 122 yX4_take) ∈ WALL := List.mem_filter.mpr ⟨List.mem_append_right _ (List.mem_of_getElem? (i := 649) (by decide +kernel)), by decide +kernel⟩
theorem k_217 : (Cond.code yX4_take cX4_take 5 (some .boolean)) ∈ WALL := List.mem_filter.mpr ⟨List.mem_append_right _ (List.mem_of_getElem? (i := 652) (by decide +kernel)), by decide +kernel⟩
theorem k_218 : (Cond.instanceMethod yX4_take) ∈ WALL := List.mem_filter.mpr ⟨List.mem_append_right _ (List.mem_of_getElem? (i := 651) (by decide +kernel)), by decide +kernel⟩
theorem k_219 : (Cond.selects RX4 yX4_take yX4_take) ∈ WALL := List.mem_filter.mpr ⟨List.mem_append_left _ (List.mem_of_getElem? (i := 26) (by decide +kernel)), by decide +kernel⟩
theorem k_220 : (Cond.methodLink RX3 87 yX3_checkThreshold) ∈ WALL := List.mem_filter.mpr ⟨List.mem_append_right _ (List.mem_of_getElem? (i := 315) (by decide +kernel)), by decide +kernel⟩
theorem k_221 : (Cond.code yX3_checkThreshold cX3_checkThreshold 1 none) ∈ WALL := List.mem_filter.mpr ⟨List.mem_append_right _ (List.mem_of_getElem? (i := 317) (by decide +kernel)), by decide +kernel⟩
theorem k_222 : (Cond.static yX3_checkThreshold) ∈ WALL := List.mem_filter.mpr ⟨List.mem_append_right _ (List.mem_of_getElem? (i := 316) (by decide +kernel)), by decide +kernel⟩
theorem k_223 : (Cond.methodLink RX3 90 yX3_costOfLeaf) ∈ WALL := List.mem_filter.mpr ⟨List.mem_append_right _ (List.mem_of_getElem? (i := 319) (by decide +kernel)), by decide +kernel⟩
theorem k_224 : (Cond.code yX3_costOfLeaf cX3_costOfLeaf 9 (some .int)) ∈ WALL := List.mem_filter.mpr ⟨List.mem_append_right _ (List.mem_of_getElem? (i := 322) (by decide +kernel)), by decide +kernel⟩
theorem k_225 : (Cond.instanceMethod yX3_costOfLeaf) ∈ WALL := List.mem_filter.mpr ⟨List.mem_append_right _ (List.mem_of_getElem? (i := 321) (by decide +kernel)), by decide +kernel⟩
theorem k_226 : (Cond.selects RX3 yX3_costOfLeaf yX3_costOfLeaf) ∈ WALL := List.mem_filter.mpr ⟨List.mem_append_left _ (List.mem_of_getElem? (i := 7) (by decide +kernel)), by decide +kernel⟩
theorem k_227 : (Cond.methodLink RX3 97 yX3_tellLeaf) ∈ WALL := List.mem_filter.mpr ⟨List.mem_append_right _ (List.mem_of_getElem? (i := 358) (by decide +kernel)), by decide +kernel⟩
theorem k_228 : (Cond.code yX3_tellLeaf cX3_tellLeaf 7 none) ∈ WALL := List.mem_filter.mpr ⟨List.mem_append_right _ (List.mem_of_getElem? (i := 361) (by decide +kernel)), by decide +kernel⟩
theorem k_229 : (Cond.instanceMethod yX3_tellLeaf) ∈ WALL := List.mem_filter.mpr ⟨List.mem_append_right _ (List.mem_of_getElem? (i := 360) (by decide +kernel)), by decide +kernel⟩
theorem k_230 : (Cond.selects RX3 yX3_tellLeaf yX3_tellLeaf) ∈ WALL := List.mem_filter.mpr ⟨List.mem_append_left _ (List.mem_of_getElem? (i := 11) (by decide +kernel)), by decide +kernel⟩
theorem k_231 : (Cond.methodLink RX3 135 yX3_learnLeaf) ∈ WALL := List.mem_filter.mpr ⟨List.mem_append_right _ (List.mem_of_getElem? (i := 444) (by decide +kernel)), by decide +kernel⟩
theorem k_232 : (Cond.code yX3_learnLeaf cX3_learnLeaf 5 (some .boolean)) ∈ WALL := List.mem_filter.mpr ⟨List.mem_append_right _ (List.mem_of_getElem? (i := 447) (by decide +kernel)), by decide +kernel⟩
theorem k_233 : (Cond.instanceMethod yX3_learnLeaf) ∈ WALL := List.mem_filter.mpr ⟨List.mem_append_right _ (List.mem_of_getElem? (i := 446) (by decide +kernel)), by decide +kernel⟩
theorem k_234 : (Cond.selects RX3 yX3_learnLeaf yX3_learnLeaf) ∈ WALL := List.mem_filter.mpr ⟨List.mem_append_left _ (List.mem_of_getElem? (i := 15) (by decide +kernel)), by decide +kernel⟩
end
section
abbrev exNames : List String := ["java/lang/RuntimeException", "java/lang/Exception"]
def badW : List Cond := [.castable "java/lang/IndexOutOfBoundsException" "java/lang/IndexOutOfBoundsException", .castable "java/lang/IllegalArgumentException" "java/lang/IllegalArgumentException", .castable "java/lang/IllegalStateException" "java/lang/IllegalStateException", .castable "java/lang/UnsupportedOperationException" "java/lang/UnsupportedOperationException", .declares ⟨"java/lang/RuntimeException", "<init>", "(Ljava/lang/String;)V"⟩, .declares ⟨"java/lang/Exception", "<init>", "(Ljava/lang/String;)V"⟩, .declares ⟨"java/lang/Throwable", "<init>", "(Ljava/lang/String;)V"⟩]
def strW : List (Nat × String) := [(61, "a value is 0 .. 1000"), (76, "a number of leaves is 0 or more"), (121, "no such bit"), (128, "a bit is 0 or 1"), (133, "a number of bits is 0 or more"), (146, "no such leaf"), (166, "no such leaf, node or level"), (168, "a threshold is 0 .. 1001"), (170, "an order is 0 .. 2"), (174, "bits were told already"), (180, "more than 40000 bits")]
theorem atg_123 : ∀ w ∈ (vx_atS RX3 123 "java/lang/IndexOutOfBoundsException" exNames).filter goodWord, w ∈ lw_tbl := by decide +kernel
theorem atb_123 : ∀ w ∈ (vx_atS RX3 123 "java/lang/IndexOutOfBoundsException" exNames).filter (fun w => !goodWord w), w ∈ badW := by decide +kernel
theorem hgd_123 : ∀ w ∈ Cond.classLink RX3 119 "java/lang/IndexOutOfBoundsException" :: Cond.initialized "java/lang/IndexOutOfBoundsException" :: vx_atS RX3 123 "java/lang/IndexOutOfBoundsException" exNames, vx_ot w = true := by decide +kernel
theorem atg_63 : ∀ w ∈ (vx_atS RX3 63 "java/lang/IllegalArgumentException" exNames).filter goodWord, w ∈ lw_tbl := by decide +kernel
theorem atb_63 : ∀ w ∈ (vx_atS RX3 63 "java/lang/IllegalArgumentException" exNames).filter (fun w => !goodWord w), w ∈ badW := by decide +kernel
theorem hgd_63 : ∀ w ∈ Cond.classLink RX3 59 "java/lang/IllegalArgumentException" :: Cond.initialized "java/lang/IllegalArgumentException" :: vx_atS RX3 63 "java/lang/IllegalArgumentException" exNames, vx_ot w = true := by decide +kernel
theorem atg_176 : ∀ w ∈ (vx_atS RX3 176 "java/lang/IllegalStateException" exNames).filter goodWord, w ∈ lw_tbl := by decide +kernel
theorem atb_176 : ∀ w ∈ (vx_atS RX3 176 "java/lang/IllegalStateException" exNames).filter (fun w => !goodWord w), w ∈ badW := by decide +kernel
theorem hgd_176 : ∀ w ∈ Cond.classLink RX3 172 "java/lang/IllegalStateException" :: Cond.initialized "java/lang/IllegalStateException" :: vx_atS RX3 176 "java/lang/IllegalStateException" exNames, vx_ot w = true := by decide +kernel
theorem atg_182 : ∀ w ∈ (vx_atS RX3 182 "java/lang/UnsupportedOperationException" exNames).filter goodWord, w ∈ lw_tbl := by decide +kernel
theorem atb_182 : ∀ w ∈ (vx_atS RX3 182 "java/lang/UnsupportedOperationException" exNames).filter (fun w => !goodWord w), w ∈ badW := by decide +kernel
theorem hgd_182 : ∀ w ∈ Cond.classLink RX3 178 "java/lang/UnsupportedOperationException" :: Cond.initialized "java/lang/UnsupportedOperationException" :: vx_atS RX3 182 "java/lang/UnsupportedOperationException" exNames, vx_ot w = true := by decide +kernel
theorem badW_on : ∀ w ∈ badW, w.onTables = true := by decide +kernel
theorem badW_use {w : Cond} (h : w ∈ badW) {A : Array Value} {U : State} (hz : va_Nw w U) : w.before A U = true := va_Nw.use (badW_on w h) hz
theorem badW_warm {w : Cond} (h : w ∈ badW) {s U : State} (hW : s.WarmedH U.vm) (hz : va_Nw w s) : va_Nw w U := by
  simp only [badW, List.mem_cons, List.not_mem_nil, or_false] at h
  rcases h with rfl | rfl | rfl | rfl | rfl | rfl | rfl <;> first | exact va_Nw.warmC hW hz | exact va_Nw.warmD hW hz
def exZ (sa : Nat → Nat) (A : Nat → Prop) (U : State) (H : Heap) : Prop := vx_Zq Bundle.tN "UNASSIGNED_STACK" Bundle.steD A U H ∧ vx_Zq Bundle.tN "SUPPRESSED_SENTINEL" Bundle.listD A U H ∧ (∀ w ∈ badW, va_Nw w U) ∧ ∀ q ∈ strW, vk_R RX3 q.1 q.2 (sa q.1) U
theorem exZ.warm {sa : Nat → Nat} {A : Nat → Prop} {s U : State} {H : Heap} (hZ : exZ sa A s H) (hW : s.WarmedH U.vm) : exZ sa A U H := ⟨vx_Zq.moved hW.alike hZ.1, vx_Zq.moved hW.alike hZ.2.1, fun w h => badW_warm h hW (hZ.2.2.1 w h), fun q h => vk_R.warm hW (hZ.2.2.2 q h)⟩
theorem exZ.call {sa : Nat → Nat} {A B : Nat → Prop} {s U : State} {H : Heap} {locs : List Loc} (hZ : exZ sa A s s.heap) (hW : s.WarmedH U.vm) (hU : U.heap = H) (hS : va_S A s.heap H locs) (hF : ∀ q, B q → A q) : exZ sa B U U.heap := by
  have h := hZ.warm hW
  rw [hU]
  exact ⟨(h.1.kept hS.2.1).narrow hF, (h.2.1.kept hS.2.1).narrow hF, h.2.2⟩
abbrev pcX (D : va_G) (tys : List (ClassId × FieldType)) (sa : Nat → Nat) (ws : va_W) (sz : Nat) (av : List Value) : Array Value → State → Prop := va_Pc av (fun U => U.heap.size = sz ∧ va_P D vwCl ws U.heap ∧ va_K D vwCl tys U ∧ va_D (fun _ => True) ws ∧ exZ sa (va_A ws sz) U U.heap)
theorem bl_X {D : va_G} {tys : List (ClassId × FieldType)} {sa : Nat → Nat} {ws : va_W} {sz : Nat} {av : List Value} : FrameBlind (pcX D tys sa ws sz av) := fun a U g mk q => by
  obtain ⟨q0, q1, qP, qK, qD, qZ⟩ := q
  exact ⟨q0, q1, qP, va_K.moved (u := U) (U := U.calling g mk a) (Vm.Alike.refl U.vm) qK, qD, qZ.warm (U := U.calling g mk a) (State.WarmedH.refl U)⟩
theorem hat_123 {args : Array Value} {s : State} (hT : ∀ w ∈ WALL, w.before args s = true) (hB : ∀ w ∈ badW, va_Nw w s) : ∀ w ∈ vx_atS RX3 123 "java/lang/IndexOutOfBoundsException" exNames, w.before args s = true := vx_hat (B := badW) (fun w hw => hT w (List.mem_filter.mpr ⟨atg_123 w hw, (List.mem_filter.mp hw).2⟩)) atb_123 (fun w hw => badW_use hw (hB w hw))
theorem hat_63 {args : Array Value} {s : State} (hT : ∀ w ∈ WALL, w.before args s = true) (hB : ∀ w ∈ badW, va_Nw w s) : ∀ w ∈ vx_atS RX3 63 "java/lang/IllegalArgumentException" exNames, w.before args s = true := vx_hat (B := badW) (fun w hw => hT w (List.mem_filter.mpr ⟨atg_63 w hw, (List.mem_filter.mp hw).2⟩)) atb_63 (fun w hw => badW_use hw (hB w hw))
theorem hat_176 {args : Array Value} {s : State} (hT : ∀ w ∈ WALL, w.before args s = true) (hB : ∀ w ∈ badW, va_Nw w s) : ∀ w ∈ vx_atS RX3 176 "java/lang/IllegalStateException" exNames, w.before args s = true := vx_hat (B := badW) (fun w hw => hT w (List.mem_filter.mpr ⟨atg_176 w hw, (List.mem_filter.mp hw).2⟩)) atb_176 (fun w hw => badW_use hw (hB w hw))
theorem hat_182 {args : Array Value} {s : State} (hT : ∀ w ∈ WALL, w.before args s = true) (hB : ∀ w ∈ badW, va_Nw w s) : ∀ w ∈ vx_atS RX3 182 "java/lang/UnsupportedOperationException" exNames, w.before args s = true := vx_hat (B := badW) (fun w hw => hT w (List.mem_filter.mpr ⟨atg_182 w hw, (List.mem_filter.mp hw).2⟩)) atb_182 (fun w hw => badW_use hw (hB w hw))
end
section
theorem dX0_placeOf_0 : decode cX0_placeOf 0 = .ok (.aload_n 0, 1) := by decide +kernel
theorem dX0_placeOf_1 : decode cX0_placeOf 1 = .ok (.getfield 15, 3) := by decide +kernel
theorem dX0_placeOf_4 : decode cX0_placeOf 4 = .ok (.iload_n 1, 1) := by decide +kernel
theorem dX0_placeOf_5 : decode cX0_placeOf 5 = .ok (.iadd, 1) := by decide +kernel
theorem dX0_placeOf_6 : decode cX0_placeOf 6 = .ok (.istore_n 2, 1) := by decide +kernel
theorem dX0_placeOf_7 : decode cX0_placeOf 7 = .ok (.iload_n 2, 1) := by decide +kernel
theorem dX0_placeOf_8 : decode cX0_placeOf 8 = .ok (.ldc 22, 2) := by decide +kernel
theorem dX0_placeOf_10 : decode cX0_placeOf 10 = .ok (.if_icmp .lt 10, 3) := by decide +kernel
theorem dX0_placeOf_13 : decode cX0_placeOf 13 = .ok (.iload_n 2, 1) := by decide +kernel
theorem dX0_placeOf_14 : decode cX0_placeOf 14 = .ok (.ldc 22, 2) := by decide +kernel
theorem dX0_placeOf_16 : decode cX0_placeOf 16 = .ok (.isub, 1) := by decide +kernel
theorem dX0_placeOf_17 : decode cX0_placeOf 17 = .ok (.goto 4, 3) := by decide +kernel
theorem dX0_placeOf_20 : decode cX0_placeOf 20 = .ok (.iload_n 2, 1) := by decide +kernel
theorem dX0_placeOf_21 : decode cX0_placeOf 21 = .ok (.ireturn, 1) := by decide +kernel
theorem dX0_empty_0 : decode cX0_empty 0 = .ok (.aload_n 0, 1) := by decide +kernel
theorem dX0_empty_1 : decode cX0_empty 1 = .ok (.iconst 0, 1) := by decide +kernel
theorem dX0_empty_2 : decode cX0_empty 2 = .ok (.putfield 15, 3) := by decide +kernel
theorem dX0_empty_5 : decode cX0_empty 5 = .ok (.aload_n 0, 1) := by decide +kernel
theorem dX0_empty_6 : decode cX0_empty 6 = .ok (.iconst 0, 1) := by decide +kernel
theorem dX0_empty_7 : decode cX0_empty 7 = .ok (.putfield 19, 3) := by decide +kernel
theorem dX0_empty_10 : decode cX0_empty 10 = .ok (.return_, 1) := by decide +kernel
theorem dX0_look_0 : decode cX0_look 0 = .ok (.iload_n 1, 1) := by decide +kernel
theorem dX0_look_1 : decode cX0_look 1 = .ok (.ifCond .lt 11, 3) := by decide +kernel
theorem dX0_look_4 : decode cX0_look 4 = .ok (.iload_n 1, 1) := by decide +kernel
theorem dX0_look_5 : decode cX0_look 5 = .ok (.aload_n 0, 1) := by decide +kernel
theorem dX0_look_6 : decode cX0_look 6 = .ok (.getfield 19, 3) := by decide +kernel
theorem dX0_look_9 : decode cX0_look 9 = .ok (.if_icmp .lt 5, 3) := by decide +kernel
theorem dX0_look_12 : decode cX0_look 12 = .ok (.iconst 0, 1) := by decide +kernel
theorem dX0_look_13 : decode cX0_look 13 = .ok (.ireturn, 1) := by decide +kernel
theorem dX0_look_14 : decode cX0_look 14 = .ok (.aload_n 0, 1) := by decide +kernel
theorem dX0_look_15 : decode cX0_look 15 = .ok (.iload_n 1, 1) := by decide +kernel
theorem dX0_look_16 : decode cX0_look 16 = .ok (.invokevirtual 23, 3) := by decide +kernel
theorem dX0_look_19 : decode cX0_look 19 = .ok (.istore_n 2, 1) := by decide +kernel
theorem dX0_look_20 : decode cX0_look 20 = .ok (.aload_n 0, 1) := by decide +kernel
theorem dX0_look_21 : decode cX0_look 21 = .ok (.getfield 9, 3) := by decide +kernel
theorem dX0_look_24 : decode cX0_look 24 = .ok (.iload_n 2, 1) := by decide +kernel
theorem dX0_look_25 : decode cX0_look 25 = .ok (.iconst 5, 1) := by decide +kernel
theorem dX0_look_26 : decode cX0_look 26 = .ok (.ishr, 1) := by decide +kernel
theorem dX0_look_27 : decode cX0_look 27 = .ok (.iaload, 1) := by decide +kernel
theorem dX0_look_28 : decode cX0_look 28 = .ok (.iload_n 2, 1) := by decide +kernel
theorem dX0_look_29 : decode cX0_look 29 = .ok (.bipush 31, 2) := by decide +kernel
theorem dX0_look_31 : decode cX0_look 31 = .ok (.iand, 1) := by decide +kernel
theorem dX0_look_32 : decode cX0_look 32 = .ok (.iushr, 1) := by decide +kernel
theorem dX0_look_33 : decode cX0_look 33 = .ok (.iconst 1, 1) := by decide +kernel
theorem dX0_look_34 : decode cX0_look 34 = .ok (.iand, 1) := by decide +kernel
theorem dX0_look_35 : decode cX0_look 35 = .ok (.ireturn, 1) := by decide +kernel
theorem dX0_append_0 : decode cX0_append 0 = .ok (.aload_n 0, 1) := by decide +kernel
theorem dX0_append_1 : decode cX0_append 1 = .ok (.getfield 19, 3) := by decide +kernel
theorem dX0_append_4 : decode cX0_append 4 = .ok (.ldc 22, 2) := by decide +kernel
theorem dX0_append_6 : decode cX0_append 6 = .ok (.if_icmp .lt 4, 3) := by decide +kernel
theorem dX0_append_9 : decode cX0_append 9 = .ok (.return_, 1) := by decide +kernel
theorem dX0_append_10 : decode cX0_append 10 = .ok (.aload_n 0, 1) := by decide +kernel
theorem dX0_append_11 : decode cX0_append 11 = .ok (.aload_n 0, 1) := by decide +kernel
theorem dX0_append_12 : decode cX0_append 12 = .ok (.getfield 19, 3) := by decide +kernel
theorem dX0_append_15 : decode cX0_append 15 = .ok (.invokevirtual 23, 3) := by decide +kernel
theorem dX0_append_18 : decode cX0_append 18 = .ok (.istore_n 2, 1) := by decide +kernel
theorem dX0_append_19 : decode cX0_append 19 = .ok (.iconst 1, 1) := by decide +kernel
theorem dX0_append_20 : decode cX0_append 20 = .ok (.iload_n 2, 1) := by decide +kernel
theorem dX0_append_21 : decode cX0_append 21 = .ok (.bipush 31, 2) := by decide +kernel
theorem dX0_append_23 : decode cX0_append 23 = .ok (.iand, 1) := by decide +kernel
theorem dX0_append_24 : decode cX0_append 24 = .ok (.ishl, 1) := by decide +kernel
theorem dX0_append_25 : decode cX0_append 25 = .ok (.istore_n 3, 1) := by decide +kernel
theorem dX0_append_26 : decode cX0_append 26 = .ok (.aload_n 0, 1) := by decide +kernel
theorem dX0_append_27 : decode cX0_append 27 = .ok (.getfield 9, 3) := by decide +kernel
theorem dX0_append_30 : decode cX0_append 30 = .ok (.iload_n 2, 1) := by decide +kernel
theorem dX0_append_31 : decode cX0_append 31 = .ok (.iconst 5, 1) := by decide +kernel
theorem dX0_append_32 : decode cX0_append 32 = .ok (.ishr, 1) := by decide +kernel
theorem dX0_append_33 : decode cX0_append 33 = .ok (.iload_n 1, 1) := by decide +kernel
theorem dX0_append_34 : decode cX0_append 34 = .ok (.iconst 1, 1) := by decide +kernel
theorem dX0_append_35 : decode cX0_append 35 = .ok (.if_icmp .ne 16, 3) := by decide +kernel
theorem dX0_append_38 : decode cX0_append 38 = .ok (.aload_n 0, 1) := by decide +kernel
theorem dX0_append_39 : decode cX0_append 39 = .ok (.getfield 9, 3) := by decide +kernel
theorem dX0_append_42 : decode cX0_append 42 = .ok (.iload_n 2, 1) := by decide +kernel
theorem dX0_append_43 : decode cX0_append 43 = .ok (.iconst 5, 1) := by decide +kernel
theorem dX0_append_44 : decode cX0_append 44 = .ok (.ishr, 1) := by decide +kernel
theorem dX0_append_45 : decode cX0_append 45 = .ok (.iaload, 1) := by decide +kernel
theorem dX0_append_46 : decode cX0_append 46 = .ok (.iload_n 3, 1) := by decide +kernel
theorem dX0_append_47 : decode cX0_append 47 = .ok (.ior, 1) := by decide +kernel
theorem dX0_append_48 : decode cX0_append 48 = .ok (.goto 15, 3) := by decide +kernel
theorem dX0_append_51 : decode cX0_append 51 = .ok (.aload_n 0, 1) := by decide +kernel
theorem dX0_append_52 : decode cX0_append 52 = .ok (.getfield 9, 3) := by decide +kernel
theorem dX0_append_55 : decode cX0_append 55 = .ok (.iload_n 2, 1) := by decide +kernel
theorem dX0_append_56 : decode cX0_append 56 = .ok (.iconst 5, 1) := by decide +kernel
theorem dX0_append_57 : decode cX0_append 57 = .ok (.ishr, 1) := by decide +kernel
theorem dX0_append_58 : decode cX0_append 58 = .ok (.iaload, 1) := by decide +kernel
theorem dX0_append_59 : decode cX0_append 59 = .ok (.iload_n 3, 1) := by decide +kernel
theorem dX0_append_60 : decode cX0_append 60 = .ok (.iconst (-1), 1) := by decide +kernel
theorem dX0_append_61 : decode cX0_append 61 = .ok (.ixor, 1) := by decide +kernel
theorem dX0_append_62 : decode cX0_append 62 = .ok (.iand, 1) := by decide +kernel
theorem dX0_append_63 : decode cX0_append 63 = .ok (.iastore, 1) := by decide +kernel
theorem dX0_append_64 : decode cX0_append 64 = .ok (.aload_n 0, 1) := by decide +kernel
theorem dX0_append_65 : decode cX0_append 65 = .ok (.dup, 1) := by decide +kernel
theorem dX0_append_66 : decode cX0_append 66 = .ok (.getfield 19, 3) := by decide +kernel
theorem dX0_append_69 : decode cX0_append 69 = .ok (.iconst 1, 1) := by decide +kernel
theorem dX0_append_70 : decode cX0_append 70 = .ok (.iadd, 1) := by decide +kernel
theorem dX0_append_71 : decode cX0_append 71 = .ok (.putfield 19, 3) := by decide +kernel
theorem dX0_append_74 : decode cX0_append 74 = .ok (.return_, 1) := by decide +kernel
theorem dX0_drop_0 : decode cX0_drop 0 = .ok (.aload_n 0, 1) := by decide +kernel
theorem dX0_drop_1 : decode cX0_drop 1 = .ok (.aload_n 0, 1) := by decide +kernel
theorem dX0_drop_2 : decode cX0_drop 2 = .ok (.iload_n 1, 1) := by decide +kernel
theorem dX0_drop_3 : decode cX0_drop 3 = .ok (.invokevirtual 23, 3) := by decide +kernel
theorem dX0_drop_6 : decode cX0_drop 6 = .ok (.putfield 15, 3) := by decide +kernel
theorem dX0_drop_9 : decode cX0_drop 9 = .ok (.aload_n 0, 1) := by decide +kernel
theorem dX0_drop_10 : decode cX0_drop 10 = .ok (.dup, 1) := by decide +kernel
theorem dX0_drop_11 : decode cX0_drop 11 = .ok (.getfield 19, 3) := by decide +kernel
theorem dX0_drop_14 : decode cX0_drop 14 = .ok (.iload_n 1, 1) := by decide +kernel
theorem dX0_drop_15 : decode cX0_drop 15 = .ok (.isub, 1) := by decide +kernel
theorem dX0_drop_16 : decode cX0_drop 16 = .ok (.putfield 19, 3) := by decide +kernel
theorem dX0_drop_19 : decode cX0_drop 19 = .ok (.return_, 1) := by decide +kernel
def wp_X0_placeOf (post : Int32 → Prop)  (B : vBR) (x1 : Int32) : Prop := ∀ x2_1 : Int32, x2_1 = B.2.1 + x1 → (((x2_1 < 40000 → (post x2_1)) ∧ (¬ x2_1 < 40000 → (post (x2_1 - 40000)))))
abbrev rm_X0_placeOf : Room := { frames := 0, cells := 0, slots := 0, locals := 0 }
set_option maxHeartbeats 4000000 in
set_option maxRecDepth 100000 in
theorem met_X0_placeOf (l : Launch) (dC : Nat → ClassId) (dI : Nat → Nat → Nat) (cI cZ cJ cL : ClassId) (a0 a1 : Nat) (post : Int32 → Prop)  (B : vBR) (x1 : Int32) (hw : wp_X0_placeOf post  B x1) : Met l yX0_placeOf wsX0_placeOf rm_X0_placeOf (pcR (dC, dI) (tysA cI cZ cJ cL) (wBR cI a0 a1 B) [.ref a0, .int x1]) (vp_Si post) 0 0 (fun _ => False) := by
  refine Met.ofW (cc := cX0_placeOf) (maxL := 3) (ret := (some .int)) (by decide) rfl ?_
  intro p e s m args below meth c s₁ Bd hml hv
  obtain ⟨hargs, hP, hK⟩ := hv
  have hx := Bd.exec
  have hb := Bd.bytes
  have hr := Bd.returns
  have hts := atoms_spec (ws := wsX0_placeOf) Bd.pre
  have hT : ∀ w ∈ WALL, w.before args s = true := fun w h => hts w (List.mem_cons_of_mem _ h)
  have hown : s.vm.findClass RX0 = some m.cls := findClass_of_methodNamed Bd.named
  have hlocks := Bd.notSynchronized
  have hP : va_P (dC, dI) vwCl (wBR cI a0 a1 B) s.heap := hP
  have hl := lv_entry ([.ref a0, .int x1]) (n := 3) (Nat.le_of_ble_eq_true rfl)
  rw [show entryFrame m args 3 = F0 m 0 _ [] from by rw [hargs]; exact lg_entry_eq m ([.ref a0, .int x1]) 3]
  generalize (lg_sl ([.ref a0, .int x1]) ++ List.replicate (3 - (lg_sl ([.ref a0, .int x1])).length) Slot.unset).toArray = ls at hl ⊢
  have hl : lv_has ls 3 [(0, .ref a0), (1, .int x1)] := hl
  generalize hH : s.heap = H at hP ⊢
  unfold wp_X0_placeOf at hw
  refine lv_aload_n hx hb dX0_placeOf_0 rfl (lv_at hl 0 rfl) ?_
  refine va_get (D := (dC, dI)) (ci := 0) (v := .int B.2.1) (C := RX0) (T := TX0) (N := 3) hx hb hT inX0 hown hK hP 0 rfl rfl 1 (by decide) (hT _ k_37) (fun _ h9 => h9) rfl dX0_placeOf_1 ?_
  refine lv_iload_n hx hb dX0_placeOf_4 rfl (lv_at hl 1 rfl) ?_
  refine lv_iadd hx hb dX0_placeOf_5 ?_
  refine lv_topi (fun x2_1 ex2_1 => ?_)
  have hw := hw x2_1 ex2_1
  refine lv_istore_n (lv' := [(2, .int x2_1), (0, .ref a0), (1, .int x1)]) hx hb dX0_placeOf_6 rfl hl (by decide) rfl (fun ls hl => ?_)
  refine lv_iload_n hx hb dX0_placeOf_7 rfl (lv_at hl 0 rfl) ?_
  refine lv_ldc hx hb hown (hT _ k_38) dX0_placeOf_8 ?_
  refine lv_icmp_lt (tgt := 20) hx hb dX0_placeOf_10 (by decide) (fun c_2 => ?_) (fun c_2 => ?_)
  · have hw := hw.1 c_2
    refine lv_iload_n hx hb dX0_placeOf_20 rfl (lv_at hl 0 rfl) ?_
    exact W.iret (v := x2_1) hx hb hr (fun t ht hW => ⟨x2_1, rfl, hw, ht.trans hH.symm⟩) (fun q h => by cases h) dX0_placeOf_21
  · have hw := hw.2 c_2
    refine lv_iload_n hx hb dX0_placeOf_13 rfl (lv_at hl 0 rfl) ?_
    refine lv_ldc hx hb hown (hT _ k_38) dX0_placeOf_14 ?_
    refine lv_isub hx hb dX0_placeOf_16 ?_
    refine lv_goto (tgt := 21) hx hb dX0_placeOf_17 (by decide) ?_
    exact W.iret (v := (x2_1 - 40000)) hx hb hr (fun t ht hW => ⟨(x2_1 - 40000), rfl, hw, ht.trans hH.symm⟩) (fun q h => by cases h) dX0_placeOf_21
def wp_X0_empty (post : vBR → Prop)  (B : vBR)  : Prop := post (B.1, 0, 0)
abbrev rm_X0_empty : Room := { frames := 0, cells := 0, slots := 0, locals := 0 }
set_option maxHeartbeats 4000000 in
set_option maxRecDepth 100000 in
theorem met_X0_empty (l : Launch) (dC : Nat → ClassId) (dI : Nat → Nat → Nat) (cI cZ cJ cL : ClassId) (a0 a1 : Nat) (sz : Nat) (post : vBR → Prop)  (B : vBR)  (hw : wp_X0_empty post  B ) : Met l yX0_empty wsX0_empty rm_X0_empty (pcW (dC, dI) (tysA cI cZ cJ cL) (wBR cI a0 a1 B) sz [.ref a0]) (va_Qv post (fun u t => qB (dC, dI) (tysA cI cZ cJ cL) (va_A (wBR cI a0 a1 B) sz) (wBR cI a0 a1 u) t) (va_A (wBR cI a0 a1 B) sz)) 0 0 (va_A (wBR cI a0 a1 B) sz) := by
  refine Met.ofW (cc := cX0_empty) (maxL := 1) (ret := none) (by decide) rfl ?_
  intro p e s m args below meth c s₁ Bd hml hv
  obtain ⟨hargs, hsz, hP, hK, hD0⟩ := hv
  have hx := Bd.exec
  have hb := Bd.bytes
  have hr := Bd.returns
  have hts := atoms_spec (ws := wsX0_empty) Bd.pre
  have hT : ∀ w ∈ WALL, w.before args s = true := fun w h => hts w (List.mem_cons_of_mem _ h)
  have hown : s.vm.findClass RX0 = some m.cls := findClass_of_methodNamed Bd.named
  have hlocks := Bd.notSynchronized
  subst hsz
  have hD := hD0.self (sz := s.heap.size)
  generalize hAe : va_A (wBR cI a0 a1 B) s.heap.size = A at hD ⊢
  have hA : ∀ q : Nat, s.heap.size ≤ q → A q := fun q h => by rw [← hAe]; exact Or.inr h
  have hS : va_S A s.heap s.heap [] := va_S.rf
  have hP : va_P (dC, dI) vwCl (wBR cI a0 a1 B) s.heap := hP
  have hl := lv_entry ([.ref a0]) (n := 1) (Nat.le_of_ble_eq_true rfl)
  rw [show entryFrame m args 1 = F0 m 0 _ [] from by rw [hargs]; exact lg_entry_eq m ([.ref a0]) 1]
  generalize (lg_sl ([.ref a0]) ++ List.replicate (1 - (lg_sl ([.ref a0])).length) Slot.unset).toArray = ls at hl ⊢
  have hl : lv_has ls 1 [(0, .ref a0)] := hl
  obtain ⟨H, hH⟩ : ∃ z : Heap, z = s.heap := ⟨_, rfl⟩
  obtain ⟨locs, hlocs⟩ : ∃ z : List Loc, z = [] := ⟨_, rfl⟩
  rw [show W p l e (headSpec wsX0_empty rm_X0_empty).room s m args below meth c s.heap [] 0 0 = W p l e (headSpec wsX0_empty rm_X0_empty).room s m args below meth c H locs 0 0 from by rw [hH, hlocs]]
  have hP : va_P (dC, dI) vwCl (wBR cI a0 a1 B) H := by rw [hH]; exact hP
  have hS : va_S A s.heap H locs := by rw [hH, hlocs]; exact hS
  unfold wp_X0_empty at hw
  refine lv_aload_n hx hb dX0_empty_0 rfl (lv_at hl 0 rfl) ?_
  refine lv_iconst (v := 0) hx hb dX0_empty_1 (by decide) ?_
  refine va_put (D := (dC, dI)) (ci := 0) (v := .int 0) (ty := .int) (C := RX0) (T := TX0) (N := 3) hx hb hT inX0 tyX0 tyX0_ok nmX0 hown hK hP hD hS 0 rfl rfl 1 (by decide) (hT _ k_37) (fun _ h9 => h9) rfl (by decide +kernel) rfl rfl (Nat.le_of_ble_eq_true rfl) dX0_empty_2 (fun H locs hP hD hS => ?_)
  have hP : va_P (dC, dI) vwCl (wBR cI a0 a1 (B.1, 0, B.2.2)) H := hP
  have hD : va_D A (wBR cI a0 a1 (B.1, 0, B.2.2)) := hD
  refine lv_aload_n hx hb dX0_empty_5 rfl (lv_at hl 0 rfl) ?_
  refine lv_iconst (v := 0) hx hb dX0_empty_6 (by decide) ?_
  refine va_put (D := (dC, dI)) (ci := 0) (v := .int 0) (ty := .int) (C := RX0) (T := TX0) (N := 3) hx hb hT inX0 tyX0 tyX0_ok nmX0 hown hK hP hD hS 0 rfl rfl 2 (by decide) (hT _ k_39) (fun _ h9 => h9) rfl (by decide +kernel) rfl rfl (Nat.le_of_ble_eq_true rfl) dX0_empty_7 (fun H locs hP hD hS => ?_)
  have hP : va_P (dC, dI) vwCl (wBR cI a0 a1 (B.1, 0, 0)) H := hP
  have hD : va_D A (wBR cI a0 a1 (B.1, 0, 0)) := hD
  exact W.vret hx hb hr (fun t ht hW => ⟨⟨(B.1, 0, 0), rfl, hw, by rw [ht]; exact hP, va_K.moved hW.alike hK, hD⟩, hS.F ht⟩) hS.2.2 dX0_empty_10
def wp_X0_look (post : Int32 → Prop)  (B : vBR) (x1 : Int32) : Prop := ((x1 < 0 → (post 0)) ∧ (¬ x1 < 0 → (((x1 < B.2.2 → (wp_X0_placeOf (fun r_3 => vp_in (r_3 >>> ((5 : Int32) &&& 31)) 1250 ∧ (post ((((B.1 (r_3 >>> ((5 : Int32) &&& 31)).toNatClampNeg).toUInt32 >>> ((r_3 &&& 31).toUInt32 &&& Int32.toUInt32 31)).toInt32) &&& 1)))  B x1)) ∧ (¬ x1 < B.2.2 → (post 0))))))
abbrev rm_X0_look : Room := { frames := 1, cells := 0, slots := 0, locals := 22 }
set_option maxHeartbeats 4000000 in
set_option maxRecDepth 100000 in
theorem met_X0_look (l : Launch) (dC : Nat → ClassId) (dI : Nat → Nat → Nat) (cI cZ cJ cL : ClassId) (a0 a1 : Nat) (post : Int32 → Prop)  (B : vBR) (x1 : Int32) (hw : wp_X0_look post  B x1) : Met l yX0_look wsX0_look rm_X0_look (pcR (dC, dI) (tysA cI cZ cJ cL) (wBR cI a0 a1 B) [.ref a0, .int x1]) (vp_Si post) 0 0 (fun _ => False) := by
  refine Met.ofW (cc := cX0_look) (maxL := 3) (ret := (some .int)) (by decide) rfl ?_
  intro p e s m args below meth c s₁ Bd hml hv
  obtain ⟨hargs, hP, hK⟩ := hv
  have hx := Bd.exec
  have hb := Bd.bytes
  have hr := Bd.returns
  have hts := atoms_spec (ws := wsX0_look) Bd.pre
  have hT : ∀ w ∈ WALL, w.before args s = true := fun w h => hts w (List.mem_cons_of_mem _ h)
  have hown : s.vm.findClass RX0 = some m.cls := findClass_of_methodNamed Bd.named
  have hlocks := Bd.notSynchronized
  have hP : va_P (dC, dI) vwCl (wBR cI a0 a1 B) s.heap := hP
  have hl := lv_entry ([.ref a0, .int x1]) (n := 3) (Nat.le_of_ble_eq_true rfl)
  rw [show entryFrame m args 3 = F0 m 0 _ [] from by rw [hargs]; exact lg_entry_eq m ([.ref a0, .int x1]) 3]
  generalize (lg_sl ([.ref a0, .int x1]) ++ List.replicate (3 - (lg_sl ([.ref a0, .int x1])).length) Slot.unset).toArray = ls at hl ⊢
  have hl : lv_has ls 3 [(0, .ref a0), (1, .int x1)] := hl
  generalize hH : s.heap = H at hP ⊢
  unfold wp_X0_look at hw
  refine lv_iload_n hx hb dX0_look_0 rfl (lv_at hl 1 rfl) ?_
  refine lv_if_lt (tgt := 12) hx hb dX0_look_1 (by decide) (fun c_1 => ?_) (fun c_1 => ?_)
  · have hw := hw.1 c_1
    refine lv_iconst (v := 0) hx hb dX0_look_12 (by decide) ?_
    exact W.iret (v := 0) hx hb hr (fun t ht hW => ⟨0, rfl, hw, ht.trans hH.symm⟩) (fun q h => by cases h) dX0_look_13
  · have hw := hw.2 c_1
    refine lv_iload_n hx hb dX0_look_4 rfl (lv_at hl 1 rfl) ?_
    refine lv_aload_n hx hb dX0_look_5 rfl (lv_at hl 0 rfl) ?_
    refine va_get (D := (dC, dI)) (ci := 0) (v := .int B.2.2) (C := RX0) (T := TX0) (N := 3) hx hb hT inX0 hown hK hP 0 rfl rfl 2 (by decide) (hT _ k_39) (fun _ h9 => h9) rfl dX0_look_6 ?_
    refine lv_icmp_lt (tgt := 14) hx hb dX0_look_9 (by decide) (fun c_2 => ?_) (fun c_2 => ?_)
    · have hw := hw.1 c_2
      refine lv_aload_n hx hb dX0_look_14 rfl (lv_at hl 0 rfl) ?_
      refine lv_iload_n hx hb dX0_look_15 rfl (lv_at hl 1 rfl) ?_
      have hPc := hP
      refine vp_callSi (W.runV (As := [.int x1]) (rest := []) ⟨hx, hb, hml, hown, hT⟩ (met_X0_placeOf l dC dI cI cZ cJ cL a0 a1 _  B x1 hw) (cwV 1 hT (gV k_120 k_122 k_123 k_77 k_121) rfl rfl rfl (by decide +kernel) ⟨(Nat.le_of_ble_eq_true rfl), (Nat.le_of_ble_eq_true rfl)⟩) ⟨bl_R, va_recv hK hPc (ci := 0) (q0 := 0) rfl rfl, fun U hU hW => ⟨rfl, by rw [hU]; exact hPc, va_K.moved hW.alike hK⟩⟩ rfl rfl hl.1 rfl (lv_room (Nat.le_of_ble_eq_true rfl)) dX0_look_16 ⟨Nat.le_of_ble_eq_true rfl, Nat.le_of_ble_eq_true rfl⟩) (fun r_3 hw => ?_)
      try dsimp only at hw
      refine lv_istore_n (lv' := [(2, .int r_3), (0, .ref a0), (1, .int x1)]) hx hb dX0_look_19 rfl hl (by decide) rfl (fun ls hl => ?_)
      refine lv_aload_n hx hb dX0_look_20 rfl (lv_at hl 1 rfl) ?_
      refine va_get (D := (dC, dI)) (ci := 0) (v := .ref a1) (C := RX0) (T := TX0) (N := 3) hx hb hT inX0 hown hK hP 0 rfl rfl 0 (by decide) (hT _ k_124) (fun _ h9 => h9) rfl dX0_look_21 ?_
      refine lv_iload_n hx hb dX0_look_24 rfl (lv_at hl 0 rfl) ?_
      refine lv_iconst (v := 5) hx hb dX0_look_25 (by decide) ?_
      refine lv_ishr hx hb dX0_look_26 ?_
      obtain ⟨h_4, hw⟩ := hw
      refine va_iald hx hb hK hP 1 0 rfl rfl h_4 dX0_look_27 ?_
      refine lv_iload_n hx hb dX0_look_28 rfl (lv_at hl 0 rfl) ?_
      refine lv_bipush (v := 31) hx hb dX0_look_29 (by decide) ?_
      refine lv_iand hx hb dX0_look_31 ?_
      refine lv_iushr hx hb dX0_look_32 rfl ?_
      refine lv_iconst (v := 1) hx hb dX0_look_33 (by decide) ?_
      refine lv_iand hx hb dX0_look_34 ?_
      exact W.iret (v := ((((B.1 (r_3 >>> ((5 : Int32) &&& 31)).toNatClampNeg).toUInt32 >>> ((r_3 &&& 31).toUInt32 &&& Int32.toUInt32 31)).toInt32) &&& 1)) hx hb hr (fun t ht hW => ⟨((((B.1 (r_3 >>> ((5 : Int32) &&& 31)).toNatClampNeg).toUInt32 >>> ((r_3 &&& 31).toUInt32 &&& Int32.toUInt32 31)).toInt32) &&& 1), rfl, hw, ht.trans hH.symm⟩) (fun q h => by cases h) dX0_look_35
    · have hw := hw.2 c_2
      refine lv_iconst (v := 0) hx hb dX0_look_12 (by decide) ?_
      exact W.iret (v := 0) hx hb hr (fun t ht hW => ⟨0, rfl, hw, ht.trans hH.symm⟩) (fun q h => by cases h) dX0_look_13
def wp_X0_append (post : vBR → Prop)  (B : vBR) (x1 : Int32) : Prop := ((B.2.2 < 40000 → (wp_X0_placeOf (fun r_2 => ∀ x3_3 : Int32, x3_3 = (1 : Int32) <<< ((r_2 &&& 31) &&& 31) → (((x1 = 1 → (vp_in (r_2 >>> ((5 : Int32) &&& 31)) 1250 ∧ (vp_in (r_2 >>> ((5 : Int32) &&& 31)) 1250 ∧ (∀ f_10 : Int32, f_10 = B.2.2 + 1 → (post ((upd B.1 ((r_2 >>> ((5 : Int32) &&& 31)).toNatClampNeg) ((B.1 (r_2 >>> ((5 : Int32) &&& 31)).toNatClampNeg) ||| x3_3)), B.2.1, f_10)))))) ∧ (¬ x1 = 1 → (vp_in (r_2 >>> ((5 : Int32) &&& 31)) 1250 ∧ (vp_in (r_2 >>> ((5 : Int32) &&& 31)) 1250 ∧ (∀ f_7 : Int32, f_7 = B.2.2 + 1 → (post ((upd B.1 ((r_2 >>> ((5 : Int32) &&& 31)).toNatClampNeg) ((B.1 (r_2 >>> ((5 : Int32) &&& 31)).toNatClampNeg) &&& (x3_3 ^^^ (-1)))), B.2.1, f_7)))))))))  B B.2.2)) ∧ (¬ B.2.2 < 40000 → (post B)))
abbrev rm_X0_append : Room := { frames := 1, cells := 0, slots := 0, locals := 22 }
set_option maxHeartbeats 4000000 in
set_option maxRecDepth 100000 in
theorem met_X0_append (l : Launch) (dC : Nat → ClassId) (dI : Nat → Nat → Nat) (cI cZ cJ cL : ClassId) (a0 a1 : Nat) (sz : Nat) (post : vBR → Prop)  (B : vBR) (x1 : Int32) (hw : wp_X0_append post  B x1) : Met l yX0_append wsX0_append rm_X0_append (pcW (dC, dI) (tysA cI cZ cJ cL) (wBR cI a0 a1 B) sz [.ref a0, .int x1]) (va_Qv post (fun u t => qB (dC, dI) (tysA cI cZ cJ cL) (va_A (wBR cI a0 a1 B) sz) (wBR cI a0 a1 u) t) (va_A (wBR cI a0 a1 B) sz)) 0 0 (va_A (wBR cI a0 a1 B) sz) := by
  refine Met.ofW (cc := cX0_append) (maxL := 4) (ret := none) (by decide) rfl ?_
  intro p e s m args below meth c s₁ Bd hml hv
  obtain ⟨hargs, hsz, hP, hK, hD0⟩ := hv
  have hx := Bd.exec
  have hb := Bd.bytes
  have hr := Bd.returns
  have hts := atoms_spec (ws := wsX0_append) Bd.pre
  have hT : ∀ w ∈ WALL, w.before args s = true := fun w h => hts w (List.mem_cons_of_mem _ h)
  have hown : s.vm.findClass RX0 = some m.cls := findClass_of_methodNamed Bd.named
  have hlocks := Bd.notSynchronized
  subst hsz
  have hD := hD0.self (sz := s.heap.size)
  generalize hAe : va_A (wBR cI a0 a1 B) s.heap.size = A at hD ⊢
  have hA : ∀ q : Nat, s.heap.size ≤ q → A q := fun q h => by rw [← hAe]; exact Or.inr h
  have hS : va_S A s.heap s.heap [] := va_S.rf
  have hP : va_P (dC, dI) vwCl (wBR cI a0 a1 B) s.heap := hP
  have hl := lv_entry ([.ref a0, .int x1]) (n := 4) (Nat.le_of_ble_eq_true rfl)
  rw [show entryFrame m args 4 = F0 m 0 _ [] from by rw [hargs]; exact lg_entry_eq m ([.ref a0, .int x1]) 4]
  generalize (lg_sl ([.ref a0, .int x1]) ++ List.replicate (4 - (lg_sl ([.ref a0, .int x1])).length) Slot.unset).toArray = ls at hl ⊢
  have hl : lv_has ls 4 [(0, .ref a0), (1, .int x1)] := hl
  obtain ⟨H, hH⟩ : ∃ z : Heap, z = s.heap := ⟨_, rfl⟩
  obtain ⟨locs, hlocs⟩ : ∃ z : List Loc, z = [] := ⟨_, rfl⟩
  rw [show W p l e (headSpec wsX0_append rm_X0_append).room s m args below meth c s.heap [] 0 0 = W p l e (headSpec wsX0_append rm_X0_append).room s m args below meth c H locs 0 0 from by rw [hH, hlocs]]
  have hP : va_P (dC, dI) vwCl (wBR cI a0 a1 B) H := by rw [hH]; exact hP
  have hS : va_S A s.heap H locs := by rw [hH, hlocs]; exact hS
  unfold wp_X0_append at hw
  refine lv_aload_n hx hb dX0_append_0 rfl (lv_at hl 0 rfl) ?_
  refine va_get (D := (dC, dI)) (ci := 0) (v := .int B.2.2) (C := RX0) (T := TX0) (N := 3) hx hb hT inX0 hown hK hP 0 rfl rfl 2 (by decide) (hT _ k_39) (fun _ h9 => h9) rfl dX0_append_1 ?_
  refine lv_ldc hx hb hown (hT _ k_38) dX0_append_4 ?_
  refine lv_icmp_lt (tgt := 10) hx hb dX0_append_6 (by decide) (fun c_1 => ?_) (fun c_1 => ?_)
  · have hw := hw.1 c_1
    refine lv_aload_n hx hb dX0_append_10 rfl (lv_at hl 0 rfl) ?_
    refine lv_aload_n hx hb dX0_append_11 rfl (lv_at hl 0 rfl) ?_
    refine va_get (D := (dC, dI)) (ci := 0) (v := .int B.2.2) (C := RX0) (T := TX0) (N := 3) hx hb hT inX0 hown hK hP 0 rfl rfl 2 (by decide) (hT _ k_39) (fun _ h9 => h9) rfl dX0_append_12 ?_
    have hPc := hP
    refine vp_callSi (W.runV (As := [.int B.2.2]) (rest := []) ⟨hx, hb, hml, hown, hT⟩ (met_X0_placeOf l dC dI cI cZ cJ cL a0 a1 _  B B.2.2 hw) (cwV 1 hT (gV k_120 k_122 k_123 k_77 k_121) rfl rfl rfl (by decide +kernel) ⟨(Nat.le_of_ble_eq_true rfl), (Nat.le_of_ble_eq_true rfl)⟩) ⟨bl_R, va_recv hK hPc (ci := 0) (q0 := 0) rfl rfl, fun U hU hW => ⟨rfl, by rw [hU]; exact hPc, va_K.moved hW.alike hK⟩⟩ rfl rfl hl.1 rfl (lv_room (Nat.le_of_ble_eq_true rfl)) dX0_append_15 ⟨Nat.le_of_ble_eq_true rfl, Nat.le_of_ble_eq_true rfl⟩) (fun r_2 hw => ?_)
    try dsimp only at hw
    refine lv_istore_n (lv' := [(2, .int r_2), (0, .ref a0), (1, .int x1)]) hx hb dX0_append_18 rfl hl (by decide) rfl (fun ls hl => ?_)
    refine lv_iconst (v := 1) hx hb dX0_append_19 (by decide) ?_
    refine lv_iload_n hx hb dX0_append_20 rfl (lv_at hl 0 rfl) ?_
    refine lv_bipush (v := 31) hx hb dX0_append_21 (by decide) ?_
    refine lv_iand hx hb dX0_append_23 ?_
    refine lv_ishl hx hb dX0_append_24 ?_
    refine lv_topi (fun x3_3 ex3_3 => ?_)
    have hw := hw x3_3 ex3_3
    refine lv_istore_n (lv' := [(3, .int x3_3), (2, .int r_2), (0, .ref a0), (1, .int x1)]) hx hb dX0_append_25 rfl hl (by decide) rfl (fun ls hl => ?_)
    refine lv_aload_n hx hb dX0_append_26 rfl (lv_at hl 2 rfl) ?_
    refine va_get (D := (dC, dI)) (ci := 0) (v := .ref a1) (C := RX0) (T := TX0) (N := 3) hx hb hT inX0 hown hK hP 0 rfl rfl 0 (by decide) (hT _ k_124) (fun _ h9 => h9) rfl dX0_append_27 ?_
    refine lv_iload_n hx hb dX0_append_30 rfl (lv_at hl 1 rfl) ?_
    refine lv_iconst (v := 5) hx hb dX0_append_31 (by decide) ?_
    refine lv_ishr hx hb dX0_append_32 ?_
    refine lv_iload_n hx hb dX0_append_33 rfl (lv_at hl 3 rfl) ?_
    refine lv_iconst (v := 1) hx hb dX0_append_34 (by decide) ?_
    refine lv_icmp_ne (tgt := 51) hx hb dX0_append_35 (by decide) (fun c_4 => ?_) (fun c_4 => ?_)
    · have hw := hw.2 c_4
      refine lv_aload_n hx hb dX0_append_51 rfl (lv_at hl 2 rfl) ?_
      refine va_get (D := (dC, dI)) (ci := 0) (v := .ref a1) (C := RX0) (T := TX0) (N := 3) hx hb hT inX0 hown hK hP 0 rfl rfl 0 (by decide) (hT _ k_124) (fun _ h9 => h9) rfl dX0_append_52 ?_
      refine lv_iload_n hx hb dX0_append_55 rfl (lv_at hl 1 rfl) ?_
      refine lv_iconst (v := 5) hx hb dX0_append_56 (by decide) ?_
      refine lv_ishr hx hb dX0_append_57 ?_
      obtain ⟨h_5, hw⟩ := hw
      refine va_iald hx hb hK hP 1 0 rfl rfl h_5 dX0_append_58 ?_
      refine lv_iload_n hx hb dX0_append_59 rfl (lv_at hl 0 rfl) ?_
      refine lv_iconst (v := (-1)) hx hb dX0_append_60 (by decide) ?_
      refine lv_ixor hx hb dX0_append_61 ?_
      refine lv_iand hx hb dX0_append_62 ?_
      obtain ⟨h_6, hw⟩ := hw
      refine va_iast hx hb hK hP hD hS 1 0 rfl rfl h_6 dX0_append_63 (fun H locs hP hD hS => ?_)
      have hP : va_P (dC, dI) vwCl (wBR cI a0 a1 ((upd B.1 ((r_2 >>> ((5 : Int32) &&& 31)).toNatClampNeg) ((B.1 (r_2 >>> ((5 : Int32) &&& 31)).toNatClampNeg) &&& (x3_3 ^^^ (-1)))), B.2.1, B.2.2)) H := hP
      have hD : va_D A (wBR cI a0 a1 ((upd B.1 ((r_2 >>> ((5 : Int32) &&& 31)).toNatClampNeg) ((B.1 (r_2 >>> ((5 : Int32) &&& 31)).toNatClampNeg) &&& (x3_3 ^^^ (-1)))), B.2.1, B.2.2)) := hD
      refine lv_aload_n hx hb dX0_append_64 rfl (lv_at hl 2 rfl) ?_
      refine lv_dup hx hb dX0_append_65 rfl ?_
      refine va_get (D := (dC, dI)) (ci := 0) (v := .int B.2.2) (C := RX0) (T := TX0) (N := 3) hx hb hT inX0 hown hK hP 0 rfl rfl 2 (by decide) (hT _ k_39) (fun _ h9 => h9) rfl dX0_append_66 ?_
      refine lv_iconst (v := 1) hx hb dX0_append_69 (by decide) ?_
      refine lv_iadd hx hb dX0_append_70 ?_
      refine lv_topi (fun f_7 ef_7 => ?_)
      have hw := hw f_7 ef_7
      refine va_put (D := (dC, dI)) (ci := 0) (v := .int f_7) (ty := .int) (C := RX0) (T := TX0) (N := 3) hx hb hT inX0 tyX0 tyX0_ok nmX0 hown hK hP hD hS 0 rfl rfl 2 (by decide) (hT _ k_39) (fun _ h9 => h9) rfl (by decide +kernel) rfl rfl (Nat.le_of_ble_eq_true rfl) dX0_append_71 (fun H locs hP hD hS => ?_)
      have hP : va_P (dC, dI) vwCl (wBR cI a0 a1 ((upd B.1 ((r_2 >>> ((5 : Int32) &&& 31)).toNatClampNeg) ((B.1 (r_2 >>> ((5 : Int32) &&& 31)).toNatClampNeg) &&& (x3_3 ^^^ (-1)))), B.2.1, f_7)) H := hP
      have hD : va_D A (wBR cI a0 a1 ((upd B.1 ((r_2 >>> ((5 : Int32) &&& 31)).toNatClampNeg) ((B.1 (r_2 >>> ((5 : Int32) &&& 31)).toNatClampNeg) &&& (x3_3 ^^^ (-1)))), B.2.1, f_7)) := hD
      exact W.vret hx hb hr (fun t ht hW => ⟨⟨((upd B.1 ((r_2 >>> ((5 : Int32) &&& 31)).toNatClampNeg) ((B.1 (r_2 >>> ((5 : Int32) &&& 31)).toNatClampNeg) &&& (x3_3 ^^^ (-1)))), B.2.1, f_7), rfl, hw, by rw [ht]; exact hP, va_K.moved hW.alike hK, hD⟩, hS.F ht⟩) hS.2.2 dX0_append_74
    · have hw := hw.1 c_4
      refine lv_aload_n hx hb dX0_append_38 rfl (lv_at hl 2 rfl) ?_
      refine va_get (D := (dC, dI)) (ci := 0) (v := .ref a1) (C := RX0) (T := TX0) (N := 3) hx hb hT inX0 hown hK hP 0 rfl rfl 0 (by decide) (hT _ k_124) (fun _ h9 => h9) rfl dX0_append_39 ?_
      refine lv_iload_n hx hb dX0_append_42 rfl (lv_at hl 1 rfl) ?_
      refine lv_iconst (v := 5) hx hb dX0_append_43 (by decide) ?_
      refine lv_ishr hx hb dX0_append_44 ?_
      obtain ⟨h_8, hw⟩ := hw
      refine va_iald hx hb hK hP 1 0 rfl rfl h_8 dX0_append_45 ?_
      refine lv_iload_n hx hb dX0_append_46 rfl (lv_at hl 0 rfl) ?_
      refine lv_ior hx hb dX0_append_47 ?_
      refine lv_goto (tgt := 63) hx hb dX0_append_48 (by decide) ?_
      obtain ⟨h_9, hw⟩ := hw
      refine va_iast hx hb hK hP hD hS 1 0 rfl rfl h_9 dX0_append_63 (fun H locs hP hD hS => ?_)
      have hP : va_P (dC, dI) vwCl (wBR cI a0 a1 ((upd B.1 ((r_2 >>> ((5 : Int32) &&& 31)).toNatClampNeg) ((B.1 (r_2 >>> ((5 : Int32) &&& 31)).toNatClampNeg) ||| x3_3)), B.2.1, B.2.2)) H := hP
      have hD : va_D A (wBR cI a0 a1 ((upd B.1 ((r_2 >>> ((5 : Int32) &&& 31)).toNatClampNeg) ((B.1 (r_2 >>> ((5 : Int32) &&& 31)).toNatClampNeg) ||| x3_3)), B.2.1, B.2.2)) := hD
      refine lv_aload_n hx hb dX0_append_64 rfl (lv_at hl 2 rfl) ?_
      refine lv_dup hx hb dX0_append_65 rfl ?_
      refine va_get (D := (dC, dI)) (ci := 0) (v := .int B.2.2) (C := RX0) (T := TX0) (N := 3) hx hb hT inX0 hown hK hP 0 rfl rfl 2 (by decide) (hT _ k_39) (fun _ h9 => h9) rfl dX0_append_66 ?_
      refine lv_iconst (v := 1) hx hb dX0_append_69 (by decide) ?_
      refine lv_iadd hx hb dX0_append_70 ?_
      refine lv_topi (fun f_10 ef_10 => ?_)
      have hw := hw f_10 ef_10
      refine va_put (D := (dC, dI)) (ci := 0) (v := .int f_10) (ty := .int) (C := RX0) (T := TX0) (N := 3) hx hb hT inX0 tyX0 tyX0_ok nmX0 hown hK hP hD hS 0 rfl rfl 2 (by decide) (hT _ k_39) (fun _ h9 => h9) rfl (by decide +kernel) rfl rfl (Nat.le_of_ble_eq_true rfl) dX0_append_71 (fun H locs hP hD hS => ?_)
      have hP : va_P (dC, dI) vwCl (wBR cI a0 a1 ((upd B.1 ((r_2 >>> ((5 : Int32) &&& 31)).toNatClampNeg) ((B.1 (r_2 >>> ((5 : Int32) &&& 31)).toNatClampNeg) ||| x3_3)), B.2.1, f_10)) H := hP
      have hD : va_D A (wBR cI a0 a1 ((upd B.1 ((r_2 >>> ((5 : Int32) &&& 31)).toNatClampNeg) ((B.1 (r_2 >>> ((5 : Int32) &&& 31)).toNatClampNeg) ||| x3_3)), B.2.1, f_10)) := hD
      exact W.vret hx hb hr (fun t ht hW => ⟨⟨((upd B.1 ((r_2 >>> ((5 : Int32) &&& 31)).toNatClampNeg) ((B.1 (r_2 >>> ((5 : Int32) &&& 31)).toNatClampNeg) ||| x3_3)), B.2.1, f_10), rfl, hw, by rw [ht]; exact hP, va_K.moved hW.alike hK, hD⟩, hS.F ht⟩) hS.2.2 dX0_append_74
  · have hw := hw.2 c_1
    exact W.vret hx hb hr (fun t ht hW => ⟨⟨B, rfl, hw, by rw [ht]; exact hP, va_K.moved hW.alike hK, hD⟩, hS.F ht⟩) hS.2.2 dX0_append_9
def wp_X0_drop (post : vBR → Prop)  (B : vBR) (x1 : Int32) : Prop := wp_X0_placeOf (fun r_1 => ∀ f_2 : Int32, f_2 = B.2.2 - x1 → (post (B.1, r_1, f_2)))  B x1
abbrev rm_X0_drop : Room := { frames := 1, cells := 0, slots := 0, locals := 22 }
set_option maxHeartbeats 4000000 in
set_option maxRecDepth 100000 in
theorem met_X0_drop (l : Launch) (dC : Nat → ClassId) (dI : Nat → Nat → Nat) (cI cZ cJ cL : ClassId) (a0 a1 : Nat) (sz : Nat) (post : vBR → Prop)  (B : vBR) (x1 : Int32) (hw : wp_X0_drop post  B x1) : Met l yX0_drop wsX0_drop rm_X0_drop (pcW (dC, dI) (tysA cI cZ cJ cL) (wBR cI a0 a1 B) sz [.ref a0, .int x1]) (va_Qv post (fun u t => qB (dC, dI) (tysA cI cZ cJ cL) (va_A (wBR cI a0 a1 B) sz) (wBR cI a0 a1 u) t) (va_A (wBR cI a0 a1 B) sz)) 0 0 (va_A (wBR cI a0 a1 B) sz) := by
  refine Met.ofW (cc := cX0_drop) (maxL := 2) (ret := none) (by decide) rfl ?_
  intro p e s m args below meth c s₁ Bd hml hv
  obtain ⟨hargs, hsz, hP, hK, hD0⟩ := hv
  have hx := Bd.exec
  have hb := Bd.bytes
  have hr := Bd.returns
  have hts := atoms_spec (ws := wsX0_drop) Bd.pre
  have hT : ∀ w ∈ WALL, w.before args s = true := fun w h => hts w (List.mem_cons_of_mem _ h)
  have hown : s.vm.findClass RX0 = some m.cls := findClass_of_methodNamed Bd.named
  have hlocks := Bd.notSynchronized
  subst hsz
  have hD := hD0.self (sz := s.heap.size)
  generalize hAe : va_A (wBR cI a0 a1 B) s.heap.size = A at hD ⊢
  have hA : ∀ q : Nat, s.heap.size ≤ q → A q := fun q h => by rw [← hAe]; exact Or.inr h
  have hS : va_S A s.heap s.heap [] := va_S.rf
  have hP : va_P (dC, dI) vwCl (wBR cI a0 a1 B) s.heap := hP
  have hl := lv_entry ([.ref a0, .int x1]) (n := 2) (Nat.le_of_ble_eq_true rfl)
  rw [show entryFrame m args 2 = F0 m 0 _ [] from by rw [hargs]; exact lg_entry_eq m ([.ref a0, .int x1]) 2]
  generalize (lg_sl ([.ref a0, .int x1]) ++ List.replicate (2 - (lg_sl ([.ref a0, .int x1])).length) Slot.unset).toArray = ls at hl ⊢
  have hl : lv_has ls 2 [(0, .ref a0), (1, .int x1)] := hl
  obtain ⟨H, hH⟩ : ∃ z : Heap, z = s.heap := ⟨_, rfl⟩
  obtain ⟨locs, hlocs⟩ : ∃ z : List Loc, z = [] := ⟨_, rfl⟩
  rw [show W p l e (headSpec wsX0_drop rm_X0_drop).room s m args below meth c s.heap [] 0 0 = W p l e (headSpec wsX0_drop rm_X0_drop).room s m args below meth c H locs 0 0 from by rw [hH, hlocs]]
  have hP : va_P (dC, dI) vwCl (wBR cI a0 a1 B) H := by rw [hH]; exact hP
  have hS : va_S A s.heap H locs := by rw [hH, hlocs]; exact hS
  unfold wp_X0_drop at hw
  refine lv_aload_n hx hb dX0_drop_0 rfl (lv_at hl 0 rfl) ?_
  refine lv_aload_n hx hb dX0_drop_1 rfl (lv_at hl 0 rfl) ?_
  refine lv_iload_n hx hb dX0_drop_2 rfl (lv_at hl 1 rfl) ?_
  have hPc := hP
  refine vp_callSi (W.runV (As := [.int x1]) (rest := [.ref a0]) ⟨hx, hb, hml, hown, hT⟩ (met_X0_placeOf l dC dI cI cZ cJ cL a0 a1 _  B x1 hw) (cwV 1 hT (gV k_120 k_122 k_123 k_77 k_121) rfl rfl rfl (by decide +kernel) ⟨(Nat.le_of_ble_eq_true rfl), (Nat.le_of_ble_eq_true rfl)⟩) ⟨bl_R, va_recv hK hPc (ci := 0) (q0 := 0) rfl rfl, fun U hU hW => ⟨rfl, by rw [hU]; exact hPc, va_K.moved hW.alike hK⟩⟩ rfl rfl hl.1 rfl (lv_room (Nat.le_of_ble_eq_true rfl)) dX0_drop_3 ⟨Nat.le_of_ble_eq_true rfl, Nat.le_of_ble_eq_true rfl⟩) (fun r_1 hw => ?_)
  try dsimp only at hw
  refine va_put (D := (dC, dI)) (ci := 0) (v := .int r_1) (ty := .int) (C := RX0) (T := TX0) (N := 3) hx hb hT inX0 tyX0 tyX0_ok nmX0 hown hK hP hD hS 0 rfl rfl 1 (by decide) (hT _ k_37) (fun _ h9 => h9) rfl (by decide +kernel) rfl rfl (Nat.le_of_ble_eq_true rfl) dX0_drop_6 (fun H locs hP hD hS => ?_)
  have hP : va_P (dC, dI) vwCl (wBR cI a0 a1 (B.1, r_1, B.2.2)) H := hP
  have hD : va_D A (wBR cI a0 a1 (B.1, r_1, B.2.2)) := hD
  refine lv_aload_n hx hb dX0_drop_9 rfl (lv_at hl 0 rfl) ?_
  refine lv_dup hx hb dX0_drop_10 rfl ?_
  refine va_get (D := (dC, dI)) (ci := 0) (v := .int B.2.2) (C := RX0) (T := TX0) (N := 3) hx hb hT inX0 hown hK hP 0 rfl rfl 2 (by decide) (hT _ k_39) (fun _ h9 => h9) rfl dX0_drop_11 ?_
  refine lv_iload_n hx hb dX0_drop_14 rfl (lv_at hl 1 rfl) ?_
  refine lv_isub hx hb dX0_drop_15 ?_
  refine lv_topi (fun f_2 ef_2 => ?_)
  have hw := hw f_2 ef_2
  refine va_put (D := (dC, dI)) (ci := 0) (v := .int f_2) (ty := .int) (C := RX0) (T := TX0) (N := 3) hx hb hT inX0 tyX0 tyX0_ok nmX0 hown hK hP hD hS 0 rfl rfl 2 (by decide) (hT _ k_39) (fun _ h9 => h9) rfl (by decide +kernel) rfl rfl (Nat.le_of_ble_eq_true rfl) dX0_drop_16 (fun H locs hP hD hS => ?_)
  have hP : va_P (dC, dI) vwCl (wBR cI a0 a1 (B.1, r_1, f_2)) H := hP
  have hD : va_D A (wBR cI a0 a1 (B.1, r_1, f_2)) := hD
  exact W.vret hx hb hr (fun t ht hW => ⟨⟨(B.1, r_1, f_2), rfl, hw, by rw [ht]; exact hP, va_K.moved hW.alike hK, hD⟩, hS.F ht⟩) hS.2.2 dX0_drop_19
end
section
theorem dX2_find_0 : decode cX2_find 0 = .ok (.aload_n 0, 1) := by decide +kernel
theorem dX2_find_1 : decode cX2_find 1 = .ok (.getfield 13, 3) := by decide +kernel
theorem dX2_find_4 : decode cX2_find 4 = .ok (.iload_n 1, 1) := by decide +kernel
theorem dX2_find_5 : decode cX2_find 5 = .ok (.baload, 1) := by decide +kernel
theorem dX2_find_6 : decode cX2_find 6 = .ok (.ifCond .ne 20, 3) := by decide +kernel
theorem dX2_find_9 : decode cX2_find 9 = .ok (.aload_n 0, 1) := by decide +kernel
theorem dX2_find_10 : decode cX2_find 10 = .ok (.getfield 13, 3) := by decide +kernel
theorem dX2_find_13 : decode cX2_find 13 = .ok (.iload_n 1, 1) := by decide +kernel
theorem dX2_find_14 : decode cX2_find 14 = .ok (.iconst 1, 1) := by decide +kernel
theorem dX2_find_15 : decode cX2_find 15 = .ok (.bastore, 1) := by decide +kernel
theorem dX2_find_16 : decode cX2_find 16 = .ok (.aload_n 0, 1) := by decide +kernel
theorem dX2_find_17 : decode cX2_find 17 = .ok (.dup, 1) := by decide +kernel
theorem dX2_find_18 : decode cX2_find 18 = .ok (.getfield 17, 3) := by decide +kernel
theorem dX2_find_21 : decode cX2_find 21 = .ok (.iconst 1, 1) := by decide +kernel
theorem dX2_find_22 : decode cX2_find 22 = .ok (.iadd, 1) := by decide +kernel
theorem dX2_find_23 : decode cX2_find 23 = .ok (.putfield 17, 3) := by decide +kernel
theorem dX2_find_26 : decode cX2_find 26 = .ok (.return_, 1) := by decide +kernel
theorem dX2_forget_0 : decode cX2_forget 0 = .ok (.iconst 0, 1) := by decide +kernel
theorem dX2_forget_1 : decode cX2_forget 1 = .ok (.istore_n 1, 1) := by decide +kernel
theorem dX2_forget_2 : decode cX2_forget 2 = .ok (.iload_n 1, 1) := by decide +kernel
theorem dX2_forget_3 : decode cX2_forget 3 = .ok (.aload_n 0, 1) := by decide +kernel
theorem dX2_forget_4 : decode cX2_forget 4 = .ok (.getfield 7, 3) := by decide +kernel
theorem dX2_forget_7 : decode cX2_forget 7 = .ok (.arraylength, 1) := by decide +kernel
theorem dX2_forget_8 : decode cX2_forget 8 = .ok (.if_icmp .ge 32, 3) := by decide +kernel
theorem dX2_forget_11 : decode cX2_forget 11 = .ok (.iload_n 1, 1) := by decide +kernel
theorem dX2_forget_12 : decode cX2_forget 12 = .ok (.aload_n 0, 1) := by decide +kernel
theorem dX2_forget_13 : decode cX2_forget 13 = .ok (.getfield 13, 3) := by decide +kernel
theorem dX2_forget_16 : decode cX2_forget 16 = .ok (.arraylength, 1) := by decide +kernel
theorem dX2_forget_17 : decode cX2_forget 17 = .ok (.if_icmp .ge 23, 3) := by decide +kernel
theorem dX2_forget_20 : decode cX2_forget 20 = .ok (.aload_n 0, 1) := by decide +kernel
theorem dX2_forget_21 : decode cX2_forget 21 = .ok (.getfield 7, 3) := by decide +kernel
theorem dX2_forget_24 : decode cX2_forget 24 = .ok (.iload_n 1, 1) := by decide +kernel
theorem dX2_forget_25 : decode cX2_forget 25 = .ok (.iconst 0, 1) := by decide +kernel
theorem dX2_forget_26 : decode cX2_forget 26 = .ok (.iastore, 1) := by decide +kernel
theorem dX2_forget_27 : decode cX2_forget 27 = .ok (.aload_n 0, 1) := by decide +kernel
theorem dX2_forget_28 : decode cX2_forget 28 = .ok (.getfield 13, 3) := by decide +kernel
theorem dX2_forget_31 : decode cX2_forget 31 = .ok (.iload_n 1, 1) := by decide +kernel
theorem dX2_forget_32 : decode cX2_forget 32 = .ok (.iconst 0, 1) := by decide +kernel
theorem dX2_forget_33 : decode cX2_forget 33 = .ok (.bastore, 1) := by decide +kernel
theorem dX2_forget_34 : decode cX2_forget 34 = .ok (.iinc 1 1, 3) := by decide +kernel
theorem dX2_forget_37 : decode cX2_forget 37 = .ok (.goto (-35), 3) := by decide +kernel
theorem dX2_forget_40 : decode cX2_forget 40 = .ok (.aload_n 0, 1) := by decide +kernel
theorem dX2_forget_41 : decode cX2_forget 41 = .ok (.iconst 0, 1) := by decide +kernel
theorem dX2_forget_42 : decode cX2_forget 42 = .ok (.putfield 17, 3) := by decide +kernel
theorem dX2_forget_45 : decode cX2_forget 45 = .ok (.return_, 1) := by decide +kernel
def wp_X2_find (post : vSD → Prop) (nn : Nat) (D : vSD) (x1 : Int32) : Prop := vp_in x1 nn ∧ ((((D.2.1 x1.toNatClampNeg) = 0 → (vp_in x1 nn ∧ (∀ f_4 : Int32, f_4 = D.2.2 + 1 → (post (D.1, (upd D.2.1 x1.toNatClampNeg (vp_nar .boolean 1)), f_4))))) ∧ (¬ (D.2.1 x1.toNatClampNeg) = 0 → (post D))))
abbrev rm_X2_find : Room := { frames := 0, cells := 0, slots := 0, locals := 0 }
set_option maxHeartbeats 4000000 in
set_option maxRecDepth 100000 in
theorem met_X2_find (l : Launch) (dC : Nat → ClassId) (dI : Nat → Nat → Nat) (cI cZ cJ cL : ClassId) (a0 a1 a2 : Nat) (sz : Nat) (post : vSD → Prop) (nn : Nat) (D : vSD) (x1 : Int32) (hw : wp_X2_find post nn D x1) : Met l yX2_find wsX2_find rm_X2_find (pcW (dC, dI) (tysA cI cZ cJ cL) (wSD cI cZ nn a0 a1 a2 D) sz [.ref a0, .int x1]) (va_Qv post (fun u t => qB (dC, dI) (tysA cI cZ cJ cL) (va_A (wSD cI cZ nn a0 a1 a2 D) sz) (wSD cI cZ nn a0 a1 a2 u) t) (va_A (wSD cI cZ nn a0 a1 a2 D) sz)) 0 0 (va_A (wSD cI cZ nn a0 a1 a2 D) sz) := by
  refine Met.ofW (cc := cX2_find) (maxL := 2) (ret := none) (by decide) rfl ?_
  intro p e s m args below meth c s₁ Bd hml hv
  obtain ⟨hargs, hsz, hP, hK, hD0⟩ := hv
  have hx := Bd.exec
  have hb := Bd.bytes
  have hr := Bd.returns
  have hts := atoms_spec (ws := wsX2_find) Bd.pre
  have hT : ∀ w ∈ WALL, w.before args s = true := fun w h => hts w (List.mem_cons_of_mem _ h)
  have hown : s.vm.findClass RX2 = some m.cls := findClass_of_methodNamed Bd.named
  have hlocks := Bd.notSynchronized
  subst hsz
  have hD := hD0.self (sz := s.heap.size)
  generalize hAe : va_A (wSD cI cZ nn a0 a1 a2 D) s.heap.size = A at hD ⊢
  have hA : ∀ q : Nat, s.heap.size ≤ q → A q := fun q h => by rw [← hAe]; exact Or.inr h
  have hS : va_S A s.heap s.heap [] := va_S.rf
  have hP : va_P (dC, dI) vwCl (wSD cI cZ nn a0 a1 a2 D) s.heap := hP
  have hl := lv_entry ([.ref a0, .int x1]) (n := 2) (Nat.le_of_ble_eq_true rfl)
  rw [show entryFrame m args 2 = F0 m 0 _ [] from by rw [hargs]; exact lg_entry_eq m ([.ref a0, .int x1]) 2]
  generalize (lg_sl ([.ref a0, .int x1]) ++ List.replicate (2 - (lg_sl ([.ref a0, .int x1])).length) Slot.unset).toArray = ls at hl ⊢
  have hl : lv_has ls 2 [(0, .ref a0), (1, .int x1)] := hl
  obtain ⟨H, hH⟩ : ∃ z : Heap, z = s.heap := ⟨_, rfl⟩
  obtain ⟨locs, hlocs⟩ : ∃ z : List Loc, z = [] := ⟨_, rfl⟩
  rw [show W p l e (headSpec wsX2_find rm_X2_find).room s m args below meth c s.heap [] 0 0 = W p l e (headSpec wsX2_find rm_X2_find).room s m args below meth c H locs 0 0 from by rw [hH, hlocs]]
  have hP : va_P (dC, dI) vwCl (wSD cI cZ nn a0 a1 a2 D) H := by rw [hH]; exact hP
  have hS : va_S A s.heap H locs := by rw [hH, hlocs]; exact hS
  unfold wp_X2_find at hw
  refine lv_aload_n hx hb dX2_find_0 rfl (lv_at hl 0 rfl) ?_
  refine va_get (D := (dC, dI)) (ci := 2) (v := .ref a2) (C := RX2) (T := TX2) (N := 3) hx hb hT inX2 hown hK hP 0 rfl rfl 1 (by decide) (hT _ k_45) (fun _ h9 => h9) rfl dX2_find_1 ?_
  refine lv_iload_n hx hb dX2_find_4 rfl (lv_at hl 1 rfl) ?_
  obtain ⟨h_1, hw⟩ := hw
  refine va_zald hx hb hK hP 2 1 rfl rfl h_1 dX2_find_5 ?_
  refine lv_if_ne (tgt := 26) hx hb dX2_find_6 (by decide) (fun c_2 => ?_) (fun c_2 => ?_)
  · have hw := hw.2 c_2
    exact W.vret hx hb hr (fun t ht hW => ⟨⟨D, rfl, hw, by rw [ht]; exact hP, va_K.moved hW.alike hK, hD⟩, hS.F ht⟩) hS.2.2 dX2_find_26
  · have hw := hw.1 c_2
    refine lv_aload_n hx hb dX2_find_9 rfl (lv_at hl 0 rfl) ?_
    refine va_get (D := (dC, dI)) (ci := 2) (v := .ref a2) (C := RX2) (T := TX2) (N := 3) hx hb hT inX2 hown hK hP 0 rfl rfl 1 (by decide) (hT _ k_45) (fun _ h9 => h9) rfl dX2_find_10 ?_
    refine lv_iload_n hx hb dX2_find_13 rfl (lv_at hl 1 rfl) ?_
    refine lv_iconst (v := 1) hx hb dX2_find_14 (by decide) ?_
    obtain ⟨h_3, hw⟩ := hw
    refine va_zast hx hb hK hP hD hS 2 1 rfl rfl h_3 dX2_find_15 (fun H locs hP hD hS => ?_)
    have hP : va_P (dC, dI) vwCl (wSD cI cZ nn a0 a1 a2 (D.1, (upd D.2.1 x1.toNatClampNeg (vp_nar .boolean 1)), D.2.2)) H := hP
    have hD : va_D A (wSD cI cZ nn a0 a1 a2 (D.1, (upd D.2.1 x1.toNatClampNeg (vp_nar .boolean 1)), D.2.2)) := hD
    refine lv_aload_n hx hb dX2_find_16 rfl (lv_at hl 0 rfl) ?_
    refine lv_dup hx hb dX2_find_17 rfl ?_
    refine va_get (D := (dC, dI)) (ci := 2) (v := .int D.2.2) (C := RX2) (T := TX2) (N := 3) hx hb hT inX2 hown hK hP 0 rfl rfl 2 (by decide) (hT _ k_46) (fun _ h9 => h9) rfl dX2_find_18 ?_
    refine lv_iconst (v := 1) hx hb dX2_find_21 (by decide) ?_
    refine lv_iadd hx hb dX2_find_22 ?_
    refine lv_topi (fun f_4 ef_4 => ?_)
    have hw := hw f_4 ef_4
    refine va_put (D := (dC, dI)) (ci := 2) (v := .int f_4) (ty := .int) (C := RX2) (T := TX2) (N := 3) hx hb hT inX2 tyX2 tyX2_ok nmX2 hown hK hP hD hS 0 rfl rfl 2 (by decide) (hT _ k_46) (fun _ h9 => h9) rfl (by decide +kernel) rfl rfl (Nat.le_of_ble_eq_true rfl) dX2_find_23 (fun H locs hP hD hS => ?_)
    have hP : va_P (dC, dI) vwCl (wSD cI cZ nn a0 a1 a2 (D.1, (upd D.2.1 x1.toNatClampNeg (vp_nar .boolean 1)), f_4)) H := hP
    have hD : va_D A (wSD cI cZ nn a0 a1 a2 (D.1, (upd D.2.1 x1.toNatClampNeg (vp_nar .boolean 1)), f_4)) := hD
    exact W.vret hx hb hr (fun t ht hW => ⟨⟨(D.1, (upd D.2.1 x1.toNatClampNeg (vp_nar .boolean 1)), f_4), rfl, hw, by rw [ht]; exact hP, va_K.moved hW.alike hK, hD⟩, hS.F ht⟩) hS.2.2 dX2_find_26
def wp_X2_forget_L2 (post : vSD → Prop) (ex2 : vSD → Int32 → Prop) (nn : Nat) : Nat → vSD → Int32 → Prop
  | 0, _, _ => False
  | n_3 + 1, D_1, x1_2 => (((nI nn) ≤ x1_2 → (ex2 D_1 x1_2)) ∧ (¬ (nI nn) ≤ x1_2 → ((((nI nn) ≤ x1_2 → (ex2 D_1 x1_2)) ∧ (¬ (nI nn) ≤ x1_2 → (vp_in x1_2 nn ∧ (vp_in x1_2 nn ∧ (∀ x1_8 : Int32, x1_8 = x1_2 + 1 → (wp_X2_forget_L2 post ex2 nn n_3 ((upd D_1.1 x1_2.toNatClampNeg 0), (upd D_1.2.1 x1_2.toNatClampNeg (vp_nar .boolean 0)), D_1.2.2) x1_8)))))))))
def wp_X2_forget (post : vSD → Prop) (nn : Nat) (D : vSD)  : Prop := ∃ n_3 : Nat, wp_X2_forget_L2 post (fun (D_1 : vSD) (x1_2 : Int32) => post (D_1.1, D_1.2.1, 0)) nn n_3 D 0
abbrev rm_X2_forget : Room := { frames := 0, cells := 0, slots := 0, locals := 0 }
set_option maxHeartbeats 4000000 in
set_option maxRecDepth 100000 in
theorem met_X2_forget (l : Launch) (dC : Nat → ClassId) (dI : Nat → Nat → Nat) (cI cZ cJ cL : ClassId) (a0 a1 a2 : Nat) (sz : Nat) (post : vSD → Prop) (nn : Nat) (D : vSD)  (hw : wp_X2_forget post nn D ) : Met l yX2_forget wsX2_forget rm_X2_forget (pcW (dC, dI) (tysA cI cZ cJ cL) (wSD cI cZ nn a0 a1 a2 D) sz [.ref a0]) (va_Qv post (fun u t => qB (dC, dI) (tysA cI cZ cJ cL) (va_A (wSD cI cZ nn a0 a1 a2 D) sz) (wSD cI cZ nn a0 a1 a2 u) t) (va_A (wSD cI cZ nn a0 a1 a2 D) sz)) 0 0 (va_A (wSD cI cZ nn a0 a1 a2 D) sz) := by
  refine Met.ofW (cc := cX2_forget) (maxL := 2) (ret := none) (by decide) rfl ?_
  intro p e s m args below meth c s₁ Bd hml hv
  obtain ⟨hargs, hsz, hP, hK, hD0⟩ := hv
  have hx := Bd.exec
  have hb := Bd.bytes
  have hr := Bd.returns
  have hts := atoms_spec (ws := wsX2_forget) Bd.pre
  have hT : ∀ w ∈ WALL, w.before args s = true := fun w h => hts w (List.mem_cons_of_mem _ h)
  have hown : s.vm.findClass RX2 = some m.cls := findClass_of_methodNamed Bd.named
  have hlocks := Bd.notSynchronized
  subst hsz
  have hD := hD0.self (sz := s.heap.size)
  generalize hAe : va_A (wSD cI cZ nn a0 a1 a2 D) s.heap.size = A at hD ⊢
  have hA : ∀ q : Nat, s.heap.size ≤ q → A q := fun q h => by rw [← hAe]; exact Or.inr h
  have hS : va_S A s.heap s.heap [] := va_S.rf
  have hP : va_P (dC, dI) vwCl (wSD cI cZ nn a0 a1 a2 D) s.heap := hP
  have hl := lv_entry ([.ref a0]) (n := 2) (Nat.le_of_ble_eq_true rfl)
  rw [show entryFrame m args 2 = F0 m 0 _ [] from by rw [hargs]; exact lg_entry_eq m ([.ref a0]) 2]
  generalize (lg_sl ([.ref a0]) ++ List.replicate (2 - (lg_sl ([.ref a0])).length) Slot.unset).toArray = ls at hl ⊢
  have hl : lv_has ls 2 [(0, .ref a0)] := hl
  obtain ⟨H, hH⟩ : ∃ z : Heap, z = s.heap := ⟨_, rfl⟩
  obtain ⟨locs, hlocs⟩ : ∃ z : List Loc, z = [] := ⟨_, rfl⟩
  rw [show W p l e (headSpec wsX2_forget rm_X2_forget).room s m args below meth c s.heap [] 0 0 = W p l e (headSpec wsX2_forget rm_X2_forget).room s m args below meth c H locs 0 0 from by rw [hH, hlocs]]
  have hP : va_P (dC, dI) vwCl (wSD cI cZ nn a0 a1 a2 D) H := by rw [hH]; exact hP
  have hS : va_S A s.heap H locs := by rw [hH, hlocs]; exact hS
  unfold wp_X2_forget at hw
  refine lv_iconst (v := 0) hx hb dX2_forget_0 (by decide) ?_
  refine lv_istore_n (lv' := [(1, .int 0), (0, .ref a0)]) hx hb dX2_forget_1 rfl hl (by decide) rfl (fun ls hl => ?_)
  obtain ⟨n_3, hw⟩ := hw
  obtain ⟨ex2, eex2⟩ : ∃ z : vSD → Int32 → Prop, z = (fun (D_1 : vSD) (x1_2 : Int32) => post (D_1.1, D_1.2.1, 0)) := ⟨_, rfl⟩
  rw [← eex2] at hw
  have hx2 : ∀ (D_1 : vSD) (x1_2 : Int32), ex2 D_1 x1_2 → ∀ (H : Heap) (locs : List Loc) (ls : Array Slot), va_P (dC, dI) vwCl (wSD cI cZ nn a0 a1 a2 D_1) H → va_D A (wSD cI cZ nn a0 a1 a2 D_1) → va_S A s.heap H locs → lv_has ls 2 [(1, .int x1_2), (0, .ref a0)] → W p l e (headSpec wsX2_forget rm_X2_forget).room s m args below meth c H locs 0 0 (MQ below (va_Qv post (fun u t => qB (dC, dI) (tysA cI cZ cJ cL) A (wSD cI cZ nn a0 a1 a2 u) t) A) args s 0 0 A) (F0 m 40 ls []) := by
    intro D_1 x1_2 hw H locs ls hP hD hS hl
    rw [eex2] at hw
    try dsimp only at hw
    refine lv_aload_n hx hb dX2_forget_40 rfl (lv_at hl 1 rfl) ?_
    refine lv_iconst (v := 0) hx hb dX2_forget_41 (by decide) ?_
    refine va_put (D := (dC, dI)) (ci := 2) (v := .int 0) (ty := .int) (C := RX2) (T := TX2) (N := 3) hx hb hT inX2 tyX2 tyX2_ok nmX2 hown hK hP hD hS 0 rfl rfl 2 (by decide) (hT _ k_46) (fun _ h9 => h9) rfl (by decide +kernel) rfl rfl (Nat.le_of_ble_eq_true rfl) dX2_forget_42 (fun H locs hP hD hS => ?_)
    have hP : va_P (dC, dI) vwCl (wSD cI cZ nn a0 a1 a2 (D_1.1, D_1.2.1, 0)) H := hP
    have hD : va_D A (wSD cI cZ nn a0 a1 a2 (D_1.1, D_1.2.1, 0)) := hD
    exact W.vret hx hb hr (fun t ht hW => ⟨⟨(D_1.1, D_1.2.1, 0), rfl, hw, by rw [ht]; exact hP, va_K.moved hW.alike hK, hD⟩, hS.F ht⟩) hS.2.2 dX2_forget_45
  have hlp2 : ∀ (n_3 : Nat) (D_1 : vSD) (x1_2 : Int32), wp_X2_forget_L2 post ex2 nn n_3 D_1 x1_2 → ∀ (H : Heap) (locs : List Loc) (ls : Array Slot), va_P (dC, dI) vwCl (wSD cI cZ nn a0 a1 a2 D_1) H → va_D A (wSD cI cZ nn a0 a1 a2 D_1) → va_S A s.heap H locs → lv_has ls 2 [(1, .int x1_2), (0, .ref a0)] → W p l e (headSpec wsX2_forget rm_X2_forget).room s m args below meth c H locs 0 0 (MQ below (va_Qv post (fun u t => qB (dC, dI) (tysA cI cZ cJ cL) A (wSD cI cZ nn a0 a1 a2 u) t) A) args s 0 0 A) (F0 m 2 ls []) := by
    intro n_3
    induction n_3 with
    | zero => intro _ _ hw; exact hw.elim
    | succ n_3 ih2 =>
      intro D_1 x1_2 hw H locs ls hP hD hS hl
      unfold wp_X2_forget_L2 at hw
      refine lv_iload_n hx hb dX2_forget_2 rfl (lv_at hl 0 rfl) ?_
      refine lv_aload_n hx hb dX2_forget_3 rfl (lv_at hl 1 rfl) ?_
      refine va_get (D := (dC, dI)) (ci := 2) (v := .ref a1) (C := RX2) (T := TX2) (N := 3) hx hb hT inX2 hown hK hP 0 rfl rfl 0 (by decide) (hT _ k_47) (fun _ h9 => h9) rfl dX2_forget_4 ?_
      refine va_alen (v := nI nn) hx hb hK hP 1 0 rfl rfl rfl dX2_forget_7 ?_
      refine lv_icmp_ge (tgt := 40) hx hb dX2_forget_8 (by decide) (fun c_4 => ?_) (fun c_4 => ?_)
      · have hw := hw.1 c_4
        exact hx2 D_1 x1_2 hw _ _ _ hP hD hS (lv_sub hl [0, 1] rfl)
      · have hw := hw.2 c_4
        refine lv_iload_n hx hb dX2_forget_11 rfl (lv_at hl 0 rfl) ?_
        refine lv_aload_n hx hb dX2_forget_12 rfl (lv_at hl 1 rfl) ?_
        refine va_get (D := (dC, dI)) (ci := 2) (v := .ref a2) (C := RX2) (T := TX2) (N := 3) hx hb hT inX2 hown hK hP 0 rfl rfl 1 (by decide) (hT _ k_45) (fun _ h9 => h9) rfl dX2_forget_13 ?_
        refine va_alen (v := nI nn) hx hb hK hP 2 1 rfl rfl rfl dX2_forget_16 ?_
        refine lv_icmp_ge (tgt := 40) hx hb dX2_forget_17 (by decide) (fun c_5 => ?_) (fun c_5 => ?_)
        · have hw := hw.1 c_5
          exact hx2 D_1 x1_2 hw _ _ _ hP hD hS (lv_sub hl [0, 1] rfl)
        · have hw := hw.2 c_5
          refine lv_aload_n hx hb dX2_forget_20 rfl (lv_at hl 1 rfl) ?_
          refine va_get (D := (dC, dI)) (ci := 2) (v := .ref a1) (C := RX2) (T := TX2) (N := 3) hx hb hT inX2 hown hK hP 0 rfl rfl 0 (by decide) (hT _ k_47) (fun _ h9 => h9) rfl dX2_forget_21 ?_
          refine lv_iload_n hx hb dX2_forget_24 rfl (lv_at hl 0 rfl) ?_
          refine lv_iconst (v := 0) hx hb dX2_forget_25 (by decide) ?_
          obtain ⟨h_6, hw⟩ := hw
          refine va_iast hx hb hK hP hD hS 1 0 rfl rfl h_6 dX2_forget_26 (fun H locs hP hD hS => ?_)
          have hP : va_P (dC, dI) vwCl (wSD cI cZ nn a0 a1 a2 ((upd D_1.1 x1_2.toNatClampNeg 0), D_1.2.1, D_1.2.2)) H := hP
          have hD : va_D A (wSD cI cZ nn a0 a1 a2 ((upd D_1.1 x1_2.toNatClampNeg 0), D_1.2.1, D_1.2.2)) := hD
          refine lv_aload_n hx hb dX2_forget_27 rfl (lv_at hl 1 rfl) ?_
          refine va_get (D := (dC, dI)) (ci := 2) (v := .ref a2) (C := RX2) (T := TX2) (N := 3) hx hb hT inX2 hown hK hP 0 rfl rfl 1 (by decide) (hT _ k_45) (fun _ h9 => h9) rfl dX2_forget_28 ?_
          refine lv_iload_n hx hb dX2_forget_31 rfl (lv_at hl 0 rfl) ?_
          refine lv_iconst (v := 0) hx hb dX2_forget_32 (by decide) ?_
          obtain ⟨h_7, hw⟩ := hw
          refine va_zast hx hb hK hP hD hS 2 1 rfl rfl h_7 dX2_forget_33 (fun H locs hP hD hS => ?_)
          have hP : va_P (dC, dI) vwCl (wSD cI cZ nn a0 a1 a2 ((upd D_1.1 x1_2.toNatClampNeg 0), (upd D_1.2.1 x1_2.toNatClampNeg (vp_nar .boolean 0)), D_1.2.2)) H := hP
          have hD : va_D A (wSD cI cZ nn a0 a1 a2 ((upd D_1.1 x1_2.toNatClampNeg 0), (upd D_1.2.1 x1_2.toNatClampNeg (vp_nar .boolean 0)), D_1.2.2)) := hD
          obtain ⟨x1_8, ex1_8⟩ : ∃ y : Int32, y = x1_2 + 1 := ⟨_, rfl⟩
          have hw := hw x1_8 ex1_8
          refine lv_iinc (v := x1_8) (lv' := [(1, .int x1_8), (0, .ref a0)]) hx hb dX2_forget_34 hl (k := 0) rfl (by rw [ex1_8]; rfl) (by decide) rfl (fun ls hl => ?_)
          refine lv_goto (tgt := 2) hx hb dX2_forget_37 (by decide) ?_
          exact ih2 ((upd D_1.1 x1_2.toNatClampNeg 0), (upd D_1.2.1 x1_2.toNatClampNeg (vp_nar .boolean 0)), D_1.2.2) x1_8 hw _ _ _ hP hD hS (lv_sub hl [0, 1] rfl)
  exact hlp2 n_3 D 0 hw _ _ _ hP hD hS (lv_sub hl [0, 1] rfl)
end
section
theorem dX1_halved_0 : decode cX1_halved 0 = .ok (.iload_n 0, 1) := by decide +kernel
theorem dX1_halved_1 : decode cX1_halved 1 = .ok (.iconst 1, 1) := by decide +kernel
theorem dX1_halved_2 : decode cX1_halved 2 = .ok (.iload_n 1, 1) := by decide +kernel
theorem dX1_halved_3 : decode cX1_halved 3 = .ok (.ishl, 1) := by decide +kernel
theorem dX1_halved_4 : decode cX1_halved 4 = .ok (.iadd, 1) := by decide +kernel
theorem dX1_halved_5 : decode cX1_halved 5 = .ok (.iconst 1, 1) := by decide +kernel
theorem dX1_halved_6 : decode cX1_halved 6 = .ok (.isub, 1) := by decide +kernel
theorem dX1_halved_7 : decode cX1_halved 7 = .ok (.iload_n 1, 1) := by decide +kernel
theorem dX1_halved_8 : decode cX1_halved 8 = .ok (.ishr, 1) := by decide +kernel
theorem dX1_halved_9 : decode cX1_halved 9 = .ok (.ireturn, 1) := by decide +kernel
theorem dX1_everySecondBit_0 : decode cX1_everySecondBit 0 = .ok (.iconst 0, 1) := by decide +kernel
theorem dX1_everySecondBit_1 : decode cX1_everySecondBit 1 = .ok (.istore_n 1, 1) := by decide +kernel
theorem dX1_everySecondBit_2 : decode cX1_everySecondBit 2 = .ok (.iconst 0, 1) := by decide +kernel
theorem dX1_everySecondBit_3 : decode cX1_everySecondBit 3 = .ok (.istore_n 2, 1) := by decide +kernel
theorem dX1_everySecondBit_4 : decode cX1_everySecondBit 4 = .ok (.iload_n 2, 1) := by decide +kernel
theorem dX1_everySecondBit_5 : decode cX1_everySecondBit 5 = .ok (.bipush 6, 2) := by decide +kernel
theorem dX1_everySecondBit_7 : decode cX1_everySecondBit 7 = .ok (.if_icmp .ge 21, 3) := by decide +kernel
theorem dX1_everySecondBit_10 : decode cX1_everySecondBit 10 = .ok (.iload_n 1, 1) := by decide +kernel
theorem dX1_everySecondBit_11 : decode cX1_everySecondBit 11 = .ok (.iload_n 0, 1) := by decide +kernel
theorem dX1_everySecondBit_12 : decode cX1_everySecondBit 12 = .ok (.iconst 2, 1) := by decide +kernel
theorem dX1_everySecondBit_13 : decode cX1_everySecondBit 13 = .ok (.iload_n 2, 1) := by decide +kernel
theorem dX1_everySecondBit_14 : decode cX1_everySecondBit 14 = .ok (.imul, 1) := by decide +kernel
theorem dX1_everySecondBit_15 : decode cX1_everySecondBit 15 = .ok (.ishr, 1) := by decide +kernel
theorem dX1_everySecondBit_16 : decode cX1_everySecondBit 16 = .ok (.iconst 1, 1) := by decide +kernel
theorem dX1_everySecondBit_17 : decode cX1_everySecondBit 17 = .ok (.iand, 1) := by decide +kernel
theorem dX1_everySecondBit_18 : decode cX1_everySecondBit 18 = .ok (.iload_n 2, 1) := by decide +kernel
theorem dX1_everySecondBit_19 : decode cX1_everySecondBit 19 = .ok (.ishl, 1) := by decide +kernel
theorem dX1_everySecondBit_20 : decode cX1_everySecondBit 20 = .ok (.ior, 1) := by decide +kernel
theorem dX1_everySecondBit_21 : decode cX1_everySecondBit 21 = .ok (.istore_n 1, 1) := by decide +kernel
theorem dX1_everySecondBit_22 : decode cX1_everySecondBit 22 = .ok (.iinc 2 1, 3) := by decide +kernel
theorem dX1_everySecondBit_25 : decode cX1_everySecondBit 25 = .ok (.goto (-21), 3) := by decide +kernel
theorem dX1_everySecondBit_28 : decode cX1_everySecondBit 28 = .ok (.iload_n 1, 1) := by decide +kernel
theorem dX1_everySecondBit_29 : decode cX1_everySecondBit 29 = .ok (.ireturn, 1) := by decide +kernel
theorem dX1_hasNode_0 : decode cX1_hasNode 0 = .ok (.iload_n 1, 1) := by decide +kernel
theorem dX1_hasNode_1 : decode cX1_hasNode 1 = .ok (.ifCond .lt 43, 3) := by decide +kernel
theorem dX1_hasNode_4 : decode cX1_hasNode 4 = .ok (.iload_n 1, 1) := by decide +kernel
theorem dX1_hasNode_5 : decode cX1_hasNode 5 = .ok (.aload_n 0, 1) := by decide +kernel
theorem dX1_hasNode_6 : decode cX1_hasNode 6 = .ok (.getfield 35, 3) := by decide +kernel
theorem dX1_hasNode_9 : decode cX1_hasNode 9 = .ok (.if_icmp .ge 35, 3) := by decide +kernel
theorem dX1_hasNode_12 : decode cX1_hasNode 12 = .ok (.iload_n 2, 1) := by decide +kernel
theorem dX1_hasNode_13 : decode cX1_hasNode 13 = .ok (.ifCond .lt 31, 3) := by decide +kernel
theorem dX1_hasNode_16 : decode cX1_hasNode 16 = .ok (.iload_n 2, 1) := by decide +kernel
theorem dX1_hasNode_17 : decode cX1_hasNode 17 = .ok (.aload_n 0, 1) := by decide +kernel
theorem dX1_hasNode_18 : decode cX1_hasNode 18 = .ok (.getfield 9, 3) := by decide +kernel
theorem dX1_hasNode_21 : decode cX1_hasNode 21 = .ok (.iload_n 1, 1) := by decide +kernel
theorem dX1_hasNode_22 : decode cX1_hasNode 22 = .ok (.iaload, 1) := by decide +kernel
theorem dX1_hasNode_23 : decode cX1_hasNode 23 = .ok (.if_icmp .ge 21, 3) := by decide +kernel
theorem dX1_hasNode_26 : decode cX1_hasNode 26 = .ok (.iload_n 3, 1) := by decide +kernel
theorem dX1_hasNode_27 : decode cX1_hasNode 27 = .ok (.ifCond .lt 17, 3) := by decide +kernel
theorem dX1_hasNode_30 : decode cX1_hasNode 30 = .ok (.iload_n 3, 1) := by decide +kernel
theorem dX1_hasNode_31 : decode cX1_hasNode 31 = .ok (.aload_n 0, 1) := by decide +kernel
theorem dX1_hasNode_32 : decode cX1_hasNode 32 = .ok (.getfield 15, 3) := by decide +kernel
theorem dX1_hasNode_35 : decode cX1_hasNode 35 = .ok (.iload_n 1, 1) := by decide +kernel
theorem dX1_hasNode_36 : decode cX1_hasNode 36 = .ok (.iaload, 1) := by decide +kernel
theorem dX1_hasNode_37 : decode cX1_hasNode 37 = .ok (.if_icmp .ge 7, 3) := by decide +kernel
theorem dX1_hasNode_40 : decode cX1_hasNode 40 = .ok (.iconst 1, 1) := by decide +kernel
theorem dX1_hasNode_41 : decode cX1_hasNode 41 = .ok (.goto 4, 3) := by decide +kernel
theorem dX1_hasNode_44 : decode cX1_hasNode 44 = .ok (.iconst 0, 1) := by decide +kernel
theorem dX1_hasNode_45 : decode cX1_hasNode 45 = .ok (.ireturn, 1) := by decide +kernel
theorem dX1_nodeAt_0 : decode cX1_nodeAt 0 = .ok (.aload_n 0, 1) := by decide +kernel
theorem dX1_nodeAt_1 : decode cX1_nodeAt 1 = .ok (.getfield 18, 3) := by decide +kernel
theorem dX1_nodeAt_4 : decode cX1_nodeAt 4 = .ok (.iload_n 1, 1) := by decide +kernel
theorem dX1_nodeAt_5 : decode cX1_nodeAt 5 = .ok (.iaload, 1) := by decide +kernel
theorem dX1_nodeAt_6 : decode cX1_nodeAt 6 = .ok (.iload_n 3, 1) := by decide +kernel
theorem dX1_nodeAt_7 : decode cX1_nodeAt 7 = .ok (.aload_n 0, 1) := by decide +kernel
theorem dX1_nodeAt_8 : decode cX1_nodeAt 8 = .ok (.getfield 9, 3) := by decide +kernel
theorem dX1_nodeAt_11 : decode cX1_nodeAt 11 = .ok (.iload_n 1, 1) := by decide +kernel
theorem dX1_nodeAt_12 : decode cX1_nodeAt 12 = .ok (.iaload, 1) := by decide +kernel
theorem dX1_nodeAt_13 : decode cX1_nodeAt 13 = .ok (.imul, 1) := by decide +kernel
theorem dX1_nodeAt_14 : decode cX1_nodeAt 14 = .ok (.iadd, 1) := by decide +kernel
theorem dX1_nodeAt_15 : decode cX1_nodeAt 15 = .ok (.iload_n 2, 1) := by decide +kernel
theorem dX1_nodeAt_16 : decode cX1_nodeAt 16 = .ok (.iadd, 1) := by decide +kernel
theorem dX1_nodeAt_17 : decode cX1_nodeAt 17 = .ok (.ireturn, 1) := by decide +kernel
theorem dX1_leafX_0 : decode cX1_leafX 0 = .ok (.aload_n 0, 1) := by decide +kernel
theorem dX1_leafX_1 : decode cX1_leafX 1 = .ok (.getfield 43, 3) := by decide +kernel
theorem dX1_leafX_4 : decode cX1_leafX 4 = .ok (.iload_n 1, 1) := by decide +kernel
theorem dX1_leafX_5 : decode cX1_leafX 5 = .ok (.aaload, 1) := by decide +kernel
theorem dX1_leafX_6 : decode cX1_leafX 6 = .ok (.iload_n 2, 1) := by decide +kernel
theorem dX1_leafX_7 : decode cX1_leafX 7 = .ok (.iaload, 1) := by decide +kernel
theorem dX1_leafX_8 : decode cX1_leafX 8 = .ok (.bipush 31, 2) := by decide +kernel
theorem dX1_leafX_10 : decode cX1_leafX 10 = .ok (.iand, 1) := by decide +kernel
theorem dX1_leafX_11 : decode cX1_leafX 11 = .ok (.ireturn, 1) := by decide +kernel
theorem dX1_leafY_0 : decode cX1_leafY 0 = .ok (.aload_n 0, 1) := by decide +kernel
theorem dX1_leafY_1 : decode cX1_leafY 1 = .ok (.getfield 43, 3) := by decide +kernel
theorem dX1_leafY_4 : decode cX1_leafY 4 = .ok (.iload_n 1, 1) := by decide +kernel
theorem dX1_leafY_5 : decode cX1_leafY 5 = .ok (.aaload, 1) := by decide +kernel
theorem dX1_leafY_6 : decode cX1_leafY 6 = .ok (.iload_n 2, 1) := by decide +kernel
theorem dX1_leafY_7 : decode cX1_leafY 7 = .ok (.iaload, 1) := by decide +kernel
theorem dX1_leafY_8 : decode cX1_leafY 8 = .ok (.bipush 32, 2) := by decide +kernel
theorem dX1_leafY_10 : decode cX1_leafY 10 = .ok (.idiv, 1) := by decide +kernel
theorem dX1_leafY_11 : decode cX1_leafY 11 = .ok (.ireturn, 1) := by decide +kernel
def wp_X1_halved (post : Int32 → Prop)   (x0 : Int32) (x1 : Int32) : Prop := post (((x0 + ((1 : Int32) <<< (x1 &&& 31))) - 1) >>> (x1 &&& 31))
abbrev rm_X1_halved : Room := { frames := 0, cells := 0, slots := 0, locals := 0 }
set_option maxHeartbeats 4000000 in
set_option maxRecDepth 100000 in
theorem met_X1_halved (l : Launch) (dC : Nat → ClassId) (dI : Nat → Nat → Nat) (cI cZ cJ cL : ClassId)  (post : Int32 → Prop)   (x0 : Int32) (x1 : Int32) (hw : wp_X1_halved post   x0 x1) : Met l yX1_halved wsX1_halved rm_X1_halved (pcR (dC, dI) (tysA cI cZ cJ cL) [] [.int x0, .int x1]) (vp_Si post) 0 0 (fun _ => False) := by
  refine Met.ofW (cc := cX1_halved) (maxL := 2) (ret := (some .int)) (by decide) rfl ?_
  intro p e s m args below meth c s₁ Bd hml hv
  obtain ⟨hargs, hP, hK⟩ := hv
  have hx := Bd.exec
  have hb := Bd.bytes
  have hr := Bd.returns
  have hts := atoms_spec (ws := wsX1_halved) Bd.pre
  have hT : ∀ w ∈ WALL, w.before args s = true := fun w h => hts w (List.mem_cons_of_mem _ h)
  have hown : s.vm.findClass RX1 = some m.cls := findClass_of_methodNamed Bd.named
  have hlocks := Bd.notSynchronized
  have hP : va_P (dC, dI) vwCl [] s.heap := hP
  have hl := lv_entry ([.int x0, .int x1]) (n := 2) (Nat.le_of_ble_eq_true rfl)
  rw [show entryFrame m args 2 = F0 m 0 _ [] from by rw [hargs]; exact lg_entry_eq m ([.int x0, .int x1]) 2]
  generalize (lg_sl ([.int x0, .int x1]) ++ List.replicate (2 - (lg_sl ([.int x0, .int x1])).length) Slot.unset).toArray = ls at hl ⊢
  have hl : lv_has ls 2 [(0, .int x0), (1, .int x1)] := hl
  generalize hH : s.heap = H at hP ⊢
  unfold wp_X1_halved at hw
  refine lv_iload_n hx hb dX1_halved_0 rfl (lv_at hl 0 rfl) ?_
  refine lv_iconst (v := 1) hx hb dX1_halved_1 (by decide) ?_
  refine lv_iload_n hx hb dX1_halved_2 rfl (lv_at hl 1 rfl) ?_
  refine lv_ishl hx hb dX1_halved_3 ?_
  refine lv_iadd hx hb dX1_halved_4 ?_
  refine lv_iconst (v := 1) hx hb dX1_halved_5 (by decide) ?_
  refine lv_isub hx hb dX1_halved_6 ?_
  refine lv_iload_n hx hb dX1_halved_7 rfl (lv_at hl 1 rfl) ?_
  refine lv_ishr hx hb dX1_halved_8 ?_
  exact W.iret (v := (((x0 + ((1 : Int32) <<< (x1 &&& 31))) - 1) >>> (x1 &&& 31))) hx hb hr (fun t ht hW => ⟨(((x0 + ((1 : Int32) <<< (x1 &&& 31))) - 1) >>> (x1 &&& 31)), rfl, hw, ht.trans hH.symm⟩) (fun q h => by cases h) dX1_halved_9
def wp_X1_everySecondBit_L4 (post : Int32 → Prop) (ex4 : Int32 → Int32 → Prop) (x0 : Int32) : Nat → Int32 → Int32 → Prop
  | 0, _, _ => False
  | n_3 + 1, x2_1, x1_2 => ((6 ≤ x2_1 → (ex4 x2_1 x1_2)) ∧ (¬ 6 ≤ x2_1 → (∀ x1_5 : Int32, x1_5 = x1_2 ||| (((x0 >>> ((2 * x2_1) &&& 31)) &&& 1) <<< (x2_1 &&& 31)) → (∀ x2_6 : Int32, x2_6 = x2_1 + 1 → (wp_X1_everySecondBit_L4 post ex4 x0 n_3 x2_6 x1_5)))))
def wp_X1_everySecondBit (post : Int32 → Prop)   (x0 : Int32) : Prop := ∃ n_3 : Nat, wp_X1_everySecondBit_L4 post (fun (x2_1 : Int32) (x1_2 : Int32) => post x1_2) x0 n_3 0 0
abbrev rm_X1_everySecondBit : Room := { frames := 0, cells := 0, slots := 0, locals := 0 }
set_option maxHeartbeats 4000000 in
set_option maxRecDepth 100000 in
theorem met_X1_everySecondBit (l : Launch) (dC : Nat → ClassId) (dI : Nat → Nat → Nat) (cI cZ cJ cL : ClassId)  (post : Int32 → Prop)   (x0 : Int32) (hw : wp_X1_everySecondBit post   x0) : Met l yX1_everySecondBit wsX1_everySecondBit rm_X1_everySecondBit (pcR (dC, dI) (tysA cI cZ cJ cL) [] [.int x0]) (vp_Si post) 0 0 (fun _ => False) := by
  refine Met.ofW (cc := cX1_everySecondBit) (maxL := 3) (ret := (some .int)) (by decide) rfl ?_
  intro p e s m args below meth c s₁ Bd hml hv
  obtain ⟨hargs, hP, hK⟩ := hv
  have hx := Bd.exec
  have hb := Bd.bytes
  have hr := Bd.returns
  have hts := atoms_spec (ws := wsX1_everySecondBit) Bd.pre
  have hT : ∀ w ∈ WALL, w.before args s = true := fun w h => hts w (List.mem_cons_of_mem _ h)
  have hown : s.vm.findClass RX1 = some m.cls := findClass_of_methodNamed Bd.named
  have hlocks := Bd.notSynchronized
  have hP : va_P (dC, dI) vwCl [] s.heap := hP
  have hl := lv_entry ([.int x0]) (n := 3) (Nat.le_of_ble_eq_true rfl)
  rw [show entryFrame m args 3 = F0 m 0 _ [] from by rw [hargs]; exact lg_entry_eq m ([.int x0]) 3]
  generalize (lg_sl ([.int x0]) ++ List.replicate (3 - (lg_sl ([.int x0])).length) Slot.unset).toArray = ls at hl ⊢
  have hl : lv_has ls 3 [(0, .int x0)] := hl
  generalize hH : s.heap = H at hP ⊢
  unfold wp_X1_everySecondBit at hw
  refine lv_iconst (v := 0) hx hb dX1_everySecondBit_0 (by decide) ?_
  refine lv_istore_n (lv' := [(1, .int 0), (0, .int x0)]) hx hb dX1_everySecondBit_1 rfl hl (by decide) rfl (fun ls hl => ?_)
  refine lv_iconst (v := 0) hx hb dX1_everySecondBit_2 (by decide) ?_
  refine lv_istore_n (lv' := [(2, .int 0), (1, .int 0), (0, .int x0)]) hx hb dX1_everySecondBit_3 rfl hl (by decide) rfl (fun ls hl => ?_)
  obtain ⟨n_3, hw⟩ := hw
  obtain ⟨ex4, eex4⟩ : ∃ z : Int32 → Int32 → Prop, z = (fun (x2_1 : Int32) (x1_2 : Int32) => post x1_2) := ⟨_, rfl⟩
  rw [← eex4] at hw
  have hx4 : ∀ (x2_1 : Int32) (x1_2 : Int32), ex4 x2_1 x1_2 → ∀ (ls : Array Slot), lv_has ls 3 [(2, .int x2_1), (1, .int x1_2), (0, .int x0)] → W p l e (headSpec wsX1_everySecondBit rm_X1_everySecondBit).room s m args below meth c H [] 0 0 (MQ below (vp_Si post) args s 0 0 (fun _ => False)) (F0 m 28 ls []) := by
    intro x2_1 x1_2 hw ls hl
    rw [eex4] at hw
    try dsimp only at hw
    refine lv_iload_n hx hb dX1_everySecondBit_28 rfl (lv_at hl 1 rfl) ?_
    exact W.iret (v := x1_2) hx hb hr (fun t ht hW => ⟨x1_2, rfl, hw, ht.trans hH.symm⟩) (fun q h => by cases h) dX1_everySecondBit_29
  have hlp4 : ∀ (n_3 : Nat) (x2_1 : Int32) (x1_2 : Int32), wp_X1_everySecondBit_L4 post ex4 x0 n_3 x2_1 x1_2 → ∀ (ls : Array Slot), lv_has ls 3 [(2, .int x2_1), (1, .int x1_2), (0, .int x0)] → W p l e (headSpec wsX1_everySecondBit rm_X1_everySecondBit).room s m args below meth c H [] 0 0 (MQ below (vp_Si post) args s 0 0 (fun _ => False)) (F0 m 4 ls []) := by
    intro n_3
    induction n_3 with
    | zero => intro _ _ hw; exact hw.elim
    | succ n_3 ih4 =>
      intro x2_1 x1_2 hw ls hl
      unfold wp_X1_everySecondBit_L4 at hw
      refine lv_iload_n hx hb dX1_everySecondBit_4 rfl (lv_at hl 0 rfl) ?_
      refine lv_bipush (v := 6) hx hb dX1_everySecondBit_5 (by decide) ?_
      refine lv_icmp_ge (tgt := 28) hx hb dX1_everySecondBit_7 (by decide) (fun c_4 => ?_) (fun c_4 => ?_)
      · have hw := hw.1 c_4
        exact hx4 x2_1 x1_2 hw _ (lv_sub hl [0, 1, 2] rfl)
      · have hw := hw.2 c_4
        refine lv_iload_n hx hb dX1_everySecondBit_10 rfl (lv_at hl 1 rfl) ?_
        refine lv_iload_n hx hb dX1_everySecondBit_11 rfl (lv_at hl 2 rfl) ?_
        refine lv_iconst (v := 2) hx hb dX1_everySecondBit_12 (by decide) ?_
        refine lv_iload_n hx hb dX1_everySecondBit_13 rfl (lv_at hl 0 rfl) ?_
        refine lv_imul hx hb dX1_everySecondBit_14 ?_
        refine lv_ishr hx hb dX1_everySecondBit_15 ?_
        refine lv_iconst (v := 1) hx hb dX1_everySecondBit_16 (by decide) ?_
        refine lv_iand hx hb dX1_everySecondBit_17 ?_
        refine lv_iload_n hx hb dX1_everySecondBit_18 rfl (lv_at hl 0 rfl) ?_
        refine lv_ishl hx hb dX1_everySecondBit_19 ?_
        refine lv_ior hx hb dX1_everySecondBit_20 ?_
        refine lv_topi (fun x1_5 ex1_5 => ?_)
        have hw := hw x1_5 ex1_5
        refine lv_istore_n (lv' := [(1, .int x1_5), (2, .int x2_1), (0, .int x0)]) hx hb dX1_everySecondBit_21 rfl hl (by decide) rfl (fun ls hl => ?_)
        obtain ⟨x2_6, ex2_6⟩ : ∃ y : Int32, y = x2_1 + 1 := ⟨_, rfl⟩
        have hw := hw x2_6 ex2_6
        refine lv_iinc (v := x2_6) (lv' := [(2, .int x2_6), (1, .int x1_5), (0, .int x0)]) hx hb dX1_everySecondBit_22 hl (k := 1) rfl (by rw [ex2_6]; rfl) (by decide) rfl (fun ls hl => ?_)
        refine lv_goto (tgt := 4) hx hb dX1_everySecondBit_25 (by decide) ?_
        exact ih4 x2_6 x1_5 hw _ (lv_sub hl [0, 1, 2] rfl)
  exact hlp4 n_3 0 0 hw _ (lv_sub hl [0, 1, 2] rfl)
def wp_X1_hasNode (post : Int32 → Prop) (nl : Nat) (S : vSH)  (x1 : Int32) (x2 : Int32) (x3 : Int32) : Prop := ((x1 < 0 → (post 0)) ∧ (¬ x1 < 0 → (((S.1.2.2.2.1 ≤ x1 → (post 0)) ∧ (¬ S.1.2.2.2.1 ≤ x1 → (((x2 < 0 → (post 0)) ∧ (¬ x2 < 0 → (vp_in x1 6 ∧ ((((S.2.1.1 x1.toNatClampNeg) ≤ x2 → (post 0)) ∧ (¬ (S.2.1.1 x1.toNatClampNeg) ≤ x2 → (((x3 < 0 → (post 0)) ∧ (¬ x3 < 0 → (vp_in x1 6 ∧ ((((S.2.1.2.1 x1.toNatClampNeg) ≤ x3 → (post 0)) ∧ (¬ (S.2.1.2.1 x1.toNatClampNeg) ≤ x3 → (post 1))))))))))))))))))))
abbrev rm_X1_hasNode : Room := { frames := 0, cells := 0, slots := 0, locals := 0 }
set_option maxHeartbeats 4000000 in
set_option maxRecDepth 100000 in
theorem met_X1_hasNode (l : Launch) (dC : Nat → ClassId) (dI : Nat → Nat → Nat) (cI cZ cJ cL : ClassId) (a0 a1 a2 a3 a4 : Nat) (ra : Nat → Nat) (post : Int32 → Prop) (nl : Nat) (S : vSH)  (x1 : Int32) (x2 : Int32) (x3 : Int32) (hw : wp_X1_hasNode post nl S  x1 x2 x3) : Met l yX1_hasNode wsX1_hasNode rm_X1_hasNode (pcR (dC, dI) (tysA cI cZ cJ cL) (wSH cI cJ nl a0 a1 a2 a3 a4 ra S) [.ref a0, .int x1, .int x2, .int x3]) (vp_Si post) 0 0 (fun _ => False) := by
  refine Met.ofW (cc := cX1_hasNode) (maxL := 4) (ret := (some .boolean)) (by decide) rfl ?_
  intro p e s m args below meth c s₁ Bd hml hv
  obtain ⟨hargs, hP, hK⟩ := hv
  have hx := Bd.exec
  have hb := Bd.bytes
  have hr := Bd.returns
  have hts := atoms_spec (ws := wsX1_hasNode) Bd.pre
  have hT : ∀ w ∈ WALL, w.before args s = true := fun w h => hts w (List.mem_cons_of_mem _ h)
  have hown : s.vm.findClass RX1 = some m.cls := findClass_of_methodNamed Bd.named
  have hlocks := Bd.notSynchronized
  have hP : va_P (dC, dI) vwCl (wSH cI cJ nl a0 a1 a2 a3 a4 ra S) s.heap := hP
  have hl := lv_entry ([.ref a0, .int x1, .int x2, .int x3]) (n := 4) (Nat.le_of_ble_eq_true rfl)
  rw [show entryFrame m args 4 = F0 m 0 _ [] from by rw [hargs]; exact lg_entry_eq m ([.ref a0, .int x1, .int x2, .int x3]) 4]
  generalize (lg_sl ([.ref a0, .int x1, .int x2, .int x3]) ++ List.replicate (4 - (lg_sl ([.ref a0, .int x1, .int x2, .int x3])).length) Slot.unset).toArray = ls at hl ⊢
  have hl : lv_has ls 4 [(0, .ref a0), (1, .int x1), (2, .int x2), (3, .int x3)] := hl
  generalize hH : s.heap = H at hP ⊢
  unfold wp_X1_hasNode at hw
  refine lv_iload_n hx hb dX1_hasNode_0 rfl (lv_at hl 1 rfl) ?_
  refine lv_if_lt (tgt := 44) hx hb dX1_hasNode_1 (by decide) (fun c_1 => ?_) (fun c_1 => ?_)
  · have hw := hw.1 c_1
    refine lv_iconst (v := 0) hx hb dX1_hasNode_44 (by decide) ?_
    exact W.zret (v := 0) (ty := .boolean) hx hb hr rfl (fun t ht hW => ⟨0, rfl, hw, ht.trans hH.symm⟩) (fun q h => by cases h) dX1_hasNode_45
  · have hw := hw.2 c_1
    refine lv_iload_n hx hb dX1_hasNode_4 rfl (lv_at hl 1 rfl) ?_
    refine lv_aload_n hx hb dX1_hasNode_5 rfl (lv_at hl 0 rfl) ?_
    refine va_get (D := (dC, dI)) (ci := 1) (v := .int S.1.2.2.2.1) (C := RX1) (T := TX1) (N := 9) hx hb hT inX1 hown hK hP 0 rfl rfl 3 (by decide) (hT _ k_40) (fun _ h9 => h9) rfl dX1_hasNode_6 ?_
    refine lv_icmp_ge (tgt := 44) hx hb dX1_hasNode_9 (by decide) (fun c_2 => ?_) (fun c_2 => ?_)
    · have hw := hw.1 c_2
      refine lv_iconst (v := 0) hx hb dX1_hasNode_44 (by decide) ?_
      exact W.zret (v := 0) (ty := .boolean) hx hb hr rfl (fun t ht hW => ⟨0, rfl, hw, ht.trans hH.symm⟩) (fun q h => by cases h) dX1_hasNode_45
    · have hw := hw.2 c_2
      refine lv_iload_n hx hb dX1_hasNode_12 rfl (lv_at hl 2 rfl) ?_
      refine lv_if_lt (tgt := 44) hx hb dX1_hasNode_13 (by decide) (fun c_3 => ?_) (fun c_3 => ?_)
      · have hw := hw.1 c_3
        refine lv_iconst (v := 0) hx hb dX1_hasNode_44 (by decide) ?_
        exact W.zret (v := 0) (ty := .boolean) hx hb hr rfl (fun t ht hW => ⟨0, rfl, hw, ht.trans hH.symm⟩) (fun q h => by cases h) dX1_hasNode_45
      · have hw := hw.2 c_3
        refine lv_iload_n hx hb dX1_hasNode_16 rfl (lv_at hl 2 rfl) ?_
        refine lv_aload_n hx hb dX1_hasNode_17 rfl (lv_at hl 0 rfl) ?_
        refine va_get (D := (dC, dI)) (ci := 1) (v := .ref a1) (C := RX1) (T := TX1) (N := 9) hx hb hT inX1 hown hK hP 0 rfl rfl 5 (by decide) (hT _ k_41) (fun _ h9 => h9) rfl dX1_hasNode_18 ?_
        refine lv_iload_n hx hb dX1_hasNode_21 rfl (lv_at hl 1 rfl) ?_
        obtain ⟨h_4, hw⟩ := hw
        refine va_iald hx hb hK hP 1 0 rfl rfl h_4 dX1_hasNode_22 ?_
        refine lv_icmp_ge (tgt := 44) hx hb dX1_hasNode_23 (by decide) (fun c_5 => ?_) (fun c_5 => ?_)
        · have hw := hw.1 c_5
          refine lv_iconst (v := 0) hx hb dX1_hasNode_44 (by decide) ?_
          exact W.zret (v := 0) (ty := .boolean) hx hb hr rfl (fun t ht hW => ⟨0, rfl, hw, ht.trans hH.symm⟩) (fun q h => by cases h) dX1_hasNode_45
        · have hw := hw.2 c_5
          refine lv_iload_n hx hb dX1_hasNode_26 rfl (lv_at hl 3 rfl) ?_
          refine lv_if_lt (tgt := 44) hx hb dX1_hasNode_27 (by decide) (fun c_6 => ?_) (fun c_6 => ?_)
          · have hw := hw.1 c_6
            refine lv_iconst (v := 0) hx hb dX1_hasNode_44 (by decide) ?_
            exact W.zret (v := 0) (ty := .boolean) hx hb hr rfl (fun t ht hW => ⟨0, rfl, hw, ht.trans hH.symm⟩) (fun q h => by cases h) dX1_hasNode_45
          · have hw := hw.2 c_6
            refine lv_iload_n hx hb dX1_hasNode_30 rfl (lv_at hl 3 rfl) ?_
            refine lv_aload_n hx hb dX1_hasNode_31 rfl (lv_at hl 0 rfl) ?_
            refine va_get (D := (dC, dI)) (ci := 1) (v := .ref a2) (C := RX1) (T := TX1) (N := 9) hx hb hT inX1 hown hK hP 0 rfl rfl 6 (by decide) (hT _ k_42) (fun _ h9 => h9) rfl dX1_hasNode_32 ?_
            refine lv_iload_n hx hb dX1_hasNode_35 rfl (lv_at hl 1 rfl) ?_
            obtain ⟨h_7, hw⟩ := hw
            refine va_iald hx hb hK hP 2 0 rfl rfl h_7 dX1_hasNode_36 ?_
            refine lv_icmp_ge (tgt := 44) hx hb dX1_hasNode_37 (by decide) (fun c_8 => ?_) (fun c_8 => ?_)
            · have hw := hw.1 c_8
              refine lv_iconst (v := 0) hx hb dX1_hasNode_44 (by decide) ?_
              exact W.zret (v := 0) (ty := .boolean) hx hb hr rfl (fun t ht hW => ⟨0, rfl, hw, ht.trans hH.symm⟩) (fun q h => by cases h) dX1_hasNode_45
            · have hw := hw.2 c_8
              refine lv_iconst (v := 1) hx hb dX1_hasNode_40 (by decide) ?_
              refine lv_goto (tgt := 45) hx hb dX1_hasNode_41 (by decide) ?_
              exact W.zret (v := 1) (ty := .boolean) hx hb hr rfl (fun t ht hW => ⟨1, rfl, hw, ht.trans hH.symm⟩) (fun q h => by cases h) dX1_hasNode_45
def wp_X1_nodeAt (post : Int32 → Prop) (nl : Nat) (S : vSH)  (x1 : Int32) (x2 : Int32) (x3 : Int32) : Prop := vp_in x1 6 ∧ (vp_in x1 6 ∧ (post (((S.2.1.2.2 x1.toNatClampNeg) + (x3 * (S.2.1.1 x1.toNatClampNeg))) + x2)))
abbrev rm_X1_nodeAt : Room := { frames := 0, cells := 0, slots := 0, locals := 0 }
set_option maxHeartbeats 4000000 in
set_option maxRecDepth 100000 in
theorem met_X1_nodeAt (l : Launch) (dC : Nat → ClassId) (dI : Nat → Nat → Nat) (cI cZ cJ cL : ClassId) (a0 a1 a2 a3 a4 : Nat) (ra : Nat → Nat) (post : Int32 → Prop) (nl : Nat) (S : vSH)  (x1 : Int32) (x2 : Int32) (x3 : Int32) (hw : wp_X1_nodeAt post nl S  x1 x2 x3) : Met l yX1_nodeAt wsX1_nodeAt rm_X1_nodeAt (pcR (dC, dI) (tysA cI cZ cJ cL) (wSH cI cJ nl a0 a1 a2 a3 a4 ra S) [.ref a0, .int x1, .int x2, .int x3]) (vp_Si post) 0 0 (fun _ => False) := by
  refine Met.ofW (cc := cX1_nodeAt) (maxL := 4) (ret := (some .int)) (by decide) rfl ?_
  intro p e s m args below meth c s₁ Bd hml hv
  obtain ⟨hargs, hP, hK⟩ := hv
  have hx := Bd.exec
  have hb := Bd.bytes
  have hr := Bd.returns
  have hts := atoms_spec (ws := wsX1_nodeAt) Bd.pre
  have hT : ∀ w ∈ WALL, w.before args s = true := fun w h => hts w (List.mem_cons_of_mem _ h)
  have hown : s.vm.findClass RX1 = some m.cls := findClass_of_methodNamed Bd.named
  have hlocks := Bd.notSynchronized
  have hP : va_P (dC, dI) vwCl (wSH cI cJ nl a0 a1 a2 a3 a4 ra S) s.heap := hP
  have hl := lv_entry ([.ref a0, .int x1, .int x2, .int x3]) (n := 4) (Nat.le_of_ble_eq_true rfl)
  rw [show entryFrame m args 4 = F0 m 0 _ [] from by rw [hargs]; exact lg_entry_eq m ([.ref a0, .int x1, .int x2, .int x3]) 4]
  generalize (lg_sl ([.ref a0, .int x1, .int x2, .int x3]) ++ List.replicate (4 - (lg_sl ([.ref a0, .int x1, .int x2, .int x3])).length) Slot.unset).toArray = ls at hl ⊢
  have hl : lv_has ls 4 [(0, .ref a0), (1, .int x1), (2, .int x2), (3, .int x3)] := hl
  generalize hH : s.heap = H at hP ⊢
  unfold wp_X1_nodeAt at hw
  refine lv_aload_n hx hb dX1_nodeAt_0 rfl (lv_at hl 0 rfl) ?_
  refine va_get (D := (dC, dI)) (ci := 1) (v := .ref a3) (C := RX1) (T := TX1) (N := 9) hx hb hT inX1 hown hK hP 0 rfl rfl 7 (by decide) (hT _ k_43) (fun _ h9 => h9) rfl dX1_nodeAt_1 ?_
  refine lv_iload_n hx hb dX1_nodeAt_4 rfl (lv_at hl 1 rfl) ?_
  obtain ⟨h_1, hw⟩ := hw
  refine va_iald hx hb hK hP 3 0 rfl rfl h_1 dX1_nodeAt_5 ?_
  refine lv_iload_n hx hb dX1_nodeAt_6 rfl (lv_at hl 3 rfl) ?_
  refine lv_aload_n hx hb dX1_nodeAt_7 rfl (lv_at hl 0 rfl) ?_
  refine va_get (D := (dC, dI)) (ci := 1) (v := .ref a1) (C := RX1) (T := TX1) (N := 9) hx hb hT inX1 hown hK hP 0 rfl rfl 5 (by decide) (hT _ k_41) (fun _ h9 => h9) rfl dX1_nodeAt_8 ?_
  refine lv_iload_n hx hb dX1_nodeAt_11 rfl (lv_at hl 1 rfl) ?_
  obtain ⟨h_2, hw⟩ := hw
  refine va_iald hx hb hK hP 1 0 rfl rfl h_2 dX1_nodeAt_12 ?_
  refine lv_imul hx hb dX1_nodeAt_13 ?_
  refine lv_iadd hx hb dX1_nodeAt_14 ?_
  refine lv_iload_n hx hb dX1_nodeAt_15 rfl (lv_at hl 2 rfl) ?_
  refine lv_iadd hx hb dX1_nodeAt_16 ?_
  exact W.iret (v := (((S.2.1.2.2 x1.toNatClampNeg) + (x3 * (S.2.1.1 x1.toNatClampNeg))) + x2)) hx hb hr (fun t ht hW => ⟨(((S.2.1.2.2 x1.toNatClampNeg) + (x3 * (S.2.1.1 x1.toNatClampNeg))) + x2), rfl, hw, ht.trans hH.symm⟩) (fun q h => by cases h) dX1_nodeAt_17
def wp_X1_leafX (post : Int32 → Prop) (nl : Nat) (S : vSH)  (x1 : Int32) (x2 : Int32) : Prop := ∃ o_2 : Nat, o_2 < 3 ∧ x1 = nI o_2 ∧ (vp_in x2 nl ∧ (post (((S.2.2 o_2) x2.toNatClampNeg) &&& 31)))
abbrev rm_X1_leafX : Room := { frames := 0, cells := 0, slots := 0, locals := 0 }
set_option maxHeartbeats 4000000 in
set_option maxRecDepth 100000 in
theorem met_X1_leafX (l : Launch) (dC : Nat → ClassId) (dI : Nat → Nat → Nat) (cI cZ cJ cL : ClassId) (a0 a1 a2 a3 a4 : Nat) (ra : Nat → Nat) (post : Int32 → Prop) (nl : Nat) (S : vSH)  (x1 : Int32) (x2 : Int32) (hw : wp_X1_leafX post nl S  x1 x2) : Met l yX1_leafX wsX1_leafX rm_X1_leafX (pcR (dC, dI) (tysA cI cZ cJ cL) (wSH cI cJ nl a0 a1 a2 a3 a4 ra S) [.ref a0, .int x1, .int x2]) (vp_Si post) 0 0 (fun _ => False) := by
  refine Met.ofW (cc := cX1_leafX) (maxL := 3) (ret := (some .int)) (by decide) rfl ?_
  intro p e s m args below meth c s₁ Bd hml hv
  obtain ⟨hargs, hP, hK⟩ := hv
  have hx := Bd.exec
  have hb := Bd.bytes
  have hr := Bd.returns
  have hts := atoms_spec (ws := wsX1_leafX) Bd.pre
  have hT : ∀ w ∈ WALL, w.before args s = true := fun w h => hts w (List.mem_cons_of_mem _ h)
  have hown : s.vm.findClass RX1 = some m.cls := findClass_of_methodNamed Bd.named
  have hlocks := Bd.notSynchronized
  have hP : va_P (dC, dI) vwCl (wSH cI cJ nl a0 a1 a2 a3 a4 ra S) s.heap := hP
  have hl := lv_entry ([.ref a0, .int x1, .int x2]) (n := 3) (Nat.le_of_ble_eq_true rfl)
  rw [show entryFrame m args 3 = F0 m 0 _ [] from by rw [hargs]; exact lg_entry_eq m ([.ref a0, .int x1, .int x2]) 3]
  generalize (lg_sl ([.ref a0, .int x1, .int x2]) ++ List.replicate (3 - (lg_sl ([.ref a0, .int x1, .int x2])).length) Slot.unset).toArray = ls at hl ⊢
  have hl : lv_has ls 3 [(0, .ref a0), (1, .int x1), (2, .int x2)] := hl
  generalize hH : s.heap = H at hP ⊢
  unfold wp_X1_leafX at hw
  refine lv_aload_n hx hb dX1_leafX_0 rfl (lv_at hl 0 rfl) ?_
  refine va_get (D := (dC, dI)) (ci := 1) (v := .ref a4) (C := RX1) (T := TX1) (N := 9) hx hb hT inX1 hown hK hP 0 rfl rfl 8 (by decide) (hT _ k_44) (fun _ h9 => h9) rfl dX1_leafX_1 ?_
  refine lv_iload_n hx hb dX1_leafX_4 rfl (lv_at hl 1 rfl) ?_
  obtain ⟨o_2, h_1, eo_2, hw⟩ := hw
  refine tt_aald hx hb hK hP 4 2 rfl rfl (by rw [eo_2]; exact vp_in_nI h_1 (by decide)) dX1_leafX_5 ?_
  refine W.eq (g2 := F0 m 6 ls [.ref (ra o_2)]) (by rw [eo_2, nI_clamp (by omega)]; rcases (show o_2 = 0 ∨ o_2 = 1 ∨ o_2 = 2 by omega) with h9 | h9 | h9 <;> rw [h9] <;> rfl) ?_
  refine lv_iload_n hx hb dX1_leafX_6 rfl (lv_at hl 2 rfl) ?_
  obtain ⟨h_3, hw⟩ := hw
  refine va_iald (cA := cI) (n := nl) (f := (S.2.2 o_2)) hx hb hK hP (5 + o_2) 0 (by rcases (show o_2 = 0 ∨ o_2 = 1 ∨ o_2 = 2 by omega) with h9 | h9 | h9 <;> rw [h9] <;> rfl) rfl h_3 dX1_leafX_7 ?_
  refine lv_bipush (v := 31) hx hb dX1_leafX_8 (by decide) ?_
  refine lv_iand hx hb dX1_leafX_10 ?_
  exact W.iret (v := (((S.2.2 o_2) x2.toNatClampNeg) &&& 31)) hx hb hr (fun t ht hW => ⟨(((S.2.2 o_2) x2.toNatClampNeg) &&& 31), rfl, hw, ht.trans hH.symm⟩) (fun q h => by cases h) dX1_leafX_11
def wp_X1_leafY (post : Int32 → Prop) (nl : Nat) (S : vSH)  (x1 : Int32) (x2 : Int32) : Prop := ∃ o_2 : Nat, o_2 < 3 ∧ x1 = nI o_2 ∧ (vp_in x2 nl ∧ (¬ (32 : Int32) = 0 ∧ (post (((S.2.2 o_2) x2.toNatClampNeg) / 32))))
abbrev rm_X1_leafY : Room := { frames := 0, cells := 0, slots := 0, locals := 0 }
set_option maxHeartbeats 4000000 in
set_option maxRecDepth 100000 in
theorem met_X1_leafY (l : Launch) (dC : Nat → ClassId) (dI : Nat → Nat → Nat) (cI cZ cJ cL : ClassId) (a0 a1 a2 a3 a4 : Nat) (ra : Nat → Nat) (post : Int32 → Prop) (nl : Nat) (S : vSH)  (x1 : Int32) (x2 : Int32) (hw : wp_X1_leafY post nl S  x1 x2) : Met l yX1_leafY wsX1_leafY rm_X1_leafY (pcR (dC, dI) (tysA cI cZ cJ cL) (wSH cI cJ nl a0 a1 a2 a3 a4 ra S) [.ref a0, .int x1, .int x2]) (vp_Si post) 0 0 (fun _ => False) := by
  refine Met.ofW (cc := cX1_leafY) (maxL := 3) (ret := (some .int)) (by decide) rfl ?_
  intro p e s m args below meth c s₁ Bd hml hv
  obtain ⟨hargs, hP, hK⟩ := hv
  have hx := Bd.exec
  have hb := Bd.bytes
  have hr := Bd.returns
  have hts := atoms_spec (ws := wsX1_leafY) Bd.pre
  have hT : ∀ w ∈ WALL, w.before args s = true := fun w h => hts w (List.mem_cons_of_mem _ h)
  have hown : s.vm.findClass RX1 = some m.cls := findClass_of_methodNamed Bd.named
  have hlocks := Bd.notSynchronized
  have hP : va_P (dC, dI) vwCl (wSH cI cJ nl a0 a1 a2 a3 a4 ra S) s.heap := hP
  have hl := lv_entry ([.ref a0, .int x1, .int x2]) (n := 3) (Nat.le_of_ble_eq_true rfl)
  rw [show entryFrame m args 3 = F0 m 0 _ [] from by rw [hargs]; exact lg_entry_eq m ([.ref a0, .int x1, .int x2]) 3]
  generalize (lg_sl ([.ref a0, .int x1, .int x2]) ++ List.replicate (3 - (lg_sl ([.ref a0, .int x1, .int x2])).length) Slot.unset).toArray = ls at hl ⊢
  have hl : lv_has ls 3 [(0, .ref a0), (1, .int x1), (2, .int x2)] := hl
  generalize hH : s.heap = H at hP ⊢
  unfold wp_X1_leafY at hw
  refine lv_aload_n hx hb dX1_leafY_0 rfl (lv_at hl 0 rfl) ?_
  refine va_get (D := (dC, dI)) (ci := 1) (v := .ref a4) (C := RX1) (T := TX1) (N := 9) hx hb hT inX1 hown hK hP 0 rfl rfl 8 (by decide) (hT _ k_44) (fun _ h9 => h9) rfl dX1_leafY_1 ?_
  refine lv_iload_n hx hb dX1_leafY_4 rfl (lv_at hl 1 rfl) ?_
  obtain ⟨o_2, h_1, eo_2, hw⟩ := hw
  refine tt_aald hx hb hK hP 4 2 rfl rfl (by rw [eo_2]; exact vp_in_nI h_1 (by decide)) dX1_leafY_5 ?_
  refine W.eq (g2 := F0 m 6 ls [.ref (ra o_2)]) (by rw [eo_2, nI_clamp (by omega)]; rcases (show o_2 = 0 ∨ o_2 = 1 ∨ o_2 = 2 by omega) with h9 | h9 | h9 <;> rw [h9] <;> rfl) ?_
  refine lv_iload_n hx hb dX1_leafY_6 rfl (lv_at hl 2 rfl) ?_
  obtain ⟨h_3, hw⟩ := hw
  refine va_iald (cA := cI) (n := nl) (f := (S.2.2 o_2)) hx hb hK hP (5 + o_2) 0 (by rcases (show o_2 = 0 ∨ o_2 = 1 ∨ o_2 = 2 by omega) with h9 | h9 | h9 <;> rw [h9] <;> rfl) rfl h_3 dX1_leafY_7 ?_
  refine lv_bipush (v := 32) hx hb dX1_leafY_8 (by decide) ?_
  obtain ⟨h_4, hw⟩ := hw
  refine lv_idiv hx hb dX1_leafY_10 h_4 ?_
  exact W.iret (v := (((S.2.2 o_2) x2.toNatClampNeg) / 32)) hx hb hr (fun t ht hW => ⟨(((S.2.2 o_2) x2.toNatClampNeg) / 32), rfl, hw, ht.trans hH.symm⟩) (fun q h => by cases h) dX1_leafY_11
end
section
theorem dX3_told_0 : decode cX3_told 0 = .ok (.iload_n 1, 1) := by decide +kernel
theorem dX3_told_1 : decode cX3_told 1 = .ok (.tableswitch 111 0 7 #[47, 55, 63, 71, 79, 87, 95, 103], 47) := by decide +kernel
theorem dX3_told_48 : decode cX3_told 48 = .ok (.aload_n 0, 1) := by decide +kernel
theorem dX3_told_49 : decode cX3_told 49 = .ok (.getfield 18, 3) := by decide +kernel
theorem dX3_told_52 : decode cX3_told 52 = .ok (.getfield 148, 3) := by decide +kernel
theorem dX3_told_55 : decode cX3_told 55 = .ok (.ireturn, 1) := by decide +kernel
theorem dX3_told_56 : decode cX3_told 56 = .ok (.aload_n 0, 1) := by decide +kernel
theorem dX3_told_57 : decode cX3_told 57 = .ok (.getfield 18, 3) := by decide +kernel
theorem dX3_told_60 : decode cX3_told 60 = .ok (.getfield 151, 3) := by decide +kernel
theorem dX3_told_63 : decode cX3_told 63 = .ok (.ireturn, 1) := by decide +kernel
theorem dX3_told_64 : decode cX3_told 64 = .ok (.aload_n 0, 1) := by decide +kernel
theorem dX3_told_65 : decode cX3_told 65 = .ok (.getfield 18, 3) := by decide +kernel
theorem dX3_told_68 : decode cX3_told 68 = .ok (.getfield 103, 3) := by decide +kernel
theorem dX3_told_71 : decode cX3_told 71 = .ok (.ireturn, 1) := by decide +kernel
theorem dX3_told_72 : decode cX3_told 72 = .ok (.aload_n 0, 1) := by decide +kernel
theorem dX3_told_73 : decode cX3_told 73 = .ok (.getfield 18, 3) := by decide +kernel
theorem dX3_told_76 : decode cX3_told 76 = .ok (.getfield 22, 3) := by decide +kernel
theorem dX3_told_79 : decode cX3_told 79 = .ok (.ireturn, 1) := by decide +kernel
theorem dX3_told_80 : decode cX3_told 80 = .ok (.aload_n 0, 1) := by decide +kernel
theorem dX3_told_81 : decode cX3_told 81 = .ok (.getfield 45, 3) := by decide +kernel
theorem dX3_told_84 : decode cX3_told 84 = .ok (.getfield 116, 3) := by decide +kernel
theorem dX3_told_87 : decode cX3_told 87 = .ok (.ireturn, 1) := by decide +kernel
theorem dX3_told_88 : decode cX3_told 88 = .ok (.aload_n 0, 1) := by decide +kernel
theorem dX3_told_89 : decode cX3_told 89 = .ok (.getfield 49, 3) := by decide +kernel
theorem dX3_told_92 : decode cX3_told 92 = .ok (.getfield 116, 3) := by decide +kernel
theorem dX3_told_95 : decode cX3_told 95 = .ok (.ireturn, 1) := by decide +kernel
theorem dX3_told_96 : decode cX3_told 96 = .ok (.aload_n 0, 1) := by decide +kernel
theorem dX3_told_97 : decode cX3_told 97 = .ok (.getfield 35, 3) := by decide +kernel
theorem dX3_told_100 : decode cX3_told 100 = .ok (.getfield 154, 3) := by decide +kernel
theorem dX3_told_103 : decode cX3_told 103 = .ok (.ireturn, 1) := by decide +kernel
theorem dX3_told_104 : decode cX3_told 104 = .ok (.aload_n 0, 1) := by decide +kernel
theorem dX3_told_105 : decode cX3_told 105 = .ok (.getfield 39, 3) := by decide +kernel
theorem dX3_told_108 : decode cX3_told 108 = .ok (.getfield 154, 3) := by decide +kernel
theorem dX3_told_111 : decode cX3_told 111 = .ok (.ireturn, 1) := by decide +kernel
theorem dX3_told_112 : decode cX3_told 112 = .ok (.iconst (-1), 1) := by decide +kernel
theorem dX3_told_113 : decode cX3_told 113 = .ok (.ireturn, 1) := by decide +kernel
theorem dX3_nearest_0 : decode cX3_nearest 0 = .ok (.lload_n 0, 1) := by decide +kernel
theorem dX3_nearest_1 : decode cX3_nearest 1 = .ok (.iload_n 2, 1) := by decide +kernel
theorem dX3_nearest_2 : decode cX3_nearest 2 = .ok (.i2l, 1) := by decide +kernel
theorem dX3_nearest_3 : decode cX3_nearest 3 = .ok (.lcmp, 1) := by decide +kernel
theorem dX3_nearest_4 : decode cX3_nearest 4 = .ok (.ifCond .ge 7, 3) := by decide +kernel
theorem dX3_nearest_7 : decode cX3_nearest 7 = .ok (.iload_n 2, 1) := by decide +kernel
theorem dX3_nearest_8 : decode cX3_nearest 8 = .ok (.goto 16, 3) := by decide +kernel
theorem dX3_nearest_11 : decode cX3_nearest 11 = .ok (.lload_n 0, 1) := by decide +kernel
theorem dX3_nearest_12 : decode cX3_nearest 12 = .ok (.iload_n 3, 1) := by decide +kernel
theorem dX3_nearest_13 : decode cX3_nearest 13 = .ok (.i2l, 1) := by decide +kernel
theorem dX3_nearest_14 : decode cX3_nearest 14 = .ok (.lcmp, 1) := by decide +kernel
theorem dX3_nearest_15 : decode cX3_nearest 15 = .ok (.ifCond .le 7, 3) := by decide +kernel
theorem dX3_nearest_18 : decode cX3_nearest 18 = .ok (.iload_n 3, 1) := by decide +kernel
theorem dX3_nearest_19 : decode cX3_nearest 19 = .ok (.goto 5, 3) := by decide +kernel
theorem dX3_nearest_22 : decode cX3_nearest 22 = .ok (.lload_n 0, 1) := by decide +kernel
theorem dX3_nearest_23 : decode cX3_nearest 23 = .ok (.l2i, 1) := by decide +kernel
theorem dX3_nearest_24 : decode cX3_nearest 24 = .ok (.ireturn, 1) := by decide +kernel
theorem dX3_hasBits_0 : decode cX3_hasBits 0 = .ok (.iload_n 2, 1) := by decide +kernel
theorem dX3_hasBits_1 : decode cX3_hasBits 1 = .ok (.iload_n 3, 1) := by decide +kernel
theorem dX3_hasBits_2 : decode cX3_hasBits 2 = .ok (.if_icmp .ge 19, 3) := by decide +kernel
theorem dX3_hasBits_5 : decode cX3_hasBits 5 = .ok (.aload_n 0, 1) := by decide +kernel
theorem dX3_hasBits_6 : decode cX3_hasBits 6 = .ok (.getfield 35, 3) := by decide +kernel
theorem dX3_hasBits_9 : decode cX3_hasBits 9 = .ok (.getfield 139, 3) := by decide +kernel
theorem dX3_hasBits_12 : decode cX3_hasBits 12 = .ok (.iload_n 1, 1) := by decide +kernel
theorem dX3_hasBits_13 : decode cX3_hasBits 13 = .ok (.baload, 1) := by decide +kernel
theorem dX3_hasBits_14 : decode cX3_hasBits 14 = .ok (.ifCond .ne 7, 3) := by decide +kernel
theorem dX3_hasBits_17 : decode cX3_hasBits 17 = .ok (.iconst 1, 1) := by decide +kernel
theorem dX3_hasBits_18 : decode cX3_hasBits 18 = .ok (.goto 4, 3) := by decide +kernel
theorem dX3_hasBits_21 : decode cX3_hasBits 21 = .ok (.iconst 0, 1) := by decide +kernel
theorem dX3_hasBits_22 : decode cX3_hasBits 22 = .ok (.ireturn, 1) := by decide +kernel
theorem dX3_reset_0 : decode cX3_reset 0 = .ok (.aload_n 0, 1) := by decide +kernel
theorem dX3_reset_1 : decode cX3_reset 1 = .ok (.getfield 35, 3) := by decide +kernel
theorem dX3_reset_4 : decode cX3_reset 4 = .ok (.invokevirtual 157, 3) := by decide +kernel
theorem dX3_reset_7 : decode cX3_reset 7 = .ok (.aload_n 0, 1) := by decide +kernel
theorem dX3_reset_8 : decode cX3_reset 8 = .ok (.getfield 39, 3) := by decide +kernel
theorem dX3_reset_11 : decode cX3_reset 11 = .ok (.invokevirtual 157, 3) := by decide +kernel
theorem dX3_reset_14 : decode cX3_reset 14 = .ok (.aload_n 0, 1) := by decide +kernel
theorem dX3_reset_15 : decode cX3_reset 15 = .ok (.getfield 45, 3) := by decide +kernel
theorem dX3_reset_18 : decode cX3_reset 18 = .ok (.invokevirtual 160, 3) := by decide +kernel
theorem dX3_reset_21 : decode cX3_reset 21 = .ok (.aload_n 0, 1) := by decide +kernel
theorem dX3_reset_22 : decode cX3_reset 22 = .ok (.getfield 49, 3) := by decide +kernel
theorem dX3_reset_25 : decode cX3_reset 25 = .ok (.invokevirtual 160, 3) := by decide +kernel
theorem dX3_reset_28 : decode cX3_reset 28 = .ok (.aload_n 0, 1) := by decide +kernel
theorem dX3_reset_29 : decode cX3_reset 29 = .ok (.iconst 0, 1) := by decide +kernel
theorem dX3_reset_30 : decode cX3_reset 30 = .ok (.putfield 52, 3) := by decide +kernel
theorem dX3_reset_33 : decode cX3_reset 33 = .ok (.return_, 1) := by decide +kernel
theorem dX3_leastOfChildren_0 : decode cX3_leastOfChildren 0 = .ok (.sipush 1000, 3) := by decide +kernel
theorem dX3_leastOfChildren_3 : decode cX3_leastOfChildren 3 = .ok (.istore 4, 2) := by decide +kernel
theorem dX3_leastOfChildren_5 : decode cX3_leastOfChildren 5 = .ok (.iconst 0, 1) := by decide +kernel
theorem dX3_leastOfChildren_6 : decode cX3_leastOfChildren 6 = .ok (.istore 5, 2) := by decide +kernel
theorem dX3_leastOfChildren_8 : decode cX3_leastOfChildren 8 = .ok (.iload 5, 2) := by decide +kernel
theorem dX3_leastOfChildren_10 : decode cX3_leastOfChildren 10 = .ok (.iconst 4, 1) := by decide +kernel
theorem dX3_leastOfChildren_11 : decode cX3_leastOfChildren 11 = .ok (.if_icmp .ge 72, 3) := by decide +kernel
theorem dX3_leastOfChildren_14 : decode cX3_leastOfChildren 14 = .ok (.iconst 2, 1) := by decide +kernel
theorem dX3_leastOfChildren_15 : decode cX3_leastOfChildren 15 = .ok (.iload_n 2, 1) := by decide +kernel
theorem dX3_leastOfChildren_16 : decode cX3_leastOfChildren 16 = .ok (.imul, 1) := by decide +kernel
theorem dX3_leastOfChildren_17 : decode cX3_leastOfChildren 17 = .ok (.iload 5, 2) := by decide +kernel
theorem dX3_leastOfChildren_19 : decode cX3_leastOfChildren 19 = .ok (.iconst 1, 1) := by decide +kernel
theorem dX3_leastOfChildren_20 : decode cX3_leastOfChildren 20 = .ok (.iand, 1) := by decide +kernel
theorem dX3_leastOfChildren_21 : decode cX3_leastOfChildren 21 = .ok (.iadd, 1) := by decide +kernel
theorem dX3_leastOfChildren_22 : decode cX3_leastOfChildren 22 = .ok (.istore 6, 2) := by decide +kernel
theorem dX3_leastOfChildren_24 : decode cX3_leastOfChildren 24 = .ok (.iconst 2, 1) := by decide +kernel
theorem dX3_leastOfChildren_25 : decode cX3_leastOfChildren 25 = .ok (.iload_n 3, 1) := by decide +kernel
theorem dX3_leastOfChildren_26 : decode cX3_leastOfChildren 26 = .ok (.imul, 1) := by decide +kernel
theorem dX3_leastOfChildren_27 : decode cX3_leastOfChildren 27 = .ok (.iload 5, 2) := by decide +kernel
theorem dX3_leastOfChildren_29 : decode cX3_leastOfChildren 29 = .ok (.iconst 1, 1) := by decide +kernel
theorem dX3_leastOfChildren_30 : decode cX3_leastOfChildren 30 = .ok (.ishr, 1) := by decide +kernel
theorem dX3_leastOfChildren_31 : decode cX3_leastOfChildren 31 = .ok (.iadd, 1) := by decide +kernel
theorem dX3_leastOfChildren_32 : decode cX3_leastOfChildren 32 = .ok (.istore 7, 2) := by decide +kernel
theorem dX3_leastOfChildren_34 : decode cX3_leastOfChildren 34 = .ok (.aload_n 0, 1) := by decide +kernel
theorem dX3_leastOfChildren_35 : decode cX3_leastOfChildren 35 = .ok (.getfield 18, 3) := by decide +kernel
theorem dX3_leastOfChildren_38 : decode cX3_leastOfChildren 38 = .ok (.iload_n 1, 1) := by decide +kernel
theorem dX3_leastOfChildren_39 : decode cX3_leastOfChildren 39 = .ok (.iconst 1, 1) := by decide +kernel
theorem dX3_leastOfChildren_40 : decode cX3_leastOfChildren 40 = .ok (.isub, 1) := by decide +kernel
theorem dX3_leastOfChildren_41 : decode cX3_leastOfChildren 41 = .ok (.iload 6, 2) := by decide +kernel
theorem dX3_leastOfChildren_43 : decode cX3_leastOfChildren 43 = .ok (.iload 7, 2) := by decide +kernel
theorem dX3_leastOfChildren_45 : decode cX3_leastOfChildren 45 = .ok (.invokevirtual 163, 3) := by decide +kernel
theorem dX3_leastOfChildren_48 : decode cX3_leastOfChildren 48 = .ok (.ifCond .eq 29, 3) := by decide +kernel
theorem dX3_leastOfChildren_51 : decode cX3_leastOfChildren 51 = .ok (.iload 4, 2) := by decide +kernel
theorem dX3_leastOfChildren_53 : decode cX3_leastOfChildren 53 = .ok (.aload_n 0, 1) := by decide +kernel
theorem dX3_leastOfChildren_54 : decode cX3_leastOfChildren 54 = .ok (.getfield 26, 3) := by decide +kernel
theorem dX3_leastOfChildren_57 : decode cX3_leastOfChildren 57 = .ok (.aload_n 0, 1) := by decide +kernel
theorem dX3_leastOfChildren_58 : decode cX3_leastOfChildren 58 = .ok (.getfield 18, 3) := by decide +kernel
theorem dX3_leastOfChildren_61 : decode cX3_leastOfChildren 61 = .ok (.iload_n 1, 1) := by decide +kernel
theorem dX3_leastOfChildren_62 : decode cX3_leastOfChildren 62 = .ok (.iconst 1, 1) := by decide +kernel
theorem dX3_leastOfChildren_63 : decode cX3_leastOfChildren 63 = .ok (.isub, 1) := by decide +kernel
theorem dX3_leastOfChildren_64 : decode cX3_leastOfChildren 64 = .ok (.iload 6, 2) := by decide +kernel
theorem dX3_leastOfChildren_66 : decode cX3_leastOfChildren 66 = .ok (.iload 7, 2) := by decide +kernel
theorem dX3_leastOfChildren_68 : decode cX3_leastOfChildren 68 = .ok (.invokevirtual 69, 3) := by decide +kernel
theorem dX3_leastOfChildren_71 : decode cX3_leastOfChildren 71 = .ok (.iaload, 1) := by decide +kernel
theorem dX3_leastOfChildren_72 : decode cX3_leastOfChildren 72 = .ok (.invokestatic 81, 3) := by decide +kernel
theorem dX3_leastOfChildren_75 : decode cX3_leastOfChildren 75 = .ok (.istore 4, 2) := by decide +kernel
theorem dX3_leastOfChildren_77 : decode cX3_leastOfChildren 77 = .ok (.iinc 5 1, 3) := by decide +kernel
theorem dX3_leastOfChildren_80 : decode cX3_leastOfChildren 80 = .ok (.goto (-72), 3) := by decide +kernel
theorem dX3_leastOfChildren_83 : decode cX3_leastOfChildren 83 = .ok (.iload 4, 2) := by decide +kernel
theorem dX3_leastOfChildren_85 : decode cX3_leastOfChildren 85 = .ok (.ireturn, 1) := by decide +kernel
theorem dX3_boundAfter_0 : decode cX3_boundAfter 0 = .ok (.aload_n 0, 1) := by decide +kernel
theorem dX3_boundAfter_1 : decode cX3_boundAfter 1 = .ok (.iload_n 1, 1) := by decide +kernel
theorem dX3_boundAfter_2 : decode cX3_boundAfter 2 = .ok (.iload_n 2, 1) := by decide +kernel
theorem dX3_boundAfter_3 : decode cX3_boundAfter 3 = .ok (.iload_n 3, 1) := by decide +kernel
theorem dX3_boundAfter_4 : decode cX3_boundAfter 4 = .ok (.invokevirtual 192, 3) := by decide +kernel
theorem dX3_boundAfter_7 : decode cX3_boundAfter 7 = .ok (.ifCond .eq 16, 3) := by decide +kernel
theorem dX3_boundAfter_10 : decode cX3_boundAfter 10 = .ok (.aload_n 0, 1) := by decide +kernel
theorem dX3_boundAfter_11 : decode cX3_boundAfter 11 = .ok (.getfield 26, 3) := by decide +kernel
theorem dX3_boundAfter_14 : decode cX3_boundAfter 14 = .ok (.iload_n 1, 1) := by decide +kernel
theorem dX3_boundAfter_15 : decode cX3_boundAfter 15 = .ok (.iaload, 1) := by decide +kernel
theorem dX3_boundAfter_16 : decode cX3_boundAfter 16 = .ok (.iload_n 3, 1) := by decide +kernel
theorem dX3_boundAfter_17 : decode cX3_boundAfter 17 = .ok (.invokestatic 81, 3) := by decide +kernel
theorem dX3_boundAfter_20 : decode cX3_boundAfter 20 = .ok (.goto 4, 3) := by decide +kernel
theorem dX3_boundAfter_23 : decode cX3_boundAfter 23 = .ok (.iload_n 2, 1) := by decide +kernel
theorem dX3_boundAfter_24 : decode cX3_boundAfter 24 = .ok (.ireturn, 1) := by decide +kernel
theorem dX3_renewLeasts_0 : decode cX3_renewLeasts 0 = .ok (.iconst 1, 1) := by decide +kernel
theorem dX3_renewLeasts_1 : decode cX3_renewLeasts 1 = .ok (.istore_n 1, 1) := by decide +kernel
theorem dX3_renewLeasts_2 : decode cX3_renewLeasts 2 = .ok (.iload_n 1, 1) := by decide +kernel
theorem dX3_renewLeasts_3 : decode cX3_renewLeasts 3 = .ok (.aload_n 0, 1) := by decide +kernel
theorem dX3_renewLeasts_4 : decode cX3_renewLeasts 4 = .ok (.getfield 18, 3) := by decide +kernel
theorem dX3_renewLeasts_7 : decode cX3_renewLeasts 7 = .ok (.getfield 103, 3) := by decide +kernel
theorem dX3_renewLeasts_10 : decode cX3_renewLeasts 10 = .ok (.if_icmp .ge 73, 3) := by decide +kernel
theorem dX3_renewLeasts_13 : decode cX3_renewLeasts 13 = .ok (.iconst 0, 1) := by decide +kernel
theorem dX3_renewLeasts_14 : decode cX3_renewLeasts 14 = .ok (.istore_n 2, 1) := by decide +kernel
theorem dX3_renewLeasts_15 : decode cX3_renewLeasts 15 = .ok (.iload_n 2, 1) := by decide +kernel
theorem dX3_renewLeasts_16 : decode cX3_renewLeasts 16 = .ok (.aload_n 0, 1) := by decide +kernel
theorem dX3_renewLeasts_17 : decode cX3_renewLeasts 17 = .ok (.getfield 18, 3) := by decide +kernel
theorem dX3_renewLeasts_20 : decode cX3_renewLeasts 20 = .ok (.getfield 183, 3) := by decide +kernel
theorem dX3_renewLeasts_23 : decode cX3_renewLeasts 23 = .ok (.iload_n 1, 1) := by decide +kernel
theorem dX3_renewLeasts_24 : decode cX3_renewLeasts 24 = .ok (.iaload, 1) := by decide +kernel
theorem dX3_renewLeasts_25 : decode cX3_renewLeasts 25 = .ok (.if_icmp .ge 52, 3) := by decide +kernel
theorem dX3_renewLeasts_28 : decode cX3_renewLeasts 28 = .ok (.iconst 0, 1) := by decide +kernel
theorem dX3_renewLeasts_29 : decode cX3_renewLeasts 29 = .ok (.istore_n 3, 1) := by decide +kernel
theorem dX3_renewLeasts_30 : decode cX3_renewLeasts 30 = .ok (.iload_n 3, 1) := by decide +kernel
theorem dX3_renewLeasts_31 : decode cX3_renewLeasts 31 = .ok (.aload_n 0, 1) := by decide +kernel
theorem dX3_renewLeasts_32 : decode cX3_renewLeasts 32 = .ok (.getfield 18, 3) := by decide +kernel
theorem dX3_renewLeasts_35 : decode cX3_renewLeasts 35 = .ok (.getfield 186, 3) := by decide +kernel
theorem dX3_renewLeasts_38 : decode cX3_renewLeasts 38 = .ok (.iload_n 1, 1) := by decide +kernel
theorem dX3_renewLeasts_39 : decode cX3_renewLeasts 39 = .ok (.iaload, 1) := by decide +kernel
theorem dX3_renewLeasts_40 : decode cX3_renewLeasts 40 = .ok (.if_icmp .ge 31, 3) := by decide +kernel
theorem dX3_renewLeasts_43 : decode cX3_renewLeasts 43 = .ok (.aload_n 0, 1) := by decide +kernel
theorem dX3_renewLeasts_44 : decode cX3_renewLeasts 44 = .ok (.getfield 26, 3) := by decide +kernel
theorem dX3_renewLeasts_47 : decode cX3_renewLeasts 47 = .ok (.aload_n 0, 1) := by decide +kernel
theorem dX3_renewLeasts_48 : decode cX3_renewLeasts 48 = .ok (.getfield 18, 3) := by decide +kernel
theorem dX3_renewLeasts_51 : decode cX3_renewLeasts 51 = .ok (.iload_n 1, 1) := by decide +kernel
theorem dX3_renewLeasts_52 : decode cX3_renewLeasts 52 = .ok (.iload_n 3, 1) := by decide +kernel
theorem dX3_renewLeasts_53 : decode cX3_renewLeasts 53 = .ok (.iload_n 2, 1) := by decide +kernel
theorem dX3_renewLeasts_54 : decode cX3_renewLeasts 54 = .ok (.invokevirtual 69, 3) := by decide +kernel
theorem dX3_renewLeasts_57 : decode cX3_renewLeasts 57 = .ok (.aload_n 0, 1) := by decide +kernel
theorem dX3_renewLeasts_58 : decode cX3_renewLeasts 58 = .ok (.iload_n 1, 1) := by decide +kernel
theorem dX3_renewLeasts_59 : decode cX3_renewLeasts 59 = .ok (.iload_n 3, 1) := by decide +kernel
theorem dX3_renewLeasts_60 : decode cX3_renewLeasts 60 = .ok (.iload_n 2, 1) := by decide +kernel
theorem dX3_renewLeasts_61 : decode cX3_renewLeasts 61 = .ok (.invokevirtual 189, 3) := by decide +kernel
theorem dX3_renewLeasts_64 : decode cX3_renewLeasts 64 = .ok (.iastore, 1) := by decide +kernel
theorem dX3_renewLeasts_65 : decode cX3_renewLeasts 65 = .ok (.iinc 3 1, 3) := by decide +kernel
theorem dX3_renewLeasts_68 : decode cX3_renewLeasts 68 = .ok (.goto (-38), 3) := by decide +kernel
theorem dX3_renewLeasts_71 : decode cX3_renewLeasts 71 = .ok (.iinc 2 1, 3) := by decide +kernel
theorem dX3_renewLeasts_74 : decode cX3_renewLeasts 74 = .ok (.goto (-59), 3) := by decide +kernel
theorem dX3_renewLeasts_77 : decode cX3_renewLeasts 77 = .ok (.iinc 1 1, 3) := by decide +kernel
theorem dX3_renewLeasts_80 : decode cX3_renewLeasts 80 = .ok (.goto (-78), 3) := by decide +kernel
theorem dX3_renewLeasts_83 : decode cX3_renewLeasts 83 = .ok (.return_, 1) := by decide +kernel
theorem dX3_costOfNode_0 : decode cX3_costOfNode 0 = .ok (.aload_n 0, 1) := by decide +kernel
theorem dX3_costOfNode_1 : decode cX3_costOfNode 1 = .ok (.iload_n 1, 1) := by decide +kernel
theorem dX3_costOfNode_2 : decode cX3_costOfNode 2 = .ok (.iload_n 2, 1) := by decide +kernel
theorem dX3_costOfNode_3 : decode cX3_costOfNode 3 = .ok (.iload_n 3, 1) := by decide +kernel
theorem dX3_costOfNode_4 : decode cX3_costOfNode 4 = .ok (.invokevirtual 192, 3) := by decide +kernel
theorem dX3_costOfNode_7 : decode cX3_costOfNode 7 = .ok (.ifCond .ne 5, 3) := by decide +kernel
theorem dX3_costOfNode_10 : decode cX3_costOfNode 10 = .ok (.iconst 0, 1) := by decide +kernel
theorem dX3_costOfNode_11 : decode cX3_costOfNode 11 = .ok (.ireturn, 1) := by decide +kernel
theorem dX3_costOfNode_12 : decode cX3_costOfNode 12 = .ok (.aload_n 0, 1) := by decide +kernel
theorem dX3_costOfNode_13 : decode cX3_costOfNode 13 = .ok (.iload_n 1, 1) := by decide +kernel
theorem dX3_costOfNode_14 : decode cX3_costOfNode 14 = .ok (.iload_n 2, 1) := by decide +kernel
theorem dX3_costOfNode_15 : decode cX3_costOfNode 15 = .ok (.iload_n 3, 1) := by decide +kernel
theorem dX3_costOfNode_16 : decode cX3_costOfNode 16 = .ok (.invokevirtual 195, 3) := by decide +kernel
theorem dX3_costOfNode_19 : decode cX3_costOfNode 19 = .ok (.iload_n 2, 1) := by decide +kernel
theorem dX3_costOfNode_20 : decode cX3_costOfNode 20 = .ok (.isub, 1) := by decide +kernel
theorem dX3_costOfNode_21 : decode cX3_costOfNode 21 = .ok (.istore 4, 2) := by decide +kernel
theorem dX3_costOfNode_23 : decode cX3_costOfNode 23 = .ok (.aload_n 0, 1) := by decide +kernel
theorem dX3_costOfNode_24 : decode cX3_costOfNode 24 = .ok (.getfield 26, 3) := by decide +kernel
theorem dX3_costOfNode_27 : decode cX3_costOfNode 27 = .ok (.iload_n 1, 1) := by decide +kernel
theorem dX3_costOfNode_28 : decode cX3_costOfNode 28 = .ok (.iaload, 1) := by decide +kernel
theorem dX3_costOfNode_29 : decode cX3_costOfNode 29 = .ok (.iload_n 3, 1) := by decide +kernel
theorem dX3_costOfNode_30 : decode cX3_costOfNode 30 = .ok (.if_icmp .ge 10, 3) := by decide +kernel
theorem dX3_costOfNode_33 : decode cX3_costOfNode 33 = .ok (.iload 4, 2) := by decide +kernel
theorem dX3_costOfNode_35 : decode cX3_costOfNode 35 = .ok (.iconst 1, 1) := by decide +kernel
theorem dX3_costOfNode_36 : decode cX3_costOfNode 36 = .ok (.iadd, 1) := by decide +kernel
theorem dX3_costOfNode_37 : decode cX3_costOfNode 37 = .ok (.goto 5, 3) := by decide +kernel
theorem dX3_costOfNode_40 : decode cX3_costOfNode 40 = .ok (.iload 4, 2) := by decide +kernel
theorem dX3_costOfNode_42 : decode cX3_costOfNode 42 = .ok (.ireturn, 1) := by decide +kernel
theorem dX3_tellNode_0 : decode cX3_tellNode 0 = .ok (.aload_n 0, 1) := by decide +kernel
theorem dX3_tellNode_1 : decode cX3_tellNode 1 = .ok (.iload_n 1, 1) := by decide +kernel
theorem dX3_tellNode_2 : decode cX3_tellNode 2 = .ok (.iload_n 2, 1) := by decide +kernel
theorem dX3_tellNode_3 : decode cX3_tellNode 3 = .ok (.iload_n 3, 1) := by decide +kernel
theorem dX3_tellNode_4 : decode cX3_tellNode 4 = .ok (.invokevirtual 195, 3) := by decide +kernel
theorem dX3_tellNode_7 : decode cX3_tellNode 7 = .ok (.istore 4, 2) := by decide +kernel
theorem dX3_tellNode_9 : decode cX3_tellNode 9 = .ok (.iload_n 2, 1) := by decide +kernel
theorem dX3_tellNode_10 : decode cX3_tellNode 10 = .ok (.istore 5, 2) := by decide +kernel
theorem dX3_tellNode_12 : decode cX3_tellNode 12 = .ok (.iload 5, 2) := by decide +kernel
theorem dX3_tellNode_14 : decode cX3_tellNode 14 = .ok (.iload 4, 2) := by decide +kernel
theorem dX3_tellNode_16 : decode cX3_tellNode 16 = .ok (.if_icmp .ge 17, 3) := by decide +kernel
theorem dX3_tellNode_19 : decode cX3_tellNode 19 = .ok (.aload_n 0, 1) := by decide +kernel
theorem dX3_tellNode_20 : decode cX3_tellNode 20 = .ok (.getfield 45, 3) := by decide +kernel
theorem dX3_tellNode_23 : decode cX3_tellNode 23 = .ok (.iconst 0, 1) := by decide +kernel
theorem dX3_tellNode_24 : decode cX3_tellNode 24 = .ok (.invokevirtual 130, 3) := by decide +kernel
theorem dX3_tellNode_27 : decode cX3_tellNode 27 = .ok (.iinc 5 1, 3) := by decide +kernel
theorem dX3_tellNode_30 : decode cX3_tellNode 30 = .ok (.goto (-18), 3) := by decide +kernel
theorem dX3_tellNode_33 : decode cX3_tellNode 33 = .ok (.aload_n 0, 1) := by decide +kernel
theorem dX3_tellNode_34 : decode cX3_tellNode 34 = .ok (.iload_n 1, 1) := by decide +kernel
theorem dX3_tellNode_35 : decode cX3_tellNode 35 = .ok (.iload_n 2, 1) := by decide +kernel
theorem dX3_tellNode_36 : decode cX3_tellNode 36 = .ok (.iload_n 3, 1) := by decide +kernel
theorem dX3_tellNode_37 : decode cX3_tellNode 37 = .ok (.invokevirtual 192, 3) := by decide +kernel
theorem dX3_tellNode_40 : decode cX3_tellNode 40 = .ok (.ifCond .eq 29, 3) := by decide +kernel
theorem dX3_tellNode_43 : decode cX3_tellNode 43 = .ok (.aload_n 0, 1) := by decide +kernel
theorem dX3_tellNode_44 : decode cX3_tellNode 44 = .ok (.getfield 26, 3) := by decide +kernel
theorem dX3_tellNode_47 : decode cX3_tellNode 47 = .ok (.iload_n 1, 1) := by decide +kernel
theorem dX3_tellNode_48 : decode cX3_tellNode 48 = .ok (.iaload, 1) := by decide +kernel
theorem dX3_tellNode_49 : decode cX3_tellNode 49 = .ok (.iload_n 3, 1) := by decide +kernel
theorem dX3_tellNode_50 : decode cX3_tellNode 50 = .ok (.if_icmp .ge 19, 3) := by decide +kernel
theorem dX3_tellNode_53 : decode cX3_tellNode 53 = .ok (.aload_n 0, 1) := by decide +kernel
theorem dX3_tellNode_54 : decode cX3_tellNode 54 = .ok (.getfield 45, 3) := by decide +kernel
theorem dX3_tellNode_57 : decode cX3_tellNode 57 = .ok (.iconst 1, 1) := by decide +kernel
theorem dX3_tellNode_58 : decode cX3_tellNode 58 = .ok (.invokevirtual 130, 3) := by decide +kernel
theorem dX3_tellNode_61 : decode cX3_tellNode 61 = .ok (.aload_n 0, 1) := by decide +kernel
theorem dX3_tellNode_62 : decode cX3_tellNode 62 = .ok (.getfield 35, 3) := by decide +kernel
theorem dX3_tellNode_65 : decode cX3_tellNode 65 = .ok (.iload_n 1, 1) := by decide +kernel
theorem dX3_tellNode_66 : decode cX3_tellNode 66 = .ok (.invokevirtual 207, 3) := by decide +kernel
theorem dX3_tellNode_69 : decode cX3_tellNode 69 = .ok (.aload_n 0, 1) := by decide +kernel
theorem dX3_tellNode_70 : decode cX3_tellNode 70 = .ok (.getfield 35, 3) := by decide +kernel
theorem dX3_tellNode_73 : decode cX3_tellNode 73 = .ok (.getfield 143, 3) := by decide +kernel
theorem dX3_tellNode_76 : decode cX3_tellNode 76 = .ok (.iload_n 1, 1) := by decide +kernel
theorem dX3_tellNode_77 : decode cX3_tellNode 77 = .ok (.iload 4, 2) := by decide +kernel
theorem dX3_tellNode_79 : decode cX3_tellNode 79 = .ok (.iastore, 1) := by decide +kernel
theorem dX3_tellNode_80 : decode cX3_tellNode 80 = .ok (.return_, 1) := by decide +kernel
theorem dX3_takeBits_0 : decode cX3_takeBits 0 = .ok (.iconst 0, 1) := by decide +kernel
theorem dX3_takeBits_1 : decode cX3_takeBits 1 = .ok (.istore 5, 2) := by decide +kernel
theorem dX3_takeBits_3 : decode cX3_takeBits 3 = .ok (.iconst 0, 1) := by decide +kernel
theorem dX3_takeBits_4 : decode cX3_takeBits 4 = .ok (.istore 6, 2) := by decide +kernel
theorem dX3_takeBits_6 : decode cX3_takeBits 6 = .ok (.aload_n 0, 1) := by decide +kernel
theorem dX3_takeBits_7 : decode cX3_takeBits 7 = .ok (.getfield 18, 3) := by decide +kernel
theorem dX3_takeBits_10 : decode cX3_takeBits 10 = .ok (.getfield 103, 3) := by decide +kernel
theorem dX3_takeBits_13 : decode cX3_takeBits 13 = .ok (.iconst 1, 1) := by decide +kernel
theorem dX3_takeBits_14 : decode cX3_takeBits 14 = .ok (.isub, 1) := by decide +kernel
theorem dX3_takeBits_15 : decode cX3_takeBits 15 = .ok (.istore 7, 2) := by decide +kernel
theorem dX3_takeBits_17 : decode cX3_takeBits 17 = .ok (.iload 7, 2) := by decide +kernel
theorem dX3_takeBits_19 : decode cX3_takeBits 19 = .ok (.ifCond .lt 142, 3) := by decide +kernel
theorem dX3_takeBits_22 : decode cX3_takeBits 22 = .ok (.aload_n 0, 1) := by decide +kernel
theorem dX3_takeBits_23 : decode cX3_takeBits 23 = .ok (.getfield 18, 3) := by decide +kernel
theorem dX3_takeBits_26 : decode cX3_takeBits 26 = .ok (.iload 7, 2) := by decide +kernel
theorem dX3_takeBits_28 : decode cX3_takeBits 28 = .ok (.iload_n 1, 1) := by decide +kernel
theorem dX3_takeBits_29 : decode cX3_takeBits 29 = .ok (.iload 7, 2) := by decide +kernel
theorem dX3_takeBits_31 : decode cX3_takeBits 31 = .ok (.ishr, 1) := by decide +kernel
theorem dX3_takeBits_32 : decode cX3_takeBits 32 = .ok (.iload_n 2, 1) := by decide +kernel
theorem dX3_takeBits_33 : decode cX3_takeBits 33 = .ok (.iload 7, 2) := by decide +kernel
theorem dX3_takeBits_35 : decode cX3_takeBits 35 = .ok (.ishr, 1) := by decide +kernel
theorem dX3_takeBits_36 : decode cX3_takeBits 36 = .ok (.invokevirtual 69, 3) := by decide +kernel
theorem dX3_takeBits_39 : decode cX3_takeBits 39 = .ok (.istore 8, 2) := by decide +kernel
theorem dX3_takeBits_41 : decode cX3_takeBits 41 = .ok (.iload 6, 2) := by decide +kernel
theorem dX3_takeBits_43 : decode cX3_takeBits 43 = .ok (.aload_n 0, 1) := by decide +kernel
theorem dX3_takeBits_44 : decode cX3_takeBits 44 = .ok (.getfield 39, 3) := by decide +kernel
theorem dX3_takeBits_47 : decode cX3_takeBits 47 = .ok (.getfield 143, 3) := by decide +kernel
theorem dX3_takeBits_50 : decode cX3_takeBits 50 = .ok (.iload 8, 2) := by decide +kernel
theorem dX3_takeBits_52 : decode cX3_takeBits 52 = .ok (.iaload, 1) := by decide +kernel
theorem dX3_takeBits_53 : decode cX3_takeBits 53 = .ok (.invokestatic 198, 3) := by decide +kernel
theorem dX3_takeBits_56 : decode cX3_takeBits 56 = .ok (.istore 6, 2) := by decide +kernel
theorem dX3_takeBits_58 : decode cX3_takeBits 58 = .ok (.aload_n 0, 1) := by decide +kernel
theorem dX3_takeBits_59 : decode cX3_takeBits 59 = .ok (.getfield 39, 3) := by decide +kernel
theorem dX3_takeBits_62 : decode cX3_takeBits 62 = .ok (.getfield 139, 3) := by decide +kernel
theorem dX3_takeBits_65 : decode cX3_takeBits 65 = .ok (.iload 8, 2) := by decide +kernel
theorem dX3_takeBits_67 : decode cX3_takeBits 67 = .ok (.baload, 1) := by decide +kernel
theorem dX3_takeBits_68 : decode cX3_takeBits 68 = .ok (.istore 9, 2) := by decide +kernel
theorem dX3_takeBits_70 : decode cX3_takeBits 70 = .ok (.iload 6, 2) := by decide +kernel
theorem dX3_takeBits_72 : decode cX3_takeBits 72 = .ok (.iload_n 3, 1) := by decide +kernel
theorem dX3_takeBits_73 : decode cX3_takeBits 73 = .ok (.if_icmp .ge 51, 3) := by decide +kernel
theorem dX3_takeBits_76 : decode cX3_takeBits 76 = .ok (.iload 9, 2) := by decide +kernel
theorem dX3_takeBits_78 : decode cX3_takeBits 78 = .ok (.ifCond .ne 46, 3) := by decide +kernel
theorem dX3_takeBits_81 : decode cX3_takeBits 81 = .ok (.iload 5, 2) := by decide +kernel
theorem dX3_takeBits_83 : decode cX3_takeBits 83 = .ok (.aload_n 0, 1) := by decide +kernel
theorem dX3_takeBits_84 : decode cX3_takeBits 84 = .ok (.getfield 49, 3) := by decide +kernel
theorem dX3_takeBits_87 : decode cX3_takeBits 87 = .ok (.getfield 116, 3) := by decide +kernel
theorem dX3_takeBits_90 : decode cX3_takeBits 90 = .ok (.if_icmp .lt 6, 3) := by decide +kernel
theorem dX3_takeBits_93 : decode cX3_takeBits 93 = .ok (.bipush (-2), 2) := by decide +kernel
theorem dX3_takeBits_95 : decode cX3_takeBits 95 = .ok (.ireturn, 1) := by decide +kernel
theorem dX3_takeBits_96 : decode cX3_takeBits 96 = .ok (.aload_n 0, 1) := by decide +kernel
theorem dX3_takeBits_97 : decode cX3_takeBits 97 = .ok (.getfield 49, 3) := by decide +kernel
theorem dX3_takeBits_100 : decode cX3_takeBits 100 = .ok (.iload 5, 2) := by decide +kernel
theorem dX3_takeBits_102 : decode cX3_takeBits 102 = .ok (.invokevirtual 124, 3) := by decide +kernel
theorem dX3_takeBits_105 : decode cX3_takeBits 105 = .ok (.iconst 1, 1) := by decide +kernel
theorem dX3_takeBits_106 : decode cX3_takeBits 106 = .ok (.if_icmp .ne 9, 3) := by decide +kernel
theorem dX3_takeBits_109 : decode cX3_takeBits 109 = .ok (.iconst 1, 1) := by decide +kernel
theorem dX3_takeBits_110 : decode cX3_takeBits 110 = .ok (.istore 9, 2) := by decide +kernel
theorem dX3_takeBits_112 : decode cX3_takeBits 112 = .ok (.goto 6, 3) := by decide +kernel
theorem dX3_takeBits_115 : decode cX3_takeBits 115 = .ok (.iinc 6 1, 3) := by decide +kernel
theorem dX3_takeBits_118 : decode cX3_takeBits 118 = .ok (.iinc 5 1, 3) := by decide +kernel
theorem dX3_takeBits_121 : decode cX3_takeBits 121 = .ok (.goto (-51), 3) := by decide +kernel
theorem dX3_takeBits_124 : decode cX3_takeBits 124 = .ok (.iload 4, 2) := by decide +kernel
theorem dX3_takeBits_126 : decode cX3_takeBits 126 = .ok (.ifCond .eq 29, 3) := by decide +kernel
theorem dX3_takeBits_129 : decode cX3_takeBits 129 = .ok (.aload_n 0, 1) := by decide +kernel
theorem dX3_takeBits_130 : decode cX3_takeBits 130 = .ok (.getfield 39, 3) := by decide +kernel
theorem dX3_takeBits_133 : decode cX3_takeBits 133 = .ok (.getfield 143, 3) := by decide +kernel
theorem dX3_takeBits_136 : decode cX3_takeBits 136 = .ok (.iload 8, 2) := by decide +kernel
theorem dX3_takeBits_138 : decode cX3_takeBits 138 = .ok (.iload 6, 2) := by decide +kernel
theorem dX3_takeBits_140 : decode cX3_takeBits 140 = .ok (.iastore, 1) := by decide +kernel
theorem dX3_takeBits_141 : decode cX3_takeBits 141 = .ok (.iload 9, 2) := by decide +kernel
theorem dX3_takeBits_143 : decode cX3_takeBits 143 = .ok (.ifCond .eq 12, 3) := by decide +kernel
theorem dX3_takeBits_146 : decode cX3_takeBits 146 = .ok (.aload_n 0, 1) := by decide +kernel
theorem dX3_takeBits_147 : decode cX3_takeBits 147 = .ok (.getfield 39, 3) := by decide +kernel
theorem dX3_takeBits_150 : decode cX3_takeBits 150 = .ok (.iload 8, 2) := by decide +kernel
theorem dX3_takeBits_152 : decode cX3_takeBits 152 = .ok (.invokevirtual 207, 3) := by decide +kernel
theorem dX3_takeBits_155 : decode cX3_takeBits 155 = .ok (.iinc 7 (-1), 3) := by decide +kernel
theorem dX3_takeBits_158 : decode cX3_takeBits 158 = .ok (.goto (-141), 3) := by decide +kernel
theorem dX3_takeBits_161 : decode cX3_takeBits 161 = .ok (.iload 5, 2) := by decide +kernel
theorem dX3_takeBits_163 : decode cX3_takeBits 163 = .ok (.ireturn, 1) := by decide +kernel
theorem dX3_costOfLeaf_0 : decode cX3_costOfLeaf 0 = .ok (.iconst 0, 1) := by decide +kernel
theorem dX3_costOfLeaf_1 : decode cX3_costOfLeaf 1 = .ok (.istore 4, 2) := by decide +kernel
theorem dX3_costOfLeaf_3 : decode cX3_costOfLeaf 3 = .ok (.iconst 0, 1) := by decide +kernel
theorem dX3_costOfLeaf_4 : decode cX3_costOfLeaf 4 = .ok (.istore 5, 2) := by decide +kernel
theorem dX3_costOfLeaf_6 : decode cX3_costOfLeaf 6 = .ok (.aload_n 0, 1) := by decide +kernel
theorem dX3_costOfLeaf_7 : decode cX3_costOfLeaf 7 = .ok (.getfield 18, 3) := by decide +kernel
theorem dX3_costOfLeaf_10 : decode cX3_costOfLeaf 10 = .ok (.getfield 103, 3) := by decide +kernel
theorem dX3_costOfLeaf_13 : decode cX3_costOfLeaf 13 = .ok (.iconst 1, 1) := by decide +kernel
theorem dX3_costOfLeaf_14 : decode cX3_costOfLeaf 14 = .ok (.isub, 1) := by decide +kernel
theorem dX3_costOfLeaf_15 : decode cX3_costOfLeaf 15 = .ok (.istore 6, 2) := by decide +kernel
theorem dX3_costOfLeaf_17 : decode cX3_costOfLeaf 17 = .ok (.iload 6, 2) := by decide +kernel
theorem dX3_costOfLeaf_19 : decode cX3_costOfLeaf 19 = .ok (.ifCond .lt 70, 3) := by decide +kernel
theorem dX3_costOfLeaf_22 : decode cX3_costOfLeaf 22 = .ok (.aload_n 0, 1) := by decide +kernel
theorem dX3_costOfLeaf_23 : decode cX3_costOfLeaf 23 = .ok (.getfield 18, 3) := by decide +kernel
theorem dX3_costOfLeaf_26 : decode cX3_costOfLeaf 26 = .ok (.iload 6, 2) := by decide +kernel
theorem dX3_costOfLeaf_28 : decode cX3_costOfLeaf 28 = .ok (.iload_n 1, 1) := by decide +kernel
theorem dX3_costOfLeaf_29 : decode cX3_costOfLeaf 29 = .ok (.iload 6, 2) := by decide +kernel
theorem dX3_costOfLeaf_31 : decode cX3_costOfLeaf 31 = .ok (.ishr, 1) := by decide +kernel
theorem dX3_costOfLeaf_32 : decode cX3_costOfLeaf 32 = .ok (.iload_n 2, 1) := by decide +kernel
theorem dX3_costOfLeaf_33 : decode cX3_costOfLeaf 33 = .ok (.iload 6, 2) := by decide +kernel
theorem dX3_costOfLeaf_35 : decode cX3_costOfLeaf 35 = .ok (.ishr, 1) := by decide +kernel
theorem dX3_costOfLeaf_36 : decode cX3_costOfLeaf 36 = .ok (.invokevirtual 69, 3) := by decide +kernel
theorem dX3_costOfLeaf_39 : decode cX3_costOfLeaf 39 = .ok (.istore 7, 2) := by decide +kernel
theorem dX3_costOfLeaf_41 : decode cX3_costOfLeaf 41 = .ok (.iload 5, 2) := by decide +kernel
theorem dX3_costOfLeaf_43 : decode cX3_costOfLeaf 43 = .ok (.aload_n 0, 1) := by decide +kernel
theorem dX3_costOfLeaf_44 : decode cX3_costOfLeaf 44 = .ok (.getfield 35, 3) := by decide +kernel
theorem dX3_costOfLeaf_47 : decode cX3_costOfLeaf 47 = .ok (.getfield 143, 3) := by decide +kernel
theorem dX3_costOfLeaf_50 : decode cX3_costOfLeaf 50 = .ok (.iload 7, 2) := by decide +kernel
theorem dX3_costOfLeaf_52 : decode cX3_costOfLeaf 52 = .ok (.iaload, 1) := by decide +kernel
theorem dX3_costOfLeaf_53 : decode cX3_costOfLeaf 53 = .ok (.invokestatic 198, 3) := by decide +kernel
theorem dX3_costOfLeaf_56 : decode cX3_costOfLeaf 56 = .ok (.istore 8, 2) := by decide +kernel
theorem dX3_costOfLeaf_58 : decode cX3_costOfLeaf 58 = .ok (.iload 4, 2) := by decide +kernel
theorem dX3_costOfLeaf_60 : decode cX3_costOfLeaf 60 = .ok (.aload_n 0, 1) := by decide +kernel
theorem dX3_costOfLeaf_61 : decode cX3_costOfLeaf 61 = .ok (.iload 7, 2) := by decide +kernel
theorem dX3_costOfLeaf_63 : decode cX3_costOfLeaf 63 = .ok (.iload 8, 2) := by decide +kernel
theorem dX3_costOfLeaf_65 : decode cX3_costOfLeaf 65 = .ok (.iload_n 3, 1) := by decide +kernel
theorem dX3_costOfLeaf_66 : decode cX3_costOfLeaf 66 = .ok (.invokevirtual 201, 3) := by decide +kernel
theorem dX3_costOfLeaf_69 : decode cX3_costOfLeaf 69 = .ok (.iadd, 1) := by decide +kernel
theorem dX3_costOfLeaf_70 : decode cX3_costOfLeaf 70 = .ok (.istore 4, 2) := by decide +kernel
theorem dX3_costOfLeaf_72 : decode cX3_costOfLeaf 72 = .ok (.aload_n 0, 1) := by decide +kernel
theorem dX3_costOfLeaf_73 : decode cX3_costOfLeaf 73 = .ok (.iload 7, 2) := by decide +kernel
theorem dX3_costOfLeaf_75 : decode cX3_costOfLeaf 75 = .ok (.iload 8, 2) := by decide +kernel
theorem dX3_costOfLeaf_77 : decode cX3_costOfLeaf 77 = .ok (.iload_n 3, 1) := by decide +kernel
theorem dX3_costOfLeaf_78 : decode cX3_costOfLeaf 78 = .ok (.invokevirtual 195, 3) := by decide +kernel
theorem dX3_costOfLeaf_81 : decode cX3_costOfLeaf 81 = .ok (.istore 5, 2) := by decide +kernel
theorem dX3_costOfLeaf_83 : decode cX3_costOfLeaf 83 = .ok (.iinc 6 (-1), 3) := by decide +kernel
theorem dX3_costOfLeaf_86 : decode cX3_costOfLeaf 86 = .ok (.goto (-69), 3) := by decide +kernel
theorem dX3_costOfLeaf_89 : decode cX3_costOfLeaf 89 = .ok (.iload 4, 2) := by decide +kernel
theorem dX3_costOfLeaf_91 : decode cX3_costOfLeaf 91 = .ok (.ireturn, 1) := by decide +kernel
theorem dX3_costBelow_0 : decode cX3_costBelow 0 = .ok (.aload_n 0, 1) := by decide +kernel
theorem dX3_costBelow_1 : decode cX3_costBelow 1 = .ok (.getfield 18, 3) := by decide +kernel
theorem dX3_costBelow_4 : decode cX3_costBelow 4 = .ok (.iload_n 1, 1) := by decide +kernel
theorem dX3_costBelow_5 : decode cX3_costBelow 5 = .ok (.iload_n 2, 1) := by decide +kernel
theorem dX3_costBelow_6 : decode cX3_costBelow 6 = .ok (.iload_n 3, 1) := by decide +kernel
theorem dX3_costBelow_7 : decode cX3_costBelow 7 = .ok (.invokevirtual 163, 3) := by decide +kernel
theorem dX3_costBelow_10 : decode cX3_costBelow 10 = .ok (.ifCond .ne 5, 3) := by decide +kernel
theorem dX3_costBelow_13 : decode cX3_costBelow 13 = .ok (.iconst 0, 1) := by decide +kernel
theorem dX3_costBelow_14 : decode cX3_costBelow 14 = .ok (.ireturn, 1) := by decide +kernel
theorem dX3_costBelow_15 : decode cX3_costBelow 15 = .ok (.aload_n 0, 1) := by decide +kernel
theorem dX3_costBelow_16 : decode cX3_costBelow 16 = .ok (.getfield 18, 3) := by decide +kernel
theorem dX3_costBelow_19 : decode cX3_costBelow 19 = .ok (.iload_n 1, 1) := by decide +kernel
theorem dX3_costBelow_20 : decode cX3_costBelow 20 = .ok (.iload_n 2, 1) := by decide +kernel
theorem dX3_costBelow_21 : decode cX3_costBelow 21 = .ok (.iload_n 3, 1) := by decide +kernel
theorem dX3_costBelow_22 : decode cX3_costBelow 22 = .ok (.invokevirtual 69, 3) := by decide +kernel
theorem dX3_costBelow_25 : decode cX3_costBelow 25 = .ok (.istore 6, 2) := by decide +kernel
theorem dX3_costBelow_27 : decode cX3_costBelow 27 = .ok (.iload 4, 2) := by decide +kernel
theorem dX3_costBelow_29 : decode cX3_costBelow 29 = .ok (.aload_n 0, 1) := by decide +kernel
theorem dX3_costBelow_30 : decode cX3_costBelow 30 = .ok (.getfield 35, 3) := by decide +kernel
theorem dX3_costBelow_33 : decode cX3_costBelow 33 = .ok (.getfield 143, 3) := by decide +kernel
theorem dX3_costBelow_36 : decode cX3_costBelow 36 = .ok (.iload 6, 2) := by decide +kernel
theorem dX3_costBelow_38 : decode cX3_costBelow 38 = .ok (.iaload, 1) := by decide +kernel
theorem dX3_costBelow_39 : decode cX3_costBelow 39 = .ok (.invokestatic 198, 3) := by decide +kernel
theorem dX3_costBelow_42 : decode cX3_costBelow 42 = .ok (.istore 7, 2) := by decide +kernel
theorem dX3_costBelow_44 : decode cX3_costBelow 44 = .ok (.aload_n 0, 1) := by decide +kernel
theorem dX3_costBelow_45 : decode cX3_costBelow 45 = .ok (.iload 6, 2) := by decide +kernel
theorem dX3_costBelow_47 : decode cX3_costBelow 47 = .ok (.iload 7, 2) := by decide +kernel
theorem dX3_costBelow_49 : decode cX3_costBelow 49 = .ok (.iload 5, 2) := by decide +kernel
theorem dX3_costBelow_51 : decode cX3_costBelow 51 = .ok (.invokevirtual 201, 3) := by decide +kernel
theorem dX3_costBelow_54 : decode cX3_costBelow 54 = .ok (.istore 8, 2) := by decide +kernel
theorem dX3_costBelow_56 : decode cX3_costBelow 56 = .ok (.aload_n 0, 1) := by decide +kernel
theorem dX3_costBelow_57 : decode cX3_costBelow 57 = .ok (.iload 6, 2) := by decide +kernel
theorem dX3_costBelow_59 : decode cX3_costBelow 59 = .ok (.iload 7, 2) := by decide +kernel
theorem dX3_costBelow_61 : decode cX3_costBelow 61 = .ok (.iload 5, 2) := by decide +kernel
theorem dX3_costBelow_63 : decode cX3_costBelow 63 = .ok (.invokevirtual 195, 3) := by decide +kernel
theorem dX3_costBelow_66 : decode cX3_costBelow 66 = .ok (.istore 9, 2) := by decide +kernel
theorem dX3_costBelow_68 : decode cX3_costBelow 68 = .ok (.iconst 0, 1) := by decide +kernel
theorem dX3_costBelow_69 : decode cX3_costBelow 69 = .ok (.istore 10, 2) := by decide +kernel
theorem dX3_costBelow_71 : decode cX3_costBelow 71 = .ok (.iload 10, 2) := by decide +kernel
theorem dX3_costBelow_73 : decode cX3_costBelow 73 = .ok (.iconst 4, 1) := by decide +kernel
theorem dX3_costBelow_74 : decode cX3_costBelow 74 = .ok (.if_icmp .ge 41, 3) := by decide +kernel
theorem dX3_costBelow_77 : decode cX3_costBelow 77 = .ok (.iload 8, 2) := by decide +kernel
theorem dX3_costBelow_79 : decode cX3_costBelow 79 = .ok (.aload_n 0, 1) := by decide +kernel
theorem dX3_costBelow_80 : decode cX3_costBelow 80 = .ok (.iload_n 1, 1) := by decide +kernel
theorem dX3_costBelow_81 : decode cX3_costBelow 81 = .ok (.iconst 1, 1) := by decide +kernel
theorem dX3_costBelow_82 : decode cX3_costBelow 82 = .ok (.isub, 1) := by decide +kernel
theorem dX3_costBelow_83 : decode cX3_costBelow 83 = .ok (.iconst 2, 1) := by decide +kernel
theorem dX3_costBelow_84 : decode cX3_costBelow 84 = .ok (.iload_n 2, 1) := by decide +kernel
theorem dX3_costBelow_85 : decode cX3_costBelow 85 = .ok (.imul, 1) := by decide +kernel
theorem dX3_costBelow_86 : decode cX3_costBelow 86 = .ok (.iload 10, 2) := by decide +kernel
theorem dX3_costBelow_88 : decode cX3_costBelow 88 = .ok (.iconst 1, 1) := by decide +kernel
theorem dX3_costBelow_89 : decode cX3_costBelow 89 = .ok (.iand, 1) := by decide +kernel
theorem dX3_costBelow_90 : decode cX3_costBelow 90 = .ok (.iadd, 1) := by decide +kernel
theorem dX3_costBelow_91 : decode cX3_costBelow 91 = .ok (.iconst 2, 1) := by decide +kernel
theorem dX3_costBelow_92 : decode cX3_costBelow 92 = .ok (.iload_n 3, 1) := by decide +kernel
theorem dX3_costBelow_93 : decode cX3_costBelow 93 = .ok (.imul, 1) := by decide +kernel
theorem dX3_costBelow_94 : decode cX3_costBelow 94 = .ok (.iload 10, 2) := by decide +kernel
theorem dX3_costBelow_96 : decode cX3_costBelow 96 = .ok (.iconst 1, 1) := by decide +kernel
theorem dX3_costBelow_97 : decode cX3_costBelow 97 = .ok (.ishr, 1) := by decide +kernel
theorem dX3_costBelow_98 : decode cX3_costBelow 98 = .ok (.iadd, 1) := by decide +kernel
theorem dX3_costBelow_99 : decode cX3_costBelow 99 = .ok (.iload 9, 2) := by decide +kernel
theorem dX3_costBelow_101 : decode cX3_costBelow 101 = .ok (.iload 5, 2) := by decide +kernel
theorem dX3_costBelow_103 : decode cX3_costBelow 103 = .ok (.invokevirtual 106, 3) := by decide +kernel
theorem dX3_costBelow_106 : decode cX3_costBelow 106 = .ok (.iadd, 1) := by decide +kernel
theorem dX3_costBelow_107 : decode cX3_costBelow 107 = .ok (.istore 8, 2) := by decide +kernel
theorem dX3_costBelow_109 : decode cX3_costBelow 109 = .ok (.iinc 10 1, 3) := by decide +kernel
theorem dX3_costBelow_112 : decode cX3_costBelow 112 = .ok (.goto (-41), 3) := by decide +kernel
theorem dX3_costBelow_115 : decode cX3_costBelow 115 = .ok (.iload 8, 2) := by decide +kernel
theorem dX3_costBelow_117 : decode cX3_costBelow 117 = .ok (.ireturn, 1) := by decide +kernel
theorem dX3_tellLeaf_0 : decode cX3_tellLeaf 0 = .ok (.iconst 0, 1) := by decide +kernel
theorem dX3_tellLeaf_1 : decode cX3_tellLeaf 1 = .ok (.istore 4, 2) := by decide +kernel
theorem dX3_tellLeaf_3 : decode cX3_tellLeaf 3 = .ok (.aload_n 0, 1) := by decide +kernel
theorem dX3_tellLeaf_4 : decode cX3_tellLeaf 4 = .ok (.getfield 18, 3) := by decide +kernel
theorem dX3_tellLeaf_7 : decode cX3_tellLeaf 7 = .ok (.getfield 103, 3) := by decide +kernel
theorem dX3_tellLeaf_10 : decode cX3_tellLeaf 10 = .ok (.iconst 1, 1) := by decide +kernel
theorem dX3_tellLeaf_11 : decode cX3_tellLeaf 11 = .ok (.isub, 1) := by decide +kernel
theorem dX3_tellLeaf_12 : decode cX3_tellLeaf 12 = .ok (.istore 5, 2) := by decide +kernel
theorem dX3_tellLeaf_14 : decode cX3_tellLeaf 14 = .ok (.iload 5, 2) := by decide +kernel
theorem dX3_tellLeaf_16 : decode cX3_tellLeaf 16 = .ok (.ifCond .lt 62, 3) := by decide +kernel
theorem dX3_tellLeaf_19 : decode cX3_tellLeaf 19 = .ok (.aload_n 0, 1) := by decide +kernel
theorem dX3_tellLeaf_20 : decode cX3_tellLeaf 20 = .ok (.getfield 18, 3) := by decide +kernel
theorem dX3_tellLeaf_23 : decode cX3_tellLeaf 23 = .ok (.iload 5, 2) := by decide +kernel
theorem dX3_tellLeaf_25 : decode cX3_tellLeaf 25 = .ok (.iload_n 1, 1) := by decide +kernel
theorem dX3_tellLeaf_26 : decode cX3_tellLeaf 26 = .ok (.iload 5, 2) := by decide +kernel
theorem dX3_tellLeaf_28 : decode cX3_tellLeaf 28 = .ok (.ishr, 1) := by decide +kernel
theorem dX3_tellLeaf_29 : decode cX3_tellLeaf 29 = .ok (.iload_n 2, 1) := by decide +kernel
theorem dX3_tellLeaf_30 : decode cX3_tellLeaf 30 = .ok (.iload 5, 2) := by decide +kernel
theorem dX3_tellLeaf_32 : decode cX3_tellLeaf 32 = .ok (.ishr, 1) := by decide +kernel
theorem dX3_tellLeaf_33 : decode cX3_tellLeaf 33 = .ok (.invokevirtual 69, 3) := by decide +kernel
theorem dX3_tellLeaf_36 : decode cX3_tellLeaf 36 = .ok (.istore 6, 2) := by decide +kernel
theorem dX3_tellLeaf_38 : decode cX3_tellLeaf 38 = .ok (.aload_n 0, 1) := by decide +kernel
theorem dX3_tellLeaf_39 : decode cX3_tellLeaf 39 = .ok (.iload 6, 2) := by decide +kernel
theorem dX3_tellLeaf_41 : decode cX3_tellLeaf 41 = .ok (.iload 4, 2) := by decide +kernel
theorem dX3_tellLeaf_43 : decode cX3_tellLeaf 43 = .ok (.aload_n 0, 1) := by decide +kernel
theorem dX3_tellLeaf_44 : decode cX3_tellLeaf 44 = .ok (.getfield 35, 3) := by decide +kernel
theorem dX3_tellLeaf_47 : decode cX3_tellLeaf 47 = .ok (.getfield 143, 3) := by decide +kernel
theorem dX3_tellLeaf_50 : decode cX3_tellLeaf 50 = .ok (.iload 6, 2) := by decide +kernel
theorem dX3_tellLeaf_52 : decode cX3_tellLeaf 52 = .ok (.iaload, 1) := by decide +kernel
theorem dX3_tellLeaf_53 : decode cX3_tellLeaf 53 = .ok (.invokestatic 198, 3) := by decide +kernel
theorem dX3_tellLeaf_56 : decode cX3_tellLeaf 56 = .ok (.iload_n 3, 1) := by decide +kernel
theorem dX3_tellLeaf_57 : decode cX3_tellLeaf 57 = .ok (.invokevirtual 204, 3) := by decide +kernel
theorem dX3_tellLeaf_60 : decode cX3_tellLeaf 60 = .ok (.aload_n 0, 1) := by decide +kernel
theorem dX3_tellLeaf_61 : decode cX3_tellLeaf 61 = .ok (.getfield 35, 3) := by decide +kernel
theorem dX3_tellLeaf_64 : decode cX3_tellLeaf 64 = .ok (.getfield 143, 3) := by decide +kernel
theorem dX3_tellLeaf_67 : decode cX3_tellLeaf 67 = .ok (.iload 6, 2) := by decide +kernel
theorem dX3_tellLeaf_69 : decode cX3_tellLeaf 69 = .ok (.iaload, 1) := by decide +kernel
theorem dX3_tellLeaf_70 : decode cX3_tellLeaf 70 = .ok (.istore 4, 2) := by decide +kernel
theorem dX3_tellLeaf_72 : decode cX3_tellLeaf 72 = .ok (.iinc 5 (-1), 3) := by decide +kernel
theorem dX3_tellLeaf_75 : decode cX3_tellLeaf 75 = .ok (.goto (-61), 3) := by decide +kernel
theorem dX3_tellLeaf_78 : decode cX3_tellLeaf 78 = .ok (.return_, 1) := by decide +kernel
theorem dX3_learnLeaf_0 : decode cX3_learnLeaf 0 = .ok (.aload_n 0, 1) := by decide +kernel
theorem dX3_learnLeaf_1 : decode cX3_learnLeaf 1 = .ok (.iload_n 1, 1) := by decide +kernel
theorem dX3_learnLeaf_2 : decode cX3_learnLeaf 2 = .ok (.iload_n 2, 1) := by decide +kernel
theorem dX3_learnLeaf_3 : decode cX3_learnLeaf 3 = .ok (.iload_n 3, 1) := by decide +kernel
theorem dX3_learnLeaf_4 : decode cX3_learnLeaf 4 = .ok (.iconst 0, 1) := by decide +kernel
theorem dX3_learnLeaf_5 : decode cX3_learnLeaf 5 = .ok (.invokevirtual 210, 3) := by decide +kernel
theorem dX3_learnLeaf_8 : decode cX3_learnLeaf 8 = .ok (.istore 4, 2) := by decide +kernel
theorem dX3_learnLeaf_10 : decode cX3_learnLeaf 10 = .ok (.iload 4, 2) := by decide +kernel
theorem dX3_learnLeaf_12 : decode cX3_learnLeaf 12 = .ok (.bipush (-2), 2) := by decide +kernel
theorem dX3_learnLeaf_14 : decode cX3_learnLeaf 14 = .ok (.if_icmp .ne 5, 3) := by decide +kernel
theorem dX3_learnLeaf_17 : decode cX3_learnLeaf 17 = .ok (.iconst 0, 1) := by decide +kernel
theorem dX3_learnLeaf_18 : decode cX3_learnLeaf 18 = .ok (.ireturn, 1) := by decide +kernel
theorem dX3_learnLeaf_19 : decode cX3_learnLeaf 19 = .ok (.aload_n 0, 1) := by decide +kernel
theorem dX3_learnLeaf_20 : decode cX3_learnLeaf 20 = .ok (.iload_n 1, 1) := by decide +kernel
theorem dX3_learnLeaf_21 : decode cX3_learnLeaf 21 = .ok (.iload_n 2, 1) := by decide +kernel
theorem dX3_learnLeaf_22 : decode cX3_learnLeaf 22 = .ok (.iload_n 3, 1) := by decide +kernel
theorem dX3_learnLeaf_23 : decode cX3_learnLeaf 23 = .ok (.iconst 1, 1) := by decide +kernel
theorem dX3_learnLeaf_24 : decode cX3_learnLeaf 24 = .ok (.invokevirtual 210, 3) := by decide +kernel
theorem dX3_learnLeaf_27 : decode cX3_learnLeaf 27 = .ok (.pop, 1) := by decide +kernel
theorem dX3_learnLeaf_28 : decode cX3_learnLeaf 28 = .ok (.aload_n 0, 1) := by decide +kernel
theorem dX3_learnLeaf_29 : decode cX3_learnLeaf 29 = .ok (.getfield 49, 3) := by decide +kernel
theorem dX3_learnLeaf_32 : decode cX3_learnLeaf 32 = .ok (.iload 4, 2) := by decide +kernel
theorem dX3_learnLeaf_34 : decode cX3_learnLeaf 34 = .ok (.invokevirtual 214, 3) := by decide +kernel
theorem dX3_learnLeaf_37 : decode cX3_learnLeaf 37 = .ok (.iconst 1, 1) := by decide +kernel
theorem dX3_learnLeaf_38 : decode cX3_learnLeaf 38 = .ok (.ireturn, 1) := by decide +kernel
def wp_X3_told (post : Int32 → Prop) (nl : Nat) (nn : Nat) (S : vSH) (T : vTT) (x1 : Int32) : Prop := ((x1 = 0 → (post S.1.1)) ∧ ((x1 = 1 → (post S.1.2.1)) ∧ ((x1 = 2 → (post S.1.2.2.2.1)) ∧ ((x1 = 3 → (post S.1.2.2.2.2)) ∧ ((x1 = 4 → (post T.2.2.2.1.2.2)) ∧ ((x1 = 5 → (post T.2.2.2.2.1.2.2)) ∧ ((x1 = 6 → (post T.2.1.2.2)) ∧ ((x1 = 7 → (post T.2.2.1.2.2)) ∧ ((¬ x1 = 0 ∧ ¬ x1 = 1 ∧ ¬ x1 = 2 ∧ ¬ x1 = 3 ∧ ¬ x1 = 4 ∧ ¬ x1 = 5 ∧ ¬ x1 = 6 ∧ ¬ x1 = 7) → (post (-1)))))))))))
abbrev rm_X3_told : Room := { frames := 0, cells := 0, slots := 0, locals := 0 }
set_option maxHeartbeats 4000000 in
set_option maxRecDepth 100000 in
theorem met_X3_told (l : Launch) (dC : Nat → ClassId) (dI : Nat → Nat → Nat) (cI cZ cJ cL : ClassId) (ad ra : Nat → Nat) (post : Int32 → Prop) (nl : Nat) (nn : Nat) (S : vSH) (T : vTT) (x1 : Int32) (hw : wp_X3_told post nl nn S T x1) : Met l yX3_told wsX3_told rm_X3_told (pcR (dC, dI) (tysA cI cZ cJ cL) (wTT cI cZ cJ nl nn ad ra S T) [.ref (ad 0), .int x1]) (vp_Si post) 0 0 (fun _ => False) := by
  refine Met.ofW (cc := cX3_told) (maxL := 2) (ret := (some .int)) (by decide) rfl ?_
  intro p e s m args below meth c s₁ Bd hml hv
  obtain ⟨hargs, hP, hK⟩ := hv
  have hx := Bd.exec
  have hb := Bd.bytes
  have hr := Bd.returns
  have hts := atoms_spec (ws := wsX3_told) Bd.pre
  have hT : ∀ w ∈ WALL, w.before args s = true := fun w h => hts w (List.mem_cons_of_mem _ h)
  have hown : s.vm.findClass RX3 = some m.cls := findClass_of_methodNamed Bd.named
  have hlocks := Bd.notSynchronized
  have hP : va_P (dC, dI) vwCl (wTT cI cZ cJ nl nn ad ra S T) s.heap := hP
  have hl := lv_entry ([.ref (ad 0), .int x1]) (n := 2) (Nat.le_of_ble_eq_true rfl)
  rw [show entryFrame m args 2 = F0 m 0 _ [] from by rw [hargs]; exact lg_entry_eq m ([.ref (ad 0), .int x1]) 2]
  generalize (lg_sl ([.ref (ad 0), .int x1]) ++ List.replicate (2 - (lg_sl ([.ref (ad 0), .int x1])).length) Slot.unset).toArray = ls at hl ⊢
  have hl : lv_has ls 2 [(0, .ref (ad 0)), (1, .int x1)] := hl
  generalize hH : s.heap = H at hP ⊢
  unfold wp_X3_told at hw
  refine lv_iload_n hx hb dX3_told_0 rfl (lv_at hl 1 rfl) ?_
  rcases Classical.em (x1 = 0) with c_1 | c_1
  · have hw := hw.1 c_1
    refine lv_tableIn (off := 47) (tgt := 48) hx hb dX3_told_1 (by rw [c_1]; decide) (by rw [c_1]; decide) (by rw [c_1]; rfl) (by decide) ?_
    refine lv_aload_n hx hb dX3_told_48 rfl (lv_at hl 0 rfl) ?_
    refine va_get (D := (dC, dI)) (ci := 3) (v := .ref (ad 1)) (C := RX3) (T := TX3) (N := 7) hx hb hT inX3 hown hK hP 0 rfl rfl 0 (by decide) (hT _ k_0) (fun _ h9 => h9) rfl dX3_told_49 ?_
    refine va_get (D := (dC, dI)) (ci := 1) (v := .int S.1.1) (C := RX1) (T := TX1) (N := 9) hx hb hT inX1 hown hK hP 1 rfl rfl 0 (by decide) (hT _ k_1) (fun _ h9 => h9) rfl dX3_told_52 ?_
    exact W.iret (v := S.1.1) hx hb hr (fun t ht hW => ⟨S.1.1, rfl, hw, ht.trans hH.symm⟩) (fun q h => by cases h) dX3_told_55
  · have hw := hw.2
    rcases Classical.em (x1 = 1) with c_2 | c_2
    · have hw := hw.1 c_2
      refine lv_tableIn (off := 55) (tgt := 56) hx hb dX3_told_1 (by rw [c_2]; decide) (by rw [c_2]; decide) (by rw [c_2]; rfl) (by decide) ?_
      refine lv_aload_n hx hb dX3_told_56 rfl (lv_at hl 0 rfl) ?_
      refine va_get (D := (dC, dI)) (ci := 3) (v := .ref (ad 1)) (C := RX3) (T := TX3) (N := 7) hx hb hT inX3 hown hK hP 0 rfl rfl 0 (by decide) (hT _ k_0) (fun _ h9 => h9) rfl dX3_told_57 ?_
      refine va_get (D := (dC, dI)) (ci := 1) (v := .int S.1.2.1) (C := RX1) (T := TX1) (N := 9) hx hb hT inX1 hown hK hP 1 rfl rfl 1 (by decide) (hT _ k_2) (fun _ h9 => h9) rfl dX3_told_60 ?_
      exact W.iret (v := S.1.2.1) hx hb hr (fun t ht hW => ⟨S.1.2.1, rfl, hw, ht.trans hH.symm⟩) (fun q h => by cases h) dX3_told_63
    · have hw := hw.2
      rcases Classical.em (x1 = 2) with c_3 | c_3
      · have hw := hw.1 c_3
        refine lv_tableIn (off := 63) (tgt := 64) hx hb dX3_told_1 (by rw [c_3]; decide) (by rw [c_3]; decide) (by rw [c_3]; rfl) (by decide) ?_
        refine lv_aload_n hx hb dX3_told_64 rfl (lv_at hl 0 rfl) ?_
        refine va_get (D := (dC, dI)) (ci := 3) (v := .ref (ad 1)) (C := RX3) (T := TX3) (N := 7) hx hb hT inX3 hown hK hP 0 rfl rfl 0 (by decide) (hT _ k_0) (fun _ h9 => h9) rfl dX3_told_65 ?_
        refine va_get (D := (dC, dI)) (ci := 1) (v := .int S.1.2.2.2.1) (C := RX1) (T := TX1) (N := 9) hx hb hT inX1 hown hK hP 1 rfl rfl 3 (by decide) (hT _ k_3) (fun _ h9 => h9) rfl dX3_told_68 ?_
        exact W.iret (v := S.1.2.2.2.1) hx hb hr (fun t ht hW => ⟨S.1.2.2.2.1, rfl, hw, ht.trans hH.symm⟩) (fun q h => by cases h) dX3_told_71
      · have hw := hw.2
        rcases Classical.em (x1 = 3) with c_4 | c_4
        · have hw := hw.1 c_4
          refine lv_tableIn (off := 71) (tgt := 72) hx hb dX3_told_1 (by rw [c_4]; decide) (by rw [c_4]; decide) (by rw [c_4]; rfl) (by decide) ?_
          refine lv_aload_n hx hb dX3_told_72 rfl (lv_at hl 0 rfl) ?_
          refine va_get (D := (dC, dI)) (ci := 3) (v := .ref (ad 1)) (C := RX3) (T := TX3) (N := 7) hx hb hT inX3 hown hK hP 0 rfl rfl 0 (by decide) (hT _ k_0) (fun _ h9 => h9) rfl dX3_told_73 ?_
          refine va_get (D := (dC, dI)) (ci := 1) (v := .int S.1.2.2.2.2) (C := RX1) (T := TX1) (N := 9) hx hb hT inX1 hown hK hP 1 rfl rfl 4 (by decide) (hT _ k_4) (fun _ h9 => h9) rfl dX3_told_76 ?_
          exact W.iret (v := S.1.2.2.2.2) hx hb hr (fun t ht hW => ⟨S.1.2.2.2.2, rfl, hw, ht.trans hH.symm⟩) (fun q h => by cases h) dX3_told_79
        · have hw := hw.2
          rcases Classical.em (x1 = 4) with c_5 | c_5
          · have hw := hw.1 c_5
            refine lv_tableIn (off := 79) (tgt := 80) hx hb dX3_told_1 (by rw [c_5]; decide) (by rw [c_5]; decide) (by rw [c_5]; rfl) (by decide) ?_
            refine lv_aload_n hx hb dX3_told_80 rfl (lv_at hl 0 rfl) ?_
            refine va_get (D := (dC, dI)) (ci := 3) (v := .ref (ad 16)) (C := RX3) (T := TX3) (N := 7) hx hb hT inX3 hown hK hP 0 rfl rfl 4 (by decide) (hT _ k_5) (fun _ h9 => h9) rfl dX3_told_81 ?_
            refine va_get (D := (dC, dI)) (ci := 0) (v := .int T.2.2.2.1.2.2) (C := RX0) (T := TX0) (N := 3) hx hb hT inX0 hown hK hP 16 rfl rfl 2 (by decide) (hT _ k_6) (fun _ h9 => h9) rfl dX3_told_84 ?_
            exact W.iret (v := T.2.2.2.1.2.2) hx hb hr (fun t ht hW => ⟨T.2.2.2.1.2.2, rfl, hw, ht.trans hH.symm⟩) (fun q h => by cases h) dX3_told_87
          · have hw := hw.2
            rcases Classical.em (x1 = 5) with c_6 | c_6
            · have hw := hw.1 c_6
              refine lv_tableIn (off := 87) (tgt := 88) hx hb dX3_told_1 (by rw [c_6]; decide) (by rw [c_6]; decide) (by rw [c_6]; rfl) (by decide) ?_
              refine lv_aload_n hx hb dX3_told_88 rfl (lv_at hl 0 rfl) ?_
              refine va_get (D := (dC, dI)) (ci := 3) (v := .ref (ad 18)) (C := RX3) (T := TX3) (N := 7) hx hb hT inX3 hown hK hP 0 rfl rfl 5 (by decide) (hT _ k_7) (fun _ h9 => h9) rfl dX3_told_89 ?_
              refine va_get (D := (dC, dI)) (ci := 0) (v := .int T.2.2.2.2.1.2.2) (C := RX0) (T := TX0) (N := 3) hx hb hT inX0 hown hK hP 18 rfl rfl 2 (by decide) (hT _ k_6) (fun _ h9 => h9) rfl dX3_told_92 ?_
              exact W.iret (v := T.2.2.2.2.1.2.2) hx hb hr (fun t ht hW => ⟨T.2.2.2.2.1.2.2, rfl, hw, ht.trans hH.symm⟩) (fun q h => by cases h) dX3_told_95
            · have hw := hw.2
              rcases Classical.em (x1 = 6) with c_7 | c_7
              · have hw := hw.1 c_7
                refine lv_tableIn (off := 95) (tgt := 96) hx hb dX3_told_1 (by rw [c_7]; decide) (by rw [c_7]; decide) (by rw [c_7]; rfl) (by decide) ?_
                refine lv_aload_n hx hb dX3_told_96 rfl (lv_at hl 0 rfl) ?_
                refine va_get (D := (dC, dI)) (ci := 3) (v := .ref (ad 10)) (C := RX3) (T := TX3) (N := 7) hx hb hT inX3 hown hK hP 0 rfl rfl 2 (by decide) (hT _ k_8) (fun _ h9 => h9) rfl dX3_told_97 ?_
                refine va_get (D := (dC, dI)) (ci := 2) (v := .int T.2.1.2.2) (C := RX2) (T := TX2) (N := 3) hx hb hT inX2 hown hK hP 10 rfl rfl 2 (by decide) (hT _ k_9) (fun _ h9 => h9) rfl dX3_told_100 ?_
                exact W.iret (v := T.2.1.2.2) hx hb hr (fun t ht hW => ⟨T.2.1.2.2, rfl, hw, ht.trans hH.symm⟩) (fun q h => by cases h) dX3_told_103
              · have hw := hw.2
                rcases Classical.em (x1 = 7) with c_8 | c_8
                · have hw := hw.1 c_8
                  refine lv_tableIn (off := 103) (tgt := 104) hx hb dX3_told_1 (by rw [c_8]; decide) (by rw [c_8]; decide) (by rw [c_8]; rfl) (by decide) ?_
                  refine lv_aload_n hx hb dX3_told_104 rfl (lv_at hl 0 rfl) ?_
                  refine va_get (D := (dC, dI)) (ci := 3) (v := .ref (ad 13)) (C := RX3) (T := TX3) (N := 7) hx hb hT inX3 hown hK hP 0 rfl rfl 3 (by decide) (hT _ k_10) (fun _ h9 => h9) rfl dX3_told_105 ?_
                  refine va_get (D := (dC, dI)) (ci := 2) (v := .int T.2.2.1.2.2) (C := RX2) (T := TX2) (N := 3) hx hb hT inX2 hown hK hP 13 rfl rfl 2 (by decide) (hT _ k_9) (fun _ h9 => h9) rfl dX3_told_108 ?_
                  exact W.iret (v := T.2.2.1.2.2) hx hb hr (fun t ht hW => ⟨T.2.2.1.2.2, rfl, hw, ht.trans hH.symm⟩) (fun q h => by cases h) dX3_told_111
                · have hw := hw.2
                  have hw := hw ⟨c_1, c_2, c_3, c_4, c_5, c_6, c_7, c_8⟩
                  have zc_1 := lv_neT c_1 (show ((0 : Int32)).toInt = 0 by decide)
                  have zc_2 := lv_neT c_2 (show ((1 : Int32)).toInt = 1 by decide)
                  have zc_3 := lv_neT c_3 (show ((2 : Int32)).toInt = 2 by decide)
                  have zc_4 := lv_neT c_4 (show ((3 : Int32)).toInt = 3 by decide)
                  have zc_5 := lv_neT c_5 (show ((4 : Int32)).toInt = 4 by decide)
                  have zc_6 := lv_neT c_6 (show ((5 : Int32)).toInt = 5 by decide)
                  have zc_7 := lv_neT c_7 (show ((6 : Int32)).toInt = 6 by decide)
                  have zc_8 := lv_neT c_8 (show ((7 : Int32)).toInt = 7 by decide)
                  refine lv_tableOut (tgt := 112) hx hb dX3_told_1 (by omega) (by decide) ?_
                  refine lv_iconst (v := (-1)) hx hb dX3_told_112 (by decide) ?_
                  exact W.iret (v := (-1)) hx hb hr (fun t ht hW => ⟨(-1), rfl, hw, ht.trans hH.symm⟩) (fun q h => by cases h) dX3_told_113
def wp_X3_nearest (post : Int32 → Prop)   (x0 : Int64) (x2 : Int32) (x3 : Int32) : Prop := ((0 ≤ lg_cmp x0 x2.toInt64 → (((lg_cmp x0 x3.toInt64 ≤ 0 → (post x0.toInt32)) ∧ (¬ lg_cmp x0 x3.toInt64 ≤ 0 → (post x3))))) ∧ (¬ 0 ≤ lg_cmp x0 x2.toInt64 → (post x2)))
abbrev rm_X3_nearest : Room := { frames := 0, cells := 0, slots := 0, locals := 0 }
set_option maxHeartbeats 4000000 in
set_option maxRecDepth 100000 in
theorem met_X3_nearest (l : Launch) (dC : Nat → ClassId) (dI : Nat → Nat → Nat) (cI cZ cJ cL : ClassId)  (post : Int32 → Prop)   (x0 : Int64) (x2 : Int32) (x3 : Int32) (hw : wp_X3_nearest post   x0 x2 x3) : Met l yX3_nearest wsX3_nearest rm_X3_nearest (pcR (dC, dI) (tysA cI cZ cJ cL) [] [.long x0, .int x2, .int x3]) (vp_Si post) 0 0 (fun _ => False) := by
  refine Met.ofW (cc := cX3_nearest) (maxL := 4) (ret := (some .int)) (by decide) rfl ?_
  intro p e s m args below meth c s₁ Bd hml hv
  obtain ⟨hargs, hP, hK⟩ := hv
  have hx := Bd.exec
  have hb := Bd.bytes
  have hr := Bd.returns
  have hts := atoms_spec (ws := wsX3_nearest) Bd.pre
  have hT : ∀ w ∈ WALL, w.before args s = true := fun w h => hts w (List.mem_cons_of_mem _ h)
  have hown : s.vm.findClass RX3 = some m.cls := findClass_of_methodNamed Bd.named
  have hlocks := Bd.notSynchronized
  have hP : va_P (dC, dI) vwCl [] s.heap := hP
  have hl := lv_entry ([.long x0, .int x2, .int x3]) (n := 4) (Nat.le_of_ble_eq_true rfl)
  rw [show entryFrame m args 4 = F0 m 0 _ [] from by rw [hargs]; exact lg_entry_eq m ([.long x0, .int x2, .int x3]) 4]
  generalize (lg_sl ([.long x0, .int x2, .int x3]) ++ List.replicate (4 - (lg_sl ([.long x0, .int x2, .int x3])).length) Slot.unset).toArray = ls at hl ⊢
  have hl : lv_has ls 4 [(0, .long x0), (2, .int x2), (3, .int x3)] := hl
  generalize hH : s.heap = H at hP ⊢
  unfold wp_X3_nearest at hw
  refine lv_lload_n hx hb dX3_nearest_0 rfl (lv_at hl 0 rfl) ?_
  refine lv_iload_n hx hb dX3_nearest_1 rfl (lv_at hl 1 rfl) ?_
  refine lv_i2l hx hb dX3_nearest_2 rfl ?_
  refine W.lcmp hx hb dX3_nearest_3 ?_
  refine lv_if_ge (tgt := 11) hx hb dX3_nearest_4 (by decide) (fun c_1 => ?_) (fun c_1 => ?_)
  · have hw := hw.1 c_1
    refine lv_lload_n hx hb dX3_nearest_11 rfl (lv_at hl 0 rfl) ?_
    refine lv_iload_n hx hb dX3_nearest_12 rfl (lv_at hl 2 rfl) ?_
    refine lv_i2l hx hb dX3_nearest_13 rfl ?_
    refine W.lcmp hx hb dX3_nearest_14 ?_
    refine lv_if_le (tgt := 22) hx hb dX3_nearest_15 (by decide) (fun c_2 => ?_) (fun c_2 => ?_)
    · have hw := hw.1 c_2
      refine lv_lload_n hx hb dX3_nearest_22 rfl (lv_at hl 0 rfl) ?_
      refine lv_l2i hx hb dX3_nearest_23 rfl ?_
      exact W.iret (v := x0.toInt32) hx hb hr (fun t ht hW => ⟨x0.toInt32, rfl, hw, ht.trans hH.symm⟩) (fun q h => by cases h) dX3_nearest_24
    · have hw := hw.2 c_2
      refine lv_iload_n hx hb dX3_nearest_18 rfl (lv_at hl 2 rfl) ?_
      refine lv_goto (tgt := 24) hx hb dX3_nearest_19 (by decide) ?_
      exact W.iret (v := x3) hx hb hr (fun t ht hW => ⟨x3, rfl, hw, ht.trans hH.symm⟩) (fun q h => by cases h) dX3_nearest_24
  · have hw := hw.2 c_1
    refine lv_iload_n hx hb dX3_nearest_7 rfl (lv_at hl 1 rfl) ?_
    refine lv_goto (tgt := 24) hx hb dX3_nearest_8 (by decide) ?_
    exact W.iret (v := x2) hx hb hr (fun t ht hW => ⟨x2, rfl, hw, ht.trans hH.symm⟩) (fun q h => by cases h) dX3_nearest_24
def wp_X3_hasBits (post : Int32 → Prop) (nl : Nat) (nn : Nat) (S : vSH) (T : vTT) (x1 : Int32) (x2 : Int32) (x3 : Int32) : Prop := ((x3 ≤ x2 → (post 0)) ∧ (¬ x3 ≤ x2 → (vp_in x1 nn ∧ ((((T.2.1.2.1 x1.toNatClampNeg) = 0 → (post 1)) ∧ (¬ (T.2.1.2.1 x1.toNatClampNeg) = 0 → (post 0)))))))
abbrev rm_X3_hasBits : Room := { frames := 0, cells := 0, slots := 0, locals := 0 }
set_option maxHeartbeats 4000000 in
set_option maxRecDepth 100000 in
theorem met_X3_hasBits (l : Launch) (dC : Nat → ClassId) (dI : Nat → Nat → Nat) (cI cZ cJ cL : ClassId) (ad ra : Nat → Nat) (post : Int32 → Prop) (nl : Nat) (nn : Nat) (S : vSH) (T : vTT) (x1 : Int32) (x2 : Int32) (x3 : Int32) (hw : wp_X3_hasBits post nl nn S T x1 x2 x3) : Met l yX3_hasBits wsX3_hasBits rm_X3_hasBits (pcR (dC, dI) (tysA cI cZ cJ cL) (wTT cI cZ cJ nl nn ad ra S T) [.ref (ad 0), .int x1, .int x2, .int x3]) (vp_Si post) 0 0 (fun _ => False) := by
  refine Met.ofW (cc := cX3_hasBits) (maxL := 4) (ret := (some .boolean)) (by decide) rfl ?_
  intro p e s m args below meth c s₁ Bd hml hv
  obtain ⟨hargs, hP, hK⟩ := hv
  have hx := Bd.exec
  have hb := Bd.bytes
  have hr := Bd.returns
  have hts := atoms_spec (ws := wsX3_hasBits) Bd.pre
  have hT : ∀ w ∈ WALL, w.before args s = true := fun w h => hts w (List.mem_cons_of_mem _ h)
  have hown : s.vm.findClass RX3 = some m.cls := findClass_of_methodNamed Bd.named
  have hlocks := Bd.notSynchronized
  have hP : va_P (dC, dI) vwCl (wTT cI cZ cJ nl nn ad ra S T) s.heap := hP
  have hl := lv_entry ([.ref (ad 0), .int x1, .int x2, .int x3]) (n := 4) (Nat.le_of_ble_eq_true rfl)
  rw [show entryFrame m args 4 = F0 m 0 _ [] from by rw [hargs]; exact lg_entry_eq m ([.ref (ad 0), .int x1, .int x2, .int x3]) 4]
  generalize (lg_sl ([.ref (ad 0), .int x1, .int x2, .int x3]) ++ List.replicate (4 - (lg_sl ([.ref (ad 0), .int x1, .int x2, .int x3])).length) Slot.unset).toArray = ls at hl ⊢
  have hl : lv_has ls 4 [(0, .ref (ad 0)), (1, .int x1), (2, .int x2), (3, .int x3)] := hl
  generalize hH : s.heap = H at hP ⊢
  unfold wp_X3_hasBits at hw
  refine lv_iload_n hx hb dX3_hasBits_0 rfl (lv_at hl 2 rfl) ?_
  refine lv_iload_n hx hb dX3_hasBits_1 rfl (lv_at hl 3 rfl) ?_
  refine lv_icmp_ge (tgt := 21) hx hb dX3_hasBits_2 (by decide) (fun c_1 => ?_) (fun c_1 => ?_)
  · have hw := hw.1 c_1
    refine lv_iconst (v := 0) hx hb dX3_hasBits_21 (by decide) ?_
    exact W.zret (v := 0) (ty := .boolean) hx hb hr rfl (fun t ht hW => ⟨0, rfl, hw, ht.trans hH.symm⟩) (fun q h => by cases h) dX3_hasBits_22
  · have hw := hw.2 c_1
    refine lv_aload_n hx hb dX3_hasBits_5 rfl (lv_at hl 0 rfl) ?_
    refine va_get (D := (dC, dI)) (ci := 3) (v := .ref (ad 10)) (C := RX3) (T := TX3) (N := 7) hx hb hT inX3 hown hK hP 0 rfl rfl 2 (by decide) (hT _ k_8) (fun _ h9 => h9) rfl dX3_hasBits_6 ?_
    refine va_get (D := (dC, dI)) (ci := 2) (v := .ref (ad 12)) (C := RX2) (T := TX2) (N := 3) hx hb hT inX2 hown hK hP 10 rfl rfl 1 (by decide) (hT _ k_18) (fun _ h9 => h9) rfl dX3_hasBits_9 ?_
    refine lv_iload_n hx hb dX3_hasBits_12 rfl (lv_at hl 1 rfl) ?_
    obtain ⟨h_2, hw⟩ := hw
    refine va_zald hx hb hK hP 12 1 rfl rfl h_2 dX3_hasBits_13 ?_
    refine lv_if_ne (tgt := 21) hx hb dX3_hasBits_14 (by decide) (fun c_3 => ?_) (fun c_3 => ?_)
    · have hw := hw.2 c_3
      refine lv_iconst (v := 0) hx hb dX3_hasBits_21 (by decide) ?_
      exact W.zret (v := 0) (ty := .boolean) hx hb hr rfl (fun t ht hW => ⟨0, rfl, hw, ht.trans hH.symm⟩) (fun q h => by cases h) dX3_hasBits_22
    · have hw := hw.1 c_3
      refine lv_iconst (v := 1) hx hb dX3_hasBits_17 (by decide) ?_
      refine lv_goto (tgt := 22) hx hb dX3_hasBits_18 (by decide) ?_
      exact W.zret (v := 1) (ty := .boolean) hx hb hr rfl (fun t ht hW => ⟨1, rfl, hw, ht.trans hH.symm⟩) (fun q h => by cases h) dX3_hasBits_22
def wp_X3_reset (post : vTT → Prop) (nl : Nat) (nn : Nat) (S : vSH) (T : vTT)  : Prop := wp_X2_forget (fun D_1 => wp_X2_forget (fun D_2 => wp_X0_empty (fun B_3 => wp_X0_empty (fun B_4 => post (T.1, D_1, D_2, B_3, B_4, 0))  T.2.2.2.2.1 )  T.2.2.2.1 ) nn T.2.2.1 ) nn T.2.1 
abbrev rm_X3_reset : Room := { frames := 1, cells := 0, slots := 0, locals := 21 }
set_option maxHeartbeats 4000000 in
set_option maxRecDepth 100000 in
theorem met_X3_reset (l : Launch) (dC : Nat → ClassId) (dI : Nat → Nat → Nat) (cI cZ cJ cL : ClassId) (ad ra : Nat → Nat) (sz : Nat) (post : vTT → Prop) (nl : Nat) (nn : Nat) (S : vSH) (T : vTT)  (hw : wp_X3_reset post nl nn S T ) : Met l yX3_reset wsX3_reset rm_X3_reset (pcW (dC, dI) (tysA cI cZ cJ cL) (wTT cI cZ cJ nl nn ad ra S T) sz [.ref (ad 0)]) (va_Qv post (fun u t => qB (dC, dI) (tysA cI cZ cJ cL) (va_A (wTT cI cZ cJ nl nn ad ra S T) sz) (wTT cI cZ cJ nl nn ad ra S u) t) (va_A (wTT cI cZ cJ nl nn ad ra S T) sz)) 0 0 (va_A (wTT cI cZ cJ nl nn ad ra S T) sz) := by
  refine Met.ofW (cc := cX3_reset) (maxL := 1) (ret := none) (by decide) rfl ?_
  intro p e s m args below meth c s₁ Bd hml hv
  obtain ⟨hargs, hsz, hP, hK, hD0⟩ := hv
  have hx := Bd.exec
  have hb := Bd.bytes
  have hr := Bd.returns
  have hts := atoms_spec (ws := wsX3_reset) Bd.pre
  have hT : ∀ w ∈ WALL, w.before args s = true := fun w h => hts w (List.mem_cons_of_mem _ h)
  have hown : s.vm.findClass RX3 = some m.cls := findClass_of_methodNamed Bd.named
  have hlocks := Bd.notSynchronized
  subst hsz
  have hD := hD0.self (sz := s.heap.size)
  generalize hAe : va_A (wTT cI cZ cJ nl nn ad ra S T) s.heap.size = A at hD ⊢
  have hA : ∀ q : Nat, s.heap.size ≤ q → A q := fun q h => by rw [← hAe]; exact Or.inr h
  have hS : va_S A s.heap s.heap [] := va_S.rf
  have hP : va_P (dC, dI) vwCl (wTT cI cZ cJ nl nn ad ra S T) s.heap := hP
  have hl := lv_entry ([.ref (ad 0)]) (n := 1) (Nat.le_of_ble_eq_true rfl)
  rw [show entryFrame m args 1 = F0 m 0 _ [] from by rw [hargs]; exact lg_entry_eq m ([.ref (ad 0)]) 1]
  generalize (lg_sl ([.ref (ad 0)]) ++ List.replicate (1 - (lg_sl ([.ref (ad 0)])).length) Slot.unset).toArray = ls at hl ⊢
  have hl : lv_has ls 1 [(0, .ref (ad 0))] := hl
  obtain ⟨H, hH⟩ : ∃ z : Heap, z = s.heap := ⟨_, rfl⟩
  obtain ⟨locs, hlocs⟩ : ∃ z : List Loc, z = [] := ⟨_, rfl⟩
  rw [show W p l e (headSpec wsX3_reset rm_X3_reset).room s m args below meth c s.heap [] 0 0 = W p l e (headSpec wsX3_reset rm_X3_reset).room s m args below meth c H locs 0 0 from by rw [hH, hlocs]]
  have hP : va_P (dC, dI) vwCl (wTT cI cZ cJ nl nn ad ra S T) H := by rw [hH]; exact hP
  have hS : va_S A s.heap H locs := by rw [hH, hlocs]; exact hS
  unfold wp_X3_reset at hw
  refine lv_aload_n hx hb dX3_reset_0 rfl (lv_at hl 0 rfl) ?_
  refine va_get (D := (dC, dI)) (ci := 3) (v := .ref (ad 10)) (C := RX3) (T := TX3) (N := 7) hx hb hT inX3 hown hK hP 0 rfl rfl 2 (by decide) (hT _ k_8) (fun _ h9 => h9) rfl dX3_reset_1 ?_
  have hPc := hP.sub (ws' := wSD cI cZ nn (ad 10) (ad 11) (ad 12) T.2.1) [10, 11, 12] rfl
  have hDc := hD.sub (ws' := wSD cI cZ nn (ad 10) (ad 11) (ad 12) T.2.1) [10, 11, 12] (by decide) rfl
  have hFc := va_free (wc := wSD cI cZ nn (ad 10) (ad 11) (ad 12) T.2.1) hD hS hA [10, 11, 12] rfl
  refine va_callv (va_runV (As := []) (rest := []) ⟨hx, hb, hml, hown, hT⟩ (met_X2_forget l dC dI cI cZ cJ cL (ad 10) (ad 11) (ad 12) H.size _ nn T.2.1  hw) (cwV 0 hT (gV k_68 k_70 k_71 k_72 k_69) rfl rfl rfl (by decide +kernel) ⟨(Nat.le_of_ble_eq_true rfl), (Nat.le_of_ble_eq_true rfl)⟩) ⟨bl_W, va_recv hK hPc (ci := 2) (q0 := 0) rfl rfl, fun U hU hW => ⟨rfl, by rw [hU], by rw [hU]; exact hPc, va_K.moved hW.alike hK, hDc.weaken (fun _ _ _ _ => trivial)⟩⟩ rfl rfl hl.1 rfl (lv_room (Nat.le_of_ble_eq_true rfl)) dX3_reset_4 ⟨Nat.le_of_ble_eq_true rfl, Nat.le_of_ble_eq_true rfl⟩) hS (fun q _ h => hFc q h) hFc (fun D_1 t H1 locs ht hvm hw hB hz1 hk1 hS => ?_)
  obtain ⟨hP1, -, hD1⟩ := hB
  try dsimp only at hw
  rw [ht] at hP1
  obtain ⟨hP, hD⟩ := va_join (wr := [(ad 0, .inr (3, [.ref (ad 1), .ref (ad 9), .ref (ad 10), .ref (ad 13), .ref (ad 16), .ref (ad 18), .int T.2.2.2.2.2])), (ad 1, .inr (1, [.int S.1.1, .int S.1.2.1, .int S.1.2.2.1, .int S.1.2.2.2.1, .int S.1.2.2.2.2, .ref (ad 2), .ref (ad 3), .ref (ad 4), .ref (ad 5)])), (ad 2, .inl (cI, 6, .inl S.2.1.1)), (ad 3, .inl (cI, 6, .inl S.2.1.2.1)), (ad 4, .inl (cI, 6, .inl S.2.1.2.2)), (ad 5, .inl (cJ, 3, .inr (.inr (.inr (.inr (fun i => if i < 3 then some (ra i) else none)))))), (ra 0, .inl (cI, nl, .inl (S.2.2 0))), (ra 1, .inl (cI, nl, .inl (S.2.2 1))), (ra 2, .inl (cI, nl, .inl (S.2.2 2))), (ad 9, .inl (cI, nn, .inl T.1)), (ad 13, .inr (2, [.ref (ad 14), .ref (ad 15), .int T.2.2.1.2.2])), (ad 14, .inl (cI, nn, .inl T.2.2.1.1)), (ad 15, .inl (cZ, nn, .inl T.2.2.1.2.1)), (ad 16, .inr (0, [.ref (ad 17), .int T.2.2.2.1.2.1, .int T.2.2.2.1.2.2])), (ad 17, .inl (cI, 1250, .inl T.2.2.2.1.1)), (ad 18, .inr (0, [.ref (ad 19), .int T.2.2.2.2.1.2.1, .int T.2.2.2.2.1.2.2])), (ad 19, .inl (cI, 1250, .inl T.2.2.2.2.1.1))]) (w1 := wSD cI cZ nn (ad 10) (ad 11) (ad 12) D_1) hP hD [10, 11, 12] [0, 1, 2, 3, 4, 5, 6, 7, 8, 9, 13, 14, 15, 16, 17, 18, 19] rfl rfl (by decide) (by decide) hk1 hFc hP1 hD1
  generalize H1 = H at hP hS ⊢
  have hP := hP.sub (ws' := wTT cI cZ cJ nl nn ad ra S (T.1, D_1, T.2.2.1, T.2.2.2.1, T.2.2.2.2.1, T.2.2.2.2.2)) [0, 1, 2, 3, 4, 5, 6, 7, 8, 9, 17, 18, 19, 10, 11, 12, 13, 14, 15, 16] rfl
  have hD := hD.sub (ws' := wTT cI cZ cJ nl nn ad ra S (T.1, D_1, T.2.2.1, T.2.2.2.1, T.2.2.2.2.1, T.2.2.2.2.2)) [0, 1, 2, 3, 4, 5, 6, 7, 8, 9, 17, 18, 19, 10, 11, 12, 13, 14, 15, 16] (by decide) rfl
  refine lv_aload_n hx hb dX3_reset_7 rfl (lv_at hl 0 rfl) ?_
  refine va_get (D := (dC, dI)) (ci := 3) (v := .ref (ad 13)) (C := RX3) (T := TX3) (N := 7) hx hb hT inX3 hown hK hP 0 rfl rfl 3 (by decide) (hT _ k_10) (fun _ h9 => h9) rfl dX3_reset_8 ?_
  have hPc := hP.sub (ws' := wSD cI cZ nn (ad 13) (ad 14) (ad 15) T.2.2.1) [13, 14, 15] rfl
  have hDc := hD.sub (ws' := wSD cI cZ nn (ad 13) (ad 14) (ad 15) T.2.2.1) [13, 14, 15] (by decide) rfl
  have hFc := va_free (wc := wSD cI cZ nn (ad 13) (ad 14) (ad 15) T.2.2.1) hD hS hA [13, 14, 15] rfl
  refine va_callv (va_runV (As := []) (rest := []) ⟨hx, hb, hml, hown, hT⟩ (met_X2_forget l dC dI cI cZ cJ cL (ad 13) (ad 14) (ad 15) H.size _ nn T.2.2.1  hw) (cwV 0 hT (gV k_68 k_70 k_71 k_72 k_69) rfl rfl rfl (by decide +kernel) ⟨(Nat.le_of_ble_eq_true rfl), (Nat.le_of_ble_eq_true rfl)⟩) ⟨bl_W, va_recv hK hPc (ci := 2) (q0 := 0) rfl rfl, fun U hU hW => ⟨rfl, by rw [hU], by rw [hU]; exact hPc, va_K.moved hW.alike hK, hDc.weaken (fun _ _ _ _ => trivial)⟩⟩ rfl rfl hl.1 rfl (lv_room (Nat.le_of_ble_eq_true rfl)) dX3_reset_11 ⟨Nat.le_of_ble_eq_true rfl, Nat.le_of_ble_eq_true rfl⟩) hS (fun q _ h => hFc q h) hFc (fun D_2 t H1 locs ht hvm hw hB hz1 hk1 hS => ?_)
  obtain ⟨hP1, -, hD1⟩ := hB
  try dsimp only at hw
  rw [ht] at hP1
  obtain ⟨hP, hD⟩ := va_join (wr := [(ad 0, .inr (3, [.ref (ad 1), .ref (ad 9), .ref (ad 10), .ref (ad 13), .ref (ad 16), .ref (ad 18), .int T.2.2.2.2.2])), (ad 1, .inr (1, [.int S.1.1, .int S.1.2.1, .int S.1.2.2.1, .int S.1.2.2.2.1, .int S.1.2.2.2.2, .ref (ad 2), .ref (ad 3), .ref (ad 4), .ref (ad 5)])), (ad 2, .inl (cI, 6, .inl S.2.1.1)), (ad 3, .inl (cI, 6, .inl S.2.1.2.1)), (ad 4, .inl (cI, 6, .inl S.2.1.2.2)), (ad 5, .inl (cJ, 3, .inr (.inr (.inr (.inr (fun i => if i < 3 then some (ra i) else none)))))), (ra 0, .inl (cI, nl, .inl (S.2.2 0))), (ra 1, .inl (cI, nl, .inl (S.2.2 1))), (ra 2, .inl (cI, nl, .inl (S.2.2 2))), (ad 9, .inl (cI, nn, .inl T.1)), (ad 10, .inr (2, [.ref (ad 11), .ref (ad 12), .int D_1.2.2])), (ad 11, .inl (cI, nn, .inl D_1.1)), (ad 12, .inl (cZ, nn, .inl D_1.2.1)), (ad 16, .inr (0, [.ref (ad 17), .int T.2.2.2.1.2.1, .int T.2.2.2.1.2.2])), (ad 17, .inl (cI, 1250, .inl T.2.2.2.1.1)), (ad 18, .inr (0, [.ref (ad 19), .int T.2.2.2.2.1.2.1, .int T.2.2.2.2.1.2.2])), (ad 19, .inl (cI, 1250, .inl T.2.2.2.2.1.1))]) (w1 := wSD cI cZ nn (ad 13) (ad 14) (ad 15) D_2) hP hD [13, 14, 15] [0, 1, 2, 3, 4, 5, 6, 7, 8, 9, 10, 11, 12, 16, 17, 18, 19] rfl rfl (by decide) (by decide) hk1 hFc hP1 hD1
  generalize H1 = H at hP hS ⊢
  have hP := hP.sub (ws' := wTT cI cZ cJ nl nn ad ra S (T.1, D_1, D_2, T.2.2.2.1, T.2.2.2.2.1, T.2.2.2.2.2)) [0, 1, 2, 3, 4, 5, 6, 7, 8, 9, 10, 11, 12, 17, 18, 19, 13, 14, 15, 16] rfl
  have hD := hD.sub (ws' := wTT cI cZ cJ nl nn ad ra S (T.1, D_1, D_2, T.2.2.2.1, T.2.2.2.2.1, T.2.2.2.2.2)) [0, 1, 2, 3, 4, 5, 6, 7, 8, 9, 10, 11, 12, 17, 18, 19, 13, 14, 15, 16] (by decide) rfl
  refine lv_aload_n hx hb dX3_reset_14 rfl (lv_at hl 0 rfl) ?_
  refine va_get (D := (dC, dI)) (ci := 3) (v := .ref (ad 16)) (C := RX3) (T := TX3) (N := 7) hx hb hT inX3 hown hK hP 0 rfl rfl 4 (by decide) (hT _ k_5) (fun _ h9 => h9) rfl dX3_reset_15 ?_
  have hPc := hP.sub (ws' := wBR cI (ad 16) (ad 17) T.2.2.2.1) [16, 17] rfl
  have hDc := hD.sub (ws' := wBR cI (ad 16) (ad 17) T.2.2.2.1) [16, 17] (by decide) rfl
  have hFc := va_free (wc := wBR cI (ad 16) (ad 17) T.2.2.2.1) hD hS hA [16, 17] rfl
  refine va_callv (va_runV (As := []) (rest := []) ⟨hx, hb, hml, hown, hT⟩ (met_X0_empty l dC dI cI cZ cJ cL (ad 16) (ad 17) H.size _  T.2.2.2.1  hw) (cwV 0 hT (gV k_73 k_75 k_76 k_77 k_74) rfl rfl rfl (by decide +kernel) ⟨(Nat.le_of_ble_eq_true rfl), (Nat.le_of_ble_eq_true rfl)⟩) ⟨bl_W, va_recv hK hPc (ci := 0) (q0 := 0) rfl rfl, fun U hU hW => ⟨rfl, by rw [hU], by rw [hU]; exact hPc, va_K.moved hW.alike hK, hDc.weaken (fun _ _ _ _ => trivial)⟩⟩ rfl rfl hl.1 rfl (lv_room (Nat.le_of_ble_eq_true rfl)) dX3_reset_18 ⟨Nat.le_of_ble_eq_true rfl, Nat.le_of_ble_eq_true rfl⟩) hS (fun q _ h => hFc q h) hFc (fun B_3 t H1 locs ht hvm hw hB hz1 hk1 hS => ?_)
  obtain ⟨hP1, -, hD1⟩ := hB
  try dsimp only at hw
  rw [ht] at hP1
  obtain ⟨hP, hD⟩ := va_join (wr := [(ad 0, .inr (3, [.ref (ad 1), .ref (ad 9), .ref (ad 10), .ref (ad 13), .ref (ad 16), .ref (ad 18), .int T.2.2.2.2.2])), (ad 1, .inr (1, [.int S.1.1, .int S.1.2.1, .int S.1.2.2.1, .int S.1.2.2.2.1, .int S.1.2.2.2.2, .ref (ad 2), .ref (ad 3), .ref (ad 4), .ref (ad 5)])), (ad 2, .inl (cI, 6, .inl S.2.1.1)), (ad 3, .inl (cI, 6, .inl S.2.1.2.1)), (ad 4, .inl (cI, 6, .inl S.2.1.2.2)), (ad 5, .inl (cJ, 3, .inr (.inr (.inr (.inr (fun i => if i < 3 then some (ra i) else none)))))), (ra 0, .inl (cI, nl, .inl (S.2.2 0))), (ra 1, .inl (cI, nl, .inl (S.2.2 1))), (ra 2, .inl (cI, nl, .inl (S.2.2 2))), (ad 9, .inl (cI, nn, .inl T.1)), (ad 10, .inr (2, [.ref (ad 11), .ref (ad 12), .int D_1.2.2])), (ad 11, .inl (cI, nn, .inl D_1.1)), (ad 12, .inl (cZ, nn, .inl D_1.2.1)), (ad 13, .inr (2, [.ref (ad 14), .ref (ad 15), .int D_2.2.2])), (ad 14, .inl (cI, nn, .inl D_2.1)), (ad 15, .inl (cZ, nn, .inl D_2.2.1)), (ad 18, .inr (0, [.ref (ad 19), .int T.2.2.2.2.1.2.1, .int T.2.2.2.2.1.2.2])), (ad 19, .inl (cI, 1250, .inl T.2.2.2.2.1.1))]) (w1 := wBR cI (ad 16) (ad 17) B_3) hP hD [16, 17] [0, 1, 2, 3, 4, 5, 6, 7, 8, 9, 10, 11, 12, 13, 14, 15, 18, 19] rfl rfl (by decide) (by decide) hk1 hFc hP1 hD1
  generalize H1 = H at hP hS ⊢
  have hP := hP.sub (ws' := wTT cI cZ cJ nl nn ad ra S (T.1, D_1, D_2, B_3, T.2.2.2.2.1, T.2.2.2.2.2)) [0, 1, 2, 3, 4, 5, 6, 7, 8, 9, 10, 11, 12, 13, 14, 15, 18, 19, 16, 17] rfl
  have hD := hD.sub (ws' := wTT cI cZ cJ nl nn ad ra S (T.1, D_1, D_2, B_3, T.2.2.2.2.1, T.2.2.2.2.2)) [0, 1, 2, 3, 4, 5, 6, 7, 8, 9, 10, 11, 12, 13, 14, 15, 18, 19, 16, 17] (by decide) rfl
  refine lv_aload_n hx hb dX3_reset_21 rfl (lv_at hl 0 rfl) ?_
  refine va_get (D := (dC, dI)) (ci := 3) (v := .ref (ad 18)) (C := RX3) (T := TX3) (N := 7) hx hb hT inX3 hown hK hP 0 rfl rfl 5 (by decide) (hT _ k_7) (fun _ h9 => h9) rfl dX3_reset_22 ?_
  have hPc := hP.sub (ws' := wBR cI (ad 18) (ad 19) T.2.2.2.2.1) [18, 19] rfl
  have hDc := hD.sub (ws' := wBR cI (ad 18) (ad 19) T.2.2.2.2.1) [18, 19] (by decide) rfl
  have hFc := va_free (wc := wBR cI (ad 18) (ad 19) T.2.2.2.2.1) hD hS hA [18, 19] rfl
  refine va_callv (va_runV (As := []) (rest := []) ⟨hx, hb, hml, hown, hT⟩ (met_X0_empty l dC dI cI cZ cJ cL (ad 18) (ad 19) H.size _  T.2.2.2.2.1  hw) (cwV 0 hT (gV k_73 k_75 k_76 k_77 k_74) rfl rfl rfl (by decide +kernel) ⟨(Nat.le_of_ble_eq_true rfl), (Nat.le_of_ble_eq_true rfl)⟩) ⟨bl_W, va_recv hK hPc (ci := 0) (q0 := 0) rfl rfl, fun U hU hW => ⟨rfl, by rw [hU], by rw [hU]; exact hPc, va_K.moved hW.alike hK, hDc.weaken (fun _ _ _ _ => trivial)⟩⟩ rfl rfl hl.1 rfl (lv_room (Nat.le_of_ble_eq_true rfl)) dX3_reset_25 ⟨Nat.le_of_ble_eq_true rfl, Nat.le_of_ble_eq_true rfl⟩) hS (fun q _ h => hFc q h) hFc (fun B_4 t H1 locs ht hvm hw hB hz1 hk1 hS => ?_)
  obtain ⟨hP1, -, hD1⟩ := hB
  try dsimp only at hw
  rw [ht] at hP1
  obtain ⟨hP, hD⟩ := va_join (wr := [(ad 0, .inr (3, [.ref (ad 1), .ref (ad 9), .ref (ad 10), .ref (ad 13), .ref (ad 16), .ref (ad 18), .int T.2.2.2.2.2])), (ad 1, .inr (1, [.int S.1.1, .int S.1.2.1, .int S.1.2.2.1, .int S.1.2.2.2.1, .int S.1.2.2.2.2, .ref (ad 2), .ref (ad 3), .ref (ad 4), .ref (ad 5)])), (ad 2, .inl (cI, 6, .inl S.2.1.1)), (ad 3, .inl (cI, 6, .inl S.2.1.2.1)), (ad 4, .inl (cI, 6, .inl S.2.1.2.2)), (ad 5, .inl (cJ, 3, .inr (.inr (.inr (.inr (fun i => if i < 3 then some (ra i) else none)))))), (ra 0, .inl (cI, nl, .inl (S.2.2 0))), (ra 1, .inl (cI, nl, .inl (S.2.2 1))), (ra 2, .inl (cI, nl, .inl (S.2.2 2))), (ad 9, .inl (cI, nn, .inl T.1)), (ad 10, .inr (2, [.ref (ad 11), .ref (ad 12), .int D_1.2.2])), (ad 11, .inl (cI, nn, .inl D_1.1)), (ad 12, .inl (cZ, nn, .inl D_1.2.1)), (ad 13, .inr (2, [.ref (ad 14), .ref (ad 15), .int D_2.2.2])), (ad 14, .inl (cI, nn, .inl D_2.1)), (ad 15, .inl (cZ, nn, .inl D_2.2.1)), (ad 16, .inr (0, [.ref (ad 17), .int B_3.2.1, .int B_3.2.2])), (ad 17, .inl (cI, 1250, .inl B_3.1))]) (w1 := wBR cI (ad 18) (ad 19) B_4) hP hD [18, 19] [0, 1, 2, 3, 4, 5, 6, 7, 8, 9, 10, 11, 12, 13, 14, 15, 16, 17] rfl rfl (by decide) (by decide) hk1 hFc hP1 hD1
  generalize H1 = H at hP hS ⊢
  have hP := hP.sub (ws' := wTT cI cZ cJ nl nn ad ra S (T.1, D_1, D_2, B_3, B_4, T.2.2.2.2.2)) [0, 1, 2, 3, 4, 5, 6, 7, 8, 9, 10, 11, 12, 13, 14, 15, 16, 17, 18, 19] rfl
  have hD := hD.sub (ws' := wTT cI cZ cJ nl nn ad ra S (T.1, D_1, D_2, B_3, B_4, T.2.2.2.2.2)) [0, 1, 2, 3, 4, 5, 6, 7, 8, 9, 10, 11, 12, 13, 14, 15, 16, 17, 18, 19] (by decide) rfl
  refine lv_aload_n hx hb dX3_reset_28 rfl (lv_at hl 0 rfl) ?_
  refine lv_iconst (v := 0) hx hb dX3_reset_29 (by decide) ?_
  refine va_put (D := (dC, dI)) (ci := 3) (v := .int 0) (ty := .int) (C := RX3) (T := TX3) (N := 7) hx hb hT inX3 tyX3 tyX3_ok nmX3 hown hK hP hD hS 0 rfl rfl 6 (by decide) (hT _ k_78) (fun _ h9 => h9) rfl (by decide +kernel) rfl rfl (Nat.le_of_ble_eq_true rfl) dX3_reset_30 (fun H locs hP hD hS => ?_)
  have hP : va_P (dC, dI) vwCl (wTT cI cZ cJ nl nn ad ra S (T.1, D_1, D_2, B_3, B_4, 0)) H := hP
  have hD : va_D A (wTT cI cZ cJ nl nn ad ra S (T.1, D_1, D_2, B_3, B_4, 0)) := hD
  exact W.vret hx hb hr (fun t ht hW => ⟨⟨(T.1, D_1, D_2, B_3, B_4, 0), rfl, hw, by rw [ht]; exact hP, va_K.moved hW.alike hK, hD⟩, hS.F ht⟩) hS.2.2 dX3_reset_33
def wp_X3_leastOfChildren_L8 (post : Int32 → Prop) (ex8 : Int32 → Int32 → Prop) (nl : Nat) (nn : Nat) (S : vSH) (T : vTT) (x1 : Int32) (x2 : Int32) (x3 : Int32) : Nat → Int32 → Int32 → Prop
  | 0, _, _ => False
  | n_3 + 1, x5_1, x4_2 => ((4 ≤ x5_1 → (ex8 x5_1 x4_2)) ∧ (¬ 4 ≤ x5_1 → (∀ x6_5 : Int32, x6_5 = (2 * x2) + (x5_1 &&& 1) → (∀ x7_6 : Int32, x7_6 = (2 * x3) + (x5_1 >>> ((1 : Int32) &&& 31)) → (wp_X1_hasNode (fun r_7 => ((r_7 = 0 → (∀ x5_9 : Int32, x5_9 = x5_1 + 1 → (wp_X3_leastOfChildren_L8 post ex8 nl nn S T x1 x2 x3 n_3 x5_9 x4_2))) ∧ (¬ r_7 = 0 → (wp_X1_nodeAt (fun r_10 => vp_in r_10 nn ∧ (∀ x4_12 : Int32, x4_12 = (if (T.1 r_10.toNatClampNeg) < x4_2 then (T.1 r_10.toNatClampNeg) else x4_2) → (∀ x5_13 : Int32, x5_13 = x5_1 + 1 → (wp_X3_leastOfChildren_L8 post ex8 nl nn S T x1 x2 x3 n_3 x5_13 x4_12)))) nl S  (x1 - 1) x6_5 x7_6)))) nl S  (x1 - 1) x6_5 x7_6)))))
def wp_X3_leastOfChildren (post : Int32 → Prop) (nl : Nat) (nn : Nat) (S : vSH) (T : vTT) (x1 : Int32) (x2 : Int32) (x3 : Int32) : Prop := ∃ n_3 : Nat, wp_X3_leastOfChildren_L8 post (fun (x5_1 : Int32) (x4_2 : Int32) => post x4_2) nl nn S T x1 x2 x3 n_3 0 1000
abbrev rm_X3_leastOfChildren : Room := { frames := 1, cells := 0, slots := 0, locals := 23 }
set_option maxHeartbeats 4000000 in
set_option maxRecDepth 100000 in
theorem met_X3_leastOfChildren (l : Launch) (dC : Nat → ClassId) (dI : Nat → Nat → Nat) (cI cZ cJ cL : ClassId) (ad ra : Nat → Nat) (post : Int32 → Prop) (nl : Nat) (nn : Nat) (S : vSH) (T : vTT) (x1 : Int32) (x2 : Int32) (x3 : Int32) (hw : wp_X3_leastOfChildren post nl nn S T x1 x2 x3) : Met l yX3_leastOfChildren wsX3_leastOfChildren rm_X3_leastOfChildren (pcR (dC, dI) (tysA cI cZ cJ cL) (wTT cI cZ cJ nl nn ad ra S T) [.ref (ad 0), .int x1, .int x2, .int x3]) (vp_Si post) 0 0 (fun _ => False) := by
  refine Met.ofW (cc := cX3_leastOfChildren) (maxL := 8) (ret := (some .int)) (by decide) rfl ?_
  intro p e s m args below meth c s₁ Bd hml hv
  obtain ⟨hargs, hP, hK⟩ := hv
  have hx := Bd.exec
  have hb := Bd.bytes
  have hr := Bd.returns
  have hts := atoms_spec (ws := wsX3_leastOfChildren) Bd.pre
  have hT : ∀ w ∈ WALL, w.before args s = true := fun w h => hts w (List.mem_cons_of_mem _ h)
  have hown : s.vm.findClass RX3 = some m.cls := findClass_of_methodNamed Bd.named
  have hlocks := Bd.notSynchronized
  have hP : va_P (dC, dI) vwCl (wTT cI cZ cJ nl nn ad ra S T) s.heap := hP
  have hl := lv_entry ([.ref (ad 0), .int x1, .int x2, .int x3]) (n := 8) (Nat.le_of_ble_eq_true rfl)
  rw [show entryFrame m args 8 = F0 m 0 _ [] from by rw [hargs]; exact lg_entry_eq m ([.ref (ad 0), .int x1, .int x2, .int x3]) 8]
  generalize (lg_sl ([.ref (ad 0), .int x1, .int x2, .int x3]) ++ List.replicate (8 - (lg_sl ([.ref (ad 0), .int x1, .int x2, .int x3])).length) Slot.unset).toArray = ls at hl ⊢
  have hl : lv_has ls 8 [(0, .ref (ad 0)), (1, .int x1), (2, .int x2), (3, .int x3)] := hl
  generalize hH : s.heap = H at hP ⊢
  unfold wp_X3_leastOfChildren at hw
  refine lv_sipush (v := 1000) hx hb dX3_leastOfChildren_0 (by decide) ?_
  refine lv_istore (lv' := [(4, .int 1000), (0, .ref (ad 0)), (1, .int x1), (2, .int x2), (3, .int x3)]) hx hb dX3_leastOfChildren_3 hl (by decide) rfl (fun ls hl => ?_)
  refine lv_iconst (v := 0) hx hb dX3_leastOfChildren_5 (by decide) ?_
  refine lv_istore (lv' := [(5, .int 0), (4, .int 1000), (0, .ref (ad 0)), (1, .int x1), (2, .int x2), (3, .int x3)]) hx hb dX3_leastOfChildren_6 hl (by decide) rfl (fun ls hl => ?_)
  obtain ⟨n_3, hw⟩ := hw
  obtain ⟨ex8, eex8⟩ : ∃ z : Int32 → Int32 → Prop, z = (fun (x5_1 : Int32) (x4_2 : Int32) => post x4_2) := ⟨_, rfl⟩
  rw [← eex8] at hw
  have hx8 : ∀ (x5_1 : Int32) (x4_2 : Int32), ex8 x5_1 x4_2 → ∀ (ls : Array Slot), lv_has ls 8 [(5, .int x5_1), (4, .int x4_2), (0, .ref (ad 0)), (1, .int x1), (2, .int x2), (3, .int x3)] → W p l e (headSpec wsX3_leastOfChildren rm_X3_leastOfChildren).room s m args below meth c H [] 0 0 (MQ below (vp_Si post) args s 0 0 (fun _ => False)) (F0 m 83 ls []) := by
    intro x5_1 x4_2 hw ls hl
    rw [eex8] at hw
    try dsimp only at hw
    refine lv_iload hx hb dX3_leastOfChildren_83 (lv_at hl 1 rfl) ?_
    exact W.iret (v := x4_2) hx hb hr (fun t ht hW => ⟨x4_2, rfl, hw, ht.trans hH.symm⟩) (fun q h => by cases h) dX3_leastOfChildren_85
  have hlp8 : ∀ (n_3 : Nat) (x5_1 : Int32) (x4_2 : Int32), wp_X3_leastOfChildren_L8 post ex8 nl nn S T x1 x2 x3 n_3 x5_1 x4_2 → ∀ (ls : Array Slot), lv_has ls 8 [(5, .int x5_1), (4, .int x4_2), (0, .ref (ad 0)), (1, .int x1), (2, .int x2), (3, .int x3)] → W p l e (headSpec wsX3_leastOfChildren rm_X3_leastOfChildren).room s m args below meth c H [] 0 0 (MQ below (vp_Si post) args s 0 0 (fun _ => False)) (F0 m 8 ls []) := by
    intro n_3
    induction n_3 with
    | zero => intro _ _ hw; exact hw.elim
    | succ n_3 ih8 =>
      intro x5_1 x4_2 hw ls hl
      unfold wp_X3_leastOfChildren_L8 at hw
      refine lv_iload hx hb dX3_leastOfChildren_8 (lv_at hl 0 rfl) ?_
      refine lv_iconst (v := 4) hx hb dX3_leastOfChildren_10 (by decide) ?_
      refine lv_icmp_ge (tgt := 83) hx hb dX3_leastOfChildren_11 (by decide) (fun c_4 => ?_) (fun c_4 => ?_)
      · have hw := hw.1 c_4
        exact hx8 x5_1 x4_2 hw _ (lv_sub hl [0, 1, 2, 3, 4, 5] rfl)
      · have hw := hw.2 c_4
        refine lv_iconst (v := 2) hx hb dX3_leastOfChildren_14 (by decide) ?_
        refine lv_iload_n hx hb dX3_leastOfChildren_15 rfl (lv_at hl 4 rfl) ?_
        refine lv_imul hx hb dX3_leastOfChildren_16 ?_
        refine lv_iload hx hb dX3_leastOfChildren_17 (lv_at hl 0 rfl) ?_
        refine lv_iconst (v := 1) hx hb dX3_leastOfChildren_19 (by decide) ?_
        refine lv_iand hx hb dX3_leastOfChildren_20 ?_
        refine lv_iadd hx hb dX3_leastOfChildren_21 ?_
        refine lv_topi (fun x6_5 ex6_5 => ?_)
        have hw := hw x6_5 ex6_5
        refine lv_istore (lv' := [(6, .int x6_5), (5, .int x5_1), (4, .int x4_2), (0, .ref (ad 0)), (1, .int x1), (2, .int x2), (3, .int x3)]) hx hb dX3_leastOfChildren_22 hl (by decide) rfl (fun ls hl => ?_)
        refine lv_iconst (v := 2) hx hb dX3_leastOfChildren_24 (by decide) ?_
        refine lv_iload_n hx hb dX3_leastOfChildren_25 rfl (lv_at hl 6 rfl) ?_
        refine lv_imul hx hb dX3_leastOfChildren_26 ?_
        refine lv_iload hx hb dX3_leastOfChildren_27 (lv_at hl 1 rfl) ?_
        refine lv_iconst (v := 1) hx hb dX3_leastOfChildren_29 (by decide) ?_
        refine lv_ishr hx hb dX3_leastOfChildren_30 ?_
        refine lv_iadd hx hb dX3_leastOfChildren_31 ?_
        refine lv_topi (fun x7_6 ex7_6 => ?_)
        have hw := hw x7_6 ex7_6
        refine lv_istore (lv' := [(7, .int x7_6), (6, .int x6_5), (5, .int x5_1), (4, .int x4_2), (0, .ref (ad 0)), (1, .int x1), (2, .int x2), (3, .int x3)]) hx hb dX3_leastOfChildren_32 hl (by decide) rfl (fun ls hl => ?_)
        refine lv_aload_n hx hb dX3_leastOfChildren_34 rfl (lv_at hl 4 rfl) ?_
        refine va_get (D := (dC, dI)) (ci := 3) (v := .ref (ad 1)) (C := RX3) (T := TX3) (N := 7) hx hb hT inX3 hown hK hP 0 rfl rfl 0 (by decide) (hT _ k_0) (fun _ h9 => h9) rfl dX3_leastOfChildren_35 ?_
        refine lv_iload_n hx hb dX3_leastOfChildren_38 rfl (lv_at hl 5 rfl) ?_
        refine lv_iconst (v := 1) hx hb dX3_leastOfChildren_39 (by decide) ?_
        refine lv_isub hx hb dX3_leastOfChildren_40 ?_
        refine lv_iload hx hb dX3_leastOfChildren_41 (lv_at hl 1 rfl) ?_
        refine lv_iload hx hb dX3_leastOfChildren_43 (lv_at hl 0 rfl) ?_
        have hPc := hP.sub (ws' := wSH cI cJ nl (ad 1) (ad 2) (ad 3) (ad 4) (ad 5) ra S) [1, 2, 3, 4, 5, 6, 7, 8] rfl
        refine vp_callSi (W.runV (As := [.int (x1 - 1), .int x6_5, .int x7_6]) (rest := []) ⟨hx, hb, hml, hown, hT⟩ (met_X1_hasNode l dC dI cI cZ cJ cL (ad 1) (ad 2) (ad 3) (ad 4) (ad 5) ra _ nl S  (x1 - 1) x6_5 x7_6 hw) (cwV 3 hT (gV k_79 k_81 k_82 k_59 k_80) rfl rfl rfl (by decide +kernel) ⟨(Nat.le_of_ble_eq_true rfl), (Nat.le_of_ble_eq_true rfl)⟩) ⟨bl_R, va_recv hK hPc (ci := 1) (q0 := 0) rfl rfl, fun U hU hW => ⟨rfl, by rw [hU]; exact hPc, va_K.moved hW.alike hK⟩⟩ rfl rfl hl.1 rfl (lv_room (Nat.le_of_ble_eq_true rfl)) dX3_leastOfChildren_45 ⟨Nat.le_of_ble_eq_true rfl, Nat.le_of_ble_eq_true rfl⟩) (fun r_7 hw => ?_)
        try dsimp only at hw
        refine lv_if_eq (tgt := 77) hx hb dX3_leastOfChildren_48 (by decide) (fun c_8 => ?_) (fun c_8 => ?_)
        · have hw := hw.1 c_8
          obtain ⟨x5_9, ex5_9⟩ : ∃ y : Int32, y = x5_1 + 1 := ⟨_, rfl⟩
          have hw := hw x5_9 ex5_9
          refine lv_iinc (v := x5_9) (lv' := [(5, .int x5_9), (7, .int x7_6), (6, .int x6_5), (4, .int x4_2), (0, .ref (ad 0)), (1, .int x1), (2, .int x2), (3, .int x3)]) hx hb dX3_leastOfChildren_77 hl (k := 2) rfl (by rw [ex5_9]; rfl) (by decide) rfl (fun ls hl => ?_)
          refine lv_goto (tgt := 8) hx hb dX3_leastOfChildren_80 (by decide) ?_
          exact ih8 x5_9 x4_2 hw _ (lv_sub hl [0, 3, 4, 5, 6, 7] rfl)
        · have hw := hw.2 c_8
          refine lv_iload hx hb dX3_leastOfChildren_51 (lv_at hl 3 rfl) ?_
          refine lv_aload_n hx hb dX3_leastOfChildren_53 rfl (lv_at hl 4 rfl) ?_
          refine va_get (D := (dC, dI)) (ci := 3) (v := .ref (ad 9)) (C := RX3) (T := TX3) (N := 7) hx hb hT inX3 hown hK hP 0 rfl rfl 1 (by decide) (hT _ k_83) (fun _ h9 => h9) rfl dX3_leastOfChildren_54 ?_
          refine lv_aload_n hx hb dX3_leastOfChildren_57 rfl (lv_at hl 4 rfl) ?_
          refine va_get (D := (dC, dI)) (ci := 3) (v := .ref (ad 1)) (C := RX3) (T := TX3) (N := 7) hx hb hT inX3 hown hK hP 0 rfl rfl 0 (by decide) (hT _ k_0) (fun _ h9 => h9) rfl dX3_leastOfChildren_58 ?_
          refine lv_iload_n hx hb dX3_leastOfChildren_61 rfl (lv_at hl 5 rfl) ?_
          refine lv_iconst (v := 1) hx hb dX3_leastOfChildren_62 (by decide) ?_
          refine lv_isub hx hb dX3_leastOfChildren_63 ?_
          refine lv_iload hx hb dX3_leastOfChildren_64 (lv_at hl 1 rfl) ?_
          refine lv_iload hx hb dX3_leastOfChildren_66 (lv_at hl 0 rfl) ?_
          have hPc := hP.sub (ws' := wSH cI cJ nl (ad 1) (ad 2) (ad 3) (ad 4) (ad 5) ra S) [1, 2, 3, 4, 5, 6, 7, 8] rfl
          refine vp_callSi (W.runV (As := [.int (x1 - 1), .int x6_5, .int x7_6]) (rest := [.ref (ad 9), .int x4_2]) ⟨hx, hb, hml, hown, hT⟩ (met_X1_nodeAt l dC dI cI cZ cJ cL (ad 1) (ad 2) (ad 3) (ad 4) (ad 5) ra _ nl S  (x1 - 1) x6_5 x7_6 hw) (cwV 3 hT (gV k_64 k_66 k_67 k_59 k_65) rfl rfl rfl (by decide +kernel) ⟨(Nat.le_of_ble_eq_true rfl), (Nat.le_of_ble_eq_true rfl)⟩) ⟨bl_R, va_recv hK hPc (ci := 1) (q0 := 0) rfl rfl, fun U hU hW => ⟨rfl, by rw [hU]; exact hPc, va_K.moved hW.alike hK⟩⟩ rfl rfl hl.1 rfl (lv_room (Nat.le_of_ble_eq_true rfl)) dX3_leastOfChildren_68 ⟨Nat.le_of_ble_eq_true rfl, Nat.le_of_ble_eq_true rfl⟩) (fun r_10 hw => ?_)
          try dsimp only at hw
          obtain ⟨h_11, hw⟩ := hw
          refine va_iald hx hb hK hP 9 0 rfl rfl h_11 dX3_leastOfChildren_71 ?_
          refine va_mmin (x := x4_2) (y := (T.1 r_10.toNatClampNeg)) (rest := []) hx hb (by rw [hml]; exact hl.1.symm) hown (hT _ k_84) (hT _ k_85) (hT _ k_86) (hT _ k_87) (Nat.le_of_ble_eq_true rfl) (Nat.le_of_ble_eq_true rfl) (Nat.le_of_ble_eq_true rfl) (Nat.le_of_ble_eq_true rfl) dX3_leastOfChildren_72 ?_
          refine lv_topi (fun x4_12 ex4_12 => ?_)
          have hw := hw x4_12 ex4_12
          refine lv_istore (lv' := [(4, .int x4_12), (7, .int x7_6), (6, .int x6_5), (5, .int x5_1), (0, .ref (ad 0)), (1, .int x1), (2, .int x2), (3, .int x3)]) hx hb dX3_leastOfChildren_75 hl (by decide) rfl (fun ls hl => ?_)
          obtain ⟨x5_13, ex5_13⟩ : ∃ y : Int32, y = x5_1 + 1 := ⟨_, rfl⟩
          have hw := hw x5_13 ex5_13
          refine lv_iinc (v := x5_13) (lv' := [(5, .int x5_13), (4, .int x4_12), (7, .int x7_6), (6, .int x6_5), (0, .ref (ad 0)), (1, .int x1), (2, .int x2), (3, .int x3)]) hx hb dX3_leastOfChildren_77 hl (k := 3) rfl (by rw [ex5_13]; rfl) (by decide) rfl (fun ls hl => ?_)
          refine lv_goto (tgt := 8) hx hb dX3_leastOfChildren_80 (by decide) ?_
          exact ih8 x5_13 x4_12 hw _ (lv_sub hl [0, 1, 4, 5, 6, 7] rfl)
  exact hlp8 n_3 0 1000 hw _ (lv_sub hl [0, 1, 2, 3, 4, 5] rfl)
def wp_X3_boundAfter (post : Int32 → Prop) (nl : Nat) (nn : Nat) (S : vSH) (T : vTT) (x1 : Int32) (x2 : Int32) (x3 : Int32) : Prop := wp_X3_hasBits (fun r_1 => ((r_1 = 0 → (post x2)) ∧ (¬ r_1 = 0 → (vp_in x1 nn ∧ (post (if x3 < (T.1 x1.toNatClampNeg) then x3 else (T.1 x1.toNatClampNeg))))))) nl nn S T x1 x2 x3
abbrev rm_X3_boundAfter : Room := { frames := 1, cells := 0, slots := 0, locals := 23 }
set_option maxHeartbeats 4000000 in
set_option maxRecDepth 100000 in
theorem met_X3_boundAfter (l : Launch) (dC : Nat → ClassId) (dI : Nat → Nat → Nat) (cI cZ cJ cL : ClassId) (ad ra : Nat → Nat) (post : Int32 → Prop) (nl : Nat) (nn : Nat) (S : vSH) (T : vTT) (x1 : Int32) (x2 : Int32) (x3 : Int32) (hw : wp_X3_boundAfter post nl nn S T x1 x2 x3) : Met l yX3_boundAfter wsX3_boundAfter rm_X3_boundAfter (pcR (dC, dI) (tysA cI cZ cJ cL) (wTT cI cZ cJ nl nn ad ra S T) [.ref (ad 0), .int x1, .int x2, .int x3]) (vp_Si post) 0 0 (fun _ => False) := by
  refine Met.ofW (cc := cX3_boundAfter) (maxL := 4) (ret := (some .int)) (by decide) rfl ?_
  intro p e s m args below meth c s₁ Bd hml hv
  obtain ⟨hargs, hP, hK⟩ := hv
  have hx := Bd.exec
  have hb := Bd.bytes
  have hr := Bd.returns
  have hts := atoms_spec (ws := wsX3_boundAfter) Bd.pre
  have hT : ∀ w ∈ WALL, w.before args s = true := fun w h => hts w (List.mem_cons_of_mem _ h)
  have hown : s.vm.findClass RX3 = some m.cls := findClass_of_methodNamed Bd.named
  have hlocks := Bd.notSynchronized
  have hP : va_P (dC, dI) vwCl (wTT cI cZ cJ nl nn ad ra S T) s.heap := hP
  have hl := lv_entry ([.ref (ad 0), .int x1, .int x2, .int x3]) (n := 4) (Nat.le_of_ble_eq_true rfl)
  rw [show entryFrame m args 4 = F0 m 0 _ [] from by rw [hargs]; exact lg_entry_eq m ([.ref (ad 0), .int x1, .int x2, .int x3]) 4]
  generalize (lg_sl ([.ref (ad 0), .int x1, .int x2, .int x3]) ++ List.replicate (4 - (lg_sl ([.ref (ad 0), .int x1, .int x2, .int x3])).length) Slot.unset).toArray = ls at hl ⊢
  have hl : lv_has ls 4 [(0, .ref (ad 0)), (1, .int x1), (2, .int x2), (3, .int x3)] := hl
  generalize hH : s.heap = H at hP ⊢
  unfold wp_X3_boundAfter at hw
  refine lv_aload_n hx hb dX3_boundAfter_0 rfl (lv_at hl 0 rfl) ?_
  refine lv_iload_n hx hb dX3_boundAfter_1 rfl (lv_at hl 1 rfl) ?_
  refine lv_iload_n hx hb dX3_boundAfter_2 rfl (lv_at hl 2 rfl) ?_
  refine lv_iload_n hx hb dX3_boundAfter_3 rfl (lv_at hl 3 rfl) ?_
  have hPc := hP
  refine vp_callSi (W.runV (As := [.int x1, .int x2, .int x3]) (rest := []) ⟨hx, hb, hml, hown, hT⟩ (met_X3_hasBits l dC dI cI cZ cJ cL ad ra _ nl nn S T x1 x2 x3 hw) (cwV 3 hT (gV k_88 k_90 k_91 k_51 k_89) rfl rfl rfl (by decide +kernel) ⟨(Nat.le_of_ble_eq_true rfl), (Nat.le_of_ble_eq_true rfl)⟩) ⟨bl_R, va_recv hK hPc (ci := 3) (q0 := 0) rfl rfl, fun U hU hW => ⟨rfl, by rw [hU]; exact hPc, va_K.moved hW.alike hK⟩⟩ rfl rfl hl.1 rfl (lv_room (Nat.le_of_ble_eq_true rfl)) dX3_boundAfter_4 ⟨Nat.le_of_ble_eq_true rfl, Nat.le_of_ble_eq_true rfl⟩) (fun r_1 hw => ?_)
  try dsimp only at hw
  refine lv_if_eq (tgt := 23) hx hb dX3_boundAfter_7 (by decide) (fun c_2 => ?_) (fun c_2 => ?_)
  · have hw := hw.1 c_2
    refine lv_iload_n hx hb dX3_boundAfter_23 rfl (lv_at hl 2 rfl) ?_
    exact W.iret (v := x2) hx hb hr (fun t ht hW => ⟨x2, rfl, hw, ht.trans hH.symm⟩) (fun q h => by cases h) dX3_boundAfter_24
  · have hw := hw.2 c_2
    refine lv_aload_n hx hb dX3_boundAfter_10 rfl (lv_at hl 0 rfl) ?_
    refine va_get (D := (dC, dI)) (ci := 3) (v := .ref (ad 9)) (C := RX3) (T := TX3) (N := 7) hx hb hT inX3 hown hK hP 0 rfl rfl 1 (by decide) (hT _ k_83) (fun _ h9 => h9) rfl dX3_boundAfter_11 ?_
    refine lv_iload_n hx hb dX3_boundAfter_14 rfl (lv_at hl 1 rfl) ?_
    obtain ⟨h_3, hw⟩ := hw
    refine va_iald hx hb hK hP 9 0 rfl rfl h_3 dX3_boundAfter_15 ?_
    refine lv_iload_n hx hb dX3_boundAfter_16 rfl (lv_at hl 3 rfl) ?_
    refine va_mmin (x := (T.1 x1.toNatClampNeg)) (y := x3) (rest := []) hx hb (by rw [hml]; exact hl.1.symm) hown (hT _ k_84) (hT _ k_85) (hT _ k_86) (hT _ k_87) (Nat.le_of_ble_eq_true rfl) (Nat.le_of_ble_eq_true rfl) (Nat.le_of_ble_eq_true rfl) (Nat.le_of_ble_eq_true rfl) dX3_boundAfter_17 ?_
    refine lv_goto (tgt := 24) hx hb dX3_boundAfter_20 (by decide) ?_
    exact W.iret (v := (if x3 < (T.1 x1.toNatClampNeg) then x3 else (T.1 x1.toNatClampNeg))) hx hb hr (fun t ht hW => ⟨(if x3 < (T.1 x1.toNatClampNeg) then x3 else (T.1 x1.toNatClampNeg)), rfl, hw, ht.trans hH.symm⟩) (fun q h => by cases h) dX3_boundAfter_24
def wp_X3_renewLeasts_L30 (post : vTT → Prop) (ex30 : vTT → Int32 → Prop) (nl : Nat) (nn : Nat) (S : vSH) (x2_6 : Int32) (x1_2 : Int32) : Nat → vTT → Int32 → Prop
  | 0, _, _ => False
  | n_13 + 1, T_11, x3_12 => vp_in x1_2 6 ∧ ((((S.2.1.1 x1_2.toNatClampNeg) ≤ x3_12 → (ex30 T_11 x3_12)) ∧ (¬ (S.2.1.1 x1_2.toNatClampNeg) ≤ x3_12 → (wp_X1_nodeAt (fun r_17 => wp_X3_leastOfChildren (fun r_18 => vp_in r_17 nn ∧ (∀ x3_20 : Int32, x3_20 = x3_12 + 1 → (wp_X3_renewLeasts_L30 post ex30 nl nn S x2_6 x1_2 n_13 ((upd T_11.1 r_17.toNatClampNeg r_18), T_11.2.1, T_11.2.2.1, T_11.2.2.2.1, T_11.2.2.2.2.1, T_11.2.2.2.2.2) x3_20))) nl nn S T_11 x1_2 x3_12 x2_6) nl S  x1_2 x3_12 x2_6))))
def wp_X3_renewLeasts_L15 (post : vTT → Prop) (ex15 : vTT → Int32 → Prop) (nl : Nat) (nn : Nat) (S : vSH) (x1_2 : Int32) : Nat → vTT → Int32 → Prop
  | 0, _, _ => False
  | n_7 + 1, T_5, x2_6 => vp_in x1_2 6 ∧ ((((S.2.1.2.1 x1_2.toNatClampNeg) ≤ x2_6 → (ex15 T_5 x2_6)) ∧ (¬ (S.2.1.2.1 x1_2.toNatClampNeg) ≤ x2_6 → (∃ n_13 : Nat, wp_X3_renewLeasts_L30 post (fun (T_11 : vTT) (x3_12 : Int32) => ∀ x2_14 : Int32, x2_14 = x2_6 + 1 → (wp_X3_renewLeasts_L15 post ex15 nl nn S x1_2 n_7 T_11 x2_14)) nl nn S x2_6 x1_2 n_13 T_5 0))))
def wp_X3_renewLeasts_L2 (post : vTT → Prop) (ex2 : vTT → Int32 → Prop) (nl : Nat) (nn : Nat) (S : vSH) : Nat → vTT → Int32 → Prop
  | 0, _, _ => False
  | n_3 + 1, T_1, x1_2 => ((S.1.2.2.2.1 ≤ x1_2 → (ex2 T_1 x1_2)) ∧ (¬ S.1.2.2.2.1 ≤ x1_2 → (∃ n_7 : Nat, wp_X3_renewLeasts_L15 post (fun (T_5 : vTT) (x2_6 : Int32) => ∀ x1_8 : Int32, x1_8 = x1_2 + 1 → (wp_X3_renewLeasts_L2 post ex2 nl nn S n_3 T_5 x1_8)) nl nn S x1_2 n_7 T_1 0)))
def wp_X3_renewLeasts (post : vTT → Prop) (nl : Nat) (nn : Nat) (S : vSH) (T : vTT)  : Prop := ∃ n_3 : Nat, wp_X3_renewLeasts_L2 post (fun (T_1 : vTT) (x1_2 : Int32) => post T_1) nl nn S n_3 T 1
abbrev rm_X3_renewLeasts : Room := { frames := 2, cells := 0, slots := 0, locals := 50 }
set_option maxHeartbeats 4000000 in
set_option maxRecDepth 100000 in
theorem met_X3_renewLeasts (l : Launch) (dC : Nat → ClassId) (dI : Nat → Nat → Nat) (cI cZ cJ cL : ClassId) (ad ra : Nat → Nat) (sz : Nat) (post : vTT → Prop) (nl : Nat) (nn : Nat) (S : vSH) (T : vTT)  (hw : wp_X3_renewLeasts post nl nn S T ) : Met l yX3_renewLeasts wsX3_renewLeasts rm_X3_renewLeasts (pcW (dC, dI) (tysA cI cZ cJ cL) (wTT cI cZ cJ nl nn ad ra S T) sz [.ref (ad 0)]) (va_Qv post (fun u t => qB (dC, dI) (tysA cI cZ cJ cL) (va_A (wTT cI cZ cJ nl nn ad ra S T) sz) (wTT cI cZ cJ nl nn ad ra S u) t) (va_A (wTT cI cZ cJ nl nn ad ra S T) sz)) 0 0 (va_A (wTT cI cZ cJ nl nn ad ra S T) sz) := by
  refine Met.ofW (cc := cX3_renewLeasts) (maxL := 4) (ret := none) (by decide) rfl ?_
  intro p e s m args below meth c s₁ Bd hml hv
  obtain ⟨hargs, hsz, hP, hK, hD0⟩ := hv
  have hx := Bd.exec
  have hb := Bd.bytes
  have hr := Bd.returns
  have hts := atoms_spec (ws := wsX3_renewLeasts) Bd.pre
  have hT : ∀ w ∈ WALL, w.before args s = true := fun w h => hts w (List.mem_cons_of_mem _ h)
  have hown : s.vm.findClass RX3 = some m.cls := findClass_of_methodNamed Bd.named
  have hlocks := Bd.notSynchronized
  subst hsz
  have hD := hD0.self (sz := s.heap.size)
  generalize hAe : va_A (wTT cI cZ cJ nl nn ad ra S T) s.heap.size = A at hD ⊢
  have hA : ∀ q : Nat, s.heap.size ≤ q → A q := fun q h => by rw [← hAe]; exact Or.inr h
  have hS : va_S A s.heap s.heap [] := va_S.rf
  have hP : va_P (dC, dI) vwCl (wTT cI cZ cJ nl nn ad ra S T) s.heap := hP
  have hl := lv_entry ([.ref (ad 0)]) (n := 4) (Nat.le_of_ble_eq_true rfl)
  rw [show entryFrame m args 4 = F0 m 0 _ [] from by rw [hargs]; exact lg_entry_eq m ([.ref (ad 0)]) 4]
  generalize (lg_sl ([.ref (ad 0)]) ++ List.replicate (4 - (lg_sl ([.ref (ad 0)])).length) Slot.unset).toArray = ls at hl ⊢
  have hl : lv_has ls 4 [(0, .ref (ad 0))] := hl
  obtain ⟨H, hH⟩ : ∃ z : Heap, z = s.heap := ⟨_, rfl⟩
  obtain ⟨locs, hlocs⟩ : ∃ z : List Loc, z = [] := ⟨_, rfl⟩
  rw [show W p l e (headSpec wsX3_renewLeasts rm_X3_renewLeasts).room s m args below meth c s.heap [] 0 0 = W p l e (headSpec wsX3_renewLeasts rm_X3_renewLeasts).room s m args below meth c H locs 0 0 from by rw [hH, hlocs]]
  have hP : va_P (dC, dI) vwCl (wTT cI cZ cJ nl nn ad ra S T) H := by rw [hH]; exact hP
  have hS : va_S A s.heap H locs := by rw [hH, hlocs]; exact hS
  unfold wp_X3_renewLeasts at hw
  refine lv_iconst (v := 1) hx hb dX3_renewLeasts_0 (by decide) ?_
  refine lv_istore_n (lv' := [(1, .int 1), (0, .ref (ad 0))]) hx hb dX3_renewLeasts_1 rfl hl (by decide) rfl (fun ls hl => ?_)
  obtain ⟨n_3, hw⟩ := hw
  obtain ⟨ex2, eex2⟩ : ∃ z : vTT → Int32 → Prop, z = (fun (T_1 : vTT) (x1_2 : Int32) => post T_1) := ⟨_, rfl⟩
  rw [← eex2] at hw
  have hx2 : ∀ (T_1 : vTT) (x1_2 : Int32), ex2 T_1 x1_2 → ∀ (H : Heap) (locs : List Loc) (ls : Array Slot), va_P (dC, dI) vwCl (wTT cI cZ cJ nl nn ad ra S T_1) H → va_D A (wTT cI cZ cJ nl nn ad ra S T_1) → va_S A s.heap H locs → lv_has ls 4 [(1, .int x1_2), (0, .ref (ad 0))] → W p l e (headSpec wsX3_renewLeasts rm_X3_renewLeasts).room s m args below meth c H locs 0 0 (MQ below (va_Qv post (fun u t => qB (dC, dI) (tysA cI cZ cJ cL) A (wTT cI cZ cJ nl nn ad ra S u) t) A) args s 0 0 A) (F0 m 83 ls []) := by
    intro T_1 x1_2 hw H locs ls hP hD hS hl
    rw [eex2] at hw
    try dsimp only at hw
    exact W.vret hx hb hr (fun t ht hW => ⟨⟨T_1, rfl, hw, by rw [ht]; exact hP, va_K.moved hW.alike hK, hD⟩, hS.F ht⟩) hS.2.2 dX3_renewLeasts_83
  have hlp2 : ∀ (n_3 : Nat) (T_1 : vTT) (x1_2 : Int32), wp_X3_renewLeasts_L2 post ex2 nl nn S n_3 T_1 x1_2 → ∀ (H : Heap) (locs : List Loc) (ls : Array Slot), va_P (dC, dI) vwCl (wTT cI cZ cJ nl nn ad ra S T_1) H → va_D A (wTT cI cZ cJ nl nn ad ra S T_1) → va_S A s.heap H locs → lv_has ls 4 [(1, .int x1_2), (0, .ref (ad 0))] → W p l e (headSpec wsX3_renewLeasts rm_X3_renewLeasts).room s m args below meth c H locs 0 0 (MQ below (va_Qv post (fun u t => qB (dC, dI) (tysA cI cZ cJ cL) A (wTT cI cZ cJ nl nn ad ra S u) t) A) args s 0 0 A) (F0 m 2 ls []) := by
    intro n_3
    induction n_3 with
    | zero => intro _ _ hw; exact hw.elim
    | succ n_3 ih2 =>
      intro T_1 x1_2 hw H locs ls hP hD hS hl
      unfold wp_X3_renewLeasts_L2 at hw
      refine lv_iload_n hx hb dX3_renewLeasts_2 rfl (lv_at hl 0 rfl) ?_
      refine lv_aload_n hx hb dX3_renewLeasts_3 rfl (lv_at hl 1 rfl) ?_
      refine va_get (D := (dC, dI)) (ci := 3) (v := .ref (ad 1)) (C := RX3) (T := TX3) (N := 7) hx hb hT inX3 hown hK hP 0 rfl rfl 0 (by decide) (hT _ k_0) (fun _ h9 => h9) rfl dX3_renewLeasts_4 ?_
      refine va_get (D := (dC, dI)) (ci := 1) (v := .int S.1.2.2.2.1) (C := RX1) (T := TX1) (N := 9) hx hb hT inX1 hown hK hP 1 rfl rfl 3 (by decide) (hT _ k_3) (fun _ h9 => h9) rfl dX3_renewLeasts_7 ?_
      refine lv_icmp_ge (tgt := 83) hx hb dX3_renewLeasts_10 (by decide) (fun c_4 => ?_) (fun c_4 => ?_)
      · have hw := hw.1 c_4
        exact hx2 T_1 x1_2 hw _ _ _ hP hD hS (lv_sub hl [0, 1] rfl)
      · have hw := hw.2 c_4
        refine lv_iconst (v := 0) hx hb dX3_renewLeasts_13 (by decide) ?_
        refine lv_istore_n (lv' := [(2, .int 0), (1, .int x1_2), (0, .ref (ad 0))]) hx hb dX3_renewLeasts_14 rfl hl (by decide) rfl (fun ls hl => ?_)
        obtain ⟨n_7, hw⟩ := hw
        obtain ⟨ex15, eex15⟩ : ∃ z : vTT → Int32 → Prop, z = (fun (T_5 : vTT) (x2_6 : Int32) => ∀ x1_8 : Int32, x1_8 = x1_2 + 1 → (wp_X3_renewLeasts_L2 post ex2 nl nn S n_3 T_5 x1_8)) := ⟨_, rfl⟩
        rw [← eex15] at hw
        have hx15 : ∀ (T_5 : vTT) (x2_6 : Int32), ex15 T_5 x2_6 → ∀ (H : Heap) (locs : List Loc) (ls : Array Slot), va_P (dC, dI) vwCl (wTT cI cZ cJ nl nn ad ra S T_5) H → va_D A (wTT cI cZ cJ nl nn ad ra S T_5) → va_S A s.heap H locs → lv_has ls 4 [(2, .int x2_6), (1, .int x1_2), (0, .ref (ad 0))] → W p l e (headSpec wsX3_renewLeasts rm_X3_renewLeasts).room s m args below meth c H locs 0 0 (MQ below (va_Qv post (fun u t => qB (dC, dI) (tysA cI cZ cJ cL) A (wTT cI cZ cJ nl nn ad ra S u) t) A) args s 0 0 A) (F0 m 77 ls []) := by
          intro T_5 x2_6 hw H locs ls hP hD hS hl
          rw [eex15] at hw
          try dsimp only at hw
          obtain ⟨x1_8, ex1_8⟩ : ∃ y : Int32, y = x1_2 + 1 := ⟨_, rfl⟩
          have hw := hw x1_8 ex1_8
          refine lv_iinc (v := x1_8) (lv' := [(1, .int x1_8), (2, .int x2_6), (0, .ref (ad 0))]) hx hb dX3_renewLeasts_77 hl (k := 1) rfl (by rw [ex1_8]; rfl) (by decide) rfl (fun ls hl => ?_)
          refine lv_goto (tgt := 2) hx hb dX3_renewLeasts_80 (by decide) ?_
          exact ih2 T_5 x1_8 hw _ _ _ hP hD hS (lv_sub hl [0, 2] rfl)
        have hlp15 : ∀ (n_7 : Nat) (T_5 : vTT) (x2_6 : Int32), wp_X3_renewLeasts_L15 post ex15 nl nn S x1_2 n_7 T_5 x2_6 → ∀ (H : Heap) (locs : List Loc) (ls : Array Slot), va_P (dC, dI) vwCl (wTT cI cZ cJ nl nn ad ra S T_5) H → va_D A (wTT cI cZ cJ nl nn ad ra S T_5) → va_S A s.heap H locs → lv_has ls 4 [(2, .int x2_6), (1, .int x1_2), (0, .ref (ad 0))] → W p l e (headSpec wsX3_renewLeasts rm_X3_renewLeasts).room s m args below meth c H locs 0 0 (MQ below (va_Qv post (fun u t => qB (dC, dI) (tysA cI cZ cJ cL) A (wTT cI cZ cJ nl nn ad ra S u) t) A) args s 0 0 A) (F0 m 15 ls []) := by
          intro n_7
          induction n_7 with
          | zero => intro _ _ hw; exact hw.elim
          | succ n_7 ih15 =>
            intro T_5 x2_6 hw H locs ls hP hD hS hl
            unfold wp_X3_renewLeasts_L15 at hw
            refine lv_iload_n hx hb dX3_renewLeasts_15 rfl (lv_at hl 0 rfl) ?_
            refine lv_aload_n hx hb dX3_renewLeasts_16 rfl (lv_at hl 2 rfl) ?_
            refine va_get (D := (dC, dI)) (ci := 3) (v := .ref (ad 1)) (C := RX3) (T := TX3) (N := 7) hx hb hT inX3 hown hK hP 0 rfl rfl 0 (by decide) (hT _ k_0) (fun _ h9 => h9) rfl dX3_renewLeasts_17 ?_
            refine va_get (D := (dC, dI)) (ci := 1) (v := .ref (ad 3)) (C := RX1) (T := TX1) (N := 9) hx hb hT inX1 hown hK hP 1 rfl rfl 6 (by decide) (hT _ k_141) (fun _ h9 => h9) rfl dX3_renewLeasts_20 ?_
            refine lv_iload_n hx hb dX3_renewLeasts_23 rfl (lv_at hl 1 rfl) ?_
            obtain ⟨h_9, hw⟩ := hw
            refine va_iald hx hb hK hP 3 0 rfl rfl h_9 dX3_renewLeasts_24 ?_
            refine lv_icmp_ge (tgt := 77) hx hb dX3_renewLeasts_25 (by decide) (fun c_10 => ?_) (fun c_10 => ?_)
            · have hw := hw.1 c_10
              exact hx15 T_5 x2_6 hw _ _ _ hP hD hS (lv_sub hl [0, 1, 2] rfl)
            · have hw := hw.2 c_10
              refine lv_iconst (v := 0) hx hb dX3_renewLeasts_28 (by decide) ?_
              refine lv_istore_n (lv' := [(3, .int 0), (2, .int x2_6), (1, .int x1_2), (0, .ref (ad 0))]) hx hb dX3_renewLeasts_29 rfl hl (by decide) rfl (fun ls hl => ?_)
              obtain ⟨n_13, hw⟩ := hw
              obtain ⟨ex30, eex30⟩ : ∃ z : vTT → Int32 → Prop, z = (fun (T_11 : vTT) (x3_12 : Int32) => ∀ x2_14 : Int32, x2_14 = x2_6 + 1 → (wp_X3_renewLeasts_L15 post ex15 nl nn S x1_2 n_7 T_11 x2_14)) := ⟨_, rfl⟩
              rw [← eex30] at hw
              have hx30 : ∀ (T_11 : vTT) (x3_12 : Int32), ex30 T_11 x3_12 → ∀ (H : Heap) (locs : List Loc) (ls : Array Slot), va_P (dC, dI) vwCl (wTT cI cZ cJ nl nn ad ra S T_11) H → va_D A (wTT cI cZ cJ nl nn ad ra S T_11) → va_S A s.heap H locs → lv_has ls 4 [(3, .int x3_12), (2, .int x2_6), (1, .int x1_2), (0, .ref (ad 0))] → W p l e (headSpec wsX3_renewLeasts rm_X3_renewLeasts).room s m args below meth c H locs 0 0 (MQ below (va_Qv post (fun u t => qB (dC, dI) (tysA cI cZ cJ cL) A (wTT cI cZ cJ nl nn ad ra S u) t) A) args s 0 0 A) (F0 m 71 ls []) := by
                intro T_11 x3_12 hw H locs ls hP hD hS hl
                rw [eex30] at hw
                try dsimp only at hw
                obtain ⟨x2_14, ex2_14⟩ : ∃ y : Int32, y = x2_6 + 1 := ⟨_, rfl⟩
                have hw := hw x2_14 ex2_14
                refine lv_iinc (v := x2_14) (lv' := [(2, .int x2_14), (3, .int x3_12), (1, .int x1_2), (0, .ref (ad 0))]) hx hb dX3_renewLeasts_71 hl (k := 1) rfl (by rw [ex2_14]; rfl) (by decide) rfl (fun ls hl => ?_)
                refine lv_goto (tgt := 15) hx hb dX3_renewLeasts_74 (by decide) ?_
                exact ih15 T_11 x2_14 hw _ _ _ hP hD hS (lv_sub hl [0, 2, 3] rfl)
              have hlp30 : ∀ (n_13 : Nat) (T_11 : vTT) (x3_12 : Int32), wp_X3_renewLeasts_L30 post ex30 nl nn S x2_6 x1_2 n_13 T_11 x3_12 → ∀ (H : Heap) (locs : List Loc) (ls : Array Slot), va_P (dC, dI) vwCl (wTT cI cZ cJ nl nn ad ra S T_11) H → va_D A (wTT cI cZ cJ nl nn ad ra S T_11) → va_S A s.heap H locs → lv_has ls 4 [(3, .int x3_12), (2, .int x2_6), (1, .int x1_2), (0, .ref (ad 0))] → W p l e (headSpec wsX3_renewLeasts rm_X3_renewLeasts).room s m args below meth c H locs 0 0 (MQ below (va_Qv post (fun u t => qB (dC, dI) (tysA cI cZ cJ cL) A (wTT cI cZ cJ nl nn ad ra S u) t) A) args s 0 0 A) (F0 m 30 ls []) := by
                intro n_13
                induction n_13 with
                | zero => intro _ _ hw; exact hw.elim
                | succ n_13 ih30 =>
                  intro T_11 x3_12 hw H locs ls hP hD hS hl
                  unfold wp_X3_renewLeasts_L30 at hw
                  refine lv_iload_n hx hb dX3_renewLeasts_30 rfl (lv_at hl 0 rfl) ?_
                  refine lv_aload_n hx hb dX3_renewLeasts_31 rfl (lv_at hl 3 rfl) ?_
                  refine va_get (D := (dC, dI)) (ci := 3) (v := .ref (ad 1)) (C := RX3) (T := TX3) (N := 7) hx hb hT inX3 hown hK hP 0 rfl rfl 0 (by decide) (hT _ k_0) (fun _ h9 => h9) rfl dX3_renewLeasts_32 ?_
                  refine va_get (D := (dC, dI)) (ci := 1) (v := .ref (ad 2)) (C := RX1) (T := TX1) (N := 9) hx hb hT inX1 hown hK hP 1 rfl rfl 5 (by decide) (hT _ k_142) (fun _ h9 => h9) rfl dX3_renewLeasts_35 ?_
                  refine lv_iload_n hx hb dX3_renewLeasts_38 rfl (lv_at hl 2 rfl) ?_
                  obtain ⟨h_15, hw⟩ := hw
                  refine va_iald hx hb hK hP 2 0 rfl rfl h_15 dX3_renewLeasts_39 ?_
                  refine lv_icmp_ge (tgt := 71) hx hb dX3_renewLeasts_40 (by decide) (fun c_16 => ?_) (fun c_16 => ?_)
                  · have hw := hw.1 c_16
                    exact hx30 T_11 x3_12 hw _ _ _ hP hD hS (lv_sub hl [0, 1, 2, 3] rfl)
                  · have hw := hw.2 c_16
                    refine lv_aload_n hx hb dX3_renewLeasts_43 rfl (lv_at hl 3 rfl) ?_
                    refine va_get (D := (dC, dI)) (ci := 3) (v := .ref (ad 9)) (C := RX3) (T := TX3) (N := 7) hx hb hT inX3 hown hK hP 0 rfl rfl 1 (by decide) (hT _ k_83) (fun _ h9 => h9) rfl dX3_renewLeasts_44 ?_
                    refine lv_aload_n hx hb dX3_renewLeasts_47 rfl (lv_at hl 3 rfl) ?_
                    refine va_get (D := (dC, dI)) (ci := 3) (v := .ref (ad 1)) (C := RX3) (T := TX3) (N := 7) hx hb hT inX3 hown hK hP 0 rfl rfl 0 (by decide) (hT _ k_0) (fun _ h9 => h9) rfl dX3_renewLeasts_48 ?_
                    refine lv_iload_n hx hb dX3_renewLeasts_51 rfl (lv_at hl 2 rfl) ?_
                    refine lv_iload_n hx hb dX3_renewLeasts_52 rfl (lv_at hl 0 rfl) ?_
                    refine lv_iload_n hx hb dX3_renewLeasts_53 rfl (lv_at hl 1 rfl) ?_
                    have hPc := hP.sub (ws' := wSH cI cJ nl (ad 1) (ad 2) (ad 3) (ad 4) (ad 5) ra S) [1, 2, 3, 4, 5, 6, 7, 8] rfl
                    refine vp_callSi (W.runV (As := [.int x1_2, .int x3_12, .int x2_6]) (rest := [.ref (ad 9)]) ⟨hx, hb, hml, hown, hT⟩ (met_X1_nodeAt l dC dI cI cZ cJ cL (ad 1) (ad 2) (ad 3) (ad 4) (ad 5) ra _ nl S  x1_2 x3_12 x2_6 hw) (cwV 3 hT (gV k_64 k_66 k_67 k_59 k_65) rfl rfl rfl (by decide +kernel) ⟨(Nat.le_of_ble_eq_true rfl), (Nat.le_of_ble_eq_true rfl)⟩) ⟨bl_R, va_recv hK hPc (ci := 1) (q0 := 0) rfl rfl, fun U hU hW => ⟨rfl, by rw [hU]; exact hPc, va_K.moved hW.alike hK⟩⟩ rfl rfl hl.1 rfl (lv_room (Nat.le_of_ble_eq_true rfl)) dX3_renewLeasts_54 ⟨Nat.le_of_ble_eq_true rfl, Nat.le_of_ble_eq_true rfl⟩) (fun r_17 hw => ?_)
                    try dsimp only at hw
                    refine lv_aload_n hx hb dX3_renewLeasts_57 rfl (lv_at hl 3 rfl) ?_
                    refine lv_iload_n hx hb dX3_renewLeasts_58 rfl (lv_at hl 2 rfl) ?_
                    refine lv_iload_n hx hb dX3_renewLeasts_59 rfl (lv_at hl 0 rfl) ?_
                    refine lv_iload_n hx hb dX3_renewLeasts_60 rfl (lv_at hl 1 rfl) ?_
                    have hPc := hP
                    refine vp_callSi (W.runV (As := [.int x1_2, .int x3_12, .int x2_6]) (rest := [.int r_17, .ref (ad 9)]) ⟨hx, hb, hml, hown, hT⟩ (met_X3_leastOfChildren l dC dI cI cZ cJ cL ad ra _ nl nn S T_11 x1_2 x3_12 x2_6 hw) (cwV 3 hT (gV k_143 k_145 k_146 k_51 k_144) rfl rfl rfl (by decide +kernel) ⟨(Nat.le_of_ble_eq_true rfl), (Nat.le_of_ble_eq_true rfl)⟩) ⟨bl_R, va_recv hK hPc (ci := 3) (q0 := 0) rfl rfl, fun U hU hW => ⟨rfl, by rw [hU]; exact hPc, va_K.moved hW.alike hK⟩⟩ rfl rfl hl.1 rfl (lv_room (Nat.le_of_ble_eq_true rfl)) dX3_renewLeasts_61 ⟨Nat.le_of_ble_eq_true rfl, Nat.le_of_ble_eq_true rfl⟩) (fun r_18 hw => ?_)
                    try dsimp only at hw
                    obtain ⟨h_19, hw⟩ := hw
                    refine va_iast hx hb hK hP hD hS 9 0 rfl rfl h_19 dX3_renewLeasts_64 (fun H locs hP hD hS => ?_)
                    have hP : va_P (dC, dI) vwCl (wTT cI cZ cJ nl nn ad ra S ((upd T_11.1 r_17.toNatClampNeg r_18), T_11.2.1, T_11.2.2.1, T_11.2.2.2.1, T_11.2.2.2.2.1, T_11.2.2.2.2.2)) H := hP
                    have hD : va_D A (wTT cI cZ cJ nl nn ad ra S ((upd T_11.1 r_17.toNatClampNeg r_18), T_11.2.1, T_11.2.2.1, T_11.2.2.2.1, T_11.2.2.2.2.1, T_11.2.2.2.2.2)) := hD
                    obtain ⟨x3_20, ex3_20⟩ : ∃ y : Int32, y = x3_12 + 1 := ⟨_, rfl⟩
                    have hw := hw x3_20 ex3_20
                    refine lv_iinc (v := x3_20) (lv' := [(3, .int x3_20), (2, .int x2_6), (1, .int x1_2), (0, .ref (ad 0))]) hx hb dX3_renewLeasts_65 hl (k := 0) rfl (by rw [ex3_20]; rfl) (by decide) rfl (fun ls hl => ?_)
                    refine lv_goto (tgt := 30) hx hb dX3_renewLeasts_68 (by decide) ?_
                    exact ih30 ((upd T_11.1 r_17.toNatClampNeg r_18), T_11.2.1, T_11.2.2.1, T_11.2.2.2.1, T_11.2.2.2.2.1, T_11.2.2.2.2.2) x3_20 hw _ _ _ hP hD hS (lv_sub hl [0, 1, 2, 3] rfl)
              exact hlp30 n_13 T_5 0 hw _ _ _ hP hD hS (lv_sub hl [0, 1, 2, 3] rfl)
        exact hlp15 n_7 T_1 0 hw _ _ _ hP hD hS (lv_sub hl [0, 1, 2] rfl)
  exact hlp2 n_3 T 1 hw _ _ _ hP hD hS (lv_sub hl [0, 1] rfl)
def wp_X3_costOfNode (post : Int32 → Prop) (nl : Nat) (nn : Nat) (S : vSH) (T : vTT) (x1 : Int32) (x2 : Int32) (x3 : Int32) : Prop := wp_X3_hasBits (fun r_1 => ((r_1 = 0 → (post 0)) ∧ (¬ r_1 = 0 → (wp_X3_boundAfter (fun r_3 => ∀ x4_4 : Int32, x4_4 = r_3 - x2 → (vp_in x1 nn ∧ (((x3 ≤ (T.1 x1.toNatClampNeg) → (post x4_4)) ∧ (¬ x3 ≤ (T.1 x1.toNatClampNeg) → (post (x4_4 + 1))))))) nl nn S T x1 x2 x3)))) nl nn S T x1 x2 x3
abbrev rm_X3_costOfNode : Room := { frames := 2, cells := 0, slots := 0, locals := 46 }
set_option maxHeartbeats 4000000 in
set_option maxRecDepth 100000 in
theorem met_X3_costOfNode (l : Launch) (dC : Nat → ClassId) (dI : Nat → Nat → Nat) (cI cZ cJ cL : ClassId) (ad ra : Nat → Nat) (post : Int32 → Prop) (nl : Nat) (nn : Nat) (S : vSH) (T : vTT) (x1 : Int32) (x2 : Int32) (x3 : Int32) (hw : wp_X3_costOfNode post nl nn S T x1 x2 x3) : Met l yX3_costOfNode wsX3_costOfNode rm_X3_costOfNode (pcR (dC, dI) (tysA cI cZ cJ cL) (wTT cI cZ cJ nl nn ad ra S T) [.ref (ad 0), .int x1, .int x2, .int x3]) (vp_Si post) 0 0 (fun _ => False) := by
  refine Met.ofW (cc := cX3_costOfNode) (maxL := 5) (ret := (some .int)) (by decide) rfl ?_
  intro p e s m args below meth c s₁ Bd hml hv
  obtain ⟨hargs, hP, hK⟩ := hv
  have hx := Bd.exec
  have hb := Bd.bytes
  have hr := Bd.returns
  have hts := atoms_spec (ws := wsX3_costOfNode) Bd.pre
  have hT : ∀ w ∈ WALL, w.before args s = true := fun w h => hts w (List.mem_cons_of_mem _ h)
  have hown : s.vm.findClass RX3 = some m.cls := findClass_of_methodNamed Bd.named
  have hlocks := Bd.notSynchronized
  have hP : va_P (dC, dI) vwCl (wTT cI cZ cJ nl nn ad ra S T) s.heap := hP
  have hl := lv_entry ([.ref (ad 0), .int x1, .int x2, .int x3]) (n := 5) (Nat.le_of_ble_eq_true rfl)
  rw [show entryFrame m args 5 = F0 m 0 _ [] from by rw [hargs]; exact lg_entry_eq m ([.ref (ad 0), .int x1, .int x2, .int x3]) 5]
  generalize (lg_sl ([.ref (ad 0), .int x1, .int x2, .int x3]) ++ List.replicate (5 - (lg_sl ([.ref (ad 0), .int x1, .int x2, .int x3])).length) Slot.unset).toArray = ls at hl ⊢
  have hl : lv_has ls 5 [(0, .ref (ad 0)), (1, .int x1), (2, .int x2), (3, .int x3)] := hl
  generalize hH : s.heap = H at hP ⊢
  unfold wp_X3_costOfNode at hw
  refine lv_aload_n hx hb dX3_costOfNode_0 rfl (lv_at hl 0 rfl) ?_
  refine lv_iload_n hx hb dX3_costOfNode_1 rfl (lv_at hl 1 rfl) ?_
  refine lv_iload_n hx hb dX3_costOfNode_2 rfl (lv_at hl 2 rfl) ?_
  refine lv_iload_n hx hb dX3_costOfNode_3 rfl (lv_at hl 3 rfl) ?_
  have hPc := hP
  refine vp_callSi (W.runV (As := [.int x1, .int x2, .int x3]) (rest := []) ⟨hx, hb, hml, hown, hT⟩ (met_X3_hasBits l dC dI cI cZ cJ cL ad ra _ nl nn S T x1 x2 x3 hw) (cwV 3 hT (gV k_88 k_90 k_91 k_51 k_89) rfl rfl rfl (by decide +kernel) ⟨(Nat.le_of_ble_eq_true rfl), (Nat.le_of_ble_eq_true rfl)⟩) ⟨bl_R, va_recv hK hPc (ci := 3) (q0 := 0) rfl rfl, fun U hU hW => ⟨rfl, by rw [hU]; exact hPc, va_K.moved hW.alike hK⟩⟩ rfl rfl hl.1 rfl (lv_room (Nat.le_of_ble_eq_true rfl)) dX3_costOfNode_4 ⟨Nat.le_of_ble_eq_true rfl, Nat.le_of_ble_eq_true rfl⟩) (fun r_1 hw => ?_)
  try dsimp only at hw
  refine lv_if_ne (tgt := 12) hx hb dX3_costOfNode_7 (by decide) (fun c_2 => ?_) (fun c_2 => ?_)
  · have hw := hw.2 c_2
    refine lv_aload_n hx hb dX3_costOfNode_12 rfl (lv_at hl 0 rfl) ?_
    refine lv_iload_n hx hb dX3_costOfNode_13 rfl (lv_at hl 1 rfl) ?_
    refine lv_iload_n hx hb dX3_costOfNode_14 rfl (lv_at hl 2 rfl) ?_
    refine lv_iload_n hx hb dX3_costOfNode_15 rfl (lv_at hl 3 rfl) ?_
    have hPc := hP
    refine vp_callSi (W.runV (As := [.int x1, .int x2, .int x3]) (rest := []) ⟨hx, hb, hml, hown, hT⟩ (met_X3_boundAfter l dC dI cI cZ cJ cL ad ra _ nl nn S T x1 x2 x3 hw) (cwV 3 hT (gV k_147 k_149 k_150 k_51 k_148) rfl rfl rfl (by decide +kernel) ⟨(Nat.le_of_ble_eq_true rfl), (Nat.le_of_ble_eq_true rfl)⟩) ⟨bl_R, va_recv hK hPc (ci := 3) (q0 := 0) rfl rfl, fun U hU hW => ⟨rfl, by rw [hU]; exact hPc, va_K.moved hW.alike hK⟩⟩ rfl rfl hl.1 rfl (lv_room (Nat.le_of_ble_eq_true rfl)) dX3_costOfNode_16 ⟨Nat.le_of_ble_eq_true rfl, Nat.le_of_ble_eq_true rfl⟩) (fun r_3 hw => ?_)
    try dsimp only at hw
    refine lv_iload_n hx hb dX3_costOfNode_19 rfl (lv_at hl 2 rfl) ?_
    refine lv_isub hx hb dX3_costOfNode_20 ?_
    refine lv_topi (fun x4_4 ex4_4 => ?_)
    have hw := hw x4_4 ex4_4
    refine lv_istore (lv' := [(4, .int x4_4), (0, .ref (ad 0)), (1, .int x1), (2, .int x2), (3, .int x3)]) hx hb dX3_costOfNode_21 hl (by decide) rfl (fun ls hl => ?_)
    refine lv_aload_n hx hb dX3_costOfNode_23 rfl (lv_at hl 1 rfl) ?_
    refine va_get (D := (dC, dI)) (ci := 3) (v := .ref (ad 9)) (C := RX3) (T := TX3) (N := 7) hx hb hT inX3 hown hK hP 0 rfl rfl 1 (by decide) (hT _ k_83) (fun _ h9 => h9) rfl dX3_costOfNode_24 ?_
    refine lv_iload_n hx hb dX3_costOfNode_27 rfl (lv_at hl 2 rfl) ?_
    obtain ⟨h_5, hw⟩ := hw
    refine va_iald hx hb hK hP 9 0 rfl rfl h_5 dX3_costOfNode_28 ?_
    refine lv_iload_n hx hb dX3_costOfNode_29 rfl (lv_at hl 4 rfl) ?_
    refine lv_icmp_ge (tgt := 40) hx hb dX3_costOfNode_30 (by decide) (fun c_6 => ?_) (fun c_6 => ?_)
    · have hw := hw.1 c_6
      refine lv_iload hx hb dX3_costOfNode_40 (lv_at hl 0 rfl) ?_
      exact W.iret (v := x4_4) hx hb hr (fun t ht hW => ⟨x4_4, rfl, hw, ht.trans hH.symm⟩) (fun q h => by cases h) dX3_costOfNode_42
    · have hw := hw.2 c_6
      refine lv_iload hx hb dX3_costOfNode_33 (lv_at hl 0 rfl) ?_
      refine lv_iconst (v := 1) hx hb dX3_costOfNode_35 (by decide) ?_
      refine lv_iadd hx hb dX3_costOfNode_36 ?_
      refine lv_goto (tgt := 42) hx hb dX3_costOfNode_37 (by decide) ?_
      exact W.iret (v := (x4_4 + 1)) hx hb hr (fun t ht hW => ⟨(x4_4 + 1), rfl, hw, ht.trans hH.symm⟩) (fun q h => by cases h) dX3_costOfNode_42
  · have hw := hw.1 c_2
    refine lv_iconst (v := 0) hx hb dX3_costOfNode_10 (by decide) ?_
    exact W.iret (v := 0) hx hb hr (fun t ht hW => ⟨0, rfl, hw, ht.trans hH.symm⟩) (fun q h => by cases h) dX3_costOfNode_11
def wp_X3_tellNode_L12 (post : vTT → Prop) (ex12 : vTT → Int32 → Prop) (nl : Nat) (nn : Nat) (S : vSH) (r_1 : Int32) (x1 : Int32) (x2 : Int32) (x3 : Int32) : Nat → vTT → Int32 → Prop
  | 0, _, _ => False
  | n_4 + 1, T_2, x5_3 => ((r_1 ≤ x5_3 → (ex12 T_2 x5_3)) ∧ (¬ r_1 ≤ x5_3 → (wp_X0_append (fun B_15 => ∀ x5_16 : Int32, x5_16 = x5_3 + 1 → (wp_X3_tellNode_L12 post ex12 nl nn S r_1 x1 x2 x3 n_4 (T_2.1, T_2.2.1, T_2.2.2.1, B_15, T_2.2.2.2.2.1, T_2.2.2.2.2.2) x5_16))  T_2.2.2.2.1 0)))
def wp_X3_tellNode (post : vTT → Prop) (nl : Nat) (nn : Nat) (S : vSH) (T : vTT) (x1 : Int32) (x2 : Int32) (x3 : Int32) : Prop := wp_X3_boundAfter (fun r_1 => ∃ n_4 : Nat, wp_X3_tellNode_L12 post (fun (T_2 : vTT) (x5_3 : Int32) => wp_X3_hasBits (fun r_5 => ((r_5 = 0 → (vp_in x1 nn ∧ (post (T_2.1, ((upd T_2.2.1.1 x1.toNatClampNeg r_1), T_2.2.1.2.1, T_2.2.1.2.2), T_2.2.2.1, T_2.2.2.2.1, T_2.2.2.2.2.1, T_2.2.2.2.2.2)))) ∧ (¬ r_5 = 0 → (vp_in x1 nn ∧ (((x3 ≤ (T_2.1 x1.toNatClampNeg) → (vp_in x1 nn ∧ (post (T_2.1, ((upd T_2.2.1.1 x1.toNatClampNeg r_1), T_2.2.1.2.1, T_2.2.1.2.2), T_2.2.2.1, T_2.2.2.2.1, T_2.2.2.2.2.1, T_2.2.2.2.2.2)))) ∧ (¬ x3 ≤ (T_2.1 x1.toNatClampNeg) → (wp_X0_append (fun B_11 => wp_X2_find (fun D_12 => vp_in x1 nn ∧ (post (T_2.1, ((upd D_12.1 x1.toNatClampNeg r_1), D_12.2.1, D_12.2.2), T_2.2.2.1, B_11, T_2.2.2.2.2.1, T_2.2.2.2.2.2))) nn T_2.2.1 x1)  T_2.2.2.2.1 1)))))))) nl nn S T_2 x1 x2 x3) nl nn S r_1 x1 x2 x3 n_4 T x2) nl nn S T x1 x2 x3
abbrev rm_X3_tellNode : Room := { frames := 2, cells := 0, slots := 0, locals := 46 }
set_option maxHeartbeats 4000000 in
set_option maxRecDepth 100000 in
theorem met_X3_tellNode (l : Launch) (dC : Nat → ClassId) (dI : Nat → Nat → Nat) (cI cZ cJ cL : ClassId) (ad ra : Nat → Nat) (sz : Nat) (post : vTT → Prop) (nl : Nat) (nn : Nat) (S : vSH) (T : vTT) (x1 : Int32) (x2 : Int32) (x3 : Int32) (hw : wp_X3_tellNode post nl nn S T x1 x2 x3) : Met l yX3_tellNode wsX3_tellNode rm_X3_tellNode (pcW (dC, dI) (tysA cI cZ cJ cL) (wTT cI cZ cJ nl nn ad ra S T) sz [.ref (ad 0), .int x1, .int x2, .int x3]) (va_Qv post (fun u t => qB (dC, dI) (tysA cI cZ cJ cL) (va_A (wTT cI cZ cJ nl nn ad ra S T) sz) (wTT cI cZ cJ nl nn ad ra S u) t) (va_A (wTT cI cZ cJ nl nn ad ra S T) sz)) 0 0 (va_A (wTT cI cZ cJ nl nn ad ra S T) sz) := by
  refine Met.ofW (cc := cX3_tellNode) (maxL := 6) (ret := none) (by decide) rfl ?_
  intro p e s m args below meth c s₁ Bd hml hv
  obtain ⟨hargs, hsz, hP, hK, hD0⟩ := hv
  have hx := Bd.exec
  have hb := Bd.bytes
  have hr := Bd.returns
  have hts := atoms_spec (ws := wsX3_tellNode) Bd.pre
  have hT : ∀ w ∈ WALL, w.before args s = true := fun w h => hts w (List.mem_cons_of_mem _ h)
  have hown : s.vm.findClass RX3 = some m.cls := findClass_of_methodNamed Bd.named
  have hlocks := Bd.notSynchronized
  subst hsz
  have hD := hD0.self (sz := s.heap.size)
  generalize hAe : va_A (wTT cI cZ cJ nl nn ad ra S T) s.heap.size = A at hD ⊢
  have hA : ∀ q : Nat, s.heap.size ≤ q → A q := fun q h => by rw [← hAe]; exact Or.inr h
  have hS : va_S A s.heap s.heap [] := va_S.rf
  have hP : va_P (dC, dI) vwCl (wTT cI cZ cJ nl nn ad ra S T) s.heap := hP
  have hl := lv_entry ([.ref (ad 0), .int x1, .int x2, .int x3]) (n := 6) (Nat.le_of_ble_eq_true rfl)
  rw [show entryFrame m args 6 = F0 m 0 _ [] from by rw [hargs]; exact lg_entry_eq m ([.ref (ad 0), .int x1, .int x2, .int x3]) 6]
  generalize (lg_sl ([.ref (ad 0), .int x1, .int x2, .int x3]) ++ List.replicate (6 - (lg_sl ([.ref (ad 0), .int x1, .int x2, .int x3])).length) Slot.unset).toArray = ls at hl ⊢
  have hl : lv_has ls 6 [(0, .ref (ad 0)), (1, .int x1), (2, .int x2), (3, .int x3)] := hl
  obtain ⟨H, hH⟩ : ∃ z : Heap, z = s.heap := ⟨_, rfl⟩
  obtain ⟨locs, hlocs⟩ : ∃ z : List Loc, z = [] := ⟨_, rfl⟩
  rw [show W p l e (headSpec wsX3_tellNode rm_X3_tellNode).room s m args below meth c s.heap [] 0 0 = W p l e (headSpec wsX3_tellNode rm_X3_tellNode).room s m args below meth c H locs 0 0 from by rw [hH, hlocs]]
  have hP : va_P (dC, dI) vwCl (wTT cI cZ cJ nl nn ad ra S T) H := by rw [hH]; exact hP
  have hS : va_S A s.heap H locs := by rw [hH, hlocs]; exact hS
  unfold wp_X3_tellNode at hw
  refine lv_aload_n hx hb dX3_tellNode_0 rfl (lv_at hl 0 rfl) ?_
  refine lv_iload_n hx hb dX3_tellNode_1 rfl (lv_at hl 1 rfl) ?_
  refine lv_iload_n hx hb dX3_tellNode_2 rfl (lv_at hl 2 rfl) ?_
  refine lv_iload_n hx hb dX3_tellNode_3 rfl (lv_at hl 3 rfl) ?_
  have hPc := hP
  refine vp_callSi (W.runV (As := [.int x1, .int x2, .int x3]) (rest := []) ⟨hx, hb, hml, hown, hT⟩ (met_X3_boundAfter l dC dI cI cZ cJ cL ad ra _ nl nn S T x1 x2 x3 hw) (cwV 3 hT (gV k_147 k_149 k_150 k_51 k_148) rfl rfl rfl (by decide +kernel) ⟨(Nat.le_of_ble_eq_true rfl), (Nat.le_of_ble_eq_true rfl)⟩) ⟨bl_R, va_recv hK hPc (ci := 3) (q0 := 0) rfl rfl, fun U hU hW => ⟨rfl, by rw [hU]; exact hPc, va_K.moved hW.alike hK⟩⟩ rfl rfl hl.1 rfl (lv_room (Nat.le_of_ble_eq_true rfl)) dX3_tellNode_4 ⟨Nat.le_of_ble_eq_true rfl, Nat.le_of_ble_eq_true rfl⟩) (fun r_1 hw => ?_)
  try dsimp only at hw
  refine lv_istore (lv' := [(4, .int r_1), (0, .ref (ad 0)), (1, .int x1), (2, .int x2), (3, .int x3)]) hx hb dX3_tellNode_7 hl (by decide) rfl (fun ls hl => ?_)
  refine lv_iload_n hx hb dX3_tellNode_9 rfl (lv_at hl 3 rfl) ?_
  refine lv_istore (lv' := [(5, .int x2), (4, .int r_1), (0, .ref (ad 0)), (1, .int x1), (2, .int x2), (3, .int x3)]) hx hb dX3_tellNode_10 hl (by decide) rfl (fun ls hl => ?_)
  obtain ⟨n_4, hw⟩ := hw
  obtain ⟨ex12, eex12⟩ : ∃ z : vTT → Int32 → Prop, z = (fun (T_2 : vTT) (x5_3 : Int32) => wp_X3_hasBits (fun r_5 => ((r_5 = 0 → (vp_in x1 nn ∧ (post (T_2.1, ((upd T_2.2.1.1 x1.toNatClampNeg r_1), T_2.2.1.2.1, T_2.2.1.2.2), T_2.2.2.1, T_2.2.2.2.1, T_2.2.2.2.2.1, T_2.2.2.2.2.2)))) ∧ (¬ r_5 = 0 → (vp_in x1 nn ∧ (((x3 ≤ (T_2.1 x1.toNatClampNeg) → (vp_in x1 nn ∧ (post (T_2.1, ((upd T_2.2.1.1 x1.toNatClampNeg r_1), T_2.2.1.2.1, T_2.2.1.2.2), T_2.2.2.1, T_2.2.2.2.1, T_2.2.2.2.2.1, T_2.2.2.2.2.2)))) ∧ (¬ x3 ≤ (T_2.1 x1.toNatClampNeg) → (wp_X0_append (fun B_11 => wp_X2_find (fun D_12 => vp_in x1 nn ∧ (post (T_2.1, ((upd D_12.1 x1.toNatClampNeg r_1), D_12.2.1, D_12.2.2), T_2.2.2.1, B_11, T_2.2.2.2.2.1, T_2.2.2.2.2.2))) nn T_2.2.1 x1)  T_2.2.2.2.1 1)))))))) nl nn S T_2 x1 x2 x3) := ⟨_, rfl⟩
  rw [← eex12] at hw
  have hx12 : ∀ (T_2 : vTT) (x5_3 : Int32), ex12 T_2 x5_3 → ∀ (H : Heap) (locs : List Loc) (ls : Array Slot), va_P (dC, dI) vwCl (wTT cI cZ cJ nl nn ad ra S T_2) H → va_D A (wTT cI cZ cJ nl nn ad ra S T_2) → va_S A s.heap H locs → lv_has ls 6 [(5, .int x5_3), (4, .int r_1), (0, .ref (ad 0)), (1, .int x1), (2, .int x2), (3, .int x3)] → W p l e (headSpec wsX3_tellNode rm_X3_tellNode).room s m args below meth c H locs 0 0 (MQ below (va_Qv post (fun u t => qB (dC, dI) (tysA cI cZ cJ cL) A (wTT cI cZ cJ nl nn ad ra S u) t) A) args s 0 0 A) (F0 m 33 ls []) := by
    intro T_2 x5_3 hw H locs ls hP hD hS hl
    rw [eex12] at hw
    try dsimp only at hw
    refine lv_aload_n hx hb dX3_tellNode_33 rfl (lv_at hl 2 rfl) ?_
    refine lv_iload_n hx hb dX3_tellNode_34 rfl (lv_at hl 3 rfl) ?_
    refine lv_iload_n hx hb dX3_tellNode_35 rfl (lv_at hl 4 rfl) ?_
    refine lv_iload_n hx hb dX3_tellNode_36 rfl (lv_at hl 5 rfl) ?_
    have hPc := hP
    refine vp_callSi (W.runV (As := [.int x1, .int x2, .int x3]) (rest := []) ⟨hx, hb, hml, hown, hT⟩ (met_X3_hasBits l dC dI cI cZ cJ cL ad ra _ nl nn S T_2 x1 x2 x3 hw) (cwV 3 hT (gV k_88 k_90 k_91 k_51 k_89) rfl rfl rfl (by decide +kernel) ⟨(Nat.le_of_ble_eq_true rfl), (Nat.le_of_ble_eq_true rfl)⟩) ⟨bl_R, va_recv hK hPc (ci := 3) (q0 := 0) rfl rfl, fun U hU hW => ⟨rfl, by rw [hU]; exact hPc, va_K.moved hW.alike hK⟩⟩ rfl rfl hl.1 rfl (lv_room (Nat.le_of_ble_eq_true rfl)) dX3_tellNode_37 ⟨Nat.le_of_ble_eq_true rfl, Nat.le_of_ble_eq_true rfl⟩) (fun r_5 hw => ?_)
    try dsimp only at hw
    refine lv_if_eq (tgt := 69) hx hb dX3_tellNode_40 (by decide) (fun c_6 => ?_) (fun c_6 => ?_)
    · have hw := hw.1 c_6
      refine lv_aload_n hx hb dX3_tellNode_69 rfl (lv_at hl 2 rfl) ?_
      refine va_get (D := (dC, dI)) (ci := 3) (v := .ref (ad 10)) (C := RX3) (T := TX3) (N := 7) hx hb hT inX3 hown hK hP 0 rfl rfl 2 (by decide) (hT _ k_8) (fun _ h9 => h9) rfl dX3_tellNode_70 ?_
      refine va_get (D := (dC, dI)) (ci := 2) (v := .ref (ad 11)) (C := RX2) (T := TX2) (N := 3) hx hb hT inX2 hown hK hP 10 rfl rfl 0 (by decide) (hT _ k_140) (fun _ h9 => h9) rfl dX3_tellNode_73 ?_
      refine lv_iload_n hx hb dX3_tellNode_76 rfl (lv_at hl 3 rfl) ?_
      refine lv_iload hx hb dX3_tellNode_77 (lv_at hl 1 rfl) ?_
      obtain ⟨h_7, hw⟩ := hw
      refine va_iast hx hb hK hP hD hS 11 0 rfl rfl h_7 dX3_tellNode_79 (fun H locs hP hD hS => ?_)
      have hP : va_P (dC, dI) vwCl (wTT cI cZ cJ nl nn ad ra S (T_2.1, ((upd T_2.2.1.1 x1.toNatClampNeg r_1), T_2.2.1.2.1, T_2.2.1.2.2), T_2.2.2.1, T_2.2.2.2.1, T_2.2.2.2.2.1, T_2.2.2.2.2.2)) H := hP
      have hD : va_D A (wTT cI cZ cJ nl nn ad ra S (T_2.1, ((upd T_2.2.1.1 x1.toNatClampNeg r_1), T_2.2.1.2.1, T_2.2.1.2.2), T_2.2.2.1, T_2.2.2.2.1, T_2.2.2.2.2.1, T_2.2.2.2.2.2)) := hD
      exact W.vret hx hb hr (fun t ht hW => ⟨⟨(T_2.1, ((upd T_2.2.1.1 x1.toNatClampNeg r_1), T_2.2.1.2.1, T_2.2.1.2.2), T_2.2.2.1, T_2.2.2.2.1, T_2.2.2.2.2.1, T_2.2.2.2.2.2), rfl, hw, by rw [ht]; exact hP, va_K.moved hW.alike hK, hD⟩, hS.F ht⟩) hS.2.2 dX3_tellNode_80
    · have hw := hw.2 c_6
      refine lv_aload_n hx hb dX3_tellNode_43 rfl (lv_at hl 2 rfl) ?_
      refine va_get (D := (dC, dI)) (ci := 3) (v := .ref (ad 9)) (C := RX3) (T := TX3) (N := 7) hx hb hT inX3 hown hK hP 0 rfl rfl 1 (by decide) (hT _ k_83) (fun _ h9 => h9) rfl dX3_tellNode_44 ?_
      refine lv_iload_n hx hb dX3_tellNode_47 rfl (lv_at hl 3 rfl) ?_
      obtain ⟨h_8, hw⟩ := hw
      refine va_iald hx hb hK hP 9 0 rfl rfl h_8 dX3_tellNode_48 ?_
      refine lv_iload_n hx hb dX3_tellNode_49 rfl (lv_at hl 5 rfl) ?_
      refine lv_icmp_ge (tgt := 69) hx hb dX3_tellNode_50 (by decide) (fun c_9 => ?_) (fun c_9 => ?_)
      · have hw := hw.1 c_9
        refine lv_aload_n hx hb dX3_tellNode_69 rfl (lv_at hl 2 rfl) ?_
        refine va_get (D := (dC, dI)) (ci := 3) (v := .ref (ad 10)) (C := RX3) (T := TX3) (N := 7) hx hb hT inX3 hown hK hP 0 rfl rfl 2 (by decide) (hT _ k_8) (fun _ h9 => h9) rfl dX3_tellNode_70 ?_
        refine va_get (D := (dC, dI)) (ci := 2) (v := .ref (ad 11)) (C := RX2) (T := TX2) (N := 3) hx hb hT inX2 hown hK hP 10 rfl rfl 0 (by decide) (hT _ k_140) (fun _ h9 => h9) rfl dX3_tellNode_73 ?_
        refine lv_iload_n hx hb dX3_tellNode_76 rfl (lv_at hl 3 rfl) ?_
        refine lv_iload hx hb dX3_tellNode_77 (lv_at hl 1 rfl) ?_
        obtain ⟨h_10, hw⟩ := hw
        refine va_iast hx hb hK hP hD hS 11 0 rfl rfl h_10 dX3_tellNode_79 (fun H locs hP hD hS => ?_)
        have hP : va_P (dC, dI) vwCl (wTT cI cZ cJ nl nn ad ra S (T_2.1, ((upd T_2.2.1.1 x1.toNatClampNeg r_1), T_2.2.1.2.1, T_2.2.1.2.2), T_2.2.2.1, T_2.2.2.2.1, T_2.2.2.2.2.1, T_2.2.2.2.2.2)) H := hP
        have hD : va_D A (wTT cI cZ cJ nl nn ad ra S (T_2.1, ((upd T_2.2.1.1 x1.toNatClampNeg r_1), T_2.2.1.2.1, T_2.2.1.2.2), T_2.2.2.1, T_2.2.2.2.1, T_2.2.2.2.2.1, T_2.2.2.2.2.2)) := hD
        exact W.vret hx hb hr (fun t ht hW => ⟨⟨(T_2.1, ((upd T_2.2.1.1 x1.toNatClampNeg r_1), T_2.2.1.2.1, T_2.2.1.2.2), T_2.2.2.1, T_2.2.2.2.1, T_2.2.2.2.2.1, T_2.2.2.2.2.2), rfl, hw, by rw [ht]; exact hP, va_K.moved hW.alike hK, hD⟩, hS.F ht⟩) hS.2.2 dX3_tellNode_80
      · have hw := hw.2 c_9
        refine lv_aload_n hx hb dX3_tellNode_53 rfl (lv_at hl 2 rfl) ?_
        refine va_get (D := (dC, dI)) (ci := 3) (v := .ref (ad 16)) (C := RX3) (T := TX3) (N := 7) hx hb hT inX3 hown hK hP 0 rfl rfl 4 (by decide) (hT _ k_5) (fun _ h9 => h9) rfl dX3_tellNode_54 ?_
        refine lv_iconst (v := 1) hx hb dX3_tellNode_57 (by decide) ?_
        have hPc := hP.sub (ws' := wBR cI (ad 16) (ad 17) T_2.2.2.2.1) [16, 17] rfl
        have hDc := hD.sub (ws' := wBR cI (ad 16) (ad 17) T_2.2.2.2.1) [16, 17] (by decide) rfl
        have hFc := va_free (wc := wBR cI (ad 16) (ad 17) T_2.2.2.2.1) hD hS hA [16, 17] rfl
        refine va_callv (va_runV (As := [.int 1]) (rest := []) ⟨hx, hb, hml, hown, hT⟩ (met_X0_append l dC dI cI cZ cJ cL (ad 16) (ad 17) H.size _  T_2.2.2.2.1 1 hw) (cwV 1 hT (gV k_132 k_134 k_135 k_77 k_133) rfl rfl rfl (by decide +kernel) ⟨(Nat.le_of_ble_eq_true rfl), (Nat.le_of_ble_eq_true rfl)⟩) ⟨bl_W, va_recv hK hPc (ci := 0) (q0 := 0) rfl rfl, fun U hU hW => ⟨rfl, by rw [hU], by rw [hU]; exact hPc, va_K.moved hW.alike hK, hDc.weaken (fun _ _ _ _ => trivial)⟩⟩ rfl rfl hl.1 rfl (lv_room (Nat.le_of_ble_eq_true rfl)) dX3_tellNode_58 ⟨Nat.le_of_ble_eq_true rfl, Nat.le_of_ble_eq_true rfl⟩) hS (fun q _ h => hFc q h) hFc (fun B_11 t H1 locs ht hvm hw hB hz1 hk1 hS => ?_)
        obtain ⟨hP1, -, hD1⟩ := hB
        try dsimp only at hw
        rw [ht] at hP1
        obtain ⟨hP, hD⟩ := va_join (wr := [(ad 0, .inr (3, [.ref (ad 1), .ref (ad 9), .ref (ad 10), .ref (ad 13), .ref (ad 16), .ref (ad 18), .int T_2.2.2.2.2.2])), (ad 1, .inr (1, [.int S.1.1, .int S.1.2.1, .int S.1.2.2.1, .int S.1.2.2.2.1, .int S.1.2.2.2.2, .ref (ad 2), .ref (ad 3), .ref (ad 4), .ref (ad 5)])), (ad 2, .inl (cI, 6, .inl S.2.1.1)), (ad 3, .inl (cI, 6, .inl S.2.1.2.1)), (ad 4, .inl (cI, 6, .inl S.2.1.2.2)), (ad 5, .inl (cJ, 3, .inr (.inr (.inr (.inr (fun i => if i < 3 then some (ra i) else none)))))), (ra 0, .inl (cI, nl, .inl (S.2.2 0))), (ra 1, .inl (cI, nl, .inl (S.2.2 1))), (ra 2, .inl (cI, nl, .inl (S.2.2 2))), (ad 9, .inl (cI, nn, .inl T_2.1)), (ad 10, .inr (2, [.ref (ad 11), .ref (ad 12), .int T_2.2.1.2.2])), (ad 11, .inl (cI, nn, .inl T_2.2.1.1)), (ad 12, .inl (cZ, nn, .inl T_2.2.1.2.1)), (ad 13, .inr (2, [.ref (ad 14), .ref (ad 15), .int T_2.2.2.1.2.2])), (ad 14, .inl (cI, nn, .inl T_2.2.2.1.1)), (ad 15, .inl (cZ, nn, .inl T_2.2.2.1.2.1)), (ad 18, .inr (0, [.ref (ad 19), .int T_2.2.2.2.2.1.2.1, .int T_2.2.2.2.2.1.2.2])), (ad 19, .inl (cI, 1250, .inl T_2.2.2.2.2.1.1))]) (w1 := wBR cI (ad 16) (ad 17) B_11) hP hD [16, 17] [0, 1, 2, 3, 4, 5, 6, 7, 8, 9, 10, 11, 12, 13, 14, 15, 18, 19] rfl rfl (by decide) (by decide) hk1 hFc hP1 hD1
        generalize H1 = H at hP hS ⊢
        have hP := hP.sub (ws' := wTT cI cZ cJ nl nn ad ra S (T_2.1, T_2.2.1, T_2.2.2.1, B_11, T_2.2.2.2.2.1, T_2.2.2.2.2.2)) [0, 1, 2, 3, 4, 5, 6, 7, 8, 9, 10, 11, 12, 13, 14, 15, 18, 19, 16, 17] rfl
        have hD := hD.sub (ws' := wTT cI cZ cJ nl nn ad ra S (T_2.1, T_2.2.1, T_2.2.2.1, B_11, T_2.2.2.2.2.1, T_2.2.2.2.2.2)) [0, 1, 2, 3, 4, 5, 6, 7, 8, 9, 10, 11, 12, 13, 14, 15, 18, 19, 16, 17] (by decide) rfl
        refine lv_aload_n hx hb dX3_tellNode_61 rfl (lv_at hl 2 rfl) ?_
        refine va_get (D := (dC, dI)) (ci := 3) (v := .ref (ad 10)) (C := RX3) (T := TX3) (N := 7) hx hb hT inX3 hown hK hP 0 rfl rfl 2 (by decide) (hT _ k_8) (fun _ h9 => h9) rfl dX3_tellNode_62 ?_
        refine lv_iload_n hx hb dX3_tellNode_65 rfl (lv_at hl 3 rfl) ?_
        have hPc := hP.sub (ws' := wSD cI cZ nn (ad 10) (ad 11) (ad 12) T_2.2.1) [10, 11, 12] rfl
        have hDc := hD.sub (ws' := wSD cI cZ nn (ad 10) (ad 11) (ad 12) T_2.2.1) [10, 11, 12] (by decide) rfl
        have hFc := va_free (wc := wSD cI cZ nn (ad 10) (ad 11) (ad 12) T_2.2.1) hD hS hA [10, 11, 12] rfl
        refine va_callv (va_runV (As := [.int x1]) (rest := []) ⟨hx, hb, hml, hown, hT⟩ (met_X2_find l dC dI cI cZ cJ cL (ad 10) (ad 11) (ad 12) H.size _ nn T_2.2.1 x1 hw) (cwV 1 hT (gV k_151 k_153 k_154 k_72 k_152) rfl rfl rfl (by decide +kernel) ⟨(Nat.le_of_ble_eq_true rfl), (Nat.le_of_ble_eq_true rfl)⟩) ⟨bl_W, va_recv hK hPc (ci := 2) (q0 := 0) rfl rfl, fun U hU hW => ⟨rfl, by rw [hU], by rw [hU]; exact hPc, va_K.moved hW.alike hK, hDc.weaken (fun _ _ _ _ => trivial)⟩⟩ rfl rfl hl.1 rfl (lv_room (Nat.le_of_ble_eq_true rfl)) dX3_tellNode_66 ⟨Nat.le_of_ble_eq_true rfl, Nat.le_of_ble_eq_true rfl⟩) hS (fun q _ h => hFc q h) hFc (fun D_12 t H1 locs ht hvm hw hB hz1 hk1 hS => ?_)
        obtain ⟨hP1, -, hD1⟩ := hB
        try dsimp only at hw
        rw [ht] at hP1
        obtain ⟨hP, hD⟩ := va_join (wr := [(ad 0, .inr (3, [.ref (ad 1), .ref (ad 9), .ref (ad 10), .ref (ad 13), .ref (ad 16), .ref (ad 18), .int T_2.2.2.2.2.2])), (ad 1, .inr (1, [.int S.1.1, .int S.1.2.1, .int S.1.2.2.1, .int S.1.2.2.2.1, .int S.1.2.2.2.2, .ref (ad 2), .ref (ad 3), .ref (ad 4), .ref (ad 5)])), (ad 2, .inl (cI, 6, .inl S.2.1.1)), (ad 3, .inl (cI, 6, .inl S.2.1.2.1)), (ad 4, .inl (cI, 6, .inl S.2.1.2.2)), (ad 5, .inl (cJ, 3, .inr (.inr (.inr (.inr (fun i => if i < 3 then some (ra i) else none)))))), (ra 0, .inl (cI, nl, .inl (S.2.2 0))), (ra 1, .inl (cI, nl, .inl (S.2.2 1))), (ra 2, .inl (cI, nl, .inl (S.2.2 2))), (ad 9, .inl (cI, nn, .inl T_2.1)), (ad 13, .inr (2, [.ref (ad 14), .ref (ad 15), .int T_2.2.2.1.2.2])), (ad 14, .inl (cI, nn, .inl T_2.2.2.1.1)), (ad 15, .inl (cZ, nn, .inl T_2.2.2.1.2.1)), (ad 16, .inr (0, [.ref (ad 17), .int B_11.2.1, .int B_11.2.2])), (ad 17, .inl (cI, 1250, .inl B_11.1)), (ad 18, .inr (0, [.ref (ad 19), .int T_2.2.2.2.2.1.2.1, .int T_2.2.2.2.2.1.2.2])), (ad 19, .inl (cI, 1250, .inl T_2.2.2.2.2.1.1))]) (w1 := wSD cI cZ nn (ad 10) (ad 11) (ad 12) D_12) hP hD [10, 11, 12] [0, 1, 2, 3, 4, 5, 6, 7, 8, 9, 13, 14, 15, 16, 17, 18, 19] rfl rfl (by decide) (by decide) hk1 hFc hP1 hD1
        generalize H1 = H at hP hS ⊢
        have hP := hP.sub (ws' := wTT cI cZ cJ nl nn ad ra S (T_2.1, D_12, T_2.2.2.1, B_11, T_2.2.2.2.2.1, T_2.2.2.2.2.2)) [0, 1, 2, 3, 4, 5, 6, 7, 8, 9, 17, 18, 19, 10, 11, 12, 13, 14, 15, 16] rfl
        have hD := hD.sub (ws' := wTT cI cZ cJ nl nn ad ra S (T_2.1, D_12, T_2.2.2.1, B_11, T_2.2.2.2.2.1, T_2.2.2.2.2.2)) [0, 1, 2, 3, 4, 5, 6, 7, 8, 9, 17, 18, 19, 10, 11, 12, 13, 14, 15, 16] (by decide) rfl
        refine lv_aload_n hx hb dX3_tellNode_69 rfl (lv_at hl 2 rfl) ?_
        refine va_get (D := (dC, dI)) (ci := 3) (v := .ref (ad 10)) (C := RX3) (T := TX3) (N := 7) hx hb hT inX3 hown hK hP 0 rfl rfl 2 (by decide) (hT _ k_8) (fun _ h9 => h9) rfl dX3_tellNode_70 ?_
        refine va_get (D := (dC, dI)) (ci := 2) (v := .ref (ad 11)) (C := RX2) (T := TX2) (N := 3) hx hb hT inX2 hown hK hP 10 rfl rfl 0 (by decide) (hT _ k_140) (fun _ h9 => h9) rfl dX3_tellNode_73 ?_
        refine lv_iload_n hx hb dX3_tellNode_76 rfl (lv_at hl 3 rfl) ?_
        refine lv_iload hx hb dX3_tellNode_77 (lv_at hl 1 rfl) ?_
        obtain ⟨h_13, hw⟩ := hw
        refine va_iast hx hb hK hP hD hS 11 0 rfl rfl h_13 dX3_tellNode_79 (fun H locs hP hD hS => ?_)
        have hP : va_P (dC, dI) vwCl (wTT cI cZ cJ nl nn ad ra S (T_2.1, ((upd D_12.1 x1.toNatClampNeg r_1), D_12.2.1, D_12.2.2), T_2.2.2.1, B_11, T_2.2.2.2.2.1, T_2.2.2.2.2.2)) H := hP
        have hD : va_D A (wTT cI cZ cJ nl nn ad ra S (T_2.1, ((upd D_12.1 x1.toNatClampNeg r_1), D_12.2.1, D_12.2.2), T_2.2.2.1, B_11, T_2.2.2.2.2.1, T_2.2.2.2.2.2)) := hD
        exact W.vret hx hb hr (fun t ht hW => ⟨⟨(T_2.1, ((upd D_12.1 x1.toNatClampNeg r_1), D_12.2.1, D_12.2.2), T_2.2.2.1, B_11, T_2.2.2.2.2.1, T_2.2.2.2.2.2), rfl, hw, by rw [ht]; exact hP, va_K.moved hW.alike hK, hD⟩, hS.F ht⟩) hS.2.2 dX3_tellNode_80
  have hlp12 : ∀ (n_4 : Nat) (T_2 : vTT) (x5_3 : Int32), wp_X3_tellNode_L12 post ex12 nl nn S r_1 x1 x2 x3 n_4 T_2 x5_3 → ∀ (H : Heap) (locs : List Loc) (ls : Array Slot), va_P (dC, dI) vwCl (wTT cI cZ cJ nl nn ad ra S T_2) H → va_D A (wTT cI cZ cJ nl nn ad ra S T_2) → va_S A s.heap H locs → lv_has ls 6 [(5, .int x5_3), (4, .int r_1), (0, .ref (ad 0)), (1, .int x1), (2, .int x2), (3, .int x3)] → W p l e (headSpec wsX3_tellNode rm_X3_tellNode).room s m args below meth c H locs 0 0 (MQ below (va_Qv post (fun u t => qB (dC, dI) (tysA cI cZ cJ cL) A (wTT cI cZ cJ nl nn ad ra S u) t) A) args s 0 0 A) (F0 m 12 ls []) := by
    intro n_4
    induction n_4 with
    | zero => intro _ _ hw; exact hw.elim
    | succ n_4 ih12 =>
      intro T_2 x5_3 hw H locs ls hP hD hS hl
      unfold wp_X3_tellNode_L12 at hw
      refine lv_iload hx hb dX3_tellNode_12 (lv_at hl 0 rfl) ?_
      refine lv_iload hx hb dX3_tellNode_14 (lv_at hl 1 rfl) ?_
      refine lv_icmp_ge (tgt := 33) hx hb dX3_tellNode_16 (by decide) (fun c_14 => ?_) (fun c_14 => ?_)
      · have hw := hw.1 c_14
        exact hx12 T_2 x5_3 hw _ _ _ hP hD hS (lv_sub hl [0, 1, 2, 3, 4, 5] rfl)
      · have hw := hw.2 c_14
        refine lv_aload_n hx hb dX3_tellNode_19 rfl (lv_at hl 2 rfl) ?_
        refine va_get (D := (dC, dI)) (ci := 3) (v := .ref (ad 16)) (C := RX3) (T := TX3) (N := 7) hx hb hT inX3 hown hK hP 0 rfl rfl 4 (by decide) (hT _ k_5) (fun _ h9 => h9) rfl dX3_tellNode_20 ?_
        refine lv_iconst (v := 0) hx hb dX3_tellNode_23 (by decide) ?_
        have hPc := hP.sub (ws' := wBR cI (ad 16) (ad 17) T_2.2.2.2.1) [16, 17] rfl
        have hDc := hD.sub (ws' := wBR cI (ad 16) (ad 17) T_2.2.2.2.1) [16, 17] (by decide) rfl
        have hFc := va_free (wc := wBR cI (ad 16) (ad 17) T_2.2.2.2.1) hD hS hA [16, 17] rfl
        refine va_callv (va_runV (As := [.int 0]) (rest := []) ⟨hx, hb, hml, hown, hT⟩ (met_X0_append l dC dI cI cZ cJ cL (ad 16) (ad 17) H.size _  T_2.2.2.2.1 0 hw) (cwV 1 hT (gV k_132 k_134 k_135 k_77 k_133) rfl rfl rfl (by decide +kernel) ⟨(Nat.le_of_ble_eq_true rfl), (Nat.le_of_ble_eq_true rfl)⟩) ⟨bl_W, va_recv hK hPc (ci := 0) (q0 := 0) rfl rfl, fun U hU hW => ⟨rfl, by rw [hU], by rw [hU]; exact hPc, va_K.moved hW.alike hK, hDc.weaken (fun _ _ _ _ => trivial)⟩⟩ rfl rfl hl.1 rfl (lv_room (Nat.le_of_ble_eq_true rfl)) dX3_tellNode_24 ⟨Nat.le_of_ble_eq_true rfl, Nat.le_of_ble_eq_true rfl⟩) hS (fun q _ h => hFc q h) hFc (fun B_15 t H1 locs ht hvm hw hB hz1 hk1 hS => ?_)
        obtain ⟨hP1, -, hD1⟩ := hB
        try dsimp only at hw
        rw [ht] at hP1
        obtain ⟨hP, hD⟩ := va_join (wr := [(ad 0, .inr (3, [.ref (ad 1), .ref (ad 9), .ref (ad 10), .ref (ad 13), .ref (ad 16), .ref (ad 18), .int T_2.2.2.2.2.2])), (ad 1, .inr (1, [.int S.1.1, .int S.1.2.1, .int S.1.2.2.1, .int S.1.2.2.2.1, .int S.1.2.2.2.2, .ref (ad 2), .ref (ad 3), .ref (ad 4), .ref (ad 5)])), (ad 2, .inl (cI, 6, .inl S.2.1.1)), (ad 3, .inl (cI, 6, .inl S.2.1.2.1)), (ad 4, .inl (cI, 6, .inl S.2.1.2.2)), (ad 5, .inl (cJ, 3, .inr (.inr (.inr (.inr (fun i => if i < 3 then some (ra i) else none)))))), (ra 0, .inl (cI, nl, .inl (S.2.2 0))), (ra 1, .inl (cI, nl, .inl (S.2.2 1))), (ra 2, .inl (cI, nl, .inl (S.2.2 2))), (ad 9, .inl (cI, nn, .inl T_2.1)), (ad 10, .inr (2, [.ref (ad 11), .ref (ad 12), .int T_2.2.1.2.2])), (ad 11, .inl (cI, nn, .inl T_2.2.1.1)), (ad 12, .inl (cZ, nn, .inl T_2.2.1.2.1)), (ad 13, .inr (2, [.ref (ad 14), .ref (ad 15), .int T_2.2.2.1.2.2])), (ad 14, .inl (cI, nn, .inl T_2.2.2.1.1)), (ad 15, .inl (cZ, nn, .inl T_2.2.2.1.2.1)), (ad 18, .inr (0, [.ref (ad 19), .int T_2.2.2.2.2.1.2.1, .int T_2.2.2.2.2.1.2.2])), (ad 19, .inl (cI, 1250, .inl T_2.2.2.2.2.1.1))]) (w1 := wBR cI (ad 16) (ad 17) B_15) hP hD [16, 17] [0, 1, 2, 3, 4, 5, 6, 7, 8, 9, 10, 11, 12, 13, 14, 15, 18, 19] rfl rfl (by decide) (by decide) hk1 hFc hP1 hD1
        generalize H1 = H at hP hS ⊢
        have hP := hP.sub (ws' := wTT cI cZ cJ nl nn ad ra S (T_2.1, T_2.2.1, T_2.2.2.1, B_15, T_2.2.2.2.2.1, T_2.2.2.2.2.2)) [0, 1, 2, 3, 4, 5, 6, 7, 8, 9, 10, 11, 12, 13, 14, 15, 18, 19, 16, 17] rfl
        have hD := hD.sub (ws' := wTT cI cZ cJ nl nn ad ra S (T_2.1, T_2.2.1, T_2.2.2.1, B_15, T_2.2.2.2.2.1, T_2.2.2.2.2.2)) [0, 1, 2, 3, 4, 5, 6, 7, 8, 9, 10, 11, 12, 13, 14, 15, 18, 19, 16, 17] (by decide) rfl
        obtain ⟨x5_16, ex5_16⟩ : ∃ y : Int32, y = x5_3 + 1 := ⟨_, rfl⟩
        have hw := hw x5_16 ex5_16
        refine lv_iinc (v := x5_16) (lv' := [(5, .int x5_16), (4, .int r_1), (0, .ref (ad 0)), (1, .int x1), (2, .int x2), (3, .int x3)]) hx hb dX3_tellNode_27 hl (k := 0) rfl (by rw [ex5_16]; rfl) (by decide) rfl (fun ls hl => ?_)
        refine lv_goto (tgt := 12) hx hb dX3_tellNode_30 (by decide) ?_
        exact ih12 (T_2.1, T_2.2.1, T_2.2.2.1, B_15, T_2.2.2.2.2.1, T_2.2.2.2.2.2) x5_16 hw _ _ _ hP hD hS (lv_sub hl [0, 1, 2, 3, 4, 5] rfl)
  exact hlp12 n_4 T x2 hw _ _ _ hP hD hS (lv_sub hl [0, 1, 2, 3, 4, 5] rfl)
def wp_X3_takeBits_L70 (post : Int32 → vTT → Prop) (ex70 : Int32 → Int32 → Int32 → Prop) (nl : Nat) (nn : Nat) (S : vSH) (T_2 : vTT) (r_8 : Int32) (x7_3 : Int32) (x1 : Int32) (x2 : Int32) (x3 : Int32) (x4 : Int32) : Nat → Int32 → Int32 → Int32 → Prop
  | 0, _, _, _ => False
  | n_16 + 1, x9_13, x6_14, x5_15 => ((x3 ≤ x6_14 → (ex70 x9_13 x6_14 x5_15)) ∧ (¬ x3 ≤ x6_14 → (((x9_13 = 0 → (((x5_15 < T_2.2.2.2.2.1.2.2 → (wp_X0_look (fun r_27 => ((r_27 = 1 → (∀ x5_31 : Int32, x5_31 = x5_15 + 1 → (wp_X3_takeBits_L70 post ex70 nl nn S T_2 r_8 x7_3 x1 x2 x3 x4 n_16 1 x6_14 x5_31))) ∧ (¬ r_27 = 1 → (∀ x6_29 : Int32, x6_29 = x6_14 + 1 → (∀ x5_30 : Int32, x5_30 = x5_15 + 1 → (wp_X3_takeBits_L70 post ex70 nl nn S T_2 r_8 x7_3 x1 x2 x3 x4 n_16 x9_13 x6_29 x5_30))))))  T_2.2.2.2.2.1 x5_15)) ∧ (¬ x5_15 < T_2.2.2.2.2.1.2.2 → (post (-2) T_2))))) ∧ (¬ x9_13 = 0 → (ex70 x9_13 x6_14 x5_15))))))
def wp_X3_takeBits_L17 (post : Int32 → vTT → Prop) (ex17 : vTT → Int32 → Int32 → Int32 → Prop) (nl : Nat) (nn : Nat) (S : vSH) (x1 : Int32) (x2 : Int32) (x3 : Int32) (x4 : Int32) : Nat → vTT → Int32 → Int32 → Int32 → Prop
  | 0, _, _, _, _ => False
  | n_6 + 1, T_2, x7_3, x6_4, x5_5 => ((x7_3 < 0 → (ex17 T_2 x7_3 x6_4 x5_5)) ∧ (¬ x7_3 < 0 → (wp_X1_nodeAt (fun r_8 => vp_in r_8 nn ∧ (∀ x6_10 : Int32, x6_10 = (if x6_4 < (T_2.2.2.1.1 r_8.toNatClampNeg) then (T_2.2.2.1.1 r_8.toNatClampNeg) else x6_4) → (vp_in r_8 nn ∧ (∀ x9_12 : Int32, x9_12 = T_2.2.2.1.2.1 r_8.toNatClampNeg → (∃ n_16 : Nat, wp_X3_takeBits_L70 post (fun (x9_13 : Int32) (x6_14 : Int32) (x5_15 : Int32) => ((x4 = 0 → (∀ x7_18 : Int32, x7_18 = x7_3 + (-1) → (wp_X3_takeBits_L17 post ex17 nl nn S x1 x2 x3 x4 n_6 T_2 x7_18 x6_14 x5_15))) ∧ (¬ x4 = 0 → (vp_in r_8 nn ∧ (((x9_13 = 0 → (∀ x7_21 : Int32, x7_21 = x7_3 + (-1) → (wp_X3_takeBits_L17 post ex17 nl nn S x1 x2 x3 x4 n_6 (T_2.1, T_2.2.1, ((upd T_2.2.2.1.1 r_8.toNatClampNeg x6_14), T_2.2.2.1.2.1, T_2.2.2.1.2.2), T_2.2.2.2.1, T_2.2.2.2.2.1, T_2.2.2.2.2.2) x7_21 x6_14 x5_15))) ∧ (¬ x9_13 = 0 → (wp_X2_find (fun D_22 => ∀ x7_23 : Int32, x7_23 = x7_3 + (-1) → (wp_X3_takeBits_L17 post ex17 nl nn S x1 x2 x3 x4 n_6 (T_2.1, T_2.2.1, D_22, T_2.2.2.2.1, T_2.2.2.2.2.1, T_2.2.2.2.2.2) x7_23 x6_14 x5_15)) nn ((upd T_2.2.2.1.1 r_8.toNatClampNeg x6_14), T_2.2.2.1.2.1, T_2.2.2.1.2.2) r_8)))))))) nl nn S T_2 r_8 x7_3 x1 x2 x3 x4 n_16 x9_12 x6_10 x5_5))))) nl S  x7_3 (x1 >>> (x7_3 &&& 31)) (x2 >>> (x7_3 &&& 31)))))
def wp_X3_takeBits (post : Int32 → vTT → Prop) (nl : Nat) (nn : Nat) (S : vSH) (T : vTT) (x1 : Int32) (x2 : Int32) (x3 : Int32) (x4 : Int32) : Prop := ∀ x7_1 : Int32, x7_1 = S.1.2.2.2.1 - 1 → (∃ n_6 : Nat, wp_X3_takeBits_L17 post (fun (T_2 : vTT) (x7_3 : Int32) (x6_4 : Int32) (x5_5 : Int32) => post x5_5 T_2) nl nn S x1 x2 x3 x4 n_6 T x7_1 0 0)
abbrev rm_X3_takeBits : Room := { frames := 2, cells := 0, slots := 0, locals := 44 }
set_option maxHeartbeats 4000000 in
set_option maxRecDepth 100000 in
theorem met_X3_takeBits (l : Launch) (dC : Nat → ClassId) (dI : Nat → Nat → Nat) (cI cZ cJ cL : ClassId) (ad ra : Nat → Nat) (sz : Nat) (post : Int32 → vTT → Prop) (nl : Nat) (nn : Nat) (S : vSH) (T : vTT) (x1 : Int32) (x2 : Int32) (x3 : Int32) (x4 : Int32) (hw : wp_X3_takeBits post nl nn S T x1 x2 x3 x4) : Met l yX3_takeBits wsX3_takeBits rm_X3_takeBits (pcW (dC, dI) (tysA cI cZ cJ cL) (wTT cI cZ cJ nl nn ad ra S T) sz [.ref (ad 0), .int x1, .int x2, .int x3, .int x4]) (va_Qi post (fun u t => qB (dC, dI) (tysA cI cZ cJ cL) (va_A (wTT cI cZ cJ nl nn ad ra S T) sz) (wTT cI cZ cJ nl nn ad ra S u) t) (va_A (wTT cI cZ cJ nl nn ad ra S T) sz)) 0 0 (va_A (wTT cI cZ cJ nl nn ad ra S T) sz) := by
  refine Met.ofW (cc := cX3_takeBits) (maxL := 10) (ret := (some .int)) (by decide) rfl ?_
  intro p e s m args below meth c s₁ Bd hml hv
  obtain ⟨hargs, hsz, hP, hK, hD0⟩ := hv
  have hx := Bd.exec
  have hb := Bd.bytes
  have hr := Bd.returns
  have hts := atoms_spec (ws := wsX3_takeBits) Bd.pre
  have hT : ∀ w ∈ WALL, w.before args s = true := fun w h => hts w (List.mem_cons_of_mem _ h)
  have hown : s.vm.findClass RX3 = some m.cls := findClass_of_methodNamed Bd.named
  have hlocks := Bd.notSynchronized
  subst hsz
  have hD := hD0.self (sz := s.heap.size)
  generalize hAe : va_A (wTT cI cZ cJ nl nn ad ra S T) s.heap.size = A at hD ⊢
  have hA : ∀ q : Nat, s.heap.size ≤ q → A q := fun q h => by rw [← hAe]; exact Or.inr h
  have hS : va_S A s.heap s.heap [] := va_S.rf
  have hP : va_P (dC, dI) vwCl (wTT cI cZ cJ nl nn ad ra S T) s.heap := hP
  have hl := lv_entry ([.ref (ad 0), .int x1, .int x2, .int x3, .int x4]) (n := 10) (Nat.le_of_ble_eq_true rfl)
  rw [show entryFrame m args 10 = F0 m 0 _ [] from by rw [hargs]; exact lg_entry_eq m ([.ref (ad 0), .int x1, .int x2, .int x3, .int x4]) 10]
  generalize (lg_sl ([.ref (ad 0), .int x1, .int x2, .int x3, .int x4]) ++ List.replicate (10 - (lg_sl ([.ref (ad 0), .int x1, .int x2, .int x3, .int x4])).length) Slot.unset).toArray = ls at hl ⊢
  have hl : lv_has ls 10 [(0, .ref (ad 0)), (1, .int x1), (2, .int x2), (3, .int x3), (4, .int x4)] := hl
  obtain ⟨H, hH⟩ : ∃ z : Heap, z = s.heap := ⟨_, rfl⟩
  obtain ⟨locs, hlocs⟩ : ∃ z : List Loc, z = [] := ⟨_, rfl⟩
  rw [show W p l e (headSpec wsX3_takeBits rm_X3_takeBits).room s m args below meth c s.heap [] 0 0 = W p l e (headSpec wsX3_takeBits rm_X3_takeBits).room s m args below meth c H locs 0 0 from by rw [hH, hlocs]]
  have hP : va_P (dC, dI) vwCl (wTT cI cZ cJ nl nn ad ra S T) H := by rw [hH]; exact hP
  have hS : va_S A s.heap H locs := by rw [hH, hlocs]; exact hS
  unfold wp_X3_takeBits at hw
  refine lv_iconst (v := 0) hx hb dX3_takeBits_0 (by decide) ?_
  refine lv_istore (lv' := [(5, .int 0), (0, .ref (ad 0)), (1, .int x1), (2, .int x2), (3, .int x3), (4, .int x4)]) hx hb dX3_takeBits_1 hl (by decide) rfl (fun ls hl => ?_)
  refine lv_iconst (v := 0) hx hb dX3_takeBits_3 (by decide) ?_
  refine lv_istore (lv' := [(6, .int 0), (5, .int 0), (0, .ref (ad 0)), (1, .int x1), (2, .int x2), (3, .int x3), (4, .int x4)]) hx hb dX3_takeBits_4 hl (by decide) rfl (fun ls hl => ?_)
  refine lv_aload_n hx hb dX3_takeBits_6 rfl (lv_at hl 2 rfl) ?_
  refine va_get (D := (dC, dI)) (ci := 3) (v := .ref (ad 1)) (C := RX3) (T := TX3) (N := 7) hx hb hT inX3 hown hK hP 0 rfl rfl 0 (by decide) (hT _ k_0) (fun _ h9 => h9) rfl dX3_takeBits_7 ?_
  refine va_get (D := (dC, dI)) (ci := 1) (v := .int S.1.2.2.2.1) (C := RX1) (T := TX1) (N := 9) hx hb hT inX1 hown hK hP 1 rfl rfl 3 (by decide) (hT _ k_3) (fun _ h9 => h9) rfl dX3_takeBits_10 ?_
  refine lv_iconst (v := 1) hx hb dX3_takeBits_13 (by decide) ?_
  refine lv_isub hx hb dX3_takeBits_14 ?_
  refine lv_topi (fun x7_1 ex7_1 => ?_)
  have hw := hw x7_1 ex7_1
  refine lv_istore (lv' := [(7, .int x7_1), (6, .int 0), (5, .int 0), (0, .ref (ad 0)), (1, .int x1), (2, .int x2), (3, .int x3), (4, .int x4)]) hx hb dX3_takeBits_15 hl (by decide) rfl (fun ls hl => ?_)
  obtain ⟨n_6, hw⟩ := hw
  obtain ⟨ex17, eex17⟩ : ∃ z : vTT → Int32 → Int32 → Int32 → Prop, z = (fun (T_2 : vTT) (x7_3 : Int32) (x6_4 : Int32) (x5_5 : Int32) => post x5_5 T_2) := ⟨_, rfl⟩
  rw [← eex17] at hw
  have hx17 : ∀ (T_2 : vTT) (x7_3 : Int32) (x6_4 : Int32) (x5_5 : Int32), ex17 T_2 x7_3 x6_4 x5_5 → ∀ (H : Heap) (locs : List Loc) (ls : Array Slot), va_P (dC, dI) vwCl (wTT cI cZ cJ nl nn ad ra S T_2) H → va_D A (wTT cI cZ cJ nl nn ad ra S T_2) → va_S A s.heap H locs → lv_has ls 10 [(7, .int x7_3), (6, .int x6_4), (5, .int x5_5), (0, .ref (ad 0)), (1, .int x1), (2, .int x2), (3, .int x3), (4, .int x4)] → W p l e (headSpec wsX3_takeBits rm_X3_takeBits).room s m args below meth c H locs 0 0 (MQ below (va_Qi post (fun u t => qB (dC, dI) (tysA cI cZ cJ cL) A (wTT cI cZ cJ nl nn ad ra S u) t) A) args s 0 0 A) (F0 m 161 ls []) := by
    intro T_2 x7_3 x6_4 x5_5 hw H locs ls hP hD hS hl
    rw [eex17] at hw
    try dsimp only at hw
    refine lv_iload hx hb dX3_takeBits_161 (lv_at hl 2 rfl) ?_
    exact W.iret (v := x5_5) hx hb hr (fun t ht hW => ⟨⟨x5_5, T_2, rfl, hw, by rw [ht]; exact hP, va_K.moved hW.alike hK, hD⟩, hS.F ht⟩) hS.2.2 dX3_takeBits_163
  have hlp17 : ∀ (n_6 : Nat) (T_2 : vTT) (x7_3 : Int32) (x6_4 : Int32) (x5_5 : Int32), wp_X3_takeBits_L17 post ex17 nl nn S x1 x2 x3 x4 n_6 T_2 x7_3 x6_4 x5_5 → ∀ (H : Heap) (locs : List Loc) (ls : Array Slot), va_P (dC, dI) vwCl (wTT cI cZ cJ nl nn ad ra S T_2) H → va_D A (wTT cI cZ cJ nl nn ad ra S T_2) → va_S A s.heap H locs → lv_has ls 10 [(7, .int x7_3), (6, .int x6_4), (5, .int x5_5), (0, .ref (ad 0)), (1, .int x1), (2, .int x2), (3, .int x3), (4, .int x4)] → W p l e (headSpec wsX3_takeBits rm_X3_takeBits).room s m args below meth c H locs 0 0 (MQ below (va_Qi post (fun u t => qB (dC, dI) (tysA cI cZ cJ cL) A (wTT cI cZ cJ nl nn ad ra S u) t) A) args s 0 0 A) (F0 m 17 ls []) := by
    intro n_6
    induction n_6 with
    | zero => intro _ _ _ _ hw; exact hw.elim
    | succ n_6 ih17 =>
      intro T_2 x7_3 x6_4 x5_5 hw H locs ls hP hD hS hl
      unfold wp_X3_takeBits_L17 at hw
      refine lv_iload hx hb dX3_takeBits_17 (lv_at hl 0 rfl) ?_
      refine lv_if_lt (tgt := 161) hx hb dX3_takeBits_19 (by decide) (fun c_7 => ?_) (fun c_7 => ?_)
      · have hw := hw.1 c_7
        exact hx17 T_2 x7_3 x6_4 x5_5 hw _ _ _ hP hD hS (lv_sub hl [0, 1, 2, 3, 4, 5, 6, 7] rfl)
      · have hw := hw.2 c_7
        refine lv_aload_n hx hb dX3_takeBits_22 rfl (lv_at hl 3 rfl) ?_
        refine va_get (D := (dC, dI)) (ci := 3) (v := .ref (ad 1)) (C := RX3) (T := TX3) (N := 7) hx hb hT inX3 hown hK hP 0 rfl rfl 0 (by decide) (hT _ k_0) (fun _ h9 => h9) rfl dX3_takeBits_23 ?_
        refine lv_iload hx hb dX3_takeBits_26 (lv_at hl 0 rfl) ?_
        refine lv_iload_n hx hb dX3_takeBits_28 rfl (lv_at hl 4 rfl) ?_
        refine lv_iload hx hb dX3_takeBits_29 (lv_at hl 0 rfl) ?_
        refine lv_ishr hx hb dX3_takeBits_31 ?_
        refine lv_iload_n hx hb dX3_takeBits_32 rfl (lv_at hl 5 rfl) ?_
        refine lv_iload hx hb dX3_takeBits_33 (lv_at hl 0 rfl) ?_
        refine lv_ishr hx hb dX3_takeBits_35 ?_
        have hPc := hP.sub (ws' := wSH cI cJ nl (ad 1) (ad 2) (ad 3) (ad 4) (ad 5) ra S) [1, 2, 3, 4, 5, 6, 7, 8] rfl
        refine vp_callSi (W.runV (As := [.int x7_3, .int (x1 >>> (x7_3 &&& 31)), .int (x2 >>> (x7_3 &&& 31))]) (rest := []) ⟨hx, hb, hml, hown, hT⟩ (met_X1_nodeAt l dC dI cI cZ cJ cL (ad 1) (ad 2) (ad 3) (ad 4) (ad 5) ra _ nl S  x7_3 (x1 >>> (x7_3 &&& 31)) (x2 >>> (x7_3 &&& 31)) hw) (cwV 3 hT (gV k_64 k_66 k_67 k_59 k_65) rfl rfl rfl (by decide +kernel) ⟨(Nat.le_of_ble_eq_true rfl), (Nat.le_of_ble_eq_true rfl)⟩) ⟨bl_R, va_recv hK hPc (ci := 1) (q0 := 0) rfl rfl, fun U hU hW => ⟨rfl, by rw [hU]; exact hPc, va_K.moved hW.alike hK⟩⟩ rfl rfl hl.1 rfl (lv_room (Nat.le_of_ble_eq_true rfl)) dX3_takeBits_36 ⟨Nat.le_of_ble_eq_true rfl, Nat.le_of_ble_eq_true rfl⟩) (fun r_8 hw => ?_)
        try dsimp only at hw
        refine lv_istore (lv' := [(8, .int r_8), (7, .int x7_3), (6, .int x6_4), (5, .int x5_5), (0, .ref (ad 0)), (1, .int x1), (2, .int x2), (3, .int x3), (4, .int x4)]) hx hb dX3_takeBits_39 hl (by decide) rfl (fun ls hl => ?_)
        refine lv_iload hx hb dX3_takeBits_41 (lv_at hl 2 rfl) ?_
        refine lv_aload_n hx hb dX3_takeBits_43 rfl (lv_at hl 4 rfl) ?_
        refine va_get (D := (dC, dI)) (ci := 3) (v := .ref (ad 13)) (C := RX3) (T := TX3) (N := 7) hx hb hT inX3 hown hK hP 0 rfl rfl 3 (by decide) (hT _ k_10) (fun _ h9 => h9) rfl dX3_takeBits_44 ?_
        refine va_get (D := (dC, dI)) (ci := 2) (v := .ref (ad 14)) (C := RX2) (T := TX2) (N := 3) hx hb hT inX2 hown hK hP 13 rfl rfl 0 (by decide) (hT _ k_140) (fun _ h9 => h9) rfl dX3_takeBits_47 ?_
        refine lv_iload hx hb dX3_takeBits_50 (lv_at hl 0 rfl) ?_
        obtain ⟨h_9, hw⟩ := hw
        refine va_iald hx hb hK hP 14 0 rfl rfl h_9 dX3_takeBits_52 ?_
        refine va_mmax (x := x6_4) (y := (T_2.2.2.1.1 r_8.toNatClampNeg)) (rest := []) hx hb (by rw [hml]; exact hl.1.symm) hown (hT _ k_155) (hT _ k_156) (hT _ k_86) (hT _ k_157) (Nat.le_of_ble_eq_true rfl) (Nat.le_of_ble_eq_true rfl) (Nat.le_of_ble_eq_true rfl) (Nat.le_of_ble_eq_true rfl) dX3_takeBits_53 ?_
        refine lv_topi (fun x6_10 ex6_10 => ?_)
        have hw := hw x6_10 ex6_10
        refine lv_istore (lv' := [(6, .int x6_10), (8, .int r_8), (7, .int x7_3), (5, .int x5_5), (0, .ref (ad 0)), (1, .int x1), (2, .int x2), (3, .int x3), (4, .int x4)]) hx hb dX3_takeBits_56 hl (by decide) rfl (fun ls hl => ?_)
        refine lv_aload_n hx hb dX3_takeBits_58 rfl (lv_at hl 4 rfl) ?_
        refine va_get (D := (dC, dI)) (ci := 3) (v := .ref (ad 13)) (C := RX3) (T := TX3) (N := 7) hx hb hT inX3 hown hK hP 0 rfl rfl 3 (by decide) (hT _ k_10) (fun _ h9 => h9) rfl dX3_takeBits_59 ?_
        refine va_get (D := (dC, dI)) (ci := 2) (v := .ref (ad 15)) (C := RX2) (T := TX2) (N := 3) hx hb hT inX2 hown hK hP 13 rfl rfl 1 (by decide) (hT _ k_18) (fun _ h9 => h9) rfl dX3_takeBits_62 ?_
        refine lv_iload hx hb dX3_takeBits_65 (lv_at hl 1 rfl) ?_
        obtain ⟨h_11, hw⟩ := hw
        refine va_zald hx hb hK hP 15 1 rfl rfl h_11 dX3_takeBits_67 ?_
        refine lv_topi (fun x9_12 ex9_12 => ?_)
        have hw := hw x9_12 ex9_12
        refine lv_istore (lv' := [(9, .int x9_12), (6, .int x6_10), (8, .int r_8), (7, .int x7_3), (5, .int x5_5), (0, .ref (ad 0)), (1, .int x1), (2, .int x2), (3, .int x3), (4, .int x4)]) hx hb dX3_takeBits_68 hl (by decide) rfl (fun ls hl => ?_)
        obtain ⟨n_16, hw⟩ := hw
        obtain ⟨ex70, eex70⟩ : ∃ z : Int32 → Int32 → Int32 → Prop, z = (fun (x9_13 : Int32) (x6_14 : Int32) (x5_15 : Int32) => ((x4 = 0 → (∀ x7_18 : Int32, x7_18 = x7_3 + (-1) → (wp_X3_takeBits_L17 post ex17 nl nn S x1 x2 x3 x4 n_6 T_2 x7_18 x6_14 x5_15))) ∧ (¬ x4 = 0 → (vp_in r_8 nn ∧ (((x9_13 = 0 → (∀ x7_21 : Int32, x7_21 = x7_3 + (-1) → (wp_X3_takeBits_L17 post ex17 nl nn S x1 x2 x3 x4 n_6 (T_2.1, T_2.2.1, ((upd T_2.2.2.1.1 r_8.toNatClampNeg x6_14), T_2.2.2.1.2.1, T_2.2.2.1.2.2), T_2.2.2.2.1, T_2.2.2.2.2.1, T_2.2.2.2.2.2) x7_21 x6_14 x5_15))) ∧ (¬ x9_13 = 0 → (wp_X2_find (fun D_22 => ∀ x7_23 : Int32, x7_23 = x7_3 + (-1) → (wp_X3_takeBits_L17 post ex17 nl nn S x1 x2 x3 x4 n_6 (T_2.1, T_2.2.1, D_22, T_2.2.2.2.1, T_2.2.2.2.2.1, T_2.2.2.2.2.2) x7_23 x6_14 x5_15)) nn ((upd T_2.2.2.1.1 r_8.toNatClampNeg x6_14), T_2.2.2.1.2.1, T_2.2.2.1.2.2) r_8)))))))) := ⟨_, rfl⟩
        rw [← eex70] at hw
        have hx70 : ∀ (x9_13 : Int32) (x6_14 : Int32) (x5_15 : Int32), ex70 x9_13 x6_14 x5_15 → ∀ (H : Heap) (locs : List Loc) (ls : Array Slot), va_P (dC, dI) vwCl (wTT cI cZ cJ nl nn ad ra S T_2) H → va_D A (wTT cI cZ cJ nl nn ad ra S T_2) → va_S A s.heap H locs → lv_has ls 10 [(9, .int x9_13), (6, .int x6_14), (8, .int r_8), (7, .int x7_3), (5, .int x5_15), (0, .ref (ad 0)), (1, .int x1), (2, .int x2), (3, .int x3), (4, .int x4)] → W p l e (headSpec wsX3_takeBits rm_X3_takeBits).room s m args below meth c H locs 0 0 (MQ below (va_Qi post (fun u t => qB (dC, dI) (tysA cI cZ cJ cL) A (wTT cI cZ cJ nl nn ad ra S u) t) A) args s 0 0 A) (F0 m 124 ls []) := by
          intro x9_13 x6_14 x5_15 hw H locs ls hP hD hS hl
          rw [eex70] at hw
          try dsimp only at hw
          refine lv_iload hx hb dX3_takeBits_124 (lv_at hl 9 rfl) ?_
          refine lv_if_eq (tgt := 155) hx hb dX3_takeBits_126 (by decide) (fun c_17 => ?_) (fun c_17 => ?_)
          · have hw := hw.1 c_17
            obtain ⟨x7_18, ex7_18⟩ : ∃ y : Int32, y = x7_3 + (-1) := ⟨_, rfl⟩
            have hw := hw x7_18 ex7_18
            refine lv_iinc (v := x7_18) (lv' := [(7, .int x7_18), (9, .int x9_13), (6, .int x6_14), (8, .int r_8), (5, .int x5_15), (0, .ref (ad 0)), (1, .int x1), (2, .int x2), (3, .int x3), (4, .int x4)]) hx hb dX3_takeBits_155 hl (k := 3) rfl (by rw [ex7_18]; rfl) (by decide) rfl (fun ls hl => ?_)
            refine lv_goto (tgt := 17) hx hb dX3_takeBits_158 (by decide) ?_
            exact ih17 T_2 x7_18 x6_14 x5_15 hw _ _ _ hP hD hS (lv_sub hl [0, 2, 4, 5, 6, 7, 8, 9] rfl)
          · have hw := hw.2 c_17
            refine lv_aload_n hx hb dX3_takeBits_129 rfl (lv_at hl 5 rfl) ?_
            refine va_get (D := (dC, dI)) (ci := 3) (v := .ref (ad 13)) (C := RX3) (T := TX3) (N := 7) hx hb hT inX3 hown hK hP 0 rfl rfl 3 (by decide) (hT _ k_10) (fun _ h9 => h9) rfl dX3_takeBits_130 ?_
            refine va_get (D := (dC, dI)) (ci := 2) (v := .ref (ad 14)) (C := RX2) (T := TX2) (N := 3) hx hb hT inX2 hown hK hP 13 rfl rfl 0 (by decide) (hT _ k_140) (fun _ h9 => h9) rfl dX3_takeBits_133 ?_
            refine lv_iload hx hb dX3_takeBits_136 (lv_at hl 2 rfl) ?_
            refine lv_iload hx hb dX3_takeBits_138 (lv_at hl 1 rfl) ?_
            obtain ⟨h_19, hw⟩ := hw
            refine va_iast hx hb hK hP hD hS 14 0 rfl rfl h_19 dX3_takeBits_140 (fun H locs hP hD hS => ?_)
            have hP : va_P (dC, dI) vwCl (wTT cI cZ cJ nl nn ad ra S (T_2.1, T_2.2.1, ((upd T_2.2.2.1.1 r_8.toNatClampNeg x6_14), T_2.2.2.1.2.1, T_2.2.2.1.2.2), T_2.2.2.2.1, T_2.2.2.2.2.1, T_2.2.2.2.2.2)) H := hP
            have hD : va_D A (wTT cI cZ cJ nl nn ad ra S (T_2.1, T_2.2.1, ((upd T_2.2.2.1.1 r_8.toNatClampNeg x6_14), T_2.2.2.1.2.1, T_2.2.2.1.2.2), T_2.2.2.2.1, T_2.2.2.2.2.1, T_2.2.2.2.2.2)) := hD
            refine lv_iload hx hb dX3_takeBits_141 (lv_at hl 0 rfl) ?_
            refine lv_if_eq (tgt := 155) hx hb dX3_takeBits_143 (by decide) (fun c_20 => ?_) (fun c_20 => ?_)
            · have hw := hw.1 c_20
              obtain ⟨x7_21, ex7_21⟩ : ∃ y : Int32, y = x7_3 + (-1) := ⟨_, rfl⟩
              have hw := hw x7_21 ex7_21
              refine lv_iinc (v := x7_21) (lv' := [(7, .int x7_21), (9, .int x9_13), (6, .int x6_14), (8, .int r_8), (5, .int x5_15), (0, .ref (ad 0)), (1, .int x1), (2, .int x2), (3, .int x3), (4, .int x4)]) hx hb dX3_takeBits_155 hl (k := 3) rfl (by rw [ex7_21]; rfl) (by decide) rfl (fun ls hl => ?_)
              refine lv_goto (tgt := 17) hx hb dX3_takeBits_158 (by decide) ?_
              exact ih17 (T_2.1, T_2.2.1, ((upd T_2.2.2.1.1 r_8.toNatClampNeg x6_14), T_2.2.2.1.2.1, T_2.2.2.1.2.2), T_2.2.2.2.1, T_2.2.2.2.2.1, T_2.2.2.2.2.2) x7_21 x6_14 x5_15 hw _ _ _ hP hD hS (lv_sub hl [0, 2, 4, 5, 6, 7, 8, 9] rfl)
            · have hw := hw.2 c_20
              refine lv_aload_n hx hb dX3_takeBits_146 rfl (lv_at hl 5 rfl) ?_
              refine va_get (D := (dC, dI)) (ci := 3) (v := .ref (ad 13)) (C := RX3) (T := TX3) (N := 7) hx hb hT inX3 hown hK hP 0 rfl rfl 3 (by decide) (hT _ k_10) (fun _ h9 => h9) rfl dX3_takeBits_147 ?_
              refine lv_iload hx hb dX3_takeBits_150 (lv_at hl 2 rfl) ?_
              have hPc := hP.sub (ws' := wSD cI cZ nn (ad 13) (ad 14) (ad 15) ((upd T_2.2.2.1.1 r_8.toNatClampNeg x6_14), T_2.2.2.1.2.1, T_2.2.2.1.2.2)) [13, 14, 15] rfl
              have hDc := hD.sub (ws' := wSD cI cZ nn (ad 13) (ad 14) (ad 15) ((upd T_2.2.2.1.1 r_8.toNatClampNeg x6_14), T_2.2.2.1.2.1, T_2.2.2.1.2.2)) [13, 14, 15] (by decide) rfl
              have hFc := va_free (wc := wSD cI cZ nn (ad 13) (ad 14) (ad 15) ((upd T_2.2.2.1.1 r_8.toNatClampNeg x6_14), T_2.2.2.1.2.1, T_2.2.2.1.2.2)) hD hS hA [13, 14, 15] rfl
              refine va_callv (va_runV (As := [.int r_8]) (rest := []) ⟨hx, hb, hml, hown, hT⟩ (met_X2_find l dC dI cI cZ cJ cL (ad 13) (ad 14) (ad 15) H.size _ nn ((upd T_2.2.2.1.1 r_8.toNatClampNeg x6_14), T_2.2.2.1.2.1, T_2.2.2.1.2.2) r_8 hw) (cwV 1 hT (gV k_151 k_153 k_154 k_72 k_152) rfl rfl rfl (by decide +kernel) ⟨(Nat.le_of_ble_eq_true rfl), (Nat.le_of_ble_eq_true rfl)⟩) ⟨bl_W, va_recv hK hPc (ci := 2) (q0 := 0) rfl rfl, fun U hU hW => ⟨rfl, by rw [hU], by rw [hU]; exact hPc, va_K.moved hW.alike hK, hDc.weaken (fun _ _ _ _ => trivial)⟩⟩ rfl rfl hl.1 rfl (lv_room (Nat.le_of_ble_eq_true rfl)) dX3_takeBits_152 ⟨Nat.le_of_ble_eq_true rfl, Nat.le_of_ble_eq_true rfl⟩) hS (fun q _ h => hFc q h) hFc (fun D_22 t H1 locs ht hvm hw hB hz1 hk1 hS => ?_)
              obtain ⟨hP1, -, hD1⟩ := hB
              try dsimp only at hw
              rw [ht] at hP1
              obtain ⟨hP, hD⟩ := va_join (wr := [(ad 0, .inr (3, [.ref (ad 1), .ref (ad 9), .ref (ad 10), .ref (ad 13), .ref (ad 16), .ref (ad 18), .int T_2.2.2.2.2.2])), (ad 1, .inr (1, [.int S.1.1, .int S.1.2.1, .int S.1.2.2.1, .int S.1.2.2.2.1, .int S.1.2.2.2.2, .ref (ad 2), .ref (ad 3), .ref (ad 4), .ref (ad 5)])), (ad 2, .inl (cI, 6, .inl S.2.1.1)), (ad 3, .inl (cI, 6, .inl S.2.1.2.1)), (ad 4, .inl (cI, 6, .inl S.2.1.2.2)), (ad 5, .inl (cJ, 3, .inr (.inr (.inr (.inr (fun i => if i < 3 then some (ra i) else none)))))), (ra 0, .inl (cI, nl, .inl (S.2.2 0))), (ra 1, .inl (cI, nl, .inl (S.2.2 1))), (ra 2, .inl (cI, nl, .inl (S.2.2 2))), (ad 9, .inl (cI, nn, .inl T_2.1)), (ad 10, .inr (2, [.ref (ad 11), .ref (ad 12), .int T_2.2.1.2.2])), (ad 11, .inl (cI, nn, .inl T_2.2.1.1)), (ad 12, .inl (cZ, nn, .inl T_2.2.1.2.1)), (ad 16, .inr (0, [.ref (ad 17), .int T_2.2.2.2.1.2.1, .int T_2.2.2.2.1.2.2])), (ad 17, .inl (cI, 1250, .inl T_2.2.2.2.1.1)), (ad 18, .inr (0, [.ref (ad 19), .int T_2.2.2.2.2.1.2.1, .int T_2.2.2.2.2.1.2.2])), (ad 19, .inl (cI, 1250, .inl T_2.2.2.2.2.1.1))]) (w1 := wSD cI cZ nn (ad 13) (ad 14) (ad 15) D_22) hP hD [13, 14, 15] [0, 1, 2, 3, 4, 5, 6, 7, 8, 9, 10, 11, 12, 16, 17, 18, 19] rfl rfl (by decide) (by decide) hk1 hFc hP1 hD1
              generalize H1 = H at hP hS ⊢
              have hP := hP.sub (ws' := wTT cI cZ cJ nl nn ad ra S (T_2.1, T_2.2.1, D_22, T_2.2.2.2.1, T_2.2.2.2.2.1, T_2.2.2.2.2.2)) [0, 1, 2, 3, 4, 5, 6, 7, 8, 9, 10, 11, 12, 17, 18, 19, 13, 14, 15, 16] rfl
              have hD := hD.sub (ws' := wTT cI cZ cJ nl nn ad ra S (T_2.1, T_2.2.1, D_22, T_2.2.2.2.1, T_2.2.2.2.2.1, T_2.2.2.2.2.2)) [0, 1, 2, 3, 4, 5, 6, 7, 8, 9, 10, 11, 12, 17, 18, 19, 13, 14, 15, 16] (by decide) rfl
              obtain ⟨x7_23, ex7_23⟩ : ∃ y : Int32, y = x7_3 + (-1) := ⟨_, rfl⟩
              have hw := hw x7_23 ex7_23
              refine lv_iinc (v := x7_23) (lv' := [(7, .int x7_23), (9, .int x9_13), (6, .int x6_14), (8, .int r_8), (5, .int x5_15), (0, .ref (ad 0)), (1, .int x1), (2, .int x2), (3, .int x3), (4, .int x4)]) hx hb dX3_takeBits_155 hl (k := 3) rfl (by rw [ex7_23]; rfl) (by decide) rfl (fun ls hl => ?_)
              refine lv_goto (tgt := 17) hx hb dX3_takeBits_158 (by decide) ?_
              exact ih17 (T_2.1, T_2.2.1, D_22, T_2.2.2.2.1, T_2.2.2.2.2.1, T_2.2.2.2.2.2) x7_23 x6_14 x5_15 hw _ _ _ hP hD hS (lv_sub hl [0, 2, 4, 5, 6, 7, 8, 9] rfl)
        have hlp70 : ∀ (n_16 : Nat) (x9_13 : Int32) (x6_14 : Int32) (x5_15 : Int32), wp_X3_takeBits_L70 post ex70 nl nn S T_2 r_8 x7_3 x1 x2 x3 x4 n_16 x9_13 x6_14 x5_15 → ∀ (H : Heap) (locs : List Loc) (ls : Array Slot), va_P (dC, dI) vwCl (wTT cI cZ cJ nl nn ad ra S T_2) H → va_D A (wTT cI cZ cJ nl nn ad ra S T_2) → va_S A s.heap H locs → lv_has ls 10 [(9, .int x9_13), (6, .int x6_14), (8, .int r_8), (7, .int x7_3), (5, .int x5_15), (0, .ref (ad 0)), (1, .int x1), (2, .int x2), (3, .int x3), (4, .int x4)] → W p l e (headSpec wsX3_takeBits rm_X3_takeBits).room s m args below meth c H locs 0 0 (MQ below (va_Qi post (fun u t => qB (dC, dI) (tysA cI cZ cJ cL) A (wTT cI cZ cJ nl nn ad ra S u) t) A) args s 0 0 A) (F0 m 70 ls []) := by
          intro n_16
          induction n_16 with
          | zero => intro _ _ _ hw; exact hw.elim
          | succ n_16 ih70 =>
            intro x9_13 x6_14 x5_15 hw H locs ls hP hD hS hl
            unfold wp_X3_takeBits_L70 at hw
            refine lv_iload hx hb dX3_takeBits_70 (lv_at hl 1 rfl) ?_
            refine lv_iload_n hx hb dX3_takeBits_72 rfl (lv_at hl 8 rfl) ?_
            refine lv_icmp_ge (tgt := 124) hx hb dX3_takeBits_73 (by decide) (fun c_24 => ?_) (fun c_24 => ?_)
            · have hw := hw.1 c_24
              exact hx70 x9_13 x6_14 x5_15 hw _ _ _ hP hD hS (lv_sub hl [0, 1, 2, 3, 4, 5, 6, 7, 8, 9] rfl)
            · have hw := hw.2 c_24
              refine lv_iload hx hb dX3_takeBits_76 (lv_at hl 0 rfl) ?_
              refine lv_if_ne (tgt := 124) hx hb dX3_takeBits_78 (by decide) (fun c_25 => ?_) (fun c_25 => ?_)
              · have hw := hw.2 c_25
                exact hx70 x9_13 x6_14 x5_15 hw _ _ _ hP hD hS (lv_sub hl [0, 1, 2, 3, 4, 5, 6, 7, 8, 9] rfl)
              · have hw := hw.1 c_25
                refine lv_iload hx hb dX3_takeBits_81 (lv_at hl 4 rfl) ?_
                refine lv_aload_n hx hb dX3_takeBits_83 rfl (lv_at hl 5 rfl) ?_
                refine va_get (D := (dC, dI)) (ci := 3) (v := .ref (ad 18)) (C := RX3) (T := TX3) (N := 7) hx hb hT inX3 hown hK hP 0 rfl rfl 5 (by decide) (hT _ k_7) (fun _ h9 => h9) rfl dX3_takeBits_84 ?_
                refine va_get (D := (dC, dI)) (ci := 0) (v := .int T_2.2.2.2.2.1.2.2) (C := RX0) (T := TX0) (N := 3) hx hb hT inX0 hown hK hP 18 rfl rfl 2 (by decide) (hT _ k_6) (fun _ h9 => h9) rfl dX3_takeBits_87 ?_
                refine lv_icmp_lt (tgt := 96) hx hb dX3_takeBits_90 (by decide) (fun c_26 => ?_) (fun c_26 => ?_)
                · have hw := hw.1 c_26
                  refine lv_aload_n hx hb dX3_takeBits_96 rfl (lv_at hl 5 rfl) ?_
                  refine va_get (D := (dC, dI)) (ci := 3) (v := .ref (ad 18)) (C := RX3) (T := TX3) (N := 7) hx hb hT inX3 hown hK hP 0 rfl rfl 5 (by decide) (hT _ k_7) (fun _ h9 => h9) rfl dX3_takeBits_97 ?_
                  refine lv_iload hx hb dX3_takeBits_100 (lv_at hl 4 rfl) ?_
                  have hPc := hP.sub (ws' := wBR cI (ad 18) (ad 19) T_2.2.2.2.2.1) [18, 19] rfl
                  refine vp_callSi (W.runV (As := [.int x5_15]) (rest := []) ⟨hx, hb, hml, hown, hT⟩ (met_X0_look l dC dI cI cZ cJ cL (ad 18) (ad 19) _  T_2.2.2.2.2.1 x5_15 hw) (cwV 1 hT (gV k_125 k_127 k_128 k_77 k_126) rfl rfl rfl (by decide +kernel) ⟨(Nat.le_of_ble_eq_true rfl), (Nat.le_of_ble_eq_true rfl)⟩) ⟨bl_R, va_recv hK hPc (ci := 0) (q0 := 0) rfl rfl, fun U hU hW => ⟨rfl, by rw [hU]; exact hPc, va_K.moved hW.alike hK⟩⟩ rfl rfl hl.1 rfl (lv_room (Nat.le_of_ble_eq_true rfl)) dX3_takeBits_102 ⟨Nat.le_of_ble_eq_true rfl, Nat.le_of_ble_eq_true rfl⟩) (fun r_27 hw => ?_)
                  try dsimp only at hw
                  refine lv_iconst (v := 1) hx hb dX3_takeBits_105 (by decide) ?_
                  refine lv_icmp_ne (tgt := 115) hx hb dX3_takeBits_106 (by decide) (fun c_28 => ?_) (fun c_28 => ?_)
                  · have hw := hw.2 c_28
                    obtain ⟨x6_29, ex6_29⟩ : ∃ y : Int32, y = x6_14 + 1 := ⟨_, rfl⟩
                    have hw := hw x6_29 ex6_29
                    refine lv_iinc (v := x6_29) (lv' := [(6, .int x6_29), (9, .int x9_13), (8, .int r_8), (7, .int x7_3), (5, .int x5_15), (0, .ref (ad 0)), (1, .int x1), (2, .int x2), (3, .int x3), (4, .int x4)]) hx hb dX3_takeBits_115 hl (k := 1) rfl (by rw [ex6_29]; rfl) (by decide) rfl (fun ls hl => ?_)
                    obtain ⟨x5_30, ex5_30⟩ : ∃ y : Int32, y = x5_15 + 1 := ⟨_, rfl⟩
                    have hw := hw x5_30 ex5_30
                    refine lv_iinc (v := x5_30) (lv' := [(5, .int x5_30), (6, .int x6_29), (9, .int x9_13), (8, .int r_8), (7, .int x7_3), (0, .ref (ad 0)), (1, .int x1), (2, .int x2), (3, .int x3), (4, .int x4)]) hx hb dX3_takeBits_118 hl (k := 4) rfl (by rw [ex5_30]; rfl) (by decide) rfl (fun ls hl => ?_)
                    refine lv_goto (tgt := 70) hx hb dX3_takeBits_121 (by decide) ?_
                    exact ih70 x9_13 x6_29 x5_30 hw _ _ _ hP hD hS (lv_sub hl [2, 1, 3, 4, 0, 5, 6, 7, 8, 9] rfl)
                  · have hw := hw.1 c_28
                    refine lv_iconst (v := 1) hx hb dX3_takeBits_109 (by decide) ?_
                    refine lv_istore (lv' := [(9, .int 1), (6, .int x6_14), (8, .int r_8), (7, .int x7_3), (5, .int x5_15), (0, .ref (ad 0)), (1, .int x1), (2, .int x2), (3, .int x3), (4, .int x4)]) hx hb dX3_takeBits_110 hl (by decide) rfl (fun ls hl => ?_)
                    refine lv_goto (tgt := 118) hx hb dX3_takeBits_112 (by decide) ?_
                    obtain ⟨x5_31, ex5_31⟩ : ∃ y : Int32, y = x5_15 + 1 := ⟨_, rfl⟩
                    have hw := hw x5_31 ex5_31
                    refine lv_iinc (v := x5_31) (lv' := [(5, .int x5_31), (9, .int 1), (6, .int x6_14), (8, .int r_8), (7, .int x7_3), (0, .ref (ad 0)), (1, .int x1), (2, .int x2), (3, .int x3), (4, .int x4)]) hx hb dX3_takeBits_118 hl (k := 4) rfl (by rw [ex5_31]; rfl) (by decide) rfl (fun ls hl => ?_)
                    refine lv_goto (tgt := 70) hx hb dX3_takeBits_121 (by decide) ?_
                    exact ih70 1 x6_14 x5_31 hw _ _ _ hP hD hS (lv_sub hl [1, 2, 3, 4, 0, 5, 6, 7, 8, 9] rfl)
                · have hw := hw.2 c_26
                  refine lv_bipush (v := (-2)) hx hb dX3_takeBits_93 (by decide) ?_
                  exact W.iret (v := (-2)) hx hb hr (fun t ht hW => ⟨⟨(-2), T_2, rfl, hw, by rw [ht]; exact hP, va_K.moved hW.alike hK, hD⟩, hS.F ht⟩) hS.2.2 dX3_takeBits_95
        exact hlp70 n_16 x9_12 x6_10 x5_5 hw _ _ _ hP hD hS (lv_sub hl [0, 1, 2, 3, 4, 5, 6, 7, 8, 9] rfl)
  exact hlp17 n_6 T x7_1 0 0 hw _ _ _ hP hD hS (lv_sub hl [0, 1, 2, 3, 4, 5, 6, 7] rfl)
def wp_X3_costOfLeaf_L17 (post : Int32 → Prop) (ex17 : Int32 → Int32 → Int32 → Prop) (nl : Nat) (nn : Nat) (S : vSH) (T : vTT) (x1 : Int32) (x2 : Int32) (x3 : Int32) : Nat → Int32 → Int32 → Int32 → Prop
  | 0, _, _, _ => False
  | n_5 + 1, x6_2, x5_3, x4_4 => ((x6_2 < 0 → (ex17 x6_2 x5_3 x4_4)) ∧ (¬ x6_2 < 0 → (wp_X1_nodeAt (fun r_7 => vp_in r_7 nn ∧ (∀ x8_9 : Int32, x8_9 = (if x5_3 < (T.2.1.1 r_7.toNatClampNeg) then (T.2.1.1 r_7.toNatClampNeg) else x5_3) → (wp_X3_costOfNode (fun r_10 => ∀ x4_11 : Int32, x4_11 = x4_4 + r_10 → (wp_X3_boundAfter (fun r_12 => ∀ x6_13 : Int32, x6_13 = x6_2 + (-1) → (wp_X3_costOfLeaf_L17 post ex17 nl nn S T x1 x2 x3 n_5 x6_13 r_12 x4_11)) nl nn S T r_7 x8_9 x3)) nl nn S T r_7 x8_9 x3))) nl S  x6_2 (x1 >>> (x6_2 &&& 31)) (x2 >>> (x6_2 &&& 31)))))
def wp_X3_costOfLeaf (post : Int32 → Prop) (nl : Nat) (nn : Nat) (S : vSH) (T : vTT) (x1 : Int32) (x2 : Int32) (x3 : Int32) : Prop := ∀ x6_1 : Int32, x6_1 = S.1.2.2.2.1 - 1 → (∃ n_5 : Nat, wp_X3_costOfLeaf_L17 post (fun (x6_2 : Int32) (x5_3 : Int32) (x4_4 : Int32) => post x4_4) nl nn S T x1 x2 x3 n_5 x6_1 0 0)
abbrev rm_X3_costOfLeaf : Room := { frames := 3, cells := 0, slots := 0, locals := 70 }
set_option maxHeartbeats 4000000 in
set_option maxRecDepth 100000 in
theorem met_X3_costOfLeaf (l : Launch) (dC : Nat → ClassId) (dI : Nat → Nat → Nat) (cI cZ cJ cL : ClassId) (ad ra : Nat → Nat) (post : Int32 → Prop) (nl : Nat) (nn : Nat) (S : vSH) (T : vTT) (x1 : Int32) (x2 : Int32) (x3 : Int32) (hw : wp_X3_costOfLeaf post nl nn S T x1 x2 x3) : Met l yX3_costOfLeaf wsX3_costOfLeaf rm_X3_costOfLeaf (pcR (dC, dI) (tysA cI cZ cJ cL) (wTT cI cZ cJ nl nn ad ra S T) [.ref (ad 0), .int x1, .int x2, .int x3]) (vp_Si post) 0 0 (fun _ => False) := by
  refine Met.ofW (cc := cX3_costOfLeaf) (maxL := 9) (ret := (some .int)) (by decide) rfl ?_
  intro p e s m args below meth c s₁ Bd hml hv
  obtain ⟨hargs, hP, hK⟩ := hv
  have hx := Bd.exec
  have hb := Bd.bytes
  have hr := Bd.returns
  have hts := atoms_spec (ws := wsX3_costOfLeaf) Bd.pre
  have hT : ∀ w ∈ WALL, w.before args s = true := fun w h => hts w (List.mem_cons_of_mem _ h)
  have hown : s.vm.findClass RX3 = some m.cls := findClass_of_methodNamed Bd.named
  have hlocks := Bd.notSynchronized
  have hP : va_P (dC, dI) vwCl (wTT cI cZ cJ nl nn ad ra S T) s.heap := hP
  have hl := lv_entry ([.ref (ad 0), .int x1, .int x2, .int x3]) (n := 9) (Nat.le_of_ble_eq_true rfl)
  rw [show entryFrame m args 9 = F0 m 0 _ [] from by rw [hargs]; exact lg_entry_eq m ([.ref (ad 0), .int x1, .int x2, .int x3]) 9]
  generalize (lg_sl ([.ref (ad 0), .int x1, .int x2, .int x3]) ++ List.replicate (9 - (lg_sl ([.ref (ad 0), .int x1, .int x2, .int x3])).length) Slot.unset).toArray = ls at hl ⊢
  have hl : lv_has ls 9 [(0, .ref (ad 0)), (1, .int x1), (2, .int x2), (3, .int x3)] := hl
  generalize hH : s.heap = H at hP ⊢
  unfold wp_X3_costOfLeaf at hw
  refine lv_iconst (v := 0) hx hb dX3_costOfLeaf_0 (by decide) ?_
  refine lv_istore (lv' := [(4, .int 0), (0, .ref (ad 0)), (1, .int x1), (2, .int x2), (3, .int x3)]) hx hb dX3_costOfLeaf_1 hl (by decide) rfl (fun ls hl => ?_)
  refine lv_iconst (v := 0) hx hb dX3_costOfLeaf_3 (by decide) ?_
  refine lv_istore (lv' := [(5, .int 0), (4, .int 0), (0, .ref (ad 0)), (1, .int x1), (2, .int x2), (3, .int x3)]) hx hb dX3_costOfLeaf_4 hl (by decide) rfl (fun ls hl => ?_)
  refine lv_aload_n hx hb dX3_costOfLeaf_6 rfl (lv_at hl 2 rfl) ?_
  refine va_get (D := (dC, dI)) (ci := 3) (v := .ref (ad 1)) (C := RX3) (T := TX3) (N := 7) hx hb hT inX3 hown hK hP 0 rfl rfl 0 (by decide) (hT _ k_0) (fun _ h9 => h9) rfl dX3_costOfLeaf_7 ?_
  refine va_get (D := (dC, dI)) (ci := 1) (v := .int S.1.2.2.2.1) (C := RX1) (T := TX1) (N := 9) hx hb hT inX1 hown hK hP 1 rfl rfl 3 (by decide) (hT _ k_3) (fun _ h9 => h9) rfl dX3_costOfLeaf_10 ?_
  refine lv_iconst (v := 1) hx hb dX3_costOfLeaf_13 (by decide) ?_
  refine lv_isub hx hb dX3_costOfLeaf_14 ?_
  refine lv_topi (fun x6_1 ex6_1 => ?_)
  have hw := hw x6_1 ex6_1
  refine lv_istore (lv' := [(6, .int x6_1), (5, .int 0), (4, .int 0), (0, .ref (ad 0)), (1, .int x1), (2, .int x2), (3, .int x3)]) hx hb dX3_costOfLeaf_15 hl (by decide) rfl (fun ls hl => ?_)
  obtain ⟨n_5, hw⟩ := hw
  obtain ⟨ex17, eex17⟩ : ∃ z : Int32 → Int32 → Int32 → Prop, z = (fun (x6_2 : Int32) (x5_3 : Int32) (x4_4 : Int32) => post x4_4) := ⟨_, rfl⟩
  rw [← eex17] at hw
  have hx17 : ∀ (x6_2 : Int32) (x5_3 : Int32) (x4_4 : Int32), ex17 x6_2 x5_3 x4_4 → ∀ (ls : Array Slot), lv_has ls 9 [(6, .int x6_2), (5, .int x5_3), (4, .int x4_4), (0, .ref (ad 0)), (1, .int x1), (2, .int x2), (3, .int x3)] → W p l e (headSpec wsX3_costOfLeaf rm_X3_costOfLeaf).room s m args below meth c H [] 0 0 (MQ below (vp_Si post) args s 0 0 (fun _ => False)) (F0 m 89 ls []) := by
    intro x6_2 x5_3 x4_4 hw ls hl
    rw [eex17] at hw
    try dsimp only at hw
    refine lv_iload hx hb dX3_costOfLeaf_89 (lv_at hl 2 rfl) ?_
    exact W.iret (v := x4_4) hx hb hr (fun t ht hW => ⟨x4_4, rfl, hw, ht.trans hH.symm⟩) (fun q h => by cases h) dX3_costOfLeaf_91
  have hlp17 : ∀ (n_5 : Nat) (x6_2 : Int32) (x5_3 : Int32) (x4_4 : Int32), wp_X3_costOfLeaf_L17 post ex17 nl nn S T x1 x2 x3 n_5 x6_2 x5_3 x4_4 → ∀ (ls : Array Slot), lv_has ls 9 [(6, .int x6_2), (5, .int x5_3), (4, .int x4_4), (0, .ref (ad 0)), (1, .int x1), (2, .int x2), (3, .int x3)] → W p l e (headSpec wsX3_costOfLeaf rm_X3_costOfLeaf).room s m args below meth c H [] 0 0 (MQ below (vp_Si post) args s 0 0 (fun _ => False)) (F0 m 17 ls []) := by
    intro n_5
    induction n_5 with
    | zero => intro _ _ _ hw; exact hw.elim
    | succ n_5 ih17 =>
      intro x6_2 x5_3 x4_4 hw ls hl
      unfold wp_X3_costOfLeaf_L17 at hw
      refine lv_iload hx hb dX3_costOfLeaf_17 (lv_at hl 0 rfl) ?_
      refine lv_if_lt (tgt := 89) hx hb dX3_costOfLeaf_19 (by decide) (fun c_6 => ?_) (fun c_6 => ?_)
      · have hw := hw.1 c_6
        exact hx17 x6_2 x5_3 x4_4 hw _ (lv_sub hl [0, 1, 2, 3, 4, 5, 6] rfl)
      · have hw := hw.2 c_6
        refine lv_aload_n hx hb dX3_costOfLeaf_22 rfl (lv_at hl 3 rfl) ?_
        refine va_get (D := (dC, dI)) (ci := 3) (v := .ref (ad 1)) (C := RX3) (T := TX3) (N := 7) hx hb hT inX3 hown hK hP 0 rfl rfl 0 (by decide) (hT _ k_0) (fun _ h9 => h9) rfl dX3_costOfLeaf_23 ?_
        refine lv_iload hx hb dX3_costOfLeaf_26 (lv_at hl 0 rfl) ?_
        refine lv_iload_n hx hb dX3_costOfLeaf_28 rfl (lv_at hl 4 rfl) ?_
        refine lv_iload hx hb dX3_costOfLeaf_29 (lv_at hl 0 rfl) ?_
        refine lv_ishr hx hb dX3_costOfLeaf_31 ?_
        refine lv_iload_n hx hb dX3_costOfLeaf_32 rfl (lv_at hl 5 rfl) ?_
        refine lv_iload hx hb dX3_costOfLeaf_33 (lv_at hl 0 rfl) ?_
        refine lv_ishr hx hb dX3_costOfLeaf_35 ?_
        have hPc := hP.sub (ws' := wSH cI cJ nl (ad 1) (ad 2) (ad 3) (ad 4) (ad 5) ra S) [1, 2, 3, 4, 5, 6, 7, 8] rfl
        refine vp_callSi (W.runV (As := [.int x6_2, .int (x1 >>> (x6_2 &&& 31)), .int (x2 >>> (x6_2 &&& 31))]) (rest := []) ⟨hx, hb, hml, hown, hT⟩ (met_X1_nodeAt l dC dI cI cZ cJ cL (ad 1) (ad 2) (ad 3) (ad 4) (ad 5) ra _ nl S  x6_2 (x1 >>> (x6_2 &&& 31)) (x2 >>> (x6_2 &&& 31)) hw) (cwV 3 hT (gV k_64 k_66 k_67 k_59 k_65) rfl rfl rfl (by decide +kernel) ⟨(Nat.le_of_ble_eq_true rfl), (Nat.le_of_ble_eq_true rfl)⟩) ⟨bl_R, va_recv hK hPc (ci := 1) (q0 := 0) rfl rfl, fun U hU hW => ⟨rfl, by rw [hU]; exact hPc, va_K.moved hW.alike hK⟩⟩ rfl rfl hl.1 rfl (lv_room (Nat.le_of_ble_eq_true rfl)) dX3_costOfLeaf_36 ⟨Nat.le_of_ble_eq_true rfl, Nat.le_of_ble_eq_true rfl⟩) (fun r_7 hw => ?_)
        try dsimp only at hw
        refine lv_istore (lv' := [(7, .int r_7), (6, .int x6_2), (5, .int x5_3), (4, .int x4_4), (0, .ref (ad 0)), (1, .int x1), (2, .int x2), (3, .int x3)]) hx hb dX3_costOfLeaf_39 hl (by decide) rfl (fun ls hl => ?_)
        refine lv_iload hx hb dX3_costOfLeaf_41 (lv_at hl 2 rfl) ?_
        refine lv_aload_n hx hb dX3_costOfLeaf_43 rfl (lv_at hl 4 rfl) ?_
        refine va_get (D := (dC, dI)) (ci := 3) (v := .ref (ad 10)) (C := RX3) (T := TX3) (N := 7) hx hb hT inX3 hown hK hP 0 rfl rfl 2 (by decide) (hT _ k_8) (fun _ h9 => h9) rfl dX3_costOfLeaf_44 ?_
        refine va_get (D := (dC, dI)) (ci := 2) (v := .ref (ad 11)) (C := RX2) (T := TX2) (N := 3) hx hb hT inX2 hown hK hP 10 rfl rfl 0 (by decide) (hT _ k_140) (fun _ h9 => h9) rfl dX3_costOfLeaf_47 ?_
        refine lv_iload hx hb dX3_costOfLeaf_50 (lv_at hl 0 rfl) ?_
        obtain ⟨h_8, hw⟩ := hw
        refine va_iald hx hb hK hP 11 0 rfl rfl h_8 dX3_costOfLeaf_52 ?_
        refine va_mmax (x := x5_3) (y := (T.2.1.1 r_7.toNatClampNeg)) (rest := []) hx hb (by rw [hml]; exact hl.1.symm) hown (hT _ k_155) (hT _ k_156) (hT _ k_86) (hT _ k_157) (Nat.le_of_ble_eq_true rfl) (Nat.le_of_ble_eq_true rfl) (Nat.le_of_ble_eq_true rfl) (Nat.le_of_ble_eq_true rfl) dX3_costOfLeaf_53 ?_
        refine lv_topi (fun x8_9 ex8_9 => ?_)
        have hw := hw x8_9 ex8_9
        refine lv_istore (lv' := [(8, .int x8_9), (7, .int r_7), (6, .int x6_2), (5, .int x5_3), (4, .int x4_4), (0, .ref (ad 0)), (1, .int x1), (2, .int x2), (3, .int x3)]) hx hb dX3_costOfLeaf_56 hl (by decide) rfl (fun ls hl => ?_)
        refine lv_iload hx hb dX3_costOfLeaf_58 (lv_at hl 4 rfl) ?_
        refine lv_aload_n hx hb dX3_costOfLeaf_60 rfl (lv_at hl 5 rfl) ?_
        refine lv_iload hx hb dX3_costOfLeaf_61 (lv_at hl 1 rfl) ?_
        refine lv_iload hx hb dX3_costOfLeaf_63 (lv_at hl 0 rfl) ?_
        refine lv_iload_n hx hb dX3_costOfLeaf_65 rfl (lv_at hl 8 rfl) ?_
        have hPc := hP
        refine vp_callSi (W.runV (As := [.int r_7, .int x8_9, .int x3]) (rest := [.int x4_4]) ⟨hx, hb, hml, hown, hT⟩ (met_X3_costOfNode l dC dI cI cZ cJ cL ad ra _ nl nn S T r_7 x8_9 x3 hw) (cwV 3 hT (gV k_196 k_198 k_199 k_51 k_197) rfl rfl rfl (by decide +kernel) ⟨(Nat.le_of_ble_eq_true rfl), (Nat.le_of_ble_eq_true rfl)⟩) ⟨bl_R, va_recv hK hPc (ci := 3) (q0 := 0) rfl rfl, fun U hU hW => ⟨rfl, by rw [hU]; exact hPc, va_K.moved hW.alike hK⟩⟩ rfl rfl hl.1 rfl (lv_room (Nat.le_of_ble_eq_true rfl)) dX3_costOfLeaf_66 ⟨Nat.le_of_ble_eq_true rfl, Nat.le_of_ble_eq_true rfl⟩) (fun r_10 hw => ?_)
        try dsimp only at hw
        refine lv_iadd hx hb dX3_costOfLeaf_69 ?_
        refine lv_topi (fun x4_11 ex4_11 => ?_)
        have hw := hw x4_11 ex4_11
        refine lv_istore (lv' := [(4, .int x4_11), (8, .int x8_9), (7, .int r_7), (6, .int x6_2), (5, .int x5_3), (0, .ref (ad 0)), (1, .int x1), (2, .int x2), (3, .int x3)]) hx hb dX3_costOfLeaf_70 hl (by decide) rfl (fun ls hl => ?_)
        refine lv_aload_n hx hb dX3_costOfLeaf_72 rfl (lv_at hl 5 rfl) ?_
        refine lv_iload hx hb dX3_costOfLeaf_73 (lv_at hl 2 rfl) ?_
        refine lv_iload hx hb dX3_costOfLeaf_75 (lv_at hl 1 rfl) ?_
        refine lv_iload_n hx hb dX3_costOfLeaf_77 rfl (lv_at hl 8 rfl) ?_
        have hPc := hP
        refine vp_callSi (W.runV (As := [.int r_7, .int x8_9, .int x3]) (rest := []) ⟨hx, hb, hml, hown, hT⟩ (met_X3_boundAfter l dC dI cI cZ cJ cL ad ra _ nl nn S T r_7 x8_9 x3 hw) (cwV 3 hT (gV k_147 k_149 k_150 k_51 k_148) rfl rfl rfl (by decide +kernel) ⟨(Nat.le_of_ble_eq_true rfl), (Nat.le_of_ble_eq_true rfl)⟩) ⟨bl_R, va_recv hK hPc (ci := 3) (q0 := 0) rfl rfl, fun U hU hW => ⟨rfl, by rw [hU]; exact hPc, va_K.moved hW.alike hK⟩⟩ rfl rfl hl.1 rfl (lv_room (Nat.le_of_ble_eq_true rfl)) dX3_costOfLeaf_78 ⟨Nat.le_of_ble_eq_true rfl, Nat.le_of_ble_eq_true rfl⟩) (fun r_12 hw => ?_)
        try dsimp only at hw
        refine lv_istore (lv' := [(5, .int r_12), (4, .int x4_11), (8, .int x8_9), (7, .int r_7), (6, .int x6_2), (0, .ref (ad 0)), (1, .int x1), (2, .int x2), (3, .int x3)]) hx hb dX3_costOfLeaf_81 hl (by decide) rfl (fun ls hl => ?_)
        obtain ⟨x6_13, ex6_13⟩ : ∃ y : Int32, y = x6_2 + (-1) := ⟨_, rfl⟩
        have hw := hw x6_13 ex6_13
        refine lv_iinc (v := x6_13) (lv' := [(6, .int x6_13), (5, .int r_12), (4, .int x4_11), (8, .int x8_9), (7, .int r_7), (0, .ref (ad 0)), (1, .int x1), (2, .int x2), (3, .int x3)]) hx hb dX3_costOfLeaf_83 hl (k := 4) rfl (by rw [ex6_13]; rfl) (by decide) rfl (fun ls hl => ?_)
        refine lv_goto (tgt := 17) hx hb dX3_costOfLeaf_86 (by decide) ?_
        exact ih17 x6_13 r_12 x4_11 hw _ (lv_sub hl [0, 1, 2, 5, 6, 7, 8] rfl)
  exact hlp17 n_5 x6_1 0 0 hw _ (lv_sub hl [0, 1, 2, 3, 4, 5, 6] rfl)
def wp_X3_costBelow_L71 (post : Int32 → Prop) (rec9 : (Int32 → Prop) → Int32 → Int32 → Int32 → Int32 → Int32 → Prop) (ex71 : Int32 → Int32 → Prop) (nl : Nat) (nn : Nat) (S : vSH) (T : vTT) (r_7 : Int32) (x7_5 : Int32) (r_3 : Int32) (x1 : Int32) (x2 : Int32) (x3 : Int32) (x4 : Int32) (x5 : Int32) : Nat → Int32 → Int32 → Prop
  | 0, _, _ => False
  | n_10 + 1, x10_8, x8_9 => ((4 ≤ x10_8 → (ex71 x10_8 x8_9)) ∧ (¬ 4 ≤ x10_8 → (rec9 (fun r_12 => ∀ x8_13 : Int32, x8_13 = x8_9 + r_12 → (∀ x10_14 : Int32, x10_14 = x10_8 + 1 → (wp_X3_costBelow_L71 post rec9 ex71 nl nn S T r_7 x7_5 r_3 x1 x2 x3 x4 x5 n_10 x10_14 x8_13))) (x1 - 1) ((2 * x2) + (x10_8 &&& 1)) ((2 * x3) + (x10_8 >>> ((1 : Int32) &&& 31))) r_7 x5)))
def wp_X3_costBelow (nl : Nat) (nn : Nat) (S : vSH) (T : vTT) : Nat → (Int32 → Prop) → Int32 → Int32 → Int32 → Int32 → Int32 → Prop
  | 0, _, _, _, _, _, _ => False
  | d + 1, post, x1, x2, x3, x4, x5 => (fun rec9 : (Int32 → Prop) → Int32 → Int32 → Int32 → Int32 → Int32 → Prop => wp_X1_hasNode (fun r_1 => ((r_1 = 0 → (post 0)) ∧ (¬ r_1 = 0 → (wp_X1_nodeAt (fun r_3 => vp_in r_3 nn ∧ (∀ x7_5 : Int32, x7_5 = (if x4 < (T.2.1.1 r_3.toNatClampNeg) then (T.2.1.1 r_3.toNatClampNeg) else x4) → (wp_X3_costOfNode (fun r_6 => wp_X3_boundAfter (fun r_7 => ∃ n_10 : Nat, wp_X3_costBelow_L71 post rec9 (fun (x10_8 : Int32) (x8_9 : Int32) => post x8_9) nl nn S T r_7 x7_5 r_3 x1 x2 x3 x4 x5 n_10 0 r_6) nl nn S T r_3 x7_5 x5) nl nn S T r_3 x7_5 x5))) nl S  x1 x2 x3)))) nl S  x1 x2 x3) (wp_X3_costBelow nl nn S T d)
abbrev rm_X3_costBelow (d : Nat) : Room := { frames := 4 + d, cells := 0, slots := 0, locals := 140 + d * 30 }
set_option maxHeartbeats 4000000 in
set_option maxRecDepth 100000 in
theorem met_X3_costBelow (l : Launch) (dC : Nat → ClassId) (dI : Nat → Nat → Nat) (cI cZ cJ cL : ClassId) (ad ra : Nat → Nat) (nl : Nat) (nn : Nat) (S : vSH) (T : vTT) : ∀ (d : Nat) (post : Int32 → Prop) (x1 : Int32) (x2 : Int32) (x3 : Int32) (x4 : Int32) (x5 : Int32), wp_X3_costBelow nl nn S T d post x1 x2 x3 x4 x5 → Met l yX3_costBelow wsX3_costBelow (rm_X3_costBelow d) (pcR (dC, dI) (tysA cI cZ cJ cL) (wTT cI cZ cJ nl nn ad ra S T) [.ref (ad 0), .int x1, .int x2, .int x3, .int x4, .int x5]) (vp_Si post) 0 0 (fun _ => False) := by
  intro d
  induction d with
  | zero => intro _ _ _ _ _ _ hw; exact hw.elim
  | succ d ihR =>
    intro post x1 x2 x3 x4 x5 hw
    refine Met.ofW (cc := cX3_costBelow) (maxL := 11) (ret := (some .int)) (by decide) rfl ?_
    intro p e s m args below meth c s₁ Bd hml hv
    obtain ⟨hargs, hP, hK⟩ := hv
    have hx := Bd.exec
    have hb := Bd.bytes
    have hr := Bd.returns
    have hts := atoms_spec (ws := wsX3_costBelow) Bd.pre
    have hT : ∀ w ∈ WALL, w.before args s = true := fun w h => hts w (List.mem_cons_of_mem _ h)
    have hown : s.vm.findClass RX3 = some m.cls := findClass_of_methodNamed Bd.named
    have hlocks := Bd.notSynchronized
    have hP : va_P (dC, dI) vwCl (wTT cI cZ cJ nl nn ad ra S T) s.heap := hP
    have hl := lv_entry ([.ref (ad 0), .int x1, .int x2, .int x3, .int x4, .int x5]) (n := 11) (Nat.le_of_ble_eq_true rfl)
    rw [show entryFrame m args 11 = F0 m 0 _ [] from by rw [hargs]; exact lg_entry_eq m ([.ref (ad 0), .int x1, .int x2, .int x3, .int x4, .int x5]) 11]
    generalize (lg_sl ([.ref (ad 0), .int x1, .int x2, .int x3, .int x4, .int x5]) ++ List.replicate (11 - (lg_sl ([.ref (ad 0), .int x1, .int x2, .int x3, .int x4, .int x5])).length) Slot.unset).toArray = ls at hl ⊢
    have hl : lv_has ls 11 [(0, .ref (ad 0)), (1, .int x1), (2, .int x2), (3, .int x3), (4, .int x4), (5, .int x5)] := hl
    generalize hH : s.heap = H at hP ⊢
    unfold wp_X3_costBelow at hw
    obtain ⟨rec9, hrec⟩ : ∃ z : (Int32 → Prop) → Int32 → Int32 → Int32 → Int32 → Int32 → Prop, z = wp_X3_costBelow nl nn S T d := ⟨_, rfl⟩
    rw [← hrec] at hw ihR
    try dsimp only at hw
    refine lv_aload_n hx hb dX3_costBelow_0 rfl (lv_at hl 0 rfl) ?_
    refine va_get (D := (dC, dI)) (ci := 3) (v := .ref (ad 1)) (C := RX3) (T := TX3) (N := 7) hx hb hT inX3 hown hK hP 0 rfl rfl 0 (by decide) (hT _ k_0) (fun _ h9 => h9) rfl dX3_costBelow_1 ?_
    refine lv_iload_n hx hb dX3_costBelow_4 rfl (lv_at hl 1 rfl) ?_
    refine lv_iload_n hx hb dX3_costBelow_5 rfl (lv_at hl 2 rfl) ?_
    refine lv_iload_n hx hb dX3_costBelow_6 rfl (lv_at hl 3 rfl) ?_
    have hPc := hP.sub (ws' := wSH cI cJ nl (ad 1) (ad 2) (ad 3) (ad 4) (ad 5) ra S) [1, 2, 3, 4, 5, 6, 7, 8] rfl
    refine vp_callSi (W.runV (As := [.int x1, .int x2, .int x3]) (rest := []) ⟨hx, hb, hml, hown, hT⟩ (met_X1_hasNode l dC dI cI cZ cJ cL (ad 1) (ad 2) (ad 3) (ad 4) (ad 5) ra _ nl S  x1 x2 x3 hw) (cwV 3 hT (gV k_79 k_81 k_82 k_59 k_80) rfl rfl rfl (by decide +kernel) ⟨(Nat.le_trans (show 1 ≤ 4 by decide) (Nat.le_add_right _ _)), (Nat.le_trans (show 23 ≤ 140 by decide) (Nat.le_add_right _ _))⟩) ⟨bl_R, va_recv hK hPc (ci := 1) (q0 := 0) rfl rfl, fun U hU hW => ⟨rfl, by rw [hU]; exact hPc, va_K.moved hW.alike hK⟩⟩ rfl rfl hl.1 rfl (lv_room (Nat.le_of_ble_eq_true rfl)) dX3_costBelow_7 ⟨Nat.le_of_ble_eq_true rfl, Nat.le_of_ble_eq_true rfl⟩) (fun r_1 hw => ?_)
    try dsimp only at hw
    refine lv_if_ne (tgt := 15) hx hb dX3_costBelow_10 (by decide) (fun c_2 => ?_) (fun c_2 => ?_)
    · have hw := hw.2 c_2
      refine lv_aload_n hx hb dX3_costBelow_15 rfl (lv_at hl 0 rfl) ?_
      refine va_get (D := (dC, dI)) (ci := 3) (v := .ref (ad 1)) (C := RX3) (T := TX3) (N := 7) hx hb hT inX3 hown hK hP 0 rfl rfl 0 (by decide) (hT _ k_0) (fun _ h9 => h9) rfl dX3_costBelow_16 ?_
      refine lv_iload_n hx hb dX3_costBelow_19 rfl (lv_at hl 1 rfl) ?_
      refine lv_iload_n hx hb dX3_costBelow_20 rfl (lv_at hl 2 rfl) ?_
      refine lv_iload_n hx hb dX3_costBelow_21 rfl (lv_at hl 3 rfl) ?_
      have hPc := hP.sub (ws' := wSH cI cJ nl (ad 1) (ad 2) (ad 3) (ad 4) (ad 5) ra S) [1, 2, 3, 4, 5, 6, 7, 8] rfl
      refine vp_callSi (W.runV (As := [.int x1, .int x2, .int x3]) (rest := []) ⟨hx, hb, hml, hown, hT⟩ (met_X1_nodeAt l dC dI cI cZ cJ cL (ad 1) (ad 2) (ad 3) (ad 4) (ad 5) ra _ nl S  x1 x2 x3 hw) (cwV 3 hT (gV k_64 k_66 k_67 k_59 k_65) rfl rfl rfl (by decide +kernel) ⟨(Nat.le_trans (show 1 ≤ 4 by decide) (Nat.le_add_right _ _)), (Nat.le_trans (show 23 ≤ 140 by decide) (Nat.le_add_right _ _))⟩) ⟨bl_R, va_recv hK hPc (ci := 1) (q0 := 0) rfl rfl, fun U hU hW => ⟨rfl, by rw [hU]; exact hPc, va_K.moved hW.alike hK⟩⟩ rfl rfl hl.1 rfl (lv_room (Nat.le_of_ble_eq_true rfl)) dX3_costBelow_22 ⟨Nat.le_of_ble_eq_true rfl, Nat.le_of_ble_eq_true rfl⟩) (fun r_3 hw => ?_)
      try dsimp only at hw
      refine lv_istore (lv' := [(6, .int r_3), (0, .ref (ad 0)), (1, .int x1), (2, .int x2), (3, .int x3), (4, .int x4), (5, .int x5)]) hx hb dX3_costBelow_25 hl (by decide) rfl (fun ls hl => ?_)
      refine lv_iload hx hb dX3_costBelow_27 (lv_at hl 5 rfl) ?_
      refine lv_aload_n hx hb dX3_costBelow_29 rfl (lv_at hl 1 rfl) ?_
      refine va_get (D := (dC, dI)) (ci := 3) (v := .ref (ad 10)) (C := RX3) (T := TX3) (N := 7) hx hb hT inX3 hown hK hP 0 rfl rfl 2 (by decide) (hT _ k_8) (fun _ h9 => h9) rfl dX3_costBelow_30 ?_
      refine va_get (D := (dC, dI)) (ci := 2) (v := .ref (ad 11)) (C := RX2) (T := TX2) (N := 3) hx hb hT inX2 hown hK hP 10 rfl rfl 0 (by decide) (hT _ k_140) (fun _ h9 => h9) rfl dX3_costBelow_33 ?_
      refine lv_iload hx hb dX3_costBelow_36 (lv_at hl 0 rfl) ?_
      obtain ⟨h_4, hw⟩ := hw
      refine va_iald hx hb hK hP 11 0 rfl rfl h_4 dX3_costBelow_38 ?_
      refine va_mmax (x := x4) (y := (T.2.1.1 r_3.toNatClampNeg)) (rest := []) hx hb (by rw [hml]; exact hl.1.symm) hown (hT _ k_155) (hT _ k_156) (hT _ k_86) (hT _ k_157) (Nat.le_trans (show 1 ≤ 4 by decide) (Nat.le_add_right _ _)) (Nat.le_trans (show 13 ≤ 140 by decide) (Nat.le_add_right _ _)) (Nat.le_of_ble_eq_true rfl) (Nat.le_of_ble_eq_true rfl) dX3_costBelow_39 ?_
      refine lv_topi (fun x7_5 ex7_5 => ?_)
      have hw := hw x7_5 ex7_5
      refine lv_istore (lv' := [(7, .int x7_5), (6, .int r_3), (0, .ref (ad 0)), (1, .int x1), (2, .int x2), (3, .int x3), (4, .int x4), (5, .int x5)]) hx hb dX3_costBelow_42 hl (by decide) rfl (fun ls hl => ?_)
      refine lv_aload_n hx hb dX3_costBelow_44 rfl (lv_at hl 2 rfl) ?_
      refine lv_iload hx hb dX3_costBelow_45 (lv_at hl 1 rfl) ?_
      refine lv_iload hx hb dX3_costBelow_47 (lv_at hl 0 rfl) ?_
      refine lv_iload hx hb dX3_costBelow_49 (lv_at hl 7 rfl) ?_
      have hPc := hP
      refine vp_callSi (W.runV (As := [.int r_3, .int x7_5, .int x5]) (rest := []) ⟨hx, hb, hml, hown, hT⟩ (met_X3_costOfNode l dC dI cI cZ cJ cL ad ra _ nl nn S T r_3 x7_5 x5 hw) (cwV 3 hT (gV k_196 k_198 k_199 k_51 k_197) rfl rfl rfl (by decide +kernel) ⟨(Nat.le_trans (show 3 ≤ 4 by decide) (Nat.le_add_right _ _)), (Nat.le_trans (show 70 ≤ 140 by decide) (Nat.le_add_right _ _))⟩) ⟨bl_R, va_recv hK hPc (ci := 3) (q0 := 0) rfl rfl, fun U hU hW => ⟨rfl, by rw [hU]; exact hPc, va_K.moved hW.alike hK⟩⟩ rfl rfl hl.1 rfl (lv_room (Nat.le_of_ble_eq_true rfl)) dX3_costBelow_51 ⟨Nat.le_of_ble_eq_true rfl, Nat.le_of_ble_eq_true rfl⟩) (fun r_6 hw => ?_)
      try dsimp only at hw
      refine lv_istore (lv' := [(8, .int r_6), (7, .int x7_5), (6, .int r_3), (0, .ref (ad 0)), (1, .int x1), (2, .int x2), (3, .int x3), (4, .int x4), (5, .int x5)]) hx hb dX3_costBelow_54 hl (by decide) rfl (fun ls hl => ?_)
      refine lv_aload_n hx hb dX3_costBelow_56 rfl (lv_at hl 3 rfl) ?_
      refine lv_iload hx hb dX3_costBelow_57 (lv_at hl 2 rfl) ?_
      refine lv_iload hx hb dX3_costBelow_59 (lv_at hl 1 rfl) ?_
      refine lv_iload hx hb dX3_costBelow_61 (lv_at hl 8 rfl) ?_
      have hPc := hP
      refine vp_callSi (W.runV (As := [.int r_3, .int x7_5, .int x5]) (rest := []) ⟨hx, hb, hml, hown, hT⟩ (met_X3_boundAfter l dC dI cI cZ cJ cL ad ra _ nl nn S T r_3 x7_5 x5 hw) (cwV 3 hT (gV k_147 k_149 k_150 k_51 k_148) rfl rfl rfl (by decide +kernel) ⟨(Nat.le_trans (show 2 ≤ 4 by decide) (Nat.le_add_right _ _)), (Nat.le_trans (show 46 ≤ 140 by decide) (Nat.le_add_right _ _))⟩) ⟨bl_R, va_recv hK hPc (ci := 3) (q0 := 0) rfl rfl, fun U hU hW => ⟨rfl, by rw [hU]; exact hPc, va_K.moved hW.alike hK⟩⟩ rfl rfl hl.1 rfl (lv_room (Nat.le_of_ble_eq_true rfl)) dX3_costBelow_63 ⟨Nat.le_of_ble_eq_true rfl, Nat.le_of_ble_eq_true rfl⟩) (fun r_7 hw => ?_)
      try dsimp only at hw
      refine lv_istore (lv' := [(9, .int r_7), (8, .int r_6), (7, .int x7_5), (6, .int r_3), (0, .ref (ad 0)), (1, .int x1), (2, .int x2), (3, .int x3), (4, .int x4), (5, .int x5)]) hx hb dX3_costBelow_66 hl (by decide) rfl (fun ls hl => ?_)
      refine lv_iconst (v := 0) hx hb dX3_costBelow_68 (by decide) ?_
      refine lv_istore (lv' := [(10, .int 0), (9, .int r_7), (8, .int r_6), (7, .int x7_5), (6, .int r_3), (0, .ref (ad 0)), (1, .int x1), (2, .int x2), (3, .int x3), (4, .int x4), (5, .int x5)]) hx hb dX3_costBelow_69 hl (by decide) rfl (fun ls hl => ?_)
      obtain ⟨n_10, hw⟩ := hw
      obtain ⟨ex71, eex71⟩ : ∃ z : Int32 → Int32 → Prop, z = (fun (x10_8 : Int32) (x8_9 : Int32) => post x8_9) := ⟨_, rfl⟩
      rw [← eex71] at hw
      have hx71 : ∀ (x10_8 : Int32) (x8_9 : Int32), ex71 x10_8 x8_9 → ∀ (ls : Array Slot), lv_has ls 11 [(10, .int x10_8), (9, .int r_7), (8, .int x8_9), (7, .int x7_5), (6, .int r_3), (0, .ref (ad 0)), (1, .int x1), (2, .int x2), (3, .int x3), (4, .int x4), (5, .int x5)] → W p l e (headSpec wsX3_costBelow (rm_X3_costBelow (d + 1))).room s m args below meth c H [] 0 0 (MQ below (vp_Si post) args s 0 0 (fun _ => False)) (F0 m 115 ls []) := by
        intro x10_8 x8_9 hw ls hl
        rw [eex71] at hw
        try dsimp only at hw
        refine lv_iload hx hb dX3_costBelow_115 (lv_at hl 2 rfl) ?_
        exact W.iret (v := x8_9) hx hb hr (fun t ht hW => ⟨x8_9, rfl, hw, ht.trans hH.symm⟩) (fun q h => by cases h) dX3_costBelow_117
      have hlp71 : ∀ (n_10 : Nat) (x10_8 : Int32) (x8_9 : Int32), wp_X3_costBelow_L71 post rec9 ex71 nl nn S T r_7 x7_5 r_3 x1 x2 x3 x4 x5 n_10 x10_8 x8_9 → ∀ (ls : Array Slot), lv_has ls 11 [(10, .int x10_8), (9, .int r_7), (8, .int x8_9), (7, .int x7_5), (6, .int r_3), (0, .ref (ad 0)), (1, .int x1), (2, .int x2), (3, .int x3), (4, .int x4), (5, .int x5)] → W p l e (headSpec wsX3_costBelow (rm_X3_costBelow (d + 1))).room s m args below meth c H [] 0 0 (MQ below (vp_Si post) args s 0 0 (fun _ => False)) (F0 m 71 ls []) := by
        intro n_10
        induction n_10 with
        | zero => intro _ _ hw; exact hw.elim
        | succ n_10 ih71 =>
          intro x10_8 x8_9 hw ls hl
          unfold wp_X3_costBelow_L71 at hw
          refine lv_iload hx hb dX3_costBelow_71 (lv_at hl 0 rfl) ?_
          refine lv_iconst (v := 4) hx hb dX3_costBelow_73 (by decide) ?_
          refine lv_icmp_ge (tgt := 115) hx hb dX3_costBelow_74 (by decide) (fun c_11 => ?_) (fun c_11 => ?_)
          · have hw := hw.1 c_11
            exact hx71 x10_8 x8_9 hw _ (lv_sub hl [0, 1, 2, 3, 4, 5, 6, 7, 8, 9, 10] rfl)
          · have hw := hw.2 c_11
            refine lv_iload hx hb dX3_costBelow_77 (lv_at hl 2 rfl) ?_
            refine lv_aload_n hx hb dX3_costBelow_79 rfl (lv_at hl 5 rfl) ?_
            refine lv_iload_n hx hb dX3_costBelow_80 rfl (lv_at hl 6 rfl) ?_
            refine lv_iconst (v := 1) hx hb dX3_costBelow_81 (by decide) ?_
            refine lv_isub hx hb dX3_costBelow_82 ?_
            refine lv_iconst (v := 2) hx hb dX3_costBelow_83 (by decide) ?_
            refine lv_iload_n hx hb dX3_costBelow_84 rfl (lv_at hl 7 rfl) ?_
            refine lv_imul hx hb dX3_costBelow_85 ?_
            refine lv_iload hx hb dX3_costBelow_86 (lv_at hl 0 rfl) ?_
            refine lv_iconst (v := 1) hx hb dX3_costBelow_88 (by decide) ?_
            refine lv_iand hx hb dX3_costBelow_89 ?_
            refine lv_iadd hx hb dX3_costBelow_90 ?_
            refine lv_iconst (v := 2) hx hb dX3_costBelow_91 (by decide) ?_
            refine lv_iload_n hx hb dX3_costBelow_92 rfl (lv_at hl 8 rfl) ?_
            refine lv_imul hx hb dX3_costBelow_93 ?_
            refine lv_iload hx hb dX3_costBelow_94 (lv_at hl 0 rfl) ?_
            refine lv_iconst (v := 1) hx hb dX3_costBelow_96 (by decide) ?_
            refine lv_ishr hx hb dX3_costBelow_97 ?_
            refine lv_iadd hx hb dX3_costBelow_98 ?_
            refine lv_iload hx hb dX3_costBelow_99 (lv_at hl 1 rfl) ?_
            refine lv_iload hx hb dX3_costBelow_101 (lv_at hl 10 rfl) ?_
            have hPc := hP
            refine vp_callSi (W.runV (As := [.int (x1 - 1), .int ((2 * x2) + (x10_8 &&& 1)), .int ((2 * x3) + (x10_8 >>> ((1 : Int32) &&& 31))), .int r_7, .int x5]) (rest := [.int x8_9]) ⟨hx, hb, hml, hown, hT⟩ (ihR _ (x1 - 1) ((2 * x2) + (x10_8 &&& 1)) ((2 * x3) + (x10_8 >>> ((1 : Int32) &&& 31))) r_7 x5 hw) (cwV 5 hT (gV k_200 k_202 k_203 k_51 k_201) rfl rfl rfl (by decide +kernel) ⟨by show 4 + d + 1 ≤ 4 + (d + 1); omega, by show 8 + (11 + 11) + (140 + d * 30) ≤ 140 + (d + 1) * 30; omega⟩) ⟨bl_R, va_recv hK hPc (ci := 3) (q0 := 0) rfl rfl, fun U hU hW => ⟨rfl, by rw [hU]; exact hPc, va_K.moved hW.alike hK⟩⟩ rfl rfl hl.1 rfl (lv_room (Nat.le_of_ble_eq_true rfl)) dX3_costBelow_103 ⟨Nat.le_of_ble_eq_true rfl, Nat.le_of_ble_eq_true rfl⟩) (fun r_12 hw => ?_)
            try dsimp only at hw
            refine lv_iadd hx hb dX3_costBelow_106 ?_
            refine lv_topi (fun x8_13 ex8_13 => ?_)
            have hw := hw x8_13 ex8_13
            refine lv_istore (lv' := [(8, .int x8_13), (10, .int x10_8), (9, .int r_7), (7, .int x7_5), (6, .int r_3), (0, .ref (ad 0)), (1, .int x1), (2, .int x2), (3, .int x3), (4, .int x4), (5, .int x5)]) hx hb dX3_costBelow_107 hl (by decide) rfl (fun ls hl => ?_)
            obtain ⟨x10_14, ex10_14⟩ : ∃ y : Int32, y = x10_8 + 1 := ⟨_, rfl⟩
            have hw := hw x10_14 ex10_14
            refine lv_iinc (v := x10_14) (lv' := [(10, .int x10_14), (8, .int x8_13), (9, .int r_7), (7, .int x7_5), (6, .int r_3), (0, .ref (ad 0)), (1, .int x1), (2, .int x2), (3, .int x3), (4, .int x4), (5, .int x5)]) hx hb dX3_costBelow_109 hl (k := 1) rfl (by rw [ex10_14]; rfl) (by decide) rfl (fun ls hl => ?_)
            refine lv_goto (tgt := 71) hx hb dX3_costBelow_112 (by decide) ?_
            exact ih71 x10_14 x8_13 hw _ (lv_sub hl [0, 2, 1, 3, 4, 5, 6, 7, 8, 9, 10] rfl)
      exact hlp71 n_10 0 r_6 hw _ (lv_sub hl [0, 1, 2, 3, 4, 5, 6, 7, 8, 9, 10] rfl)
    · have hw := hw.1 c_2
      refine lv_iconst (v := 0) hx hb dX3_costBelow_13 (by decide) ?_
      exact W.iret (v := 0) hx hb hr (fun t ht hW => ⟨0, rfl, hw, ht.trans hH.symm⟩) (fun q h => by cases h) dX3_costBelow_14
def wp_X3_tellLeaf_L14 (post : vTT → Prop) (ex14 : vTT → Int32 → Int32 → Prop) (nl : Nat) (nn : Nat) (S : vSH) (x1 : Int32) (x2 : Int32) (x3 : Int32) : Nat → vTT → Int32 → Int32 → Prop
  | 0, _, _, _ => False
  | n_5 + 1, T_2, x5_3, x4_4 => ((x5_3 < 0 → (ex14 T_2 x5_3 x4_4)) ∧ (¬ x5_3 < 0 → (wp_X1_nodeAt (fun r_7 => vp_in r_7 nn ∧ (wp_X3_tellNode (fun T_9 => vp_in r_7 nn ∧ (∀ x4_11 : Int32, x4_11 = T_9.2.1.1 r_7.toNatClampNeg → (∀ x5_12 : Int32, x5_12 = x5_3 + (-1) → (wp_X3_tellLeaf_L14 post ex14 nl nn S x1 x2 x3 n_5 T_9 x5_12 x4_11)))) nl nn S T_2 r_7 (if x4_4 < (T_2.2.1.1 r_7.toNatClampNeg) then (T_2.2.1.1 r_7.toNatClampNeg) else x4_4) x3)) nl S  x5_3 (x1 >>> (x5_3 &&& 31)) (x2 >>> (x5_3 &&& 31)))))
def wp_X3_tellLeaf (post : vTT → Prop) (nl : Nat) (nn : Nat) (S : vSH) (T : vTT) (x1 : Int32) (x2 : Int32) (x3 : Int32) : Prop := ∀ x5_1 : Int32, x5_1 = S.1.2.2.2.1 - 1 → (∃ n_5 : Nat, wp_X3_tellLeaf_L14 post (fun (T_2 : vTT) (x5_3 : Int32) (x4_4 : Int32) => post T_2) nl nn S x1 x2 x3 n_5 T x5_1 0)
abbrev rm_X3_tellLeaf : Room := { frames := 3, cells := 0, slots := 0, locals := 71 }
set_option maxHeartbeats 4000000 in
set_option maxRecDepth 100000 in
theorem met_X3_tellLeaf (l : Launch) (dC : Nat → ClassId) (dI : Nat → Nat → Nat) (cI cZ cJ cL : ClassId) (ad ra : Nat → Nat) (sz : Nat) (post : vTT → Prop) (nl : Nat) (nn : Nat) (S : vSH) (T : vTT) (x1 : Int32) (x2 : Int32) (x3 : Int32) (hw : wp_X3_tellLeaf post nl nn S T x1 x2 x3) : Met l yX3_tellLeaf wsX3_tellLeaf rm_X3_tellLeaf (pcW (dC, dI) (tysA cI cZ cJ cL) (wTT cI cZ cJ nl nn ad ra S T) sz [.ref (ad 0), .int x1, .int x2, .int x3]) (va_Qv post (fun u t => qB (dC, dI) (tysA cI cZ cJ cL) (va_A (wTT cI cZ cJ nl nn ad ra S T) sz) (wTT cI cZ cJ nl nn ad ra S u) t) (va_A (wTT cI cZ cJ nl nn ad ra S T) sz)) 0 0 (va_A (wTT cI cZ cJ nl nn ad ra S T) sz) := by
  refine Met.ofW (cc := cX3_tellLeaf) (maxL := 7) (ret := none) (by decide) rfl ?_
  intro p e s m args below meth c s₁ Bd hml hv
  obtain ⟨hargs, hsz, hP, hK, hD0⟩ := hv
  have hx := Bd.exec
  have hb := Bd.bytes
  have hr := Bd.returns
  have hts := atoms_spec (ws := wsX3_tellLeaf) Bd.pre
  have hT : ∀ w ∈ WALL, w.before args s = true := fun w h => hts w (List.mem_cons_of_mem _ h)
  have hown : s.vm.findClass RX3 = some m.cls := findClass_of_methodNamed Bd.named
  have hlocks := Bd.notSynchronized
  subst hsz
  have hD := hD0.self (sz := s.heap.size)
  generalize hAe : va_A (wTT cI cZ cJ nl nn ad ra S T) s.heap.size = A at hD ⊢
  have hA : ∀ q : Nat, s.heap.size ≤ q → A q := fun q h => by rw [← hAe]; exact Or.inr h
  have hS : va_S A s.heap s.heap [] := va_S.rf
  have hP : va_P (dC, dI) vwCl (wTT cI cZ cJ nl nn ad ra S T) s.heap := hP
  have hl := lv_entry ([.ref (ad 0), .int x1, .int x2, .int x3]) (n := 7) (Nat.le_of_ble_eq_true rfl)
  rw [show entryFrame m args 7 = F0 m 0 _ [] from by rw [hargs]; exact lg_entry_eq m ([.ref (ad 0), .int x1, .int x2, .int x3]) 7]
  generalize (lg_sl ([.ref (ad 0), .int x1, .int x2, .int x3]) ++ List.replicate (7 - (lg_sl ([.ref (ad 0), .int x1, .int x2, .int x3])).length) Slot.unset).toArray = ls at hl ⊢
  have hl : lv_has ls 7 [(0, .ref (ad 0)), (1, .int x1), (2, .int x2), (3, .int x3)] := hl
  obtain ⟨H, hH⟩ : ∃ z : Heap, z = s.heap := ⟨_, rfl⟩
  obtain ⟨locs, hlocs⟩ : ∃ z : List Loc, z = [] := ⟨_, rfl⟩
  rw [show W p l e (headSpec wsX3_tellLeaf rm_X3_tellLeaf).room s m args below meth c s.heap [] 0 0 = W p l e (headSpec wsX3_tellLeaf rm_X3_tellLeaf).room s m args below meth c H locs 0 0 from by rw [hH, hlocs]]
  have hP : va_P (dC, dI) vwCl (wTT cI cZ cJ nl nn ad ra S T) H := by rw [hH]; exact hP
  have hS : va_S A s.heap H locs := by rw [hH, hlocs]; exact hS
  unfold wp_X3_tellLeaf at hw
  refine lv_iconst (v := 0) hx hb dX3_tellLeaf_0 (by decide) ?_
  refine lv_istore (lv' := [(4, .int 0), (0, .ref (ad 0)), (1, .int x1), (2, .int x2), (3, .int x3)]) hx hb dX3_tellLeaf_1 hl (by decide) rfl (fun ls hl => ?_)
  refine lv_aload_n hx hb dX3_tellLeaf_3 rfl (lv_at hl 1 rfl) ?_
  refine va_get (D := (dC, dI)) (ci := 3) (v := .ref (ad 1)) (C := RX3) (T := TX3) (N := 7) hx hb hT inX3 hown hK hP 0 rfl rfl 0 (by decide) (hT _ k_0) (fun _ h9 => h9) rfl dX3_tellLeaf_4 ?_
  refine va_get (D := (dC, dI)) (ci := 1) (v := .int S.1.2.2.2.1) (C := RX1) (T := TX1) (N := 9) hx hb hT inX1 hown hK hP 1 rfl rfl 3 (by decide) (hT _ k_3) (fun _ h9 => h9) rfl dX3_tellLeaf_7 ?_
  refine lv_iconst (v := 1) hx hb dX3_tellLeaf_10 (by decide) ?_
  refine lv_isub hx hb dX3_tellLeaf_11 ?_
  refine lv_topi (fun x5_1 ex5_1 => ?_)
  have hw := hw x5_1 ex5_1
  refine lv_istore (lv' := [(5, .int x5_1), (4, .int 0), (0, .ref (ad 0)), (1, .int x1), (2, .int x2), (3, .int x3)]) hx hb dX3_tellLeaf_12 hl (by decide) rfl (fun ls hl => ?_)
  obtain ⟨n_5, hw⟩ := hw
  obtain ⟨ex14, eex14⟩ : ∃ z : vTT → Int32 → Int32 → Prop, z = (fun (T_2 : vTT) (x5_3 : Int32) (x4_4 : Int32) => post T_2) := ⟨_, rfl⟩
  rw [← eex14] at hw
  have hx14 : ∀ (T_2 : vTT) (x5_3 : Int32) (x4_4 : Int32), ex14 T_2 x5_3 x4_4 → ∀ (H : Heap) (locs : List Loc) (ls : Array Slot), va_P (dC, dI) vwCl (wTT cI cZ cJ nl nn ad ra S T_2) H → va_D A (wTT cI cZ cJ nl nn ad ra S T_2) → va_S A s.heap H locs → lv_has ls 7 [(5, .int x5_3), (4, .int x4_4), (0, .ref (ad 0)), (1, .int x1), (2, .int x2), (3, .int x3)] → W p l e (headSpec wsX3_tellLeaf rm_X3_tellLeaf).room s m args below meth c H locs 0 0 (MQ below (va_Qv post (fun u t => qB (dC, dI) (tysA cI cZ cJ cL) A (wTT cI cZ cJ nl nn ad ra S u) t) A) args s 0 0 A) (F0 m 78 ls []) := by
    intro T_2 x5_3 x4_4 hw H locs ls hP hD hS hl
    rw [eex14] at hw
    try dsimp only at hw
    exact W.vret hx hb hr (fun t ht hW => ⟨⟨T_2, rfl, hw, by rw [ht]; exact hP, va_K.moved hW.alike hK, hD⟩, hS.F ht⟩) hS.2.2 dX3_tellLeaf_78
  have hlp14 : ∀ (n_5 : Nat) (T_2 : vTT) (x5_3 : Int32) (x4_4 : Int32), wp_X3_tellLeaf_L14 post ex14 nl nn S x1 x2 x3 n_5 T_2 x5_3 x4_4 → ∀ (H : Heap) (locs : List Loc) (ls : Array Slot), va_P (dC, dI) vwCl (wTT cI cZ cJ nl nn ad ra S T_2) H → va_D A (wTT cI cZ cJ nl nn ad ra S T_2) → va_S A s.heap H locs → lv_has ls 7 [(5, .int x5_3), (4, .int x4_4), (0, .ref (ad 0)), (1, .int x1), (2, .int x2), (3, .int x3)] → W p l e (headSpec wsX3_tellLeaf rm_X3_tellLeaf).room s m args below meth c H locs 0 0 (MQ below (va_Qv post (fun u t => qB (dC, dI) (tysA cI cZ cJ cL) A (wTT cI cZ cJ nl nn ad ra S u) t) A) args s 0 0 A) (F0 m 14 ls []) := by
    intro n_5
    induction n_5 with
    | zero => intro _ _ _ hw; exact hw.elim
    | succ n_5 ih14 =>
      intro T_2 x5_3 x4_4 hw H locs ls hP hD hS hl
      unfold wp_X3_tellLeaf_L14 at hw
      refine lv_iload hx hb dX3_tellLeaf_14 (lv_at hl 0 rfl) ?_
      refine lv_if_lt (tgt := 78) hx hb dX3_tellLeaf_16 (by decide) (fun c_6 => ?_) (fun c_6 => ?_)
      · have hw := hw.1 c_6
        exact hx14 T_2 x5_3 x4_4 hw _ _ _ hP hD hS (lv_sub hl [0, 1, 2, 3, 4, 5] rfl)
      · have hw := hw.2 c_6
        refine lv_aload_n hx hb dX3_tellLeaf_19 rfl (lv_at hl 2 rfl) ?_
        refine va_get (D := (dC, dI)) (ci := 3) (v := .ref (ad 1)) (C := RX3) (T := TX3) (N := 7) hx hb hT inX3 hown hK hP 0 rfl rfl 0 (by decide) (hT _ k_0) (fun _ h9 => h9) rfl dX3_tellLeaf_20 ?_
        refine lv_iload hx hb dX3_tellLeaf_23 (lv_at hl 0 rfl) ?_
        refine lv_iload_n hx hb dX3_tellLeaf_25 rfl (lv_at hl 3 rfl) ?_
        refine lv_iload hx hb dX3_tellLeaf_26 (lv_at hl 0 rfl) ?_
        refine lv_ishr hx hb dX3_tellLeaf_28 ?_
        refine lv_iload_n hx hb dX3_tellLeaf_29 rfl (lv_at hl 4 rfl) ?_
        refine lv_iload hx hb dX3_tellLeaf_30 (lv_at hl 0 rfl) ?_
        refine lv_ishr hx hb dX3_tellLeaf_32 ?_
        have hPc := hP.sub (ws' := wSH cI cJ nl (ad 1) (ad 2) (ad 3) (ad 4) (ad 5) ra S) [1, 2, 3, 4, 5, 6, 7, 8] rfl
        refine vp_callSi (W.runV (As := [.int x5_3, .int (x1 >>> (x5_3 &&& 31)), .int (x2 >>> (x5_3 &&& 31))]) (rest := []) ⟨hx, hb, hml, hown, hT⟩ (met_X1_nodeAt l dC dI cI cZ cJ cL (ad 1) (ad 2) (ad 3) (ad 4) (ad 5) ra _ nl S  x5_3 (x1 >>> (x5_3 &&& 31)) (x2 >>> (x5_3 &&& 31)) hw) (cwV 3 hT (gV k_64 k_66 k_67 k_59 k_65) rfl rfl rfl (by decide +kernel) ⟨(Nat.le_of_ble_eq_true rfl), (Nat.le_of_ble_eq_true rfl)⟩) ⟨bl_R, va_recv hK hPc (ci := 1) (q0 := 0) rfl rfl, fun U hU hW => ⟨rfl, by rw [hU]; exact hPc, va_K.moved hW.alike hK⟩⟩ rfl rfl hl.1 rfl (lv_room (Nat.le_of_ble_eq_true rfl)) dX3_tellLeaf_33 ⟨Nat.le_of_ble_eq_true rfl, Nat.le_of_ble_eq_true rfl⟩) (fun r_7 hw => ?_)
        try dsimp only at hw
        refine lv_istore (lv' := [(6, .int r_7), (5, .int x5_3), (4, .int x4_4), (0, .ref (ad 0)), (1, .int x1), (2, .int x2), (3, .int x3)]) hx hb dX3_tellLeaf_36 hl (by decide) rfl (fun ls hl => ?_)
        refine lv_aload_n hx hb dX3_tellLeaf_38 rfl (lv_at hl 3 rfl) ?_
        refine lv_iload hx hb dX3_tellLeaf_39 (lv_at hl 0 rfl) ?_
        refine lv_iload hx hb dX3_tellLeaf_41 (lv_at hl 2 rfl) ?_
        refine lv_aload_n hx hb dX3_tellLeaf_43 rfl (lv_at hl 3 rfl) ?_
        refine va_get (D := (dC, dI)) (ci := 3) (v := .ref (ad 10)) (C := RX3) (T := TX3) (N := 7) hx hb hT inX3 hown hK hP 0 rfl rfl 2 (by decide) (hT _ k_8) (fun _ h9 => h9) rfl dX3_tellLeaf_44 ?_
        refine va_get (D := (dC, dI)) (ci := 2) (v := .ref (ad 11)) (C := RX2) (T := TX2) (N := 3) hx hb hT inX2 hown hK hP 10 rfl rfl 0 (by decide) (hT _ k_140) (fun _ h9 => h9) rfl dX3_tellLeaf_47 ?_
        refine lv_iload hx hb dX3_tellLeaf_50 (lv_at hl 0 rfl) ?_
        obtain ⟨h_8, hw⟩ := hw
        refine va_iald hx hb hK hP 11 0 rfl rfl h_8 dX3_tellLeaf_52 ?_
        refine va_mmax (x := x4_4) (y := (T_2.2.1.1 r_7.toNatClampNeg)) (rest := [.int r_7, .ref (ad 0)]) hx hb (by rw [hml]; exact hl.1.symm) hown (hT _ k_155) (hT _ k_156) (hT _ k_86) (hT _ k_157) (Nat.le_of_ble_eq_true rfl) (Nat.le_of_ble_eq_true rfl) (Nat.le_of_ble_eq_true rfl) (Nat.le_of_ble_eq_true rfl) dX3_tellLeaf_53 ?_
        refine lv_iload_n hx hb dX3_tellLeaf_56 rfl (lv_at hl 6 rfl) ?_
        have hPc := hP
        have hDc := hD
        have hFc := va_free (wc := wTT cI cZ cJ nl nn ad ra S T_2) hD hS hA [0, 1, 2, 3, 4, 5, 6, 7, 8, 9, 10, 11, 12, 13, 14, 15, 16, 17, 18, 19] rfl
        refine va_callv (va_runV (As := [.int r_7, .int (if x4_4 < (T_2.2.1.1 r_7.toNatClampNeg) then (T_2.2.1.1 r_7.toNatClampNeg) else x4_4), .int x3]) (rest := []) ⟨hx, hb, hml, hown, hT⟩ (met_X3_tellNode l dC dI cI cZ cJ cL ad ra H.size _ nl nn S T_2 r_7 (if x4_4 < (T_2.2.1.1 r_7.toNatClampNeg) then (T_2.2.1.1 r_7.toNatClampNeg) else x4_4) x3 hw) (cwV 3 hT (gV k_204 k_206 k_207 k_51 k_205) rfl rfl rfl (by decide +kernel) ⟨(Nat.le_of_ble_eq_true rfl), (Nat.le_of_ble_eq_true rfl)⟩) ⟨bl_W, va_recv hK hPc (ci := 3) (q0 := 0) rfl rfl, fun U hU hW => ⟨rfl, by rw [hU], by rw [hU]; exact hPc, va_K.moved hW.alike hK, hDc.weaken (fun _ _ _ _ => trivial)⟩⟩ rfl rfl hl.1 rfl (lv_room (Nat.le_of_ble_eq_true rfl)) dX3_tellLeaf_57 ⟨Nat.le_of_ble_eq_true rfl, Nat.le_of_ble_eq_true rfl⟩) hS (fun q _ h => hFc q h) hFc (fun T_9 t H1 locs ht hvm hw hB hz1 hk1 hS => ?_)
        obtain ⟨hP1, -, hD1⟩ := hB
        try dsimp only at hw
        rw [ht] at hP1
        obtain ⟨hP, hD⟩ := va_join (wr := []) (w1 := wTT cI cZ cJ nl nn ad ra S T_9) hP hD [0, 1, 2, 3, 4, 5, 6, 7, 8, 9, 10, 11, 12, 13, 14, 15, 16, 17, 18, 19] [] rfl rfl (by decide) (by decide) hk1 hFc hP1 hD1
        generalize H1 = H at hP hS ⊢
        have hP := hP.sub (ws' := wTT cI cZ cJ nl nn ad ra S T_9) [0, 1, 2, 3, 4, 5, 6, 7, 8, 9, 10, 11, 12, 13, 14, 15, 16, 17, 18, 19] rfl
        have hD := hD.sub (ws' := wTT cI cZ cJ nl nn ad ra S T_9) [0, 1, 2, 3, 4, 5, 6, 7, 8, 9, 10, 11, 12, 13, 14, 15, 16, 17, 18, 19] (by decide) rfl
        refine lv_aload_n hx hb dX3_tellLeaf_60 rfl (lv_at hl 3 rfl) ?_
        refine va_get (D := (dC, dI)) (ci := 3) (v := .ref (ad 10)) (C := RX3) (T := TX3) (N := 7) hx hb hT inX3 hown hK hP 0 rfl rfl 2 (by decide) (hT _ k_8) (fun _ h9 => h9) rfl dX3_tellLeaf_61 ?_
        refine va_get (D := (dC, dI)) (ci := 2) (v := .ref (ad 11)) (C := RX2) (T := TX2) (N := 3) hx hb hT inX2 hown hK hP 10 rfl rfl 0 (by decide) (hT _ k_140) (fun _ h9 => h9) rfl dX3_tellLeaf_64 ?_
        refine lv_iload hx hb dX3_tellLeaf_67 (lv_at hl 0 rfl) ?_
        obtain ⟨h_10, hw⟩ := hw
        refine va_iald hx hb hK hP 11 0 rfl rfl h_10 dX3_tellLeaf_69 ?_
        refine lv_topi (fun x4_11 ex4_11 => ?_)
        have hw := hw x4_11 ex4_11
        refine lv_istore (lv' := [(4, .int x4_11), (6, .int r_7), (5, .int x5_3), (0, .ref (ad 0)), (1, .int x1), (2, .int x2), (3, .int x3)]) hx hb dX3_tellLeaf_70 hl (by decide) rfl (fun ls hl => ?_)
        obtain ⟨x5_12, ex5_12⟩ : ∃ y : Int32, y = x5_3 + (-1) := ⟨_, rfl⟩
        have hw := hw x5_12 ex5_12
        refine lv_iinc (v := x5_12) (lv' := [(5, .int x5_12), (4, .int x4_11), (6, .int r_7), (0, .ref (ad 0)), (1, .int x1), (2, .int x2), (3, .int x3)]) hx hb dX3_tellLeaf_72 hl (k := 2) rfl (by rw [ex5_12]; rfl) (by decide) rfl (fun ls hl => ?_)
        refine lv_goto (tgt := 14) hx hb dX3_tellLeaf_75 (by decide) ?_
        exact ih14 T_9 x5_12 x4_11 hw _ _ _ hP hD hS (lv_sub hl [0, 1, 3, 4, 5, 6] rfl)
  exact hlp14 n_5 T x5_1 0 hw _ _ _ hP hD hS (lv_sub hl [0, 1, 2, 3, 4, 5] rfl)
def wp_X3_learnLeaf (post : Int32 → vTT → Prop) (nl : Nat) (nn : Nat) (S : vSH) (T : vTT) (x1 : Int32) (x2 : Int32) (x3 : Int32) : Prop := wp_X3_takeBits (fun r_1 T_2 => ((r_1 = (-2) → (post 0 T_2)) ∧ (¬ r_1 = (-2) → (wp_X3_takeBits (fun r_4 T_5 => wp_X0_drop (fun B_6 => post 1 (T_5.1, T_5.2.1, T_5.2.2.1, T_5.2.2.2.1, B_6, T_5.2.2.2.2.2))  T_5.2.2.2.2.1 r_1) nl nn S T_2 x1 x2 x3 1)))) nl nn S T x1 x2 x3 0
abbrev rm_X3_learnLeaf : Room := { frames := 3, cells := 0, slots := 0, locals := 73 }
set_option maxHeartbeats 4000000 in
set_option maxRecDepth 100000 in
theorem met_X3_learnLeaf (l : Launch) (dC : Nat → ClassId) (dI : Nat → Nat → Nat) (cI cZ cJ cL : ClassId) (ad ra : Nat → Nat) (sz : Nat) (post : Int32 → vTT → Prop) (nl : Nat) (nn : Nat) (S : vSH) (T : vTT) (x1 : Int32) (x2 : Int32) (x3 : Int32) (hw : wp_X3_learnLeaf post nl nn S T x1 x2 x3) : Met l yX3_learnLeaf wsX3_learnLeaf rm_X3_learnLeaf (pcW (dC, dI) (tysA cI cZ cJ cL) (wTT cI cZ cJ nl nn ad ra S T) sz [.ref (ad 0), .int x1, .int x2, .int x3]) (va_Qi post (fun u t => qB (dC, dI) (tysA cI cZ cJ cL) (va_A (wTT cI cZ cJ nl nn ad ra S T) sz) (wTT cI cZ cJ nl nn ad ra S u) t) (va_A (wTT cI cZ cJ nl nn ad ra S T) sz)) 0 0 (va_A (wTT cI cZ cJ nl nn ad ra S T) sz) := by
  refine Met.ofW (cc := cX3_learnLeaf) (maxL := 5) (ret := (some .boolean)) (by decide) rfl ?_
  intro p e s m args below meth c s₁ Bd hml hv
  obtain ⟨hargs, hsz, hP, hK, hD0⟩ := hv
  have hx := Bd.exec
  have hb := Bd.bytes
  have hr := Bd.returns
  have hts := atoms_spec (ws := wsX3_learnLeaf) Bd.pre
  have hT : ∀ w ∈ WALL, w.before args s = true := fun w h => hts w (List.mem_cons_of_mem _ h)
  have hown : s.vm.findClass RX3 = some m.cls := findClass_of_methodNamed Bd.named
  have hlocks := Bd.notSynchronized
  subst hsz
  have hD := hD0.self (sz := s.heap.size)
  generalize hAe : va_A (wTT cI cZ cJ nl nn ad ra S T) s.heap.size = A at hD ⊢
  have hA : ∀ q : Nat, s.heap.size ≤ q → A q := fun q h => by rw [← hAe]; exact Or.inr h
  have hS : va_S A s.heap s.heap [] := va_S.rf
  have hP : va_P (dC, dI) vwCl (wTT cI cZ cJ nl nn ad ra S T) s.heap := hP
  have hl := lv_entry ([.ref (ad 0), .int x1, .int x2, .int x3]) (n := 5) (Nat.le_of_ble_eq_true rfl)
  rw [show entryFrame m args 5 = F0 m 0 _ [] from by rw [hargs]; exact lg_entry_eq m ([.ref (ad 0), .int x1, .int x2, .int x3]) 5]
  generalize (lg_sl ([.ref (ad 0), .int x1, .int x2, .int x3]) ++ List.replicate (5 - (lg_sl ([.ref (ad 0), .int x1, .int x2, .int x3])).length) Slot.unset).toArray = ls at hl ⊢
  have hl : lv_has ls 5 [(0, .ref (ad 0)), (1, .int x1), (2, .int x2), (3, .int x3)] := hl
  obtain ⟨H, hH⟩ : ∃ z : Heap, z = s.heap := ⟨_, rfl⟩
  obtain ⟨locs, hlocs⟩ : ∃ z : List Loc, z = [] := ⟨_, rfl⟩
  rw [show W p l e (headSpec wsX3_learnLeaf rm_X3_learnLeaf).room s m args below meth c s.heap [] 0 0 = W p l e (headSpec wsX3_learnLeaf rm_X3_learnLeaf).room s m args below meth c H locs 0 0 from by rw [hH, hlocs]]
  have hP : va_P (dC, dI) vwCl (wTT cI cZ cJ nl nn ad ra S T) H := by rw [hH]; exact hP
  have hS : va_S A s.heap H locs := by rw [hH, hlocs]; exact hS
  unfold wp_X3_learnLeaf at hw
  refine lv_aload_n hx hb dX3_learnLeaf_0 rfl (lv_at hl 0 rfl) ?_
  refine lv_iload_n hx hb dX3_learnLeaf_1 rfl (lv_at hl 1 rfl) ?_
  refine lv_iload_n hx hb dX3_learnLeaf_2 rfl (lv_at hl 2 rfl) ?_
  refine lv_iload_n hx hb dX3_learnLeaf_3 rfl (lv_at hl 3 rfl) ?_
  refine lv_iconst (v := 0) hx hb dX3_learnLeaf_4 (by decide) ?_
  have hPc := hP
  have hDc := hD
  have hFc := va_free (wc := wTT cI cZ cJ nl nn ad ra S T) hD hS hA [0, 1, 2, 3, 4, 5, 6, 7, 8, 9, 10, 11, 12, 13, 14, 15, 16, 17, 18, 19] rfl
  refine va_calli (va_runV (As := [.int x1, .int x2, .int x3, .int 0]) (rest := []) ⟨hx, hb, hml, hown, hT⟩ (met_X3_takeBits l dC dI cI cZ cJ cL ad ra H.size _ nl nn S T x1 x2 x3 0 hw) (cwV 4 hT (gV k_208 k_210 k_211 k_51 k_209) rfl rfl rfl (by decide +kernel) ⟨(Nat.le_of_ble_eq_true rfl), (Nat.le_of_ble_eq_true rfl)⟩) ⟨bl_W, va_recv hK hPc (ci := 3) (q0 := 0) rfl rfl, fun U hU hW => ⟨rfl, by rw [hU], by rw [hU]; exact hPc, va_K.moved hW.alike hK, hDc.weaken (fun _ _ _ _ => trivial)⟩⟩ rfl rfl hl.1 rfl (lv_room (Nat.le_of_ble_eq_true rfl)) dX3_learnLeaf_5 ⟨Nat.le_of_ble_eq_true rfl, Nat.le_of_ble_eq_true rfl⟩) hS (fun q _ h => hFc q h) hFc (fun r_1 T_2 t H1 locs ht hvm hw hB hz1 hk1 hS => ?_)
  obtain ⟨hP1, -, hD1⟩ := hB
  try dsimp only at hw
  rw [ht] at hP1
  obtain ⟨hP, hD⟩ := va_join (wr := []) (w1 := wTT cI cZ cJ nl nn ad ra S T_2) hP hD [0, 1, 2, 3, 4, 5, 6, 7, 8, 9, 10, 11, 12, 13, 14, 15, 16, 17, 18, 19] [] rfl rfl (by decide) (by decide) hk1 hFc hP1 hD1
  generalize H1 = H at hP hS ⊢
  have hP := hP.sub (ws' := wTT cI cZ cJ nl nn ad ra S T_2) [0, 1, 2, 3, 4, 5, 6, 7, 8, 9, 10, 11, 12, 13, 14, 15, 16, 17, 18, 19] rfl
  have hD := hD.sub (ws' := wTT cI cZ cJ nl nn ad ra S T_2) [0, 1, 2, 3, 4, 5, 6, 7, 8, 9, 10, 11, 12, 13, 14, 15, 16, 17, 18, 19] (by decide) rfl
  refine lv_istore (lv' := [(4, .int r_1), (0, .ref (ad 0)), (1, .int x1), (2, .int x2), (3, .int x3)]) hx hb dX3_learnLeaf_8 hl (by decide) rfl (fun ls hl => ?_)
  refine lv_iload hx hb dX3_learnLeaf_10 (lv_at hl 0 rfl) ?_
  refine lv_bipush (v := (-2)) hx hb dX3_learnLeaf_12 (by decide) ?_
  refine lv_icmp_ne (tgt := 19) hx hb dX3_learnLeaf_14 (by decide) (fun c_3 => ?_) (fun c_3 => ?_)
  · have hw := hw.2 c_3
    refine lv_aload_n hx hb dX3_learnLeaf_19 rfl (lv_at hl 1 rfl) ?_
    refine lv_iload_n hx hb dX3_learnLeaf_20 rfl (lv_at hl 2 rfl) ?_
    refine lv_iload_n hx hb dX3_learnLeaf_21 rfl (lv_at hl 3 rfl) ?_
    refine lv_iload_n hx hb dX3_learnLeaf_22 rfl (lv_at hl 4 rfl) ?_
    refine lv_iconst (v := 1) hx hb dX3_learnLeaf_23 (by decide) ?_
    have hPc := hP
    have hDc := hD
    have hFc := va_free (wc := wTT cI cZ cJ nl nn ad ra S T_2) hD hS hA [0, 1, 2, 3, 4, 5, 6, 7, 8, 9, 10, 11, 12, 13, 14, 15, 16, 17, 18, 19] rfl
    refine va_calli (va_runV (As := [.int x1, .int x2, .int x3, .int 1]) (rest := []) ⟨hx, hb, hml, hown, hT⟩ (met_X3_takeBits l dC dI cI cZ cJ cL ad ra H.size _ nl nn S T_2 x1 x2 x3 1 hw) (cwV 4 hT (gV k_208 k_210 k_211 k_51 k_209) rfl rfl rfl (by decide +kernel) ⟨(Nat.le_of_ble_eq_true rfl), (Nat.le_of_ble_eq_true rfl)⟩) ⟨bl_W, va_recv hK hPc (ci := 3) (q0 := 0) rfl rfl, fun U hU hW => ⟨rfl, by rw [hU], by rw [hU]; exact hPc, va_K.moved hW.alike hK, hDc.weaken (fun _ _ _ _ => trivial)⟩⟩ rfl rfl hl.1 rfl (lv_room (Nat.le_of_ble_eq_true rfl)) dX3_learnLeaf_24 ⟨Nat.le_of_ble_eq_true rfl, Nat.le_of_ble_eq_true rfl⟩) hS (fun q _ h => hFc q h) hFc (fun r_4 T_5 t H1 locs ht hvm hw hB hz1 hk1 hS => ?_)
    obtain ⟨hP1, -, hD1⟩ := hB
    try dsimp only at hw
    rw [ht] at hP1
    obtain ⟨hP, hD⟩ := va_join (wr := []) (w1 := wTT cI cZ cJ nl nn ad ra S T_5) hP hD [0, 1, 2, 3, 4, 5, 6, 7, 8, 9, 10, 11, 12, 13, 14, 15, 16, 17, 18, 19] [] rfl rfl (by decide) (by decide) hk1 hFc hP1 hD1
    generalize H1 = H at hP hS ⊢
    have hP := hP.sub (ws' := wTT cI cZ cJ nl nn ad ra S T_5) [0, 1, 2, 3, 4, 5, 6, 7, 8, 9, 10, 11, 12, 13, 14, 15, 16, 17, 18, 19] rfl
    have hD := hD.sub (ws' := wTT cI cZ cJ nl nn ad ra S T_5) [0, 1, 2, 3, 4, 5, 6, 7, 8, 9, 10, 11, 12, 13, 14, 15, 16, 17, 18, 19] (by decide) rfl
    refine lv_pop hx hb dX3_learnLeaf_27 rfl ?_
    refine lv_aload_n hx hb dX3_learnLeaf_28 rfl (lv_at hl 1 rfl) ?_
    refine va_get (D := (dC, dI)) (ci := 3) (v := .ref (ad 18)) (C := RX3) (T := TX3) (N := 7) hx hb hT inX3 hown hK hP 0 rfl rfl 5 (by decide) (hT _ k_7) (fun _ h9 => h9) rfl dX3_learnLeaf_29 ?_
    refine lv_iload hx hb dX3_learnLeaf_32 (lv_at hl 0 rfl) ?_
    have hPc := hP.sub (ws' := wBR cI (ad 18) (ad 19) T_5.2.2.2.2.1) [18, 19] rfl
    have hDc := hD.sub (ws' := wBR cI (ad 18) (ad 19) T_5.2.2.2.2.1) [18, 19] (by decide) rfl
    have hFc := va_free (wc := wBR cI (ad 18) (ad 19) T_5.2.2.2.2.1) hD hS hA [18, 19] rfl
    refine va_callv (va_runV (As := [.int r_1]) (rest := []) ⟨hx, hb, hml, hown, hT⟩ (met_X0_drop l dC dI cI cZ cJ cL (ad 18) (ad 19) H.size _  T_5.2.2.2.2.1 r_1 hw) (cwV 1 hT (gV k_212 k_214 k_215 k_77 k_213) rfl rfl rfl (by decide +kernel) ⟨(Nat.le_of_ble_eq_true rfl), (Nat.le_of_ble_eq_true rfl)⟩) ⟨bl_W, va_recv hK hPc (ci := 0) (q0 := 0) rfl rfl, fun U hU hW => ⟨rfl, by rw [hU], by rw [hU]; exact hPc, va_K.moved hW.alike hK, hDc.weaken (fun _ _ _ _ => trivial)⟩⟩ rfl rfl hl.1 rfl (lv_room (Nat.le_of_ble_eq_true rfl)) dX3_learnLeaf_34 ⟨Nat.le_of_ble_eq_true rfl, Nat.le_of_ble_eq_true rfl⟩) hS (fun q _ h => hFc q h) hFc (fun B_6 t H1 locs ht hvm hw hB hz1 hk1 hS => ?_)
    obtain ⟨hP1, -, hD1⟩ := hB
    try dsimp only at hw
    rw [ht] at hP1
    obtain ⟨hP, hD⟩ := va_join (wr := [(ad 0, .inr (3, [.ref (ad 1), .ref (ad 9), .ref (ad 10), .ref (ad 13), .ref (ad 16), .ref (ad 18), .int T_5.2.2.2.2.2])), (ad 1, .inr (1, [.int S.1.1, .int S.1.2.1, .int S.1.2.2.1, .int S.1.2.2.2.1, .int S.1.2.2.2.2, .ref (ad 2), .ref (ad 3), .ref (ad 4), .ref (ad 5)])), (ad 2, .inl (cI, 6, .inl S.2.1.1)), (ad 3, .inl (cI, 6, .inl S.2.1.2.1)), (ad 4, .inl (cI, 6, .inl S.2.1.2.2)), (ad 5, .inl (cJ, 3, .inr (.inr (.inr (.inr (fun i => if i < 3 then some (ra i) else none)))))), (ra 0, .inl (cI, nl, .inl (S.2.2 0))), (ra 1, .inl (cI, nl, .inl (S.2.2 1))), (ra 2, .inl (cI, nl, .inl (S.2.2 2))), (ad 9, .inl (cI, nn, .inl T_5.1)), (ad 10, .inr (2, [.ref (ad 11), .ref (ad 12), .int T_5.2.1.2.2])), (ad 11, .inl (cI, nn, .inl T_5.2.1.1)), (ad 12, .inl (cZ, nn, .inl T_5.2.1.2.1)), (ad 13, .inr (2, [.ref (ad 14), .ref (ad 15), .int T_5.2.2.1.2.2])), (ad 14, .inl (cI, nn, .inl T_5.2.2.1.1)), (ad 15, .inl (cZ, nn, .inl T_5.2.2.1.2.1)), (ad 16, .inr (0, [.ref (ad 17), .int T_5.2.2.2.1.2.1, .int T_5.2.2.2.1.2.2])), (ad 17, .inl (cI, 1250, .inl T_5.2.2.2.1.1))]) (w1 := wBR cI (ad 18) (ad 19) B_6) hP hD [18, 19] [0, 1, 2, 3, 4, 5, 6, 7, 8, 9, 10, 11, 12, 13, 14, 15, 16, 17] rfl rfl (by decide) (by decide) hk1 hFc hP1 hD1
    generalize H1 = H at hP hS ⊢
    have hP := hP.sub (ws' := wTT cI cZ cJ nl nn ad ra S (T_5.1, T_5.2.1, T_5.2.2.1, T_5.2.2.2.1, B_6, T_5.2.2.2.2.2)) [0, 1, 2, 3, 4, 5, 6, 7, 8, 9, 10, 11, 12, 13, 14, 15, 16, 17, 18, 19] rfl
    have hD := hD.sub (ws' := wTT cI cZ cJ nl nn ad ra S (T_5.1, T_5.2.1, T_5.2.2.1, T_5.2.2.2.1, B_6, T_5.2.2.2.2.2)) [0, 1, 2, 3, 4, 5, 6, 7, 8, 9, 10, 11, 12, 13, 14, 15, 16, 17, 18, 19] (by decide) rfl
    refine lv_iconst (v := 1) hx hb dX3_learnLeaf_37 (by decide) ?_
    exact W.zret (v := 1) (ty := .boolean) hx hb hr rfl (fun t ht hW => ⟨⟨1, (T_5.1, T_5.2.1, T_5.2.2.1, T_5.2.2.2.1, B_6, T_5.2.2.2.2.2), rfl, hw, by rw [ht]; exact hP, va_K.moved hW.alike hK, hD⟩, hS.F ht⟩) hS.2.2 dX3_learnLeaf_38
  · have hw := hw.1 c_3
    refine lv_iconst (v := 0) hx hb dX3_learnLeaf_17 (by decide) ?_
    exact W.zret (v := 0) (ty := .boolean) hx hb hr rfl (fun t ht hW => ⟨⟨0, T_2, rfl, hw, by rw [ht]; exact hP, va_K.moved hW.alike hK, hD⟩, hS.F ht⟩) hS.2.2 dX3_learnLeaf_18
end
section
theorem dX3_checkThreshold_0 : decode cX3_checkThreshold 0 = .ok (.iload_n 0, 1) := by decide +kernel
theorem dX3_checkThreshold_1 : decode cX3_checkThreshold 1 = .ok (.ifCond .lt 10, 3) := by decide +kernel
theorem dX3_checkThreshold_4 : decode cX3_checkThreshold 4 = .ok (.iload_n 0, 1) := by decide +kernel
theorem dX3_checkThreshold_5 : decode cX3_checkThreshold 5 = .ok (.sipush 1001, 3) := by decide +kernel
theorem dX3_checkThreshold_8 : decode cX3_checkThreshold 8 = .ok (.if_icmp .le 13, 3) := by decide +kernel
theorem dX3_checkThreshold_11 : decode cX3_checkThreshold 11 = .ok (.new 59, 3) := by decide +kernel
theorem dX3_checkThreshold_14 : decode cX3_checkThreshold 14 = .ok (.dup, 1) := by decide +kernel
theorem dX3_checkThreshold_15 : decode cX3_checkThreshold 15 = .ok (.ldc 168, 2) := by decide +kernel
theorem dX3_checkThreshold_17 : decode cX3_checkThreshold 17 = .ok (.invokespecial 63, 3) := by decide +kernel
theorem dX3_checkThreshold_20 : decode cX3_checkThreshold 20 = .ok (.athrow, 1) := by decide +kernel
theorem dX3_checkThreshold_21 : decode cX3_checkThreshold 21 = .ok (.return_, 1) := by decide +kernel
theorem dX3_checkOrder_0 : decode cX3_checkOrder 0 = .ok (.iload_n 0, 1) := by decide +kernel
theorem dX3_checkOrder_1 : decode cX3_checkOrder 1 = .ok (.ifCond .lt 8, 3) := by decide +kernel
theorem dX3_checkOrder_4 : decode cX3_checkOrder 4 = .ok (.iload_n 0, 1) := by decide +kernel
theorem dX3_checkOrder_5 : decode cX3_checkOrder 5 = .ok (.iconst 3, 1) := by decide +kernel
theorem dX3_checkOrder_6 : decode cX3_checkOrder 6 = .ok (.if_icmp .lt 13, 3) := by decide +kernel
theorem dX3_checkOrder_9 : decode cX3_checkOrder 9 = .ok (.new 59, 3) := by decide +kernel
theorem dX3_checkOrder_12 : decode cX3_checkOrder 12 = .ok (.dup, 1) := by decide +kernel
theorem dX3_checkOrder_13 : decode cX3_checkOrder 13 = .ok (.ldc 170, 2) := by decide +kernel
theorem dX3_checkOrder_15 : decode cX3_checkOrder 15 = .ok (.invokespecial 63, 3) := by decide +kernel
theorem dX3_checkOrder_18 : decode cX3_checkOrder 18 = .ok (.athrow, 1) := by decide +kernel
theorem dX3_checkOrder_19 : decode cX3_checkOrder 19 = .ok (.return_, 1) := by decide +kernel
theorem dX3_checkNothingTold_0 : decode cX3_checkNothingTold 0 = .ok (.aload_n 0, 1) := by decide +kernel
theorem dX3_checkNothingTold_1 : decode cX3_checkNothingTold 1 = .ok (.getfield 45, 3) := by decide +kernel
theorem dX3_checkNothingTold_4 : decode cX3_checkNothingTold 4 = .ok (.getfield 116, 3) := by decide +kernel
theorem dX3_checkNothingTold_7 : decode cX3_checkNothingTold 7 = .ok (.ifCond .le 13, 3) := by decide +kernel
theorem dX3_checkNothingTold_10 : decode cX3_checkNothingTold 10 = .ok (.new 172, 3) := by decide +kernel
theorem dX3_checkNothingTold_13 : decode cX3_checkNothingTold 13 = .ok (.dup, 1) := by decide +kernel
theorem dX3_checkNothingTold_14 : decode cX3_checkNothingTold 14 = .ok (.ldc 174, 2) := by decide +kernel
theorem dX3_checkNothingTold_16 : decode cX3_checkNothingTold 16 = .ok (.invokespecial 176, 3) := by decide +kernel
theorem dX3_checkNothingTold_19 : decode cX3_checkNothingTold 19 = .ok (.athrow, 1) := by decide +kernel
theorem dX3_checkNothingTold_20 : decode cX3_checkNothingTold 20 = .ok (.return_, 1) := by decide +kernel
theorem dX3_checkRoom_0 : decode cX3_checkRoom 0 = .ok (.iload_n 1, 1) := by decide +kernel
theorem dX3_checkRoom_1 : decode cX3_checkRoom 1 = .ok (.ldc 177, 2) := by decide +kernel
theorem dX3_checkRoom_3 : decode cX3_checkRoom 3 = .ok (.aload_n 0, 1) := by decide +kernel
theorem dX3_checkRoom_4 : decode cX3_checkRoom 4 = .ok (.getfield 116, 3) := by decide +kernel
theorem dX3_checkRoom_7 : decode cX3_checkRoom 7 = .ok (.isub, 1) := by decide +kernel
theorem dX3_checkRoom_8 : decode cX3_checkRoom 8 = .ok (.if_icmp .le 13, 3) := by decide +kernel
theorem dX3_checkRoom_11 : decode cX3_checkRoom 11 = .ok (.new 178, 3) := by decide +kernel
theorem dX3_checkRoom_14 : decode cX3_checkRoom 14 = .ok (.dup, 1) := by decide +kernel
theorem dX3_checkRoom_15 : decode cX3_checkRoom 15 = .ok (.ldc 180, 2) := by decide +kernel
theorem dX3_checkRoom_17 : decode cX3_checkRoom 17 = .ok (.invokespecial 182, 3) := by decide +kernel
theorem dX3_checkRoom_20 : decode cX3_checkRoom 20 = .ok (.athrow, 1) := by decide +kernel
theorem dX3_checkRoom_21 : decode cX3_checkRoom 21 = .ok (.return_, 1) := by decide +kernel
theorem dX3_leaf_0 : decode cX3_leaf 0 = .ok (.iload_n 1, 1) := by decide +kernel
theorem dX3_leaf_1 : decode cX3_leaf 1 = .ok (.invokestatic 100, 3) := by decide +kernel
theorem dX3_leaf_4 : decode cX3_leaf 4 = .ok (.iload_n 2, 1) := by decide +kernel
theorem dX3_leaf_5 : decode cX3_leaf 5 = .ok (.ifCond .lt 14, 3) := by decide +kernel
theorem dX3_leaf_8 : decode cX3_leaf 8 = .ok (.iload_n 2, 1) := by decide +kernel
theorem dX3_leaf_9 : decode cX3_leaf 9 = .ok (.aload_n 0, 1) := by decide +kernel
theorem dX3_leaf_10 : decode cX3_leaf 10 = .ok (.getfield 18, 3) := by decide +kernel
theorem dX3_leaf_13 : decode cX3_leaf 13 = .ok (.getfield 78, 3) := by decide +kernel
theorem dX3_leaf_16 : decode cX3_leaf 16 = .ok (.if_icmp .lt 13, 3) := by decide +kernel
theorem dX3_leaf_19 : decode cX3_leaf 19 = .ok (.new 119, 3) := by decide +kernel
theorem dX3_leaf_22 : decode cX3_leaf 22 = .ok (.dup, 1) := by decide +kernel
theorem dX3_leaf_23 : decode cX3_leaf 23 = .ok (.ldc 146, 2) := by decide +kernel
theorem dX3_leaf_25 : decode cX3_leaf 25 = .ok (.invokespecial 123, 3) := by decide +kernel
theorem dX3_leaf_28 : decode cX3_leaf 28 = .ok (.athrow, 1) := by decide +kernel
theorem dX3_leaf_29 : decode cX3_leaf 29 = .ok (.aload_n 0, 1) := by decide +kernel
theorem dX3_leaf_30 : decode cX3_leaf 30 = .ok (.getfield 18, 3) := by decide +kernel
theorem dX3_leaf_33 : decode cX3_leaf 33 = .ok (.iconst 0, 1) := by decide +kernel
theorem dX3_leaf_34 : decode cX3_leaf 34 = .ok (.aload_n 0, 1) := by decide +kernel
theorem dX3_leaf_35 : decode cX3_leaf 35 = .ok (.getfield 18, 3) := by decide +kernel
theorem dX3_leaf_38 : decode cX3_leaf 38 = .ok (.iload_n 1, 1) := by decide +kernel
theorem dX3_leaf_39 : decode cX3_leaf 39 = .ok (.iload_n 2, 1) := by decide +kernel
theorem dX3_leaf_40 : decode cX3_leaf 40 = .ok (.invokevirtual 110, 3) := by decide +kernel
theorem dX3_leaf_43 : decode cX3_leaf 43 = .ok (.aload_n 0, 1) := by decide +kernel
theorem dX3_leaf_44 : decode cX3_leaf 44 = .ok (.getfield 18, 3) := by decide +kernel
theorem dX3_leaf_47 : decode cX3_leaf 47 = .ok (.iload_n 1, 1) := by decide +kernel
theorem dX3_leaf_48 : decode cX3_leaf 48 = .ok (.iload_n 2, 1) := by decide +kernel
theorem dX3_leaf_49 : decode cX3_leaf 49 = .ok (.invokevirtual 113, 3) := by decide +kernel
theorem dX3_leaf_52 : decode cX3_leaf 52 = .ok (.invokevirtual 69, 3) := by decide +kernel
theorem dX3_leaf_55 : decode cX3_leaf 55 = .ok (.ireturn, 1) := by decide +kernel
theorem dX3_checkNode_0 : decode cX3_checkNode 0 = .ok (.aload_n 0, 1) := by decide +kernel
theorem dX3_checkNode_1 : decode cX3_checkNode 1 = .ok (.getfield 18, 3) := by decide +kernel
theorem dX3_checkNode_4 : decode cX3_checkNode 4 = .ok (.iload_n 1, 1) := by decide +kernel
theorem dX3_checkNode_5 : decode cX3_checkNode 5 = .ok (.iload_n 2, 1) := by decide +kernel
theorem dX3_checkNode_6 : decode cX3_checkNode 6 = .ok (.iload_n 3, 1) := by decide +kernel
theorem dX3_checkNode_7 : decode cX3_checkNode 7 = .ok (.invokevirtual 163, 3) := by decide +kernel
theorem dX3_checkNode_10 : decode cX3_checkNode 10 = .ok (.ifCond .ne 13, 3) := by decide +kernel
theorem dX3_checkNode_13 : decode cX3_checkNode 13 = .ok (.new 119, 3) := by decide +kernel
theorem dX3_checkNode_16 : decode cX3_checkNode 16 = .ok (.dup, 1) := by decide +kernel
theorem dX3_checkNode_17 : decode cX3_checkNode 17 = .ok (.ldc 166, 2) := by decide +kernel
theorem dX3_checkNode_19 : decode cX3_checkNode 19 = .ok (.invokespecial 123, 3) := by decide +kernel
theorem dX3_checkNode_22 : decode cX3_checkNode 22 = .ok (.athrow, 1) := by decide +kernel
theorem dX3_checkNode_23 : decode cX3_checkNode 23 = .ok (.return_, 1) := by decide +kernel
theorem dX3_bitAt_0 : decode cX3_bitAt 0 = .ok (.iload_n 1, 1) := by decide +kernel
theorem dX3_bitAt_1 : decode cX3_bitAt 1 = .ok (.ifCond .lt 14, 3) := by decide +kernel
theorem dX3_bitAt_4 : decode cX3_bitAt 4 = .ok (.iload_n 1, 1) := by decide +kernel
theorem dX3_bitAt_5 : decode cX3_bitAt 5 = .ok (.aload_n 0, 1) := by decide +kernel
theorem dX3_bitAt_6 : decode cX3_bitAt 6 = .ok (.getfield 45, 3) := by decide +kernel
theorem dX3_bitAt_9 : decode cX3_bitAt 9 = .ok (.getfield 116, 3) := by decide +kernel
theorem dX3_bitAt_12 : decode cX3_bitAt 12 = .ok (.if_icmp .lt 13, 3) := by decide +kernel
theorem dX3_bitAt_15 : decode cX3_bitAt 15 = .ok (.new 119, 3) := by decide +kernel
theorem dX3_bitAt_18 : decode cX3_bitAt 18 = .ok (.dup, 1) := by decide +kernel
theorem dX3_bitAt_19 : decode cX3_bitAt 19 = .ok (.ldc 121, 2) := by decide +kernel
theorem dX3_bitAt_21 : decode cX3_bitAt 21 = .ok (.invokespecial 123, 3) := by decide +kernel
theorem dX3_bitAt_24 : decode cX3_bitAt 24 = .ok (.athrow, 1) := by decide +kernel
theorem dX3_bitAt_25 : decode cX3_bitAt 25 = .ok (.aload_n 0, 1) := by decide +kernel
theorem dX3_bitAt_26 : decode cX3_bitAt 26 = .ok (.getfield 45, 3) := by decide +kernel
theorem dX3_bitAt_29 : decode cX3_bitAt 29 = .ok (.iload_n 1, 1) := by decide +kernel
theorem dX3_bitAt_30 : decode cX3_bitAt 30 = .ok (.invokevirtual 124, 3) := by decide +kernel
theorem dX3_bitAt_33 : decode cX3_bitAt 33 = .ok (.ireturn, 1) := by decide +kernel
theorem dX3_feed_0 : decode cX3_feed 0 = .ok (.iload_n 1, 1) := by decide +kernel
theorem dX3_feed_1 : decode cX3_feed 1 = .ok (.ifCond .eq 18, 3) := by decide +kernel
theorem dX3_feed_4 : decode cX3_feed 4 = .ok (.iload_n 1, 1) := by decide +kernel
theorem dX3_feed_5 : decode cX3_feed 5 = .ok (.iconst 1, 1) := by decide +kernel
theorem dX3_feed_6 : decode cX3_feed 6 = .ok (.if_icmp .eq 13, 3) := by decide +kernel
theorem dX3_feed_9 : decode cX3_feed 9 = .ok (.new 59, 3) := by decide +kernel
theorem dX3_feed_12 : decode cX3_feed 12 = .ok (.dup, 1) := by decide +kernel
theorem dX3_feed_13 : decode cX3_feed 13 = .ok (.ldc 128, 2) := by decide +kernel
theorem dX3_feed_15 : decode cX3_feed 15 = .ok (.invokespecial 63, 3) := by decide +kernel
theorem dX3_feed_18 : decode cX3_feed 18 = .ok (.athrow, 1) := by decide +kernel
theorem dX3_feed_19 : decode cX3_feed 19 = .ok (.aload_n 0, 1) := by decide +kernel
theorem dX3_feed_20 : decode cX3_feed 20 = .ok (.getfield 49, 3) := by decide +kernel
theorem dX3_feed_23 : decode cX3_feed 23 = .ok (.iconst 1, 1) := by decide +kernel
theorem dX3_feed_24 : decode cX3_feed 24 = .ok (.invokestatic 93, 3) := by decide +kernel
theorem dX3_feed_27 : decode cX3_feed 27 = .ok (.aload_n 0, 1) := by decide +kernel
theorem dX3_feed_28 : decode cX3_feed 28 = .ok (.getfield 49, 3) := by decide +kernel
theorem dX3_feed_31 : decode cX3_feed 31 = .ok (.iload_n 1, 1) := by decide +kernel
theorem dX3_feed_32 : decode cX3_feed 32 = .ok (.invokevirtual 130, 3) := by decide +kernel
theorem dX3_feed_35 : decode cX3_feed 35 = .ok (.aload_n 0, 1) := by decide +kernel
theorem dX3_feed_36 : decode cX3_feed 36 = .ok (.getfield 49, 3) := by decide +kernel
theorem dX3_feed_39 : decode cX3_feed 39 = .ok (.getfield 116, 3) := by decide +kernel
theorem dX3_feed_42 : decode cX3_feed 42 = .ok (.ireturn, 1) := by decide +kernel
theorem dX3_pass_0 : decode cX3_pass 0 = .ok (.iload_n 1, 1) := by decide +kernel
theorem dX3_pass_1 : decode cX3_pass 1 = .ok (.ifCond .ge 13, 3) := by decide +kernel
theorem dX3_pass_4 : decode cX3_pass 4 = .ok (.new 59, 3) := by decide +kernel
theorem dX3_pass_7 : decode cX3_pass 7 = .ok (.dup, 1) := by decide +kernel
theorem dX3_pass_8 : decode cX3_pass 8 = .ok (.ldc 133, 2) := by decide +kernel
theorem dX3_pass_10 : decode cX3_pass 10 = .ok (.invokespecial 63, 3) := by decide +kernel
theorem dX3_pass_13 : decode cX3_pass 13 = .ok (.athrow, 1) := by decide +kernel
theorem dX3_pass_14 : decode cX3_pass 14 = .ok (.iload_n 1, 1) := by decide +kernel
theorem dX3_pass_15 : decode cX3_pass 15 = .ok (.aload_n 0, 1) := by decide +kernel
theorem dX3_pass_16 : decode cX3_pass 16 = .ok (.getfield 45, 3) := by decide +kernel
theorem dX3_pass_19 : decode cX3_pass 19 = .ok (.getfield 116, 3) := by decide +kernel
theorem dX3_pass_22 : decode cX3_pass 22 = .ok (.aload_n 0, 1) := by decide +kernel
theorem dX3_pass_23 : decode cX3_pass 23 = .ok (.getfield 52, 3) := by decide +kernel
theorem dX3_pass_26 : decode cX3_pass 26 = .ok (.isub, 1) := by decide +kernel
theorem dX3_pass_27 : decode cX3_pass 27 = .ok (.invokestatic 81, 3) := by decide +kernel
theorem dX3_pass_30 : decode cX3_pass 30 = .ok (.istore_n 2, 1) := by decide +kernel
theorem dX3_pass_31 : decode cX3_pass 31 = .ok (.aload_n 0, 1) := by decide +kernel
theorem dX3_pass_32 : decode cX3_pass 32 = .ok (.getfield 49, 3) := by decide +kernel
theorem dX3_pass_35 : decode cX3_pass 35 = .ok (.iload_n 2, 1) := by decide +kernel
theorem dX3_pass_36 : decode cX3_pass 36 = .ok (.invokestatic 93, 3) := by decide +kernel
theorem dX3_pass_39 : decode cX3_pass 39 = .ok (.iconst 0, 1) := by decide +kernel
theorem dX3_pass_40 : decode cX3_pass 40 = .ok (.istore_n 3, 1) := by decide +kernel
theorem dX3_pass_41 : decode cX3_pass 41 = .ok (.iload_n 3, 1) := by decide +kernel
theorem dX3_pass_42 : decode cX3_pass 42 = .ok (.iload_n 2, 1) := by decide +kernel
theorem dX3_pass_43 : decode cX3_pass 43 = .ok (.if_icmp .ge 29, 3) := by decide +kernel
theorem dX3_pass_46 : decode cX3_pass 46 = .ok (.aload_n 0, 1) := by decide +kernel
theorem dX3_pass_47 : decode cX3_pass 47 = .ok (.getfield 49, 3) := by decide +kernel
theorem dX3_pass_50 : decode cX3_pass 50 = .ok (.aload_n 0, 1) := by decide +kernel
theorem dX3_pass_51 : decode cX3_pass 51 = .ok (.getfield 45, 3) := by decide +kernel
theorem dX3_pass_54 : decode cX3_pass 54 = .ok (.aload_n 0, 1) := by decide +kernel
theorem dX3_pass_55 : decode cX3_pass 55 = .ok (.getfield 52, 3) := by decide +kernel
theorem dX3_pass_58 : decode cX3_pass 58 = .ok (.iload_n 3, 1) := by decide +kernel
theorem dX3_pass_59 : decode cX3_pass 59 = .ok (.iadd, 1) := by decide +kernel
theorem dX3_pass_60 : decode cX3_pass 60 = .ok (.invokevirtual 124, 3) := by decide +kernel
theorem dX3_pass_63 : decode cX3_pass 63 = .ok (.invokevirtual 130, 3) := by decide +kernel
theorem dX3_pass_66 : decode cX3_pass 66 = .ok (.iinc 3 1, 3) := by decide +kernel
theorem dX3_pass_69 : decode cX3_pass 69 = .ok (.goto (-28), 3) := by decide +kernel
theorem dX3_pass_72 : decode cX3_pass 72 = .ok (.aload_n 0, 1) := by decide +kernel
theorem dX3_pass_73 : decode cX3_pass 73 = .ok (.dup, 1) := by decide +kernel
theorem dX3_pass_74 : decode cX3_pass 74 = .ok (.getfield 52, 3) := by decide +kernel
theorem dX3_pass_77 : decode cX3_pass 77 = .ok (.iload_n 2, 1) := by decide +kernel
theorem dX3_pass_78 : decode cX3_pass 78 = .ok (.iadd, 1) := by decide +kernel
theorem dX3_pass_79 : decode cX3_pass 79 = .ok (.putfield 52, 3) := by decide +kernel
theorem dX3_pass_82 : decode cX3_pass 82 = .ok (.iload_n 2, 1) := by decide +kernel
theorem dX3_pass_83 : decode cX3_pass 83 = .ok (.ireturn, 1) := by decide +kernel
theorem dX3_known_0 : decode cX3_known 0 = .ok (.aload_n 0, 1) := by decide +kernel
theorem dX3_known_1 : decode cX3_known 1 = .ok (.iconst 0, 1) := by decide +kernel
theorem dX3_known_2 : decode cX3_known 2 = .ok (.iload_n 1, 1) := by decide +kernel
theorem dX3_known_3 : decode cX3_known 3 = .ok (.iload_n 2, 1) := by decide +kernel
theorem dX3_known_4 : decode cX3_known 4 = .ok (.invokevirtual 55, 3) := by decide +kernel
theorem dX3_known_7 : decode cX3_known 7 = .ok (.aload_n 0, 1) := by decide +kernel
theorem dX3_known_8 : decode cX3_known 8 = .ok (.getfield 18, 3) := by decide +kernel
theorem dX3_known_11 : decode cX3_known 11 = .ok (.iconst 0, 1) := by decide +kernel
theorem dX3_known_12 : decode cX3_known 12 = .ok (.iload_n 1, 1) := by decide +kernel
theorem dX3_known_13 : decode cX3_known 13 = .ok (.iload_n 2, 1) := by decide +kernel
theorem dX3_known_14 : decode cX3_known 14 = .ok (.invokevirtual 69, 3) := by decide +kernel
theorem dX3_known_17 : decode cX3_known 17 = .ok (.istore_n 3, 1) := by decide +kernel
theorem dX3_known_18 : decode cX3_known 18 = .ok (.aload_n 0, 1) := by decide +kernel
theorem dX3_known_19 : decode cX3_known 19 = .ok (.getfield 39, 3) := by decide +kernel
theorem dX3_known_22 : decode cX3_known 22 = .ok (.getfield 143, 3) := by decide +kernel
theorem dX3_known_25 : decode cX3_known 25 = .ok (.iload_n 3, 1) := by decide +kernel
theorem dX3_known_26 : decode cX3_known 26 = .ok (.iaload, 1) := by decide +kernel
theorem dX3_known_27 : decode cX3_known 27 = .ok (.istore 4, 2) := by decide +kernel
theorem dX3_known_29 : decode cX3_known 29 = .ok (.aload_n 0, 1) := by decide +kernel
theorem dX3_known_30 : decode cX3_known 30 = .ok (.getfield 39, 3) := by decide +kernel
theorem dX3_known_33 : decode cX3_known 33 = .ok (.getfield 139, 3) := by decide +kernel
theorem dX3_known_36 : decode cX3_known 36 = .ok (.iload_n 3, 1) := by decide +kernel
theorem dX3_known_37 : decode cX3_known 37 = .ok (.baload, 1) := by decide +kernel
theorem dX3_known_38 : decode cX3_known 38 = .ok (.ifCond .eq 8, 3) := by decide +kernel
theorem dX3_known_41 : decode cX3_known 41 = .ok (.iload 4, 2) := by decide +kernel
theorem dX3_known_43 : decode cX3_known 43 = .ok (.goto 7, 3) := by decide +kernel
theorem dX3_known_46 : decode cX3_known 46 = .ok (.iconst (-1), 1) := by decide +kernel
theorem dX3_known_47 : decode cX3_known 47 = .ok (.iload 4, 2) := by decide +kernel
theorem dX3_known_49 : decode cX3_known 49 = .ok (.isub, 1) := by decide +kernel
theorem dX3_known_50 : decode cX3_known 50 = .ok (.ireturn, 1) := by decide +kernel
theorem dX3_bound_0 : decode cX3_bound 0 = .ok (.aload_n 0, 1) := by decide +kernel
theorem dX3_bound_1 : decode cX3_bound 1 = .ok (.iload_n 2, 1) := by decide +kernel
theorem dX3_bound_2 : decode cX3_bound 2 = .ok (.iload_n 3, 1) := by decide +kernel
theorem dX3_bound_3 : decode cX3_bound 3 = .ok (.iload 4, 2) := by decide +kernel
theorem dX3_bound_5 : decode cX3_bound 5 = .ok (.invokevirtual 55, 3) := by decide +kernel
theorem dX3_bound_8 : decode cX3_bound 8 = .ok (.iload_n 1, 1) := by decide +kernel
theorem dX3_bound_9 : decode cX3_bound 9 = .ok (.ifCond .eq 10, 3) := by decide +kernel
theorem dX3_bound_12 : decode cX3_bound 12 = .ok (.aload_n 0, 1) := by decide +kernel
theorem dX3_bound_13 : decode cX3_bound 13 = .ok (.getfield 35, 3) := by decide +kernel
theorem dX3_bound_16 : decode cX3_bound 16 = .ok (.goto 7, 3) := by decide +kernel
theorem dX3_bound_19 : decode cX3_bound 19 = .ok (.aload_n 0, 1) := by decide +kernel
theorem dX3_bound_20 : decode cX3_bound 20 = .ok (.getfield 39, 3) := by decide +kernel
theorem dX3_bound_23 : decode cX3_bound 23 = .ok (.astore 5, 2) := by decide +kernel
theorem dX3_bound_25 : decode cX3_bound 25 = .ok (.aload 5, 2) := by decide +kernel
theorem dX3_bound_27 : decode cX3_bound 27 = .ok (.getfield 143, 3) := by decide +kernel
theorem dX3_bound_30 : decode cX3_bound 30 = .ok (.aload_n 0, 1) := by decide +kernel
theorem dX3_bound_31 : decode cX3_bound 31 = .ok (.getfield 18, 3) := by decide +kernel
theorem dX3_bound_34 : decode cX3_bound 34 = .ok (.iload_n 2, 1) := by decide +kernel
theorem dX3_bound_35 : decode cX3_bound 35 = .ok (.iload_n 3, 1) := by decide +kernel
theorem dX3_bound_36 : decode cX3_bound 36 = .ok (.iload 4, 2) := by decide +kernel
theorem dX3_bound_38 : decode cX3_bound 38 = .ok (.invokevirtual 69, 3) := by decide +kernel
theorem dX3_bound_41 : decode cX3_bound 41 = .ok (.iaload, 1) := by decide +kernel
theorem dX3_bound_42 : decode cX3_bound 42 = .ok (.ireturn, 1) := by decide +kernel
theorem dX3_least_0 : decode cX3_least 0 = .ok (.aload_n 0, 1) := by decide +kernel
theorem dX3_least_1 : decode cX3_least 1 = .ok (.iload_n 1, 1) := by decide +kernel
theorem dX3_least_2 : decode cX3_least 2 = .ok (.iload_n 2, 1) := by decide +kernel
theorem dX3_least_3 : decode cX3_least 3 = .ok (.iload_n 3, 1) := by decide +kernel
theorem dX3_least_4 : decode cX3_least 4 = .ok (.invokevirtual 55, 3) := by decide +kernel
theorem dX3_least_7 : decode cX3_least 7 = .ok (.aload_n 0, 1) := by decide +kernel
theorem dX3_least_8 : decode cX3_least 8 = .ok (.getfield 26, 3) := by decide +kernel
theorem dX3_least_11 : decode cX3_least 11 = .ok (.aload_n 0, 1) := by decide +kernel
theorem dX3_least_12 : decode cX3_least 12 = .ok (.getfield 18, 3) := by decide +kernel
theorem dX3_least_15 : decode cX3_least 15 = .ok (.iload_n 1, 1) := by decide +kernel
theorem dX3_least_16 : decode cX3_least 16 = .ok (.iload_n 2, 1) := by decide +kernel
theorem dX3_least_17 : decode cX3_least 17 = .ok (.iload_n 3, 1) := by decide +kernel
theorem dX3_least_18 : decode cX3_least 18 = .ok (.invokevirtual 69, 3) := by decide +kernel
theorem dX3_least_21 : decode cX3_least 21 = .ok (.iaload, 1) := by decide +kernel
theorem dX3_least_22 : decode cX3_least 22 = .ok (.ireturn, 1) := by decide +kernel
theorem dX3_value_0 : decode cX3_value 0 = .ok (.aload_n 0, 1) := by decide +kernel
theorem dX3_value_1 : decode cX3_value 1 = .ok (.iconst 0, 1) := by decide +kernel
theorem dX3_value_2 : decode cX3_value 2 = .ok (.iload_n 1, 1) := by decide +kernel
theorem dX3_value_3 : decode cX3_value 3 = .ok (.iload_n 2, 1) := by decide +kernel
theorem dX3_value_4 : decode cX3_value 4 = .ok (.invokevirtual 55, 3) := by decide +kernel
theorem dX3_value_7 : decode cX3_value 7 = .ok (.iload_n 3, 1) := by decide +kernel
theorem dX3_value_8 : decode cX3_value 8 = .ok (.ifCond .lt 10, 3) := by decide +kernel
theorem dX3_value_11 : decode cX3_value 11 = .ok (.iload_n 3, 1) := by decide +kernel
theorem dX3_value_12 : decode cX3_value 12 = .ok (.sipush 1000, 3) := by decide +kernel
theorem dX3_value_15 : decode cX3_value 15 = .ok (.if_icmp .le 13, 3) := by decide +kernel
theorem dX3_value_18 : decode cX3_value 18 = .ok (.new 59, 3) := by decide +kernel
theorem dX3_value_21 : decode cX3_value 21 = .ok (.dup, 1) := by decide +kernel
theorem dX3_value_22 : decode cX3_value 22 = .ok (.ldc 61, 2) := by decide +kernel
theorem dX3_value_24 : decode cX3_value 24 = .ok (.invokespecial 63, 3) := by decide +kernel
theorem dX3_value_27 : decode cX3_value 27 = .ok (.athrow, 1) := by decide +kernel
theorem dX3_value_28 : decode cX3_value 28 = .ok (.aload_n 0, 1) := by decide +kernel
theorem dX3_value_29 : decode cX3_value 29 = .ok (.invokevirtual 66, 3) := by decide +kernel
theorem dX3_value_32 : decode cX3_value 32 = .ok (.aload_n 0, 1) := by decide +kernel
theorem dX3_value_33 : decode cX3_value 33 = .ok (.getfield 18, 3) := by decide +kernel
theorem dX3_value_36 : decode cX3_value 36 = .ok (.iconst 0, 1) := by decide +kernel
theorem dX3_value_37 : decode cX3_value 37 = .ok (.iload_n 1, 1) := by decide +kernel
theorem dX3_value_38 : decode cX3_value 38 = .ok (.iload_n 2, 1) := by decide +kernel
theorem dX3_value_39 : decode cX3_value 39 = .ok (.invokevirtual 69, 3) := by decide +kernel
theorem dX3_value_42 : decode cX3_value 42 = .ok (.istore 4, 2) := by decide +kernel
theorem dX3_value_44 : decode cX3_value 44 = .ok (.aload_n 0, 1) := by decide +kernel
theorem dX3_value_45 : decode cX3_value 45 = .ok (.getfield 26, 3) := by decide +kernel
theorem dX3_value_48 : decode cX3_value 48 = .ok (.iload 4, 2) := by decide +kernel
theorem dX3_value_50 : decode cX3_value 50 = .ok (.iaload, 1) := by decide +kernel
theorem dX3_value_51 : decode cX3_value 51 = .ok (.istore 5, 2) := by decide +kernel
theorem dX3_value_53 : decode cX3_value 53 = .ok (.aload_n 0, 1) := by decide +kernel
theorem dX3_value_54 : decode cX3_value 54 = .ok (.getfield 26, 3) := by decide +kernel
theorem dX3_value_57 : decode cX3_value 57 = .ok (.iload 4, 2) := by decide +kernel
theorem dX3_value_59 : decode cX3_value 59 = .ok (.iload_n 3, 1) := by decide +kernel
theorem dX3_value_60 : decode cX3_value 60 = .ok (.iastore, 1) := by decide +kernel
theorem dX3_value_61 : decode cX3_value 61 = .ok (.aload_n 0, 1) := by decide +kernel
theorem dX3_value_62 : decode cX3_value 62 = .ok (.invokevirtual 73, 3) := by decide +kernel
theorem dX3_value_65 : decode cX3_value 65 = .ok (.iload 5, 2) := by decide +kernel
theorem dX3_value_67 : decode cX3_value 67 = .ok (.ireturn, 1) := by decide +kernel
theorem dX3_values_0 : decode cX3_values 0 = .ok (.aload_n 0, 1) := by decide +kernel
theorem dX3_values_1 : decode cX3_values 1 = .ok (.iconst 0, 1) := by decide +kernel
theorem dX3_values_2 : decode cX3_values 2 = .ok (.iload_n 1, 1) := by decide +kernel
theorem dX3_values_3 : decode cX3_values 3 = .ok (.iload_n 2, 1) := by decide +kernel
theorem dX3_values_4 : decode cX3_values 4 = .ok (.invokevirtual 55, 3) := by decide +kernel
theorem dX3_values_7 : decode cX3_values 7 = .ok (.iload_n 3, 1) := by decide +kernel
theorem dX3_values_8 : decode cX3_values 8 = .ok (.ifCond .ge 13, 3) := by decide +kernel
theorem dX3_values_11 : decode cX3_values 11 = .ok (.new 59, 3) := by decide +kernel
theorem dX3_values_14 : decode cX3_values 14 = .ok (.dup, 1) := by decide +kernel
theorem dX3_values_15 : decode cX3_values 15 = .ok (.ldc 76, 2) := by decide +kernel
theorem dX3_values_17 : decode cX3_values 17 = .ok (.invokespecial 63, 3) := by decide +kernel
theorem dX3_values_20 : decode cX3_values 20 = .ok (.athrow, 1) := by decide +kernel
theorem dX3_values_21 : decode cX3_values 21 = .ok (.aload_n 0, 1) := by decide +kernel
theorem dX3_values_22 : decode cX3_values 22 = .ok (.invokevirtual 66, 3) := by decide +kernel
theorem dX3_values_25 : decode cX3_values 25 = .ok (.aload_n 0, 1) := by decide +kernel
theorem dX3_values_26 : decode cX3_values 26 = .ok (.getfield 18, 3) := by decide +kernel
theorem dX3_values_29 : decode cX3_values 29 = .ok (.iconst 0, 1) := by decide +kernel
theorem dX3_values_30 : decode cX3_values 30 = .ok (.iload_n 1, 1) := by decide +kernel
theorem dX3_values_31 : decode cX3_values 31 = .ok (.iload_n 2, 1) := by decide +kernel
theorem dX3_values_32 : decode cX3_values 32 = .ok (.invokevirtual 69, 3) := by decide +kernel
theorem dX3_values_35 : decode cX3_values 35 = .ok (.istore 6, 2) := by decide +kernel
theorem dX3_values_37 : decode cX3_values 37 = .ok (.iload_n 3, 1) := by decide +kernel
theorem dX3_values_38 : decode cX3_values 38 = .ok (.aload_n 0, 1) := by decide +kernel
theorem dX3_values_39 : decode cX3_values 39 = .ok (.getfield 18, 3) := by decide +kernel
theorem dX3_values_42 : decode cX3_values 42 = .ok (.getfield 78, 3) := by decide +kernel
theorem dX3_values_45 : decode cX3_values 45 = .ok (.iload 6, 2) := by decide +kernel
theorem dX3_values_47 : decode cX3_values 47 = .ok (.isub, 1) := by decide +kernel
theorem dX3_values_48 : decode cX3_values 48 = .ok (.invokestatic 81, 3) := by decide +kernel
theorem dX3_values_51 : decode cX3_values 51 = .ok (.istore 7, 2) := by decide +kernel
theorem dX3_values_53 : decode cX3_values 53 = .ok (.iload 4, 2) := by decide +kernel
theorem dX3_values_55 : decode cX3_values 55 = .ok (.i2l, 1) := by decide +kernel
theorem dX3_values_56 : decode cX3_values 56 = .ok (.lstore 8, 2) := by decide +kernel
theorem dX3_values_58 : decode cX3_values 58 = .ok (.iconst 0, 1) := by decide +kernel
theorem dX3_values_59 : decode cX3_values 59 = .ok (.istore 10, 2) := by decide +kernel
theorem dX3_values_61 : decode cX3_values 61 = .ok (.iload 10, 2) := by decide +kernel
theorem dX3_values_63 : decode cX3_values 63 = .ok (.iload 7, 2) := by decide +kernel
theorem dX3_values_65 : decode cX3_values 65 = .ok (.if_icmp .ge 36, 3) := by decide +kernel
theorem dX3_values_68 : decode cX3_values 68 = .ok (.aload_n 0, 1) := by decide +kernel
theorem dX3_values_69 : decode cX3_values 69 = .ok (.getfield 26, 3) := by decide +kernel
theorem dX3_values_72 : decode cX3_values 72 = .ok (.iload 6, 2) := by decide +kernel
theorem dX3_values_74 : decode cX3_values 74 = .ok (.iload 10, 2) := by decide +kernel
theorem dX3_values_76 : decode cX3_values 76 = .ok (.iadd, 1) := by decide +kernel
theorem dX3_values_77 : decode cX3_values 77 = .ok (.lload 8, 2) := by decide +kernel
theorem dX3_values_79 : decode cX3_values 79 = .ok (.iconst 0, 1) := by decide +kernel
theorem dX3_values_80 : decode cX3_values 80 = .ok (.sipush 1000, 3) := by decide +kernel
theorem dX3_values_83 : decode cX3_values 83 = .ok (.invokestatic 11, 3) := by decide +kernel
theorem dX3_values_86 : decode cX3_values 86 = .ok (.iastore, 1) := by decide +kernel
theorem dX3_values_87 : decode cX3_values 87 = .ok (.lload 8, 2) := by decide +kernel
theorem dX3_values_89 : decode cX3_values 89 = .ok (.iload 5, 2) := by decide +kernel
theorem dX3_values_91 : decode cX3_values 91 = .ok (.i2l, 1) := by decide +kernel
theorem dX3_values_92 : decode cX3_values 92 = .ok (.ladd, 1) := by decide +kernel
theorem dX3_values_93 : decode cX3_values 93 = .ok (.lstore 8, 2) := by decide +kernel
theorem dX3_values_95 : decode cX3_values 95 = .ok (.iinc 10 1, 3) := by decide +kernel
theorem dX3_values_98 : decode cX3_values 98 = .ok (.goto (-37), 3) := by decide +kernel
theorem dX3_values_101 : decode cX3_values 101 = .ok (.aload_n 0, 1) := by decide +kernel
theorem dX3_values_102 : decode cX3_values 102 = .ok (.invokevirtual 73, 3) := by decide +kernel
theorem dX3_values_105 : decode cX3_values 105 = .ok (.iload 7, 2) := by decide +kernel
theorem dX3_values_107 : decode cX3_values 107 = .ok (.ireturn, 1) := by decide +kernel
theorem dX3_encode_0 : decode cX3_encode 0 = .ok (.aload_n 0, 1) := by decide +kernel
theorem dX3_encode_1 : decode cX3_encode 1 = .ok (.iconst 0, 1) := by decide +kernel
theorem dX3_encode_2 : decode cX3_encode 2 = .ok (.iload_n 1, 1) := by decide +kernel
theorem dX3_encode_3 : decode cX3_encode 3 = .ok (.iload_n 2, 1) := by decide +kernel
theorem dX3_encode_4 : decode cX3_encode 4 = .ok (.invokevirtual 55, 3) := by decide +kernel
theorem dX3_encode_7 : decode cX3_encode 7 = .ok (.iload_n 3, 1) := by decide +kernel
theorem dX3_encode_8 : decode cX3_encode 8 = .ok (.invokestatic 87, 3) := by decide +kernel
theorem dX3_encode_11 : decode cX3_encode 11 = .ok (.aload_n 0, 1) := by decide +kernel
theorem dX3_encode_12 : decode cX3_encode 12 = .ok (.iload_n 1, 1) := by decide +kernel
theorem dX3_encode_13 : decode cX3_encode 13 = .ok (.iload_n 2, 1) := by decide +kernel
theorem dX3_encode_14 : decode cX3_encode 14 = .ok (.iload_n 3, 1) := by decide +kernel
theorem dX3_encode_15 : decode cX3_encode 15 = .ok (.invokevirtual 90, 3) := by decide +kernel
theorem dX3_encode_18 : decode cX3_encode 18 = .ok (.istore 4, 2) := by decide +kernel
theorem dX3_encode_20 : decode cX3_encode 20 = .ok (.aload_n 0, 1) := by decide +kernel
theorem dX3_encode_21 : decode cX3_encode 21 = .ok (.getfield 45, 3) := by decide +kernel
theorem dX3_encode_24 : decode cX3_encode 24 = .ok (.iload 4, 2) := by decide +kernel
theorem dX3_encode_26 : decode cX3_encode 26 = .ok (.invokestatic 93, 3) := by decide +kernel
theorem dX3_encode_29 : decode cX3_encode 29 = .ok (.aload_n 0, 1) := by decide +kernel
theorem dX3_encode_30 : decode cX3_encode 30 = .ok (.iload_n 1, 1) := by decide +kernel
theorem dX3_encode_31 : decode cX3_encode 31 = .ok (.iload_n 2, 1) := by decide +kernel
theorem dX3_encode_32 : decode cX3_encode 32 = .ok (.iload_n 3, 1) := by decide +kernel
theorem dX3_encode_33 : decode cX3_encode 33 = .ok (.invokevirtual 97, 3) := by decide +kernel
theorem dX3_encode_36 : decode cX3_encode 36 = .ok (.iload 4, 2) := by decide +kernel
theorem dX3_encode_38 : decode cX3_encode 38 = .ok (.ireturn, 1) := by decide +kernel
theorem dX3_cost_0 : decode cX3_cost 0 = .ok (.aload_n 0, 1) := by decide +kernel
theorem dX3_cost_1 : decode cX3_cost 1 = .ok (.iconst 0, 1) := by decide +kernel
theorem dX3_cost_2 : decode cX3_cost 2 = .ok (.iload_n 1, 1) := by decide +kernel
theorem dX3_cost_3 : decode cX3_cost 3 = .ok (.iload_n 2, 1) := by decide +kernel
theorem dX3_cost_4 : decode cX3_cost 4 = .ok (.invokevirtual 55, 3) := by decide +kernel
theorem dX3_cost_7 : decode cX3_cost 7 = .ok (.iload_n 3, 1) := by decide +kernel
theorem dX3_cost_8 : decode cX3_cost 8 = .ok (.invokestatic 87, 3) := by decide +kernel
theorem dX3_cost_11 : decode cX3_cost 11 = .ok (.aload_n 0, 1) := by decide +kernel
theorem dX3_cost_12 : decode cX3_cost 12 = .ok (.iload_n 1, 1) := by decide +kernel
theorem dX3_cost_13 : decode cX3_cost 13 = .ok (.iload_n 2, 1) := by decide +kernel
theorem dX3_cost_14 : decode cX3_cost 14 = .ok (.iload_n 3, 1) := by decide +kernel
theorem dX3_cost_15 : decode cX3_cost 15 = .ok (.invokevirtual 90, 3) := by decide +kernel
theorem dX3_cost_18 : decode cX3_cost 18 = .ok (.ireturn, 1) := by decide +kernel
theorem dX3_encodeAll_0 : decode cX3_encodeAll 0 = .ok (.iload_n 1, 1) := by decide +kernel
theorem dX3_encodeAll_1 : decode cX3_encodeAll 1 = .ok (.invokestatic 100, 3) := by decide +kernel
theorem dX3_encodeAll_4 : decode cX3_encodeAll 4 = .ok (.iload_n 2, 1) := by decide +kernel
theorem dX3_encodeAll_5 : decode cX3_encodeAll 5 = .ok (.invokestatic 87, 3) := by decide +kernel
theorem dX3_encodeAll_8 : decode cX3_encodeAll 8 = .ok (.aload_n 0, 1) := by decide +kernel
theorem dX3_encodeAll_9 : decode cX3_encodeAll 9 = .ok (.aload_n 0, 1) := by decide +kernel
theorem dX3_encodeAll_10 : decode cX3_encodeAll 10 = .ok (.getfield 18, 3) := by decide +kernel
theorem dX3_encodeAll_13 : decode cX3_encodeAll 13 = .ok (.getfield 103, 3) := by decide +kernel
theorem dX3_encodeAll_16 : decode cX3_encodeAll 16 = .ok (.iconst 1, 1) := by decide +kernel
theorem dX3_encodeAll_17 : decode cX3_encodeAll 17 = .ok (.isub, 1) := by decide +kernel
theorem dX3_encodeAll_18 : decode cX3_encodeAll 18 = .ok (.iconst 0, 1) := by decide +kernel
theorem dX3_encodeAll_19 : decode cX3_encodeAll 19 = .ok (.iconst 0, 1) := by decide +kernel
theorem dX3_encodeAll_20 : decode cX3_encodeAll 20 = .ok (.iconst 0, 1) := by decide +kernel
theorem dX3_encodeAll_21 : decode cX3_encodeAll 21 = .ok (.iload_n 2, 1) := by decide +kernel
theorem dX3_encodeAll_22 : decode cX3_encodeAll 22 = .ok (.invokevirtual 106, 3) := by decide +kernel
theorem dX3_encodeAll_25 : decode cX3_encodeAll 25 = .ok (.istore_n 3, 1) := by decide +kernel
theorem dX3_encodeAll_26 : decode cX3_encodeAll 26 = .ok (.aload_n 0, 1) := by decide +kernel
theorem dX3_encodeAll_27 : decode cX3_encodeAll 27 = .ok (.getfield 45, 3) := by decide +kernel
theorem dX3_encodeAll_30 : decode cX3_encodeAll 30 = .ok (.iload_n 3, 1) := by decide +kernel
theorem dX3_encodeAll_31 : decode cX3_encodeAll 31 = .ok (.invokestatic 93, 3) := by decide +kernel
theorem dX3_encodeAll_34 : decode cX3_encodeAll 34 = .ok (.iconst 0, 1) := by decide +kernel
theorem dX3_encodeAll_35 : decode cX3_encodeAll 35 = .ok (.istore 4, 2) := by decide +kernel
theorem dX3_encodeAll_37 : decode cX3_encodeAll 37 = .ok (.iload 4, 2) := by decide +kernel
theorem dX3_encodeAll_39 : decode cX3_encodeAll 39 = .ok (.aload_n 0, 1) := by decide +kernel
theorem dX3_encodeAll_40 : decode cX3_encodeAll 40 = .ok (.getfield 18, 3) := by decide +kernel
theorem dX3_encodeAll_43 : decode cX3_encodeAll 43 = .ok (.getfield 78, 3) := by decide +kernel
theorem dX3_encodeAll_46 : decode cX3_encodeAll 46 = .ok (.if_icmp .ge 34, 3) := by decide +kernel
theorem dX3_encodeAll_49 : decode cX3_encodeAll 49 = .ok (.aload_n 0, 1) := by decide +kernel
theorem dX3_encodeAll_50 : decode cX3_encodeAll 50 = .ok (.aload_n 0, 1) := by decide +kernel
theorem dX3_encodeAll_51 : decode cX3_encodeAll 51 = .ok (.getfield 18, 3) := by decide +kernel
theorem dX3_encodeAll_54 : decode cX3_encodeAll 54 = .ok (.iload_n 1, 1) := by decide +kernel
theorem dX3_encodeAll_55 : decode cX3_encodeAll 55 = .ok (.iload 4, 2) := by decide +kernel
theorem dX3_encodeAll_57 : decode cX3_encodeAll 57 = .ok (.invokevirtual 110, 3) := by decide +kernel
theorem dX3_encodeAll_60 : decode cX3_encodeAll 60 = .ok (.aload_n 0, 1) := by decide +kernel
theorem dX3_encodeAll_61 : decode cX3_encodeAll 61 = .ok (.getfield 18, 3) := by decide +kernel
theorem dX3_encodeAll_64 : decode cX3_encodeAll 64 = .ok (.iload_n 1, 1) := by decide +kernel
theorem dX3_encodeAll_65 : decode cX3_encodeAll 65 = .ok (.iload 4, 2) := by decide +kernel
theorem dX3_encodeAll_67 : decode cX3_encodeAll 67 = .ok (.invokevirtual 113, 3) := by decide +kernel
theorem dX3_encodeAll_70 : decode cX3_encodeAll 70 = .ok (.iload_n 2, 1) := by decide +kernel
theorem dX3_encodeAll_71 : decode cX3_encodeAll 71 = .ok (.invokevirtual 97, 3) := by decide +kernel
theorem dX3_encodeAll_74 : decode cX3_encodeAll 74 = .ok (.iinc 4 1, 3) := by decide +kernel
theorem dX3_encodeAll_77 : decode cX3_encodeAll 77 = .ok (.goto (-40), 3) := by decide +kernel
theorem dX3_encodeAll_80 : decode cX3_encodeAll 80 = .ok (.iload_n 3, 1) := by decide +kernel
theorem dX3_encodeAll_81 : decode cX3_encodeAll 81 = .ok (.ireturn, 1) := by decide +kernel
theorem dX3_decode_0 : decode cX3_decode 0 = .ok (.aload_n 0, 1) := by decide +kernel
theorem dX3_decode_1 : decode cX3_decode 1 = .ok (.iconst 0, 1) := by decide +kernel
theorem dX3_decode_2 : decode cX3_decode 2 = .ok (.iload_n 1, 1) := by decide +kernel
theorem dX3_decode_3 : decode cX3_decode 3 = .ok (.iload_n 2, 1) := by decide +kernel
theorem dX3_decode_4 : decode cX3_decode 4 = .ok (.invokevirtual 55, 3) := by decide +kernel
theorem dX3_decode_7 : decode cX3_decode 7 = .ok (.iload_n 3, 1) := by decide +kernel
theorem dX3_decode_8 : decode cX3_decode 8 = .ok (.invokestatic 87, 3) := by decide +kernel
theorem dX3_decode_11 : decode cX3_decode 11 = .ok (.aload_n 0, 1) := by decide +kernel
theorem dX3_decode_12 : decode cX3_decode 12 = .ok (.iload_n 1, 1) := by decide +kernel
theorem dX3_decode_13 : decode cX3_decode 13 = .ok (.iload_n 2, 1) := by decide +kernel
theorem dX3_decode_14 : decode cX3_decode 14 = .ok (.iload_n 3, 1) := by decide +kernel
theorem dX3_decode_15 : decode cX3_decode 15 = .ok (.invokevirtual 135, 3) := by decide +kernel
theorem dX3_decode_18 : decode cX3_decode 18 = .ok (.ifCond .ne 6, 3) := by decide +kernel
theorem dX3_decode_21 : decode cX3_decode 21 = .ok (.bipush (-2), 2) := by decide +kernel
theorem dX3_decode_23 : decode cX3_decode 23 = .ok (.ireturn, 1) := by decide +kernel
theorem dX3_decode_24 : decode cX3_decode 24 = .ok (.aload_n 0, 1) := by decide +kernel
theorem dX3_decode_25 : decode cX3_decode 25 = .ok (.getfield 18, 3) := by decide +kernel
theorem dX3_decode_28 : decode cX3_decode 28 = .ok (.iconst 0, 1) := by decide +kernel
theorem dX3_decode_29 : decode cX3_decode 29 = .ok (.iload_n 1, 1) := by decide +kernel
theorem dX3_decode_30 : decode cX3_decode 30 = .ok (.iload_n 2, 1) := by decide +kernel
theorem dX3_decode_31 : decode cX3_decode 31 = .ok (.invokevirtual 69, 3) := by decide +kernel
theorem dX3_decode_34 : decode cX3_decode 34 = .ok (.istore 4, 2) := by decide +kernel
theorem dX3_decode_36 : decode cX3_decode 36 = .ok (.aload_n 0, 1) := by decide +kernel
theorem dX3_decode_37 : decode cX3_decode 37 = .ok (.getfield 39, 3) := by decide +kernel
theorem dX3_decode_40 : decode cX3_decode 40 = .ok (.getfield 139, 3) := by decide +kernel
theorem dX3_decode_43 : decode cX3_decode 43 = .ok (.iload 4, 2) := by decide +kernel
theorem dX3_decode_45 : decode cX3_decode 45 = .ok (.baload, 1) := by decide +kernel
theorem dX3_decode_46 : decode cX3_decode 46 = .ok (.ifCond .eq 21, 3) := by decide +kernel
theorem dX3_decode_49 : decode cX3_decode 49 = .ok (.aload_n 0, 1) := by decide +kernel
theorem dX3_decode_50 : decode cX3_decode 50 = .ok (.getfield 39, 3) := by decide +kernel
theorem dX3_decode_53 : decode cX3_decode 53 = .ok (.getfield 143, 3) := by decide +kernel
theorem dX3_decode_56 : decode cX3_decode 56 = .ok (.iload 4, 2) := by decide +kernel
theorem dX3_decode_58 : decode cX3_decode 58 = .ok (.iaload, 1) := by decide +kernel
theorem dX3_decode_59 : decode cX3_decode 59 = .ok (.iload_n 3, 1) := by decide +kernel
theorem dX3_decode_60 : decode cX3_decode 60 = .ok (.if_icmp .ge 7, 3) := by decide +kernel
theorem dX3_decode_63 : decode cX3_decode 63 = .ok (.iconst 1, 1) := by decide +kernel
theorem dX3_decode_64 : decode cX3_decode 64 = .ok (.goto 4, 3) := by decide +kernel
theorem dX3_decode_67 : decode cX3_decode 67 = .ok (.iconst 0, 1) := by decide +kernel
theorem dX3_decode_68 : decode cX3_decode 68 = .ok (.ireturn, 1) := by decide +kernel
theorem dX3_decodeAll_0 : decode cX3_decodeAll 0 = .ok (.iload_n 1, 1) := by decide +kernel
theorem dX3_decodeAll_1 : decode cX3_decodeAll 1 = .ok (.invokestatic 100, 3) := by decide +kernel
theorem dX3_decodeAll_4 : decode cX3_decodeAll 4 = .ok (.iload_n 2, 1) := by decide +kernel
theorem dX3_decodeAll_5 : decode cX3_decodeAll 5 = .ok (.invokestatic 87, 3) := by decide +kernel
theorem dX3_decodeAll_8 : decode cX3_decodeAll 8 = .ok (.iconst 0, 1) := by decide +kernel
theorem dX3_decodeAll_9 : decode cX3_decodeAll 9 = .ok (.istore_n 3, 1) := by decide +kernel
theorem dX3_decodeAll_10 : decode cX3_decodeAll 10 = .ok (.iload_n 3, 1) := by decide +kernel
theorem dX3_decodeAll_11 : decode cX3_decodeAll 11 = .ok (.aload_n 0, 1) := by decide +kernel
theorem dX3_decodeAll_12 : decode cX3_decodeAll 12 = .ok (.getfield 18, 3) := by decide +kernel
theorem dX3_decodeAll_15 : decode cX3_decodeAll 15 = .ok (.getfield 78, 3) := by decide +kernel
theorem dX3_decodeAll_18 : decode cX3_decodeAll 18 = .ok (.if_icmp .ge 37, 3) := by decide +kernel
theorem dX3_decodeAll_21 : decode cX3_decodeAll 21 = .ok (.aload_n 0, 1) := by decide +kernel
theorem dX3_decodeAll_22 : decode cX3_decodeAll 22 = .ok (.aload_n 0, 1) := by decide +kernel
theorem dX3_decodeAll_23 : decode cX3_decodeAll 23 = .ok (.getfield 18, 3) := by decide +kernel
theorem dX3_decodeAll_26 : decode cX3_decodeAll 26 = .ok (.iload_n 1, 1) := by decide +kernel
theorem dX3_decodeAll_27 : decode cX3_decodeAll 27 = .ok (.iload_n 3, 1) := by decide +kernel
theorem dX3_decodeAll_28 : decode cX3_decodeAll 28 = .ok (.invokevirtual 110, 3) := by decide +kernel
theorem dX3_decodeAll_31 : decode cX3_decodeAll 31 = .ok (.aload_n 0, 1) := by decide +kernel
theorem dX3_decodeAll_32 : decode cX3_decodeAll 32 = .ok (.getfield 18, 3) := by decide +kernel
theorem dX3_decodeAll_35 : decode cX3_decodeAll 35 = .ok (.iload_n 1, 1) := by decide +kernel
theorem dX3_decodeAll_36 : decode cX3_decodeAll 36 = .ok (.iload_n 3, 1) := by decide +kernel
theorem dX3_decodeAll_37 : decode cX3_decodeAll 37 = .ok (.invokevirtual 113, 3) := by decide +kernel
theorem dX3_decodeAll_40 : decode cX3_decodeAll 40 = .ok (.iload_n 2, 1) := by decide +kernel
theorem dX3_decodeAll_41 : decode cX3_decodeAll 41 = .ok (.invokevirtual 135, 3) := by decide +kernel
theorem dX3_decodeAll_44 : decode cX3_decodeAll 44 = .ok (.ifCond .ne 5, 3) := by decide +kernel
theorem dX3_decodeAll_47 : decode cX3_decodeAll 47 = .ok (.iload_n 3, 1) := by decide +kernel
theorem dX3_decodeAll_48 : decode cX3_decodeAll 48 = .ok (.ireturn, 1) := by decide +kernel
theorem dX3_decodeAll_49 : decode cX3_decodeAll 49 = .ok (.iinc 3 1, 3) := by decide +kernel
theorem dX3_decodeAll_52 : decode cX3_decodeAll 52 = .ok (.goto (-42), 3) := by decide +kernel
theorem dX3_decodeAll_55 : decode cX3_decodeAll 55 = .ok (.aload_n 0, 1) := by decide +kernel
theorem dX3_decodeAll_56 : decode cX3_decodeAll 56 = .ok (.getfield 18, 3) := by decide +kernel
theorem dX3_decodeAll_59 : decode cX3_decodeAll 59 = .ok (.getfield 78, 3) := by decide +kernel
theorem dX3_decodeAll_62 : decode cX3_decodeAll 62 = .ok (.ireturn, 1) := by decide +kernel
def wp_X3_checkThreshold (post : Unit → Prop) (px : String → Unit → Prop)   (x0 : Int32) : Prop := ((x0 < 0 → (px "java/lang/IllegalArgumentException" ())) ∧ (¬ x0 < 0 → (((x0 ≤ 1001 → (post ())) ∧ (¬ x0 ≤ 1001 → (px "java/lang/IllegalArgumentException" ()))))))
abbrev rm_X3_checkThreshold : Room := { frames := 6, cells := 1, slots := 6, locals := 82 }
set_option maxHeartbeats 4000000 in
set_option maxRecDepth 100000 in
theorem met_X3_checkThreshold (l : Launch) (hl9 : l.stackTraces = false) (dC : Nat → ClassId) (dI : Nat → Nat → Nat) (cI cZ cJ cL : ClassId) (sa : Nat → Nat)  (sz : Nat) (post : Unit → Prop) (px : String → Unit → Prop)   (x0 : Int32) (hw : wp_X3_checkThreshold post px   x0) : vx_Met l yX3_checkThreshold wsX3_checkThreshold rm_X3_checkThreshold (pcX (dC, dI) (tysA cI cZ cJ cL) sa [] sz [.int x0]) (va_Qv post (fun u t => qB (dC, dI) (tysA cI cZ cJ cL) (va_A [] sz) ([]) t) (va_A [] sz)) (vx_X (fun u : String × Unit => px u.1 u.2) (fun E u t => E = u.1 ∧ qB (dC, dI) (tysA cI cZ cJ cL) (va_A [] sz) ([]) t) (va_A [] sz)) 1 6 (va_A [] sz) := by
  refine vx_ofW (cc := cX3_checkThreshold) (maxL := 1) (ret := none) (by decide) rfl ?_
  intro p e s m args below meth c s₁ Bd hml hno hv
  obtain ⟨hargs, hsz, hP, hK, hD0, hZ⟩ := hv
  have hx := Bd.exec
  have hb := Bd.bytes
  have hr := Bd.returns
  have hts := atoms_spec (ws := wsX3_checkThreshold) Bd.pre
  have hT : ∀ w ∈ WALL, w.before args s = true := fun w h => hts w (List.mem_cons_of_mem _ h)
  have hown : s.vm.findClass RX3 = some m.cls := findClass_of_methodNamed Bd.named
  have hlocks := Bd.notSynchronized
  subst hsz
  have hD := hD0.self (sz := s.heap.size)
  generalize hAe : va_A [] s.heap.size = A at hD ⊢
  have hA : ∀ q : Nat, s.heap.size ≤ q → A q := fun q h => by rw [← hAe]; exact Or.inr h
  have hS : va_S A s.heap s.heap [] := va_S.rf
  rw [hAe] at hZ
  have hP : va_P (dC, dI) vwCl [] s.heap := hP
  have hl := lv_entry ([.int x0]) (n := 1) (Nat.le_of_ble_eq_true rfl)
  rw [show entryFrame m args 1 = F0 m 0 _ [] from by rw [hargs]; exact lg_entry_eq m ([.int x0]) 1]
  generalize (lg_sl ([.int x0]) ++ List.replicate (1 - (lg_sl ([.int x0])).length) Slot.unset).toArray = ls at hl ⊢
  have hl : lv_has ls 1 [(0, .int x0)] := hl
  obtain ⟨H, hH⟩ : ∃ z : Heap, z = s.heap := ⟨_, rfl⟩
  obtain ⟨locs, hlocs⟩ : ∃ z : List Loc, z = [] := ⟨_, rfl⟩
  rw [show W p l e (headSpec wsX3_checkThreshold rm_X3_checkThreshold).room s m args below meth c s.heap [] 0 0 = W p l e (headSpec wsX3_checkThreshold rm_X3_checkThreshold).room s m args below meth c H locs 0 0 from by rw [hH, hlocs]]
  have hP : va_P (dC, dI) vwCl [] H := by rw [hH]; exact hP
  have hS : va_S A s.heap H locs := by rw [hH, hlocs]; exact hS
  unfold wp_X3_checkThreshold at hw
  refine lv_iload_n hx hb dX3_checkThreshold_0 rfl (lv_at hl 0 rfl) ?_
  refine lv_if_lt (tgt := 11) hx hb dX3_checkThreshold_1 (by decide) (fun c_1 => ?_) (fun c_1 => ?_)
  · have hw := hw.1 c_1
    exact vx_throwS (own := RX3) (cls := "java/lang/IllegalArgumentException") (names := exNames) hx hb hl9 hown (by decide +kernel) (by decide +kernel) (hT _ k_11) (hT _ k_12) (hZ.2.2.2 _ (List.mem_of_getElem? (i := 7) rfl)) (hat_63 hT hZ.2.2.1) hgd_63 hZ.1 hZ.2.1 hS (hl.1.trans hml.symm) dX3_checkThreshold_11 dX3_checkThreshold_14 dX3_checkThreshold_15 dX3_checkThreshold_17 dX3_checkThreshold_20 (fun x h => (hno x h).elim) (Nat.le_of_ble_eq_true rfl) (Nat.le_of_ble_eq_true rfl) (Nat.le_of_ble_eq_true rfl) (Nat.le_of_ble_eq_true rfl) hlocks (fun t ha hsz hk => ⟨("java/lang/IllegalArgumentException", ()), hw, ⟨rfl, hP.kept (fun k q hq => hk q.1 (hP k q hq).lt), va_K.moved ha hK, hD⟩, Nat.le_trans hS.1 hsz, fun q h1 h2 => (hk q (Nat.lt_of_lt_of_le h1 hS.1)).trans (hS.2.1 q h1 h2)⟩) hS.2.2 (Nat.le_of_ble_eq_true rfl) (Nat.le_of_ble_eq_true rfl)
  · have hw := hw.2 c_1
    refine lv_iload_n hx hb dX3_checkThreshold_4 rfl (lv_at hl 0 rfl) ?_
    refine lv_sipush (v := 1001) hx hb dX3_checkThreshold_5 (by decide) ?_
    refine lv_icmp_le (tgt := 21) hx hb dX3_checkThreshold_8 (by decide) (fun c_2 => ?_) (fun c_2 => ?_)
    · have hw := hw.1 c_2
      refine W.widen (k := 1) (n := 6) (Nat.le_of_ble_eq_true rfl) (Nat.le_of_ble_eq_true rfl) ?_
      exact vx_ret (W.vret hx hb hr (fun t ht hW => ⟨⟨(), rfl, hw, by rw [ht]; exact hP, va_K.moved hW.alike hK, hD⟩, hS.F ht⟩) hS.2.2 dX3_checkThreshold_21)
    · have hw := hw.2 c_2
      exact vx_throwS (own := RX3) (cls := "java/lang/IllegalArgumentException") (names := exNames) hx hb hl9 hown (by decide +kernel) (by decide +kernel) (hT _ k_11) (hT _ k_12) (hZ.2.2.2 _ (List.mem_of_getElem? (i := 7) rfl)) (hat_63 hT hZ.2.2.1) hgd_63 hZ.1 hZ.2.1 hS (hl.1.trans hml.symm) dX3_checkThreshold_11 dX3_checkThreshold_14 dX3_checkThreshold_15 dX3_checkThreshold_17 dX3_checkThreshold_20 (fun x h => (hno x h).elim) (Nat.le_of_ble_eq_true rfl) (Nat.le_of_ble_eq_true rfl) (Nat.le_of_ble_eq_true rfl) (Nat.le_of_ble_eq_true rfl) hlocks (fun t ha hsz hk => ⟨("java/lang/IllegalArgumentException", ()), hw, ⟨rfl, hP.kept (fun k q hq => hk q.1 (hP k q hq).lt), va_K.moved ha hK, hD⟩, Nat.le_trans hS.1 hsz, fun q h1 h2 => (hk q (Nat.lt_of_lt_of_le h1 hS.1)).trans (hS.2.1 q h1 h2)⟩) hS.2.2 (Nat.le_of_ble_eq_true rfl) (Nat.le_of_ble_eq_true rfl)
def wp_X3_checkOrder (post : Unit → Prop) (px : String → Unit → Prop)   (x0 : Int32) : Prop := ((x0 < 0 → (px "java/lang/IllegalArgumentException" ())) ∧ (¬ x0 < 0 → (((x0 < 3 → (post ())) ∧ (¬ x0 < 3 → (px "java/lang/IllegalArgumentException" ()))))))
abbrev rm_X3_checkOrder : Room := { frames := 6, cells := 1, slots := 6, locals := 82 }
set_option maxHeartbeats 4000000 in
set_option maxRecDepth 100000 in
theorem met_X3_checkOrder (l : Launch) (hl9 : l.stackTraces = false) (dC : Nat → ClassId) (dI : Nat → Nat → Nat) (cI cZ cJ cL : ClassId) (sa : Nat → Nat)  (sz : Nat) (post : Unit → Prop) (px : String → Unit → Prop)   (x0 : Int32) (hw : wp_X3_checkOrder post px   x0) : vx_Met l yX3_checkOrder wsX3_checkOrder rm_X3_checkOrder (pcX (dC, dI) (tysA cI cZ cJ cL) sa [] sz [.int x0]) (va_Qv post (fun u t => qB (dC, dI) (tysA cI cZ cJ cL) (va_A [] sz) ([]) t) (va_A [] sz)) (vx_X (fun u : String × Unit => px u.1 u.2) (fun E u t => E = u.1 ∧ qB (dC, dI) (tysA cI cZ cJ cL) (va_A [] sz) ([]) t) (va_A [] sz)) 1 6 (va_A [] sz) := by
  refine vx_ofW (cc := cX3_checkOrder) (maxL := 1) (ret := none) (by decide) rfl ?_
  intro p e s m args below meth c s₁ Bd hml hno hv
  obtain ⟨hargs, hsz, hP, hK, hD0, hZ⟩ := hv
  have hx := Bd.exec
  have hb := Bd.bytes
  have hr := Bd.returns
  have hts := atoms_spec (ws := wsX3_checkOrder) Bd.pre
  have hT : ∀ w ∈ WALL, w.before args s = true := fun w h => hts w (List.mem_cons_of_mem _ h)
  have hown : s.vm.findClass RX3 = some m.cls := findClass_of_methodNamed Bd.named
  have hlocks := Bd.notSynchronized
  subst hsz
  have hD := hD0.self (sz := s.heap.size)
  generalize hAe : va_A [] s.heap.size = A at hD ⊢
  have hA : ∀ q : Nat, s.heap.size ≤ q → A q := fun q h => by rw [← hAe]; exact Or.inr h
  have hS : va_S A s.heap s.heap [] := va_S.rf
  rw [hAe] at hZ
  have hP : va_P (dC, dI) vwCl [] s.heap := hP
  have hl := lv_entry ([.int x0]) (n := 1) (Nat.le_of_ble_eq_true rfl)
  rw [show entryFrame m args 1 = F0 m 0 _ [] from by rw [hargs]; exact lg_entry_eq m ([.int x0]) 1]
  generalize (lg_sl ([.int x0]) ++ List.replicate (1 - (lg_sl ([.int x0])).length) Slot.unset).toArray = ls at hl ⊢
  have hl : lv_has ls 1 [(0, .int x0)] := hl
  obtain ⟨H, hH⟩ : ∃ z : Heap, z = s.heap := ⟨_, rfl⟩
  obtain ⟨locs, hlocs⟩ : ∃ z : List Loc, z = [] := ⟨_, rfl⟩
  rw [show W p l e (headSpec wsX3_checkOrder rm_X3_checkOrder).room s m args below meth c s.heap [] 0 0 = W p l e (headSpec wsX3_checkOrder rm_X3_checkOrder).room s m args below meth c H locs 0 0 from by rw [hH, hlocs]]
  have hP : va_P (dC, dI) vwCl [] H := by rw [hH]; exact hP
  have hS : va_S A s.heap H locs := by rw [hH, hlocs]; exact hS
  unfold wp_X3_checkOrder at hw
  refine lv_iload_n hx hb dX3_checkOrder_0 rfl (lv_at hl 0 rfl) ?_
  refine lv_if_lt (tgt := 9) hx hb dX3_checkOrder_1 (by decide) (fun c_1 => ?_) (fun c_1 => ?_)
  · have hw := hw.1 c_1
    exact vx_throwS (own := RX3) (cls := "java/lang/IllegalArgumentException") (names := exNames) hx hb hl9 hown (by decide +kernel) (by decide +kernel) (hT _ k_11) (hT _ k_12) (hZ.2.2.2 _ (List.mem_of_getElem? (i := 8) rfl)) (hat_63 hT hZ.2.2.1) hgd_63 hZ.1 hZ.2.1 hS (hl.1.trans hml.symm) dX3_checkOrder_9 dX3_checkOrder_12 dX3_checkOrder_13 dX3_checkOrder_15 dX3_checkOrder_18 (fun x h => (hno x h).elim) (Nat.le_of_ble_eq_true rfl) (Nat.le_of_ble_eq_true rfl) (Nat.le_of_ble_eq_true rfl) (Nat.le_of_ble_eq_true rfl) hlocks (fun t ha hsz hk => ⟨("java/lang/IllegalArgumentException", ()), hw, ⟨rfl, hP.kept (fun k q hq => hk q.1 (hP k q hq).lt), va_K.moved ha hK, hD⟩, Nat.le_trans hS.1 hsz, fun q h1 h2 => (hk q (Nat.lt_of_lt_of_le h1 hS.1)).trans (hS.2.1 q h1 h2)⟩) hS.2.2 (Nat.le_of_ble_eq_true rfl) (Nat.le_of_ble_eq_true rfl)
  · have hw := hw.2 c_1
    refine lv_iload_n hx hb dX3_checkOrder_4 rfl (lv_at hl 0 rfl) ?_
    refine lv_iconst (v := 3) hx hb dX3_checkOrder_5 (by decide) ?_
    refine lv_icmp_lt (tgt := 19) hx hb dX3_checkOrder_6 (by decide) (fun c_2 => ?_) (fun c_2 => ?_)
    · have hw := hw.1 c_2
      refine W.widen (k := 1) (n := 6) (Nat.le_of_ble_eq_true rfl) (Nat.le_of_ble_eq_true rfl) ?_
      exact vx_ret (W.vret hx hb hr (fun t ht hW => ⟨⟨(), rfl, hw, by rw [ht]; exact hP, va_K.moved hW.alike hK, hD⟩, hS.F ht⟩) hS.2.2 dX3_checkOrder_19)
    · have hw := hw.2 c_2
      exact vx_throwS (own := RX3) (cls := "java/lang/IllegalArgumentException") (names := exNames) hx hb hl9 hown (by decide +kernel) (by decide +kernel) (hT _ k_11) (hT _ k_12) (hZ.2.2.2 _ (List.mem_of_getElem? (i := 8) rfl)) (hat_63 hT hZ.2.2.1) hgd_63 hZ.1 hZ.2.1 hS (hl.1.trans hml.symm) dX3_checkOrder_9 dX3_checkOrder_12 dX3_checkOrder_13 dX3_checkOrder_15 dX3_checkOrder_18 (fun x h => (hno x h).elim) (Nat.le_of_ble_eq_true rfl) (Nat.le_of_ble_eq_true rfl) (Nat.le_of_ble_eq_true rfl) (Nat.le_of_ble_eq_true rfl) hlocks (fun t ha hsz hk => ⟨("java/lang/IllegalArgumentException", ()), hw, ⟨rfl, hP.kept (fun k q hq => hk q.1 (hP k q hq).lt), va_K.moved ha hK, hD⟩, Nat.le_trans hS.1 hsz, fun q h1 h2 => (hk q (Nat.lt_of_lt_of_le h1 hS.1)).trans (hS.2.1 q h1 h2)⟩) hS.2.2 (Nat.le_of_ble_eq_true rfl) (Nat.le_of_ble_eq_true rfl)
def wp_X3_checkNothingTold (post : vTT → Prop) (px : String → vTT → Prop) (nl : Nat) (nn : Nat) (S : vSH) (T : vTT)  : Prop := ((T.2.2.2.1.2.2 ≤ 0 → (post T)) ∧ (¬ T.2.2.2.1.2.2 ≤ 0 → (px "java/lang/IllegalStateException" T)))
abbrev rm_X3_checkNothingTold : Room := { frames := 6, cells := 1, slots := 6, locals := 82 }
set_option maxHeartbeats 4000000 in
set_option maxRecDepth 100000 in
theorem met_X3_checkNothingTold (l : Launch) (hl9 : l.stackTraces = false) (dC : Nat → ClassId) (dI : Nat → Nat → Nat) (cI cZ cJ cL : ClassId) (sa : Nat → Nat) (ad ra : Nat → Nat) (sz : Nat) (post : vTT → Prop) (px : String → vTT → Prop) (nl : Nat) (nn : Nat) (S : vSH) (T : vTT)  (hw : wp_X3_checkNothingTold post px nl nn S T ) : vx_Met l yX3_checkNothingTold wsX3_checkNothingTold rm_X3_checkNothingTold (pcX (dC, dI) (tysA cI cZ cJ cL) sa (wTT cI cZ cJ nl nn ad ra S T) sz [.ref (ad 0)]) (va_Qv post (fun u t => qB (dC, dI) (tysA cI cZ cJ cL) (va_A (wTT cI cZ cJ nl nn ad ra S T) sz) (wTT cI cZ cJ nl nn ad ra S u) t) (va_A (wTT cI cZ cJ nl nn ad ra S T) sz)) (vx_X (fun u : String × vTT => px u.1 u.2) (fun E u t => E = u.1 ∧ qB (dC, dI) (tysA cI cZ cJ cL) (va_A (wTT cI cZ cJ nl nn ad ra S T) sz) (wTT cI cZ cJ nl nn ad ra S u.2) t) (va_A (wTT cI cZ cJ nl nn ad ra S T) sz)) 1 6 (va_A (wTT cI cZ cJ nl nn ad ra S T) sz) := by
  refine vx_ofW (cc := cX3_checkNothingTold) (maxL := 1) (ret := none) (by decide) rfl ?_
  intro p e s m args below meth c s₁ Bd hml hno hv
  obtain ⟨hargs, hsz, hP, hK, hD0, hZ⟩ := hv
  have hx := Bd.exec
  have hb := Bd.bytes
  have hr := Bd.returns
  have hts := atoms_spec (ws := wsX3_checkNothingTold) Bd.pre
  have hT : ∀ w ∈ WALL, w.before args s = true := fun w h => hts w (List.mem_cons_of_mem _ h)
  have hown : s.vm.findClass RX3 = some m.cls := findClass_of_methodNamed Bd.named
  have hlocks := Bd.notSynchronized
  subst hsz
  have hD := hD0.self (sz := s.heap.size)
  generalize hAe : va_A (wTT cI cZ cJ nl nn ad ra S T) s.heap.size = A at hD ⊢
  have hA : ∀ q : Nat, s.heap.size ≤ q → A q := fun q h => by rw [← hAe]; exact Or.inr h
  have hS : va_S A s.heap s.heap [] := va_S.rf
  rw [hAe] at hZ
  have hP : va_P (dC, dI) vwCl (wTT cI cZ cJ nl nn ad ra S T) s.heap := hP
  have hl := lv_entry ([.ref (ad 0)]) (n := 1) (Nat.le_of_ble_eq_true rfl)
  rw [show entryFrame m args 1 = F0 m 0 _ [] from by rw [hargs]; exact lg_entry_eq m ([.ref (ad 0)]) 1]
  generalize (lg_sl ([.ref (ad 0)]) ++ List.replicate (1 - (lg_sl ([.ref (ad 0)])).length) Slot.unset).toArray = ls at hl ⊢
  have hl : lv_has ls 1 [(0, .ref (ad 0))] := hl
  obtain ⟨H, hH⟩ : ∃ z : Heap, z = s.heap := ⟨_, rfl⟩
  obtain ⟨locs, hlocs⟩ : ∃ z : List Loc, z = [] := ⟨_, rfl⟩
  rw [show W p l e (headSpec wsX3_checkNothingTold rm_X3_checkNothingTold).room s m args below meth c s.heap [] 0 0 = W p l e (headSpec wsX3_checkNothingTold rm_X3_checkNothingTold).room s m args below meth c H locs 0 0 from by rw [hH, hlocs]]
  have hP : va_P (dC, dI) vwCl (wTT cI cZ cJ nl nn ad ra S T) H := by rw [hH]; exact hP
  have hS : va_S A s.heap H locs := by rw [hH, hlocs]; exact hS
  unfold wp_X3_checkNothingTold at hw
  refine lv_aload_n hx hb dX3_checkNothingTold_0 rfl (lv_at hl 0 rfl) ?_
  refine va_get (D := (dC, dI)) (ci := 3) (v := .ref (ad 16)) (C := RX3) (T := TX3) (N := 7) hx hb hT inX3 hown hK hP 0 rfl rfl 4 (by decide) (hT _ k_5) (fun _ h9 => h9) rfl dX3_checkNothingTold_1 ?_
  refine va_get (D := (dC, dI)) (ci := 0) (v := .int T.2.2.2.1.2.2) (C := RX0) (T := TX0) (N := 3) hx hb hT inX0 hown hK hP 16 rfl rfl 2 (by decide) (hT _ k_6) (fun _ h9 => h9) rfl dX3_checkNothingTold_4 ?_
  refine lv_if_le (tgt := 20) hx hb dX3_checkNothingTold_7 (by decide) (fun c_1 => ?_) (fun c_1 => ?_)
  · have hw := hw.1 c_1
    refine W.widen (k := 1) (n := 6) (Nat.le_of_ble_eq_true rfl) (Nat.le_of_ble_eq_true rfl) ?_
    exact vx_ret (W.vret hx hb hr (fun t ht hW => ⟨⟨T, rfl, hw, by rw [ht]; exact hP, va_K.moved hW.alike hK, hD⟩, hS.F ht⟩) hS.2.2 dX3_checkNothingTold_20)
  · have hw := hw.2 c_1
    exact vx_throwS (own := RX3) (cls := "java/lang/IllegalStateException") (names := exNames) hx hb hl9 hown (by decide +kernel) (by decide +kernel) (hT _ k_13) (hT _ k_14) (hZ.2.2.2 _ (List.mem_of_getElem? (i := 9) rfl)) (hat_176 hT hZ.2.2.1) hgd_176 hZ.1 hZ.2.1 hS (hl.1.trans hml.symm) dX3_checkNothingTold_10 dX3_checkNothingTold_13 dX3_checkNothingTold_14 dX3_checkNothingTold_16 dX3_checkNothingTold_19 (fun x h => (hno x h).elim) (Nat.le_of_ble_eq_true rfl) (Nat.le_of_ble_eq_true rfl) (Nat.le_of_ble_eq_true rfl) (Nat.le_of_ble_eq_true rfl) hlocks (fun t ha hsz hk => ⟨("java/lang/IllegalStateException", T), hw, ⟨rfl, hP.kept (fun k q hq => hk q.1 (hP k q hq).lt), va_K.moved ha hK, hD⟩, Nat.le_trans hS.1 hsz, fun q h1 h2 => (hk q (Nat.lt_of_lt_of_le h1 hS.1)).trans (hS.2.1 q h1 h2)⟩) hS.2.2 (Nat.le_of_ble_eq_true rfl) (Nat.le_of_ble_eq_true rfl)
def wp_X3_checkRoom (post : vBR → Prop) (px : String → vBR → Prop)  (B : vBR) (x1 : Int32) : Prop := ((x1 ≤ (40000 - B.2.2) → (post B)) ∧ (¬ x1 ≤ (40000 - B.2.2) → (px "java/lang/UnsupportedOperationException" B)))
abbrev rm_X3_checkRoom : Room := { frames := 6, cells := 1, slots := 6, locals := 82 }
set_option maxHeartbeats 4000000 in
set_option maxRecDepth 100000 in
theorem met_X3_checkRoom (l : Launch) (hl9 : l.stackTraces = false) (dC : Nat → ClassId) (dI : Nat → Nat → Nat) (cI cZ cJ cL : ClassId) (sa : Nat → Nat) (a0 a1 : Nat) (sz : Nat) (post : vBR → Prop) (px : String → vBR → Prop)  (B : vBR) (x1 : Int32) (hw : wp_X3_checkRoom post px  B x1) : vx_Met l yX3_checkRoom wsX3_checkRoom rm_X3_checkRoom (pcX (dC, dI) (tysA cI cZ cJ cL) sa (wBR cI a0 a1 B) sz [.ref a0, .int x1]) (va_Qv post (fun u t => qB (dC, dI) (tysA cI cZ cJ cL) (va_A (wBR cI a0 a1 B) sz) (wBR cI a0 a1 u) t) (va_A (wBR cI a0 a1 B) sz)) (vx_X (fun u : String × vBR => px u.1 u.2) (fun E u t => E = u.1 ∧ qB (dC, dI) (tysA cI cZ cJ cL) (va_A (wBR cI a0 a1 B) sz) (wBR cI a0 a1 u.2) t) (va_A (wBR cI a0 a1 B) sz)) 1 6 (va_A (wBR cI a0 a1 B) sz) := by
  refine vx_ofW (cc := cX3_checkRoom) (maxL := 2) (ret := none) (by decide) rfl ?_
  intro p e s m args below meth c s₁ Bd hml hno hv
  obtain ⟨hargs, hsz, hP, hK, hD0, hZ⟩ := hv
  have hx := Bd.exec
  have hb := Bd.bytes
  have hr := Bd.returns
  have hts := atoms_spec (ws := wsX3_checkRoom) Bd.pre
  have hT : ∀ w ∈ WALL, w.before args s = true := fun w h => hts w (List.mem_cons_of_mem _ h)
  have hown : s.vm.findClass RX3 = some m.cls := findClass_of_methodNamed Bd.named
  have hlocks := Bd.notSynchronized
  subst hsz
  have hD := hD0.self (sz := s.heap.size)
  generalize hAe : va_A (wBR cI a0 a1 B) s.heap.size = A at hD ⊢
  have hA : ∀ q : Nat, s.heap.size ≤ q → A q := fun q h => by rw [← hAe]; exact Or.inr h
  have hS : va_S A s.heap s.heap [] := va_S.rf
  rw [hAe] at hZ
  have hP : va_P (dC, dI) vwCl (wBR cI a0 a1 B) s.heap := hP
  have hl := lv_entry ([.ref a0, .int x1]) (n := 2) (Nat.le_of_ble_eq_true rfl)
  rw [show entryFrame m args 2 = F0 m 0 _ [] from by rw [hargs]; exact lg_entry_eq m ([.ref a0, .int x1]) 2]
  generalize (lg_sl ([.ref a0, .int x1]) ++ List.replicate (2 - (lg_sl ([.ref a0, .int x1])).length) Slot.unset).toArray = ls at hl ⊢
  have hl : lv_has ls 2 [(0, .ref a0), (1, .int x1)] := hl
  obtain ⟨H, hH⟩ : ∃ z : Heap, z = s.heap := ⟨_, rfl⟩
  obtain ⟨locs, hlocs⟩ : ∃ z : List Loc, z = [] := ⟨_, rfl⟩
  rw [show W p l e (headSpec wsX3_checkRoom rm_X3_checkRoom).room s m args below meth c s.heap [] 0 0 = W p l e (headSpec wsX3_checkRoom rm_X3_checkRoom).room s m args below meth c H locs 0 0 from by rw [hH, hlocs]]
  have hP : va_P (dC, dI) vwCl (wBR cI a0 a1 B) H := by rw [hH]; exact hP
  have hS : va_S A s.heap H locs := by rw [hH, hlocs]; exact hS
  unfold wp_X3_checkRoom at hw
  refine lv_iload_n hx hb dX3_checkRoom_0 rfl (lv_at hl 1 rfl) ?_
  refine lv_ldc hx hb hown (hT _ k_15) dX3_checkRoom_1 ?_
  refine lv_aload_n hx hb dX3_checkRoom_3 rfl (lv_at hl 0 rfl) ?_
  refine va_get (D := (dC, dI)) (ci := 0) (v := .int B.2.2) (C := RX0) (T := TX0) (N := 3) hx hb hT inX0 hown hK hP 0 rfl rfl 2 (by decide) (hT _ k_6) (fun _ h9 => h9) rfl dX3_checkRoom_4 ?_
  refine lv_isub hx hb dX3_checkRoom_7 ?_
  refine lv_icmp_le (tgt := 21) hx hb dX3_checkRoom_8 (by decide) (fun c_1 => ?_) (fun c_1 => ?_)
  · have hw := hw.1 c_1
    refine W.widen (k := 1) (n := 6) (Nat.le_of_ble_eq_true rfl) (Nat.le_of_ble_eq_true rfl) ?_
    exact vx_ret (W.vret hx hb hr (fun t ht hW => ⟨⟨B, rfl, hw, by rw [ht]; exact hP, va_K.moved hW.alike hK, hD⟩, hS.F ht⟩) hS.2.2 dX3_checkRoom_21)
  · have hw := hw.2 c_1
    exact vx_throwS (own := RX3) (cls := "java/lang/UnsupportedOperationException") (names := exNames) hx hb hl9 hown (by decide +kernel) (by decide +kernel) (hT _ k_16) (hT _ k_17) (hZ.2.2.2 _ (List.mem_of_getElem? (i := 10) rfl)) (hat_182 hT hZ.2.2.1) hgd_182 hZ.1 hZ.2.1 hS (hl.1.trans hml.symm) dX3_checkRoom_11 dX3_checkRoom_14 dX3_checkRoom_15 dX3_checkRoom_17 dX3_checkRoom_20 (fun x h => (hno x h).elim) (Nat.le_of_ble_eq_true rfl) (Nat.le_of_ble_eq_true rfl) (Nat.le_of_ble_eq_true rfl) (Nat.le_of_ble_eq_true rfl) hlocks (fun t ha hsz hk => ⟨("java/lang/UnsupportedOperationException", B), hw, ⟨rfl, hP.kept (fun k q hq => hk q.1 (hP k q hq).lt), va_K.moved ha hK, hD⟩, Nat.le_trans hS.1 hsz, fun q h1 h2 => (hk q (Nat.lt_of_lt_of_le h1 hS.1)).trans (hS.2.1 q h1 h2)⟩) hS.2.2 (Nat.le_of_ble_eq_true rfl) (Nat.le_of_ble_eq_true rfl)
def wp_X3_leaf (post : Int32 → vTT → Prop) (px : String → vTT → Prop) (nl : Nat) (nn : Nat) (S : vSH) (T : vTT) (x1 : Int32) (x2 : Int32) : Prop := wp_X3_checkOrder (fun N_1 => ((x2 < 0 → (px "java/lang/IndexOutOfBoundsException" T)) ∧ (¬ x2 < 0 → (((x2 < S.1.2.2.1 → (wp_X1_leafX (fun r_4 => wp_X1_leafY (fun r_5 => wp_X1_nodeAt (fun r_6 => post r_6 T) nl S  0 r_4 r_5) nl S  x1 x2) nl S  x1 x2)) ∧ (¬ x2 < S.1.2.2.1 → (px "java/lang/IndexOutOfBoundsException" T))))))) (fun E N_1 => px E T)   x1
abbrev rm_X3_leaf : Room := { frames := 7, cells := 2, slots := 12, locals := 102 }
set_option maxHeartbeats 4000000 in
set_option maxRecDepth 100000 in
theorem met_X3_leaf (l : Launch) (hl9 : l.stackTraces = false) (dC : Nat → ClassId) (dI : Nat → Nat → Nat) (cI cZ cJ cL : ClassId) (sa : Nat → Nat) (ad ra : Nat → Nat) (sz : Nat) (post : Int32 → vTT → Prop) (px : String → vTT → Prop) (nl : Nat) (nn : Nat) (S : vSH) (T : vTT) (x1 : Int32) (x2 : Int32) (hw : wp_X3_leaf post px nl nn S T x1 x2) : vx_Met l yX3_leaf wsX3_leaf rm_X3_leaf (pcX (dC, dI) (tysA cI cZ cJ cL) sa (wTT cI cZ cJ nl nn ad ra S T) sz [.ref (ad 0), .int x1, .int x2]) (va_Qi post (fun u t => qB (dC, dI) (tysA cI cZ cJ cL) (va_A (wTT cI cZ cJ nl nn ad ra S T) sz) (wTT cI cZ cJ nl nn ad ra S u) t) (va_A (wTT cI cZ cJ nl nn ad ra S T) sz)) (vx_X (fun u : String × vTT => px u.1 u.2) (fun E u t => E = u.1 ∧ qB (dC, dI) (tysA cI cZ cJ cL) (va_A (wTT cI cZ cJ nl nn ad ra S T) sz) (wTT cI cZ cJ nl nn ad ra S u.2) t) (va_A (wTT cI cZ cJ nl nn ad ra S T) sz)) 2 12 (va_A (wTT cI cZ cJ nl nn ad ra S T) sz) := by
  refine vx_ofW (cc := cX3_leaf) (maxL := 3) (ret := (some .int)) (by decide) rfl ?_
  intro p e s m args below meth c s₁ Bd hml hno hv
  obtain ⟨hargs, hsz, hP, hK, hD0, hZ⟩ := hv
  have hx := Bd.exec
  have hb := Bd.bytes
  have hr := Bd.returns
  have hts := atoms_spec (ws := wsX3_leaf) Bd.pre
  have hT : ∀ w ∈ WALL, w.before args s = true := fun w h => hts w (List.mem_cons_of_mem _ h)
  have hown : s.vm.findClass RX3 = some m.cls := findClass_of_methodNamed Bd.named
  have hlocks := Bd.notSynchronized
  subst hsz
  have hD := hD0.self (sz := s.heap.size)
  generalize hAe : va_A (wTT cI cZ cJ nl nn ad ra S T) s.heap.size = A at hD ⊢
  have hA : ∀ q : Nat, s.heap.size ≤ q → A q := fun q h => by rw [← hAe]; exact Or.inr h
  have hS : va_S A s.heap s.heap [] := va_S.rf
  rw [hAe] at hZ
  have hP : va_P (dC, dI) vwCl (wTT cI cZ cJ nl nn ad ra S T) s.heap := hP
  have hl := lv_entry ([.ref (ad 0), .int x1, .int x2]) (n := 3) (Nat.le_of_ble_eq_true rfl)
  rw [show entryFrame m args 3 = F0 m 0 _ [] from by rw [hargs]; exact lg_entry_eq m ([.ref (ad 0), .int x1, .int x2]) 3]
  generalize (lg_sl ([.ref (ad 0), .int x1, .int x2]) ++ List.replicate (3 - (lg_sl ([.ref (ad 0), .int x1, .int x2])).length) Slot.unset).toArray = ls at hl ⊢
  have hl : lv_has ls 3 [(0, .ref (ad 0)), (1, .int x1), (2, .int x2)] := hl
  obtain ⟨H, hH⟩ : ∃ z : Heap, z = s.heap := ⟨_, rfl⟩
  obtain ⟨locs, hlocs⟩ : ∃ z : List Loc, z = [] := ⟨_, rfl⟩
  rw [show W p l e (headSpec wsX3_leaf rm_X3_leaf).room s m args below meth c s.heap [] 0 0 = W p l e (headSpec wsX3_leaf rm_X3_leaf).room s m args below meth c H locs 0 0 from by rw [hH, hlocs]]
  have hP : va_P (dC, dI) vwCl (wTT cI cZ cJ nl nn ad ra S T) H := by rw [hH]; exact hP
  have hS : va_S A s.heap H locs := by rw [hH, hlocs]; exact hS
  unfold wp_X3_leaf at hw
  refine lv_iload_n hx hb dX3_leaf_0 rfl (lv_at hl 1 rfl) ?_
  have hPc : va_P (dC, dI) vwCl [] H := hP.sub (ws' := []) [] rfl
  have hDc : va_D A [] := hD.sub (ws' := []) [] (by decide) rfl
  have hFc := va_free (wc := []) hD hS hA [] rfl
  refine vx_callv (vx_runS (As := [.int x1]) (rest := []) ⟨hx, hb, hml, hown, hT⟩ (met_X3_checkOrder l hl9 dC dI cI cZ cJ cL sa  H.size _ _   x1 hw) (va_cwS 1 hT (gS k_48 k_50 k_51 k_49) rfl rfl rfl (by decide +kernel) ⟨(Nat.le_of_ble_eq_true rfl), (Nat.le_of_ble_eq_true rfl)⟩) ⟨bl_X, fun U hU hW => ⟨rfl, by rw [hU], by rw [hU]; exact hPc, va_K.moved hW.alike hK, hDc.weaken (fun _ _ _ _ => trivial), hZ.call hW hU hS hFc⟩⟩ rfl rfl hl.1 rfl (lv_room (Nat.le_of_ble_eq_true rfl)) dX3_leaf_1 ⟨Nat.le_of_ble_eq_true rfl, Nat.le_of_ble_eq_true rfl⟩) hS (fun q _ h => hFc q h) hFc (fun q _ h => hFc q h) (fun E ce q9 u9 t H1 locs ht hvm hw hB hz1 hk1 hS hce hcv hcl => ?_) (fun N_1 t H1 locs ht hvm hw hB hz1 hk1 hS => ?_)
  · obtain ⟨E9, N_1⟩ := u9
    obtain ⟨rfl, hP1, -, hD1⟩ := hB
    try dsimp only at hw
    rw [ht] at hP1
    obtain ⟨hP, hD⟩ := va_join (wr := [(ad 0, .inr (3, [.ref (ad 1), .ref (ad 9), .ref (ad 10), .ref (ad 13), .ref (ad 16), .ref (ad 18), .int T.2.2.2.2.2])), (ad 1, .inr (1, [.int S.1.1, .int S.1.2.1, .int S.1.2.2.1, .int S.1.2.2.2.1, .int S.1.2.2.2.2, .ref (ad 2), .ref (ad 3), .ref (ad 4), .ref (ad 5)])), (ad 2, .inl (cI, 6, .inl S.2.1.1)), (ad 3, .inl (cI, 6, .inl S.2.1.2.1)), (ad 4, .inl (cI, 6, .inl S.2.1.2.2)), (ad 5, .inl (cJ, 3, .inr (.inr (.inr (.inr (fun i => if i < 3 then some (ra i) else none)))))), (ra 0, .inl (cI, nl, .inl (S.2.2 0))), (ra 1, .inl (cI, nl, .inl (S.2.2 1))), (ra 2, .inl (cI, nl, .inl (S.2.2 2))), (ad 9, .inl (cI, nn, .inl T.1)), (ad 10, .inr (2, [.ref (ad 11), .ref (ad 12), .int T.2.1.2.2])), (ad 11, .inl (cI, nn, .inl T.2.1.1)), (ad 12, .inl (cZ, nn, .inl T.2.1.2.1)), (ad 13, .inr (2, [.ref (ad 14), .ref (ad 15), .int T.2.2.1.2.2])), (ad 14, .inl (cI, nn, .inl T.2.2.1.1)), (ad 15, .inl (cZ, nn, .inl T.2.2.1.2.1)), (ad 16, .inr (0, [.ref (ad 17), .int T.2.2.2.1.2.1, .int T.2.2.2.1.2.2])), (ad 17, .inl (cI, 1250, .inl T.2.2.2.1.1)), (ad 18, .inr (0, [.ref (ad 19), .int T.2.2.2.2.1.2.1, .int T.2.2.2.2.1.2.2])), (ad 19, .inl (cI, 1250, .inl T.2.2.2.2.1.1))]) (w1 := []) hP hD [] [0, 1, 2, 3, 4, 5, 6, 7, 8, 9, 10, 11, 12, 13, 14, 15, 16, 17, 18, 19] rfl rfl (by decide) (by decide) hk1 hFc hP1 hD1
    generalize H1 = H at hP hS hce ⊢
    have hP := hP.sub (ws' := wTT cI cZ cJ nl nn ad ra S T) [0, 1, 2, 3, 4, 5, 6, 7, 8, 9, 10, 11, 12, 13, 14, 15, 16, 17, 18, 19] rfl
    have hD := hD.sub (ws' := wTT cI cZ cJ nl nn ad ra S T) [0, 1, 2, 3, 4, 5, 6, 7, 8, 9, 10, 11, 12, 13, 14, 15, 16, 17, 18, 19] (by decide) rfl
    exact vx_out (fun x h => (hno x h).elim) hlocks hce hcv hcl (fun t ht ha => ⟨(E, T), hw, ⟨rfl, by rw [ht]; exact hP, va_K.moved ha hK, hD⟩, hS.F ht⟩) hS.2.2 (Nat.le_of_ble_eq_true rfl) (Nat.le_of_ble_eq_true rfl)
  · obtain ⟨hP1, -, hD1⟩ := hB
    try dsimp only at hw
    rw [ht] at hP1
    obtain ⟨hP, hD⟩ := va_join (wr := [(ad 0, .inr (3, [.ref (ad 1), .ref (ad 9), .ref (ad 10), .ref (ad 13), .ref (ad 16), .ref (ad 18), .int T.2.2.2.2.2])), (ad 1, .inr (1, [.int S.1.1, .int S.1.2.1, .int S.1.2.2.1, .int S.1.2.2.2.1, .int S.1.2.2.2.2, .ref (ad 2), .ref (ad 3), .ref (ad 4), .ref (ad 5)])), (ad 2, .inl (cI, 6, .inl S.2.1.1)), (ad 3, .inl (cI, 6, .inl S.2.1.2.1)), (ad 4, .inl (cI, 6, .inl S.2.1.2.2)), (ad 5, .inl (cJ, 3, .inr (.inr (.inr (.inr (fun i => if i < 3 then some (ra i) else none)))))), (ra 0, .inl (cI, nl, .inl (S.2.2 0))), (ra 1, .inl (cI, nl, .inl (S.2.2 1))), (ra 2, .inl (cI, nl, .inl (S.2.2 2))), (ad 9, .inl (cI, nn, .inl T.1)), (ad 10, .inr (2, [.ref (ad 11), .ref (ad 12), .int T.2.1.2.2])), (ad 11, .inl (cI, nn, .inl T.2.1.1)), (ad 12, .inl (cZ, nn, .inl T.2.1.2.1)), (ad 13, .inr (2, [.ref (ad 14), .ref (ad 15), .int T.2.2.1.2.2])), (ad 14, .inl (cI, nn, .inl T.2.2.1.1)), (ad 15, .inl (cZ, nn, .inl T.2.2.1.2.1)), (ad 16, .inr (0, [.ref (ad 17), .int T.2.2.2.1.2.1, .int T.2.2.2.1.2.2])), (ad 17, .inl (cI, 1250, .inl T.2.2.2.1.1)), (ad 18, .inr (0, [.ref (ad 19), .int T.2.2.2.2.1.2.1, .int T.2.2.2.2.1.2.2])), (ad 19, .inl (cI, 1250, .inl T.2.2.2.2.1.1))]) (w1 := []) hP hD [] [0, 1, 2, 3, 4, 5, 6, 7, 8, 9, 10, 11, 12, 13, 14, 15, 16, 17, 18, 19] rfl rfl (by decide) (by decide) hk1 hFc hP1 hD1
    generalize H1 = H at hP hS ⊢
    have hP := hP.sub (ws' := wTT cI cZ cJ nl nn ad ra S T) [0, 1, 2, 3, 4, 5, 6, 7, 8, 9, 10, 11, 12, 13, 14, 15, 16, 17, 18, 19] rfl
    have hD := hD.sub (ws' := wTT cI cZ cJ nl nn ad ra S T) [0, 1, 2, 3, 4, 5, 6, 7, 8, 9, 10, 11, 12, 13, 14, 15, 16, 17, 18, 19] (by decide) rfl
    refine lv_iload_n hx hb dX3_leaf_4 rfl (lv_at hl 2 rfl) ?_
    refine lv_if_lt (tgt := 19) hx hb dX3_leaf_5 (by decide) (fun c_2 => ?_) (fun c_2 => ?_)
    · have hw := hw.1 c_2
      exact vx_throwS (own := RX3) (cls := "java/lang/IndexOutOfBoundsException") (names := exNames) hx hb hl9 hown (by decide +kernel) (by decide +kernel) (hT _ k_52) (hT _ k_53) (hZ.2.2.2 _ (List.mem_of_getElem? (i := 5) rfl)) (hat_123 hT hZ.2.2.1) hgd_123 hZ.1 hZ.2.1 hS (hl.1.trans hml.symm) dX3_leaf_19 dX3_leaf_22 dX3_leaf_23 dX3_leaf_25 dX3_leaf_28 (fun x h => (hno x h).elim) (Nat.le_of_ble_eq_true rfl) (Nat.le_of_ble_eq_true rfl) (Nat.le_of_ble_eq_true rfl) (Nat.le_of_ble_eq_true rfl) hlocks (fun t ha hsz hk => ⟨("java/lang/IndexOutOfBoundsException", T), hw, ⟨rfl, hP.kept (fun k q hq => hk q.1 (hP k q hq).lt), va_K.moved ha hK, hD⟩, Nat.le_trans hS.1 hsz, fun q h1 h2 => (hk q (Nat.lt_of_lt_of_le h1 hS.1)).trans (hS.2.1 q h1 h2)⟩) hS.2.2 (Nat.le_of_ble_eq_true rfl) (Nat.le_of_ble_eq_true rfl)
    · have hw := hw.2 c_2
      refine lv_iload_n hx hb dX3_leaf_8 rfl (lv_at hl 2 rfl) ?_
      refine lv_aload_n hx hb dX3_leaf_9 rfl (lv_at hl 0 rfl) ?_
      refine va_get (D := (dC, dI)) (ci := 3) (v := .ref (ad 1)) (C := RX3) (T := TX3) (N := 7) hx hb hT inX3 hown hK hP 0 rfl rfl 0 (by decide) (hT _ k_0) (fun _ h9 => h9) rfl dX3_leaf_10 ?_
      refine va_get (D := (dC, dI)) (ci := 1) (v := .int S.1.2.2.1) (C := RX1) (T := TX1) (N := 9) hx hb hT inX1 hown hK hP 1 rfl rfl 2 (by decide) (hT _ k_54) (fun _ h9 => h9) rfl dX3_leaf_13 ?_
      refine lv_icmp_lt (tgt := 29) hx hb dX3_leaf_16 (by decide) (fun c_3 => ?_) (fun c_3 => ?_)
      · have hw := hw.1 c_3
        refine lv_aload_n hx hb dX3_leaf_29 rfl (lv_at hl 0 rfl) ?_
        refine va_get (D := (dC, dI)) (ci := 3) (v := .ref (ad 1)) (C := RX3) (T := TX3) (N := 7) hx hb hT inX3 hown hK hP 0 rfl rfl 0 (by decide) (hT _ k_0) (fun _ h9 => h9) rfl dX3_leaf_30 ?_
        refine lv_iconst (v := 0) hx hb dX3_leaf_33 (by decide) ?_
        refine lv_aload_n hx hb dX3_leaf_34 rfl (lv_at hl 0 rfl) ?_
        refine va_get (D := (dC, dI)) (ci := 3) (v := .ref (ad 1)) (C := RX3) (T := TX3) (N := 7) hx hb hT inX3 hown hK hP 0 rfl rfl 0 (by decide) (hT _ k_0) (fun _ h9 => h9) rfl dX3_leaf_35 ?_
        refine lv_iload_n hx hb dX3_leaf_38 rfl (lv_at hl 1 rfl) ?_
        refine lv_iload_n hx hb dX3_leaf_39 rfl (lv_at hl 2 rfl) ?_
        have hPc := hP.sub (ws' := wSH cI cJ nl (ad 1) (ad 2) (ad 3) (ad 4) (ad 5) ra S) [1, 2, 3, 4, 5, 6, 7, 8] rfl
        refine vp_callSi (W.runV (As := [.int x1, .int x2]) (rest := [.int 0, .ref (ad 1)]) ⟨hx, hb, hml, hown, hT⟩ (met_X1_leafX l dC dI cI cZ cJ cL (ad 1) (ad 2) (ad 3) (ad 4) (ad 5) ra _ nl S  x1 x2 hw) (cwV 2 hT (gV k_55 k_57 k_58 k_59 k_56) rfl rfl rfl (by decide +kernel) ⟨(Nat.le_of_ble_eq_true rfl), (Nat.le_of_ble_eq_true rfl)⟩) ⟨bl_R, va_recv hK hPc (ci := 1) (q0 := 0) rfl rfl, fun U hU hW => ⟨rfl, by rw [hU]; exact hPc, va_K.moved hW.alike hK⟩⟩ rfl rfl hl.1 rfl (lv_room (Nat.le_of_ble_eq_true rfl)) dX3_leaf_40 ⟨Nat.le_of_ble_eq_true rfl, Nat.le_of_ble_eq_true rfl⟩) (fun r_4 hw => ?_)
        try dsimp only at hw
        refine lv_aload_n hx hb dX3_leaf_43 rfl (lv_at hl 0 rfl) ?_
        refine va_get (D := (dC, dI)) (ci := 3) (v := .ref (ad 1)) (C := RX3) (T := TX3) (N := 7) hx hb hT inX3 hown hK hP 0 rfl rfl 0 (by decide) (hT _ k_0) (fun _ h9 => h9) rfl dX3_leaf_44 ?_
        refine lv_iload_n hx hb dX3_leaf_47 rfl (lv_at hl 1 rfl) ?_
        refine lv_iload_n hx hb dX3_leaf_48 rfl (lv_at hl 2 rfl) ?_
        have hPc := hP.sub (ws' := wSH cI cJ nl (ad 1) (ad 2) (ad 3) (ad 4) (ad 5) ra S) [1, 2, 3, 4, 5, 6, 7, 8] rfl
        refine vp_callSi (W.runV (As := [.int x1, .int x2]) (rest := [.int r_4, .int 0, .ref (ad 1)]) ⟨hx, hb, hml, hown, hT⟩ (met_X1_leafY l dC dI cI cZ cJ cL (ad 1) (ad 2) (ad 3) (ad 4) (ad 5) ra _ nl S  x1 x2 hw) (cwV 2 hT (gV k_60 k_62 k_63 k_59 k_61) rfl rfl rfl (by decide +kernel) ⟨(Nat.le_of_ble_eq_true rfl), (Nat.le_of_ble_eq_true rfl)⟩) ⟨bl_R, va_recv hK hPc (ci := 1) (q0 := 0) rfl rfl, fun U hU hW => ⟨rfl, by rw [hU]; exact hPc, va_K.moved hW.alike hK⟩⟩ rfl rfl hl.1 rfl (lv_room (Nat.le_of_ble_eq_true rfl)) dX3_leaf_49 ⟨Nat.le_of_ble_eq_true rfl, Nat.le_of_ble_eq_true rfl⟩) (fun r_5 hw => ?_)
        try dsimp only at hw
        have hPc := hP.sub (ws' := wSH cI cJ nl (ad 1) (ad 2) (ad 3) (ad 4) (ad 5) ra S) [1, 2, 3, 4, 5, 6, 7, 8] rfl
        refine vp_callSi (W.runV (As := [.int 0, .int r_4, .int r_5]) (rest := []) ⟨hx, hb, hml, hown, hT⟩ (met_X1_nodeAt l dC dI cI cZ cJ cL (ad 1) (ad 2) (ad 3) (ad 4) (ad 5) ra _ nl S  0 r_4 r_5 hw) (cwV 3 hT (gV k_64 k_66 k_67 k_59 k_65) rfl rfl rfl (by decide +kernel) ⟨(Nat.le_of_ble_eq_true rfl), (Nat.le_of_ble_eq_true rfl)⟩) ⟨bl_R, va_recv hK hPc (ci := 1) (q0 := 0) rfl rfl, fun U hU hW => ⟨rfl, by rw [hU]; exact hPc, va_K.moved hW.alike hK⟩⟩ rfl rfl hl.1 rfl (lv_room (Nat.le_of_ble_eq_true rfl)) dX3_leaf_52 ⟨Nat.le_of_ble_eq_true rfl, Nat.le_of_ble_eq_true rfl⟩) (fun r_6 hw => ?_)
        try dsimp only at hw
        refine W.widen (k := 2) (n := 12) (Nat.le_of_ble_eq_true rfl) (Nat.le_of_ble_eq_true rfl) ?_
        exact vx_ret (W.iret (v := r_6) hx hb hr (fun t ht hW => ⟨⟨r_6, T, rfl, hw, by rw [ht]; exact hP, va_K.moved hW.alike hK, hD⟩, hS.F ht⟩) hS.2.2 dX3_leaf_55)
      · have hw := hw.2 c_3
        exact vx_throwS (own := RX3) (cls := "java/lang/IndexOutOfBoundsException") (names := exNames) hx hb hl9 hown (by decide +kernel) (by decide +kernel) (hT _ k_52) (hT _ k_53) (hZ.2.2.2 _ (List.mem_of_getElem? (i := 5) rfl)) (hat_123 hT hZ.2.2.1) hgd_123 hZ.1 hZ.2.1 hS (hl.1.trans hml.symm) dX3_leaf_19 dX3_leaf_22 dX3_leaf_23 dX3_leaf_25 dX3_leaf_28 (fun x h => (hno x h).elim) (Nat.le_of_ble_eq_true rfl) (Nat.le_of_ble_eq_true rfl) (Nat.le_of_ble_eq_true rfl) (Nat.le_of_ble_eq_true rfl) hlocks (fun t ha hsz hk => ⟨("java/lang/IndexOutOfBoundsException", T), hw, ⟨rfl, hP.kept (fun k q hq => hk q.1 (hP k q hq).lt), va_K.moved ha hK, hD⟩, Nat.le_trans hS.1 hsz, fun q h1 h2 => (hk q (Nat.lt_of_lt_of_le h1 hS.1)).trans (hS.2.1 q h1 h2)⟩) hS.2.2 (Nat.le_of_ble_eq_true rfl) (Nat.le_of_ble_eq_true rfl)
def wp_X3_checkNode (post : vTT → Prop) (px : String → vTT → Prop) (nl : Nat) (nn : Nat) (S : vSH) (T : vTT) (x1 : Int32) (x2 : Int32) (x3 : Int32) : Prop := wp_X1_hasNode (fun r_1 => ((r_1 = 0 → (px "java/lang/IndexOutOfBoundsException" T)) ∧ (¬ r_1 = 0 → (post T)))) nl S  x1 x2 x3
abbrev rm_X3_checkNode : Room := { frames := 6, cells := 1, slots := 6, locals := 82 }
set_option maxHeartbeats 4000000 in
set_option maxRecDepth 100000 in
theorem met_X3_checkNode (l : Launch) (hl9 : l.stackTraces = false) (dC : Nat → ClassId) (dI : Nat → Nat → Nat) (cI cZ cJ cL : ClassId) (sa : Nat → Nat) (ad ra : Nat → Nat) (sz : Nat) (post : vTT → Prop) (px : String → vTT → Prop) (nl : Nat) (nn : Nat) (S : vSH) (T : vTT) (x1 : Int32) (x2 : Int32) (x3 : Int32) (hw : wp_X3_checkNode post px nl nn S T x1 x2 x3) : vx_Met l yX3_checkNode wsX3_checkNode rm_X3_checkNode (pcX (dC, dI) (tysA cI cZ cJ cL) sa (wTT cI cZ cJ nl nn ad ra S T) sz [.ref (ad 0), .int x1, .int x2, .int x3]) (va_Qv post (fun u t => qB (dC, dI) (tysA cI cZ cJ cL) (va_A (wTT cI cZ cJ nl nn ad ra S T) sz) (wTT cI cZ cJ nl nn ad ra S u) t) (va_A (wTT cI cZ cJ nl nn ad ra S T) sz)) (vx_X (fun u : String × vTT => px u.1 u.2) (fun E u t => E = u.1 ∧ qB (dC, dI) (tysA cI cZ cJ cL) (va_A (wTT cI cZ cJ nl nn ad ra S T) sz) (wTT cI cZ cJ nl nn ad ra S u.2) t) (va_A (wTT cI cZ cJ nl nn ad ra S T) sz)) 1 6 (va_A (wTT cI cZ cJ nl nn ad ra S T) sz) := by
  refine vx_ofW (cc := cX3_checkNode) (maxL := 4) (ret := none) (by decide) rfl ?_
  intro p e s m args below meth c s₁ Bd hml hno hv
  obtain ⟨hargs, hsz, hP, hK, hD0, hZ⟩ := hv
  have hx := Bd.exec
  have hb := Bd.bytes
  have hr := Bd.returns
  have hts := atoms_spec (ws := wsX3_checkNode) Bd.pre
  have hT : ∀ w ∈ WALL, w.before args s = true := fun w h => hts w (List.mem_cons_of_mem _ h)
  have hown : s.vm.findClass RX3 = some m.cls := findClass_of_methodNamed Bd.named
  have hlocks := Bd.notSynchronized
  subst hsz
  have hD := hD0.self (sz := s.heap.size)
  generalize hAe : va_A (wTT cI cZ cJ nl nn ad ra S T) s.heap.size = A at hD ⊢
  have hA : ∀ q : Nat, s.heap.size ≤ q → A q := fun q h => by rw [← hAe]; exact Or.inr h
  have hS : va_S A s.heap s.heap [] := va_S.rf
  rw [hAe] at hZ
  have hP : va_P (dC, dI) vwCl (wTT cI cZ cJ nl nn ad ra S T) s.heap := hP
  have hl := lv_entry ([.ref (ad 0), .int x1, .int x2, .int x3]) (n := 4) (Nat.le_of_ble_eq_true rfl)
  rw [show entryFrame m args 4 = F0 m 0 _ [] from by rw [hargs]; exact lg_entry_eq m ([.ref (ad 0), .int x1, .int x2, .int x3]) 4]
  generalize (lg_sl ([.ref (ad 0), .int x1, .int x2, .int x3]) ++ List.replicate (4 - (lg_sl ([.ref (ad 0), .int x1, .int x2, .int x3])).length) Slot.unset).toArray = ls at hl ⊢
  have hl : lv_has ls 4 [(0, .ref (ad 0)), (1, .int x1), (2, .int x2), (3, .int x3)] := hl
  obtain ⟨H, hH⟩ : ∃ z : Heap, z = s.heap := ⟨_, rfl⟩
  obtain ⟨locs, hlocs⟩ : ∃ z : List Loc, z = [] := ⟨_, rfl⟩
  rw [show W p l e (headSpec wsX3_checkNode rm_X3_checkNode).room s m args below meth c s.heap [] 0 0 = W p l e (headSpec wsX3_checkNode rm_X3_checkNode).room s m args below meth c H locs 0 0 from by rw [hH, hlocs]]
  have hP : va_P (dC, dI) vwCl (wTT cI cZ cJ nl nn ad ra S T) H := by rw [hH]; exact hP
  have hS : va_S A s.heap H locs := by rw [hH, hlocs]; exact hS
  unfold wp_X3_checkNode at hw
  refine lv_aload_n hx hb dX3_checkNode_0 rfl (lv_at hl 0 rfl) ?_
  refine va_get (D := (dC, dI)) (ci := 3) (v := .ref (ad 1)) (C := RX3) (T := TX3) (N := 7) hx hb hT inX3 hown hK hP 0 rfl rfl 0 (by decide) (hT _ k_0) (fun _ h9 => h9) rfl dX3_checkNode_1 ?_
  refine lv_iload_n hx hb dX3_checkNode_4 rfl (lv_at hl 1 rfl) ?_
  refine lv_iload_n hx hb dX3_checkNode_5 rfl (lv_at hl 2 rfl) ?_
  refine lv_iload_n hx hb dX3_checkNode_6 rfl (lv_at hl 3 rfl) ?_
  have hPc := hP.sub (ws' := wSH cI cJ nl (ad 1) (ad 2) (ad 3) (ad 4) (ad 5) ra S) [1, 2, 3, 4, 5, 6, 7, 8] rfl
  refine vp_callSi (W.runV (As := [.int x1, .int x2, .int x3]) (rest := []) ⟨hx, hb, hml, hown, hT⟩ (met_X1_hasNode l dC dI cI cZ cJ cL (ad 1) (ad 2) (ad 3) (ad 4) (ad 5) ra _ nl S  x1 x2 x3 hw) (cwV 3 hT (gV k_79 k_81 k_82 k_59 k_80) rfl rfl rfl (by decide +kernel) ⟨(Nat.le_of_ble_eq_true rfl), (Nat.le_of_ble_eq_true rfl)⟩) ⟨bl_R, va_recv hK hPc (ci := 1) (q0 := 0) rfl rfl, fun U hU hW => ⟨rfl, by rw [hU]; exact hPc, va_K.moved hW.alike hK⟩⟩ rfl rfl hl.1 rfl (lv_room (Nat.le_of_ble_eq_true rfl)) dX3_checkNode_7 ⟨Nat.le_of_ble_eq_true rfl, Nat.le_of_ble_eq_true rfl⟩) (fun r_1 hw => ?_)
  try dsimp only at hw
  refine lv_if_ne (tgt := 23) hx hb dX3_checkNode_10 (by decide) (fun c_2 => ?_) (fun c_2 => ?_)
  · have hw := hw.2 c_2
    refine W.widen (k := 1) (n := 6) (Nat.le_of_ble_eq_true rfl) (Nat.le_of_ble_eq_true rfl) ?_
    exact vx_ret (W.vret hx hb hr (fun t ht hW => ⟨⟨T, rfl, hw, by rw [ht]; exact hP, va_K.moved hW.alike hK, hD⟩, hS.F ht⟩) hS.2.2 dX3_checkNode_23)
  · have hw := hw.1 c_2
    exact vx_throwS (own := RX3) (cls := "java/lang/IndexOutOfBoundsException") (names := exNames) hx hb hl9 hown (by decide +kernel) (by decide +kernel) (hT _ k_52) (hT _ k_53) (hZ.2.2.2 _ (List.mem_of_getElem? (i := 6) rfl)) (hat_123 hT hZ.2.2.1) hgd_123 hZ.1 hZ.2.1 hS (hl.1.trans hml.symm) dX3_checkNode_13 dX3_checkNode_16 dX3_checkNode_17 dX3_checkNode_19 dX3_checkNode_22 (fun x h => (hno x h).elim) (Nat.le_of_ble_eq_true rfl) (Nat.le_of_ble_eq_true rfl) (Nat.le_of_ble_eq_true rfl) (Nat.le_of_ble_eq_true rfl) hlocks (fun t ha hsz hk => ⟨("java/lang/IndexOutOfBoundsException", T), hw, ⟨rfl, hP.kept (fun k q hq => hk q.1 (hP k q hq).lt), va_K.moved ha hK, hD⟩, Nat.le_trans hS.1 hsz, fun q h1 h2 => (hk q (Nat.lt_of_lt_of_le h1 hS.1)).trans (hS.2.1 q h1 h2)⟩) hS.2.2 (Nat.le_of_ble_eq_true rfl) (Nat.le_of_ble_eq_true rfl)
def wp_X3_bitAt (post : Int32 → vTT → Prop) (px : String → vTT → Prop) (nl : Nat) (nn : Nat) (S : vSH) (T : vTT) (x1 : Int32) : Prop := ((x1 < 0 → (px "java/lang/IndexOutOfBoundsException" T)) ∧ (¬ x1 < 0 → (((x1 < T.2.2.2.1.2.2 → (wp_X0_look (fun r_3 => post r_3 T)  T.2.2.2.1 x1)) ∧ (¬ x1 < T.2.2.2.1.2.2 → (px "java/lang/IndexOutOfBoundsException" T))))))
abbrev rm_X3_bitAt : Room := { frames := 6, cells := 1, slots := 6, locals := 82 }
set_option maxHeartbeats 4000000 in
set_option maxRecDepth 100000 in
theorem met_X3_bitAt (l : Launch) (hl9 : l.stackTraces = false) (dC : Nat → ClassId) (dI : Nat → Nat → Nat) (cI cZ cJ cL : ClassId) (sa : Nat → Nat) (ad ra : Nat → Nat) (sz : Nat) (post : Int32 → vTT → Prop) (px : String → vTT → Prop) (nl : Nat) (nn : Nat) (S : vSH) (T : vTT) (x1 : Int32) (hw : wp_X3_bitAt post px nl nn S T x1) : vx_Met l yX3_bitAt wsX3_bitAt rm_X3_bitAt (pcX (dC, dI) (tysA cI cZ cJ cL) sa (wTT cI cZ cJ nl nn ad ra S T) sz [.ref (ad 0), .int x1]) (va_Qi post (fun u t => qB (dC, dI) (tysA cI cZ cJ cL) (va_A (wTT cI cZ cJ nl nn ad ra S T) sz) (wTT cI cZ cJ nl nn ad ra S u) t) (va_A (wTT cI cZ cJ nl nn ad ra S T) sz)) (vx_X (fun u : String × vTT => px u.1 u.2) (fun E u t => E = u.1 ∧ qB (dC, dI) (tysA cI cZ cJ cL) (va_A (wTT cI cZ cJ nl nn ad ra S T) sz) (wTT cI cZ cJ nl nn ad ra S u.2) t) (va_A (wTT cI cZ cJ nl nn ad ra S T) sz)) 1 6 (va_A (wTT cI cZ cJ nl nn ad ra S T) sz) := by
  refine vx_ofW (cc := cX3_bitAt) (maxL := 2) (ret := (some .int)) (by decide) rfl ?_
  intro p e s m args below meth c s₁ Bd hml hno hv
  obtain ⟨hargs, hsz, hP, hK, hD0, hZ⟩ := hv
  have hx := Bd.exec
  have hb := Bd.bytes
  have hr := Bd.returns
  have hts := atoms_spec (ws := wsX3_bitAt) Bd.pre
  have hT : ∀ w ∈ WALL, w.before args s = true := fun w h => hts w (List.mem_cons_of_mem _ h)
  have hown : s.vm.findClass RX3 = some m.cls := findClass_of_methodNamed Bd.named
  have hlocks := Bd.notSynchronized
  subst hsz
  have hD := hD0.self (sz := s.heap.size)
  generalize hAe : va_A (wTT cI cZ cJ nl nn ad ra S T) s.heap.size = A at hD ⊢
  have hA : ∀ q : Nat, s.heap.size ≤ q → A q := fun q h => by rw [← hAe]; exact Or.inr h
  have hS : va_S A s.heap s.heap [] := va_S.rf
  rw [hAe] at hZ
  have hP : va_P (dC, dI) vwCl (wTT cI cZ cJ nl nn ad ra S T) s.heap := hP
  have hl := lv_entry ([.ref (ad 0), .int x1]) (n := 2) (Nat.le_of_ble_eq_true rfl)
  rw [show entryFrame m args 2 = F0 m 0 _ [] from by rw [hargs]; exact lg_entry_eq m ([.ref (ad 0), .int x1]) 2]
  generalize (lg_sl ([.ref (ad 0), .int x1]) ++ List.replicate (2 - (lg_sl ([.ref (ad 0), .int x1])).length) Slot.unset).toArray = ls at hl ⊢
  have hl : lv_has ls 2 [(0, .ref (ad 0)), (1, .int x1)] := hl
  obtain ⟨H, hH⟩ : ∃ z : Heap, z = s.heap := ⟨_, rfl⟩
  obtain ⟨locs, hlocs⟩ : ∃ z : List Loc, z = [] := ⟨_, rfl⟩
  rw [show W p l e (headSpec wsX3_bitAt rm_X3_bitAt).room s m args below meth c s.heap [] 0 0 = W p l e (headSpec wsX3_bitAt rm_X3_bitAt).room s m args below meth c H locs 0 0 from by rw [hH, hlocs]]
  have hP : va_P (dC, dI) vwCl (wTT cI cZ cJ nl nn ad ra S T) H := by rw [hH]; exact hP
  have hS : va_S A s.heap H locs := by rw [hH, hlocs]; exact hS
  unfold wp_X3_bitAt at hw
  refine lv_iload_n hx hb dX3_bitAt_0 rfl (lv_at hl 1 rfl) ?_
  refine lv_if_lt (tgt := 15) hx hb dX3_bitAt_1 (by decide) (fun c_1 => ?_) (fun c_1 => ?_)
  · have hw := hw.1 c_1
    exact vx_throwS (own := RX3) (cls := "java/lang/IndexOutOfBoundsException") (names := exNames) hx hb hl9 hown (by decide +kernel) (by decide +kernel) (hT _ k_52) (hT _ k_53) (hZ.2.2.2 _ (List.mem_of_getElem? (i := 2) rfl)) (hat_123 hT hZ.2.2.1) hgd_123 hZ.1 hZ.2.1 hS (hl.1.trans hml.symm) dX3_bitAt_15 dX3_bitAt_18 dX3_bitAt_19 dX3_bitAt_21 dX3_bitAt_24 (fun x h => (hno x h).elim) (Nat.le_of_ble_eq_true rfl) (Nat.le_of_ble_eq_true rfl) (Nat.le_of_ble_eq_true rfl) (Nat.le_of_ble_eq_true rfl) hlocks (fun t ha hsz hk => ⟨("java/lang/IndexOutOfBoundsException", T), hw, ⟨rfl, hP.kept (fun k q hq => hk q.1 (hP k q hq).lt), va_K.moved ha hK, hD⟩, Nat.le_trans hS.1 hsz, fun q h1 h2 => (hk q (Nat.lt_of_lt_of_le h1 hS.1)).trans (hS.2.1 q h1 h2)⟩) hS.2.2 (Nat.le_of_ble_eq_true rfl) (Nat.le_of_ble_eq_true rfl)
  · have hw := hw.2 c_1
    refine lv_iload_n hx hb dX3_bitAt_4 rfl (lv_at hl 1 rfl) ?_
    refine lv_aload_n hx hb dX3_bitAt_5 rfl (lv_at hl 0 rfl) ?_
    refine va_get (D := (dC, dI)) (ci := 3) (v := .ref (ad 16)) (C := RX3) (T := TX3) (N := 7) hx hb hT inX3 hown hK hP 0 rfl rfl 4 (by decide) (hT _ k_5) (fun _ h9 => h9) rfl dX3_bitAt_6 ?_
    refine va_get (D := (dC, dI)) (ci := 0) (v := .int T.2.2.2.1.2.2) (C := RX0) (T := TX0) (N := 3) hx hb hT inX0 hown hK hP 16 rfl rfl 2 (by decide) (hT _ k_6) (fun _ h9 => h9) rfl dX3_bitAt_9 ?_
    refine lv_icmp_lt (tgt := 25) hx hb dX3_bitAt_12 (by decide) (fun c_2 => ?_) (fun c_2 => ?_)
    · have hw := hw.1 c_2
      refine lv_aload_n hx hb dX3_bitAt_25 rfl (lv_at hl 0 rfl) ?_
      refine va_get (D := (dC, dI)) (ci := 3) (v := .ref (ad 16)) (C := RX3) (T := TX3) (N := 7) hx hb hT inX3 hown hK hP 0 rfl rfl 4 (by decide) (hT _ k_5) (fun _ h9 => h9) rfl dX3_bitAt_26 ?_
      refine lv_iload_n hx hb dX3_bitAt_29 rfl (lv_at hl 1 rfl) ?_
      have hPc := hP.sub (ws' := wBR cI (ad 16) (ad 17) T.2.2.2.1) [16, 17] rfl
      refine vp_callSi (W.runV (As := [.int x1]) (rest := []) ⟨hx, hb, hml, hown, hT⟩ (met_X0_look l dC dI cI cZ cJ cL (ad 16) (ad 17) _  T.2.2.2.1 x1 hw) (cwV 1 hT (gV k_125 k_127 k_128 k_77 k_126) rfl rfl rfl (by decide +kernel) ⟨(Nat.le_of_ble_eq_true rfl), (Nat.le_of_ble_eq_true rfl)⟩) ⟨bl_R, va_recv hK hPc (ci := 0) (q0 := 0) rfl rfl, fun U hU hW => ⟨rfl, by rw [hU]; exact hPc, va_K.moved hW.alike hK⟩⟩ rfl rfl hl.1 rfl (lv_room (Nat.le_of_ble_eq_true rfl)) dX3_bitAt_30 ⟨Nat.le_of_ble_eq_true rfl, Nat.le_of_ble_eq_true rfl⟩) (fun r_3 hw => ?_)
      try dsimp only at hw
      refine W.widen (k := 1) (n := 6) (Nat.le_of_ble_eq_true rfl) (Nat.le_of_ble_eq_true rfl) ?_
      exact vx_ret (W.iret (v := r_3) hx hb hr (fun t ht hW => ⟨⟨r_3, T, rfl, hw, by rw [ht]; exact hP, va_K.moved hW.alike hK, hD⟩, hS.F ht⟩) hS.2.2 dX3_bitAt_33)
    · have hw := hw.2 c_2
      exact vx_throwS (own := RX3) (cls := "java/lang/IndexOutOfBoundsException") (names := exNames) hx hb hl9 hown (by decide +kernel) (by decide +kernel) (hT _ k_52) (hT _ k_53) (hZ.2.2.2 _ (List.mem_of_getElem? (i := 2) rfl)) (hat_123 hT hZ.2.2.1) hgd_123 hZ.1 hZ.2.1 hS (hl.1.trans hml.symm) dX3_bitAt_15 dX3_bitAt_18 dX3_bitAt_19 dX3_bitAt_21 dX3_bitAt_24 (fun x h => (hno x h).elim) (Nat.le_of_ble_eq_true rfl) (Nat.le_of_ble_eq_true rfl) (Nat.le_of_ble_eq_true rfl) (Nat.le_of_ble_eq_true rfl) hlocks (fun t ha hsz hk => ⟨("java/lang/IndexOutOfBoundsException", T), hw, ⟨rfl, hP.kept (fun k q hq => hk q.1 (hP k q hq).lt), va_K.moved ha hK, hD⟩, Nat.le_trans hS.1 hsz, fun q h1 h2 => (hk q (Nat.lt_of_lt_of_le h1 hS.1)).trans (hS.2.1 q h1 h2)⟩) hS.2.2 (Nat.le_of_ble_eq_true rfl) (Nat.le_of_ble_eq_true rfl)
def wp_X3_feed (post : Int32 → vTT → Prop) (px : String → vTT → Prop) (nl : Nat) (nn : Nat) (S : vSH) (T : vTT) (x1 : Int32) : Prop := ((x1 = 0 → (wp_X3_checkRoom (fun B_2 => wp_X0_append (fun B_3 => post B_3.2.2 (T.1, T.2.1, T.2.2.1, T.2.2.2.1, B_3, T.2.2.2.2.2))  B_2 x1) (fun E B_2 => px E (T.1, T.2.1, T.2.2.1, T.2.2.2.1, B_2, T.2.2.2.2.2))  T.2.2.2.2.1 1)) ∧ (¬ x1 = 0 → (((x1 = 1 → (wp_X3_checkRoom (fun B_5 => wp_X0_append (fun B_6 => post B_6.2.2 (T.1, T.2.1, T.2.2.1, T.2.2.2.1, B_6, T.2.2.2.2.2))  B_5 x1) (fun E B_5 => px E (T.1, T.2.1, T.2.2.1, T.2.2.2.1, B_5, T.2.2.2.2.2))  T.2.2.2.2.1 1)) ∧ (¬ x1 = 1 → (px "java/lang/IllegalArgumentException" T))))))
abbrev rm_X3_feed : Room := { frames := 7, cells := 2, slots := 12, locals := 103 }
set_option maxHeartbeats 4000000 in
set_option maxRecDepth 100000 in
theorem met_X3_feed (l : Launch) (hl9 : l.stackTraces = false) (dC : Nat → ClassId) (dI : Nat → Nat → Nat) (cI cZ cJ cL : ClassId) (sa : Nat → Nat) (ad ra : Nat → Nat) (sz : Nat) (post : Int32 → vTT → Prop) (px : String → vTT → Prop) (nl : Nat) (nn : Nat) (S : vSH) (T : vTT) (x1 : Int32) (hw : wp_X3_feed post px nl nn S T x1) : vx_Met l yX3_feed wsX3_feed rm_X3_feed (pcX (dC, dI) (tysA cI cZ cJ cL) sa (wTT cI cZ cJ nl nn ad ra S T) sz [.ref (ad 0), .int x1]) (va_Qi post (fun u t => qB (dC, dI) (tysA cI cZ cJ cL) (va_A (wTT cI cZ cJ nl nn ad ra S T) sz) (wTT cI cZ cJ nl nn ad ra S u) t) (va_A (wTT cI cZ cJ nl nn ad ra S T) sz)) (vx_X (fun u : String × vTT => px u.1 u.2) (fun E u t => E = u.1 ∧ qB (dC, dI) (tysA cI cZ cJ cL) (va_A (wTT cI cZ cJ nl nn ad ra S T) sz) (wTT cI cZ cJ nl nn ad ra S u.2) t) (va_A (wTT cI cZ cJ nl nn ad ra S T) sz)) 2 12 (va_A (wTT cI cZ cJ nl nn ad ra S T) sz) := by
  refine vx_ofW (cc := cX3_feed) (maxL := 2) (ret := (some .int)) (by decide) rfl ?_
  intro p e s m args below meth c s₁ Bd hml hno hv
  obtain ⟨hargs, hsz, hP, hK, hD0, hZ⟩ := hv
  have hx := Bd.exec
  have hb := Bd.bytes
  have hr := Bd.returns
  have hts := atoms_spec (ws := wsX3_feed) Bd.pre
  have hT : ∀ w ∈ WALL, w.before args s = true := fun w h => hts w (List.mem_cons_of_mem _ h)
  have hown : s.vm.findClass RX3 = some m.cls := findClass_of_methodNamed Bd.named
  have hlocks := Bd.notSynchronized
  subst hsz
  have hD := hD0.self (sz := s.heap.size)
  generalize hAe : va_A (wTT cI cZ cJ nl nn ad ra S T) s.heap.size = A at hD ⊢
  have hA : ∀ q : Nat, s.heap.size ≤ q → A q := fun q h => by rw [← hAe]; exact Or.inr h
  have hS : va_S A s.heap s.heap [] := va_S.rf
  rw [hAe] at hZ
  have hP : va_P (dC, dI) vwCl (wTT cI cZ cJ nl nn ad ra S T) s.heap := hP
  have hl := lv_entry ([.ref (ad 0), .int x1]) (n := 2) (Nat.le_of_ble_eq_true rfl)
  rw [show entryFrame m args 2 = F0 m 0 _ [] from by rw [hargs]; exact lg_entry_eq m ([.ref (ad 0), .int x1]) 2]
  generalize (lg_sl ([.ref (ad 0), .int x1]) ++ List.replicate (2 - (lg_sl ([.ref (ad 0), .int x1])).length) Slot.unset).toArray = ls at hl ⊢
  have hl : lv_has ls 2 [(0, .ref (ad 0)), (1, .int x1)] := hl
  obtain ⟨H, hH⟩ : ∃ z : Heap, z = s.heap := ⟨_, rfl⟩
  obtain ⟨locs, hlocs⟩ : ∃ z : List Loc, z = [] := ⟨_, rfl⟩
  rw [show W p l e (headSpec wsX3_feed rm_X3_feed).room s m args below meth c s.heap [] 0 0 = W p l e (headSpec wsX3_feed rm_X3_feed).room s m args below meth c H locs 0 0 from by rw [hH, hlocs]]
  have hP : va_P (dC, dI) vwCl (wTT cI cZ cJ nl nn ad ra S T) H := by rw [hH]; exact hP
  have hS : va_S A s.heap H locs := by rw [hH, hlocs]; exact hS
  unfold wp_X3_feed at hw
  refine lv_iload_n hx hb dX3_feed_0 rfl (lv_at hl 1 rfl) ?_
  refine lv_if_eq (tgt := 19) hx hb dX3_feed_1 (by decide) (fun c_1 => ?_) (fun c_1 => ?_)
  · have hw := hw.1 c_1
    refine lv_aload_n hx hb dX3_feed_19 rfl (lv_at hl 0 rfl) ?_
    refine va_get (D := (dC, dI)) (ci := 3) (v := .ref (ad 18)) (C := RX3) (T := TX3) (N := 7) hx hb hT inX3 hown hK hP 0 rfl rfl 5 (by decide) (hT _ k_7) (fun _ h9 => h9) rfl dX3_feed_20 ?_
    refine lv_iconst (v := 1) hx hb dX3_feed_23 (by decide) ?_
    have hPc := hP.sub (ws' := wBR cI (ad 18) (ad 19) T.2.2.2.2.1) [18, 19] rfl
    have hDc := hD.sub (ws' := wBR cI (ad 18) (ad 19) T.2.2.2.2.1) [18, 19] (by decide) rfl
    have hFc := va_free (wc := wBR cI (ad 18) (ad 19) T.2.2.2.2.1) hD hS hA [18, 19] rfl
    refine vx_callv (vx_runS (As := [.ref (ad 18), .int 1]) (rest := []) ⟨hx, hb, hml, hown, hT⟩ (met_X3_checkRoom l hl9 dC dI cI cZ cJ cL sa (ad 18) (ad 19) H.size _ _  T.2.2.2.2.1 1 hw) (va_cwS 2 hT (gS k_129 k_131 k_51 k_130) rfl rfl rfl (by decide +kernel) ⟨(Nat.le_of_ble_eq_true rfl), (Nat.le_of_ble_eq_true rfl)⟩) ⟨bl_X, fun U hU hW => ⟨rfl, by rw [hU], by rw [hU]; exact hPc, va_K.moved hW.alike hK, hDc.weaken (fun _ _ _ _ => trivial), hZ.call hW hU hS hFc⟩⟩ rfl rfl hl.1 rfl (lv_room (Nat.le_of_ble_eq_true rfl)) dX3_feed_24 ⟨Nat.le_of_ble_eq_true rfl, Nat.le_of_ble_eq_true rfl⟩) hS (fun q _ h => hFc q h) hFc (fun q _ h => hFc q h) (fun E ce q9 u9 t H1 locs ht hvm hw hB hz1 hk1 hS hce hcv hcl => ?_) (fun B_2 t H1 locs ht hvm hw hB hz1 hk1 hS => ?_)
    · obtain ⟨E9, B_2⟩ := u9
      obtain ⟨rfl, hP1, -, hD1⟩ := hB
      try dsimp only at hw
      rw [ht] at hP1
      obtain ⟨hP, hD⟩ := va_join (wr := [(ad 0, .inr (3, [.ref (ad 1), .ref (ad 9), .ref (ad 10), .ref (ad 13), .ref (ad 16), .ref (ad 18), .int T.2.2.2.2.2])), (ad 1, .inr (1, [.int S.1.1, .int S.1.2.1, .int S.1.2.2.1, .int S.1.2.2.2.1, .int S.1.2.2.2.2, .ref (ad 2), .ref (ad 3), .ref (ad 4), .ref (ad 5)])), (ad 2, .inl (cI, 6, .inl S.2.1.1)), (ad 3, .inl (cI, 6, .inl S.2.1.2.1)), (ad 4, .inl (cI, 6, .inl S.2.1.2.2)), (ad 5, .inl (cJ, 3, .inr (.inr (.inr (.inr (fun i => if i < 3 then some (ra i) else none)))))), (ra 0, .inl (cI, nl, .inl (S.2.2 0))), (ra 1, .inl (cI, nl, .inl (S.2.2 1))), (ra 2, .inl (cI, nl, .inl (S.2.2 2))), (ad 9, .inl (cI, nn, .inl T.1)), (ad 10, .inr (2, [.ref (ad 11), .ref (ad 12), .int T.2.1.2.2])), (ad 11, .inl (cI, nn, .inl T.2.1.1)), (ad 12, .inl (cZ, nn, .inl T.2.1.2.1)), (ad 13, .inr (2, [.ref (ad 14), .ref (ad 15), .int T.2.2.1.2.2])), (ad 14, .inl (cI, nn, .inl T.2.2.1.1)), (ad 15, .inl (cZ, nn, .inl T.2.2.1.2.1)), (ad 16, .inr (0, [.ref (ad 17), .int T.2.2.2.1.2.1, .int T.2.2.2.1.2.2])), (ad 17, .inl (cI, 1250, .inl T.2.2.2.1.1))]) (w1 := wBR cI (ad 18) (ad 19) B_2) hP hD [18, 19] [0, 1, 2, 3, 4, 5, 6, 7, 8, 9, 10, 11, 12, 13, 14, 15, 16, 17] rfl rfl (by decide) (by decide) hk1 hFc hP1 hD1
      generalize H1 = H at hP hS hce ⊢
      have hP := hP.sub (ws' := wTT cI cZ cJ nl nn ad ra S (T.1, T.2.1, T.2.2.1, T.2.2.2.1, B_2, T.2.2.2.2.2)) [0, 1, 2, 3, 4, 5, 6, 7, 8, 9, 10, 11, 12, 13, 14, 15, 16, 17, 18, 19] rfl
      have hD := hD.sub (ws' := wTT cI cZ cJ nl nn ad ra S (T.1, T.2.1, T.2.2.1, T.2.2.2.1, B_2, T.2.2.2.2.2)) [0, 1, 2, 3, 4, 5, 6, 7, 8, 9, 10, 11, 12, 13, 14, 15, 16, 17, 18, 19] (by decide) rfl
      exact vx_out (fun x h => (hno x h).elim) hlocks hce hcv hcl (fun t ht ha => ⟨(E, (T.1, T.2.1, T.2.2.1, T.2.2.2.1, B_2, T.2.2.2.2.2)), hw, ⟨rfl, by rw [ht]; exact hP, va_K.moved ha hK, hD⟩, hS.F ht⟩) hS.2.2 (Nat.le_of_ble_eq_true rfl) (Nat.le_of_ble_eq_true rfl)
    · obtain ⟨hP1, -, hD1⟩ := hB
      try dsimp only at hw
      rw [ht] at hP1
      obtain ⟨hP, hD⟩ := va_join (wr := [(ad 0, .inr (3, [.ref (ad 1), .ref (ad 9), .ref (ad 10), .ref (ad 13), .ref (ad 16), .ref (ad 18), .int T.2.2.2.2.2])), (ad 1, .inr (1, [.int S.1.1, .int S.1.2.1, .int S.1.2.2.1, .int S.1.2.2.2.1, .int S.1.2.2.2.2, .ref (ad 2), .ref (ad 3), .ref (ad 4), .ref (ad 5)])), (ad 2, .inl (cI, 6, .inl S.2.1.1)), (ad 3, .inl (cI, 6, .inl S.2.1.2.1)), (ad 4, .inl (cI, 6, .inl S.2.1.2.2)), (ad 5, .inl (cJ, 3, .inr (.inr (.inr (.inr (fun i => if i < 3 then some (ra i) else none)))))), (ra 0, .inl (cI, nl, .inl (S.2.2 0))), (ra 1, .inl (cI, nl, .inl (S.2.2 1))), (ra 2, .inl (cI, nl, .inl (S.2.2 2))), (ad 9, .inl (cI, nn, .inl T.1)), (ad 10, .inr (2, [.ref (ad 11), .ref (ad 12), .int T.2.1.2.2])), (ad 11, .inl (cI, nn, .inl T.2.1.1)), (ad 12, .inl (cZ, nn, .inl T.2.1.2.1)), (ad 13, .inr (2, [.ref (ad 14), .ref (ad 15), .int T.2.2.1.2.2])), (ad 14, .inl (cI, nn, .inl T.2.2.1.1)), (ad 15, .inl (cZ, nn, .inl T.2.2.1.2.1)), (ad 16, .inr (0, [.ref (ad 17), .int T.2.2.2.1.2.1, .int T.2.2.2.1.2.2])), (ad 17, .inl (cI, 1250, .inl T.2.2.2.1.1))]) (w1 := wBR cI (ad 18) (ad 19) B_2) hP hD [18, 19] [0, 1, 2, 3, 4, 5, 6, 7, 8, 9, 10, 11, 12, 13, 14, 15, 16, 17] rfl rfl (by decide) (by decide) hk1 hFc hP1 hD1
      generalize H1 = H at hP hS ⊢
      have hP := hP.sub (ws' := wTT cI cZ cJ nl nn ad ra S (T.1, T.2.1, T.2.2.1, T.2.2.2.1, B_2, T.2.2.2.2.2)) [0, 1, 2, 3, 4, 5, 6, 7, 8, 9, 10, 11, 12, 13, 14, 15, 16, 17, 18, 19] rfl
      have hD := hD.sub (ws' := wTT cI cZ cJ nl nn ad ra S (T.1, T.2.1, T.2.2.1, T.2.2.2.1, B_2, T.2.2.2.2.2)) [0, 1, 2, 3, 4, 5, 6, 7, 8, 9, 10, 11, 12, 13, 14, 15, 16, 17, 18, 19] (by decide) rfl
      refine lv_aload_n hx hb dX3_feed_27 rfl (lv_at hl 0 rfl) ?_
      refine va_get (D := (dC, dI)) (ci := 3) (v := .ref (ad 18)) (C := RX3) (T := TX3) (N := 7) hx hb hT inX3 hown hK hP 0 rfl rfl 5 (by decide) (hT _ k_7) (fun _ h9 => h9) rfl dX3_feed_28 ?_
      refine lv_iload_n hx hb dX3_feed_31 rfl (lv_at hl 1 rfl) ?_
      have hPc := hP.sub (ws' := wBR cI (ad 18) (ad 19) B_2) [18, 19] rfl
      have hDc := hD.sub (ws' := wBR cI (ad 18) (ad 19) B_2) [18, 19] (by decide) rfl
      have hFc := va_free (wc := wBR cI (ad 18) (ad 19) B_2) hD hS hA [18, 19] rfl
      refine va_callv (va_runV (As := [.int x1]) (rest := []) ⟨hx, hb, hml, hown, hT⟩ (met_X0_append l dC dI cI cZ cJ cL (ad 18) (ad 19) H.size _  B_2 x1 hw) (cwV 1 hT (gV k_132 k_134 k_135 k_77 k_133) rfl rfl rfl (by decide +kernel) ⟨(Nat.le_of_ble_eq_true rfl), (Nat.le_of_ble_eq_true rfl)⟩) ⟨bl_W, va_recv hK hPc (ci := 0) (q0 := 0) rfl rfl, fun U hU hW => ⟨rfl, by rw [hU], by rw [hU]; exact hPc, va_K.moved hW.alike hK, hDc.weaken (fun _ _ _ _ => trivial)⟩⟩ rfl rfl hl.1 rfl (lv_room (Nat.le_of_ble_eq_true rfl)) dX3_feed_32 ⟨Nat.le_of_ble_eq_true rfl, Nat.le_of_ble_eq_true rfl⟩) hS (fun q _ h => hFc q h) hFc (fun B_3 t H1 locs ht hvm hw hB hz1 hk1 hS => ?_)
      obtain ⟨hP1, -, hD1⟩ := hB
      try dsimp only at hw
      rw [ht] at hP1
      obtain ⟨hP, hD⟩ := va_join (wr := [(ad 0, .inr (3, [.ref (ad 1), .ref (ad 9), .ref (ad 10), .ref (ad 13), .ref (ad 16), .ref (ad 18), .int T.2.2.2.2.2])), (ad 1, .inr (1, [.int S.1.1, .int S.1.2.1, .int S.1.2.2.1, .int S.1.2.2.2.1, .int S.1.2.2.2.2, .ref (ad 2), .ref (ad 3), .ref (ad 4), .ref (ad 5)])), (ad 2, .inl (cI, 6, .inl S.2.1.1)), (ad 3, .inl (cI, 6, .inl S.2.1.2.1)), (ad 4, .inl (cI, 6, .inl S.2.1.2.2)), (ad 5, .inl (cJ, 3, .inr (.inr (.inr (.inr (fun i => if i < 3 then some (ra i) else none)))))), (ra 0, .inl (cI, nl, .inl (S.2.2 0))), (ra 1, .inl (cI, nl, .inl (S.2.2 1))), (ra 2, .inl (cI, nl, .inl (S.2.2 2))), (ad 9, .inl (cI, nn, .inl T.1)), (ad 10, .inr (2, [.ref (ad 11), .ref (ad 12), .int T.2.1.2.2])), (ad 11, .inl (cI, nn, .inl T.2.1.1)), (ad 12, .inl (cZ, nn, .inl T.2.1.2.1)), (ad 13, .inr (2, [.ref (ad 14), .ref (ad 15), .int T.2.2.1.2.2])), (ad 14, .inl (cI, nn, .inl T.2.2.1.1)), (ad 15, .inl (cZ, nn, .inl T.2.2.1.2.1)), (ad 16, .inr (0, [.ref (ad 17), .int T.2.2.2.1.2.1, .int T.2.2.2.1.2.2])), (ad 17, .inl (cI, 1250, .inl T.2.2.2.1.1))]) (w1 := wBR cI (ad 18) (ad 19) B_3) hP hD [18, 19] [0, 1, 2, 3, 4, 5, 6, 7, 8, 9, 10, 11, 12, 13, 14, 15, 16, 17] rfl rfl (by decide) (by decide) hk1 hFc hP1 hD1
      generalize H1 = H at hP hS ⊢
      have hP := hP.sub (ws' := wTT cI cZ cJ nl nn ad ra S (T.1, T.2.1, T.2.2.1, T.2.2.2.1, B_3, T.2.2.2.2.2)) [0, 1, 2, 3, 4, 5, 6, 7, 8, 9, 10, 11, 12, 13, 14, 15, 16, 17, 18, 19] rfl
      have hD := hD.sub (ws' := wTT cI cZ cJ nl nn ad ra S (T.1, T.2.1, T.2.2.1, T.2.2.2.1, B_3, T.2.2.2.2.2)) [0, 1, 2, 3, 4, 5, 6, 7, 8, 9, 10, 11, 12, 13, 14, 15, 16, 17, 18, 19] (by decide) rfl
      refine lv_aload_n hx hb dX3_feed_35 rfl (lv_at hl 0 rfl) ?_
      refine va_get (D := (dC, dI)) (ci := 3) (v := .ref (ad 18)) (C := RX3) (T := TX3) (N := 7) hx hb hT inX3 hown hK hP 0 rfl rfl 5 (by decide) (hT _ k_7) (fun _ h9 => h9) rfl dX3_feed_36 ?_
      refine va_get (D := (dC, dI)) (ci := 0) (v := .int B_3.2.2) (C := RX0) (T := TX0) (N := 3) hx hb hT inX0 hown hK hP 18 rfl rfl 2 (by decide) (hT _ k_6) (fun _ h9 => h9) rfl dX3_feed_39 ?_
      refine W.widen (k := 2) (n := 12) (Nat.le_of_ble_eq_true rfl) (Nat.le_of_ble_eq_true rfl) ?_
      exact vx_ret (W.iret (v := B_3.2.2) hx hb hr (fun t ht hW => ⟨⟨B_3.2.2, (T.1, T.2.1, T.2.2.1, T.2.2.2.1, B_3, T.2.2.2.2.2), rfl, hw, by rw [ht]; exact hP, va_K.moved hW.alike hK, hD⟩, hS.F ht⟩) hS.2.2 dX3_feed_42)
  · have hw := hw.2 c_1
    refine lv_iload_n hx hb dX3_feed_4 rfl (lv_at hl 1 rfl) ?_
    refine lv_iconst (v := 1) hx hb dX3_feed_5 (by decide) ?_
    refine lv_icmp_eq (tgt := 19) hx hb dX3_feed_6 (by decide) (fun c_4 => ?_) (fun c_4 => ?_)
    · have hw := hw.1 c_4
      refine lv_aload_n hx hb dX3_feed_19 rfl (lv_at hl 0 rfl) ?_
      refine va_get (D := (dC, dI)) (ci := 3) (v := .ref (ad 18)) (C := RX3) (T := TX3) (N := 7) hx hb hT inX3 hown hK hP 0 rfl rfl 5 (by decide) (hT _ k_7) (fun _ h9 => h9) rfl dX3_feed_20 ?_
      refine lv_iconst (v := 1) hx hb dX3_feed_23 (by decide) ?_
      have hPc := hP.sub (ws' := wBR cI (ad 18) (ad 19) T.2.2.2.2.1) [18, 19] rfl
      have hDc := hD.sub (ws' := wBR cI (ad 18) (ad 19) T.2.2.2.2.1) [18, 19] (by decide) rfl
      have hFc := va_free (wc := wBR cI (ad 18) (ad 19) T.2.2.2.2.1) hD hS hA [18, 19] rfl
      refine vx_callv (vx_runS (As := [.ref (ad 18), .int 1]) (rest := []) ⟨hx, hb, hml, hown, hT⟩ (met_X3_checkRoom l hl9 dC dI cI cZ cJ cL sa (ad 18) (ad 19) H.size _ _  T.2.2.2.2.1 1 hw) (va_cwS 2 hT (gS k_129 k_131 k_51 k_130) rfl rfl rfl (by decide +kernel) ⟨(Nat.le_of_ble_eq_true rfl), (Nat.le_of_ble_eq_true rfl)⟩) ⟨bl_X, fun U hU hW => ⟨rfl, by rw [hU], by rw [hU]; exact hPc, va_K.moved hW.alike hK, hDc.weaken (fun _ _ _ _ => trivial), hZ.call hW hU hS hFc⟩⟩ rfl rfl hl.1 rfl (lv_room (Nat.le_of_ble_eq_true rfl)) dX3_feed_24 ⟨Nat.le_of_ble_eq_true rfl, Nat.le_of_ble_eq_true rfl⟩) hS (fun q _ h => hFc q h) hFc (fun q _ h => hFc q h) (fun E ce q9 u9 t H1 locs ht hvm hw hB hz1 hk1 hS hce hcv hcl => ?_) (fun B_5 t H1 locs ht hvm hw hB hz1 hk1 hS => ?_)
      · obtain ⟨E9, B_5⟩ := u9
        obtain ⟨rfl, hP1, -, hD1⟩ := hB
        try dsimp only at hw
        rw [ht] at hP1
        obtain ⟨hP, hD⟩ := va_join (wr := [(ad 0, .inr (3, [.ref (ad 1), .ref (ad 9), .ref (ad 10), .ref (ad 13), .ref (ad 16), .ref (ad 18), .int T.2.2.2.2.2])), (ad 1, .inr (1, [.int S.1.1, .int S.1.2.1, .int S.1.2.2.1, .int S.1.2.2.2.1, .int S.1.2.2.2.2, .ref (ad 2), .ref (ad 3), .ref (ad 4), .ref (ad 5)])), (ad 2, .inl (cI, 6, .inl S.2.1.1)), (ad 3, .inl (cI, 6, .inl S.2.1.2.1)), (ad 4, .inl (cI, 6, .inl S.2.1.2.2)), (ad 5, .inl (cJ, 3, .inr (.inr (.inr (.inr (fun i => if i < 3 then some (ra i) else none)))))), (ra 0, .inl (cI, nl, .inl (S.2.2 0))), (ra 1, .inl (cI, nl, .inl (S.2.2 1))), (ra 2, .inl (cI, nl, .inl (S.2.2 2))), (ad 9, .inl (cI, nn, .inl T.1)), (ad 10, .inr (2, [.ref (ad 11), .ref (ad 12), .int T.2.1.2.2])), (ad 11, .inl (cI, nn, .inl T.2.1.1)), (ad 12, .inl (cZ, nn, .inl T.2.1.2.1)), (ad 13, .inr (2, [.ref (ad 14), .ref (ad 15), .int T.2.2.1.2.2])), (ad 14, .inl (cI, nn, .inl T.2.2.1.1)), (ad 15, .inl (cZ, nn, .inl T.2.2.1.2.1)), (ad 16, .inr (0, [.ref (ad 17), .int T.2.2.2.1.2.1, .int T.2.2.2.1.2.2])), (ad 17, .inl (cI, 1250, .inl T.2.2.2.1.1))]) (w1 := wBR cI (ad 18) (ad 19) B_5) hP hD [18, 19] [0, 1, 2, 3, 4, 5, 6, 7, 8, 9, 10, 11, 12, 13, 14, 15, 16, 17] rfl rfl (by decide) (by decide) hk1 hFc hP1 hD1
        generalize H1 = H at hP hS hce ⊢
        have hP := hP.sub (ws' := wTT cI cZ cJ nl nn ad ra S (T.1, T.2.1, T.2.2.1, T.2.2.2.1, B_5, T.2.2.2.2.2)) [0, 1, 2, 3, 4, 5, 6, 7, 8, 9, 10, 11, 12, 13, 14, 15, 16, 17, 18, 19] rfl
        have hD := hD.sub (ws' := wTT cI cZ cJ nl nn ad ra S (T.1, T.2.1, T.2.2.1, T.2.2.2.1, B_5, T.2.2.2.2.2)) [0, 1, 2, 3, 4, 5, 6, 7, 8, 9, 10, 11, 12, 13, 14, 15, 16, 17, 18, 19] (by decide) rfl
        exact vx_out (fun x h => (hno x h).elim) hlocks hce hcv hcl (fun t ht ha => ⟨(E, (T.1, T.2.1, T.2.2.1, T.2.2.2.1, B_5, T.2.2.2.2.2)), hw, ⟨rfl, by rw [ht]; exact hP, va_K.moved ha hK, hD⟩, hS.F ht⟩) hS.2.2 (Nat.le_of_ble_eq_true rfl) (Nat.le_of_ble_eq_true rfl)
      · obtain ⟨hP1, -, hD1⟩ := hB
        try dsimp only at hw
        rw [ht] at hP1
        obtain ⟨hP, hD⟩ := va_join (wr := [(ad 0, .inr (3, [.ref (ad 1), .ref (ad 9), .ref (ad 10), .ref (ad 13), .ref (ad 16), .ref (ad 18), .int T.2.2.2.2.2])), (ad 1, .inr (1, [.int S.1.1, .int S.1.2.1, .int S.1.2.2.1, .int S.1.2.2.2.1, .int S.1.2.2.2.2, .ref (ad 2), .ref (ad 3), .ref (ad 4), .ref (ad 5)])), (ad 2, .inl (cI, 6, .inl S.2.1.1)), (ad 3, .inl (cI, 6, .inl S.2.1.2.1)), (ad 4, .inl (cI, 6, .inl S.2.1.2.2)), (ad 5, .inl (cJ, 3, .inr (.inr (.inr (.inr (fun i => if i < 3 then some (ra i) else none)))))), (ra 0, .inl (cI, nl, .inl (S.2.2 0))), (ra 1, .inl (cI, nl, .inl (S.2.2 1))), (ra 2, .inl (cI, nl, .inl (S.2.2 2))), (ad 9, .inl (cI, nn, .inl T.1)), (ad 10, .inr (2, [.ref (ad 11), .ref (ad 12), .int T.2.1.2.2])), (ad 11, .inl (cI, nn, .inl T.2.1.1)), (ad 12, .inl (cZ, nn, .inl T.2.1.2.1)), (ad 13, .inr (2, [.ref (ad 14), .ref (ad 15), .int T.2.2.1.2.2])), (ad 14, .inl (cI, nn, .inl T.2.2.1.1)), (ad 15, .inl (cZ, nn, .inl T.2.2.1.2.1)), (ad 16, .inr (0, [.ref (ad 17), .int T.2.2.2.1.2.1, .int T.2.2.2.1.2.2])), (ad 17, .inl (cI, 1250, .inl T.2.2.2.1.1))]) (w1 := wBR cI (ad 18) (ad 19) B_5) hP hD [18, 19] [0, 1, 2, 3, 4, 5, 6, 7, 8, 9, 10, 11, 12, 13, 14, 15, 16, 17] rfl rfl (by decide) (by decide) hk1 hFc hP1 hD1
        generalize H1 = H at hP hS ⊢
        have hP := hP.sub (ws' := wTT cI cZ cJ nl nn ad ra S (T.1, T.2.1, T.2.2.1, T.2.2.2.1, B_5, T.2.2.2.2.2)) [0, 1, 2, 3, 4, 5, 6, 7, 8, 9, 10, 11, 12, 13, 14, 15, 16, 17, 18, 19] rfl
        have hD := hD.sub (ws' := wTT cI cZ cJ nl nn ad ra S (T.1, T.2.1, T.2.2.1, T.2.2.2.1, B_5, T.2.2.2.2.2)) [0, 1, 2, 3, 4, 5, 6, 7, 8, 9, 10, 11, 12, 13, 14, 15, 16, 17, 18, 19] (by decide) rfl
        refine lv_aload_n hx hb dX3_feed_27 rfl (lv_at hl 0 rfl) ?_
        refine va_get (D := (dC, dI)) (ci := 3) (v := .ref (ad 18)) (C := RX3) (T := TX3) (N := 7) hx hb hT inX3 hown hK hP 0 rfl rfl 5 (by decide) (hT _ k_7) (fun _ h9 => h9) rfl dX3_feed_28 ?_
        refine lv_iload_n hx hb dX3_feed_31 rfl (lv_at hl 1 rfl) ?_
        have hPc := hP.sub (ws' := wBR cI (ad 18) (ad 19) B_5) [18, 19] rfl
        have hDc := hD.sub (ws' := wBR cI (ad 18) (ad 19) B_5) [18, 19] (by decide) rfl
        have hFc := va_free (wc := wBR cI (ad 18) (ad 19) B_5) hD hS hA [18, 19] rfl
        refine va_callv (va_runV (As := [.int x1]) (rest := []) ⟨hx, hb, hml, hown, hT⟩ (met_X0_append l dC dI cI cZ cJ cL (ad 18) (ad 19) H.size _  B_5 x1 hw) (cwV 1 hT (gV k_132 k_134 k_135 k_77 k_133) rfl rfl rfl (by decide +kernel) ⟨(Nat.le_of_ble_eq_true rfl), (Nat.le_of_ble_eq_true rfl)⟩) ⟨bl_W, va_recv hK hPc (ci := 0) (q0 := 0) rfl rfl, fun U hU hW => ⟨rfl, by rw [hU], by rw [hU]; exact hPc, va_K.moved hW.alike hK, hDc.weaken (fun _ _ _ _ => trivial)⟩⟩ rfl rfl hl.1 rfl (lv_room (Nat.le_of_ble_eq_true rfl)) dX3_feed_32 ⟨Nat.le_of_ble_eq_true rfl, Nat.le_of_ble_eq_true rfl⟩) hS (fun q _ h => hFc q h) hFc (fun B_6 t H1 locs ht hvm hw hB hz1 hk1 hS => ?_)
        obtain ⟨hP1, -, hD1⟩ := hB
        try dsimp only at hw
        rw [ht] at hP1
        obtain ⟨hP, hD⟩ := va_join (wr := [(ad 0, .inr (3, [.ref (ad 1), .ref (ad 9), .ref (ad 10), .ref (ad 13), .ref (ad 16), .ref (ad 18), .int T.2.2.2.2.2])), (ad 1, .inr (1, [.int S.1.1, .int S.1.2.1, .int S.1.2.2.1, .int S.1.2.2.2.1, .int S.1.2.2.2.2, .ref (ad 2), .ref (ad 3), .ref (ad 4), .ref (ad 5)])), (ad 2, .inl (cI, 6, .inl S.2.1.1)), (ad 3, .inl (cI, 6, .inl S.2.1.2.1)), (ad 4, .inl (cI, 6, .inl S.2.1.2.2)), (ad 5, .inl (cJ, 3, .inr (.inr (.inr (.inr (fun i => if i < 3 then some (ra i) else none)))))), (ra 0, .inl (cI, nl, .inl (S.2.2 0))), (ra 1, .inl (cI, nl, .inl (S.2.2 1))), (ra 2, .inl (cI, nl, .inl (S.2.2 2))), (ad 9, .inl (cI, nn, .inl T.1)), (ad 10, .inr (2, [.ref (ad 11), .ref (ad 12), .int T.2.1.2.2])), (ad 11, .inl (cI, nn, .inl T.2.1.1)), (ad 12, .inl (cZ, nn, .inl T.2.1.2.1)), (ad 13, .inr (2, [.ref (ad 14), .ref (ad 15), .int T.2.2.1.2.2])), (ad 14, .inl (cI, nn, .inl T.2.2.1.1)), (ad 15, .inl (cZ, nn, .inl T.2.2.1.2.1)), (ad 16, .inr (0, [.ref (ad 17), .int T.2.2.2.1.2.1, .int T.2.2.2.1.2.2])), (ad 17, .inl (cI, 1250, .inl T.2.2.2.1.1))]) (w1 := wBR cI (ad 18) (ad 19) B_6) hP hD [18, 19] [0, 1, 2, 3, 4, 5, 6, 7, 8, 9, 10, 11, 12, 13, 14, 15, 16, 17] rfl rfl (by decide) (by decide) hk1 hFc hP1 hD1
        generalize H1 = H at hP hS ⊢
        have hP := hP.sub (ws' := wTT cI cZ cJ nl nn ad ra S (T.1, T.2.1, T.2.2.1, T.2.2.2.1, B_6, T.2.2.2.2.2)) [0, 1, 2, 3, 4, 5, 6, 7, 8, 9, 10, 11, 12, 13, 14, 15, 16, 17, 18, 19] rfl
        have hD := hD.sub (ws' := wTT cI cZ cJ nl nn ad ra S (T.1, T.2.1, T.2.2.1, T.2.2.2.1, B_6, T.2.2.2.2.2)) [0, 1, 2, 3, 4, 5, 6, 7, 8, 9, 10, 11, 12, 13, 14, 15, 16, 17, 18, 19] (by decide) rfl
        refine lv_aload_n hx hb dX3_feed_35 rfl (lv_at hl 0 rfl) ?_
        refine va_get (D := (dC, dI)) (ci := 3) (v := .ref (ad 18)) (C := RX3) (T := TX3) (N := 7) hx hb hT inX3 hown hK hP 0 rfl rfl 5 (by decide) (hT _ k_7) (fun _ h9 => h9) rfl dX3_feed_36 ?_
        refine va_get (D := (dC, dI)) (ci := 0) (v := .int B_6.2.2) (C := RX0) (T := TX0) (N := 3) hx hb hT inX0 hown hK hP 18 rfl rfl 2 (by decide) (hT _ k_6) (fun _ h9 => h9) rfl dX3_feed_39 ?_
        refine W.widen (k := 2) (n := 12) (Nat.le_of_ble_eq_true rfl) (Nat.le_of_ble_eq_true rfl) ?_
        exact vx_ret (W.iret (v := B_6.2.2) hx hb hr (fun t ht hW => ⟨⟨B_6.2.2, (T.1, T.2.1, T.2.2.1, T.2.2.2.1, B_6, T.2.2.2.2.2), rfl, hw, by rw [ht]; exact hP, va_K.moved hW.alike hK, hD⟩, hS.F ht⟩) hS.2.2 dX3_feed_42)
    · have hw := hw.2 c_4
      exact vx_throwS (own := RX3) (cls := "java/lang/IllegalArgumentException") (names := exNames) hx hb hl9 hown (by decide +kernel) (by decide +kernel) (hT _ k_11) (hT _ k_12) (hZ.2.2.2 _ (List.mem_of_getElem? (i := 3) rfl)) (hat_63 hT hZ.2.2.1) hgd_63 hZ.1 hZ.2.1 hS (hl.1.trans hml.symm) dX3_feed_9 dX3_feed_12 dX3_feed_13 dX3_feed_15 dX3_feed_18 (fun x h => (hno x h).elim) (Nat.le_of_ble_eq_true rfl) (Nat.le_of_ble_eq_true rfl) (Nat.le_of_ble_eq_true rfl) (Nat.le_of_ble_eq_true rfl) hlocks (fun t ha hsz hk => ⟨("java/lang/IllegalArgumentException", T), hw, ⟨rfl, hP.kept (fun k q hq => hk q.1 (hP k q hq).lt), va_K.moved ha hK, hD⟩, Nat.le_trans hS.1 hsz, fun q h1 h2 => (hk q (Nat.lt_of_lt_of_le h1 hS.1)).trans (hS.2.1 q h1 h2)⟩) hS.2.2 (Nat.le_of_ble_eq_true rfl) (Nat.le_of_ble_eq_true rfl)
def wp_X3_pass_L41 (post : Int32 → vTT → Prop) (px : String → vTT → Prop) (ex41 : vTT → Int32 → Prop) (nl : Nat) (nn : Nat) (S : vSH) (x2_2 : Int32) (x1 : Int32) : Nat → vTT → Int32 → Prop
  | 0, _, _ => False
  | n_7 + 1, T_5, x3_6 => ((x2_2 ≤ x3_6 → (ex41 T_5 x3_6)) ∧ (¬ x2_2 ≤ x3_6 → (wp_X0_look (fun r_10 => wp_X0_append (fun B_11 => ∀ x3_12 : Int32, x3_12 = x3_6 + 1 → (wp_X3_pass_L41 post px ex41 nl nn S x2_2 x1 n_7 (T_5.1, T_5.2.1, T_5.2.2.1, T_5.2.2.2.1, B_11, T_5.2.2.2.2.2) x3_12))  T_5.2.2.2.2.1 r_10)  T_5.2.2.2.1 (T_5.2.2.2.2.2 + x3_6))))
def wp_X3_pass (post : Int32 → vTT → Prop) (px : String → vTT → Prop) (nl : Nat) (nn : Nat) (S : vSH) (T : vTT) (x1 : Int32) : Prop := ((0 ≤ x1 → (∀ x2_2 : Int32, x2_2 = (if (T.2.2.2.1.2.2 - T.2.2.2.2.2) < x1 then (T.2.2.2.1.2.2 - T.2.2.2.2.2) else x1) → (wp_X3_checkRoom (fun B_3 => ∀ T_4 : vTT, T_4 = (T.1, T.2.1, T.2.2.1, T.2.2.2.1, B_3, T.2.2.2.2.2) → (∃ n_7 : Nat, wp_X3_pass_L41 post px (fun (T_5 : vTT) (x3_6 : Int32) => ∀ f_8 : Int32, f_8 = T_5.2.2.2.2.2 + x2_2 → (post x2_2 (T_5.1, T_5.2.1, T_5.2.2.1, T_5.2.2.2.1, T_5.2.2.2.2.1, f_8))) nl nn S x2_2 x1 n_7 T_4 0)) (fun E B_3 => px E (T.1, T.2.1, T.2.2.1, T.2.2.2.1, B_3, T.2.2.2.2.2))  T.2.2.2.2.1 x2_2))) ∧ (¬ 0 ≤ x1 → (px "java/lang/IllegalArgumentException" T)))
abbrev rm_X3_pass : Room := { frames := 7, cells := 2, slots := 12, locals := 103 }
set_option maxHeartbeats 4000000 in
set_option maxRecDepth 100000 in
theorem met_X3_pass (l : Launch) (hl9 : l.stackTraces = false) (dC : Nat → ClassId) (dI : Nat → Nat → Nat) (cI cZ cJ cL : ClassId) (sa : Nat → Nat) (ad ra : Nat → Nat) (sz : Nat) (post : Int32 → vTT → Prop) (px : String → vTT → Prop) (nl : Nat) (nn : Nat) (S : vSH) (T : vTT) (x1 : Int32) (hw : wp_X3_pass post px nl nn S T x1) : vx_Met l yX3_pass wsX3_pass rm_X3_pass (pcX (dC, dI) (tysA cI cZ cJ cL) sa (wTT cI cZ cJ nl nn ad ra S T) sz [.ref (ad 0), .int x1]) (va_Qi post (fun u t => qB (dC, dI) (tysA cI cZ cJ cL) (va_A (wTT cI cZ cJ nl nn ad ra S T) sz) (wTT cI cZ cJ nl nn ad ra S u) t) (va_A (wTT cI cZ cJ nl nn ad ra S T) sz)) (vx_X (fun u : String × vTT => px u.1 u.2) (fun E u t => E = u.1 ∧ qB (dC, dI) (tysA cI cZ cJ cL) (va_A (wTT cI cZ cJ nl nn ad ra S T) sz) (wTT cI cZ cJ nl nn ad ra S u.2) t) (va_A (wTT cI cZ cJ nl nn ad ra S T) sz)) 2 12 (va_A (wTT cI cZ cJ nl nn ad ra S T) sz) := by
  refine vx_ofW (cc := cX3_pass) (maxL := 4) (ret := (some .int)) (by decide) rfl ?_
  intro p e s m args below meth c s₁ Bd hml hno hv
  obtain ⟨hargs, hsz, hP, hK, hD0, hZ⟩ := hv
  have hx := Bd.exec
  have hb := Bd.bytes
  have hr := Bd.returns
  have hts := atoms_spec (ws := wsX3_pass) Bd.pre
  have hT : ∀ w ∈ WALL, w.before args s = true := fun w h => hts w (List.mem_cons_of_mem _ h)
  have hown : s.vm.findClass RX3 = some m.cls := findClass_of_methodNamed Bd.named
  have hlocks := Bd.notSynchronized
  subst hsz
  have hD := hD0.self (sz := s.heap.size)
  generalize hAe : va_A (wTT cI cZ cJ nl nn ad ra S T) s.heap.size = A at hD ⊢
  have hA : ∀ q : Nat, s.heap.size ≤ q → A q := fun q h => by rw [← hAe]; exact Or.inr h
  have hS : va_S A s.heap s.heap [] := va_S.rf
  rw [hAe] at hZ
  have hP : va_P (dC, dI) vwCl (wTT cI cZ cJ nl nn ad ra S T) s.heap := hP
  have hl := lv_entry ([.ref (ad 0), .int x1]) (n := 4) (Nat.le_of_ble_eq_true rfl)
  rw [show entryFrame m args 4 = F0 m 0 _ [] from by rw [hargs]; exact lg_entry_eq m ([.ref (ad 0), .int x1]) 4]
  generalize (lg_sl ([.ref (ad 0), .int x1]) ++ List.replicate (4 - (lg_sl ([.ref (ad 0), .int x1])).length) Slot.unset).toArray = ls at hl ⊢
  have hl : lv_has ls 4 [(0, .ref (ad 0)), (1, .int x1)] := hl
  obtain ⟨H, hH⟩ : ∃ z : Heap, z = s.heap := ⟨_, rfl⟩
  obtain ⟨locs, hlocs⟩ : ∃ z : List Loc, z = [] := ⟨_, rfl⟩
  rw [show W p l e (headSpec wsX3_pass rm_X3_pass).room s m args below meth c s.heap [] 0 0 = W p l e (headSpec wsX3_pass rm_X3_pass).room s m args below meth c H locs 0 0 from by rw [hH, hlocs]]
  have hP : va_P (dC, dI) vwCl (wTT cI cZ cJ nl nn ad ra S T) H := by rw [hH]; exact hP
  have hS : va_S A s.heap H locs := by rw [hH, hlocs]; exact hS
  unfold wp_X3_pass at hw
  refine lv_iload_n hx hb dX3_pass_0 rfl (lv_at hl 1 rfl) ?_
  refine lv_if_ge (tgt := 14) hx hb dX3_pass_1 (by decide) (fun c_1 => ?_) (fun c_1 => ?_)
  · have hw := hw.1 c_1
    refine lv_iload_n hx hb dX3_pass_14 rfl (lv_at hl 1 rfl) ?_
    refine lv_aload_n hx hb dX3_pass_15 rfl (lv_at hl 0 rfl) ?_
    refine va_get (D := (dC, dI)) (ci := 3) (v := .ref (ad 16)) (C := RX3) (T := TX3) (N := 7) hx hb hT inX3 hown hK hP 0 rfl rfl 4 (by decide) (hT _ k_5) (fun _ h9 => h9) rfl dX3_pass_16 ?_
    refine va_get (D := (dC, dI)) (ci := 0) (v := .int T.2.2.2.1.2.2) (C := RX0) (T := TX0) (N := 3) hx hb hT inX0 hown hK hP 16 rfl rfl 2 (by decide) (hT _ k_6) (fun _ h9 => h9) rfl dX3_pass_19 ?_
    refine lv_aload_n hx hb dX3_pass_22 rfl (lv_at hl 0 rfl) ?_
    refine va_get (D := (dC, dI)) (ci := 3) (v := .int T.2.2.2.2.2) (C := RX3) (T := TX3) (N := 7) hx hb hT inX3 hown hK hP 0 rfl rfl 6 (by decide) (hT _ k_78) (fun _ h9 => h9) rfl dX3_pass_23 ?_
    refine lv_isub hx hb dX3_pass_26 ?_
    refine va_mmin (x := x1) (y := (T.2.2.2.1.2.2 - T.2.2.2.2.2)) (rest := []) hx hb (by rw [hml]; exact hl.1.symm) hown (hT _ k_84) (hT _ k_85) (hT _ k_86) (hT _ k_87) (Nat.le_of_ble_eq_true rfl) (Nat.le_of_ble_eq_true rfl) (Nat.le_of_ble_eq_true rfl) (Nat.le_of_ble_eq_true rfl) dX3_pass_27 ?_
    refine lv_topi (fun x2_2 ex2_2 => ?_)
    have hw := hw x2_2 ex2_2
    refine lv_istore_n (lv' := [(2, .int x2_2), (0, .ref (ad 0)), (1, .int x1)]) hx hb dX3_pass_30 rfl hl (by decide) rfl (fun ls hl => ?_)
    refine lv_aload_n hx hb dX3_pass_31 rfl (lv_at hl 1 rfl) ?_
    refine va_get (D := (dC, dI)) (ci := 3) (v := .ref (ad 18)) (C := RX3) (T := TX3) (N := 7) hx hb hT inX3 hown hK hP 0 rfl rfl 5 (by decide) (hT _ k_7) (fun _ h9 => h9) rfl dX3_pass_32 ?_
    refine lv_iload_n hx hb dX3_pass_35 rfl (lv_at hl 0 rfl) ?_
    have hPc := hP.sub (ws' := wBR cI (ad 18) (ad 19) T.2.2.2.2.1) [18, 19] rfl
    have hDc := hD.sub (ws' := wBR cI (ad 18) (ad 19) T.2.2.2.2.1) [18, 19] (by decide) rfl
    have hFc := va_free (wc := wBR cI (ad 18) (ad 19) T.2.2.2.2.1) hD hS hA [18, 19] rfl
    refine vx_callv (vx_runS (As := [.ref (ad 18), .int x2_2]) (rest := []) ⟨hx, hb, hml, hown, hT⟩ (met_X3_checkRoom l hl9 dC dI cI cZ cJ cL sa (ad 18) (ad 19) H.size _ _  T.2.2.2.2.1 x2_2 hw) (va_cwS 2 hT (gS k_129 k_131 k_51 k_130) rfl rfl rfl (by decide +kernel) ⟨(Nat.le_of_ble_eq_true rfl), (Nat.le_of_ble_eq_true rfl)⟩) ⟨bl_X, fun U hU hW => ⟨rfl, by rw [hU], by rw [hU]; exact hPc, va_K.moved hW.alike hK, hDc.weaken (fun _ _ _ _ => trivial), hZ.call hW hU hS hFc⟩⟩ rfl rfl hl.1 rfl (lv_room (Nat.le_of_ble_eq_true rfl)) dX3_pass_36 ⟨Nat.le_of_ble_eq_true rfl, Nat.le_of_ble_eq_true rfl⟩) hS (fun q _ h => hFc q h) hFc (fun q _ h => hFc q h) (fun E ce q9 u9 t H1 locs ht hvm hw hB hz1 hk1 hS hce hcv hcl => ?_) (fun B_3 t H1 locs ht hvm hw hB hz1 hk1 hS => ?_)
    · obtain ⟨E9, B_3⟩ := u9
      obtain ⟨rfl, hP1, -, hD1⟩ := hB
      try dsimp only at hw
      rw [ht] at hP1
      obtain ⟨hP, hD⟩ := va_join (wr := [(ad 0, .inr (3, [.ref (ad 1), .ref (ad 9), .ref (ad 10), .ref (ad 13), .ref (ad 16), .ref (ad 18), .int T.2.2.2.2.2])), (ad 1, .inr (1, [.int S.1.1, .int S.1.2.1, .int S.1.2.2.1, .int S.1.2.2.2.1, .int S.1.2.2.2.2, .ref (ad 2), .ref (ad 3), .ref (ad 4), .ref (ad 5)])), (ad 2, .inl (cI, 6, .inl S.2.1.1)), (ad 3, .inl (cI, 6, .inl S.2.1.2.1)), (ad 4, .inl (cI, 6, .inl S.2.1.2.2)), (ad 5, .inl (cJ, 3, .inr (.inr (.inr (.inr (fun i => if i < 3 then some (ra i) else none)))))), (ra 0, .inl (cI, nl, .inl (S.2.2 0))), (ra 1, .inl (cI, nl, .inl (S.2.2 1))), (ra 2, .inl (cI, nl, .inl (S.2.2 2))), (ad 9, .inl (cI, nn, .inl T.1)), (ad 10, .inr (2, [.ref (ad 11), .ref (ad 12), .int T.2.1.2.2])), (ad 11, .inl (cI, nn, .inl T.2.1.1)), (ad 12, .inl (cZ, nn, .inl T.2.1.2.1)), (ad 13, .inr (2, [.ref (ad 14), .ref (ad 15), .int T.2.2.1.2.2])), (ad 14, .inl (cI, nn, .inl T.2.2.1.1)), (ad 15, .inl (cZ, nn, .inl T.2.2.1.2.1)), (ad 16, .inr (0, [.ref (ad 17), .int T.2.2.2.1.2.1, .int T.2.2.2.1.2.2])), (ad 17, .inl (cI, 1250, .inl T.2.2.2.1.1))]) (w1 := wBR cI (ad 18) (ad 19) B_3) hP hD [18, 19] [0, 1, 2, 3, 4, 5, 6, 7, 8, 9, 10, 11, 12, 13, 14, 15, 16, 17] rfl rfl (by decide) (by decide) hk1 hFc hP1 hD1
      generalize H1 = H at hP hS hce ⊢
      have hP := hP.sub (ws' := wTT cI cZ cJ nl nn ad ra S (T.1, T.2.1, T.2.2.1, T.2.2.2.1, B_3, T.2.2.2.2.2)) [0, 1, 2, 3, 4, 5, 6, 7, 8, 9, 10, 11, 12, 13, 14, 15, 16, 17, 18, 19] rfl
      have hD := hD.sub (ws' := wTT cI cZ cJ nl nn ad ra S (T.1, T.2.1, T.2.2.1, T.2.2.2.1, B_3, T.2.2.2.2.2)) [0, 1, 2, 3, 4, 5, 6, 7, 8, 9, 10, 11, 12, 13, 14, 15, 16, 17, 18, 19] (by decide) rfl
      exact vx_out (fun x h => (hno x h).elim) hlocks hce hcv hcl (fun t ht ha => ⟨(E, (T.1, T.2.1, T.2.2.1, T.2.2.2.1, B_3, T.2.2.2.2.2)), hw, ⟨rfl, by rw [ht]; exact hP, va_K.moved ha hK, hD⟩, hS.F ht⟩) hS.2.2 (Nat.le_of_ble_eq_true rfl) (Nat.le_of_ble_eq_true rfl)
    · obtain ⟨hP1, -, hD1⟩ := hB
      try dsimp only at hw
      rw [ht] at hP1
      obtain ⟨hP, hD⟩ := va_join (wr := [(ad 0, .inr (3, [.ref (ad 1), .ref (ad 9), .ref (ad 10), .ref (ad 13), .ref (ad 16), .ref (ad 18), .int T.2.2.2.2.2])), (ad 1, .inr (1, [.int S.1.1, .int S.1.2.1, .int S.1.2.2.1, .int S.1.2.2.2.1, .int S.1.2.2.2.2, .ref (ad 2), .ref (ad 3), .ref (ad 4), .ref (ad 5)])), (ad 2, .inl (cI, 6, .inl S.2.1.1)), (ad 3, .inl (cI, 6, .inl S.2.1.2.1)), (ad 4, .inl (cI, 6, .inl S.2.1.2.2)), (ad 5, .inl (cJ, 3, .inr (.inr (.inr (.inr (fun i => if i < 3 then some (ra i) else none)))))), (ra 0, .inl (cI, nl, .inl (S.2.2 0))), (ra 1, .inl (cI, nl, .inl (S.2.2 1))), (ra 2, .inl (cI, nl, .inl (S.2.2 2))), (ad 9, .inl (cI, nn, .inl T.1)), (ad 10, .inr (2, [.ref (ad 11), .ref (ad 12), .int T.2.1.2.2])), (ad 11, .inl (cI, nn, .inl T.2.1.1)), (ad 12, .inl (cZ, nn, .inl T.2.1.2.1)), (ad 13, .inr (2, [.ref (ad 14), .ref (ad 15), .int T.2.2.1.2.2])), (ad 14, .inl (cI, nn, .inl T.2.2.1.1)), (ad 15, .inl (cZ, nn, .inl T.2.2.1.2.1)), (ad 16, .inr (0, [.ref (ad 17), .int T.2.2.2.1.2.1, .int T.2.2.2.1.2.2])), (ad 17, .inl (cI, 1250, .inl T.2.2.2.1.1))]) (w1 := wBR cI (ad 18) (ad 19) B_3) hP hD [18, 19] [0, 1, 2, 3, 4, 5, 6, 7, 8, 9, 10, 11, 12, 13, 14, 15, 16, 17] rfl rfl (by decide) (by decide) hk1 hFc hP1 hD1
      generalize H1 = H at hP hS ⊢
      have hP := hP.sub (ws' := wTT cI cZ cJ nl nn ad ra S (T.1, T.2.1, T.2.2.1, T.2.2.2.1, B_3, T.2.2.2.2.2)) [0, 1, 2, 3, 4, 5, 6, 7, 8, 9, 10, 11, 12, 13, 14, 15, 16, 17, 18, 19] rfl
      have hD := hD.sub (ws' := wTT cI cZ cJ nl nn ad ra S (T.1, T.2.1, T.2.2.1, T.2.2.2.1, B_3, T.2.2.2.2.2)) [0, 1, 2, 3, 4, 5, 6, 7, 8, 9, 10, 11, 12, 13, 14, 15, 16, 17, 18, 19] (by decide) rfl
      refine lv_iconst (v := 0) hx hb dX3_pass_39 (by decide) ?_
      refine lv_istore_n (lv' := [(3, .int 0), (2, .int x2_2), (0, .ref (ad 0)), (1, .int x1)]) hx hb dX3_pass_40 rfl hl (by decide) rfl (fun ls hl => ?_)
      obtain ⟨T_4, eT_4⟩ : ∃ z : vTT, z = (T.1, T.2.1, T.2.2.1, T.2.2.2.1, B_3, T.2.2.2.2.2) := ⟨_, rfl⟩
      have hw := hw T_4 eT_4
      rw [← eT_4] at hP hD
      obtain ⟨n_7, hw⟩ := hw
      obtain ⟨ex41, eex41⟩ : ∃ z : vTT → Int32 → Prop, z = (fun (T_5 : vTT) (x3_6 : Int32) => ∀ f_8 : Int32, f_8 = T_5.2.2.2.2.2 + x2_2 → (post x2_2 (T_5.1, T_5.2.1, T_5.2.2.1, T_5.2.2.2.1, T_5.2.2.2.2.1, f_8))) := ⟨_, rfl⟩
      rw [← eex41] at hw
      have hx41 : ∀ (T_5 : vTT) (x3_6 : Int32), ex41 T_5 x3_6 → ∀ (H : Heap) (locs : List Loc) (ls : Array Slot), va_P (dC, dI) vwCl (wTT cI cZ cJ nl nn ad ra S T_5) H → va_D A (wTT cI cZ cJ nl nn ad ra S T_5) → va_S A s.heap H locs → lv_has ls 4 [(3, .int x3_6), (2, .int x2_2), (0, .ref (ad 0)), (1, .int x1)] → W p l e (headSpec wsX3_pass rm_X3_pass).room s m args below meth c H locs 1 6 (vx_MQ below (va_Qi post (fun u t => qB (dC, dI) (tysA cI cZ cJ cL) A (wTT cI cZ cJ nl nn ad ra S u) t) A) (vx_X (fun u : String × vTT => px u.1 u.2) (fun E u t => E = u.1 ∧ qB (dC, dI) (tysA cI cZ cJ cL) A (wTT cI cZ cJ nl nn ad ra S u.2) t) A) args s 2 12 A) (F0 m 72 ls []) := by
        intro T_5 x3_6 hw H locs ls hP hD hS hl
        rw [eex41] at hw
        try dsimp only at hw
        refine lv_aload_n hx hb dX3_pass_72 rfl (lv_at hl 2 rfl) ?_
        refine lv_dup hx hb dX3_pass_73 rfl ?_
        refine va_get (D := (dC, dI)) (ci := 3) (v := .int T_5.2.2.2.2.2) (C := RX3) (T := TX3) (N := 7) hx hb hT inX3 hown hK hP 0 rfl rfl 6 (by decide) (hT _ k_78) (fun _ h9 => h9) rfl dX3_pass_74 ?_
        refine lv_iload_n hx hb dX3_pass_77 rfl (lv_at hl 1 rfl) ?_
        refine lv_iadd hx hb dX3_pass_78 ?_
        refine lv_topi (fun f_8 ef_8 => ?_)
        have hw := hw f_8 ef_8
        refine va_put (D := (dC, dI)) (ci := 3) (v := .int f_8) (ty := .int) (C := RX3) (T := TX3) (N := 7) hx hb hT inX3 tyX3 tyX3_ok nmX3 hown hK hP hD hS 0 rfl rfl 6 (by decide) (hT _ k_78) (fun _ h9 => h9) rfl (by decide +kernel) rfl rfl (Nat.le_of_ble_eq_true rfl) dX3_pass_79 (fun H locs hP hD hS => ?_)
        have hP : va_P (dC, dI) vwCl (wTT cI cZ cJ nl nn ad ra S (T_5.1, T_5.2.1, T_5.2.2.1, T_5.2.2.2.1, T_5.2.2.2.2.1, f_8)) H := hP
        have hD : va_D A (wTT cI cZ cJ nl nn ad ra S (T_5.1, T_5.2.1, T_5.2.2.1, T_5.2.2.2.1, T_5.2.2.2.2.1, f_8)) := hD
        refine lv_iload_n hx hb dX3_pass_82 rfl (lv_at hl 1 rfl) ?_
        refine W.widen (k := 2) (n := 12) (Nat.le_of_ble_eq_true rfl) (Nat.le_of_ble_eq_true rfl) ?_
        exact vx_ret (W.iret (v := x2_2) hx hb hr (fun t ht hW => ⟨⟨x2_2, (T_5.1, T_5.2.1, T_5.2.2.1, T_5.2.2.2.1, T_5.2.2.2.2.1, f_8), rfl, hw, by rw [ht]; exact hP, va_K.moved hW.alike hK, hD⟩, hS.F ht⟩) hS.2.2 dX3_pass_83)
      have hlp41 : ∀ (n_7 : Nat) (T_5 : vTT) (x3_6 : Int32), wp_X3_pass_L41 post px ex41 nl nn S x2_2 x1 n_7 T_5 x3_6 → ∀ (H : Heap) (locs : List Loc) (ls : Array Slot), va_P (dC, dI) vwCl (wTT cI cZ cJ nl nn ad ra S T_5) H → va_D A (wTT cI cZ cJ nl nn ad ra S T_5) → va_S A s.heap H locs → lv_has ls 4 [(3, .int x3_6), (2, .int x2_2), (0, .ref (ad 0)), (1, .int x1)] → W p l e (headSpec wsX3_pass rm_X3_pass).room s m args below meth c H locs 1 6 (vx_MQ below (va_Qi post (fun u t => qB (dC, dI) (tysA cI cZ cJ cL) A (wTT cI cZ cJ nl nn ad ra S u) t) A) (vx_X (fun u : String × vTT => px u.1 u.2) (fun E u t => E = u.1 ∧ qB (dC, dI) (tysA cI cZ cJ cL) A (wTT cI cZ cJ nl nn ad ra S u.2) t) A) args s 2 12 A) (F0 m 41 ls []) := by
        intro n_7
        induction n_7 with
        | zero => intro _ _ hw; exact hw.elim
        | succ n_7 ih41 =>
          intro T_5 x3_6 hw H locs ls hP hD hS hl
          unfold wp_X3_pass_L41 at hw
          refine lv_iload_n hx hb dX3_pass_41 rfl (lv_at hl 0 rfl) ?_
          refine lv_iload_n hx hb dX3_pass_42 rfl (lv_at hl 1 rfl) ?_
          refine lv_icmp_ge (tgt := 72) hx hb dX3_pass_43 (by decide) (fun c_9 => ?_) (fun c_9 => ?_)
          · have hw := hw.1 c_9
            exact hx41 T_5 x3_6 hw _ _ _ hP hD hS (lv_sub hl [0, 1, 2, 3] rfl)
          · have hw := hw.2 c_9
            refine lv_aload_n hx hb dX3_pass_46 rfl (lv_at hl 2 rfl) ?_
            refine va_get (D := (dC, dI)) (ci := 3) (v := .ref (ad 18)) (C := RX3) (T := TX3) (N := 7) hx hb hT inX3 hown hK hP 0 rfl rfl 5 (by decide) (hT _ k_7) (fun _ h9 => h9) rfl dX3_pass_47 ?_
            refine lv_aload_n hx hb dX3_pass_50 rfl (lv_at hl 2 rfl) ?_
            refine va_get (D := (dC, dI)) (ci := 3) (v := .ref (ad 16)) (C := RX3) (T := TX3) (N := 7) hx hb hT inX3 hown hK hP 0 rfl rfl 4 (by decide) (hT _ k_5) (fun _ h9 => h9) rfl dX3_pass_51 ?_
            refine lv_aload_n hx hb dX3_pass_54 rfl (lv_at hl 2 rfl) ?_
            refine va_get (D := (dC, dI)) (ci := 3) (v := .int T_5.2.2.2.2.2) (C := RX3) (T := TX3) (N := 7) hx hb hT inX3 hown hK hP 0 rfl rfl 6 (by decide) (hT _ k_78) (fun _ h9 => h9) rfl dX3_pass_55 ?_
            refine lv_iload_n hx hb dX3_pass_58 rfl (lv_at hl 0 rfl) ?_
            refine lv_iadd hx hb dX3_pass_59 ?_
            have hPc := hP.sub (ws' := wBR cI (ad 16) (ad 17) T_5.2.2.2.1) [16, 17] rfl
            refine vp_callSi (W.runV (As := [.int (T_5.2.2.2.2.2 + x3_6)]) (rest := [.ref (ad 18)]) ⟨hx, hb, hml, hown, hT⟩ (met_X0_look l dC dI cI cZ cJ cL (ad 16) (ad 17) _  T_5.2.2.2.1 (T_5.2.2.2.2.2 + x3_6) hw) (cwV 1 hT (gV k_125 k_127 k_128 k_77 k_126) rfl rfl rfl (by decide +kernel) ⟨(Nat.le_of_ble_eq_true rfl), (Nat.le_of_ble_eq_true rfl)⟩) ⟨bl_R, va_recv hK hPc (ci := 0) (q0 := 0) rfl rfl, fun U hU hW => ⟨rfl, by rw [hU]; exact hPc, va_K.moved hW.alike hK⟩⟩ rfl rfl hl.1 rfl (lv_room (Nat.le_of_ble_eq_true rfl)) dX3_pass_60 ⟨Nat.le_of_ble_eq_true rfl, Nat.le_of_ble_eq_true rfl⟩) (fun r_10 hw => ?_)
            try dsimp only at hw
            have hPc := hP.sub (ws' := wBR cI (ad 18) (ad 19) T_5.2.2.2.2.1) [18, 19] rfl
            have hDc := hD.sub (ws' := wBR cI (ad 18) (ad 19) T_5.2.2.2.2.1) [18, 19] (by decide) rfl
            have hFc := va_free (wc := wBR cI (ad 18) (ad 19) T_5.2.2.2.2.1) hD hS hA [18, 19] rfl
            refine va_callv (va_runV (As := [.int r_10]) (rest := []) ⟨hx, hb, hml, hown, hT⟩ (met_X0_append l dC dI cI cZ cJ cL (ad 18) (ad 19) H.size _  T_5.2.2.2.2.1 r_10 hw) (cwV 1 hT (gV k_132 k_134 k_135 k_77 k_133) rfl rfl rfl (by decide +kernel) ⟨(Nat.le_of_ble_eq_true rfl), (Nat.le_of_ble_eq_true rfl)⟩) ⟨bl_W, va_recv hK hPc (ci := 0) (q0 := 0) rfl rfl, fun U hU hW => ⟨rfl, by rw [hU], by rw [hU]; exact hPc, va_K.moved hW.alike hK, hDc.weaken (fun _ _ _ _ => trivial)⟩⟩ rfl rfl hl.1 rfl (lv_room (Nat.le_of_ble_eq_true rfl)) dX3_pass_63 ⟨Nat.le_of_ble_eq_true rfl, Nat.le_of_ble_eq_true rfl⟩) hS (fun q _ h => hFc q h) hFc (fun B_11 t H1 locs ht hvm hw hB hz1 hk1 hS => ?_)
            obtain ⟨hP1, -, hD1⟩ := hB
            try dsimp only at hw
            rw [ht] at hP1
            obtain ⟨hP, hD⟩ := va_join (wr := [(ad 0, .inr (3, [.ref (ad 1), .ref (ad 9), .ref (ad 10), .ref (ad 13), .ref (ad 16), .ref (ad 18), .int T_5.2.2.2.2.2])), (ad 1, .inr (1, [.int S.1.1, .int S.1.2.1, .int S.1.2.2.1, .int S.1.2.2.2.1, .int S.1.2.2.2.2, .ref (ad 2), .ref (ad 3), .ref (ad 4), .ref (ad 5)])), (ad 2, .inl (cI, 6, .inl S.2.1.1)), (ad 3, .inl (cI, 6, .inl S.2.1.2.1)), (ad 4, .inl (cI, 6, .inl S.2.1.2.2)), (ad 5, .inl (cJ, 3, .inr (.inr (.inr (.inr (fun i => if i < 3 then some (ra i) else none)))))), (ra 0, .inl (cI, nl, .inl (S.2.2 0))), (ra 1, .inl (cI, nl, .inl (S.2.2 1))), (ra 2, .inl (cI, nl, .inl (S.2.2 2))), (ad 9, .inl (cI, nn, .inl T_5.1)), (ad 10, .inr (2, [.ref (ad 11), .ref (ad 12), .int T_5.2.1.2.2])), (ad 11, .inl (cI, nn, .inl T_5.2.1.1)), (ad 12, .inl (cZ, nn, .inl T_5.2.1.2.1)), (ad 13, .inr (2, [.ref (ad 14), .ref (ad 15), .int T_5.2.2.1.2.2])), (ad 14, .inl (cI, nn, .inl T_5.2.2.1.1)), (ad 15, .inl (cZ, nn, .inl T_5.2.2.1.2.1)), (ad 16, .inr (0, [.ref (ad 17), .int T_5.2.2.2.1.2.1, .int T_5.2.2.2.1.2.2])), (ad 17, .inl (cI, 1250, .inl T_5.2.2.2.1.1))]) (w1 := wBR cI (ad 18) (ad 19) B_11) hP hD [18, 19] [0, 1, 2, 3, 4, 5, 6, 7, 8, 9, 10, 11, 12, 13, 14, 15, 16, 17] rfl rfl (by decide) (by decide) hk1 hFc hP1 hD1
            generalize H1 = H at hP hS ⊢
            have hP := hP.sub (ws' := wTT cI cZ cJ nl nn ad ra S (T_5.1, T_5.2.1, T_5.2.2.1, T_5.2.2.2.1, B_11, T_5.2.2.2.2.2)) [0, 1, 2, 3, 4, 5, 6, 7, 8, 9, 10, 11, 12, 13, 14, 15, 16, 17, 18, 19] rfl
            have hD := hD.sub (ws' := wTT cI cZ cJ nl nn ad ra S (T_5.1, T_5.2.1, T_5.2.2.1, T_5.2.2.2.1, B_11, T_5.2.2.2.2.2)) [0, 1, 2, 3, 4, 5, 6, 7, 8, 9, 10, 11, 12, 13, 14, 15, 16, 17, 18, 19] (by decide) rfl
            obtain ⟨x3_12, ex3_12⟩ : ∃ y : Int32, y = x3_6 + 1 := ⟨_, rfl⟩
            have hw := hw x3_12 ex3_12
            refine lv_iinc (v := x3_12) (lv' := [(3, .int x3_12), (2, .int x2_2), (0, .ref (ad 0)), (1, .int x1)]) hx hb dX3_pass_66 hl (k := 0) rfl (by rw [ex3_12]; rfl) (by decide) rfl (fun ls hl => ?_)
            refine lv_goto (tgt := 41) hx hb dX3_pass_69 (by decide) ?_
            exact ih41 (T_5.1, T_5.2.1, T_5.2.2.1, T_5.2.2.2.1, B_11, T_5.2.2.2.2.2) x3_12 hw _ _ _ hP hD hS (lv_sub hl [0, 1, 2, 3] rfl)
      exact hlp41 n_7 T_4 0 hw _ _ _ hP hD hS (lv_sub hl [0, 1, 2, 3] rfl)
  · have hw := hw.2 c_1
    exact vx_throwS (own := RX3) (cls := "java/lang/IllegalArgumentException") (names := exNames) hx hb hl9 hown (by decide +kernel) (by decide +kernel) (hT _ k_11) (hT _ k_12) (hZ.2.2.2 _ (List.mem_of_getElem? (i := 4) rfl)) (hat_63 hT hZ.2.2.1) hgd_63 hZ.1 hZ.2.1 hS (hl.1.trans hml.symm) dX3_pass_4 dX3_pass_7 dX3_pass_8 dX3_pass_10 dX3_pass_13 (fun x h => (hno x h).elim) (Nat.le_of_ble_eq_true rfl) (Nat.le_of_ble_eq_true rfl) (Nat.le_of_ble_eq_true rfl) (Nat.le_of_ble_eq_true rfl) hlocks (fun t ha hsz hk => ⟨("java/lang/IllegalArgumentException", T), hw, ⟨rfl, hP.kept (fun k q hq => hk q.1 (hP k q hq).lt), va_K.moved ha hK, hD⟩, Nat.le_trans hS.1 hsz, fun q h1 h2 => (hk q (Nat.lt_of_lt_of_le h1 hS.1)).trans (hS.2.1 q h1 h2)⟩) hS.2.2 (Nat.le_of_ble_eq_true rfl) (Nat.le_of_ble_eq_true rfl)
def wp_X3_known (post : Int32 → vTT → Prop) (px : String → vTT → Prop) (nl : Nat) (nn : Nat) (S : vSH) (T : vTT) (x1 : Int32) (x2 : Int32) : Prop := wp_X3_checkNode (fun T_1 => wp_X1_nodeAt (fun r_2 => vp_in r_2 nn ∧ (∀ x4_4 : Int32, x4_4 = T_1.2.2.1.1 r_2.toNatClampNeg → (vp_in r_2 nn ∧ ((((T_1.2.2.1.2.1 r_2.toNatClampNeg) = 0 → (post ((-1) - x4_4) T_1)) ∧ (¬ (T_1.2.2.1.2.1 r_2.toNatClampNeg) = 0 → (post x4_4 T_1))))))) nl S  0 x1 x2) (fun E T_1 => px E T_1) nl nn S T 0 x1 x2
abbrev rm_X3_known : Room := { frames := 7, cells := 1, slots := 6, locals := 105 }
set_option maxHeartbeats 4000000 in
set_option maxRecDepth 100000 in
theorem met_X3_known (l : Launch) (hl9 : l.stackTraces = false) (dC : Nat → ClassId) (dI : Nat → Nat → Nat) (cI cZ cJ cL : ClassId) (sa : Nat → Nat) (ad ra : Nat → Nat) (sz : Nat) (post : Int32 → vTT → Prop) (px : String → vTT → Prop) (nl : Nat) (nn : Nat) (S : vSH) (T : vTT) (x1 : Int32) (x2 : Int32) (hw : wp_X3_known post px nl nn S T x1 x2) : vx_Met l yX3_known wsX3_known rm_X3_known (pcX (dC, dI) (tysA cI cZ cJ cL) sa (wTT cI cZ cJ nl nn ad ra S T) sz [.ref (ad 0), .int x1, .int x2]) (va_Qi post (fun u t => qB (dC, dI) (tysA cI cZ cJ cL) (va_A (wTT cI cZ cJ nl nn ad ra S T) sz) (wTT cI cZ cJ nl nn ad ra S u) t) (va_A (wTT cI cZ cJ nl nn ad ra S T) sz)) (vx_X (fun u : String × vTT => px u.1 u.2) (fun E u t => E = u.1 ∧ qB (dC, dI) (tysA cI cZ cJ cL) (va_A (wTT cI cZ cJ nl nn ad ra S T) sz) (wTT cI cZ cJ nl nn ad ra S u.2) t) (va_A (wTT cI cZ cJ nl nn ad ra S T) sz)) 1 6 (va_A (wTT cI cZ cJ nl nn ad ra S T) sz) := by
  refine vx_ofW (cc := cX3_known) (maxL := 5) (ret := (some .int)) (by decide) rfl ?_
  intro p e s m args below meth c s₁ Bd hml hno hv
  obtain ⟨hargs, hsz, hP, hK, hD0, hZ⟩ := hv
  have hx := Bd.exec
  have hb := Bd.bytes
  have hr := Bd.returns
  have hts := atoms_spec (ws := wsX3_known) Bd.pre
  have hT : ∀ w ∈ WALL, w.before args s = true := fun w h => hts w (List.mem_cons_of_mem _ h)
  have hown : s.vm.findClass RX3 = some m.cls := findClass_of_methodNamed Bd.named
  have hlocks := Bd.notSynchronized
  subst hsz
  have hD := hD0.self (sz := s.heap.size)
  generalize hAe : va_A (wTT cI cZ cJ nl nn ad ra S T) s.heap.size = A at hD ⊢
  have hA : ∀ q : Nat, s.heap.size ≤ q → A q := fun q h => by rw [← hAe]; exact Or.inr h
  have hS : va_S A s.heap s.heap [] := va_S.rf
  rw [hAe] at hZ
  have hP : va_P (dC, dI) vwCl (wTT cI cZ cJ nl nn ad ra S T) s.heap := hP
  have hl := lv_entry ([.ref (ad 0), .int x1, .int x2]) (n := 5) (Nat.le_of_ble_eq_true rfl)
  rw [show entryFrame m args 5 = F0 m 0 _ [] from by rw [hargs]; exact lg_entry_eq m ([.ref (ad 0), .int x1, .int x2]) 5]
  generalize (lg_sl ([.ref (ad 0), .int x1, .int x2]) ++ List.replicate (5 - (lg_sl ([.ref (ad 0), .int x1, .int x2])).length) Slot.unset).toArray = ls at hl ⊢
  have hl : lv_has ls 5 [(0, .ref (ad 0)), (1, .int x1), (2, .int x2)] := hl
  obtain ⟨H, hH⟩ : ∃ z : Heap, z = s.heap := ⟨_, rfl⟩
  obtain ⟨locs, hlocs⟩ : ∃ z : List Loc, z = [] := ⟨_, rfl⟩
  rw [show W p l e (headSpec wsX3_known rm_X3_known).room s m args below meth c s.heap [] 0 0 = W p l e (headSpec wsX3_known rm_X3_known).room s m args below meth c H locs 0 0 from by rw [hH, hlocs]]
  have hP : va_P (dC, dI) vwCl (wTT cI cZ cJ nl nn ad ra S T) H := by rw [hH]; exact hP
  have hS : va_S A s.heap H locs := by rw [hH, hlocs]; exact hS
  unfold wp_X3_known at hw
  refine lv_aload_n hx hb dX3_known_0 rfl (lv_at hl 0 rfl) ?_
  refine lv_iconst (v := 0) hx hb dX3_known_1 (by decide) ?_
  refine lv_iload_n hx hb dX3_known_2 rfl (lv_at hl 1 rfl) ?_
  refine lv_iload_n hx hb dX3_known_3 rfl (lv_at hl 2 rfl) ?_
  have hPc := hP
  have hDc := hD
  have hFc := va_free (wc := wTT cI cZ cJ nl nn ad ra S T) hD hS hA [0, 1, 2, 3, 4, 5, 6, 7, 8, 9, 10, 11, 12, 13, 14, 15, 16, 17, 18, 19] rfl
  refine vx_callv (vx_runV (As := [.int 0, .int x1, .int x2]) (rest := []) ⟨hx, hb, hml, hown, hT⟩ (met_X3_checkNode l hl9 dC dI cI cZ cJ cL sa ad ra H.size _ _ nl nn S T 0 x1 x2 hw) (cwV 3 hT (gV k_136 k_138 k_139 k_51 k_137) rfl rfl rfl (by decide +kernel) ⟨(Nat.le_of_ble_eq_true rfl), (Nat.le_of_ble_eq_true rfl)⟩) ⟨bl_X, va_recv hK hPc (ci := 3) (q0 := 0) rfl rfl, fun U hU hW => ⟨rfl, by rw [hU], by rw [hU]; exact hPc, va_K.moved hW.alike hK, hDc.weaken (fun _ _ _ _ => trivial), hZ.call hW hU hS hFc⟩⟩ rfl rfl hl.1 rfl (lv_room (Nat.le_of_ble_eq_true rfl)) dX3_known_4 ⟨Nat.le_of_ble_eq_true rfl, Nat.le_of_ble_eq_true rfl⟩) hS (fun q _ h => hFc q h) hFc (fun q _ h => hFc q h) (fun E ce q9 u9 t H1 locs ht hvm hw hB hz1 hk1 hS hce hcv hcl => ?_) (fun T_1 t H1 locs ht hvm hw hB hz1 hk1 hS => ?_)
  · obtain ⟨E9, T_1⟩ := u9
    obtain ⟨rfl, hP1, -, hD1⟩ := hB
    try dsimp only at hw
    rw [ht] at hP1
    obtain ⟨hP, hD⟩ := va_join (wr := []) (w1 := wTT cI cZ cJ nl nn ad ra S T_1) hP hD [0, 1, 2, 3, 4, 5, 6, 7, 8, 9, 10, 11, 12, 13, 14, 15, 16, 17, 18, 19] [] rfl rfl (by decide) (by decide) hk1 hFc hP1 hD1
    generalize H1 = H at hP hS hce ⊢
    have hP := hP.sub (ws' := wTT cI cZ cJ nl nn ad ra S T_1) [0, 1, 2, 3, 4, 5, 6, 7, 8, 9, 10, 11, 12, 13, 14, 15, 16, 17, 18, 19] rfl
    have hD := hD.sub (ws' := wTT cI cZ cJ nl nn ad ra S T_1) [0, 1, 2, 3, 4, 5, 6, 7, 8, 9, 10, 11, 12, 13, 14, 15, 16, 17, 18, 19] (by decide) rfl
    exact vx_out (fun x h => (hno x h).elim) hlocks hce hcv hcl (fun t ht ha => ⟨(E, T_1), hw, ⟨rfl, by rw [ht]; exact hP, va_K.moved ha hK, hD⟩, hS.F ht⟩) hS.2.2 (Nat.le_of_ble_eq_true rfl) (Nat.le_of_ble_eq_true rfl)
  · obtain ⟨hP1, -, hD1⟩ := hB
    try dsimp only at hw
    rw [ht] at hP1
    obtain ⟨hP, hD⟩ := va_join (wr := []) (w1 := wTT cI cZ cJ nl nn ad ra S T_1) hP hD [0, 1, 2, 3, 4, 5, 6, 7, 8, 9, 10, 11, 12, 13, 14, 15, 16, 17, 18, 19] [] rfl rfl (by decide) (by decide) hk1 hFc hP1 hD1
    generalize H1 = H at hP hS ⊢
    have hP := hP.sub (ws' := wTT cI cZ cJ nl nn ad ra S T_1) [0, 1, 2, 3, 4, 5, 6, 7, 8, 9, 10, 11, 12, 13, 14, 15, 16, 17, 18, 19] rfl
    have hD := hD.sub (ws' := wTT cI cZ cJ nl nn ad ra S T_1) [0, 1, 2, 3, 4, 5, 6, 7, 8, 9, 10, 11, 12, 13, 14, 15, 16, 17, 18, 19] (by decide) rfl
    refine lv_aload_n hx hb dX3_known_7 rfl (lv_at hl 0 rfl) ?_
    refine va_get (D := (dC, dI)) (ci := 3) (v := .ref (ad 1)) (C := RX3) (T := TX3) (N := 7) hx hb hT inX3 hown hK hP 0 rfl rfl 0 (by decide) (hT _ k_0) (fun _ h9 => h9) rfl dX3_known_8 ?_
    refine lv_iconst (v := 0) hx hb dX3_known_11 (by decide) ?_
    refine lv_iload_n hx hb dX3_known_12 rfl (lv_at hl 1 rfl) ?_
    refine lv_iload_n hx hb dX3_known_13 rfl (lv_at hl 2 rfl) ?_
    have hPc := hP.sub (ws' := wSH cI cJ nl (ad 1) (ad 2) (ad 3) (ad 4) (ad 5) ra S) [1, 2, 3, 4, 5, 6, 7, 8] rfl
    refine vp_callSi (W.runV (As := [.int 0, .int x1, .int x2]) (rest := []) ⟨hx, hb, hml, hown, hT⟩ (met_X1_nodeAt l dC dI cI cZ cJ cL (ad 1) (ad 2) (ad 3) (ad 4) (ad 5) ra _ nl S  0 x1 x2 hw) (cwV 3 hT (gV k_64 k_66 k_67 k_59 k_65) rfl rfl rfl (by decide +kernel) ⟨(Nat.le_of_ble_eq_true rfl), (Nat.le_of_ble_eq_true rfl)⟩) ⟨bl_R, va_recv hK hPc (ci := 1) (q0 := 0) rfl rfl, fun U hU hW => ⟨rfl, by rw [hU]; exact hPc, va_K.moved hW.alike hK⟩⟩ rfl rfl hl.1 rfl (lv_room (Nat.le_of_ble_eq_true rfl)) dX3_known_14 ⟨Nat.le_of_ble_eq_true rfl, Nat.le_of_ble_eq_true rfl⟩) (fun r_2 hw => ?_)
    try dsimp only at hw
    refine lv_istore_n (lv' := [(3, .int r_2), (0, .ref (ad 0)), (1, .int x1), (2, .int x2)]) hx hb dX3_known_17 rfl hl (by decide) rfl (fun ls hl => ?_)
    refine lv_aload_n hx hb dX3_known_18 rfl (lv_at hl 1 rfl) ?_
    refine va_get (D := (dC, dI)) (ci := 3) (v := .ref (ad 13)) (C := RX3) (T := TX3) (N := 7) hx hb hT inX3 hown hK hP 0 rfl rfl 3 (by decide) (hT _ k_10) (fun _ h9 => h9) rfl dX3_known_19 ?_
    refine va_get (D := (dC, dI)) (ci := 2) (v := .ref (ad 14)) (C := RX2) (T := TX2) (N := 3) hx hb hT inX2 hown hK hP 13 rfl rfl 0 (by decide) (hT _ k_140) (fun _ h9 => h9) rfl dX3_known_22 ?_
    refine lv_iload_n hx hb dX3_known_25 rfl (lv_at hl 0 rfl) ?_
    obtain ⟨h_3, hw⟩ := hw
    refine va_iald hx hb hK hP 14 0 rfl rfl h_3 dX3_known_26 ?_
    refine lv_topi (fun x4_4 ex4_4 => ?_)
    have hw := hw x4_4 ex4_4
    refine lv_istore (lv' := [(4, .int x4_4), (3, .int r_2), (0, .ref (ad 0)), (1, .int x1), (2, .int x2)]) hx hb dX3_known_27 hl (by decide) rfl (fun ls hl => ?_)
    refine lv_aload_n hx hb dX3_known_29 rfl (lv_at hl 2 rfl) ?_
    refine va_get (D := (dC, dI)) (ci := 3) (v := .ref (ad 13)) (C := RX3) (T := TX3) (N := 7) hx hb hT inX3 hown hK hP 0 rfl rfl 3 (by decide) (hT _ k_10) (fun _ h9 => h9) rfl dX3_known_30 ?_
    refine va_get (D := (dC, dI)) (ci := 2) (v := .ref (ad 15)) (C := RX2) (T := TX2) (N := 3) hx hb hT inX2 hown hK hP 13 rfl rfl 1 (by decide) (hT _ k_18) (fun _ h9 => h9) rfl dX3_known_33 ?_
    refine lv_iload_n hx hb dX3_known_36 rfl (lv_at hl 1 rfl) ?_
    obtain ⟨h_5, hw⟩ := hw
    refine va_zald hx hb hK hP 15 1 rfl rfl h_5 dX3_known_37 ?_
    refine lv_if_eq (tgt := 46) hx hb dX3_known_38 (by decide) (fun c_6 => ?_) (fun c_6 => ?_)
    · have hw := hw.1 c_6
      refine lv_iconst (v := (-1)) hx hb dX3_known_46 (by decide) ?_
      refine lv_iload hx hb dX3_known_47 (lv_at hl 0 rfl) ?_
      refine lv_isub hx hb dX3_known_49 ?_
      exact vx_ret (W.iret (v := ((-1) - x4_4)) hx hb hr (fun t ht hW => ⟨⟨((-1) - x4_4), T_1, rfl, hw, by rw [ht]; exact hP, va_K.moved hW.alike hK, hD⟩, hS.F ht⟩) hS.2.2 dX3_known_50)
    · have hw := hw.2 c_6
      refine lv_iload hx hb dX3_known_41 (lv_at hl 0 rfl) ?_
      refine lv_goto (tgt := 50) hx hb dX3_known_43 (by decide) ?_
      exact vx_ret (W.iret (v := x4_4) hx hb hr (fun t ht hW => ⟨⟨x4_4, T_1, rfl, hw, by rw [ht]; exact hP, va_K.moved hW.alike hK, hD⟩, hS.F ht⟩) hS.2.2 dX3_known_50)
def wp_X3_bound (post : Int32 → vTT → Prop) (px : String → vTT → Prop) (nl : Nat) (nn : Nat) (S : vSH) (T : vTT) (x1 : Int32) (x2 : Int32) (x3 : Int32) (x4 : Int32) : Prop := wp_X3_checkNode (fun T_1 => ((x1 = 0 → (wp_X1_nodeAt (fun r_3 => vp_in r_3 nn ∧ (post (T_1.2.2.1.1 r_3.toNatClampNeg) T_1)) nl S  x2 x3 x4)) ∧ (¬ x1 = 0 → (wp_X1_nodeAt (fun r_5 => vp_in r_5 nn ∧ (post (T_1.2.1.1 r_5.toNatClampNeg) T_1)) nl S  x2 x3 x4)))) (fun E T_1 => px E T_1) nl nn S T x2 x3 x4
abbrev rm_X3_bound : Room := { frames := 7, cells := 1, slots := 6, locals := 105 }
set_option maxHeartbeats 4000000 in
set_option maxRecDepth 100000 in
theorem met_X3_bound (l : Launch) (hl9 : l.stackTraces = false) (dC : Nat → ClassId) (dI : Nat → Nat → Nat) (cI cZ cJ cL : ClassId) (sa : Nat → Nat) (ad ra : Nat → Nat) (sz : Nat) (post : Int32 → vTT → Prop) (px : String → vTT → Prop) (nl : Nat) (nn : Nat) (S : vSH) (T : vTT) (x1 : Int32) (x2 : Int32) (x3 : Int32) (x4 : Int32) (hw : wp_X3_bound post px nl nn S T x1 x2 x3 x4) : vx_Met l yX3_bound wsX3_bound rm_X3_bound (pcX (dC, dI) (tysA cI cZ cJ cL) sa (wTT cI cZ cJ nl nn ad ra S T) sz [.ref (ad 0), .int x1, .int x2, .int x3, .int x4]) (va_Qi post (fun u t => qB (dC, dI) (tysA cI cZ cJ cL) (va_A (wTT cI cZ cJ nl nn ad ra S T) sz) (wTT cI cZ cJ nl nn ad ra S u) t) (va_A (wTT cI cZ cJ nl nn ad ra S T) sz)) (vx_X (fun u : String × vTT => px u.1 u.2) (fun E u t => E = u.1 ∧ qB (dC, dI) (tysA cI cZ cJ cL) (va_A (wTT cI cZ cJ nl nn ad ra S T) sz) (wTT cI cZ cJ nl nn ad ra S u.2) t) (va_A (wTT cI cZ cJ nl nn ad ra S T) sz)) 1 6 (va_A (wTT cI cZ cJ nl nn ad ra S T) sz) := by
  refine vx_ofW (cc := cX3_bound) (maxL := 6) (ret := (some .int)) (by decide) rfl ?_
  intro p e s m args below meth c s₁ Bd hml hno hv
  obtain ⟨hargs, hsz, hP, hK, hD0, hZ⟩ := hv
  have hx := Bd.exec
  have hb := Bd.bytes
  have hr := Bd.returns
  have hts := atoms_spec (ws := wsX3_bound) Bd.pre
  have hT : ∀ w ∈ WALL, w.before args s = true := fun w h => hts w (List.mem_cons_of_mem _ h)
  have hown : s.vm.findClass RX3 = some m.cls := findClass_of_methodNamed Bd.named
  have hlocks := Bd.notSynchronized
  subst hsz
  have hD := hD0.self (sz := s.heap.size)
  generalize hAe : va_A (wTT cI cZ cJ nl nn ad ra S T) s.heap.size = A at hD ⊢
  have hA : ∀ q : Nat, s.heap.size ≤ q → A q := fun q h => by rw [← hAe]; exact Or.inr h
  have hS : va_S A s.heap s.heap [] := va_S.rf
  rw [hAe] at hZ
  have hP : va_P (dC, dI) vwCl (wTT cI cZ cJ nl nn ad ra S T) s.heap := hP
  have hl := lv_entry ([.ref (ad 0), .int x1, .int x2, .int x3, .int x4]) (n := 6) (Nat.le_of_ble_eq_true rfl)
  rw [show entryFrame m args 6 = F0 m 0 _ [] from by rw [hargs]; exact lg_entry_eq m ([.ref (ad 0), .int x1, .int x2, .int x3, .int x4]) 6]
  generalize (lg_sl ([.ref (ad 0), .int x1, .int x2, .int x3, .int x4]) ++ List.replicate (6 - (lg_sl ([.ref (ad 0), .int x1, .int x2, .int x3, .int x4])).length) Slot.unset).toArray = ls at hl ⊢
  have hl : lv_has ls 6 [(0, .ref (ad 0)), (1, .int x1), (2, .int x2), (3, .int x3), (4, .int x4)] := hl
  obtain ⟨H, hH⟩ : ∃ z : Heap, z = s.heap := ⟨_, rfl⟩
  obtain ⟨locs, hlocs⟩ : ∃ z : List Loc, z = [] := ⟨_, rfl⟩
  rw [show W p l e (headSpec wsX3_bound rm_X3_bound).room s m args below meth c s.heap [] 0 0 = W p l e (headSpec wsX3_bound rm_X3_bound).room s m args below meth c H locs 0 0 from by rw [hH, hlocs]]
  have hP : va_P (dC, dI) vwCl (wTT cI cZ cJ nl nn ad ra S T) H := by rw [hH]; exact hP
  have hS : va_S A s.heap H locs := by rw [hH, hlocs]; exact hS
  unfold wp_X3_bound at hw
  refine lv_aload_n hx hb dX3_bound_0 rfl (lv_at hl 0 rfl) ?_
  refine lv_iload_n hx hb dX3_bound_1 rfl (lv_at hl 2 rfl) ?_
  refine lv_iload_n hx hb dX3_bound_2 rfl (lv_at hl 3 rfl) ?_
  refine lv_iload hx hb dX3_bound_3 (lv_at hl 4 rfl) ?_
  have hPc := hP
  have hDc := hD
  have hFc := va_free (wc := wTT cI cZ cJ nl nn ad ra S T) hD hS hA [0, 1, 2, 3, 4, 5, 6, 7, 8, 9, 10, 11, 12, 13, 14, 15, 16, 17, 18, 19] rfl
  refine vx_callv (vx_runV (As := [.int x2, .int x3, .int x4]) (rest := []) ⟨hx, hb, hml, hown, hT⟩ (met_X3_checkNode l hl9 dC dI cI cZ cJ cL sa ad ra H.size _ _ nl nn S T x2 x3 x4 hw) (cwV 3 hT (gV k_136 k_138 k_139 k_51 k_137) rfl rfl rfl (by decide +kernel) ⟨(Nat.le_of_ble_eq_true rfl), (Nat.le_of_ble_eq_true rfl)⟩) ⟨bl_X, va_recv hK hPc (ci := 3) (q0 := 0) rfl rfl, fun U hU hW => ⟨rfl, by rw [hU], by rw [hU]; exact hPc, va_K.moved hW.alike hK, hDc.weaken (fun _ _ _ _ => trivial), hZ.call hW hU hS hFc⟩⟩ rfl rfl hl.1 rfl (lv_room (Nat.le_of_ble_eq_true rfl)) dX3_bound_5 ⟨Nat.le_of_ble_eq_true rfl, Nat.le_of_ble_eq_true rfl⟩) hS (fun q _ h => hFc q h) hFc (fun q _ h => hFc q h) (fun E ce q9 u9 t H1 locs ht hvm hw hB hz1 hk1 hS hce hcv hcl => ?_) (fun T_1 t H1 locs ht hvm hw hB hz1 hk1 hS => ?_)
  · obtain ⟨E9, T_1⟩ := u9
    obtain ⟨rfl, hP1, -, hD1⟩ := hB
    try dsimp only at hw
    rw [ht] at hP1
    obtain ⟨hP, hD⟩ := va_join (wr := []) (w1 := wTT cI cZ cJ nl nn ad ra S T_1) hP hD [0, 1, 2, 3, 4, 5, 6, 7, 8, 9, 10, 11, 12, 13, 14, 15, 16, 17, 18, 19] [] rfl rfl (by decide) (by decide) hk1 hFc hP1 hD1
    generalize H1 = H at hP hS hce ⊢
    have hP := hP.sub (ws' := wTT cI cZ cJ nl nn ad ra S T_1) [0, 1, 2, 3, 4, 5, 6, 7, 8, 9, 10, 11, 12, 13, 14, 15, 16, 17, 18, 19] rfl
    have hD := hD.sub (ws' := wTT cI cZ cJ nl nn ad ra S T_1) [0, 1, 2, 3, 4, 5, 6, 7, 8, 9, 10, 11, 12, 13, 14, 15, 16, 17, 18, 19] (by decide) rfl
    exact vx_out (fun x h => (hno x h).elim) hlocks hce hcv hcl (fun t ht ha => ⟨(E, T_1), hw, ⟨rfl, by rw [ht]; exact hP, va_K.moved ha hK, hD⟩, hS.F ht⟩) hS.2.2 (Nat.le_of_ble_eq_true rfl) (Nat.le_of_ble_eq_true rfl)
  · obtain ⟨hP1, -, hD1⟩ := hB
    try dsimp only at hw
    rw [ht] at hP1
    obtain ⟨hP, hD⟩ := va_join (wr := []) (w1 := wTT cI cZ cJ nl nn ad ra S T_1) hP hD [0, 1, 2, 3, 4, 5, 6, 7, 8, 9, 10, 11, 12, 13, 14, 15, 16, 17, 18, 19] [] rfl rfl (by decide) (by decide) hk1 hFc hP1 hD1
    generalize H1 = H at hP hS ⊢
    have hP := hP.sub (ws' := wTT cI cZ cJ nl nn ad ra S T_1) [0, 1, 2, 3, 4, 5, 6, 7, 8, 9, 10, 11, 12, 13, 14, 15, 16, 17, 18, 19] rfl
    have hD := hD.sub (ws' := wTT cI cZ cJ nl nn ad ra S T_1) [0, 1, 2, 3, 4, 5, 6, 7, 8, 9, 10, 11, 12, 13, 14, 15, 16, 17, 18, 19] (by decide) rfl
    refine lv_iload_n hx hb dX3_bound_8 rfl (lv_at hl 1 rfl) ?_
    refine lv_if_eq (tgt := 19) hx hb dX3_bound_9 (by decide) (fun c_2 => ?_) (fun c_2 => ?_)
    · have hw := hw.1 c_2
      refine lv_aload_n hx hb dX3_bound_19 rfl (lv_at hl 0 rfl) ?_
      refine va_get (D := (dC, dI)) (ci := 3) (v := .ref (ad 13)) (C := RX3) (T := TX3) (N := 7) hx hb hT inX3 hown hK hP 0 rfl rfl 3 (by decide) (hT _ k_10) (fun _ h9 => h9) rfl dX3_bound_20 ?_
      refine lv_astore (lv' := [(5, .ref (ad 13)), (0, .ref (ad 0)), (1, .int x1), (2, .int x2), (3, .int x3), (4, .int x4)]) hx hb dX3_bound_23 hl (by decide) rfl (fun ls hl => ?_)
      refine lv_aload hx hb dX3_bound_25 (lv_at hl 0 rfl) ?_
      refine va_get (D := (dC, dI)) (ci := 2) (v := .ref (ad 14)) (C := RX2) (T := TX2) (N := 3) hx hb hT inX2 hown hK hP 13 rfl rfl 0 (by decide) (hT _ k_140) (fun _ h9 => h9) rfl dX3_bound_27 ?_
      refine lv_aload_n hx hb dX3_bound_30 rfl (lv_at hl 1 rfl) ?_
      refine va_get (D := (dC, dI)) (ci := 3) (v := .ref (ad 1)) (C := RX3) (T := TX3) (N := 7) hx hb hT inX3 hown hK hP 0 rfl rfl 0 (by decide) (hT _ k_0) (fun _ h9 => h9) rfl dX3_bound_31 ?_
      refine lv_iload_n hx hb dX3_bound_34 rfl (lv_at hl 3 rfl) ?_
      refine lv_iload_n hx hb dX3_bound_35 rfl (lv_at hl 4 rfl) ?_
      refine lv_iload hx hb dX3_bound_36 (lv_at hl 5 rfl) ?_
      have hPc := hP.sub (ws' := wSH cI cJ nl (ad 1) (ad 2) (ad 3) (ad 4) (ad 5) ra S) [1, 2, 3, 4, 5, 6, 7, 8] rfl
      refine vp_callSi (W.runV (As := [.int x2, .int x3, .int x4]) (rest := [.ref (ad 14)]) ⟨hx, hb, hml, hown, hT⟩ (met_X1_nodeAt l dC dI cI cZ cJ cL (ad 1) (ad 2) (ad 3) (ad 4) (ad 5) ra _ nl S  x2 x3 x4 hw) (cwV 3 hT (gV k_64 k_66 k_67 k_59 k_65) rfl rfl rfl (by decide +kernel) ⟨(Nat.le_of_ble_eq_true rfl), (Nat.le_of_ble_eq_true rfl)⟩) ⟨bl_R, va_recv hK hPc (ci := 1) (q0 := 0) rfl rfl, fun U hU hW => ⟨rfl, by rw [hU]; exact hPc, va_K.moved hW.alike hK⟩⟩ rfl rfl hl.1 rfl (lv_room (Nat.le_of_ble_eq_true rfl)) dX3_bound_38 ⟨Nat.le_of_ble_eq_true rfl, Nat.le_of_ble_eq_true rfl⟩) (fun r_3 hw => ?_)
      try dsimp only at hw
      obtain ⟨h_4, hw⟩ := hw
      refine va_iald hx hb hK hP 14 0 rfl rfl h_4 dX3_bound_41 ?_
      exact vx_ret (W.iret (v := (T_1.2.2.1.1 r_3.toNatClampNeg)) hx hb hr (fun t ht hW => ⟨⟨(T_1.2.2.1.1 r_3.toNatClampNeg), T_1, rfl, hw, by rw [ht]; exact hP, va_K.moved hW.alike hK, hD⟩, hS.F ht⟩) hS.2.2 dX3_bound_42)
    · have hw := hw.2 c_2
      refine lv_aload_n hx hb dX3_bound_12 rfl (lv_at hl 0 rfl) ?_
      refine va_get (D := (dC, dI)) (ci := 3) (v := .ref (ad 10)) (C := RX3) (T := TX3) (N := 7) hx hb hT inX3 hown hK hP 0 rfl rfl 2 (by decide) (hT _ k_8) (fun _ h9 => h9) rfl dX3_bound_13 ?_
      refine lv_goto (tgt := 23) hx hb dX3_bound_16 (by decide) ?_
      refine lv_astore (lv' := [(5, .ref (ad 10)), (0, .ref (ad 0)), (1, .int x1), (2, .int x2), (3, .int x3), (4, .int x4)]) hx hb dX3_bound_23 hl (by decide) rfl (fun ls hl => ?_)
      refine lv_aload hx hb dX3_bound_25 (lv_at hl 0 rfl) ?_
      refine va_get (D := (dC, dI)) (ci := 2) (v := .ref (ad 11)) (C := RX2) (T := TX2) (N := 3) hx hb hT inX2 hown hK hP 10 rfl rfl 0 (by decide) (hT _ k_140) (fun _ h9 => h9) rfl dX3_bound_27 ?_
      refine lv_aload_n hx hb dX3_bound_30 rfl (lv_at hl 1 rfl) ?_
      refine va_get (D := (dC, dI)) (ci := 3) (v := .ref (ad 1)) (C := RX3) (T := TX3) (N := 7) hx hb hT inX3 hown hK hP 0 rfl rfl 0 (by decide) (hT _ k_0) (fun _ h9 => h9) rfl dX3_bound_31 ?_
      refine lv_iload_n hx hb dX3_bound_34 rfl (lv_at hl 3 rfl) ?_
      refine lv_iload_n hx hb dX3_bound_35 rfl (lv_at hl 4 rfl) ?_
      refine lv_iload hx hb dX3_bound_36 (lv_at hl 5 rfl) ?_
      have hPc := hP.sub (ws' := wSH cI cJ nl (ad 1) (ad 2) (ad 3) (ad 4) (ad 5) ra S) [1, 2, 3, 4, 5, 6, 7, 8] rfl
      refine vp_callSi (W.runV (As := [.int x2, .int x3, .int x4]) (rest := [.ref (ad 11)]) ⟨hx, hb, hml, hown, hT⟩ (met_X1_nodeAt l dC dI cI cZ cJ cL (ad 1) (ad 2) (ad 3) (ad 4) (ad 5) ra _ nl S  x2 x3 x4 hw) (cwV 3 hT (gV k_64 k_66 k_67 k_59 k_65) rfl rfl rfl (by decide +kernel) ⟨(Nat.le_of_ble_eq_true rfl), (Nat.le_of_ble_eq_true rfl)⟩) ⟨bl_R, va_recv hK hPc (ci := 1) (q0 := 0) rfl rfl, fun U hU hW => ⟨rfl, by rw [hU]; exact hPc, va_K.moved hW.alike hK⟩⟩ rfl rfl hl.1 rfl (lv_room (Nat.le_of_ble_eq_true rfl)) dX3_bound_38 ⟨Nat.le_of_ble_eq_true rfl, Nat.le_of_ble_eq_true rfl⟩) (fun r_5 hw => ?_)
      try dsimp only at hw
      obtain ⟨h_6, hw⟩ := hw
      refine va_iald hx hb hK hP 11 0 rfl rfl h_6 dX3_bound_41 ?_
      exact vx_ret (W.iret (v := (T_1.2.1.1 r_5.toNatClampNeg)) hx hb hr (fun t ht hW => ⟨⟨(T_1.2.1.1 r_5.toNatClampNeg), T_1, rfl, hw, by rw [ht]; exact hP, va_K.moved hW.alike hK, hD⟩, hS.F ht⟩) hS.2.2 dX3_bound_42)
def wp_X3_least (post : Int32 → vTT → Prop) (px : String → vTT → Prop) (nl : Nat) (nn : Nat) (S : vSH) (T : vTT) (x1 : Int32) (x2 : Int32) (x3 : Int32) : Prop := wp_X3_checkNode (fun T_1 => wp_X1_nodeAt (fun r_2 => vp_in r_2 nn ∧ (post (T_1.1 r_2.toNatClampNeg) T_1)) nl S  x1 x2 x3) (fun E T_1 => px E T_1) nl nn S T x1 x2 x3
abbrev rm_X3_least : Room := { frames := 7, cells := 1, slots := 6, locals := 105 }
set_option maxHeartbeats 4000000 in
set_option maxRecDepth 100000 in
theorem met_X3_least (l : Launch) (hl9 : l.stackTraces = false) (dC : Nat → ClassId) (dI : Nat → Nat → Nat) (cI cZ cJ cL : ClassId) (sa : Nat → Nat) (ad ra : Nat → Nat) (sz : Nat) (post : Int32 → vTT → Prop) (px : String → vTT → Prop) (nl : Nat) (nn : Nat) (S : vSH) (T : vTT) (x1 : Int32) (x2 : Int32) (x3 : Int32) (hw : wp_X3_least post px nl nn S T x1 x2 x3) : vx_Met l yX3_least wsX3_least rm_X3_least (pcX (dC, dI) (tysA cI cZ cJ cL) sa (wTT cI cZ cJ nl nn ad ra S T) sz [.ref (ad 0), .int x1, .int x2, .int x3]) (va_Qi post (fun u t => qB (dC, dI) (tysA cI cZ cJ cL) (va_A (wTT cI cZ cJ nl nn ad ra S T) sz) (wTT cI cZ cJ nl nn ad ra S u) t) (va_A (wTT cI cZ cJ nl nn ad ra S T) sz)) (vx_X (fun u : String × vTT => px u.1 u.2) (fun E u t => E = u.1 ∧ qB (dC, dI) (tysA cI cZ cJ cL) (va_A (wTT cI cZ cJ nl nn ad ra S T) sz) (wTT cI cZ cJ nl nn ad ra S u.2) t) (va_A (wTT cI cZ cJ nl nn ad ra S T) sz)) 1 6 (va_A (wTT cI cZ cJ nl nn ad ra S T) sz) := by
  refine vx_ofW (cc := cX3_least) (maxL := 4) (ret := (some .int)) (by decide) rfl ?_
  intro p e s m args below meth c s₁ Bd hml hno hv
  obtain ⟨hargs, hsz, hP, hK, hD0, hZ⟩ := hv
  have hx := Bd.exec
  have hb := Bd.bytes
  have hr := Bd.returns
  have hts := atoms_spec (ws := wsX3_least) Bd.pre
  have hT : ∀ w ∈ WALL, w.before args s = true := fun w h => hts w (List.mem_cons_of_mem _ h)
  have hown : s.vm.findClass RX3 = some m.cls := findClass_of_methodNamed Bd.named
  have hlocks := Bd.notSynchronized
  subst hsz
  have hD := hD0.self (sz := s.heap.size)
  generalize hAe : va_A (wTT cI cZ cJ nl nn ad ra S T) s.heap.size = A at hD ⊢
  have hA : ∀ q : Nat, s.heap.size ≤ q → A q := fun q h => by rw [← hAe]; exact Or.inr h
  have hS : va_S A s.heap s.heap [] := va_S.rf
  rw [hAe] at hZ
  have hP : va_P (dC, dI) vwCl (wTT cI cZ cJ nl nn ad ra S T) s.heap := hP
  have hl := lv_entry ([.ref (ad 0), .int x1, .int x2, .int x3]) (n := 4) (Nat.le_of_ble_eq_true rfl)
  rw [show entryFrame m args 4 = F0 m 0 _ [] from by rw [hargs]; exact lg_entry_eq m ([.ref (ad 0), .int x1, .int x2, .int x3]) 4]
  generalize (lg_sl ([.ref (ad 0), .int x1, .int x2, .int x3]) ++ List.replicate (4 - (lg_sl ([.ref (ad 0), .int x1, .int x2, .int x3])).length) Slot.unset).toArray = ls at hl ⊢
  have hl : lv_has ls 4 [(0, .ref (ad 0)), (1, .int x1), (2, .int x2), (3, .int x3)] := hl
  obtain ⟨H, hH⟩ : ∃ z : Heap, z = s.heap := ⟨_, rfl⟩
  obtain ⟨locs, hlocs⟩ : ∃ z : List Loc, z = [] := ⟨_, rfl⟩
  rw [show W p l e (headSpec wsX3_least rm_X3_least).room s m args below meth c s.heap [] 0 0 = W p l e (headSpec wsX3_least rm_X3_least).room s m args below meth c H locs 0 0 from by rw [hH, hlocs]]
  have hP : va_P (dC, dI) vwCl (wTT cI cZ cJ nl nn ad ra S T) H := by rw [hH]; exact hP
  have hS : va_S A s.heap H locs := by rw [hH, hlocs]; exact hS
  unfold wp_X3_least at hw
  refine lv_aload_n hx hb dX3_least_0 rfl (lv_at hl 0 rfl) ?_
  refine lv_iload_n hx hb dX3_least_1 rfl (lv_at hl 1 rfl) ?_
  refine lv_iload_n hx hb dX3_least_2 rfl (lv_at hl 2 rfl) ?_
  refine lv_iload_n hx hb dX3_least_3 rfl (lv_at hl 3 rfl) ?_
  have hPc := hP
  have hDc := hD
  have hFc := va_free (wc := wTT cI cZ cJ nl nn ad ra S T) hD hS hA [0, 1, 2, 3, 4, 5, 6, 7, 8, 9, 10, 11, 12, 13, 14, 15, 16, 17, 18, 19] rfl
  refine vx_callv (vx_runV (As := [.int x1, .int x2, .int x3]) (rest := []) ⟨hx, hb, hml, hown, hT⟩ (met_X3_checkNode l hl9 dC dI cI cZ cJ cL sa ad ra H.size _ _ nl nn S T x1 x2 x3 hw) (cwV 3 hT (gV k_136 k_138 k_139 k_51 k_137) rfl rfl rfl (by decide +kernel) ⟨(Nat.le_of_ble_eq_true rfl), (Nat.le_of_ble_eq_true rfl)⟩) ⟨bl_X, va_recv hK hPc (ci := 3) (q0 := 0) rfl rfl, fun U hU hW => ⟨rfl, by rw [hU], by rw [hU]; exact hPc, va_K.moved hW.alike hK, hDc.weaken (fun _ _ _ _ => trivial), hZ.call hW hU hS hFc⟩⟩ rfl rfl hl.1 rfl (lv_room (Nat.le_of_ble_eq_true rfl)) dX3_least_4 ⟨Nat.le_of_ble_eq_true rfl, Nat.le_of_ble_eq_true rfl⟩) hS (fun q _ h => hFc q h) hFc (fun q _ h => hFc q h) (fun E ce q9 u9 t H1 locs ht hvm hw hB hz1 hk1 hS hce hcv hcl => ?_) (fun T_1 t H1 locs ht hvm hw hB hz1 hk1 hS => ?_)
  · obtain ⟨E9, T_1⟩ := u9
    obtain ⟨rfl, hP1, -, hD1⟩ := hB
    try dsimp only at hw
    rw [ht] at hP1
    obtain ⟨hP, hD⟩ := va_join (wr := []) (w1 := wTT cI cZ cJ nl nn ad ra S T_1) hP hD [0, 1, 2, 3, 4, 5, 6, 7, 8, 9, 10, 11, 12, 13, 14, 15, 16, 17, 18, 19] [] rfl rfl (by decide) (by decide) hk1 hFc hP1 hD1
    generalize H1 = H at hP hS hce ⊢
    have hP := hP.sub (ws' := wTT cI cZ cJ nl nn ad ra S T_1) [0, 1, 2, 3, 4, 5, 6, 7, 8, 9, 10, 11, 12, 13, 14, 15, 16, 17, 18, 19] rfl
    have hD := hD.sub (ws' := wTT cI cZ cJ nl nn ad ra S T_1) [0, 1, 2, 3, 4, 5, 6, 7, 8, 9, 10, 11, 12, 13, 14, 15, 16, 17, 18, 19] (by decide) rfl
    exact vx_out (fun x h => (hno x h).elim) hlocks hce hcv hcl (fun t ht ha => ⟨(E, T_1), hw, ⟨rfl, by rw [ht]; exact hP, va_K.moved ha hK, hD⟩, hS.F ht⟩) hS.2.2 (Nat.le_of_ble_eq_true rfl) (Nat.le_of_ble_eq_true rfl)
  · obtain ⟨hP1, -, hD1⟩ := hB
    try dsimp only at hw
    rw [ht] at hP1
    obtain ⟨hP, hD⟩ := va_join (wr := []) (w1 := wTT cI cZ cJ nl nn ad ra S T_1) hP hD [0, 1, 2, 3, 4, 5, 6, 7, 8, 9, 10, 11, 12, 13, 14, 15, 16, 17, 18, 19] [] rfl rfl (by decide) (by decide) hk1 hFc hP1 hD1
    generalize H1 = H at hP hS ⊢
    have hP := hP.sub (ws' := wTT cI cZ cJ nl nn ad ra S T_1) [0, 1, 2, 3, 4, 5, 6, 7, 8, 9, 10, 11, 12, 13, 14, 15, 16, 17, 18, 19] rfl
    have hD := hD.sub (ws' := wTT cI cZ cJ nl nn ad ra S T_1) [0, 1, 2, 3, 4, 5, 6, 7, 8, 9, 10, 11, 12, 13, 14, 15, 16, 17, 18, 19] (by decide) rfl
    refine lv_aload_n hx hb dX3_least_7 rfl (lv_at hl 0 rfl) ?_
    refine va_get (D := (dC, dI)) (ci := 3) (v := .ref (ad 9)) (C := RX3) (T := TX3) (N := 7) hx hb hT inX3 hown hK hP 0 rfl rfl 1 (by decide) (hT _ k_83) (fun _ h9 => h9) rfl dX3_least_8 ?_
    refine lv_aload_n hx hb dX3_least_11 rfl (lv_at hl 0 rfl) ?_
    refine va_get (D := (dC, dI)) (ci := 3) (v := .ref (ad 1)) (C := RX3) (T := TX3) (N := 7) hx hb hT inX3 hown hK hP 0 rfl rfl 0 (by decide) (hT _ k_0) (fun _ h9 => h9) rfl dX3_least_12 ?_
    refine lv_iload_n hx hb dX3_least_15 rfl (lv_at hl 1 rfl) ?_
    refine lv_iload_n hx hb dX3_least_16 rfl (lv_at hl 2 rfl) ?_
    refine lv_iload_n hx hb dX3_least_17 rfl (lv_at hl 3 rfl) ?_
    have hPc := hP.sub (ws' := wSH cI cJ nl (ad 1) (ad 2) (ad 3) (ad 4) (ad 5) ra S) [1, 2, 3, 4, 5, 6, 7, 8] rfl
    refine vp_callSi (W.runV (As := [.int x1, .int x2, .int x3]) (rest := [.ref (ad 9)]) ⟨hx, hb, hml, hown, hT⟩ (met_X1_nodeAt l dC dI cI cZ cJ cL (ad 1) (ad 2) (ad 3) (ad 4) (ad 5) ra _ nl S  x1 x2 x3 hw) (cwV 3 hT (gV k_64 k_66 k_67 k_59 k_65) rfl rfl rfl (by decide +kernel) ⟨(Nat.le_of_ble_eq_true rfl), (Nat.le_of_ble_eq_true rfl)⟩) ⟨bl_R, va_recv hK hPc (ci := 1) (q0 := 0) rfl rfl, fun U hU hW => ⟨rfl, by rw [hU]; exact hPc, va_K.moved hW.alike hK⟩⟩ rfl rfl hl.1 rfl (lv_room (Nat.le_of_ble_eq_true rfl)) dX3_least_18 ⟨Nat.le_of_ble_eq_true rfl, Nat.le_of_ble_eq_true rfl⟩) (fun r_2 hw => ?_)
    try dsimp only at hw
    obtain ⟨h_3, hw⟩ := hw
    refine va_iald hx hb hK hP 9 0 rfl rfl h_3 dX3_least_21 ?_
    exact vx_ret (W.iret (v := (T_1.1 r_2.toNatClampNeg)) hx hb hr (fun t ht hW => ⟨⟨(T_1.1 r_2.toNatClampNeg), T_1, rfl, hw, by rw [ht]; exact hP, va_K.moved hW.alike hK, hD⟩, hS.F ht⟩) hS.2.2 dX3_least_22)
def wp_X3_value (post : Int32 → vTT → Prop) (px : String → vTT → Prop) (nl : Nat) (nn : Nat) (S : vSH) (T : vTT) (x1 : Int32) (x2 : Int32) (x3 : Int32) : Prop := wp_X3_checkNode (fun T_1 => ((x3 < 0 → (px "java/lang/IllegalArgumentException" T_1)) ∧ (¬ x3 < 0 → (((x3 ≤ 1000 → (wp_X3_checkNothingTold (fun T_4 => wp_X1_nodeAt (fun r_5 => vp_in r_5 nn ∧ (∀ x5_7 : Int32, x5_7 = T_4.1 r_5.toNatClampNeg → (vp_in r_5 nn ∧ (wp_X3_renewLeasts (fun T_9 => post x5_7 T_9) nl nn S ((upd T_4.1 r_5.toNatClampNeg x3), T_4.2.1, T_4.2.2.1, T_4.2.2.2.1, T_4.2.2.2.2.1, T_4.2.2.2.2.2) )))) nl S  0 x1 x2) (fun E T_4 => px E T_4) nl nn S T_1 )) ∧ (¬ x3 ≤ 1000 → (px "java/lang/IllegalArgumentException" T_1))))))) (fun E T_1 => px E T_1) nl nn S T 0 x1 x2
abbrev rm_X3_value : Room := { frames := 7, cells := 3, slots := 18, locals := 105 }
set_option maxHeartbeats 4000000 in
set_option maxRecDepth 100000 in
theorem met_X3_value (l : Launch) (hl9 : l.stackTraces = false) (dC : Nat → ClassId) (dI : Nat → Nat → Nat) (cI cZ cJ cL : ClassId) (sa : Nat → Nat) (ad ra : Nat → Nat) (sz : Nat) (post : Int32 → vTT → Prop) (px : String → vTT → Prop) (nl : Nat) (nn : Nat) (S : vSH) (T : vTT) (x1 : Int32) (x2 : Int32) (x3 : Int32) (hw : wp_X3_value post px nl nn S T x1 x2 x3) : vx_Met l yX3_value wsX3_value rm_X3_value (pcX (dC, dI) (tysA cI cZ cJ cL) sa (wTT cI cZ cJ nl nn ad ra S T) sz [.ref (ad 0), .int x1, .int x2, .int x3]) (va_Qi post (fun u t => qB (dC, dI) (tysA cI cZ cJ cL) (va_A (wTT cI cZ cJ nl nn ad ra S T) sz) (wTT cI cZ cJ nl nn ad ra S u) t) (va_A (wTT cI cZ cJ nl nn ad ra S T) sz)) (vx_X (fun u : String × vTT => px u.1 u.2) (fun E u t => E = u.1 ∧ qB (dC, dI) (tysA cI cZ cJ cL) (va_A (wTT cI cZ cJ nl nn ad ra S T) sz) (wTT cI cZ cJ nl nn ad ra S u.2) t) (va_A (wTT cI cZ cJ nl nn ad ra S T) sz)) 3 18 (va_A (wTT cI cZ cJ nl nn ad ra S T) sz) := by
  refine vx_ofW (cc := cX3_value) (maxL := 6) (ret := (some .int)) (by decide) rfl ?_
  intro p e s m args below meth c s₁ Bd hml hno hv
  obtain ⟨hargs, hsz, hP, hK, hD0, hZ⟩ := hv
  have hx := Bd.exec
  have hb := Bd.bytes
  have hr := Bd.returns
  have hts := atoms_spec (ws := wsX3_value) Bd.pre
  have hT : ∀ w ∈ WALL, w.before args s = true := fun w h => hts w (List.mem_cons_of_mem _ h)
  have hown : s.vm.findClass RX3 = some m.cls := findClass_of_methodNamed Bd.named
  have hlocks := Bd.notSynchronized
  subst hsz
  have hD := hD0.self (sz := s.heap.size)
  generalize hAe : va_A (wTT cI cZ cJ nl nn ad ra S T) s.heap.size = A at hD ⊢
  have hA : ∀ q : Nat, s.heap.size ≤ q → A q := fun q h => by rw [← hAe]; exact Or.inr h
  have hS : va_S A s.heap s.heap [] := va_S.rf
  rw [hAe] at hZ
  have hP : va_P (dC, dI) vwCl (wTT cI cZ cJ nl nn ad ra S T) s.heap := hP
  have hl := lv_entry ([.ref (ad 0), .int x1, .int x2, .int x3]) (n := 6) (Nat.le_of_ble_eq_true rfl)
  rw [show entryFrame m args 6 = F0 m 0 _ [] from by rw [hargs]; exact lg_entry_eq m ([.ref (ad 0), .int x1, .int x2, .int x3]) 6]
  generalize (lg_sl ([.ref (ad 0), .int x1, .int x2, .int x3]) ++ List.replicate (6 - (lg_sl ([.ref (ad 0), .int x1, .int x2, .int x3])).length) Slot.unset).toArray = ls at hl ⊢
  have hl : lv_has ls 6 [(0, .ref (ad 0)), (1, .int x1), (2, .int x2), (3, .int x3)] := hl
  obtain ⟨H, hH⟩ : ∃ z : Heap, z = s.heap := ⟨_, rfl⟩
  obtain ⟨locs, hlocs⟩ : ∃ z : List Loc, z = [] := ⟨_, rfl⟩
  rw [show W p l e (headSpec wsX3_value rm_X3_value).room s m args below meth c s.heap [] 0 0 = W p l e (headSpec wsX3_value rm_X3_value).room s m args below meth c H locs 0 0 from by rw [hH, hlocs]]
  have hP : va_P (dC, dI) vwCl (wTT cI cZ cJ nl nn ad ra S T) H := by rw [hH]; exact hP
  have hS : va_S A s.heap H locs := by rw [hH, hlocs]; exact hS
  unfold wp_X3_value at hw
  refine lv_aload_n hx hb dX3_value_0 rfl (lv_at hl 0 rfl) ?_
  refine lv_iconst (v := 0) hx hb dX3_value_1 (by decide) ?_
  refine lv_iload_n hx hb dX3_value_2 rfl (lv_at hl 1 rfl) ?_
  refine lv_iload_n hx hb dX3_value_3 rfl (lv_at hl 2 rfl) ?_
  have hPc := hP
  have hDc := hD
  have hFc := va_free (wc := wTT cI cZ cJ nl nn ad ra S T) hD hS hA [0, 1, 2, 3, 4, 5, 6, 7, 8, 9, 10, 11, 12, 13, 14, 15, 16, 17, 18, 19] rfl
  refine vx_callv (vx_runV (As := [.int 0, .int x1, .int x2]) (rest := []) ⟨hx, hb, hml, hown, hT⟩ (met_X3_checkNode l hl9 dC dI cI cZ cJ cL sa ad ra H.size _ _ nl nn S T 0 x1 x2 hw) (cwV 3 hT (gV k_136 k_138 k_139 k_51 k_137) rfl rfl rfl (by decide +kernel) ⟨(Nat.le_of_ble_eq_true rfl), (Nat.le_of_ble_eq_true rfl)⟩) ⟨bl_X, va_recv hK hPc (ci := 3) (q0 := 0) rfl rfl, fun U hU hW => ⟨rfl, by rw [hU], by rw [hU]; exact hPc, va_K.moved hW.alike hK, hDc.weaken (fun _ _ _ _ => trivial), hZ.call hW hU hS hFc⟩⟩ rfl rfl hl.1 rfl (lv_room (Nat.le_of_ble_eq_true rfl)) dX3_value_4 ⟨Nat.le_of_ble_eq_true rfl, Nat.le_of_ble_eq_true rfl⟩) hS (fun q _ h => hFc q h) hFc (fun q _ h => hFc q h) (fun E ce q9 u9 t H1 locs ht hvm hw hB hz1 hk1 hS hce hcv hcl => ?_) (fun T_1 t H1 locs ht hvm hw hB hz1 hk1 hS => ?_)
  · obtain ⟨E9, T_1⟩ := u9
    obtain ⟨rfl, hP1, -, hD1⟩ := hB
    try dsimp only at hw
    rw [ht] at hP1
    obtain ⟨hP, hD⟩ := va_join (wr := []) (w1 := wTT cI cZ cJ nl nn ad ra S T_1) hP hD [0, 1, 2, 3, 4, 5, 6, 7, 8, 9, 10, 11, 12, 13, 14, 15, 16, 17, 18, 19] [] rfl rfl (by decide) (by decide) hk1 hFc hP1 hD1
    generalize H1 = H at hP hS hce ⊢
    have hP := hP.sub (ws' := wTT cI cZ cJ nl nn ad ra S T_1) [0, 1, 2, 3, 4, 5, 6, 7, 8, 9, 10, 11, 12, 13, 14, 15, 16, 17, 18, 19] rfl
    have hD := hD.sub (ws' := wTT cI cZ cJ nl nn ad ra S T_1) [0, 1, 2, 3, 4, 5, 6, 7, 8, 9, 10, 11, 12, 13, 14, 15, 16, 17, 18, 19] (by decide) rfl
    exact vx_out (fun x h => (hno x h).elim) hlocks hce hcv hcl (fun t ht ha => ⟨(E, T_1), hw, ⟨rfl, by rw [ht]; exact hP, va_K.moved ha hK, hD⟩, hS.F ht⟩) hS.2.2 (Nat.le_of_ble_eq_true rfl) (Nat.le_of_ble_eq_true rfl)
  · obtain ⟨hP1, -, hD1⟩ := hB
    try dsimp only at hw
    rw [ht] at hP1
    obtain ⟨hP, hD⟩ := va_join (wr := []) (w1 := wTT cI cZ cJ nl nn ad ra S T_1) hP hD [0, 1, 2, 3, 4, 5, 6, 7, 8, 9, 10, 11, 12, 13, 14, 15, 16, 17, 18, 19] [] rfl rfl (by decide) (by decide) hk1 hFc hP1 hD1
    generalize H1 = H at hP hS ⊢
    have hP := hP.sub (ws' := wTT cI cZ cJ nl nn ad ra S T_1) [0, 1, 2, 3, 4, 5, 6, 7, 8, 9, 10, 11, 12, 13, 14, 15, 16, 17, 18, 19] rfl
    have hD := hD.sub (ws' := wTT cI cZ cJ nl nn ad ra S T_1) [0, 1, 2, 3, 4, 5, 6, 7, 8, 9, 10, 11, 12, 13, 14, 15, 16, 17, 18, 19] (by decide) rfl
    refine lv_iload_n hx hb dX3_value_7 rfl (lv_at hl 3 rfl) ?_
    refine lv_if_lt (tgt := 18) hx hb dX3_value_8 (by decide) (fun c_2 => ?_) (fun c_2 => ?_)
    · have hw := hw.1 c_2
      exact vx_throwS (own := RX3) (cls := "java/lang/IllegalArgumentException") (names := exNames) hx hb hl9 hown (by decide +kernel) (by decide +kernel) (hT _ k_11) (hT _ k_12) (hZ.2.2.2 _ (List.mem_of_getElem? (i := 0) rfl)) (hat_63 hT hZ.2.2.1) hgd_63 hZ.1 hZ.2.1 hS (hl.1.trans hml.symm) dX3_value_18 dX3_value_21 dX3_value_22 dX3_value_24 dX3_value_27 (fun x h => (hno x h).elim) (Nat.le_of_ble_eq_true rfl) (Nat.le_of_ble_eq_true rfl) (Nat.le_of_ble_eq_true rfl) (Nat.le_of_ble_eq_true rfl) hlocks (fun t ha hsz hk => ⟨("java/lang/IllegalArgumentException", T_1), hw, ⟨rfl, hP.kept (fun k q hq => hk q.1 (hP k q hq).lt), va_K.moved ha hK, hD⟩, Nat.le_trans hS.1 hsz, fun q h1 h2 => (hk q (Nat.lt_of_lt_of_le h1 hS.1)).trans (hS.2.1 q h1 h2)⟩) hS.2.2 (Nat.le_of_ble_eq_true rfl) (Nat.le_of_ble_eq_true rfl)
    · have hw := hw.2 c_2
      refine lv_iload_n hx hb dX3_value_11 rfl (lv_at hl 3 rfl) ?_
      refine lv_sipush (v := 1000) hx hb dX3_value_12 (by decide) ?_
      refine lv_icmp_le (tgt := 28) hx hb dX3_value_15 (by decide) (fun c_3 => ?_) (fun c_3 => ?_)
      · have hw := hw.1 c_3
        refine lv_aload_n hx hb dX3_value_28 rfl (lv_at hl 0 rfl) ?_
        have hPc := hP
        have hDc := hD
        have hFc := va_free (wc := wTT cI cZ cJ nl nn ad ra S T_1) hD hS hA [0, 1, 2, 3, 4, 5, 6, 7, 8, 9, 10, 11, 12, 13, 14, 15, 16, 17, 18, 19] rfl
        refine vx_callv (vx_runV (As := []) (rest := []) ⟨hx, hb, hml, hown, hT⟩ (met_X3_checkNothingTold l hl9 dC dI cI cZ cJ cL sa ad ra H.size _ _ nl nn S T_1  hw) (cwV 0 hT (gV k_185 k_187 k_188 k_51 k_186) rfl rfl rfl (by decide +kernel) ⟨(Nat.le_of_ble_eq_true rfl), (Nat.le_of_ble_eq_true rfl)⟩) ⟨bl_X, va_recv hK hPc (ci := 3) (q0 := 0) rfl rfl, fun U hU hW => ⟨rfl, by rw [hU], by rw [hU]; exact hPc, va_K.moved hW.alike hK, hDc.weaken (fun _ _ _ _ => trivial), hZ.call hW hU hS hFc⟩⟩ rfl rfl hl.1 rfl (lv_room (Nat.le_of_ble_eq_true rfl)) dX3_value_29 ⟨Nat.le_of_ble_eq_true rfl, Nat.le_of_ble_eq_true rfl⟩) hS (fun q _ h => hFc q h) hFc (fun q _ h => hFc q h) (fun E ce q9 u9 t H1 locs ht hvm hw hB hz1 hk1 hS hce hcv hcl => ?_) (fun T_4 t H1 locs ht hvm hw hB hz1 hk1 hS => ?_)
        · obtain ⟨E9, T_4⟩ := u9
          obtain ⟨rfl, hP1, -, hD1⟩ := hB
          try dsimp only at hw
          rw [ht] at hP1
          obtain ⟨hP, hD⟩ := va_join (wr := []) (w1 := wTT cI cZ cJ nl nn ad ra S T_4) hP hD [0, 1, 2, 3, 4, 5, 6, 7, 8, 9, 10, 11, 12, 13, 14, 15, 16, 17, 18, 19] [] rfl rfl (by decide) (by decide) hk1 hFc hP1 hD1
          generalize H1 = H at hP hS hce ⊢
          have hP := hP.sub (ws' := wTT cI cZ cJ nl nn ad ra S T_4) [0, 1, 2, 3, 4, 5, 6, 7, 8, 9, 10, 11, 12, 13, 14, 15, 16, 17, 18, 19] rfl
          have hD := hD.sub (ws' := wTT cI cZ cJ nl nn ad ra S T_4) [0, 1, 2, 3, 4, 5, 6, 7, 8, 9, 10, 11, 12, 13, 14, 15, 16, 17, 18, 19] (by decide) rfl
          exact vx_out (fun x h => (hno x h).elim) hlocks hce hcv hcl (fun t ht ha => ⟨(E, T_4), hw, ⟨rfl, by rw [ht]; exact hP, va_K.moved ha hK, hD⟩, hS.F ht⟩) hS.2.2 (Nat.le_of_ble_eq_true rfl) (Nat.le_of_ble_eq_true rfl)
        · obtain ⟨hP1, -, hD1⟩ := hB
          try dsimp only at hw
          rw [ht] at hP1
          obtain ⟨hP, hD⟩ := va_join (wr := []) (w1 := wTT cI cZ cJ nl nn ad ra S T_4) hP hD [0, 1, 2, 3, 4, 5, 6, 7, 8, 9, 10, 11, 12, 13, 14, 15, 16, 17, 18, 19] [] rfl rfl (by decide) (by decide) hk1 hFc hP1 hD1
          generalize H1 = H at hP hS ⊢
          have hP := hP.sub (ws' := wTT cI cZ cJ nl nn ad ra S T_4) [0, 1, 2, 3, 4, 5, 6, 7, 8, 9, 10, 11, 12, 13, 14, 15, 16, 17, 18, 19] rfl
          have hD := hD.sub (ws' := wTT cI cZ cJ nl nn ad ra S T_4) [0, 1, 2, 3, 4, 5, 6, 7, 8, 9, 10, 11, 12, 13, 14, 15, 16, 17, 18, 19] (by decide) rfl
          refine lv_aload_n hx hb dX3_value_32 rfl (lv_at hl 0 rfl) ?_
          refine va_get (D := (dC, dI)) (ci := 3) (v := .ref (ad 1)) (C := RX3) (T := TX3) (N := 7) hx hb hT inX3 hown hK hP 0 rfl rfl 0 (by decide) (hT _ k_0) (fun _ h9 => h9) rfl dX3_value_33 ?_
          refine lv_iconst (v := 0) hx hb dX3_value_36 (by decide) ?_
          refine lv_iload_n hx hb dX3_value_37 rfl (lv_at hl 1 rfl) ?_
          refine lv_iload_n hx hb dX3_value_38 rfl (lv_at hl 2 rfl) ?_
          have hPc := hP.sub (ws' := wSH cI cJ nl (ad 1) (ad 2) (ad 3) (ad 4) (ad 5) ra S) [1, 2, 3, 4, 5, 6, 7, 8] rfl
          refine vp_callSi (W.runV (As := [.int 0, .int x1, .int x2]) (rest := []) ⟨hx, hb, hml, hown, hT⟩ (met_X1_nodeAt l dC dI cI cZ cJ cL (ad 1) (ad 2) (ad 3) (ad 4) (ad 5) ra _ nl S  0 x1 x2 hw) (cwV 3 hT (gV k_64 k_66 k_67 k_59 k_65) rfl rfl rfl (by decide +kernel) ⟨(Nat.le_of_ble_eq_true rfl), (Nat.le_of_ble_eq_true rfl)⟩) ⟨bl_R, va_recv hK hPc (ci := 1) (q0 := 0) rfl rfl, fun U hU hW => ⟨rfl, by rw [hU]; exact hPc, va_K.moved hW.alike hK⟩⟩ rfl rfl hl.1 rfl (lv_room (Nat.le_of_ble_eq_true rfl)) dX3_value_39 ⟨Nat.le_of_ble_eq_true rfl, Nat.le_of_ble_eq_true rfl⟩) (fun r_5 hw => ?_)
          try dsimp only at hw
          refine lv_istore (lv' := [(4, .int r_5), (0, .ref (ad 0)), (1, .int x1), (2, .int x2), (3, .int x3)]) hx hb dX3_value_42 hl (by decide) rfl (fun ls hl => ?_)
          refine lv_aload_n hx hb dX3_value_44 rfl (lv_at hl 1 rfl) ?_
          refine va_get (D := (dC, dI)) (ci := 3) (v := .ref (ad 9)) (C := RX3) (T := TX3) (N := 7) hx hb hT inX3 hown hK hP 0 rfl rfl 1 (by decide) (hT _ k_83) (fun _ h9 => h9) rfl dX3_value_45 ?_
          refine lv_iload hx hb dX3_value_48 (lv_at hl 0 rfl) ?_
          obtain ⟨h_6, hw⟩ := hw
          refine va_iald hx hb hK hP 9 0 rfl rfl h_6 dX3_value_50 ?_
          refine lv_topi (fun x5_7 ex5_7 => ?_)
          have hw := hw x5_7 ex5_7
          refine lv_istore (lv' := [(5, .int x5_7), (4, .int r_5), (0, .ref (ad 0)), (1, .int x1), (2, .int x2), (3, .int x3)]) hx hb dX3_value_51 hl (by decide) rfl (fun ls hl => ?_)
          refine lv_aload_n hx hb dX3_value_53 rfl (lv_at hl 2 rfl) ?_
          refine va_get (D := (dC, dI)) (ci := 3) (v := .ref (ad 9)) (C := RX3) (T := TX3) (N := 7) hx hb hT inX3 hown hK hP 0 rfl rfl 1 (by decide) (hT _ k_83) (fun _ h9 => h9) rfl dX3_value_54 ?_
          refine lv_iload hx hb dX3_value_57 (lv_at hl 1 rfl) ?_
          refine lv_iload_n hx hb dX3_value_59 rfl (lv_at hl 5 rfl) ?_
          obtain ⟨h_8, hw⟩ := hw
          refine va_iast hx hb hK hP hD hS 9 0 rfl rfl h_8 dX3_value_60 (fun H locs hP hD hS => ?_)
          have hP : va_P (dC, dI) vwCl (wTT cI cZ cJ nl nn ad ra S ((upd T_4.1 r_5.toNatClampNeg x3), T_4.2.1, T_4.2.2.1, T_4.2.2.2.1, T_4.2.2.2.2.1, T_4.2.2.2.2.2)) H := hP
          have hD : va_D A (wTT cI cZ cJ nl nn ad ra S ((upd T_4.1 r_5.toNatClampNeg x3), T_4.2.1, T_4.2.2.1, T_4.2.2.2.1, T_4.2.2.2.2.1, T_4.2.2.2.2.2)) := hD
          refine lv_aload_n hx hb dX3_value_61 rfl (lv_at hl 2 rfl) ?_
          have hPc := hP
          have hDc := hD
          have hFc := va_free (wc := wTT cI cZ cJ nl nn ad ra S ((upd T_4.1 r_5.toNatClampNeg x3), T_4.2.1, T_4.2.2.1, T_4.2.2.2.1, T_4.2.2.2.2.1, T_4.2.2.2.2.2)) hD hS hA [0, 1, 2, 3, 4, 5, 6, 7, 8, 9, 10, 11, 12, 13, 14, 15, 16, 17, 18, 19] rfl
          refine va_callv (va_runV (As := []) (rest := []) ⟨hx, hb, hml, hown, hT⟩ (met_X3_renewLeasts l dC dI cI cZ cJ cL ad ra H.size _ nl nn S ((upd T_4.1 r_5.toNatClampNeg x3), T_4.2.1, T_4.2.2.1, T_4.2.2.2.1, T_4.2.2.2.2.1, T_4.2.2.2.2.2)  hw) (cwV 0 hT (gV k_189 k_191 k_192 k_51 k_190) rfl rfl rfl (by decide +kernel) ⟨(Nat.le_of_ble_eq_true rfl), (Nat.le_of_ble_eq_true rfl)⟩) ⟨bl_W, va_recv hK hPc (ci := 3) (q0 := 0) rfl rfl, fun U hU hW => ⟨rfl, by rw [hU], by rw [hU]; exact hPc, va_K.moved hW.alike hK, hDc.weaken (fun _ _ _ _ => trivial)⟩⟩ rfl rfl hl.1 rfl (lv_room (Nat.le_of_ble_eq_true rfl)) dX3_value_62 ⟨Nat.le_of_ble_eq_true rfl, Nat.le_of_ble_eq_true rfl⟩) hS (fun q _ h => hFc q h) hFc (fun T_9 t H1 locs ht hvm hw hB hz1 hk1 hS => ?_)
          obtain ⟨hP1, -, hD1⟩ := hB
          try dsimp only at hw
          rw [ht] at hP1
          obtain ⟨hP, hD⟩ := va_join (wr := []) (w1 := wTT cI cZ cJ nl nn ad ra S T_9) hP hD [0, 1, 2, 3, 4, 5, 6, 7, 8, 9, 10, 11, 12, 13, 14, 15, 16, 17, 18, 19] [] rfl rfl (by decide) (by decide) hk1 hFc hP1 hD1
          generalize H1 = H at hP hS ⊢
          have hP := hP.sub (ws' := wTT cI cZ cJ nl nn ad ra S T_9) [0, 1, 2, 3, 4, 5, 6, 7, 8, 9, 10, 11, 12, 13, 14, 15, 16, 17, 18, 19] rfl
          have hD := hD.sub (ws' := wTT cI cZ cJ nl nn ad ra S T_9) [0, 1, 2, 3, 4, 5, 6, 7, 8, 9, 10, 11, 12, 13, 14, 15, 16, 17, 18, 19] (by decide) rfl
          refine lv_iload hx hb dX3_value_65 (lv_at hl 0 rfl) ?_
          refine W.widen (k := 3) (n := 18) (Nat.le_of_ble_eq_true rfl) (Nat.le_of_ble_eq_true rfl) ?_
          exact vx_ret (W.iret (v := x5_7) hx hb hr (fun t ht hW => ⟨⟨x5_7, T_9, rfl, hw, by rw [ht]; exact hP, va_K.moved hW.alike hK, hD⟩, hS.F ht⟩) hS.2.2 dX3_value_67)
      · have hw := hw.2 c_3
        exact vx_throwS (own := RX3) (cls := "java/lang/IllegalArgumentException") (names := exNames) hx hb hl9 hown (by decide +kernel) (by decide +kernel) (hT _ k_11) (hT _ k_12) (hZ.2.2.2 _ (List.mem_of_getElem? (i := 0) rfl)) (hat_63 hT hZ.2.2.1) hgd_63 hZ.1 hZ.2.1 hS (hl.1.trans hml.symm) dX3_value_18 dX3_value_21 dX3_value_22 dX3_value_24 dX3_value_27 (fun x h => (hno x h).elim) (Nat.le_of_ble_eq_true rfl) (Nat.le_of_ble_eq_true rfl) (Nat.le_of_ble_eq_true rfl) (Nat.le_of_ble_eq_true rfl) hlocks (fun t ha hsz hk => ⟨("java/lang/IllegalArgumentException", T_1), hw, ⟨rfl, hP.kept (fun k q hq => hk q.1 (hP k q hq).lt), va_K.moved ha hK, hD⟩, Nat.le_trans hS.1 hsz, fun q h1 h2 => (hk q (Nat.lt_of_lt_of_le h1 hS.1)).trans (hS.2.1 q h1 h2)⟩) hS.2.2 (Nat.le_of_ble_eq_true rfl) (Nat.le_of_ble_eq_true rfl)
def wp_X3_values_L61 (post : Int32 → vTT → Prop) (px : String → vTT → Prop) (ex61 : vTT → Int32 → Int64 → Prop) (nl : Nat) (nn : Nat) (S : vSH) (x7_5 : Int32) (r_4 : Int32) (x1 : Int32) (x2 : Int32) (x3 : Int32) (x4 : Int32) (x5 : Int32) : Nat → vTT → Int32 → Int64 → Prop
  | 0, _, _, _ => False
  | n_10 + 1, T_7, x10_8, x8_9 => ((x7_5 ≤ x10_8 → (ex61 T_7 x10_8 x8_9)) ∧ (¬ x7_5 ≤ x10_8 → (wp_X3_nearest (fun r_13 => vp_in (r_4 + x10_8) nn ∧ (∀ x8_15 : Int64, x8_15 = x8_9 + x5.toInt64 → (∀ x10_16 : Int32, x10_16 = x10_8 + 1 → (wp_X3_values_L61 post px ex61 nl nn S x7_5 r_4 x1 x2 x3 x4 x5 n_10 ((upd T_7.1 ((r_4 + x10_8).toNatClampNeg) r_13), T_7.2.1, T_7.2.2.1, T_7.2.2.2.1, T_7.2.2.2.2.1, T_7.2.2.2.2.2) x10_16 x8_15))))   x8_9 0 1000)))
def wp_X3_values (post : Int32 → vTT → Prop) (px : String → vTT → Prop) (nl : Nat) (nn : Nat) (S : vSH) (T : vTT) (x1 : Int32) (x2 : Int32) (x3 : Int32) (x4 : Int32) (x5 : Int32) : Prop := wp_X3_checkNode (fun T_1 => ((0 ≤ x3 → (wp_X3_checkNothingTold (fun T_3 => wp_X1_nodeAt (fun r_4 => ∀ x7_5 : Int32, x7_5 = (if (S.1.2.2.1 - r_4) < x3 then (S.1.2.2.1 - r_4) else x3) → (∀ x8_6 : Int64, x8_6 = x4.toInt64 → (∃ n_10 : Nat, wp_X3_values_L61 post px (fun (T_7 : vTT) (x10_8 : Int32) (x8_9 : Int64) => wp_X3_renewLeasts (fun T_11 => post x7_5 T_11) nl nn S T_7 ) nl nn S x7_5 r_4 x1 x2 x3 x4 x5 n_10 T_3 0 x8_6))) nl S  0 x1 x2) (fun E T_3 => px E T_3) nl nn S T_1 )) ∧ (¬ 0 ≤ x3 → (px "java/lang/IllegalArgumentException" T_1)))) (fun E T_1 => px E T_1) nl nn S T 0 x1 x2
abbrev rm_X3_values : Room := { frames := 7, cells := 3, slots := 18, locals := 105 }
set_option maxHeartbeats 4000000 in
set_option maxRecDepth 100000 in
theorem met_X3_values (l : Launch) (hl9 : l.stackTraces = false) (dC : Nat → ClassId) (dI : Nat → Nat → Nat) (cI cZ cJ cL : ClassId) (sa : Nat → Nat) (ad ra : Nat → Nat) (sz : Nat) (post : Int32 → vTT → Prop) (px : String → vTT → Prop) (nl : Nat) (nn : Nat) (S : vSH) (T : vTT) (x1 : Int32) (x2 : Int32) (x3 : Int32) (x4 : Int32) (x5 : Int32) (hw : wp_X3_values post px nl nn S T x1 x2 x3 x4 x5) : vx_Met l yX3_values wsX3_values rm_X3_values (pcX (dC, dI) (tysA cI cZ cJ cL) sa (wTT cI cZ cJ nl nn ad ra S T) sz [.ref (ad 0), .int x1, .int x2, .int x3, .int x4, .int x5]) (va_Qi post (fun u t => qB (dC, dI) (tysA cI cZ cJ cL) (va_A (wTT cI cZ cJ nl nn ad ra S T) sz) (wTT cI cZ cJ nl nn ad ra S u) t) (va_A (wTT cI cZ cJ nl nn ad ra S T) sz)) (vx_X (fun u : String × vTT => px u.1 u.2) (fun E u t => E = u.1 ∧ qB (dC, dI) (tysA cI cZ cJ cL) (va_A (wTT cI cZ cJ nl nn ad ra S T) sz) (wTT cI cZ cJ nl nn ad ra S u.2) t) (va_A (wTT cI cZ cJ nl nn ad ra S T) sz)) 3 18 (va_A (wTT cI cZ cJ nl nn ad ra S T) sz) := by
  refine vx_ofW (cc := cX3_values) (maxL := 11) (ret := (some .int)) (by decide) rfl ?_
  intro p e s m args below meth c s₁ Bd hml hno hv
  obtain ⟨hargs, hsz, hP, hK, hD0, hZ⟩ := hv
  have hx := Bd.exec
  have hb := Bd.bytes
  have hr := Bd.returns
  have hts := atoms_spec (ws := wsX3_values) Bd.pre
  have hT : ∀ w ∈ WALL, w.before args s = true := fun w h => hts w (List.mem_cons_of_mem _ h)
  have hown : s.vm.findClass RX3 = some m.cls := findClass_of_methodNamed Bd.named
  have hlocks := Bd.notSynchronized
  subst hsz
  have hD := hD0.self (sz := s.heap.size)
  generalize hAe : va_A (wTT cI cZ cJ nl nn ad ra S T) s.heap.size = A at hD ⊢
  have hA : ∀ q : Nat, s.heap.size ≤ q → A q := fun q h => by rw [← hAe]; exact Or.inr h
  have hS : va_S A s.heap s.heap [] := va_S.rf
  rw [hAe] at hZ
  have hP : va_P (dC, dI) vwCl (wTT cI cZ cJ nl nn ad ra S T) s.heap := hP
  have hl := lv_entry ([.ref (ad 0), .int x1, .int x2, .int x3, .int x4, .int x5]) (n := 11) (Nat.le_of_ble_eq_true rfl)
  rw [show entryFrame m args 11 = F0 m 0 _ [] from by rw [hargs]; exact lg_entry_eq m ([.ref (ad 0), .int x1, .int x2, .int x3, .int x4, .int x5]) 11]
  generalize (lg_sl ([.ref (ad 0), .int x1, .int x2, .int x3, .int x4, .int x5]) ++ List.replicate (11 - (lg_sl ([.ref (ad 0), .int x1, .int x2, .int x3, .int x4, .int x5])).length) Slot.unset).toArray = ls at hl ⊢
  have hl : lv_has ls 11 [(0, .ref (ad 0)), (1, .int x1), (2, .int x2), (3, .int x3), (4, .int x4), (5, .int x5)] := hl
  obtain ⟨H, hH⟩ : ∃ z : Heap, z = s.heap := ⟨_, rfl⟩
  obtain ⟨locs, hlocs⟩ : ∃ z : List Loc, z = [] := ⟨_, rfl⟩
  rw [show W p l e (headSpec wsX3_values rm_X3_values).room s m args below meth c s.heap [] 0 0 = W p l e (headSpec wsX3_values rm_X3_values).room s m args below meth c H locs 0 0 from by rw [hH, hlocs]]
  have hP : va_P (dC, dI) vwCl (wTT cI cZ cJ nl nn ad ra S T) H := by rw [hH]; exact hP
  have hS : va_S A s.heap H locs := by rw [hH, hlocs]; exact hS
  unfold wp_X3_values at hw
  refine lv_aload_n hx hb dX3_values_0 rfl (lv_at hl 0 rfl) ?_
  refine lv_iconst (v := 0) hx hb dX3_values_1 (by decide) ?_
  refine lv_iload_n hx hb dX3_values_2 rfl (lv_at hl 1 rfl) ?_
  refine lv_iload_n hx hb dX3_values_3 rfl (lv_at hl 2 rfl) ?_
  have hPc := hP
  have hDc := hD
  have hFc := va_free (wc := wTT cI cZ cJ nl nn ad ra S T) hD hS hA [0, 1, 2, 3, 4, 5, 6, 7, 8, 9, 10, 11, 12, 13, 14, 15, 16, 17, 18, 19] rfl
  refine vx_callv (vx_runV (As := [.int 0, .int x1, .int x2]) (rest := []) ⟨hx, hb, hml, hown, hT⟩ (met_X3_checkNode l hl9 dC dI cI cZ cJ cL sa ad ra H.size _ _ nl nn S T 0 x1 x2 hw) (cwV 3 hT (gV k_136 k_138 k_139 k_51 k_137) rfl rfl rfl (by decide +kernel) ⟨(Nat.le_of_ble_eq_true rfl), (Nat.le_of_ble_eq_true rfl)⟩) ⟨bl_X, va_recv hK hPc (ci := 3) (q0 := 0) rfl rfl, fun U hU hW => ⟨rfl, by rw [hU], by rw [hU]; exact hPc, va_K.moved hW.alike hK, hDc.weaken (fun _ _ _ _ => trivial), hZ.call hW hU hS hFc⟩⟩ rfl rfl hl.1 rfl (lv_room (Nat.le_of_ble_eq_true rfl)) dX3_values_4 ⟨Nat.le_of_ble_eq_true rfl, Nat.le_of_ble_eq_true rfl⟩) hS (fun q _ h => hFc q h) hFc (fun q _ h => hFc q h) (fun E ce q9 u9 t H1 locs ht hvm hw hB hz1 hk1 hS hce hcv hcl => ?_) (fun T_1 t H1 locs ht hvm hw hB hz1 hk1 hS => ?_)
  · obtain ⟨E9, T_1⟩ := u9
    obtain ⟨rfl, hP1, -, hD1⟩ := hB
    try dsimp only at hw
    rw [ht] at hP1
    obtain ⟨hP, hD⟩ := va_join (wr := []) (w1 := wTT cI cZ cJ nl nn ad ra S T_1) hP hD [0, 1, 2, 3, 4, 5, 6, 7, 8, 9, 10, 11, 12, 13, 14, 15, 16, 17, 18, 19] [] rfl rfl (by decide) (by decide) hk1 hFc hP1 hD1
    generalize H1 = H at hP hS hce ⊢
    have hP := hP.sub (ws' := wTT cI cZ cJ nl nn ad ra S T_1) [0, 1, 2, 3, 4, 5, 6, 7, 8, 9, 10, 11, 12, 13, 14, 15, 16, 17, 18, 19] rfl
    have hD := hD.sub (ws' := wTT cI cZ cJ nl nn ad ra S T_1) [0, 1, 2, 3, 4, 5, 6, 7, 8, 9, 10, 11, 12, 13, 14, 15, 16, 17, 18, 19] (by decide) rfl
    exact vx_out (fun x h => (hno x h).elim) hlocks hce hcv hcl (fun t ht ha => ⟨(E, T_1), hw, ⟨rfl, by rw [ht]; exact hP, va_K.moved ha hK, hD⟩, hS.F ht⟩) hS.2.2 (Nat.le_of_ble_eq_true rfl) (Nat.le_of_ble_eq_true rfl)
  · obtain ⟨hP1, -, hD1⟩ := hB
    try dsimp only at hw
    rw [ht] at hP1
    obtain ⟨hP, hD⟩ := va_join (wr := []) (w1 := wTT cI cZ cJ nl nn ad ra S T_1) hP hD [0, 1, 2, 3, 4, 5, 6, 7, 8, 9, 10, 11, 12, 13, 14, 15, 16, 17, 18, 19] [] rfl rfl (by decide) (by decide) hk1 hFc hP1 hD1
    generalize H1 = H at hP hS ⊢
    have hP := hP.sub (ws' := wTT cI cZ cJ nl nn ad ra S T_1) [0, 1, 2, 3, 4, 5, 6, 7, 8, 9, 10, 11, 12, 13, 14, 15, 16, 17, 18, 19] rfl
    have hD := hD.sub (ws' := wTT cI cZ cJ nl nn ad ra S T_1) [0, 1, 2, 3, 4, 5, 6, 7, 8, 9, 10, 11, 12, 13, 14, 15, 16, 17, 18, 19] (by decide) rfl
    refine lv_iload_n hx hb dX3_values_7 rfl (lv_at hl 3 rfl) ?_
    refine lv_if_ge (tgt := 21) hx hb dX3_values_8 (by decide) (fun c_2 => ?_) (fun c_2 => ?_)
    · have hw := hw.1 c_2
      refine lv_aload_n hx hb dX3_values_21 rfl (lv_at hl 0 rfl) ?_
      have hPc := hP
      have hDc := hD
      have hFc := va_free (wc := wTT cI cZ cJ nl nn ad ra S T_1) hD hS hA [0, 1, 2, 3, 4, 5, 6, 7, 8, 9, 10, 11, 12, 13, 14, 15, 16, 17, 18, 19] rfl
      refine vx_callv (vx_runV (As := []) (rest := []) ⟨hx, hb, hml, hown, hT⟩ (met_X3_checkNothingTold l hl9 dC dI cI cZ cJ cL sa ad ra H.size _ _ nl nn S T_1  hw) (cwV 0 hT (gV k_185 k_187 k_188 k_51 k_186) rfl rfl rfl (by decide +kernel) ⟨(Nat.le_of_ble_eq_true rfl), (Nat.le_of_ble_eq_true rfl)⟩) ⟨bl_X, va_recv hK hPc (ci := 3) (q0 := 0) rfl rfl, fun U hU hW => ⟨rfl, by rw [hU], by rw [hU]; exact hPc, va_K.moved hW.alike hK, hDc.weaken (fun _ _ _ _ => trivial), hZ.call hW hU hS hFc⟩⟩ rfl rfl hl.1 rfl (lv_room (Nat.le_of_ble_eq_true rfl)) dX3_values_22 ⟨Nat.le_of_ble_eq_true rfl, Nat.le_of_ble_eq_true rfl⟩) hS (fun q _ h => hFc q h) hFc (fun q _ h => hFc q h) (fun E ce q9 u9 t H1 locs ht hvm hw hB hz1 hk1 hS hce hcv hcl => ?_) (fun T_3 t H1 locs ht hvm hw hB hz1 hk1 hS => ?_)
      · obtain ⟨E9, T_3⟩ := u9
        obtain ⟨rfl, hP1, -, hD1⟩ := hB
        try dsimp only at hw
        rw [ht] at hP1
        obtain ⟨hP, hD⟩ := va_join (wr := []) (w1 := wTT cI cZ cJ nl nn ad ra S T_3) hP hD [0, 1, 2, 3, 4, 5, 6, 7, 8, 9, 10, 11, 12, 13, 14, 15, 16, 17, 18, 19] [] rfl rfl (by decide) (by decide) hk1 hFc hP1 hD1
        generalize H1 = H at hP hS hce ⊢
        have hP := hP.sub (ws' := wTT cI cZ cJ nl nn ad ra S T_3) [0, 1, 2, 3, 4, 5, 6, 7, 8, 9, 10, 11, 12, 13, 14, 15, 16, 17, 18, 19] rfl
        have hD := hD.sub (ws' := wTT cI cZ cJ nl nn ad ra S T_3) [0, 1, 2, 3, 4, 5, 6, 7, 8, 9, 10, 11, 12, 13, 14, 15, 16, 17, 18, 19] (by decide) rfl
        exact vx_out (fun x h => (hno x h).elim) hlocks hce hcv hcl (fun t ht ha => ⟨(E, T_3), hw, ⟨rfl, by rw [ht]; exact hP, va_K.moved ha hK, hD⟩, hS.F ht⟩) hS.2.2 (Nat.le_of_ble_eq_true rfl) (Nat.le_of_ble_eq_true rfl)
      · obtain ⟨hP1, -, hD1⟩ := hB
        try dsimp only at hw
        rw [ht] at hP1
        obtain ⟨hP, hD⟩ := va_join (wr := []) (w1 := wTT cI cZ cJ nl nn ad ra S T_3) hP hD [0, 1, 2, 3, 4, 5, 6, 7, 8, 9, 10, 11, 12, 13, 14, 15, 16, 17, 18, 19] [] rfl rfl (by decide) (by decide) hk1 hFc hP1 hD1
        generalize H1 = H at hP hS ⊢
        have hP := hP.sub (ws' := wTT cI cZ cJ nl nn ad ra S T_3) [0, 1, 2, 3, 4, 5, 6, 7, 8, 9, 10, 11, 12, 13, 14, 15, 16, 17, 18, 19] rfl
        have hD := hD.sub (ws' := wTT cI cZ cJ nl nn ad ra S T_3) [0, 1, 2, 3, 4, 5, 6, 7, 8, 9, 10, 11, 12, 13, 14, 15, 16, 17, 18, 19] (by decide) rfl
        refine lv_aload_n hx hb dX3_values_25 rfl (lv_at hl 0 rfl) ?_
        refine va_get (D := (dC, dI)) (ci := 3) (v := .ref (ad 1)) (C := RX3) (T := TX3) (N := 7) hx hb hT inX3 hown hK hP 0 rfl rfl 0 (by decide) (hT _ k_0) (fun _ h9 => h9) rfl dX3_values_26 ?_
        refine lv_iconst (v := 0) hx hb dX3_values_29 (by decide) ?_
        refine lv_iload_n hx hb dX3_values_30 rfl (lv_at hl 1 rfl) ?_
        refine lv_iload_n hx hb dX3_values_31 rfl (lv_at hl 2 rfl) ?_
        have hPc := hP.sub (ws' := wSH cI cJ nl (ad 1) (ad 2) (ad 3) (ad 4) (ad 5) ra S) [1, 2, 3, 4, 5, 6, 7, 8] rfl
        refine vp_callSi (W.runV (As := [.int 0, .int x1, .int x2]) (rest := []) ⟨hx, hb, hml, hown, hT⟩ (met_X1_nodeAt l dC dI cI cZ cJ cL (ad 1) (ad 2) (ad 3) (ad 4) (ad 5) ra _ nl S  0 x1 x2 hw) (cwV 3 hT (gV k_64 k_66 k_67 k_59 k_65) rfl rfl rfl (by decide +kernel) ⟨(Nat.le_of_ble_eq_true rfl), (Nat.le_of_ble_eq_true rfl)⟩) ⟨bl_R, va_recv hK hPc (ci := 1) (q0 := 0) rfl rfl, fun U hU hW => ⟨rfl, by rw [hU]; exact hPc, va_K.moved hW.alike hK⟩⟩ rfl rfl hl.1 rfl (lv_room (Nat.le_of_ble_eq_true rfl)) dX3_values_32 ⟨Nat.le_of_ble_eq_true rfl, Nat.le_of_ble_eq_true rfl⟩) (fun r_4 hw => ?_)
        try dsimp only at hw
        refine lv_istore (lv' := [(6, .int r_4), (0, .ref (ad 0)), (1, .int x1), (2, .int x2), (3, .int x3), (4, .int x4), (5, .int x5)]) hx hb dX3_values_35 hl (by decide) rfl (fun ls hl => ?_)
        refine lv_iload_n hx hb dX3_values_37 rfl (lv_at hl 4 rfl) ?_
        refine lv_aload_n hx hb dX3_values_38 rfl (lv_at hl 1 rfl) ?_
        refine va_get (D := (dC, dI)) (ci := 3) (v := .ref (ad 1)) (C := RX3) (T := TX3) (N := 7) hx hb hT inX3 hown hK hP 0 rfl rfl 0 (by decide) (hT _ k_0) (fun _ h9 => h9) rfl dX3_values_39 ?_
        refine va_get (D := (dC, dI)) (ci := 1) (v := .int S.1.2.2.1) (C := RX1) (T := TX1) (N := 9) hx hb hT inX1 hown hK hP 1 rfl rfl 2 (by decide) (hT _ k_54) (fun _ h9 => h9) rfl dX3_values_42 ?_
        refine lv_iload hx hb dX3_values_45 (lv_at hl 0 rfl) ?_
        refine lv_isub hx hb dX3_values_47 ?_
        refine va_mmin (x := x3) (y := (S.1.2.2.1 - r_4)) (rest := []) hx hb (by rw [hml]; exact hl.1.symm) hown (hT _ k_84) (hT _ k_85) (hT _ k_86) (hT _ k_87) (Nat.le_of_ble_eq_true rfl) (Nat.le_of_ble_eq_true rfl) (Nat.le_of_ble_eq_true rfl) (Nat.le_of_ble_eq_true rfl) dX3_values_48 ?_
        refine lv_topi (fun x7_5 ex7_5 => ?_)
        have hw := hw x7_5 ex7_5
        refine lv_istore (lv' := [(7, .int x7_5), (6, .int r_4), (0, .ref (ad 0)), (1, .int x1), (2, .int x2), (3, .int x3), (4, .int x4), (5, .int x5)]) hx hb dX3_values_51 hl (by decide) rfl (fun ls hl => ?_)
        refine lv_iload hx hb dX3_values_53 (lv_at hl 6 rfl) ?_
        refine lv_i2l hx hb dX3_values_55 rfl ?_
        refine lv_topl (fun x8_6 ex8_6 => ?_)
        have hw := hw x8_6 ex8_6
        refine lv_lstore (lv' := [(8, .long x8_6), (7, .int x7_5), (6, .int r_4), (0, .ref (ad 0)), (1, .int x1), (2, .int x2), (3, .int x3), (4, .int x4), (5, .int x5)]) hx hb dX3_values_56 hl (by decide) rfl (fun ls hl => ?_)
        refine lv_iconst (v := 0) hx hb dX3_values_58 (by decide) ?_
        refine lv_istore (lv' := [(10, .int 0), (8, .long x8_6), (7, .int x7_5), (6, .int r_4), (0, .ref (ad 0)), (1, .int x1), (2, .int x2), (3, .int x3), (4, .int x4), (5, .int x5)]) hx hb dX3_values_59 hl (by decide) rfl (fun ls hl => ?_)
        obtain ⟨n_10, hw⟩ := hw
        obtain ⟨ex61, eex61⟩ : ∃ z : vTT → Int32 → Int64 → Prop, z = (fun (T_7 : vTT) (x10_8 : Int32) (x8_9 : Int64) => wp_X3_renewLeasts (fun T_11 => post x7_5 T_11) nl nn S T_7 ) := ⟨_, rfl⟩
        rw [← eex61] at hw
        have hx61 : ∀ (T_7 : vTT) (x10_8 : Int32) (x8_9 : Int64), ex61 T_7 x10_8 x8_9 → ∀ (H : Heap) (locs : List Loc) (ls : Array Slot), va_P (dC, dI) vwCl (wTT cI cZ cJ nl nn ad ra S T_7) H → va_D A (wTT cI cZ cJ nl nn ad ra S T_7) → va_S A s.heap H locs → lv_has ls 11 [(10, .int x10_8), (8, .long x8_9), (7, .int x7_5), (6, .int r_4), (0, .ref (ad 0)), (1, .int x1), (2, .int x2), (3, .int x3), (4, .int x4), (5, .int x5)] → W p l e (headSpec wsX3_values rm_X3_values).room s m args below meth c H locs 2 12 (vx_MQ below (va_Qi post (fun u t => qB (dC, dI) (tysA cI cZ cJ cL) A (wTT cI cZ cJ nl nn ad ra S u) t) A) (vx_X (fun u : String × vTT => px u.1 u.2) (fun E u t => E = u.1 ∧ qB (dC, dI) (tysA cI cZ cJ cL) A (wTT cI cZ cJ nl nn ad ra S u.2) t) A) args s 3 18 A) (F0 m 101 ls []) := by
          intro T_7 x10_8 x8_9 hw H locs ls hP hD hS hl
          rw [eex61] at hw
          try dsimp only at hw
          refine lv_aload_n hx hb dX3_values_101 rfl (lv_at hl 4 rfl) ?_
          have hPc := hP
          have hDc := hD
          have hFc := va_free (wc := wTT cI cZ cJ nl nn ad ra S T_7) hD hS hA [0, 1, 2, 3, 4, 5, 6, 7, 8, 9, 10, 11, 12, 13, 14, 15, 16, 17, 18, 19] rfl
          refine va_callv (va_runV (As := []) (rest := []) ⟨hx, hb, hml, hown, hT⟩ (met_X3_renewLeasts l dC dI cI cZ cJ cL ad ra H.size _ nl nn S T_7  hw) (cwV 0 hT (gV k_189 k_191 k_192 k_51 k_190) rfl rfl rfl (by decide +kernel) ⟨(Nat.le_of_ble_eq_true rfl), (Nat.le_of_ble_eq_true rfl)⟩) ⟨bl_W, va_recv hK hPc (ci := 3) (q0 := 0) rfl rfl, fun U hU hW => ⟨rfl, by rw [hU], by rw [hU]; exact hPc, va_K.moved hW.alike hK, hDc.weaken (fun _ _ _ _ => trivial)⟩⟩ rfl rfl hl.1 rfl (lv_room (Nat.le_of_ble_eq_true rfl)) dX3_values_102 ⟨Nat.le_of_ble_eq_true rfl, Nat.le_of_ble_eq_true rfl⟩) hS (fun q _ h => hFc q h) hFc (fun T_11 t H1 locs ht hvm hw hB hz1 hk1 hS => ?_)
          obtain ⟨hP1, -, hD1⟩ := hB
          try dsimp only at hw
          rw [ht] at hP1
          obtain ⟨hP, hD⟩ := va_join (wr := []) (w1 := wTT cI cZ cJ nl nn ad ra S T_11) hP hD [0, 1, 2, 3, 4, 5, 6, 7, 8, 9, 10, 11, 12, 13, 14, 15, 16, 17, 18, 19] [] rfl rfl (by decide) (by decide) hk1 hFc hP1 hD1
          generalize H1 = H at hP hS ⊢
          have hP := hP.sub (ws' := wTT cI cZ cJ nl nn ad ra S T_11) [0, 1, 2, 3, 4, 5, 6, 7, 8, 9, 10, 11, 12, 13, 14, 15, 16, 17, 18, 19] rfl
          have hD := hD.sub (ws' := wTT cI cZ cJ nl nn ad ra S T_11) [0, 1, 2, 3, 4, 5, 6, 7, 8, 9, 10, 11, 12, 13, 14, 15, 16, 17, 18, 19] (by decide) rfl
          refine lv_iload hx hb dX3_values_105 (lv_at hl 2 rfl) ?_
          refine W.widen (k := 3) (n := 18) (Nat.le_of_ble_eq_true rfl) (Nat.le_of_ble_eq_true rfl) ?_
          exact vx_ret (W.iret (v := x7_5) hx hb hr (fun t ht hW => ⟨⟨x7_5, T_11, rfl, hw, by rw [ht]; exact hP, va_K.moved hW.alike hK, hD⟩, hS.F ht⟩) hS.2.2 dX3_values_107)
        have hlp61 : ∀ (n_10 : Nat) (T_7 : vTT) (x10_8 : Int32) (x8_9 : Int64), wp_X3_values_L61 post px ex61 nl nn S x7_5 r_4 x1 x2 x3 x4 x5 n_10 T_7 x10_8 x8_9 → ∀ (H : Heap) (locs : List Loc) (ls : Array Slot), va_P (dC, dI) vwCl (wTT cI cZ cJ nl nn ad ra S T_7) H → va_D A (wTT cI cZ cJ nl nn ad ra S T_7) → va_S A s.heap H locs → lv_has ls 11 [(10, .int x10_8), (8, .long x8_9), (7, .int x7_5), (6, .int r_4), (0, .ref (ad 0)), (1, .int x1), (2, .int x2), (3, .int x3), (4, .int x4), (5, .int x5)] → W p l e (headSpec wsX3_values rm_X3_values).room s m args below meth c H locs 2 12 (vx_MQ below (va_Qi post (fun u t => qB (dC, dI) (tysA cI cZ cJ cL) A (wTT cI cZ cJ nl nn ad ra S u) t) A) (vx_X (fun u : String × vTT => px u.1 u.2) (fun E u t => E = u.1 ∧ qB (dC, dI) (tysA cI cZ cJ cL) A (wTT cI cZ cJ nl nn ad ra S u.2) t) A) args s 3 18 A) (F0 m 61 ls []) := by
          intro n_10
          induction n_10 with
          | zero => intro _ _ _ hw; exact hw.elim
          | succ n_10 ih61 =>
            intro T_7 x10_8 x8_9 hw H locs ls hP hD hS hl
            unfold wp_X3_values_L61 at hw
            refine lv_iload hx hb dX3_values_61 (lv_at hl 0 rfl) ?_
            refine lv_iload hx hb dX3_values_63 (lv_at hl 2 rfl) ?_
            refine lv_icmp_ge (tgt := 101) hx hb dX3_values_65 (by decide) (fun c_12 => ?_) (fun c_12 => ?_)
            · have hw := hw.1 c_12
              exact hx61 T_7 x10_8 x8_9 hw _ _ _ hP hD hS (lv_sub hl [0, 1, 2, 3, 4, 5, 6, 7, 8, 9] rfl)
            · have hw := hw.2 c_12
              refine lv_aload_n hx hb dX3_values_68 rfl (lv_at hl 4 rfl) ?_
              refine va_get (D := (dC, dI)) (ci := 3) (v := .ref (ad 9)) (C := RX3) (T := TX3) (N := 7) hx hb hT inX3 hown hK hP 0 rfl rfl 1 (by decide) (hT _ k_83) (fun _ h9 => h9) rfl dX3_values_69 ?_
              refine lv_iload hx hb dX3_values_72 (lv_at hl 3 rfl) ?_
              refine lv_iload hx hb dX3_values_74 (lv_at hl 0 rfl) ?_
              refine lv_iadd hx hb dX3_values_76 ?_
              refine lv_lload hx hb dX3_values_77 (lv_at hl 1 rfl) ?_
              refine lv_iconst (v := 0) hx hb dX3_values_79 (by decide) ?_
              refine lv_sipush (v := 1000) hx hb dX3_values_80 (by decide) ?_
              have hPc : va_P (dC, dI) vwCl [] H := hP.sub (ws' := []) [] rfl
              refine vp_callSi (W.runS (As := [.long x8_9, .int 0, .int 1000]) (rest := [.int (r_4 + x10_8), .ref (ad 9)]) ⟨hx, hb, hml, hown, hT⟩ (met_X3_nearest l dC dI cI cZ cJ cL  _   x8_9 0 1000 hw) (va_cwS 3 hT (gS k_193 k_195 k_51 k_194) rfl rfl rfl (by decide +kernel) ⟨(Nat.le_of_ble_eq_true rfl), (Nat.le_of_ble_eq_true rfl)⟩) ⟨bl_R, fun U hU hW => ⟨rfl, by rw [hU]; exact hPc, va_K.moved hW.alike hK⟩⟩ rfl rfl hl.1 rfl (lv_room (Nat.le_of_ble_eq_true rfl)) dX3_values_83 ⟨Nat.le_of_ble_eq_true rfl, Nat.le_of_ble_eq_true rfl⟩) (fun r_13 hw => ?_)
              try dsimp only at hw
              obtain ⟨h_14, hw⟩ := hw
              refine va_iast hx hb hK hP hD hS 9 0 rfl rfl h_14 dX3_values_86 (fun H locs hP hD hS => ?_)
              have hP : va_P (dC, dI) vwCl (wTT cI cZ cJ nl nn ad ra S ((upd T_7.1 ((r_4 + x10_8).toNatClampNeg) r_13), T_7.2.1, T_7.2.2.1, T_7.2.2.2.1, T_7.2.2.2.2.1, T_7.2.2.2.2.2)) H := hP
              have hD : va_D A (wTT cI cZ cJ nl nn ad ra S ((upd T_7.1 ((r_4 + x10_8).toNatClampNeg) r_13), T_7.2.1, T_7.2.2.1, T_7.2.2.2.1, T_7.2.2.2.2.1, T_7.2.2.2.2.2)) := hD
              refine lv_lload hx hb dX3_values_87 (lv_at hl 1 rfl) ?_
              refine lv_iload hx hb dX3_values_89 (lv_at hl 9 rfl) ?_
              refine lv_i2l hx hb dX3_values_91 rfl ?_
              refine lv_ladd hx hb dX3_values_92 ?_
              refine lv_topl (fun x8_15 ex8_15 => ?_)
              have hw := hw x8_15 ex8_15
              refine lv_lstore (lv' := [(8, .long x8_15), (10, .int x10_8), (7, .int x7_5), (6, .int r_4), (0, .ref (ad 0)), (1, .int x1), (2, .int x2), (3, .int x3), (4, .int x4), (5, .int x5)]) hx hb dX3_values_93 hl (by decide) rfl (fun ls hl => ?_)
              obtain ⟨x10_16, ex10_16⟩ : ∃ y : Int32, y = x10_8 + 1 := ⟨_, rfl⟩
              have hw := hw x10_16 ex10_16
              refine lv_iinc (v := x10_16) (lv' := [(10, .int x10_16), (8, .long x8_15), (7, .int x7_5), (6, .int r_4), (0, .ref (ad 0)), (1, .int x1), (2, .int x2), (3, .int x3), (4, .int x4), (5, .int x5)]) hx hb dX3_values_95 hl (k := 1) rfl (by rw [ex10_16]; rfl) (by decide) rfl (fun ls hl => ?_)
              refine lv_goto (tgt := 61) hx hb dX3_values_98 (by decide) ?_
              exact ih61 ((upd T_7.1 ((r_4 + x10_8).toNatClampNeg) r_13), T_7.2.1, T_7.2.2.1, T_7.2.2.2.1, T_7.2.2.2.2.1, T_7.2.2.2.2.2) x10_16 x8_15 hw _ _ _ hP hD hS (lv_sub hl [0, 1, 2, 3, 4, 5, 6, 7, 8, 9] rfl)
        exact hlp61 n_10 T_3 0 x8_6 hw _ _ _ hP hD hS (lv_sub hl [0, 1, 2, 3, 4, 5, 6, 7, 8, 9] rfl)
    · have hw := hw.2 c_2
      exact vx_throwS (own := RX3) (cls := "java/lang/IllegalArgumentException") (names := exNames) hx hb hl9 hown (by decide +kernel) (by decide +kernel) (hT _ k_11) (hT _ k_12) (hZ.2.2.2 _ (List.mem_of_getElem? (i := 1) rfl)) (hat_63 hT hZ.2.2.1) hgd_63 hZ.1 hZ.2.1 hS (hl.1.trans hml.symm) dX3_values_11 dX3_values_14 dX3_values_15 dX3_values_17 dX3_values_20 (fun x h => (hno x h).elim) (Nat.le_of_ble_eq_true rfl) (Nat.le_of_ble_eq_true rfl) (Nat.le_of_ble_eq_true rfl) (Nat.le_of_ble_eq_true rfl) hlocks (fun t ha hsz hk => ⟨("java/lang/IllegalArgumentException", T_1), hw, ⟨rfl, hP.kept (fun k q hq => hk q.1 (hP k q hq).lt), va_K.moved ha hK, hD⟩, Nat.le_trans hS.1 hsz, fun q h1 h2 => (hk q (Nat.lt_of_lt_of_le h1 hS.1)).trans (hS.2.1 q h1 h2)⟩) hS.2.2 (Nat.le_of_ble_eq_true rfl) (Nat.le_of_ble_eq_true rfl)
def wp_X3_encode (post : Int32 → vTT → Prop) (px : String → vTT → Prop) (nl : Nat) (nn : Nat) (S : vSH) (T : vTT) (x1 : Int32) (x2 : Int32) (x3 : Int32) : Prop := wp_X3_checkNode (fun T_1 => wp_X3_checkThreshold (fun N_2 => wp_X3_costOfLeaf (fun r_3 => wp_X3_checkRoom (fun B_4 => wp_X3_tellLeaf (fun T_5 => post r_3 T_5) nl nn S (T_1.1, T_1.2.1, T_1.2.2.1, B_4, T_1.2.2.2.2.1, T_1.2.2.2.2.2) x1 x2 x3) (fun E B_4 => px E (T_1.1, T_1.2.1, T_1.2.2.1, B_4, T_1.2.2.2.2.1, T_1.2.2.2.2.2))  T_1.2.2.2.1 r_3) nl nn S T_1 x1 x2 x3) (fun E N_2 => px E T_1)   x3) (fun E T_1 => px E T_1) nl nn S T 0 x1 x2
abbrev rm_X3_encode : Room := { frames := 7, cells := 3, slots := 18, locals := 105 }
set_option maxHeartbeats 4000000 in
set_option maxRecDepth 100000 in
theorem met_X3_encode (l : Launch) (hl9 : l.stackTraces = false) (dC : Nat → ClassId) (dI : Nat → Nat → Nat) (cI cZ cJ cL : ClassId) (sa : Nat → Nat) (ad ra : Nat → Nat) (sz : Nat) (post : Int32 → vTT → Prop) (px : String → vTT → Prop) (nl : Nat) (nn : Nat) (S : vSH) (T : vTT) (x1 : Int32) (x2 : Int32) (x3 : Int32) (hw : wp_X3_encode post px nl nn S T x1 x2 x3) : vx_Met l yX3_encode wsX3_encode rm_X3_encode (pcX (dC, dI) (tysA cI cZ cJ cL) sa (wTT cI cZ cJ nl nn ad ra S T) sz [.ref (ad 0), .int x1, .int x2, .int x3]) (va_Qi post (fun u t => qB (dC, dI) (tysA cI cZ cJ cL) (va_A (wTT cI cZ cJ nl nn ad ra S T) sz) (wTT cI cZ cJ nl nn ad ra S u) t) (va_A (wTT cI cZ cJ nl nn ad ra S T) sz)) (vx_X (fun u : String × vTT => px u.1 u.2) (fun E u t => E = u.1 ∧ qB (dC, dI) (tysA cI cZ cJ cL) (va_A (wTT cI cZ cJ nl nn ad ra S T) sz) (wTT cI cZ cJ nl nn ad ra S u.2) t) (va_A (wTT cI cZ cJ nl nn ad ra S T) sz)) 3 18 (va_A (wTT cI cZ cJ nl nn ad ra S T) sz) := by
  refine vx_ofW (cc := cX3_encode) (maxL := 5) (ret := (some .int)) (by decide) rfl ?_
  intro p e s m args below meth c s₁ Bd hml hno hv
  obtain ⟨hargs, hsz, hP, hK, hD0, hZ⟩ := hv
  have hx := Bd.exec
  have hb := Bd.bytes
  have hr := Bd.returns
  have hts := atoms_spec (ws := wsX3_encode) Bd.pre
  have hT : ∀ w ∈ WALL, w.before args s = true := fun w h => hts w (List.mem_cons_of_mem _ h)
  have hown : s.vm.findClass RX3 = some m.cls := findClass_of_methodNamed Bd.named
  have hlocks := Bd.notSynchronized
  subst hsz
  have hD := hD0.self (sz := s.heap.size)
  generalize hAe : va_A (wTT cI cZ cJ nl nn ad ra S T) s.heap.size = A at hD ⊢
  have hA : ∀ q : Nat, s.heap.size ≤ q → A q := fun q h => by rw [← hAe]; exact Or.inr h
  have hS : va_S A s.heap s.heap [] := va_S.rf
  rw [hAe] at hZ
  have hP : va_P (dC, dI) vwCl (wTT cI cZ cJ nl nn ad ra S T) s.heap := hP
  have hl := lv_entry ([.ref (ad 0), .int x1, .int x2, .int x3]) (n := 5) (Nat.le_of_ble_eq_true rfl)
  rw [show entryFrame m args 5 = F0 m 0 _ [] from by rw [hargs]; exact lg_entry_eq m ([.ref (ad 0), .int x1, .int x2, .int x3]) 5]
  generalize (lg_sl ([.ref (ad 0), .int x1, .int x2, .int x3]) ++ List.replicate (5 - (lg_sl ([.ref (ad 0), .int x1, .int x2, .int x3])).length) Slot.unset).toArray = ls at hl ⊢
  have hl : lv_has ls 5 [(0, .ref (ad 0)), (1, .int x1), (2, .int x2), (3, .int x3)] := hl
  obtain ⟨H, hH⟩ : ∃ z : Heap, z = s.heap := ⟨_, rfl⟩
  obtain ⟨locs, hlocs⟩ : ∃ z : List Loc, z = [] := ⟨_, rfl⟩
  rw [show W p l e (headSpec wsX3_encode rm_X3_encode).room s m args below meth c s.heap [] 0 0 = W p l e (headSpec wsX3_encode rm_X3_encode).room s m args below meth c H locs 0 0 from by rw [hH, hlocs]]
  have hP : va_P (dC, dI) vwCl (wTT cI cZ cJ nl nn ad ra S T) H := by rw [hH]; exact hP
  have hS : va_S A s.heap H locs := by rw [hH, hlocs]; exact hS
  unfold wp_X3_encode at hw
  refine lv_aload_n hx hb dX3_encode_0 rfl (lv_at hl 0 rfl) ?_
  refine lv_iconst (v := 0) hx hb dX3_encode_1 (by decide) ?_
  refine lv_iload_n hx hb dX3_encode_2 rfl (lv_at hl 1 rfl) ?_
  refine lv_iload_n hx hb dX3_encode_3 rfl (lv_at hl 2 rfl) ?_
  have hPc := hP
  have hDc := hD
  have hFc := va_free (wc := wTT cI cZ cJ nl nn ad ra S T) hD hS hA [0, 1, 2, 3, 4, 5, 6, 7, 8, 9, 10, 11, 12, 13, 14, 15, 16, 17, 18, 19] rfl
  refine vx_callv (vx_runV (As := [.int 0, .int x1, .int x2]) (rest := []) ⟨hx, hb, hml, hown, hT⟩ (met_X3_checkNode l hl9 dC dI cI cZ cJ cL sa ad ra H.size _ _ nl nn S T 0 x1 x2 hw) (cwV 3 hT (gV k_136 k_138 k_139 k_51 k_137) rfl rfl rfl (by decide +kernel) ⟨(Nat.le_of_ble_eq_true rfl), (Nat.le_of_ble_eq_true rfl)⟩) ⟨bl_X, va_recv hK hPc (ci := 3) (q0 := 0) rfl rfl, fun U hU hW => ⟨rfl, by rw [hU], by rw [hU]; exact hPc, va_K.moved hW.alike hK, hDc.weaken (fun _ _ _ _ => trivial), hZ.call hW hU hS hFc⟩⟩ rfl rfl hl.1 rfl (lv_room (Nat.le_of_ble_eq_true rfl)) dX3_encode_4 ⟨Nat.le_of_ble_eq_true rfl, Nat.le_of_ble_eq_true rfl⟩) hS (fun q _ h => hFc q h) hFc (fun q _ h => hFc q h) (fun E ce q9 u9 t H1 locs ht hvm hw hB hz1 hk1 hS hce hcv hcl => ?_) (fun T_1 t H1 locs ht hvm hw hB hz1 hk1 hS => ?_)
  · obtain ⟨E9, T_1⟩ := u9
    obtain ⟨rfl, hP1, -, hD1⟩ := hB
    try dsimp only at hw
    rw [ht] at hP1
    obtain ⟨hP, hD⟩ := va_join (wr := []) (w1 := wTT cI cZ cJ nl nn ad ra S T_1) hP hD [0, 1, 2, 3, 4, 5, 6, 7, 8, 9, 10, 11, 12, 13, 14, 15, 16, 17, 18, 19] [] rfl rfl (by decide) (by decide) hk1 hFc hP1 hD1
    generalize H1 = H at hP hS hce ⊢
    have hP := hP.sub (ws' := wTT cI cZ cJ nl nn ad ra S T_1) [0, 1, 2, 3, 4, 5, 6, 7, 8, 9, 10, 11, 12, 13, 14, 15, 16, 17, 18, 19] rfl
    have hD := hD.sub (ws' := wTT cI cZ cJ nl nn ad ra S T_1) [0, 1, 2, 3, 4, 5, 6, 7, 8, 9, 10, 11, 12, 13, 14, 15, 16, 17, 18, 19] (by decide) rfl
    exact vx_out (fun x h => (hno x h).elim) hlocks hce hcv hcl (fun t ht ha => ⟨(E, T_1), hw, ⟨rfl, by rw [ht]; exact hP, va_K.moved ha hK, hD⟩, hS.F ht⟩) hS.2.2 (Nat.le_of_ble_eq_true rfl) (Nat.le_of_ble_eq_true rfl)
  · obtain ⟨hP1, -, hD1⟩ := hB
    try dsimp only at hw
    rw [ht] at hP1
    obtain ⟨hP, hD⟩ := va_join (wr := []) (w1 := wTT cI cZ cJ nl nn ad ra S T_1) hP hD [0, 1, 2, 3, 4, 5, 6, 7, 8, 9, 10, 11, 12, 13, 14, 15, 16, 17, 18, 19] [] rfl rfl (by decide) (by decide) hk1 hFc hP1 hD1
    generalize H1 = H at hP hS ⊢
    have hP := hP.sub (ws' := wTT cI cZ cJ nl nn ad ra S T_1) [0, 1, 2, 3, 4, 5, 6, 7, 8, 9, 10, 11, 12, 13, 14, 15, 16, 17, 18, 19] rfl
    have hD := hD.sub (ws' := wTT cI cZ cJ nl nn ad ra S T_1) [0, 1, 2, 3, 4, 5, 6, 7, 8, 9, 10, 11, 12, 13, 14, 15, 16, 17, 18, 19] (by decide) rfl
    refine lv_iload_n hx hb dX3_encode_7 rfl (lv_at hl 3 rfl) ?_
    have hPc : va_P (dC, dI) vwCl [] H := hP.sub (ws' := []) [] rfl
    have hDc : va_D A [] := hD.sub (ws' := []) [] (by decide) rfl
    have hFc := va_free (wc := []) hD hS hA [] rfl
    refine vx_callv (vx_runS (As := [.int x3]) (rest := []) ⟨hx, hb, hml, hown, hT⟩ (met_X3_checkThreshold l hl9 dC dI cI cZ cJ cL sa  H.size _ _   x3 hw) (va_cwS 1 hT (gS k_220 k_222 k_51 k_221) rfl rfl rfl (by decide +kernel) ⟨(Nat.le_of_ble_eq_true rfl), (Nat.le_of_ble_eq_true rfl)⟩) ⟨bl_X, fun U hU hW => ⟨rfl, by rw [hU], by rw [hU]; exact hPc, va_K.moved hW.alike hK, hDc.weaken (fun _ _ _ _ => trivial), hZ.call hW hU hS hFc⟩⟩ rfl rfl hl.1 rfl (lv_room (Nat.le_of_ble_eq_true rfl)) dX3_encode_8 ⟨Nat.le_of_ble_eq_true rfl, Nat.le_of_ble_eq_true rfl⟩) hS (fun q _ h => hFc q h) hFc (fun q _ h => hFc q h) (fun E ce q9 u9 t H1 locs ht hvm hw hB hz1 hk1 hS hce hcv hcl => ?_) (fun N_2 t H1 locs ht hvm hw hB hz1 hk1 hS => ?_)
    · obtain ⟨E9, N_2⟩ := u9
      obtain ⟨rfl, hP1, -, hD1⟩ := hB
      try dsimp only at hw
      rw [ht] at hP1
      obtain ⟨hP, hD⟩ := va_join (wr := [(ad 0, .inr (3, [.ref (ad 1), .ref (ad 9), .ref (ad 10), .ref (ad 13), .ref (ad 16), .ref (ad 18), .int T_1.2.2.2.2.2])), (ad 1, .inr (1, [.int S.1.1, .int S.1.2.1, .int S.1.2.2.1, .int S.1.2.2.2.1, .int S.1.2.2.2.2, .ref (ad 2), .ref (ad 3), .ref (ad 4), .ref (ad 5)])), (ad 2, .inl (cI, 6, .inl S.2.1.1)), (ad 3, .inl (cI, 6, .inl S.2.1.2.1)), (ad 4, .inl (cI, 6, .inl S.2.1.2.2)), (ad 5, .inl (cJ, 3, .inr (.inr (.inr (.inr (fun i => if i < 3 then some (ra i) else none)))))), (ra 0, .inl (cI, nl, .inl (S.2.2 0))), (ra 1, .inl (cI, nl, .inl (S.2.2 1))), (ra 2, .inl (cI, nl, .inl (S.2.2 2))), (ad 9, .inl (cI, nn, .inl T_1.1)), (ad 10, .inr (2, [.ref (ad 11), .ref (ad 12), .int T_1.2.1.2.2])), (ad 11, .inl (cI, nn, .inl T_1.2.1.1)), (ad 12, .inl (cZ, nn, .inl T_1.2.1.2.1)), (ad 13, .inr (2, [.ref (ad 14), .ref (ad 15), .int T_1.2.2.1.2.2])), (ad 14, .inl (cI, nn, .inl T_1.2.2.1.1)), (ad 15, .inl (cZ, nn, .inl T_1.2.2.1.2.1)), (ad 16, .inr (0, [.ref (ad 17), .int T_1.2.2.2.1.2.1, .int T_1.2.2.2.1.2.2])), (ad 17, .inl (cI, 1250, .inl T_1.2.2.2.1.1)), (ad 18, .inr (0, [.ref (ad 19), .int T_1.2.2.2.2.1.2.1, .int T_1.2.2.2.2.1.2.2])), (ad 19, .inl (cI, 1250, .inl T_1.2.2.2.2.1.1))]) (w1 := []) hP hD [] [0, 1, 2, 3, 4, 5, 6, 7, 8, 9, 10, 11, 12, 13, 14, 15, 16, 17, 18, 19] rfl rfl (by decide) (by decide) hk1 hFc hP1 hD1
      generalize H1 = H at hP hS hce ⊢
      have hP := hP.sub (ws' := wTT cI cZ cJ nl nn ad ra S T_1) [0, 1, 2, 3, 4, 5, 6, 7, 8, 9, 10, 11, 12, 13, 14, 15, 16, 17, 18, 19] rfl
      have hD := hD.sub (ws' := wTT cI cZ cJ nl nn ad ra S T_1) [0, 1, 2, 3, 4, 5, 6, 7, 8, 9, 10, 11, 12, 13, 14, 15, 16, 17, 18, 19] (by decide) rfl
      exact vx_out (fun x h => (hno x h).elim) hlocks hce hcv hcl (fun t ht ha => ⟨(E, T_1), hw, ⟨rfl, by rw [ht]; exact hP, va_K.moved ha hK, hD⟩, hS.F ht⟩) hS.2.2 (Nat.le_of_ble_eq_true rfl) (Nat.le_of_ble_eq_true rfl)
    · obtain ⟨hP1, -, hD1⟩ := hB
      try dsimp only at hw
      rw [ht] at hP1
      obtain ⟨hP, hD⟩ := va_join (wr := [(ad 0, .inr (3, [.ref (ad 1), .ref (ad 9), .ref (ad 10), .ref (ad 13), .ref (ad 16), .ref (ad 18), .int T_1.2.2.2.2.2])), (ad 1, .inr (1, [.int S.1.1, .int S.1.2.1, .int S.1.2.2.1, .int S.1.2.2.2.1, .int S.1.2.2.2.2, .ref (ad 2), .ref (ad 3), .ref (ad 4), .ref (ad 5)])), (ad 2, .inl (cI, 6, .inl S.2.1.1)), (ad 3, .inl (cI, 6, .inl S.2.1.2.1)), (ad 4, .inl (cI, 6, .inl S.2.1.2.2)), (ad 5, .inl (cJ, 3, .inr (.inr (.inr (.inr (fun i => if i < 3 then some (ra i) else none)))))), (ra 0, .inl (cI, nl, .inl (S.2.2 0))), (ra 1, .inl (cI, nl, .inl (S.2.2 1))), (ra 2, .inl (cI, nl, .inl (S.2.2 2))), (ad 9, .inl (cI, nn, .inl T_1.1)), (ad 10, .inr (2, [.ref (ad 11), .ref (ad 12), .int T_1.2.1.2.2])), (ad 11, .inl (cI, nn, .inl T_1.2.1.1)), (ad 12, .inl (cZ, nn, .inl T_1.2.1.2.1)), (ad 13, .inr (2, [.ref (ad 14), .ref (ad 15), .int T_1.2.2.1.2.2])), (ad 14, .inl (cI, nn, .inl T_1.2.2.1.1)), (ad 15, .inl (cZ, nn, .inl T_1.2.2.1.2.1)), (ad 16, .inr (0, [.ref (ad 17), .int T_1.2.2.2.1.2.1, .int T_1.2.2.2.1.2.2])), (ad 17, .inl (cI, 1250, .inl T_1.2.2.2.1.1)), (ad 18, .inr (0, [.ref (ad 19), .int T_1.2.2.2.2.1.2.1, .int T_1.2.2.2.2.1.2.2])), (ad 19, .inl (cI, 1250, .inl T_1.2.2.2.2.1.1))]) (w1 := []) hP hD [] [0, 1, 2, 3, 4, 5, 6, 7, 8, 9, 10, 11, 12, 13, 14, 15, 16, 17, 18, 19] rfl rfl (by decide) (by decide) hk1 hFc hP1 hD1
      generalize H1 = H at hP hS ⊢
      have hP := hP.sub (ws' := wTT cI cZ cJ nl nn ad ra S T_1) [0, 1, 2, 3, 4, 5, 6, 7, 8, 9, 10, 11, 12, 13, 14, 15, 16, 17, 18, 19] rfl
      have hD := hD.sub (ws' := wTT cI cZ cJ nl nn ad ra S T_1) [0, 1, 2, 3, 4, 5, 6, 7, 8, 9, 10, 11, 12, 13, 14, 15, 16, 17, 18, 19] (by decide) rfl
      refine lv_aload_n hx hb dX3_encode_11 rfl (lv_at hl 0 rfl) ?_
      refine lv_iload_n hx hb dX3_encode_12 rfl (lv_at hl 1 rfl) ?_
      refine lv_iload_n hx hb dX3_encode_13 rfl (lv_at hl 2 rfl) ?_
      refine lv_iload_n hx hb dX3_encode_14 rfl (lv_at hl 3 rfl) ?_
      have hPc := hP
      refine vp_callSi (W.runV (As := [.int x1, .int x2, .int x3]) (rest := []) ⟨hx, hb, hml, hown, hT⟩ (met_X3_costOfLeaf l dC dI cI cZ cJ cL ad ra _ nl nn S T_1 x1 x2 x3 hw) (cwV 3 hT (gV k_223 k_225 k_226 k_51 k_224) rfl rfl rfl (by decide +kernel) ⟨(Nat.le_of_ble_eq_true rfl), (Nat.le_of_ble_eq_true rfl)⟩) ⟨bl_R, va_recv hK hPc (ci := 3) (q0 := 0) rfl rfl, fun U hU hW => ⟨rfl, by rw [hU]; exact hPc, va_K.moved hW.alike hK⟩⟩ rfl rfl hl.1 rfl (lv_room (Nat.le_of_ble_eq_true rfl)) dX3_encode_15 ⟨Nat.le_of_ble_eq_true rfl, Nat.le_of_ble_eq_true rfl⟩) (fun r_3 hw => ?_)
      try dsimp only at hw
      refine lv_istore (lv' := [(4, .int r_3), (0, .ref (ad 0)), (1, .int x1), (2, .int x2), (3, .int x3)]) hx hb dX3_encode_18 hl (by decide) rfl (fun ls hl => ?_)
      refine lv_aload_n hx hb dX3_encode_20 rfl (lv_at hl 1 rfl) ?_
      refine va_get (D := (dC, dI)) (ci := 3) (v := .ref (ad 16)) (C := RX3) (T := TX3) (N := 7) hx hb hT inX3 hown hK hP 0 rfl rfl 4 (by decide) (hT _ k_5) (fun _ h9 => h9) rfl dX3_encode_21 ?_
      refine lv_iload hx hb dX3_encode_24 (lv_at hl 0 rfl) ?_
      have hPc := hP.sub (ws' := wBR cI (ad 16) (ad 17) T_1.2.2.2.1) [16, 17] rfl
      have hDc := hD.sub (ws' := wBR cI (ad 16) (ad 17) T_1.2.2.2.1) [16, 17] (by decide) rfl
      have hFc := va_free (wc := wBR cI (ad 16) (ad 17) T_1.2.2.2.1) hD hS hA [16, 17] rfl
      refine vx_callv (vx_runS (As := [.ref (ad 16), .int r_3]) (rest := []) ⟨hx, hb, hml, hown, hT⟩ (met_X3_checkRoom l hl9 dC dI cI cZ cJ cL sa (ad 16) (ad 17) H.size _ _  T_1.2.2.2.1 r_3 hw) (va_cwS 2 hT (gS k_129 k_131 k_51 k_130) rfl rfl rfl (by decide +kernel) ⟨(Nat.le_of_ble_eq_true rfl), (Nat.le_of_ble_eq_true rfl)⟩) ⟨bl_X, fun U hU hW => ⟨rfl, by rw [hU], by rw [hU]; exact hPc, va_K.moved hW.alike hK, hDc.weaken (fun _ _ _ _ => trivial), hZ.call hW hU hS hFc⟩⟩ rfl rfl hl.1 rfl (lv_room (Nat.le_of_ble_eq_true rfl)) dX3_encode_26 ⟨Nat.le_of_ble_eq_true rfl, Nat.le_of_ble_eq_true rfl⟩) hS (fun q _ h => hFc q h) hFc (fun q _ h => hFc q h) (fun E ce q9 u9 t H1 locs ht hvm hw hB hz1 hk1 hS hce hcv hcl => ?_) (fun B_4 t H1 locs ht hvm hw hB hz1 hk1 hS => ?_)
      · obtain ⟨E9, B_4⟩ := u9
        obtain ⟨rfl, hP1, -, hD1⟩ := hB
        try dsimp only at hw
        rw [ht] at hP1
        obtain ⟨hP, hD⟩ := va_join (wr := [(ad 0, .inr (3, [.ref (ad 1), .ref (ad 9), .ref (ad 10), .ref (ad 13), .ref (ad 16), .ref (ad 18), .int T_1.2.2.2.2.2])), (ad 1, .inr (1, [.int S.1.1, .int S.1.2.1, .int S.1.2.2.1, .int S.1.2.2.2.1, .int S.1.2.2.2.2, .ref (ad 2), .ref (ad 3), .ref (ad 4), .ref (ad 5)])), (ad 2, .inl (cI, 6, .inl S.2.1.1)), (ad 3, .inl (cI, 6, .inl S.2.1.2.1)), (ad 4, .inl (cI, 6, .inl S.2.1.2.2)), (ad 5, .inl (cJ, 3, .inr (.inr (.inr (.inr (fun i => if i < 3 then some (ra i) else none)))))), (ra 0, .inl (cI, nl, .inl (S.2.2 0))), (ra 1, .inl (cI, nl, .inl (S.2.2 1))), (ra 2, .inl (cI, nl, .inl (S.2.2 2))), (ad 9, .inl (cI, nn, .inl T_1.1)), (ad 10, .inr (2, [.ref (ad 11), .ref (ad 12), .int T_1.2.1.2.2])), (ad 11, .inl (cI, nn, .inl T_1.2.1.1)), (ad 12, .inl (cZ, nn, .inl T_1.2.1.2.1)), (ad 13, .inr (2, [.ref (ad 14), .ref (ad 15), .int T_1.2.2.1.2.2])), (ad 14, .inl (cI, nn, .inl T_1.2.2.1.1)), (ad 15, .inl (cZ, nn, .inl T_1.2.2.1.2.1)), (ad 18, .inr (0, [.ref (ad 19), .int T_1.2.2.2.2.1.2.1, .int T_1.2.2.2.2.1.2.2])), (ad 19, .inl (cI, 1250, .inl T_1.2.2.2.2.1.1))]) (w1 := wBR cI (ad 16) (ad 17) B_4) hP hD [16, 17] [0, 1, 2, 3, 4, 5, 6, 7, 8, 9, 10, 11, 12, 13, 14, 15, 18, 19] rfl rfl (by decide) (by decide) hk1 hFc hP1 hD1
        generalize H1 = H at hP hS hce ⊢
        have hP := hP.sub (ws' := wTT cI cZ cJ nl nn ad ra S (T_1.1, T_1.2.1, T_1.2.2.1, B_4, T_1.2.2.2.2.1, T_1.2.2.2.2.2)) [0, 1, 2, 3, 4, 5, 6, 7, 8, 9, 10, 11, 12, 13, 14, 15, 18, 19, 16, 17] rfl
        have hD := hD.sub (ws' := wTT cI cZ cJ nl nn ad ra S (T_1.1, T_1.2.1, T_1.2.2.1, B_4, T_1.2.2.2.2.1, T_1.2.2.2.2.2)) [0, 1, 2, 3, 4, 5, 6, 7, 8, 9, 10, 11, 12, 13, 14, 15, 18, 19, 16, 17] (by decide) rfl
        exact vx_out (fun x h => (hno x h).elim) hlocks hce hcv hcl (fun t ht ha => ⟨(E, (T_1.1, T_1.2.1, T_1.2.2.1, B_4, T_1.2.2.2.2.1, T_1.2.2.2.2.2)), hw, ⟨rfl, by rw [ht]; exact hP, va_K.moved ha hK, hD⟩, hS.F ht⟩) hS.2.2 (Nat.le_of_ble_eq_true rfl) (Nat.le_of_ble_eq_true rfl)
      · obtain ⟨hP1, -, hD1⟩ := hB
        try dsimp only at hw
        rw [ht] at hP1
        obtain ⟨hP, hD⟩ := va_join (wr := [(ad 0, .inr (3, [.ref (ad 1), .ref (ad 9), .ref (ad 10), .ref (ad 13), .ref (ad 16), .ref (ad 18), .int T_1.2.2.2.2.2])), (ad 1, .inr (1, [.int S.1.1, .int S.1.2.1, .int S.1.2.2.1, .int S.1.2.2.2.1, .int S.1.2.2.2.2, .ref (ad 2), .ref (ad 3), .ref (ad 4), .ref (ad 5)])), (ad 2, .inl (cI, 6, .inl S.2.1.1)), (ad 3, .inl (cI, 6, .inl S.2.1.2.1)), (ad 4, .inl (cI, 6, .inl S.2.1.2.2)), (ad 5, .inl (cJ, 3, .inr (.inr (.inr (.inr (fun i => if i < 3 then some (ra i) else none)))))), (ra 0, .inl (cI, nl, .inl (S.2.2 0))), (ra 1, .inl (cI, nl, .inl (S.2.2 1))), (ra 2, .inl (cI, nl, .inl (S.2.2 2))), (ad 9, .inl (cI, nn, .inl T_1.1)), (ad 10, .inr (2, [.ref (ad 11), .ref (ad 12), .int T_1.2.1.2.2])), (ad 11, .inl (cI, nn, .inl T_1.2.1.1)), (ad 12, .inl (cZ, nn, .inl T_1.2.1.2.1)), (ad 13, .inr (2, [.ref (ad 14), .ref (ad 15), .int T_1.2.2.1.2.2])), (ad 14, .inl (cI, nn, .inl T_1.2.2.1.1)), (ad 15, .inl (cZ, nn, .inl T_1.2.2.1.2.1)), (ad 18, .inr (0, [.ref (ad 19), .int T_1.2.2.2.2.1.2.1, .int T_1.2.2.2.2.1.2.2])), (ad 19, .inl (cI, 1250, .inl T_1.2.2.2.2.1.1))]) (w1 := wBR cI (ad 16) (ad 17) B_4) hP hD [16, 17] [0, 1, 2, 3, 4, 5, 6, 7, 8, 9, 10, 11, 12, 13, 14, 15, 18, 19] rfl rfl (by decide) (by decide) hk1 hFc hP1 hD1
        generalize H1 = H at hP hS ⊢
        have hP := hP.sub (ws' := wTT cI cZ cJ nl nn ad ra S (T_1.1, T_1.2.1, T_1.2.2.1, B_4, T_1.2.2.2.2.1, T_1.2.2.2.2.2)) [0, 1, 2, 3, 4, 5, 6, 7, 8, 9, 10, 11, 12, 13, 14, 15, 18, 19, 16, 17] rfl
        have hD := hD.sub (ws' := wTT cI cZ cJ nl nn ad ra S (T_1.1, T_1.2.1, T_1.2.2.1, B_4, T_1.2.2.2.2.1, T_1.2.2.2.2.2)) [0, 1, 2, 3, 4, 5, 6, 7, 8, 9, 10, 11, 12, 13, 14, 15, 18, 19, 16, 17] (by decide) rfl
        refine lv_aload_n hx hb dX3_encode_29 rfl (lv_at hl 1 rfl) ?_
        refine lv_iload_n hx hb dX3_encode_30 rfl (lv_at hl 2 rfl) ?_
        refine lv_iload_n hx hb dX3_encode_31 rfl (lv_at hl 3 rfl) ?_
        refine lv_iload_n hx hb dX3_encode_32 rfl (lv_at hl 4 rfl) ?_
        have hPc := hP
        have hDc := hD
        have hFc := va_free (wc := wTT cI cZ cJ nl nn ad ra S (T_1.1, T_1.2.1, T_1.2.2.1, B_4, T_1.2.2.2.2.1, T_1.2.2.2.2.2)) hD hS hA [0, 1, 2, 3, 4, 5, 6, 7, 8, 9, 10, 11, 12, 13, 14, 15, 16, 17, 18, 19] rfl
        refine va_callv (va_runV (As := [.int x1, .int x2, .int x3]) (rest := []) ⟨hx, hb, hml, hown, hT⟩ (met_X3_tellLeaf l dC dI cI cZ cJ cL ad ra H.size _ nl nn S (T_1.1, T_1.2.1, T_1.2.2.1, B_4, T_1.2.2.2.2.1, T_1.2.2.2.2.2) x1 x2 x3 hw) (cwV 3 hT (gV k_227 k_229 k_230 k_51 k_228) rfl rfl rfl (by decide +kernel) ⟨(Nat.le_of_ble_eq_true rfl), (Nat.le_of_ble_eq_true rfl)⟩) ⟨bl_W, va_recv hK hPc (ci := 3) (q0 := 0) rfl rfl, fun U hU hW => ⟨rfl, by rw [hU], by rw [hU]; exact hPc, va_K.moved hW.alike hK, hDc.weaken (fun _ _ _ _ => trivial)⟩⟩ rfl rfl hl.1 rfl (lv_room (Nat.le_of_ble_eq_true rfl)) dX3_encode_33 ⟨Nat.le_of_ble_eq_true rfl, Nat.le_of_ble_eq_true rfl⟩) hS (fun q _ h => hFc q h) hFc (fun T_5 t H1 locs ht hvm hw hB hz1 hk1 hS => ?_)
        obtain ⟨hP1, -, hD1⟩ := hB
        try dsimp only at hw
        rw [ht] at hP1
        obtain ⟨hP, hD⟩ := va_join (wr := []) (w1 := wTT cI cZ cJ nl nn ad ra S T_5) hP hD [0, 1, 2, 3, 4, 5, 6, 7, 8, 9, 10, 11, 12, 13, 14, 15, 16, 17, 18, 19] [] rfl rfl (by decide) (by decide) hk1 hFc hP1 hD1
        generalize H1 = H at hP hS ⊢
        have hP := hP.sub (ws' := wTT cI cZ cJ nl nn ad ra S T_5) [0, 1, 2, 3, 4, 5, 6, 7, 8, 9, 10, 11, 12, 13, 14, 15, 16, 17, 18, 19] rfl
        have hD := hD.sub (ws' := wTT cI cZ cJ nl nn ad ra S T_5) [0, 1, 2, 3, 4, 5, 6, 7, 8, 9, 10, 11, 12, 13, 14, 15, 16, 17, 18, 19] (by decide) rfl
        refine lv_iload hx hb dX3_encode_36 (lv_at hl 0 rfl) ?_
        exact vx_ret (W.iret (v := r_3) hx hb hr (fun t ht hW => ⟨⟨r_3, T_5, rfl, hw, by rw [ht]; exact hP, va_K.moved hW.alike hK, hD⟩, hS.F ht⟩) hS.2.2 dX3_encode_38)
def wp_X3_cost (post : Int32 → vTT → Prop) (px : String → vTT → Prop) (nl : Nat) (nn : Nat) (S : vSH) (T : vTT) (x1 : Int32) (x2 : Int32) (x3 : Int32) : Prop := wp_X3_checkNode (fun T_1 => wp_X3_checkThreshold (fun N_2 => wp_X3_costOfLeaf (fun r_3 => post r_3 T_1) nl nn S T_1 x1 x2 x3) (fun E N_2 => px E T_1)   x3) (fun E T_1 => px E T_1) nl nn S T 0 x1 x2
abbrev rm_X3_cost : Room := { frames := 7, cells := 2, slots := 12, locals := 105 }
set_option maxHeartbeats 4000000 in
set_option maxRecDepth 100000 in
theorem met_X3_cost (l : Launch) (hl9 : l.stackTraces = false) (dC : Nat → ClassId) (dI : Nat → Nat → Nat) (cI cZ cJ cL : ClassId) (sa : Nat → Nat) (ad ra : Nat → Nat) (sz : Nat) (post : Int32 → vTT → Prop) (px : String → vTT → Prop) (nl : Nat) (nn : Nat) (S : vSH) (T : vTT) (x1 : Int32) (x2 : Int32) (x3 : Int32) (hw : wp_X3_cost post px nl nn S T x1 x2 x3) : vx_Met l yX3_cost wsX3_cost rm_X3_cost (pcX (dC, dI) (tysA cI cZ cJ cL) sa (wTT cI cZ cJ nl nn ad ra S T) sz [.ref (ad 0), .int x1, .int x2, .int x3]) (va_Qi post (fun u t => qB (dC, dI) (tysA cI cZ cJ cL) (va_A (wTT cI cZ cJ nl nn ad ra S T) sz) (wTT cI cZ cJ nl nn ad ra S u) t) (va_A (wTT cI cZ cJ nl nn ad ra S T) sz)) (vx_X (fun u : String × vTT => px u.1 u.2) (fun E u t => E = u.1 ∧ qB (dC, dI) (tysA cI cZ cJ cL) (va_A (wTT cI cZ cJ nl nn ad ra S T) sz) (wTT cI cZ cJ nl nn ad ra S u.2) t) (va_A (wTT cI cZ cJ nl nn ad ra S T) sz)) 2 12 (va_A (wTT cI cZ cJ nl nn ad ra S T) sz) := by
  refine vx_ofW (cc := cX3_cost) (maxL := 4) (ret := (some .int)) (by decide) rfl ?_
  intro p e s m args below meth c s₁ Bd hml hno hv
  obtain ⟨hargs, hsz, hP, hK, hD0, hZ⟩ := hv
  have hx := Bd.exec
  have hb := Bd.bytes
  have hr := Bd.returns
  have hts := atoms_spec (ws := wsX3_cost) Bd.pre
  have hT : ∀ w ∈ WALL, w.before args s = true := fun w h => hts w (List.mem_cons_of_mem _ h)
  have hown : s.vm.findClass RX3 = some m.cls := findClass_of_methodNamed Bd.named
  have hlocks := Bd.notSynchronized
  subst hsz
  have hD := hD0.self (sz := s.heap.size)
  generalize hAe : va_A (wTT cI cZ cJ nl nn ad ra S T) s.heap.size = A at hD ⊢
  have hA : ∀ q : Nat, s.heap.size ≤ q → A q := fun q h => by rw [← hAe]; exact Or.inr h
  have hS : va_S A s.heap s.heap [] := va_S.rf
  rw [hAe] at hZ
  have hP : va_P (dC, dI) vwCl (wTT cI cZ cJ nl nn ad ra S T) s.heap := hP
  have hl := lv_entry ([.ref (ad 0), .int x1, .int x2, .int x3]) (n := 4) (Nat.le_of_ble_eq_true rfl)
  rw [show entryFrame m args 4 = F0 m 0 _ [] from by rw [hargs]; exact lg_entry_eq m ([.ref (ad 0), .int x1, .int x2, .int x3]) 4]
  generalize (lg_sl ([.ref (ad 0), .int x1, .int x2, .int x3]) ++ List.replicate (4 - (lg_sl ([.ref (ad 0), .int x1, .int x2, .int x3])).length) Slot.unset).toArray = ls at hl ⊢
  have hl : lv_has ls 4 [(0, .ref (ad 0)), (1, .int x1), (2, .int x2), (3, .int x3)] := hl
  obtain ⟨H, hH⟩ : ∃ z : Heap, z = s.heap := ⟨_, rfl⟩
  obtain ⟨locs, hlocs⟩ : ∃ z : List Loc, z = [] := ⟨_, rfl⟩
  rw [show W p l e (headSpec wsX3_cost rm_X3_cost).room s m args below meth c s.heap [] 0 0 = W p l e (headSpec wsX3_cost rm_X3_cost).room s m args below meth c H locs 0 0 from by rw [hH, hlocs]]
  have hP : va_P (dC, dI) vwCl (wTT cI cZ cJ nl nn ad ra S T) H := by rw [hH]; exact hP
  have hS : va_S A s.heap H locs := by rw [hH, hlocs]; exact hS
  unfold wp_X3_cost at hw
  refine lv_aload_n hx hb dX3_cost_0 rfl (lv_at hl 0 rfl) ?_
  refine lv_iconst (v := 0) hx hb dX3_cost_1 (by decide) ?_
  refine lv_iload_n hx hb dX3_cost_2 rfl (lv_at hl 1 rfl) ?_
  refine lv_iload_n hx hb dX3_cost_3 rfl (lv_at hl 2 rfl) ?_
  have hPc := hP
  have hDc := hD
  have hFc := va_free (wc := wTT cI cZ cJ nl nn ad ra S T) hD hS hA [0, 1, 2, 3, 4, 5, 6, 7, 8, 9, 10, 11, 12, 13, 14, 15, 16, 17, 18, 19] rfl
  refine vx_callv (vx_runV (As := [.int 0, .int x1, .int x2]) (rest := []) ⟨hx, hb, hml, hown, hT⟩ (met_X3_checkNode l hl9 dC dI cI cZ cJ cL sa ad ra H.size _ _ nl nn S T 0 x1 x2 hw) (cwV 3 hT (gV k_136 k_138 k_139 k_51 k_137) rfl rfl rfl (by decide +kernel) ⟨(Nat.le_of_ble_eq_true rfl), (Nat.le_of_ble_eq_true rfl)⟩) ⟨bl_X, va_recv hK hPc (ci := 3) (q0 := 0) rfl rfl, fun U hU hW => ⟨rfl, by rw [hU], by rw [hU]; exact hPc, va_K.moved hW.alike hK, hDc.weaken (fun _ _ _ _ => trivial), hZ.call hW hU hS hFc⟩⟩ rfl rfl hl.1 rfl (lv_room (Nat.le_of_ble_eq_true rfl)) dX3_cost_4 ⟨Nat.le_of_ble_eq_true rfl, Nat.le_of_ble_eq_true rfl⟩) hS (fun q _ h => hFc q h) hFc (fun q _ h => hFc q h) (fun E ce q9 u9 t H1 locs ht hvm hw hB hz1 hk1 hS hce hcv hcl => ?_) (fun T_1 t H1 locs ht hvm hw hB hz1 hk1 hS => ?_)
  · obtain ⟨E9, T_1⟩ := u9
    obtain ⟨rfl, hP1, -, hD1⟩ := hB
    try dsimp only at hw
    rw [ht] at hP1
    obtain ⟨hP, hD⟩ := va_join (wr := []) (w1 := wTT cI cZ cJ nl nn ad ra S T_1) hP hD [0, 1, 2, 3, 4, 5, 6, 7, 8, 9, 10, 11, 12, 13, 14, 15, 16, 17, 18, 19] [] rfl rfl (by decide) (by decide) hk1 hFc hP1 hD1
    generalize H1 = H at hP hS hce ⊢
    have hP := hP.sub (ws' := wTT cI cZ cJ nl nn ad ra S T_1) [0, 1, 2, 3, 4, 5, 6, 7, 8, 9, 10, 11, 12, 13, 14, 15, 16, 17, 18, 19] rfl
    have hD := hD.sub (ws' := wTT cI cZ cJ nl nn ad ra S T_1) [0, 1, 2, 3, 4, 5, 6, 7, 8, 9, 10, 11, 12, 13, 14, 15, 16, 17, 18, 19] (by decide) rfl
    exact vx_out (fun x h => (hno x h).elim) hlocks hce hcv hcl (fun t ht ha => ⟨(E, T_1), hw, ⟨rfl, by rw [ht]; exact hP, va_K.moved ha hK, hD⟩, hS.F ht⟩) hS.2.2 (Nat.le_of_ble_eq_true rfl) (Nat.le_of_ble_eq_true rfl)
  · obtain ⟨hP1, -, hD1⟩ := hB
    try dsimp only at hw
    rw [ht] at hP1
    obtain ⟨hP, hD⟩ := va_join (wr := []) (w1 := wTT cI cZ cJ nl nn ad ra S T_1) hP hD [0, 1, 2, 3, 4, 5, 6, 7, 8, 9, 10, 11, 12, 13, 14, 15, 16, 17, 18, 19] [] rfl rfl (by decide) (by decide) hk1 hFc hP1 hD1
    generalize H1 = H at hP hS ⊢
    have hP := hP.sub (ws' := wTT cI cZ cJ nl nn ad ra S T_1) [0, 1, 2, 3, 4, 5, 6, 7, 8, 9, 10, 11, 12, 13, 14, 15, 16, 17, 18, 19] rfl
    have hD := hD.sub (ws' := wTT cI cZ cJ nl nn ad ra S T_1) [0, 1, 2, 3, 4, 5, 6, 7, 8, 9, 10, 11, 12, 13, 14, 15, 16, 17, 18, 19] (by decide) rfl
    refine lv_iload_n hx hb dX3_cost_7 rfl (lv_at hl 3 rfl) ?_
    have hPc : va_P (dC, dI) vwCl [] H := hP.sub (ws' := []) [] rfl
    have hDc : va_D A [] := hD.sub (ws' := []) [] (by decide) rfl
    have hFc := va_free (wc := []) hD hS hA [] rfl
    refine vx_callv (vx_runS (As := [.int x3]) (rest := []) ⟨hx, hb, hml, hown, hT⟩ (met_X3_checkThreshold l hl9 dC dI cI cZ cJ cL sa  H.size _ _   x3 hw) (va_cwS 1 hT (gS k_220 k_222 k_51 k_221) rfl rfl rfl (by decide +kernel) ⟨(Nat.le_of_ble_eq_true rfl), (Nat.le_of_ble_eq_true rfl)⟩) ⟨bl_X, fun U hU hW => ⟨rfl, by rw [hU], by rw [hU]; exact hPc, va_K.moved hW.alike hK, hDc.weaken (fun _ _ _ _ => trivial), hZ.call hW hU hS hFc⟩⟩ rfl rfl hl.1 rfl (lv_room (Nat.le_of_ble_eq_true rfl)) dX3_cost_8 ⟨Nat.le_of_ble_eq_true rfl, Nat.le_of_ble_eq_true rfl⟩) hS (fun q _ h => hFc q h) hFc (fun q _ h => hFc q h) (fun E ce q9 u9 t H1 locs ht hvm hw hB hz1 hk1 hS hce hcv hcl => ?_) (fun N_2 t H1 locs ht hvm hw hB hz1 hk1 hS => ?_)
    · obtain ⟨E9, N_2⟩ := u9
      obtain ⟨rfl, hP1, -, hD1⟩ := hB
      try dsimp only at hw
      rw [ht] at hP1
      obtain ⟨hP, hD⟩ := va_join (wr := [(ad 0, .inr (3, [.ref (ad 1), .ref (ad 9), .ref (ad 10), .ref (ad 13), .ref (ad 16), .ref (ad 18), .int T_1.2.2.2.2.2])), (ad 1, .inr (1, [.int S.1.1, .int S.1.2.1, .int S.1.2.2.1, .int S.1.2.2.2.1, .int S.1.2.2.2.2, .ref (ad 2), .ref (ad 3), .ref (ad 4), .ref (ad 5)])), (ad 2, .inl (cI, 6, .inl S.2.1.1)), (ad 3, .inl (cI, 6, .inl S.2.1.2.1)), (ad 4, .inl (cI, 6, .inl S.2.1.2.2)), (ad 5, .inl (cJ, 3, .inr (.inr (.inr (.inr (fun i => if i < 3 then some (ra i) else none)))))), (ra 0, .inl (cI, nl, .inl (S.2.2 0))), (ra 1, .inl (cI, nl, .inl (S.2.2 1))), (ra 2, .inl (cI, nl, .inl (S.2.2 2))), (ad 9, .inl (cI, nn, .inl T_1.1)), (ad 10, .inr (2, [.ref (ad 11), .ref (ad 12), .int T_1.2.1.2.2])), (ad 11, .inl (cI, nn, .inl T_1.2.1.1)), (ad 12, .inl (cZ, nn, .inl T_1.2.1.2.1)), (ad 13, .inr (2, [.ref (ad 14), .ref (ad 15), .int T_1.2.2.1.2.2])), (ad 14, .inl (cI, nn, .inl T_1.2.2.1.1)), (ad 15, .inl (cZ, nn, .inl T_1.2.2.1.2.1)), (ad 16, .inr (0, [.ref (ad 17), .int T_1.2.2.2.1.2.1, .int T_1.2.2.2.1.2.2])), (ad 17, .inl (cI, 1250, .inl T_1.2.2.2.1.1)), (ad 18, .inr (0, [.ref (ad 19), .int T_1.2.2.2.2.1.2.1, .int T_1.2.2.2.2.1.2.2])), (ad 19, .inl (cI, 1250, .inl T_1.2.2.2.2.1.1))]) (w1 := []) hP hD [] [0, 1, 2, 3, 4, 5, 6, 7, 8, 9, 10, 11, 12, 13, 14, 15, 16, 17, 18, 19] rfl rfl (by decide) (by decide) hk1 hFc hP1 hD1
      generalize H1 = H at hP hS hce ⊢
      have hP := hP.sub (ws' := wTT cI cZ cJ nl nn ad ra S T_1) [0, 1, 2, 3, 4, 5, 6, 7, 8, 9, 10, 11, 12, 13, 14, 15, 16, 17, 18, 19] rfl
      have hD := hD.sub (ws' := wTT cI cZ cJ nl nn ad ra S T_1) [0, 1, 2, 3, 4, 5, 6, 7, 8, 9, 10, 11, 12, 13, 14, 15, 16, 17, 18, 19] (by decide) rfl
      exact vx_out (fun x h => (hno x h).elim) hlocks hce hcv hcl (fun t ht ha => ⟨(E, T_1), hw, ⟨rfl, by rw [ht]; exact hP, va_K.moved ha hK, hD⟩, hS.F ht⟩) hS.2.2 (Nat.le_of_ble_eq_true rfl) (Nat.le_of_ble_eq_true rfl)
    · obtain ⟨hP1, -, hD1⟩ := hB
      try dsimp only at hw
      rw [ht] at hP1
      obtain ⟨hP, hD⟩ := va_join (wr := [(ad 0, .inr (3, [.ref (ad 1), .ref (ad 9), .ref (ad 10), .ref (ad 13), .ref (ad 16), .ref (ad 18), .int T_1.2.2.2.2.2])), (ad 1, .inr (1, [.int S.1.1, .int S.1.2.1, .int S.1.2.2.1, .int S.1.2.2.2.1, .int S.1.2.2.2.2, .ref (ad 2), .ref (ad 3), .ref (ad 4), .ref (ad 5)])), (ad 2, .inl (cI, 6, .inl S.2.1.1)), (ad 3, .inl (cI, 6, .inl S.2.1.2.1)), (ad 4, .inl (cI, 6, .inl S.2.1.2.2)), (ad 5, .inl (cJ, 3, .inr (.inr (.inr (.inr (fun i => if i < 3 then some (ra i) else none)))))), (ra 0, .inl (cI, nl, .inl (S.2.2 0))), (ra 1, .inl (cI, nl, .inl (S.2.2 1))), (ra 2, .inl (cI, nl, .inl (S.2.2 2))), (ad 9, .inl (cI, nn, .inl T_1.1)), (ad 10, .inr (2, [.ref (ad 11), .ref (ad 12), .int T_1.2.1.2.2])), (ad 11, .inl (cI, nn, .inl T_1.2.1.1)), (ad 12, .inl (cZ, nn, .inl T_1.2.1.2.1)), (ad 13, .inr (2, [.ref (ad 14), .ref (ad 15), .int T_1.2.2.1.2.2])), (ad 14, .inl (cI, nn, .inl T_1.2.2.1.1)), (ad 15, .inl (cZ, nn, .inl T_1.2.2.1.2.1)), (ad 16, .inr (0, [.ref (ad 17), .int T_1.2.2.2.1.2.1, .int T_1.2.2.2.1.2.2])), (ad 17, .inl (cI, 1250, .inl T_1.2.2.2.1.1)), (ad 18, .inr (0, [.ref (ad 19), .int T_1.2.2.2.2.1.2.1, .int T_1.2.2.2.2.1.2.2])), (ad 19, .inl (cI, 1250, .inl T_1.2.2.2.2.1.1))]) (w1 := []) hP hD [] [0, 1, 2, 3, 4, 5, 6, 7, 8, 9, 10, 11, 12, 13, 14, 15, 16, 17, 18, 19] rfl rfl (by decide) (by decide) hk1 hFc hP1 hD1
      generalize H1 = H at hP hS ⊢
      have hP := hP.sub (ws' := wTT cI cZ cJ nl nn ad ra S T_1) [0, 1, 2, 3, 4, 5, 6, 7, 8, 9, 10, 11, 12, 13, 14, 15, 16, 17, 18, 19] rfl
      have hD := hD.sub (ws' := wTT cI cZ cJ nl nn ad ra S T_1) [0, 1, 2, 3, 4, 5, 6, 7, 8, 9, 10, 11, 12, 13, 14, 15, 16, 17, 18, 19] (by decide) rfl
      refine lv_aload_n hx hb dX3_cost_11 rfl (lv_at hl 0 rfl) ?_
      refine lv_iload_n hx hb dX3_cost_12 rfl (lv_at hl 1 rfl) ?_
      refine lv_iload_n hx hb dX3_cost_13 rfl (lv_at hl 2 rfl) ?_
      refine lv_iload_n hx hb dX3_cost_14 rfl (lv_at hl 3 rfl) ?_
      have hPc := hP
      refine vp_callSi (W.runV (As := [.int x1, .int x2, .int x3]) (rest := []) ⟨hx, hb, hml, hown, hT⟩ (met_X3_costOfLeaf l dC dI cI cZ cJ cL ad ra _ nl nn S T_1 x1 x2 x3 hw) (cwV 3 hT (gV k_223 k_225 k_226 k_51 k_224) rfl rfl rfl (by decide +kernel) ⟨(Nat.le_of_ble_eq_true rfl), (Nat.le_of_ble_eq_true rfl)⟩) ⟨bl_R, va_recv hK hPc (ci := 3) (q0 := 0) rfl rfl, fun U hU hW => ⟨rfl, by rw [hU]; exact hPc, va_K.moved hW.alike hK⟩⟩ rfl rfl hl.1 rfl (lv_room (Nat.le_of_ble_eq_true rfl)) dX3_cost_15 ⟨Nat.le_of_ble_eq_true rfl, Nat.le_of_ble_eq_true rfl⟩) (fun r_3 hw => ?_)
      try dsimp only at hw
      exact vx_ret (W.iret (v := r_3) hx hb hr (fun t ht hW => ⟨⟨r_3, T_1, rfl, hw, by rw [ht]; exact hP, va_K.moved hW.alike hK, hD⟩, hS.F ht⟩) hS.2.2 dX3_cost_18)
def wp_X3_encodeAll_L37 (post : Int32 → vTT → Prop) (px : String → vTT → Prop) (ex37 : vTT → Int32 → Prop) (nl : Nat) (nn : Nat) (S : vSH) (r_3 : Int32) (x1 : Int32) (x2 : Int32) : Nat → vTT → Int32 → Prop
  | 0, _, _ => False
  | n_8 + 1, T_6, x4_7 => ((S.1.2.2.1 ≤ x4_7 → (ex37 T_6 x4_7)) ∧ (¬ S.1.2.2.1 ≤ x4_7 → (wp_X1_leafX (fun r_10 => wp_X1_leafY (fun r_11 => wp_X3_tellLeaf (fun T_12 => ∀ x4_13 : Int32, x4_13 = x4_7 + 1 → (wp_X3_encodeAll_L37 post px ex37 nl nn S r_3 x1 x2 n_8 T_12 x4_13)) nl nn S T_6 r_10 r_11 x2) nl S  x1 x4_7) nl S  x1 x4_7)))
def wp_X3_encodeAll (post : Int32 → vTT → Prop) (px : String → vTT → Prop) (nl : Nat) (nn : Nat) (S : vSH) (T : vTT) (x1 : Int32) (x2 : Int32) : Prop := wp_X3_checkOrder (fun N_1 => wp_X3_checkThreshold (fun N_2 => wp_X3_costBelow nl nn S T 7 (fun r_3 => wp_X3_checkRoom (fun B_4 => ∀ T_5 : vTT, T_5 = (T.1, T.2.1, T.2.2.1, B_4, T.2.2.2.2.1, T.2.2.2.2.2) → (∃ n_8 : Nat, wp_X3_encodeAll_L37 post px (fun (T_6 : vTT) (x4_7 : Int32) => post r_3 T_6) nl nn S r_3 x1 x2 n_8 T_5 0)) (fun E B_4 => px E (T.1, T.2.1, T.2.2.1, B_4, T.2.2.2.2.1, T.2.2.2.2.2))  T.2.2.2.1 r_3) (S.1.2.2.2.1 - 1) 0 0 0 x2) (fun E N_2 => px E T)   x2) (fun E N_1 => px E T)   x1
abbrev rm_X3_encodeAll : Room := { frames := 12, cells := 3, slots := 18, locals := 380 }
set_option maxHeartbeats 4000000 in
set_option maxRecDepth 100000 in
theorem met_X3_encodeAll (l : Launch) (hl9 : l.stackTraces = false) (dC : Nat → ClassId) (dI : Nat → Nat → Nat) (cI cZ cJ cL : ClassId) (sa : Nat → Nat) (ad ra : Nat → Nat) (sz : Nat) (post : Int32 → vTT → Prop) (px : String → vTT → Prop) (nl : Nat) (nn : Nat) (S : vSH) (T : vTT) (x1 : Int32) (x2 : Int32) (hw : wp_X3_encodeAll post px nl nn S T x1 x2) : vx_Met l yX3_encodeAll wsX3_encodeAll rm_X3_encodeAll (pcX (dC, dI) (tysA cI cZ cJ cL) sa (wTT cI cZ cJ nl nn ad ra S T) sz [.ref (ad 0), .int x1, .int x2]) (va_Qi post (fun u t => qB (dC, dI) (tysA cI cZ cJ cL) (va_A (wTT cI cZ cJ nl nn ad ra S T) sz) (wTT cI cZ cJ nl nn ad ra S u) t) (va_A (wTT cI cZ cJ nl nn ad ra S T) sz)) (vx_X (fun u : String × vTT => px u.1 u.2) (fun E u t => E = u.1 ∧ qB (dC, dI) (tysA cI cZ cJ cL) (va_A (wTT cI cZ cJ nl nn ad ra S T) sz) (wTT cI cZ cJ nl nn ad ra S u.2) t) (va_A (wTT cI cZ cJ nl nn ad ra S T) sz)) 3 18 (va_A (wTT cI cZ cJ nl nn ad ra S T) sz) := by
  refine vx_ofW (cc := cX3_encodeAll) (maxL := 5) (ret := (some .int)) (by decide) rfl ?_
  intro p e s m args below meth c s₁ Bd hml hno hv
  obtain ⟨hargs, hsz, hP, hK, hD0, hZ⟩ := hv
  have hx := Bd.exec
  have hb := Bd.bytes
  have hr := Bd.returns
  have hts := atoms_spec (ws := wsX3_encodeAll) Bd.pre
  have hT : ∀ w ∈ WALL, w.before args s = true := fun w h => hts w (List.mem_cons_of_mem _ h)
  have hown : s.vm.findClass RX3 = some m.cls := findClass_of_methodNamed Bd.named
  have hlocks := Bd.notSynchronized
  subst hsz
  have hD := hD0.self (sz := s.heap.size)
  generalize hAe : va_A (wTT cI cZ cJ nl nn ad ra S T) s.heap.size = A at hD ⊢
  have hA : ∀ q : Nat, s.heap.size ≤ q → A q := fun q h => by rw [← hAe]; exact Or.inr h
  have hS : va_S A s.heap s.heap [] := va_S.rf
  rw [hAe] at hZ
  have hP : va_P (dC, dI) vwCl (wTT cI cZ cJ nl nn ad ra S T) s.heap := hP
  have hl := lv_entry ([.ref (ad 0), .int x1, .int x2]) (n := 5) (Nat.le_of_ble_eq_true rfl)
  rw [show entryFrame m args 5 = F0 m 0 _ [] from by rw [hargs]; exact lg_entry_eq m ([.ref (ad 0), .int x1, .int x2]) 5]
  generalize (lg_sl ([.ref (ad 0), .int x1, .int x2]) ++ List.replicate (5 - (lg_sl ([.ref (ad 0), .int x1, .int x2])).length) Slot.unset).toArray = ls at hl ⊢
  have hl : lv_has ls 5 [(0, .ref (ad 0)), (1, .int x1), (2, .int x2)] := hl
  obtain ⟨H, hH⟩ : ∃ z : Heap, z = s.heap := ⟨_, rfl⟩
  obtain ⟨locs, hlocs⟩ : ∃ z : List Loc, z = [] := ⟨_, rfl⟩
  rw [show W p l e (headSpec wsX3_encodeAll rm_X3_encodeAll).room s m args below meth c s.heap [] 0 0 = W p l e (headSpec wsX3_encodeAll rm_X3_encodeAll).room s m args below meth c H locs 0 0 from by rw [hH, hlocs]]
  have hP : va_P (dC, dI) vwCl (wTT cI cZ cJ nl nn ad ra S T) H := by rw [hH]; exact hP
  have hS : va_S A s.heap H locs := by rw [hH, hlocs]; exact hS
  unfold wp_X3_encodeAll at hw
  refine lv_iload_n hx hb dX3_encodeAll_0 rfl (lv_at hl 1 rfl) ?_
  have hPc : va_P (dC, dI) vwCl [] H := hP.sub (ws' := []) [] rfl
  have hDc : va_D A [] := hD.sub (ws' := []) [] (by decide) rfl
  have hFc := va_free (wc := []) hD hS hA [] rfl
  refine vx_callv (vx_runS (As := [.int x1]) (rest := []) ⟨hx, hb, hml, hown, hT⟩ (met_X3_checkOrder l hl9 dC dI cI cZ cJ cL sa  H.size _ _   x1 hw) (va_cwS 1 hT (gS k_48 k_50 k_51 k_49) rfl rfl rfl (by decide +kernel) ⟨(Nat.le_of_ble_eq_true rfl), (Nat.le_of_ble_eq_true rfl)⟩) ⟨bl_X, fun U hU hW => ⟨rfl, by rw [hU], by rw [hU]; exact hPc, va_K.moved hW.alike hK, hDc.weaken (fun _ _ _ _ => trivial), hZ.call hW hU hS hFc⟩⟩ rfl rfl hl.1 rfl (lv_room (Nat.le_of_ble_eq_true rfl)) dX3_encodeAll_1 ⟨Nat.le_of_ble_eq_true rfl, Nat.le_of_ble_eq_true rfl⟩) hS (fun q _ h => hFc q h) hFc (fun q _ h => hFc q h) (fun E ce q9 u9 t H1 locs ht hvm hw hB hz1 hk1 hS hce hcv hcl => ?_) (fun N_1 t H1 locs ht hvm hw hB hz1 hk1 hS => ?_)
  · obtain ⟨E9, N_1⟩ := u9
    obtain ⟨rfl, hP1, -, hD1⟩ := hB
    try dsimp only at hw
    rw [ht] at hP1
    obtain ⟨hP, hD⟩ := va_join (wr := [(ad 0, .inr (3, [.ref (ad 1), .ref (ad 9), .ref (ad 10), .ref (ad 13), .ref (ad 16), .ref (ad 18), .int T.2.2.2.2.2])), (ad 1, .inr (1, [.int S.1.1, .int S.1.2.1, .int S.1.2.2.1, .int S.1.2.2.2.1, .int S.1.2.2.2.2, .ref (ad 2), .ref (ad 3), .ref (ad 4), .ref (ad 5)])), (ad 2, .inl (cI, 6, .inl S.2.1.1)), (ad 3, .inl (cI, 6, .inl S.2.1.2.1)), (ad 4, .inl (cI, 6, .inl S.2.1.2.2)), (ad 5, .inl (cJ, 3, .inr (.inr (.inr (.inr (fun i => if i < 3 then some (ra i) else none)))))), (ra 0, .inl (cI, nl, .inl (S.2.2 0))), (ra 1, .inl (cI, nl, .inl (S.2.2 1))), (ra 2, .inl (cI, nl, .inl (S.2.2 2))), (ad 9, .inl (cI, nn, .inl T.1)), (ad 10, .inr (2, [.ref (ad 11), .ref (ad 12), .int T.2.1.2.2])), (ad 11, .inl (cI, nn, .inl T.2.1.1)), (ad 12, .inl (cZ, nn, .inl T.2.1.2.1)), (ad 13, .inr (2, [.ref (ad 14), .ref (ad 15), .int T.2.2.1.2.2])), (ad 14, .inl (cI, nn, .inl T.2.2.1.1)), (ad 15, .inl (cZ, nn, .inl T.2.2.1.2.1)), (ad 16, .inr (0, [.ref (ad 17), .int T.2.2.2.1.2.1, .int T.2.2.2.1.2.2])), (ad 17, .inl (cI, 1250, .inl T.2.2.2.1.1)), (ad 18, .inr (0, [.ref (ad 19), .int T.2.2.2.2.1.2.1, .int T.2.2.2.2.1.2.2])), (ad 19, .inl (cI, 1250, .inl T.2.2.2.2.1.1))]) (w1 := []) hP hD [] [0, 1, 2, 3, 4, 5, 6, 7, 8, 9, 10, 11, 12, 13, 14, 15, 16, 17, 18, 19] rfl rfl (by decide) (by decide) hk1 hFc hP1 hD1
    generalize H1 = H at hP hS hce ⊢
    have hP := hP.sub (ws' := wTT cI cZ cJ nl nn ad ra S T) [0, 1, 2, 3, 4, 5, 6, 7, 8, 9, 10, 11, 12, 13, 14, 15, 16, 17, 18, 19] rfl
    have hD := hD.sub (ws' := wTT cI cZ cJ nl nn ad ra S T) [0, 1, 2, 3, 4, 5, 6, 7, 8, 9, 10, 11, 12, 13, 14, 15, 16, 17, 18, 19] (by decide) rfl
    exact vx_out (fun x h => (hno x h).elim) hlocks hce hcv hcl (fun t ht ha => ⟨(E, T), hw, ⟨rfl, by rw [ht]; exact hP, va_K.moved ha hK, hD⟩, hS.F ht⟩) hS.2.2 (Nat.le_of_ble_eq_true rfl) (Nat.le_of_ble_eq_true rfl)
  · obtain ⟨hP1, -, hD1⟩ := hB
    try dsimp only at hw
    rw [ht] at hP1
    obtain ⟨hP, hD⟩ := va_join (wr := [(ad 0, .inr (3, [.ref (ad 1), .ref (ad 9), .ref (ad 10), .ref (ad 13), .ref (ad 16), .ref (ad 18), .int T.2.2.2.2.2])), (ad 1, .inr (1, [.int S.1.1, .int S.1.2.1, .int S.1.2.2.1, .int S.1.2.2.2.1, .int S.1.2.2.2.2, .ref (ad 2), .ref (ad 3), .ref (ad 4), .ref (ad 5)])), (ad 2, .inl (cI, 6, .inl S.2.1.1)), (ad 3, .inl (cI, 6, .inl S.2.1.2.1)), (ad 4, .inl (cI, 6, .inl S.2.1.2.2)), (ad 5, .inl (cJ, 3, .inr (.inr (.inr (.inr (fun i => if i < 3 then some (ra i) else none)))))), (ra 0, .inl (cI, nl, .inl (S.2.2 0))), (ra 1, .inl (cI, nl, .inl (S.2.2 1))), (ra 2, .inl (cI, nl, .inl (S.2.2 2))), (ad 9, .inl (cI, nn, .inl T.1)), (ad 10, .inr (2, [.ref (ad 11), .ref (ad 12), .int T.2.1.2.2])), (ad 11, .inl (cI, nn, .inl T.2.1.1)), (ad 12, .inl (cZ, nn, .inl T.2.1.2.1)), (ad 13, .inr (2, [.ref (ad 14), .ref (ad 15), .int T.2.2.1.2.2])), (ad 14, .inl (cI, nn, .inl T.2.2.1.1)), (ad 15, .inl (cZ, nn, .inl T.2.2.1.2.1)), (ad 16, .inr (0, [.ref (ad 17), .int T.2.2.2.1.2.1, .int T.2.2.2.1.2.2])), (ad 17, .inl (cI, 1250, .inl T.2.2.2.1.1)), (ad 18, .inr (0, [.ref (ad 19), .int T.2.2.2.2.1.2.1, .int T.2.2.2.2.1.2.2])), (ad 19, .inl (cI, 1250, .inl T.2.2.2.2.1.1))]) (w1 := []) hP hD [] [0, 1, 2, 3, 4, 5, 6, 7, 8, 9, 10, 11, 12, 13, 14, 15, 16, 17, 18, 19] rfl rfl (by decide) (by decide) hk1 hFc hP1 hD1
    generalize H1 = H at hP hS ⊢
    have hP := hP.sub (ws' := wTT cI cZ cJ nl nn ad ra S T) [0, 1, 2, 3, 4, 5, 6, 7, 8, 9, 10, 11, 12, 13, 14, 15, 16, 17, 18, 19] rfl
    have hD := hD.sub (ws' := wTT cI cZ cJ nl nn ad ra S T) [0, 1, 2, 3, 4, 5, 6, 7, 8, 9, 10, 11, 12, 13, 14, 15, 16, 17, 18, 19] (by decide) rfl
    refine lv_iload_n hx hb dX3_encodeAll_4 rfl (lv_at hl 2 rfl) ?_
    have hPc : va_P (dC, dI) vwCl [] H := hP.sub (ws' := []) [] rfl
    have hDc : va_D A [] := hD.sub (ws' := []) [] (by decide) rfl
    have hFc := va_free (wc := []) hD hS hA [] rfl
    refine vx_callv (vx_runS (As := [.int x2]) (rest := []) ⟨hx, hb, hml, hown, hT⟩ (met_X3_checkThreshold l hl9 dC dI cI cZ cJ cL sa  H.size _ _   x2 hw) (va_cwS 1 hT (gS k_220 k_222 k_51 k_221) rfl rfl rfl (by decide +kernel) ⟨(Nat.le_of_ble_eq_true rfl), (Nat.le_of_ble_eq_true rfl)⟩) ⟨bl_X, fun U hU hW => ⟨rfl, by rw [hU], by rw [hU]; exact hPc, va_K.moved hW.alike hK, hDc.weaken (fun _ _ _ _ => trivial), hZ.call hW hU hS hFc⟩⟩ rfl rfl hl.1 rfl (lv_room (Nat.le_of_ble_eq_true rfl)) dX3_encodeAll_5 ⟨Nat.le_of_ble_eq_true rfl, Nat.le_of_ble_eq_true rfl⟩) hS (fun q _ h => hFc q h) hFc (fun q _ h => hFc q h) (fun E ce q9 u9 t H1 locs ht hvm hw hB hz1 hk1 hS hce hcv hcl => ?_) (fun N_2 t H1 locs ht hvm hw hB hz1 hk1 hS => ?_)
    · obtain ⟨E9, N_2⟩ := u9
      obtain ⟨rfl, hP1, -, hD1⟩ := hB
      try dsimp only at hw
      rw [ht] at hP1
      obtain ⟨hP, hD⟩ := va_join (wr := [(ad 0, .inr (3, [.ref (ad 1), .ref (ad 9), .ref (ad 10), .ref (ad 13), .ref (ad 16), .ref (ad 18), .int T.2.2.2.2.2])), (ad 1, .inr (1, [.int S.1.1, .int S.1.2.1, .int S.1.2.2.1, .int S.1.2.2.2.1, .int S.1.2.2.2.2, .ref (ad 2), .ref (ad 3), .ref (ad 4), .ref (ad 5)])), (ad 2, .inl (cI, 6, .inl S.2.1.1)), (ad 3, .inl (cI, 6, .inl S.2.1.2.1)), (ad 4, .inl (cI, 6, .inl S.2.1.2.2)), (ad 5, .inl (cJ, 3, .inr (.inr (.inr (.inr (fun i => if i < 3 then some (ra i) else none)))))), (ra 0, .inl (cI, nl, .inl (S.2.2 0))), (ra 1, .inl (cI, nl, .inl (S.2.2 1))), (ra 2, .inl (cI, nl, .inl (S.2.2 2))), (ad 9, .inl (cI, nn, .inl T.1)), (ad 10, .inr (2, [.ref (ad 11), .ref (ad 12), .int T.2.1.2.2])), (ad 11, .inl (cI, nn, .inl T.2.1.1)), (ad 12, .inl (cZ, nn, .inl T.2.1.2.1)), (ad 13, .inr (2, [.ref (ad 14), .ref (ad 15), .int T.2.2.1.2.2])), (ad 14, .inl (cI, nn, .inl T.2.2.1.1)), (ad 15, .inl (cZ, nn, .inl T.2.2.1.2.1)), (ad 16, .inr (0, [.ref (ad 17), .int T.2.2.2.1.2.1, .int T.2.2.2.1.2.2])), (ad 17, .inl (cI, 1250, .inl T.2.2.2.1.1)), (ad 18, .inr (0, [.ref (ad 19), .int T.2.2.2.2.1.2.1, .int T.2.2.2.2.1.2.2])), (ad 19, .inl (cI, 1250, .inl T.2.2.2.2.1.1))]) (w1 := []) hP hD [] [0, 1, 2, 3, 4, 5, 6, 7, 8, 9, 10, 11, 12, 13, 14, 15, 16, 17, 18, 19] rfl rfl (by decide) (by decide) hk1 hFc hP1 hD1
      generalize H1 = H at hP hS hce ⊢
      have hP := hP.sub (ws' := wTT cI cZ cJ nl nn ad ra S T) [0, 1, 2, 3, 4, 5, 6, 7, 8, 9, 10, 11, 12, 13, 14, 15, 16, 17, 18, 19] rfl
      have hD := hD.sub (ws' := wTT cI cZ cJ nl nn ad ra S T) [0, 1, 2, 3, 4, 5, 6, 7, 8, 9, 10, 11, 12, 13, 14, 15, 16, 17, 18, 19] (by decide) rfl
      exact vx_out (fun x h => (hno x h).elim) hlocks hce hcv hcl (fun t ht ha => ⟨(E, T), hw, ⟨rfl, by rw [ht]; exact hP, va_K.moved ha hK, hD⟩, hS.F ht⟩) hS.2.2 (Nat.le_of_ble_eq_true rfl) (Nat.le_of_ble_eq_true rfl)
    · obtain ⟨hP1, -, hD1⟩ := hB
      try dsimp only at hw
      rw [ht] at hP1
      obtain ⟨hP, hD⟩ := va_join (wr := [(ad 0, .inr (3, [.ref (ad 1), .ref (ad 9), .ref (ad 10), .ref (ad 13), .ref (ad 16), .ref (ad 18), .int T.2.2.2.2.2])), (ad 1, .inr (1, [.int S.1.1, .int S.1.2.1, .int S.1.2.2.1, .int S.1.2.2.2.1, .int S.1.2.2.2.2, .ref (ad 2), .ref (ad 3), .ref (ad 4), .ref (ad 5)])), (ad 2, .inl (cI, 6, .inl S.2.1.1)), (ad 3, .inl (cI, 6, .inl S.2.1.2.1)), (ad 4, .inl (cI, 6, .inl S.2.1.2.2)), (ad 5, .inl (cJ, 3, .inr (.inr (.inr (.inr (fun i => if i < 3 then some (ra i) else none)))))), (ra 0, .inl (cI, nl, .inl (S.2.2 0))), (ra 1, .inl (cI, nl, .inl (S.2.2 1))), (ra 2, .inl (cI, nl, .inl (S.2.2 2))), (ad 9, .inl (cI, nn, .inl T.1)), (ad 10, .inr (2, [.ref (ad 11), .ref (ad 12), .int T.2.1.2.2])), (ad 11, .inl (cI, nn, .inl T.2.1.1)), (ad 12, .inl (cZ, nn, .inl T.2.1.2.1)), (ad 13, .inr (2, [.ref (ad 14), .ref (ad 15), .int T.2.2.1.2.2])), (ad 14, .inl (cI, nn, .inl T.2.2.1.1)), (ad 15, .inl (cZ, nn, .inl T.2.2.1.2.1)), (ad 16, .inr (0, [.ref (ad 17), .int T.2.2.2.1.2.1, .int T.2.2.2.1.2.2])), (ad 17, .inl (cI, 1250, .inl T.2.2.2.1.1)), (ad 18, .inr (0, [.ref (ad 19), .int T.2.2.2.2.1.2.1, .int T.2.2.2.2.1.2.2])), (ad 19, .inl (cI, 1250, .inl T.2.2.2.2.1.1))]) (w1 := []) hP hD [] [0, 1, 2, 3, 4, 5, 6, 7, 8, 9, 10, 11, 12, 13, 14, 15, 16, 17, 18, 19] rfl rfl (by decide) (by decide) hk1 hFc hP1 hD1
      generalize H1 = H at hP hS ⊢
      have hP := hP.sub (ws' := wTT cI cZ cJ nl nn ad ra S T) [0, 1, 2, 3, 4, 5, 6, 7, 8, 9, 10, 11, 12, 13, 14, 15, 16, 17, 18, 19] rfl
      have hD := hD.sub (ws' := wTT cI cZ cJ nl nn ad ra S T) [0, 1, 2, 3, 4, 5, 6, 7, 8, 9, 10, 11, 12, 13, 14, 15, 16, 17, 18, 19] (by decide) rfl
      refine lv_aload_n hx hb dX3_encodeAll_8 rfl (lv_at hl 0 rfl) ?_
      refine lv_aload_n hx hb dX3_encodeAll_9 rfl (lv_at hl 0 rfl) ?_
      refine va_get (D := (dC, dI)) (ci := 3) (v := .ref (ad 1)) (C := RX3) (T := TX3) (N := 7) hx hb hT inX3 hown hK hP 0 rfl rfl 0 (by decide) (hT _ k_0) (fun _ h9 => h9) rfl dX3_encodeAll_10 ?_
      refine va_get (D := (dC, dI)) (ci := 1) (v := .int S.1.2.2.2.1) (C := RX1) (T := TX1) (N := 9) hx hb hT inX1 hown hK hP 1 rfl rfl 3 (by decide) (hT _ k_3) (fun _ h9 => h9) rfl dX3_encodeAll_13 ?_
      refine lv_iconst (v := 1) hx hb dX3_encodeAll_16 (by decide) ?_
      refine lv_isub hx hb dX3_encodeAll_17 ?_
      refine lv_iconst (v := 0) hx hb dX3_encodeAll_18 (by decide) ?_
      refine lv_iconst (v := 0) hx hb dX3_encodeAll_19 (by decide) ?_
      refine lv_iconst (v := 0) hx hb dX3_encodeAll_20 (by decide) ?_
      refine lv_iload_n hx hb dX3_encodeAll_21 rfl (lv_at hl 2 rfl) ?_
      have hPc := hP
      refine vp_callSi (W.runV (As := [.int (S.1.2.2.2.1 - 1), .int 0, .int 0, .int 0, .int x2]) (rest := []) ⟨hx, hb, hml, hown, hT⟩ (met_X3_costBelow l dC dI cI cZ cJ cL ad ra nl nn S T 7 _ (S.1.2.2.2.1 - 1) 0 0 0 x2 hw) (cwV 5 hT (gV k_200 k_202 k_203 k_51 k_201) rfl rfl rfl (by decide +kernel) ⟨(Nat.le_of_ble_eq_true rfl), (Nat.le_of_ble_eq_true rfl)⟩) ⟨bl_R, va_recv hK hPc (ci := 3) (q0 := 0) rfl rfl, fun U hU hW => ⟨rfl, by rw [hU]; exact hPc, va_K.moved hW.alike hK⟩⟩ rfl rfl hl.1 rfl (lv_room (Nat.le_of_ble_eq_true rfl)) dX3_encodeAll_22 ⟨Nat.le_of_ble_eq_true rfl, Nat.le_of_ble_eq_true rfl⟩) (fun r_3 hw => ?_)
      try dsimp only at hw
      refine lv_istore_n (lv' := [(3, .int r_3), (0, .ref (ad 0)), (1, .int x1), (2, .int x2)]) hx hb dX3_encodeAll_25 rfl hl (by decide) rfl (fun ls hl => ?_)
      refine lv_aload_n hx hb dX3_encodeAll_26 rfl (lv_at hl 1 rfl) ?_
      refine va_get (D := (dC, dI)) (ci := 3) (v := .ref (ad 16)) (C := RX3) (T := TX3) (N := 7) hx hb hT inX3 hown hK hP 0 rfl rfl 4 (by decide) (hT _ k_5) (fun _ h9 => h9) rfl dX3_encodeAll_27 ?_
      refine lv_iload_n hx hb dX3_encodeAll_30 rfl (lv_at hl 0 rfl) ?_
      have hPc := hP.sub (ws' := wBR cI (ad 16) (ad 17) T.2.2.2.1) [16, 17] rfl
      have hDc := hD.sub (ws' := wBR cI (ad 16) (ad 17) T.2.2.2.1) [16, 17] (by decide) rfl
      have hFc := va_free (wc := wBR cI (ad 16) (ad 17) T.2.2.2.1) hD hS hA [16, 17] rfl
      refine vx_callv (vx_runS (As := [.ref (ad 16), .int r_3]) (rest := []) ⟨hx, hb, hml, hown, hT⟩ (met_X3_checkRoom l hl9 dC dI cI cZ cJ cL sa (ad 16) (ad 17) H.size _ _  T.2.2.2.1 r_3 hw) (va_cwS 2 hT (gS k_129 k_131 k_51 k_130) rfl rfl rfl (by decide +kernel) ⟨(Nat.le_of_ble_eq_true rfl), (Nat.le_of_ble_eq_true rfl)⟩) ⟨bl_X, fun U hU hW => ⟨rfl, by rw [hU], by rw [hU]; exact hPc, va_K.moved hW.alike hK, hDc.weaken (fun _ _ _ _ => trivial), hZ.call hW hU hS hFc⟩⟩ rfl rfl hl.1 rfl (lv_room (Nat.le_of_ble_eq_true rfl)) dX3_encodeAll_31 ⟨Nat.le_of_ble_eq_true rfl, Nat.le_of_ble_eq_true rfl⟩) hS (fun q _ h => hFc q h) hFc (fun q _ h => hFc q h) (fun E ce q9 u9 t H1 locs ht hvm hw hB hz1 hk1 hS hce hcv hcl => ?_) (fun B_4 t H1 locs ht hvm hw hB hz1 hk1 hS => ?_)
      · obtain ⟨E9, B_4⟩ := u9
        obtain ⟨rfl, hP1, -, hD1⟩ := hB
        try dsimp only at hw
        rw [ht] at hP1
        obtain ⟨hP, hD⟩ := va_join (wr := [(ad 0, .inr (3, [.ref (ad 1), .ref (ad 9), .ref (ad 10), .ref (ad 13), .ref (ad 16), .ref (ad 18), .int T.2.2.2.2.2])), (ad 1, .inr (1, [.int S.1.1, .int S.1.2.1, .int S.1.2.2.1, .int S.1.2.2.2.1, .int S.1.2.2.2.2, .ref (ad 2), .ref (ad 3), .ref (ad 4), .ref (ad 5)])), (ad 2, .inl (cI, 6, .inl S.2.1.1)), (ad 3, .inl (cI, 6, .inl S.2.1.2.1)), (ad 4, .inl (cI, 6, .inl S.2.1.2.2)), (ad 5, .inl (cJ, 3, .inr (.inr (.inr (.inr (fun i => if i < 3 then some (ra i) else none)))))), (ra 0, .inl (cI, nl, .inl (S.2.2 0))), (ra 1, .inl (cI, nl, .inl (S.2.2 1))), (ra 2, .inl (cI, nl, .inl (S.2.2 2))), (ad 9, .inl (cI, nn, .inl T.1)), (ad 10, .inr (2, [.ref (ad 11), .ref (ad 12), .int T.2.1.2.2])), (ad 11, .inl (cI, nn, .inl T.2.1.1)), (ad 12, .inl (cZ, nn, .inl T.2.1.2.1)), (ad 13, .inr (2, [.ref (ad 14), .ref (ad 15), .int T.2.2.1.2.2])), (ad 14, .inl (cI, nn, .inl T.2.2.1.1)), (ad 15, .inl (cZ, nn, .inl T.2.2.1.2.1)), (ad 18, .inr (0, [.ref (ad 19), .int T.2.2.2.2.1.2.1, .int T.2.2.2.2.1.2.2])), (ad 19, .inl (cI, 1250, .inl T.2.2.2.2.1.1))]) (w1 := wBR cI (ad 16) (ad 17) B_4) hP hD [16, 17] [0, 1, 2, 3, 4, 5, 6, 7, 8, 9, 10, 11, 12, 13, 14, 15, 18, 19] rfl rfl (by decide) (by decide) hk1 hFc hP1 hD1
        generalize H1 = H at hP hS hce ⊢
        have hP := hP.sub (ws' := wTT cI cZ cJ nl nn ad ra S (T.1, T.2.1, T.2.2.1, B_4, T.2.2.2.2.1, T.2.2.2.2.2)) [0, 1, 2, 3, 4, 5, 6, 7, 8, 9, 10, 11, 12, 13, 14, 15, 18, 19, 16, 17] rfl
        have hD := hD.sub (ws' := wTT cI cZ cJ nl nn ad ra S (T.1, T.2.1, T.2.2.1, B_4, T.2.2.2.2.1, T.2.2.2.2.2)) [0, 1, 2, 3, 4, 5, 6, 7, 8, 9, 10, 11, 12, 13, 14, 15, 18, 19, 16, 17] (by decide) rfl
        exact vx_out (fun x h => (hno x h).elim) hlocks hce hcv hcl (fun t ht ha => ⟨(E, (T.1, T.2.1, T.2.2.1, B_4, T.2.2.2.2.1, T.2.2.2.2.2)), hw, ⟨rfl, by rw [ht]; exact hP, va_K.moved ha hK, hD⟩, hS.F ht⟩) hS.2.2 (Nat.le_of_ble_eq_true rfl) (Nat.le_of_ble_eq_true rfl)
      · obtain ⟨hP1, -, hD1⟩ := hB
        try dsimp only at hw
        rw [ht] at hP1
        obtain ⟨hP, hD⟩ := va_join (wr := [(ad 0, .inr (3, [.ref (ad 1), .ref (ad 9), .ref (ad 10), .ref (ad 13), .ref (ad 16), .ref (ad 18), .int T.2.2.2.2.2])), (ad 1, .inr (1, [.int S.1.1, .int S.1.2.1, .int S.1.2.2.1, .int S.1.2.2.2.1, .int S.1.2.2.2.2, .ref (ad 2), .ref (ad 3), .ref (ad 4), .ref (ad 5)])), (ad 2, .inl (cI, 6, .inl S.2.1.1)), (ad 3, .inl (cI, 6, .inl S.2.1.2.1)), (ad 4, .inl (cI, 6, .inl S.2.1.2.2)), (ad 5, .inl (cJ, 3, .inr (.inr (.inr (.inr (fun i => if i < 3 then some (ra i) else none)))))), (ra 0, .inl (cI, nl, .inl (S.2.2 0))), (ra 1, .inl (cI, nl, .inl (S.2.2 1))), (ra 2, .inl (cI, nl, .inl (S.2.2 2))), (ad 9, .inl (cI, nn, .inl T.1)), (ad 10, .inr (2, [.ref (ad 11), .ref (ad 12), .int T.2.1.2.2])), (ad 11, .inl (cI, nn, .inl T.2.1.1)), (ad 12, .inl (cZ, nn, .inl T.2.1.2.1)), (ad 13, .inr (2, [.ref (ad 14), .ref (ad 15), .int T.2.2.1.2.2])), (ad 14, .inl (cI, nn, .inl T.2.2.1.1)), (ad 15, .inl (cZ, nn, .inl T.2.2.1.2.1)), (ad 18, .inr (0, [.ref (ad 19), .int T.2.2.2.2.1.2.1, .int T.2.2.2.2.1.2.2])), (ad 19, .inl (cI, 1250, .inl T.2.2.2.2.1.1))]) (w1 := wBR cI (ad 16) (ad 17) B_4) hP hD [16, 17] [0, 1, 2, 3, 4, 5, 6, 7, 8, 9, 10, 11, 12, 13, 14, 15, 18, 19] rfl rfl (by decide) (by decide) hk1 hFc hP1 hD1
        generalize H1 = H at hP hS ⊢
        have hP := hP.sub (ws' := wTT cI cZ cJ nl nn ad ra S (T.1, T.2.1, T.2.2.1, B_4, T.2.2.2.2.1, T.2.2.2.2.2)) [0, 1, 2, 3, 4, 5, 6, 7, 8, 9, 10, 11, 12, 13, 14, 15, 18, 19, 16, 17] rfl
        have hD := hD.sub (ws' := wTT cI cZ cJ nl nn ad ra S (T.1, T.2.1, T.2.2.1, B_4, T.2.2.2.2.1, T.2.2.2.2.2)) [0, 1, 2, 3, 4, 5, 6, 7, 8, 9, 10, 11, 12, 13, 14, 15, 18, 19, 16, 17] (by decide) rfl
        refine lv_iconst (v := 0) hx hb dX3_encodeAll_34 (by decide) ?_
        refine lv_istore (lv' := [(4, .int 0), (3, .int r_3), (0, .ref (ad 0)), (1, .int x1), (2, .int x2)]) hx hb dX3_encodeAll_35 hl (by decide) rfl (fun ls hl => ?_)
        obtain ⟨T_5, eT_5⟩ : ∃ z : vTT, z = (T.1, T.2.1, T.2.2.1, B_4, T.2.2.2.2.1, T.2.2.2.2.2) := ⟨_, rfl⟩
        have hw := hw T_5 eT_5
        rw [← eT_5] at hP hD
        obtain ⟨n_8, hw⟩ := hw
        obtain ⟨ex37, eex37⟩ : ∃ z : vTT → Int32 → Prop, z = (fun (T_6 : vTT) (x4_7 : Int32) => post r_3 T_6) := ⟨_, rfl⟩
        rw [← eex37] at hw
        have hx37 : ∀ (T_6 : vTT) (x4_7 : Int32), ex37 T_6 x4_7 → ∀ (H : Heap) (locs : List Loc) (ls : Array Slot), va_P (dC, dI) vwCl (wTT cI cZ cJ nl nn ad ra S T_6) H → va_D A (wTT cI cZ cJ nl nn ad ra S T_6) → va_S A s.heap H locs → lv_has ls 5 [(4, .int x4_7), (3, .int r_3), (0, .ref (ad 0)), (1, .int x1), (2, .int x2)] → W p l e (headSpec wsX3_encodeAll rm_X3_encodeAll).room s m args below meth c H locs 3 18 (vx_MQ below (va_Qi post (fun u t => qB (dC, dI) (tysA cI cZ cJ cL) A (wTT cI cZ cJ nl nn ad ra S u) t) A) (vx_X (fun u : String × vTT => px u.1 u.2) (fun E u t => E = u.1 ∧ qB (dC, dI) (tysA cI cZ cJ cL) A (wTT cI cZ cJ nl nn ad ra S u.2) t) A) args s 3 18 A) (F0 m 80 ls []) := by
          intro T_6 x4_7 hw H locs ls hP hD hS hl
          rw [eex37] at hw
          try dsimp only at hw
          refine lv_iload_n hx hb dX3_encodeAll_80 rfl (lv_at hl 1 rfl) ?_
          exact vx_ret (W.iret (v := r_3) hx hb hr (fun t ht hW => ⟨⟨r_3, T_6, rfl, hw, by rw [ht]; exact hP, va_K.moved hW.alike hK, hD⟩, hS.F ht⟩) hS.2.2 dX3_encodeAll_81)
        have hlp37 : ∀ (n_8 : Nat) (T_6 : vTT) (x4_7 : Int32), wp_X3_encodeAll_L37 post px ex37 nl nn S r_3 x1 x2 n_8 T_6 x4_7 → ∀ (H : Heap) (locs : List Loc) (ls : Array Slot), va_P (dC, dI) vwCl (wTT cI cZ cJ nl nn ad ra S T_6) H → va_D A (wTT cI cZ cJ nl nn ad ra S T_6) → va_S A s.heap H locs → lv_has ls 5 [(4, .int x4_7), (3, .int r_3), (0, .ref (ad 0)), (1, .int x1), (2, .int x2)] → W p l e (headSpec wsX3_encodeAll rm_X3_encodeAll).room s m args below meth c H locs 3 18 (vx_MQ below (va_Qi post (fun u t => qB (dC, dI) (tysA cI cZ cJ cL) A (wTT cI cZ cJ nl nn ad ra S u) t) A) (vx_X (fun u : String × vTT => px u.1 u.2) (fun E u t => E = u.1 ∧ qB (dC, dI) (tysA cI cZ cJ cL) A (wTT cI cZ cJ nl nn ad ra S u.2) t) A) args s 3 18 A) (F0 m 37 ls []) := by
          intro n_8
          induction n_8 with
          | zero => intro _ _ hw; exact hw.elim
          | succ n_8 ih37 =>
            intro T_6 x4_7 hw H locs ls hP hD hS hl
            unfold wp_X3_encodeAll_L37 at hw
            refine lv_iload hx hb dX3_encodeAll_37 (lv_at hl 0 rfl) ?_
            refine lv_aload_n hx hb dX3_encodeAll_39 rfl (lv_at hl 2 rfl) ?_
            refine va_get (D := (dC, dI)) (ci := 3) (v := .ref (ad 1)) (C := RX3) (T := TX3) (N := 7) hx hb hT inX3 hown hK hP 0 rfl rfl 0 (by decide) (hT _ k_0) (fun _ h9 => h9) rfl dX3_encodeAll_40 ?_
            refine va_get (D := (dC, dI)) (ci := 1) (v := .int S.1.2.2.1) (C := RX1) (T := TX1) (N := 9) hx hb hT inX1 hown hK hP 1 rfl rfl 2 (by decide) (hT _ k_54) (fun _ h9 => h9) rfl dX3_encodeAll_43 ?_
            refine lv_icmp_ge (tgt := 80) hx hb dX3_encodeAll_46 (by decide) (fun c_9 => ?_) (fun c_9 => ?_)
            · have hw := hw.1 c_9
              exact hx37 T_6 x4_7 hw _ _ _ hP hD hS (lv_sub hl [0, 1, 2, 3, 4] rfl)
            · have hw := hw.2 c_9
              refine lv_aload_n hx hb dX3_encodeAll_49 rfl (lv_at hl 2 rfl) ?_
              refine lv_aload_n hx hb dX3_encodeAll_50 rfl (lv_at hl 2 rfl) ?_
              refine va_get (D := (dC, dI)) (ci := 3) (v := .ref (ad 1)) (C := RX3) (T := TX3) (N := 7) hx hb hT inX3 hown hK hP 0 rfl rfl 0 (by decide) (hT _ k_0) (fun _ h9 => h9) rfl dX3_encodeAll_51 ?_
              refine lv_iload_n hx hb dX3_encodeAll_54 rfl (lv_at hl 3 rfl) ?_
              refine lv_iload hx hb dX3_encodeAll_55 (lv_at hl 0 rfl) ?_
              have hPc := hP.sub (ws' := wSH cI cJ nl (ad 1) (ad 2) (ad 3) (ad 4) (ad 5) ra S) [1, 2, 3, 4, 5, 6, 7, 8] rfl
              refine vp_callSi (W.runV (As := [.int x1, .int x4_7]) (rest := [.ref (ad 0)]) ⟨hx, hb, hml, hown, hT⟩ (met_X1_leafX l dC dI cI cZ cJ cL (ad 1) (ad 2) (ad 3) (ad 4) (ad 5) ra _ nl S  x1 x4_7 hw) (cwV 2 hT (gV k_55 k_57 k_58 k_59 k_56) rfl rfl rfl (by decide +kernel) ⟨(Nat.le_of_ble_eq_true rfl), (Nat.le_of_ble_eq_true rfl)⟩) ⟨bl_R, va_recv hK hPc (ci := 1) (q0 := 0) rfl rfl, fun U hU hW => ⟨rfl, by rw [hU]; exact hPc, va_K.moved hW.alike hK⟩⟩ rfl rfl hl.1 rfl (lv_room (Nat.le_of_ble_eq_true rfl)) dX3_encodeAll_57 ⟨Nat.le_of_ble_eq_true rfl, Nat.le_of_ble_eq_true rfl⟩) (fun r_10 hw => ?_)
              try dsimp only at hw
              refine lv_aload_n hx hb dX3_encodeAll_60 rfl (lv_at hl 2 rfl) ?_
              refine va_get (D := (dC, dI)) (ci := 3) (v := .ref (ad 1)) (C := RX3) (T := TX3) (N := 7) hx hb hT inX3 hown hK hP 0 rfl rfl 0 (by decide) (hT _ k_0) (fun _ h9 => h9) rfl dX3_encodeAll_61 ?_
              refine lv_iload_n hx hb dX3_encodeAll_64 rfl (lv_at hl 3 rfl) ?_
              refine lv_iload hx hb dX3_encodeAll_65 (lv_at hl 0 rfl) ?_
              have hPc := hP.sub (ws' := wSH cI cJ nl (ad 1) (ad 2) (ad 3) (ad 4) (ad 5) ra S) [1, 2, 3, 4, 5, 6, 7, 8] rfl
              refine vp_callSi (W.runV (As := [.int x1, .int x4_7]) (rest := [.int r_10, .ref (ad 0)]) ⟨hx, hb, hml, hown, hT⟩ (met_X1_leafY l dC dI cI cZ cJ cL (ad 1) (ad 2) (ad 3) (ad 4) (ad 5) ra _ nl S  x1 x4_7 hw) (cwV 2 hT (gV k_60 k_62 k_63 k_59 k_61) rfl rfl rfl (by decide +kernel) ⟨(Nat.le_of_ble_eq_true rfl), (Nat.le_of_ble_eq_true rfl)⟩) ⟨bl_R, va_recv hK hPc (ci := 1) (q0 := 0) rfl rfl, fun U hU hW => ⟨rfl, by rw [hU]; exact hPc, va_K.moved hW.alike hK⟩⟩ rfl rfl hl.1 rfl (lv_room (Nat.le_of_ble_eq_true rfl)) dX3_encodeAll_67 ⟨Nat.le_of_ble_eq_true rfl, Nat.le_of_ble_eq_true rfl⟩) (fun r_11 hw => ?_)
              try dsimp only at hw
              refine lv_iload_n hx hb dX3_encodeAll_70 rfl (lv_at hl 4 rfl) ?_
              have hPc := hP
              have hDc := hD
              have hFc := va_free (wc := wTT cI cZ cJ nl nn ad ra S T_6) hD hS hA [0, 1, 2, 3, 4, 5, 6, 7, 8, 9, 10, 11, 12, 13, 14, 15, 16, 17, 18, 19] rfl
              refine va_callv (va_runV (As := [.int r_10, .int r_11, .int x2]) (rest := []) ⟨hx, hb, hml, hown, hT⟩ (met_X3_tellLeaf l dC dI cI cZ cJ cL ad ra H.size _ nl nn S T_6 r_10 r_11 x2 hw) (cwV 3 hT (gV k_227 k_229 k_230 k_51 k_228) rfl rfl rfl (by decide +kernel) ⟨(Nat.le_of_ble_eq_true rfl), (Nat.le_of_ble_eq_true rfl)⟩) ⟨bl_W, va_recv hK hPc (ci := 3) (q0 := 0) rfl rfl, fun U hU hW => ⟨rfl, by rw [hU], by rw [hU]; exact hPc, va_K.moved hW.alike hK, hDc.weaken (fun _ _ _ _ => trivial)⟩⟩ rfl rfl hl.1 rfl (lv_room (Nat.le_of_ble_eq_true rfl)) dX3_encodeAll_71 ⟨Nat.le_of_ble_eq_true rfl, Nat.le_of_ble_eq_true rfl⟩) hS (fun q _ h => hFc q h) hFc (fun T_12 t H1 locs ht hvm hw hB hz1 hk1 hS => ?_)
              obtain ⟨hP1, -, hD1⟩ := hB
              try dsimp only at hw
              rw [ht] at hP1
              obtain ⟨hP, hD⟩ := va_join (wr := []) (w1 := wTT cI cZ cJ nl nn ad ra S T_12) hP hD [0, 1, 2, 3, 4, 5, 6, 7, 8, 9, 10, 11, 12, 13, 14, 15, 16, 17, 18, 19] [] rfl rfl (by decide) (by decide) hk1 hFc hP1 hD1
              generalize H1 = H at hP hS ⊢
              have hP := hP.sub (ws' := wTT cI cZ cJ nl nn ad ra S T_12) [0, 1, 2, 3, 4, 5, 6, 7, 8, 9, 10, 11, 12, 13, 14, 15, 16, 17, 18, 19] rfl
              have hD := hD.sub (ws' := wTT cI cZ cJ nl nn ad ra S T_12) [0, 1, 2, 3, 4, 5, 6, 7, 8, 9, 10, 11, 12, 13, 14, 15, 16, 17, 18, 19] (by decide) rfl
              obtain ⟨x4_13, ex4_13⟩ : ∃ y : Int32, y = x4_7 + 1 := ⟨_, rfl⟩
              have hw := hw x4_13 ex4_13
              refine lv_iinc (v := x4_13) (lv' := [(4, .int x4_13), (3, .int r_3), (0, .ref (ad 0)), (1, .int x1), (2, .int x2)]) hx hb dX3_encodeAll_74 hl (k := 0) rfl (by rw [ex4_13]; rfl) (by decide) rfl (fun ls hl => ?_)
              refine lv_goto (tgt := 37) hx hb dX3_encodeAll_77 (by decide) ?_
              exact ih37 T_12 x4_13 hw _ _ _ hP hD hS (lv_sub hl [0, 1, 2, 3, 4] rfl)
        exact hlp37 n_8 T_5 0 hw _ _ _ hP hD hS (lv_sub hl [0, 1, 2, 3, 4] rfl)
def wp_X3_decode (post : Int32 → vTT → Prop) (px : String → vTT → Prop) (nl : Nat) (nn : Nat) (S : vSH) (T : vTT) (x1 : Int32) (x2 : Int32) (x3 : Int32) : Prop := wp_X3_checkNode (fun T_1 => wp_X3_checkThreshold (fun N_2 => wp_X3_learnLeaf (fun r_3 T_4 => ((r_3 = 0 → (post (-2) T_4)) ∧ (¬ r_3 = 0 → (wp_X1_nodeAt (fun r_6 => vp_in r_6 nn ∧ ((((T_4.2.2.1.2.1 r_6.toNatClampNeg) = 0 → (post 0 T_4)) ∧ (¬ (T_4.2.2.1.2.1 r_6.toNatClampNeg) = 0 → (vp_in r_6 nn ∧ (((x3 ≤ (T_4.2.2.1.1 r_6.toNatClampNeg) → (post 0 T_4)) ∧ (¬ x3 ≤ (T_4.2.2.1.1 r_6.toNatClampNeg) → (post 1 T_4))))))))) nl S  0 x1 x2)))) nl nn S T_1 x1 x2 x3) (fun E N_2 => px E T_1)   x3) (fun E T_1 => px E T_1) nl nn S T 0 x1 x2
abbrev rm_X3_decode : Room := { frames := 7, cells := 2, slots := 12, locals := 105 }
set_option maxHeartbeats 4000000 in
set_option maxRecDepth 100000 in
theorem met_X3_decode (l : Launch) (hl9 : l.stackTraces = false) (dC : Nat → ClassId) (dI : Nat → Nat → Nat) (cI cZ cJ cL : ClassId) (sa : Nat → Nat) (ad ra : Nat → Nat) (sz : Nat) (post : Int32 → vTT → Prop) (px : String → vTT → Prop) (nl : Nat) (nn : Nat) (S : vSH) (T : vTT) (x1 : Int32) (x2 : Int32) (x3 : Int32) (hw : wp_X3_decode post px nl nn S T x1 x2 x3) : vx_Met l yX3_decode wsX3_decode rm_X3_decode (pcX (dC, dI) (tysA cI cZ cJ cL) sa (wTT cI cZ cJ nl nn ad ra S T) sz [.ref (ad 0), .int x1, .int x2, .int x3]) (va_Qi post (fun u t => qB (dC, dI) (tysA cI cZ cJ cL) (va_A (wTT cI cZ cJ nl nn ad ra S T) sz) (wTT cI cZ cJ nl nn ad ra S u) t) (va_A (wTT cI cZ cJ nl nn ad ra S T) sz)) (vx_X (fun u : String × vTT => px u.1 u.2) (fun E u t => E = u.1 ∧ qB (dC, dI) (tysA cI cZ cJ cL) (va_A (wTT cI cZ cJ nl nn ad ra S T) sz) (wTT cI cZ cJ nl nn ad ra S u.2) t) (va_A (wTT cI cZ cJ nl nn ad ra S T) sz)) 2 12 (va_A (wTT cI cZ cJ nl nn ad ra S T) sz) := by
  refine vx_ofW (cc := cX3_decode) (maxL := 5) (ret := (some .int)) (by decide) rfl ?_
  intro p e s m args below meth c s₁ Bd hml hno hv
  obtain ⟨hargs, hsz, hP, hK, hD0, hZ⟩ := hv
  have hx := Bd.exec
  have hb := Bd.bytes
  have hr := Bd.returns
  have hts := atoms_spec (ws := wsX3_decode) Bd.pre
  have hT : ∀ w ∈ WALL, w.before args s = true := fun w h => hts w (List.mem_cons_of_mem _ h)
  have hown : s.vm.findClass RX3 = some m.cls := findClass_of_methodNamed Bd.named
  have hlocks := Bd.notSynchronized
  subst hsz
  have hD := hD0.self (sz := s.heap.size)
  generalize hAe : va_A (wTT cI cZ cJ nl nn ad ra S T) s.heap.size = A at hD ⊢
  have hA : ∀ q : Nat, s.heap.size ≤ q → A q := fun q h => by rw [← hAe]; exact Or.inr h
  have hS : va_S A s.heap s.heap [] := va_S.rf
  rw [hAe] at hZ
  have hP : va_P (dC, dI) vwCl (wTT cI cZ cJ nl nn ad ra S T) s.heap := hP
  have hl := lv_entry ([.ref (ad 0), .int x1, .int x2, .int x3]) (n := 5) (Nat.le_of_ble_eq_true rfl)
  rw [show entryFrame m args 5 = F0 m 0 _ [] from by rw [hargs]; exact lg_entry_eq m ([.ref (ad 0), .int x1, .int x2, .int x3]) 5]
  generalize (lg_sl ([.ref (ad 0), .int x1, .int x2, .int x3]) ++ List.replicate (5 - (lg_sl ([.ref (ad 0), .int x1, .int x2, .int x3])).length) Slot.unset).toArray = ls at hl ⊢
  have hl : lv_has ls 5 [(0, .ref (ad 0)), (1, .int x1), (2, .int x2), (3, .int x3)] := hl
  obtain ⟨H, hH⟩ : ∃ z : Heap, z = s.heap := ⟨_, rfl⟩
  obtain ⟨locs, hlocs⟩ : ∃ z : List Loc, z = [] := ⟨_, rfl⟩
  rw [show W p l e (headSpec wsX3_decode rm_X3_decode).room s m args below meth c s.heap [] 0 0 = W p l e (headSpec wsX3_decode rm_X3_decode).room s m args below meth c H locs 0 0 from by rw [hH, hlocs]]
  have hP : va_P (dC, dI) vwCl (wTT cI cZ cJ nl nn ad ra S T) H := by rw [hH]; exact hP
  have hS : va_S A s.heap H locs := by rw [hH, hlocs]; exact hS
  unfold wp_X3_decode at hw
  refine lv_aload_n hx hb dX3_decode_0 rfl (lv_at hl 0 rfl) ?_
  refine lv_iconst (v := 0) hx hb dX3_decode_1 (by decide) ?_
  refine lv_iload_n hx hb dX3_decode_2 rfl (lv_at hl 1 rfl) ?_
  refine lv_iload_n hx hb dX3_decode_3 rfl (lv_at hl 2 rfl) ?_
  have hPc := hP
  have hDc := hD
  have hFc := va_free (wc := wTT cI cZ cJ nl nn ad ra S T) hD hS hA [0, 1, 2, 3, 4, 5, 6, 7, 8, 9, 10, 11, 12, 13, 14, 15, 16, 17, 18, 19] rfl
  refine vx_callv (vx_runV (As := [.int 0, .int x1, .int x2]) (rest := []) ⟨hx, hb, hml, hown, hT⟩ (met_X3_checkNode l hl9 dC dI cI cZ cJ cL sa ad ra H.size _ _ nl nn S T 0 x1 x2 hw) (cwV 3 hT (gV k_136 k_138 k_139 k_51 k_137) rfl rfl rfl (by decide +kernel) ⟨(Nat.le_of_ble_eq_true rfl), (Nat.le_of_ble_eq_true rfl)⟩) ⟨bl_X, va_recv hK hPc (ci := 3) (q0 := 0) rfl rfl, fun U hU hW => ⟨rfl, by rw [hU], by rw [hU]; exact hPc, va_K.moved hW.alike hK, hDc.weaken (fun _ _ _ _ => trivial), hZ.call hW hU hS hFc⟩⟩ rfl rfl hl.1 rfl (lv_room (Nat.le_of_ble_eq_true rfl)) dX3_decode_4 ⟨Nat.le_of_ble_eq_true rfl, Nat.le_of_ble_eq_true rfl⟩) hS (fun q _ h => hFc q h) hFc (fun q _ h => hFc q h) (fun E ce q9 u9 t H1 locs ht hvm hw hB hz1 hk1 hS hce hcv hcl => ?_) (fun T_1 t H1 locs ht hvm hw hB hz1 hk1 hS => ?_)
  · obtain ⟨E9, T_1⟩ := u9
    obtain ⟨rfl, hP1, -, hD1⟩ := hB
    try dsimp only at hw
    rw [ht] at hP1
    obtain ⟨hP, hD⟩ := va_join (wr := []) (w1 := wTT cI cZ cJ nl nn ad ra S T_1) hP hD [0, 1, 2, 3, 4, 5, 6, 7, 8, 9, 10, 11, 12, 13, 14, 15, 16, 17, 18, 19] [] rfl rfl (by decide) (by decide) hk1 hFc hP1 hD1
    generalize H1 = H at hP hS hce ⊢
    have hP := hP.sub (ws' := wTT cI cZ cJ nl nn ad ra S T_1) [0, 1, 2, 3, 4, 5, 6, 7, 8, 9, 10, 11, 12, 13, 14, 15, 16, 17, 18, 19] rfl
    have hD := hD.sub (ws' := wTT cI cZ cJ nl nn ad ra S T_1) [0, 1, 2, 3, 4, 5, 6, 7, 8, 9, 10, 11, 12, 13, 14, 15, 16, 17, 18, 19] (by decide) rfl
    exact vx_out (fun x h => (hno x h).elim) hlocks hce hcv hcl (fun t ht ha => ⟨(E, T_1), hw, ⟨rfl, by rw [ht]; exact hP, va_K.moved ha hK, hD⟩, hS.F ht⟩) hS.2.2 (Nat.le_of_ble_eq_true rfl) (Nat.le_of_ble_eq_true rfl)
  · obtain ⟨hP1, -, hD1⟩ := hB
    try dsimp only at hw
    rw [ht] at hP1
    obtain ⟨hP, hD⟩ := va_join (wr := []) (w1 := wTT cI cZ cJ nl nn ad ra S T_1) hP hD [0, 1, 2, 3, 4, 5, 6, 7, 8, 9, 10, 11, 12, 13, 14, 15, 16, 17, 18, 19] [] rfl rfl (by decide) (by decide) hk1 hFc hP1 hD1
    generalize H1 = H at hP hS ⊢
    have hP := hP.sub (ws' := wTT cI cZ cJ nl nn ad ra S T_1) [0, 1, 2, 3, 4, 5, 6, 7, 8, 9, 10, 11, 12, 13, 14, 15, 16, 17, 18, 19] rfl
    have hD := hD.sub (ws' := wTT cI cZ cJ nl nn ad ra S T_1) [0, 1, 2, 3, 4, 5, 6, 7, 8, 9, 10, 11, 12, 13, 14, 15, 16, 17, 18, 19] (by decide) rfl
    refine lv_iload_n hx hb dX3_decode_7 rfl (lv_at hl 3 rfl) ?_
    have hPc : va_P (dC, dI) vwCl [] H := hP.sub (ws' := []) [] rfl
    have hDc : va_D A [] := hD.sub (ws' := []) [] (by decide) rfl
    have hFc := va_free (wc := []) hD hS hA [] rfl
    refine vx_callv (vx_runS (As := [.int x3]) (rest := []) ⟨hx, hb, hml, hown, hT⟩ (met_X3_checkThreshold l hl9 dC dI cI cZ cJ cL sa  H.size _ _   x3 hw) (va_cwS 1 hT (gS k_220 k_222 k_51 k_221) rfl rfl rfl (by decide +kernel) ⟨(Nat.le_of_ble_eq_true rfl), (Nat.le_of_ble_eq_true rfl)⟩) ⟨bl_X, fun U hU hW => ⟨rfl, by rw [hU], by rw [hU]; exact hPc, va_K.moved hW.alike hK, hDc.weaken (fun _ _ _ _ => trivial), hZ.call hW hU hS hFc⟩⟩ rfl rfl hl.1 rfl (lv_room (Nat.le_of_ble_eq_true rfl)) dX3_decode_8 ⟨Nat.le_of_ble_eq_true rfl, Nat.le_of_ble_eq_true rfl⟩) hS (fun q _ h => hFc q h) hFc (fun q _ h => hFc q h) (fun E ce q9 u9 t H1 locs ht hvm hw hB hz1 hk1 hS hce hcv hcl => ?_) (fun N_2 t H1 locs ht hvm hw hB hz1 hk1 hS => ?_)
    · obtain ⟨E9, N_2⟩ := u9
      obtain ⟨rfl, hP1, -, hD1⟩ := hB
      try dsimp only at hw
      rw [ht] at hP1
      obtain ⟨hP, hD⟩ := va_join (wr := [(ad 0, .inr (3, [.ref (ad 1), .ref (ad 9), .ref (ad 10), .ref (ad 13), .ref (ad 16), .ref (ad 18), .int T_1.2.2.2.2.2])), (ad 1, .inr (1, [.int S.1.1, .int S.1.2.1, .int S.1.2.2.1, .int S.1.2.2.2.1, .int S.1.2.2.2.2, .ref (ad 2), .ref (ad 3), .ref (ad 4), .ref (ad 5)])), (ad 2, .inl (cI, 6, .inl S.2.1.1)), (ad 3, .inl (cI, 6, .inl S.2.1.2.1)), (ad 4, .inl (cI, 6, .inl S.2.1.2.2)), (ad 5, .inl (cJ, 3, .inr (.inr (.inr (.inr (fun i => if i < 3 then some (ra i) else none)))))), (ra 0, .inl (cI, nl, .inl (S.2.2 0))), (ra 1, .inl (cI, nl, .inl (S.2.2 1))), (ra 2, .inl (cI, nl, .inl (S.2.2 2))), (ad 9, .inl (cI, nn, .inl T_1.1)), (ad 10, .inr (2, [.ref (ad 11), .ref (ad 12), .int T_1.2.1.2.2])), (ad 11, .inl (cI, nn, .inl T_1.2.1.1)), (ad 12, .inl (cZ, nn, .inl T_1.2.1.2.1)), (ad 13, .inr (2, [.ref (ad 14), .ref (ad 15), .int T_1.2.2.1.2.2])), (ad 14, .inl (cI, nn, .inl T_1.2.2.1.1)), (ad 15, .inl (cZ, nn, .inl T_1.2.2.1.2.1)), (ad 16, .inr (0, [.ref (ad 17), .int T_1.2.2.2.1.2.1, .int T_1.2.2.2.1.2.2])), (ad 17, .inl (cI, 1250, .inl T_1.2.2.2.1.1)), (ad 18, .inr (0, [.ref (ad 19), .int T_1.2.2.2.2.1.2.1, .int T_1.2.2.2.2.1.2.2])), (ad 19, .inl (cI, 1250, .inl T_1.2.2.2.2.1.1))]) (w1 := []) hP hD [] [0, 1, 2, 3, 4, 5, 6, 7, 8, 9, 10, 11, 12, 13, 14, 15, 16, 17, 18, 19] rfl rfl (by decide) (by decide) hk1 hFc hP1 hD1
      generalize H1 = H at hP hS hce ⊢
      have hP := hP.sub (ws' := wTT cI cZ cJ nl nn ad ra S T_1) [0, 1, 2, 3, 4, 5, 6, 7, 8, 9, 10, 11, 12, 13, 14, 15, 16, 17, 18, 19] rfl
      have hD := hD.sub (ws' := wTT cI cZ cJ nl nn ad ra S T_1) [0, 1, 2, 3, 4, 5, 6, 7, 8, 9, 10, 11, 12, 13, 14, 15, 16, 17, 18, 19] (by decide) rfl
      exact vx_out (fun x h => (hno x h).elim) hlocks hce hcv hcl (fun t ht ha => ⟨(E, T_1), hw, ⟨rfl, by rw [ht]; exact hP, va_K.moved ha hK, hD⟩, hS.F ht⟩) hS.2.2 (Nat.le_of_ble_eq_true rfl) (Nat.le_of_ble_eq_true rfl)
    · obtain ⟨hP1, -, hD1⟩ := hB
      try dsimp only at hw
      rw [ht] at hP1
      obtain ⟨hP, hD⟩ := va_join (wr := [(ad 0, .inr (3, [.ref (ad 1), .ref (ad 9), .ref (ad 10), .ref (ad 13), .ref (ad 16), .ref (ad 18), .int T_1.2.2.2.2.2])), (ad 1, .inr (1, [.int S.1.1, .int S.1.2.1, .int S.1.2.2.1, .int S.1.2.2.2.1, .int S.1.2.2.2.2, .ref (ad 2), .ref (ad 3), .ref (ad 4), .ref (ad 5)])), (ad 2, .inl (cI, 6, .inl S.2.1.1)), (ad 3, .inl (cI, 6, .inl S.2.1.2.1)), (ad 4, .inl (cI, 6, .inl S.2.1.2.2)), (ad 5, .inl (cJ, 3, .inr (.inr (.inr (.inr (fun i => if i < 3 then some (ra i) else none)))))), (ra 0, .inl (cI, nl, .inl (S.2.2 0))), (ra 1, .inl (cI, nl, .inl (S.2.2 1))), (ra 2, .inl (cI, nl, .inl (S.2.2 2))), (ad 9, .inl (cI, nn, .inl T_1.1)), (ad 10, .inr (2, [.ref (ad 11), .ref (ad 12), .int T_1.2.1.2.2])), (ad 11, .inl (cI, nn, .inl T_1.2.1.1)), (ad 12, .inl (cZ, nn, .inl T_1.2.1.2.1)), (ad 13, .inr (2, [.ref (ad 14), .ref (ad 15), .int T_1.2.2.1.2.2])), (ad 14, .inl (cI, nn, .inl T_1.2.2.1.1)), (ad 15, .inl (cZ, nn, .inl T_1.2.2.1.2.1)), (ad 16, .inr (0, [.ref (ad 17), .int T_1.2.2.2.1.2.1, .int T_1.2.2.2.1.2.2])), (ad 17, .inl (cI, 1250, .inl T_1.2.2.2.1.1)), (ad 18, .inr (0, [.ref (ad 19), .int T_1.2.2.2.2.1.2.1, .int T_1.2.2.2.2.1.2.2])), (ad 19, .inl (cI, 1250, .inl T_1.2.2.2.2.1.1))]) (w1 := []) hP hD [] [0, 1, 2, 3, 4, 5, 6, 7, 8, 9, 10, 11, 12, 13, 14, 15, 16, 17, 18, 19] rfl rfl (by decide) (by decide) hk1 hFc hP1 hD1
      generalize H1 = H at hP hS ⊢
      have hP := hP.sub (ws' := wTT cI cZ cJ nl nn ad ra S T_1) [0, 1, 2, 3, 4, 5, 6, 7, 8, 9, 10, 11, 12, 13, 14, 15, 16, 17, 18, 19] rfl
      have hD := hD.sub (ws' := wTT cI cZ cJ nl nn ad ra S T_1) [0, 1, 2, 3, 4, 5, 6, 7, 8, 9, 10, 11, 12, 13, 14, 15, 16, 17, 18, 19] (by decide) rfl
      refine lv_aload_n hx hb dX3_decode_11 rfl (lv_at hl 0 rfl) ?_
      refine lv_iload_n hx hb dX3_decode_12 rfl (lv_at hl 1 rfl) ?_
      refine lv_iload_n hx hb dX3_decode_13 rfl (lv_at hl 2 rfl) ?_
      refine lv_iload_n hx hb dX3_decode_14 rfl (lv_at hl 3 rfl) ?_
      have hPc := hP
      have hDc := hD
      have hFc := va_free (wc := wTT cI cZ cJ nl nn ad ra S T_1) hD hS hA [0, 1, 2, 3, 4, 5, 6, 7, 8, 9, 10, 11, 12, 13, 14, 15, 16, 17, 18, 19] rfl
      refine va_calli (va_runV (As := [.int x1, .int x2, .int x3]) (rest := []) ⟨hx, hb, hml, hown, hT⟩ (met_X3_learnLeaf l dC dI cI cZ cJ cL ad ra H.size _ nl nn S T_1 x1 x2 x3 hw) (cwV 3 hT (gV k_231 k_233 k_234 k_51 k_232) rfl rfl rfl (by decide +kernel) ⟨(Nat.le_of_ble_eq_true rfl), (Nat.le_of_ble_eq_true rfl)⟩) ⟨bl_W, va_recv hK hPc (ci := 3) (q0 := 0) rfl rfl, fun U hU hW => ⟨rfl, by rw [hU], by rw [hU]; exact hPc, va_K.moved hW.alike hK, hDc.weaken (fun _ _ _ _ => trivial)⟩⟩ rfl rfl hl.1 rfl (lv_room (Nat.le_of_ble_eq_true rfl)) dX3_decode_15 ⟨Nat.le_of_ble_eq_true rfl, Nat.le_of_ble_eq_true rfl⟩) hS (fun q _ h => hFc q h) hFc (fun r_3 T_4 t H1 locs ht hvm hw hB hz1 hk1 hS => ?_)
      obtain ⟨hP1, -, hD1⟩ := hB
      try dsimp only at hw
      rw [ht] at hP1
      obtain ⟨hP, hD⟩ := va_join (wr := []) (w1 := wTT cI cZ cJ nl nn ad ra S T_4) hP hD [0, 1, 2, 3, 4, 5, 6, 7, 8, 9, 10, 11, 12, 13, 14, 15, 16, 17, 18, 19] [] rfl rfl (by decide) (by decide) hk1 hFc hP1 hD1
      generalize H1 = H at hP hS ⊢
      have hP := hP.sub (ws' := wTT cI cZ cJ nl nn ad ra S T_4) [0, 1, 2, 3, 4, 5, 6, 7, 8, 9, 10, 11, 12, 13, 14, 15, 16, 17, 18, 19] rfl
      have hD := hD.sub (ws' := wTT cI cZ cJ nl nn ad ra S T_4) [0, 1, 2, 3, 4, 5, 6, 7, 8, 9, 10, 11, 12, 13, 14, 15, 16, 17, 18, 19] (by decide) rfl
      refine lv_if_ne (tgt := 24) hx hb dX3_decode_18 (by decide) (fun c_5 => ?_) (fun c_5 => ?_)
      · have hw := hw.2 c_5
        refine lv_aload_n hx hb dX3_decode_24 rfl (lv_at hl 0 rfl) ?_
        refine va_get (D := (dC, dI)) (ci := 3) (v := .ref (ad 1)) (C := RX3) (T := TX3) (N := 7) hx hb hT inX3 hown hK hP 0 rfl rfl 0 (by decide) (hT _ k_0) (fun _ h9 => h9) rfl dX3_decode_25 ?_
        refine lv_iconst (v := 0) hx hb dX3_decode_28 (by decide) ?_
        refine lv_iload_n hx hb dX3_decode_29 rfl (lv_at hl 1 rfl) ?_
        refine lv_iload_n hx hb dX3_decode_30 rfl (lv_at hl 2 rfl) ?_
        have hPc := hP.sub (ws' := wSH cI cJ nl (ad 1) (ad 2) (ad 3) (ad 4) (ad 5) ra S) [1, 2, 3, 4, 5, 6, 7, 8] rfl
        refine vp_callSi (W.runV (As := [.int 0, .int x1, .int x2]) (rest := []) ⟨hx, hb, hml, hown, hT⟩ (met_X1_nodeAt l dC dI cI cZ cJ cL (ad 1) (ad 2) (ad 3) (ad 4) (ad 5) ra _ nl S  0 x1 x2 hw) (cwV 3 hT (gV k_64 k_66 k_67 k_59 k_65) rfl rfl rfl (by decide +kernel) ⟨(Nat.le_of_ble_eq_true rfl), (Nat.le_of_ble_eq_true rfl)⟩) ⟨bl_R, va_recv hK hPc (ci := 1) (q0 := 0) rfl rfl, fun U hU hW => ⟨rfl, by rw [hU]; exact hPc, va_K.moved hW.alike hK⟩⟩ rfl rfl hl.1 rfl (lv_room (Nat.le_of_ble_eq_true rfl)) dX3_decode_31 ⟨Nat.le_of_ble_eq_true rfl, Nat.le_of_ble_eq_true rfl⟩) (fun r_6 hw => ?_)
        try dsimp only at hw
        refine lv_istore (lv' := [(4, .int r_6), (0, .ref (ad 0)), (1, .int x1), (2, .int x2), (3, .int x3)]) hx hb dX3_decode_34 hl (by decide) rfl (fun ls hl => ?_)
        refine lv_aload_n hx hb dX3_decode_36 rfl (lv_at hl 1 rfl) ?_
        refine va_get (D := (dC, dI)) (ci := 3) (v := .ref (ad 13)) (C := RX3) (T := TX3) (N := 7) hx hb hT inX3 hown hK hP 0 rfl rfl 3 (by decide) (hT _ k_10) (fun _ h9 => h9) rfl dX3_decode_37 ?_
        refine va_get (D := (dC, dI)) (ci := 2) (v := .ref (ad 15)) (C := RX2) (T := TX2) (N := 3) hx hb hT inX2 hown hK hP 13 rfl rfl 1 (by decide) (hT _ k_18) (fun _ h9 => h9) rfl dX3_decode_40 ?_
        refine lv_iload hx hb dX3_decode_43 (lv_at hl 0 rfl) ?_
        obtain ⟨h_7, hw⟩ := hw
        refine va_zald hx hb hK hP 15 1 rfl rfl h_7 dX3_decode_45 ?_
        refine lv_if_eq (tgt := 67) hx hb dX3_decode_46 (by decide) (fun c_8 => ?_) (fun c_8 => ?_)
        · have hw := hw.1 c_8
          refine lv_iconst (v := 0) hx hb dX3_decode_67 (by decide) ?_
          exact vx_ret (W.iret (v := 0) hx hb hr (fun t ht hW => ⟨⟨0, T_4, rfl, hw, by rw [ht]; exact hP, va_K.moved hW.alike hK, hD⟩, hS.F ht⟩) hS.2.2 dX3_decode_68)
        · have hw := hw.2 c_8
          refine lv_aload_n hx hb dX3_decode_49 rfl (lv_at hl 1 rfl) ?_
          refine va_get (D := (dC, dI)) (ci := 3) (v := .ref (ad 13)) (C := RX3) (T := TX3) (N := 7) hx hb hT inX3 hown hK hP 0 rfl rfl 3 (by decide) (hT _ k_10) (fun _ h9 => h9) rfl dX3_decode_50 ?_
          refine va_get (D := (dC, dI)) (ci := 2) (v := .ref (ad 14)) (C := RX2) (T := TX2) (N := 3) hx hb hT inX2 hown hK hP 13 rfl rfl 0 (by decide) (hT _ k_140) (fun _ h9 => h9) rfl dX3_decode_53 ?_
          refine lv_iload hx hb dX3_decode_56 (lv_at hl 0 rfl) ?_
          obtain ⟨h_9, hw⟩ := hw
          refine va_iald hx hb hK hP 14 0 rfl rfl h_9 dX3_decode_58 ?_
          refine lv_iload_n hx hb dX3_decode_59 rfl (lv_at hl 4 rfl) ?_
          refine lv_icmp_ge (tgt := 67) hx hb dX3_decode_60 (by decide) (fun c_10 => ?_) (fun c_10 => ?_)
          · have hw := hw.1 c_10
            refine lv_iconst (v := 0) hx hb dX3_decode_67 (by decide) ?_
            exact vx_ret (W.iret (v := 0) hx hb hr (fun t ht hW => ⟨⟨0, T_4, rfl, hw, by rw [ht]; exact hP, va_K.moved hW.alike hK, hD⟩, hS.F ht⟩) hS.2.2 dX3_decode_68)
          · have hw := hw.2 c_10
            refine lv_iconst (v := 1) hx hb dX3_decode_63 (by decide) ?_
            refine lv_goto (tgt := 68) hx hb dX3_decode_64 (by decide) ?_
            exact vx_ret (W.iret (v := 1) hx hb hr (fun t ht hW => ⟨⟨1, T_4, rfl, hw, by rw [ht]; exact hP, va_K.moved hW.alike hK, hD⟩, hS.F ht⟩) hS.2.2 dX3_decode_68)
      · have hw := hw.1 c_5
        refine lv_bipush (v := (-2)) hx hb dX3_decode_21 (by decide) ?_
        exact vx_ret (W.iret (v := (-2)) hx hb hr (fun t ht hW => ⟨⟨(-2), T_4, rfl, hw, by rw [ht]; exact hP, va_K.moved hW.alike hK, hD⟩, hS.F ht⟩) hS.2.2 dX3_decode_23)
def wp_X3_decodeAll_L10 (post : Int32 → vTT → Prop) (px : String → vTT → Prop) (ex10 : vTT → Int32 → Prop) (nl : Nat) (nn : Nat) (S : vSH) (x1 : Int32) (x2 : Int32) : Nat → vTT → Int32 → Prop
  | 0, _, _ => False
  | n_5 + 1, T_3, x3_4 => ((S.1.2.2.1 ≤ x3_4 → (ex10 T_3 x3_4)) ∧ (¬ S.1.2.2.1 ≤ x3_4 → (wp_X1_leafX (fun r_7 => wp_X1_leafY (fun r_8 => wp_X3_learnLeaf (fun r_9 T_10 => ((r_9 = 0 → (post x3_4 T_10)) ∧ (¬ r_9 = 0 → (∀ x3_12 : Int32, x3_12 = x3_4 + 1 → (wp_X3_decodeAll_L10 post px ex10 nl nn S x1 x2 n_5 T_10 x3_12))))) nl nn S T_3 r_7 r_8 x2) nl S  x1 x3_4) nl S  x1 x3_4)))
def wp_X3_decodeAll (post : Int32 → vTT → Prop) (px : String → vTT → Prop) (nl : Nat) (nn : Nat) (S : vSH) (T : vTT) (x1 : Int32) (x2 : Int32) : Prop := wp_X3_checkOrder (fun N_1 => wp_X3_checkThreshold (fun N_2 => ∃ n_5 : Nat, wp_X3_decodeAll_L10 post px (fun (T_3 : vTT) (x3_4 : Int32) => post S.1.2.2.1 T_3) nl nn S x1 x2 n_5 T 0) (fun E N_2 => px E T)   x2) (fun E N_1 => px E T)   x1
abbrev rm_X3_decodeAll : Room := { frames := 7, cells := 2, slots := 12, locals := 102 }
set_option maxHeartbeats 4000000 in
set_option maxRecDepth 100000 in
theorem met_X3_decodeAll (l : Launch) (hl9 : l.stackTraces = false) (dC : Nat → ClassId) (dI : Nat → Nat → Nat) (cI cZ cJ cL : ClassId) (sa : Nat → Nat) (ad ra : Nat → Nat) (sz : Nat) (post : Int32 → vTT → Prop) (px : String → vTT → Prop) (nl : Nat) (nn : Nat) (S : vSH) (T : vTT) (x1 : Int32) (x2 : Int32) (hw : wp_X3_decodeAll post px nl nn S T x1 x2) : vx_Met l yX3_decodeAll wsX3_decodeAll rm_X3_decodeAll (pcX (dC, dI) (tysA cI cZ cJ cL) sa (wTT cI cZ cJ nl nn ad ra S T) sz [.ref (ad 0), .int x1, .int x2]) (va_Qi post (fun u t => qB (dC, dI) (tysA cI cZ cJ cL) (va_A (wTT cI cZ cJ nl nn ad ra S T) sz) (wTT cI cZ cJ nl nn ad ra S u) t) (va_A (wTT cI cZ cJ nl nn ad ra S T) sz)) (vx_X (fun u : String × vTT => px u.1 u.2) (fun E u t => E = u.1 ∧ qB (dC, dI) (tysA cI cZ cJ cL) (va_A (wTT cI cZ cJ nl nn ad ra S T) sz) (wTT cI cZ cJ nl nn ad ra S u.2) t) (va_A (wTT cI cZ cJ nl nn ad ra S T) sz)) 2 12 (va_A (wTT cI cZ cJ nl nn ad ra S T) sz) := by
  refine vx_ofW (cc := cX3_decodeAll) (maxL := 4) (ret := (some .int)) (by decide) rfl ?_
  intro p e s m args below meth c s₁ Bd hml hno hv
  obtain ⟨hargs, hsz, hP, hK, hD0, hZ⟩ := hv
  have hx := Bd.exec
  have hb := Bd.bytes
  have hr := Bd.returns
  have hts := atoms_spec (ws := wsX3_decodeAll) Bd.pre
  have hT : ∀ w ∈ WALL, w.before args s = true := fun w h => hts w (List.mem_cons_of_mem _ h)
  have hown : s.vm.findClass RX3 = some m.cls := findClass_of_methodNamed Bd.named
  have hlocks := Bd.notSynchronized
  subst hsz
  have hD := hD0.self (sz := s.heap.size)
  generalize hAe : va_A (wTT cI cZ cJ nl nn ad ra S T) s.heap.size = A at hD ⊢
  have hA : ∀ q : Nat, s.heap.size ≤ q → A q := fun q h => by rw [← hAe]; exact Or.inr h
  have hS : va_S A s.heap s.heap [] := va_S.rf
  rw [hAe] at hZ
  have hP : va_P (dC, dI) vwCl (wTT cI cZ cJ nl nn ad ra S T) s.heap := hP
  have hl := lv_entry ([.ref (ad 0), .int x1, .int x2]) (n := 4) (Nat.le_of_ble_eq_true rfl)
  rw [show entryFrame m args 4 = F0 m 0 _ [] from by rw [hargs]; exact lg_entry_eq m ([.ref (ad 0), .int x1, .int x2]) 4]
  generalize (lg_sl ([.ref (ad 0), .int x1, .int x2]) ++ List.replicate (4 - (lg_sl ([.ref (ad 0), .int x1, .int x2])).length) Slot.unset).toArray = ls at hl ⊢
  have hl : lv_has ls 4 [(0, .ref (ad 0)), (1, .int x1), (2, .int x2)] := hl
  obtain ⟨H, hH⟩ : ∃ z : Heap, z = s.heap := ⟨_, rfl⟩
  obtain ⟨locs, hlocs⟩ : ∃ z : List Loc, z = [] := ⟨_, rfl⟩
  rw [show W p l e (headSpec wsX3_decodeAll rm_X3_decodeAll).room s m args below meth c s.heap [] 0 0 = W p l e (headSpec wsX3_decodeAll rm_X3_decodeAll).room s m args below meth c H locs 0 0 from by rw [hH, hlocs]]
  have hP : va_P (dC, dI) vwCl (wTT cI cZ cJ nl nn ad ra S T) H := by rw [hH]; exact hP
  have hS : va_S A s.heap H locs := by rw [hH, hlocs]; exact hS
  unfold wp_X3_decodeAll at hw
  refine lv_iload_n hx hb dX3_decodeAll_0 rfl (lv_at hl 1 rfl) ?_
  have hPc : va_P (dC, dI) vwCl [] H := hP.sub (ws' := []) [] rfl
  have hDc : va_D A [] := hD.sub (ws' := []) [] (by decide) rfl
  have hFc := va_free (wc := []) hD hS hA [] rfl
  refine vx_callv (vx_runS (As := [.int x1]) (rest := []) ⟨hx, hb, hml, hown, hT⟩ (met_X3_checkOrder l hl9 dC dI cI cZ cJ cL sa  H.size _ _   x1 hw) (va_cwS 1 hT (gS k_48 k_50 k_51 k_49) rfl rfl rfl (by decide +kernel) ⟨(Nat.le_of_ble_eq_true rfl), (Nat.le_of_ble_eq_true rfl)⟩) ⟨bl_X, fun U hU hW => ⟨rfl, by rw [hU], by rw [hU]; exact hPc, va_K.moved hW.alike hK, hDc.weaken (fun _ _ _ _ => trivial), hZ.call hW hU hS hFc⟩⟩ rfl rfl hl.1 rfl (lv_room (Nat.le_of_ble_eq_true rfl)) dX3_decodeAll_1 ⟨Nat.le_of_ble_eq_true rfl, Nat.le_of_ble_eq_true rfl⟩) hS (fun q _ h => hFc q h) hFc (fun q _ h => hFc q h) (fun E ce q9 u9 t H1 locs ht hvm hw hB hz1 hk1 hS hce hcv hcl => ?_) (fun N_1 t H1 locs ht hvm hw hB hz1 hk1 hS => ?_)
  · obtain ⟨E9, N_1⟩ := u9
    obtain ⟨rfl, hP1, -, hD1⟩ := hB
    try dsimp only at hw
    rw [ht] at hP1
    obtain ⟨hP, hD⟩ := va_join (wr := [(ad 0, .inr (3, [.ref (ad 1), .ref (ad 9), .ref (ad 10), .ref (ad 13), .ref (ad 16), .ref (ad 18), .int T.2.2.2.2.2])), (ad 1, .inr (1, [.int S.1.1, .int S.1.2.1, .int S.1.2.2.1, .int S.1.2.2.2.1, .int S.1.2.2.2.2, .ref (ad 2), .ref (ad 3), .ref (ad 4), .ref (ad 5)])), (ad 2, .inl (cI, 6, .inl S.2.1.1)), (ad 3, .inl (cI, 6, .inl S.2.1.2.1)), (ad 4, .inl (cI, 6, .inl S.2.1.2.2)), (ad 5, .inl (cJ, 3, .inr (.inr (.inr (.inr (fun i => if i < 3 then some (ra i) else none)))))), (ra 0, .inl (cI, nl, .inl (S.2.2 0))), (ra 1, .inl (cI, nl, .inl (S.2.2 1))), (ra 2, .inl (cI, nl, .inl (S.2.2 2))), (ad 9, .inl (cI, nn, .inl T.1)), (ad 10, .inr (2, [.ref (ad 11), .ref (ad 12), .int T.2.1.2.2])), (ad 11, .inl (cI, nn, .inl T.2.1.1)), (ad 12, .inl (cZ, nn, .inl T.2.1.2.1)), (ad 13, .inr (2, [.ref (ad 14), .ref (ad 15), .int T.2.2.1.2.2])), (ad 14, .inl (cI, nn, .inl T.2.2.1.1)), (ad 15, .inl (cZ, nn, .inl T.2.2.1.2.1)), (ad 16, .inr (0, [.ref (ad 17), .int T.2.2.2.1.2.1, .int T.2.2.2.1.2.2])), (ad 17, .inl (cI, 1250, .inl T.2.2.2.1.1)), (ad 18, .inr (0, [.ref (ad 19), .int T.2.2.2.2.1.2.1, .int T.2.2.2.2.1.2.2])), (ad 19, .inl (cI, 1250, .inl T.2.2.2.2.1.1))]) (w1 := []) hP hD [] [0, 1, 2, 3, 4, 5, 6, 7, 8, 9, 10, 11, 12, 13, 14, 15, 16, 17, 18, 19] rfl rfl (by decide) (by decide) hk1 hFc hP1 hD1
    generalize H1 = H at hP hS hce ⊢
    have hP := hP.sub (ws' := wTT cI cZ cJ nl nn ad ra S T) [0, 1, 2, 3, 4, 5, 6, 7, 8, 9, 10, 11, 12, 13, 14, 15, 16, 17, 18, 19] rfl
    have hD := hD.sub (ws' := wTT cI cZ cJ nl nn ad ra S T) [0, 1, 2, 3, 4, 5, 6, 7, 8, 9, 10, 11, 12, 13, 14, 15, 16, 17, 18, 19] (by decide) rfl
    exact vx_out (fun x h => (hno x h).elim) hlocks hce hcv hcl (fun t ht ha => ⟨(E, T), hw, ⟨rfl, by rw [ht]; exact hP, va_K.moved ha hK, hD⟩, hS.F ht⟩) hS.2.2 (Nat.le_of_ble_eq_true rfl) (Nat.le_of_ble_eq_true rfl)
  · obtain ⟨hP1, -, hD1⟩ := hB
    try dsimp only at hw
    rw [ht] at hP1
    obtain ⟨hP, hD⟩ := va_join (wr := [(ad 0, .inr (3, [.ref (ad 1), .ref (ad 9), .ref (ad 10), .ref (ad 13), .ref (ad 16), .ref (ad 18), .int T.2.2.2.2.2])), (ad 1, .inr (1, [.int S.1.1, .int S.1.2.1, .int S.1.2.2.1, .int S.1.2.2.2.1, .int S.1.2.2.2.2, .ref (ad 2), .ref (ad 3), .ref (ad 4), .ref (ad 5)])), (ad 2, .inl (cI, 6, .inl S.2.1.1)), (ad 3, .inl (cI, 6, .inl S.2.1.2.1)), (ad 4, .inl (cI, 6, .inl S.2.1.2.2)), (ad 5, .inl (cJ, 3, .inr (.inr (.inr (.inr (fun i => if i < 3 then some (ra i) else none)))))), (ra 0, .inl (cI, nl, .inl (S.2.2 0))), (ra 1, .inl (cI, nl, .inl (S.2.2 1))), (ra 2, .inl (cI, nl, .inl (S.2.2 2))), (ad 9, .inl (cI, nn, .inl T.1)), (ad 10, .inr (2, [.ref (ad 11), .ref (ad 12), .int T.2.1.2.2])), (ad 11, .inl (cI, nn, .inl T.2.1.1)), (ad 12, .inl (cZ, nn, .inl T.2.1.2.1)), (ad 13, .inr (2, [.ref (ad 14), .ref (ad 15), .int T.2.2.1.2.2])), (ad 14, .inl (cI, nn, .inl T.2.2.1.1)), (ad 15, .inl (cZ, nn, .inl T.2.2.1.2.1)), (ad 16, .inr (0, [.ref (ad 17), .int T.2.2.2.1.2.1, .int T.2.2.2.1.2.2])), (ad 17, .inl (cI, 1250, .inl T.2.2.2.1.1)), (ad 18, .inr (0, [.ref (ad 19), .int T.2.2.2.2.1.2.1, .int T.2.2.2.2.1.2.2])), (ad 19, .inl (cI, 1250, .inl T.2.2.2.2.1.1))]) (w1 := []) hP hD [] [0, 1, 2, 3, 4, 5, 6, 7, 8, 9, 10, 11, 12, 13, 14, 15, 16, 17, 18, 19] rfl rfl (by decide) (by decide) hk1 hFc hP1 hD1
    generalize H1 = H at hP hS ⊢
    have hP := hP.sub (ws' := wTT cI cZ cJ nl nn ad ra S T) [0, 1, 2, 3, 4, 5, 6, 7, 8, 9, 10, 11, 12, 13, 14, 15, 16, 17, 18, 19] rfl
    have hD := hD.sub (ws' := wTT cI cZ cJ nl nn ad ra S T) [0, 1, 2, 3, 4, 5, 6, 7, 8, 9, 10, 11, 12, 13, 14, 15, 16, 17, 18, 19] (by decide) rfl
    refine lv_iload_n hx hb dX3_decodeAll_4 rfl (lv_at hl 2 rfl) ?_
    have hPc : va_P (dC, dI) vwCl [] H := hP.sub (ws' := []) [] rfl
    have hDc : va_D A [] := hD.sub (ws' := []) [] (by decide) rfl
    have hFc := va_free (wc := []) hD hS hA [] rfl
    refine vx_callv (vx_runS (As := [.int x2]) (rest := []) ⟨hx, hb, hml, hown, hT⟩ (met_X3_checkThreshold l hl9 dC dI cI cZ cJ cL sa  H.size _ _   x2 hw) (va_cwS 1 hT (gS k_220 k_222 k_51 k_221) rfl rfl rfl (by decide +kernel) ⟨(Nat.le_of_ble_eq_true rfl), (Nat.le_of_ble_eq_true rfl)⟩) ⟨bl_X, fun U hU hW => ⟨rfl, by rw [hU], by rw [hU]; exact hPc, va_K.moved hW.alike hK, hDc.weaken (fun _ _ _ _ => trivial), hZ.call hW hU hS hFc⟩⟩ rfl rfl hl.1 rfl (lv_room (Nat.le_of_ble_eq_true rfl)) dX3_decodeAll_5 ⟨Nat.le_of_ble_eq_true rfl, Nat.le_of_ble_eq_true rfl⟩) hS (fun q _ h => hFc q h) hFc (fun q _ h => hFc q h) (fun E ce q9 u9 t H1 locs ht hvm hw hB hz1 hk1 hS hce hcv hcl => ?_) (fun N_2 t H1 locs ht hvm hw hB hz1 hk1 hS => ?_)
    · obtain ⟨E9, N_2⟩ := u9
      obtain ⟨rfl, hP1, -, hD1⟩ := hB
      try dsimp only at hw
      rw [ht] at hP1
      obtain ⟨hP, hD⟩ := va_join (wr := [(ad 0, .inr (3, [.ref (ad 1), .ref (ad 9), .ref (ad 10), .ref (ad 13), .ref (ad 16), .ref (ad 18), .int T.2.2.2.2.2])), (ad 1, .inr (1, [.int S.1.1, .int S.1.2.1, .int S.1.2.2.1, .int S.1.2.2.2.1, .int S.1.2.2.2.2, .ref (ad 2), .ref (ad 3), .ref (ad 4), .ref (ad 5)])), (ad 2, .inl (cI, 6, .inl S.2.1.1)), (ad 3, .inl (cI, 6, .inl S.2.1.2.1)), (ad 4, .inl (cI, 6, .inl S.2.1.2.2)), (ad 5, .inl (cJ, 3, .inr (.inr (.inr (.inr (fun i => if i < 3 then some (ra i) else none)))))), (ra 0, .inl (cI, nl, .inl (S.2.2 0))), (ra 1, .inl (cI, nl, .inl (S.2.2 1))), (ra 2, .inl (cI, nl, .inl (S.2.2 2))), (ad 9, .inl (cI, nn, .inl T.1)), (ad 10, .inr (2, [.ref (ad 11), .ref (ad 12), .int T.2.1.2.2])), (ad 11, .inl (cI, nn, .inl T.2.1.1)), (ad 12, .inl (cZ, nn, .inl T.2.1.2.1)), (ad 13, .inr (2, [.ref (ad 14), .ref (ad 15), .int T.2.2.1.2.2])), (ad 14, .inl (cI, nn, .inl T.2.2.1.1)), (ad 15, .inl (cZ, nn, .inl T.2.2.1.2.1)), (ad 16, .inr (0, [.ref (ad 17), .int T.2.2.2.1.2.1, .int T.2.2.2.1.2.2])), (ad 17, .inl (cI, 1250, .inl T.2.2.2.1.1)), (ad 18, .inr (0, [.ref (ad 19), .int T.2.2.2.2.1.2.1, .int T.2.2.2.2.1.2.2])), (ad 19, .inl (cI, 1250, .inl T.2.2.2.2.1.1))]) (w1 := []) hP hD [] [0, 1, 2, 3, 4, 5, 6, 7, 8, 9, 10, 11, 12, 13, 14, 15, 16, 17, 18, 19] rfl rfl (by decide) (by decide) hk1 hFc hP1 hD1
      generalize H1 = H at hP hS hce ⊢
      have hP := hP.sub (ws' := wTT cI cZ cJ nl nn ad ra S T) [0, 1, 2, 3, 4, 5, 6, 7, 8, 9, 10, 11, 12, 13, 14, 15, 16, 17, 18, 19] rfl
      have hD := hD.sub (ws' := wTT cI cZ cJ nl nn ad ra S T) [0, 1, 2, 3, 4, 5, 6, 7, 8, 9, 10, 11, 12, 13, 14, 15, 16, 17, 18, 19] (by decide) rfl
      exact vx_out (fun x h => (hno x h).elim) hlocks hce hcv hcl (fun t ht ha => ⟨(E, T), hw, ⟨rfl, by rw [ht]; exact hP, va_K.moved ha hK, hD⟩, hS.F ht⟩) hS.2.2 (Nat.le_of_ble_eq_true rfl) (Nat.le_of_ble_eq_true rfl)
    · obtain ⟨hP1, -, hD1⟩ := hB
      try dsimp only at hw
      rw [ht] at hP1
      obtain ⟨hP, hD⟩ := va_join (wr := [(ad 0, .inr (3, [.ref (ad 1), .ref (ad 9), .ref (ad 10), .ref (ad 13), .ref (ad 16), .ref (ad 18), .int T.2.2.2.2.2])), (ad 1, .inr (1, [.int S.1.1, .int S.1.2.1, .int S.1.2.2.1, .int S.1.2.2.2.1, .int S.1.2.2.2.2, .ref (ad 2), .ref (ad 3), .ref (ad 4), .ref (ad 5)])), (ad 2, .inl (cI, 6, .inl S.2.1.1)), (ad 3, .inl (cI, 6, .inl S.2.1.2.1)), (ad 4, .inl (cI, 6, .inl S.2.1.2.2)), (ad 5, .inl (cJ, 3, .inr (.inr (.inr (.inr (fun i => if i < 3 then some (ra i) else none)))))), (ra 0, .inl (cI, nl, .inl (S.2.2 0))), (ra 1, .inl (cI, nl, .inl (S.2.2 1))), (ra 2, .inl (cI, nl, .inl (S.2.2 2))), (ad 9, .inl (cI, nn, .inl T.1)), (ad 10, .inr (2, [.ref (ad 11), .ref (ad 12), .int T.2.1.2.2])), (ad 11, .inl (cI, nn, .inl T.2.1.1)), (ad 12, .inl (cZ, nn, .inl T.2.1.2.1)), (ad 13, .inr (2, [.ref (ad 14), .ref (ad 15), .int T.2.2.1.2.2])), (ad 14, .inl (cI, nn, .inl T.2.2.1.1)), (ad 15, .inl (cZ, nn, .inl T.2.2.1.2.1)), (ad 16, .inr (0, [.ref (ad 17), .int T.2.2.2.1.2.1, .int T.2.2.2.1.2.2])), (ad 17, .inl (cI, 1250, .inl T.2.2.2.1.1)), (ad 18, .inr (0, [.ref (ad 19), .int T.2.2.2.2.1.2.1, .int T.2.2.2.2.1.2.2])), (ad 19, .inl (cI, 1250, .inl T.2.2.2.2.1.1))]) (w1 := []) hP hD [] [0, 1, 2, 3, 4, 5, 6, 7, 8, 9, 10, 11, 12, 13, 14, 15, 16, 17, 18, 19] rfl rfl (by decide) (by decide) hk1 hFc hP1 hD1
      generalize H1 = H at hP hS ⊢
      have hP := hP.sub (ws' := wTT cI cZ cJ nl nn ad ra S T) [0, 1, 2, 3, 4, 5, 6, 7, 8, 9, 10, 11, 12, 13, 14, 15, 16, 17, 18, 19] rfl
      have hD := hD.sub (ws' := wTT cI cZ cJ nl nn ad ra S T) [0, 1, 2, 3, 4, 5, 6, 7, 8, 9, 10, 11, 12, 13, 14, 15, 16, 17, 18, 19] (by decide) rfl
      refine lv_iconst (v := 0) hx hb dX3_decodeAll_8 (by decide) ?_
      refine lv_istore_n (lv' := [(3, .int 0), (0, .ref (ad 0)), (1, .int x1), (2, .int x2)]) hx hb dX3_decodeAll_9 rfl hl (by decide) rfl (fun ls hl => ?_)
      obtain ⟨n_5, hw⟩ := hw
      obtain ⟨ex10, eex10⟩ : ∃ z : vTT → Int32 → Prop, z = (fun (T_3 : vTT) (x3_4 : Int32) => post S.1.2.2.1 T_3) := ⟨_, rfl⟩
      rw [← eex10] at hw
      have hx10 : ∀ (T_3 : vTT) (x3_4 : Int32), ex10 T_3 x3_4 → ∀ (H : Heap) (locs : List Loc) (ls : Array Slot), va_P (dC, dI) vwCl (wTT cI cZ cJ nl nn ad ra S T_3) H → va_D A (wTT cI cZ cJ nl nn ad ra S T_3) → va_S A s.heap H locs → lv_has ls 4 [(3, .int x3_4), (0, .ref (ad 0)), (1, .int x1), (2, .int x2)] → W p l e (headSpec wsX3_decodeAll rm_X3_decodeAll).room s m args below meth c H locs 2 12 (vx_MQ below (va_Qi post (fun u t => qB (dC, dI) (tysA cI cZ cJ cL) A (wTT cI cZ cJ nl nn ad ra S u) t) A) (vx_X (fun u : String × vTT => px u.1 u.2) (fun E u t => E = u.1 ∧ qB (dC, dI) (tysA cI cZ cJ cL) A (wTT cI cZ cJ nl nn ad ra S u.2) t) A) args s 2 12 A) (F0 m 55 ls []) := by
        intro T_3 x3_4 hw H locs ls hP hD hS hl
        rw [eex10] at hw
        try dsimp only at hw
        refine lv_aload_n hx hb dX3_decodeAll_55 rfl (lv_at hl 1 rfl) ?_
        refine va_get (D := (dC, dI)) (ci := 3) (v := .ref (ad 1)) (C := RX3) (T := TX3) (N := 7) hx hb hT inX3 hown hK hP 0 rfl rfl 0 (by decide) (hT _ k_0) (fun _ h9 => h9) rfl dX3_decodeAll_56 ?_
        refine va_get (D := (dC, dI)) (ci := 1) (v := .int S.1.2.2.1) (C := RX1) (T := TX1) (N := 9) hx hb hT inX1 hown hK hP 1 rfl rfl 2 (by decide) (hT _ k_54) (fun _ h9 => h9) rfl dX3_decodeAll_59 ?_
        exact vx_ret (W.iret (v := S.1.2.2.1) hx hb hr (fun t ht hW => ⟨⟨S.1.2.2.1, T_3, rfl, hw, by rw [ht]; exact hP, va_K.moved hW.alike hK, hD⟩, hS.F ht⟩) hS.2.2 dX3_decodeAll_62)
      have hlp10 : ∀ (n_5 : Nat) (T_3 : vTT) (x3_4 : Int32), wp_X3_decodeAll_L10 post px ex10 nl nn S x1 x2 n_5 T_3 x3_4 → ∀ (H : Heap) (locs : List Loc) (ls : Array Slot), va_P (dC, dI) vwCl (wTT cI cZ cJ nl nn ad ra S T_3) H → va_D A (wTT cI cZ cJ nl nn ad ra S T_3) → va_S A s.heap H locs → lv_has ls 4 [(3, .int x3_4), (0, .ref (ad 0)), (1, .int x1), (2, .int x2)] → W p l e (headSpec wsX3_decodeAll rm_X3_decodeAll).room s m args below meth c H locs 2 12 (vx_MQ below (va_Qi post (fun u t => qB (dC, dI) (tysA cI cZ cJ cL) A (wTT cI cZ cJ nl nn ad ra S u) t) A) (vx_X (fun u : String × vTT => px u.1 u.2) (fun E u t => E = u.1 ∧ qB (dC, dI) (tysA cI cZ cJ cL) A (wTT cI cZ cJ nl nn ad ra S u.2) t) A) args s 2 12 A) (F0 m 10 ls []) := by
        intro n_5
        induction n_5 with
        | zero => intro _ _ hw; exact hw.elim
        | succ n_5 ih10 =>
          intro T_3 x3_4 hw H locs ls hP hD hS hl
          unfold wp_X3_decodeAll_L10 at hw
          refine lv_iload_n hx hb dX3_decodeAll_10 rfl (lv_at hl 0 rfl) ?_
          refine lv_aload_n hx hb dX3_decodeAll_11 rfl (lv_at hl 1 rfl) ?_
          refine va_get (D := (dC, dI)) (ci := 3) (v := .ref (ad 1)) (C := RX3) (T := TX3) (N := 7) hx hb hT inX3 hown hK hP 0 rfl rfl 0 (by decide) (hT _ k_0) (fun _ h9 => h9) rfl dX3_decodeAll_12 ?_
          refine va_get (D := (dC, dI)) (ci := 1) (v := .int S.1.2.2.1) (C := RX1) (T := TX1) (N := 9) hx hb hT inX1 hown hK hP 1 rfl rfl 2 (by decide) (hT _ k_54) (fun _ h9 => h9) rfl dX3_decodeAll_15 ?_
          refine lv_icmp_ge (tgt := 55) hx hb dX3_decodeAll_18 (by decide) (fun c_6 => ?_) (fun c_6 => ?_)
          · have hw := hw.1 c_6
            exact hx10 T_3 x3_4 hw _ _ _ hP hD hS (lv_sub hl [0, 1, 2, 3] rfl)
          · have hw := hw.2 c_6
            refine lv_aload_n hx hb dX3_decodeAll_21 rfl (lv_at hl 1 rfl) ?_
            refine lv_aload_n hx hb dX3_decodeAll_22 rfl (lv_at hl 1 rfl) ?_
            refine va_get (D := (dC, dI)) (ci := 3) (v := .ref (ad 1)) (C := RX3) (T := TX3) (N := 7) hx hb hT inX3 hown hK hP 0 rfl rfl 0 (by decide) (hT _ k_0) (fun _ h9 => h9) rfl dX3_decodeAll_23 ?_
            refine lv_iload_n hx hb dX3_decodeAll_26 rfl (lv_at hl 2 rfl) ?_
            refine lv_iload_n hx hb dX3_decodeAll_27 rfl (lv_at hl 0 rfl) ?_
            have hPc := hP.sub (ws' := wSH cI cJ nl (ad 1) (ad 2) (ad 3) (ad 4) (ad 5) ra S) [1, 2, 3, 4, 5, 6, 7, 8] rfl
            refine vp_callSi (W.runV (As := [.int x1, .int x3_4]) (rest := [.ref (ad 0)]) ⟨hx, hb, hml, hown, hT⟩ (met_X1_leafX l dC dI cI cZ cJ cL (ad 1) (ad 2) (ad 3) (ad 4) (ad 5) ra _ nl S  x1 x3_4 hw) (cwV 2 hT (gV k_55 k_57 k_58 k_59 k_56) rfl rfl rfl (by decide +kernel) ⟨(Nat.le_of_ble_eq_true rfl), (Nat.le_of_ble_eq_true rfl)⟩) ⟨bl_R, va_recv hK hPc (ci := 1) (q0 := 0) rfl rfl, fun U hU hW => ⟨rfl, by rw [hU]; exact hPc, va_K.moved hW.alike hK⟩⟩ rfl rfl hl.1 rfl (lv_room (Nat.le_of_ble_eq_true rfl)) dX3_decodeAll_28 ⟨Nat.le_of_ble_eq_true rfl, Nat.le_of_ble_eq_true rfl⟩) (fun r_7 hw => ?_)
            try dsimp only at hw
            refine lv_aload_n hx hb dX3_decodeAll_31 rfl (lv_at hl 1 rfl) ?_
            refine va_get (D := (dC, dI)) (ci := 3) (v := .ref (ad 1)) (C := RX3) (T := TX3) (N := 7) hx hb hT inX3 hown hK hP 0 rfl rfl 0 (by decide) (hT _ k_0) (fun _ h9 => h9) rfl dX3_decodeAll_32 ?_
            refine lv_iload_n hx hb dX3_decodeAll_35 rfl (lv_at hl 2 rfl) ?_
            refine lv_iload_n hx hb dX3_decodeAll_36 rfl (lv_at hl 0 rfl) ?_
            have hPc := hP.sub (ws' := wSH cI cJ nl (ad 1) (ad 2) (ad 3) (ad 4) (ad 5) ra S) [1, 2, 3, 4, 5, 6, 7, 8] rfl
            refine vp_callSi (W.runV (As := [.int x1, .int x3_4]) (rest := [.int r_7, .ref (ad 0)]) ⟨hx, hb, hml, hown, hT⟩ (met_X1_leafY l dC dI cI cZ cJ cL (ad 1) (ad 2) (ad 3) (ad 4) (ad 5) ra _ nl S  x1 x3_4 hw) (cwV 2 hT (gV k_60 k_62 k_63 k_59 k_61) rfl rfl rfl (by decide +kernel) ⟨(Nat.le_of_ble_eq_true rfl), (Nat.le_of_ble_eq_true rfl)⟩) ⟨bl_R, va_recv hK hPc (ci := 1) (q0 := 0) rfl rfl, fun U hU hW => ⟨rfl, by rw [hU]; exact hPc, va_K.moved hW.alike hK⟩⟩ rfl rfl hl.1 rfl (lv_room (Nat.le_of_ble_eq_true rfl)) dX3_decodeAll_37 ⟨Nat.le_of_ble_eq_true rfl, Nat.le_of_ble_eq_true rfl⟩) (fun r_8 hw => ?_)
            try dsimp only at hw
            refine lv_iload_n hx hb dX3_decodeAll_40 rfl (lv_at hl 3 rfl) ?_
            have hPc := hP
            have hDc := hD
            have hFc := va_free (wc := wTT cI cZ cJ nl nn ad ra S T_3) hD hS hA [0, 1, 2, 3, 4, 5, 6, 7, 8, 9, 10, 11, 12, 13, 14, 15, 16, 17, 18, 19] rfl
            refine va_calli (va_runV (As := [.int r_7, .int r_8, .int x2]) (rest := []) ⟨hx, hb, hml, hown, hT⟩ (met_X3_learnLeaf l dC dI cI cZ cJ cL ad ra H.size _ nl nn S T_3 r_7 r_8 x2 hw) (cwV 3 hT (gV k_231 k_233 k_234 k_51 k_232) rfl rfl rfl (by decide +kernel) ⟨(Nat.le_of_ble_eq_true rfl), (Nat.le_of_ble_eq_true rfl)⟩) ⟨bl_W, va_recv hK hPc (ci := 3) (q0 := 0) rfl rfl, fun U hU hW => ⟨rfl, by rw [hU], by rw [hU]; exact hPc, va_K.moved hW.alike hK, hDc.weaken (fun _ _ _ _ => trivial)⟩⟩ rfl rfl hl.1 rfl (lv_room (Nat.le_of_ble_eq_true rfl)) dX3_decodeAll_41 ⟨Nat.le_of_ble_eq_true rfl, Nat.le_of_ble_eq_true rfl⟩) hS (fun q _ h => hFc q h) hFc (fun r_9 T_10 t H1 locs ht hvm hw hB hz1 hk1 hS => ?_)
            obtain ⟨hP1, -, hD1⟩ := hB
            try dsimp only at hw
            rw [ht] at hP1
            obtain ⟨hP, hD⟩ := va_join (wr := []) (w1 := wTT cI cZ cJ nl nn ad ra S T_10) hP hD [0, 1, 2, 3, 4, 5, 6, 7, 8, 9, 10, 11, 12, 13, 14, 15, 16, 17, 18, 19] [] rfl rfl (by decide) (by decide) hk1 hFc hP1 hD1
            generalize H1 = H at hP hS ⊢
            have hP := hP.sub (ws' := wTT cI cZ cJ nl nn ad ra S T_10) [0, 1, 2, 3, 4, 5, 6, 7, 8, 9, 10, 11, 12, 13, 14, 15, 16, 17, 18, 19] rfl
            have hD := hD.sub (ws' := wTT cI cZ cJ nl nn ad ra S T_10) [0, 1, 2, 3, 4, 5, 6, 7, 8, 9, 10, 11, 12, 13, 14, 15, 16, 17, 18, 19] (by decide) rfl
            refine lv_if_ne (tgt := 49) hx hb dX3_decodeAll_44 (by decide) (fun c_11 => ?_) (fun c_11 => ?_)
            · have hw := hw.2 c_11
              obtain ⟨x3_12, ex3_12⟩ : ∃ y : Int32, y = x3_4 + 1 := ⟨_, rfl⟩
              have hw := hw x3_12 ex3_12
              refine lv_iinc (v := x3_12) (lv' := [(3, .int x3_12), (0, .ref (ad 0)), (1, .int x1), (2, .int x2)]) hx hb dX3_decodeAll_49 hl (k := 0) rfl (by rw [ex3_12]; rfl) (by decide) rfl (fun ls hl => ?_)
              refine lv_goto (tgt := 10) hx hb dX3_decodeAll_52 (by decide) ?_
              exact ih10 T_10 x3_12 hw _ _ _ hP hD hS (lv_sub hl [0, 1, 2, 3] rfl)
            · have hw := hw.1 c_11
              refine lv_iload_n hx hb dX3_decodeAll_47 rfl (lv_at hl 0 rfl) ?_
              exact vx_ret (W.iret (v := x3_4) hx hb hr (fun t ht hW => ⟨⟨x3_4, T_10, rfl, hw, by rw [ht]; exact hP, va_K.moved hW.alike hK, hD⟩, hS.F ht⟩) hS.2.2 dX3_decodeAll_48)
      exact hlp10 n_5 T 0 hw _ _ _ hP hD hS (lv_sub hl [0, 1, 2, 3] rfl)
end
