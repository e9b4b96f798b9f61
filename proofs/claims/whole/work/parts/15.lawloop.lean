def wp_L_cell (L : Nat) (xs : Nat → Int32) (post : Int32 → Prop) (x1 : Int32) : Prop := (((Int32.ofNat L) ≤ x1 → (post 0)) ∧ (¬ (Int32.ofNat L) ≤ x1 → (vp_in x1 L ∧ (post (xs x1.toNatClampNeg)))))
abbrev rm_L_cell : Room := { frames := 0, cells := 0, slots := 0, locals := 10 }
set_option maxHeartbeats 4000000 in
set_option maxRecDepth 100000 in
theorem met_L_cell (l : Launch) (b L : Nat) (xs : Nat → Int32) (post : Int32 → Prop) (x1 : Int32) (hw : wp_L_cell L xs post x1) : Met l yL_cell wsL_cell rm_L_cell (va_Pc [.ref b, .int x1] (fun U => va_X b L xs U U.heap)) (vp_Si post) 0 0 (fun _ => False) := by
  refine Met.ofW (cc := cL_cell) (maxL := 2) (ret := (some .int)) (by decide) rfl ?_
  intro p e s m args below meth c s₁ Bd hml hv
  obtain ⟨hargs, hX⟩ := hv
  have hx := Bd.exec
  have hb := Bd.bytes
  have hr := Bd.returns
  have hlocks := Bd.notSynchronized
  have hbl : b < s.heap.size := by
    obtain ⟨scr, h1, -⟩ := hX
    exact (Array.getElem?_eq_some_iff.mp h1).1
  have hbA : ¬ (fun _ : Nat => False) b := fun h => h
  have hl := lv_entry ([.ref b, .int x1]) (n := 2) (Nat.le_of_ble_eq_true rfl)
  rw [show entryFrame m args 2 = F0 m 0 _ [] from by rw [hargs]; exact lg_entry_eq m ([.ref b, .int x1]) 2]
  generalize (lg_sl ([.ref b, .int x1]) ++ List.replicate (2 - (lg_sl ([.ref b, .int x1])).length) Slot.unset).toArray = ls at hl ⊢
  have hl : lv_has ls 2 [(0, .ref b), (1, .int x1)] := hl
  obtain ⟨H, hH⟩ : ∃ z : Heap, s.heap = z := ⟨_, rfl⟩
  have hS : va_S (fun _ : Nat => False) s.heap H [] := by rw [hH]; exact va_S.rf
  rw [show W p l e (headSpec wsL_cell rm_L_cell).room s m args below meth c s.heap [] 0 0 = W p l e (headSpec wsL_cell rm_L_cell).room s m args below meth c H [] 0 0 from by rw [hH]]
  unfold wp_L_cell at hw
  refine lv_iload_n hx hb dL_cell_0 rfl (lv_at hl 1 rfl) ?_
  refine lv_aload_n hx hb dL_cell_1 rfl (lv_at hl 0 rfl) ?_
  refine va_slen hx hb hX hbl hbA hS dL_cell_2 ?_
  refine lv_icmp_ge (tgt := 12) hx hb dL_cell_3 (by decide) (fun c_1 => ?_) (fun c_1 => ?_)
  · have hw := hw.1 c_1
    refine lv_iconst (v := 0) hx hb dL_cell_12 (by decide) ?_
    exact W.iret (v := 0) hx hb hr (fun t ht hW => ⟨0, rfl, hw, ht.trans hH.symm⟩) (fun q h => by cases h) dL_cell_13
  · have hw := hw.2 c_1
    refine lv_aload_n hx hb dL_cell_6 rfl (lv_at hl 0 rfl) ?_
    refine lv_iload_n hx hb dL_cell_7 rfl (lv_at hl 1 rfl) ?_
    obtain ⟨h_2, hw⟩ := hw
    refine va_sld hx hb hX hbl hbA hS h_2 dL_cell_8 ?_
    refine lv_goto (tgt := 13) hx hb dL_cell_9 (by decide) ?_
    exact W.iret (v := (xs x1.toNatClampNeg)) hx hb hr (fun t ht hW => ⟨(xs x1.toNatClampNeg), rfl, hw, ht.trans hH.symm⟩) (fun q h => by cases h) dL_cell_13
def wp_L_law (L : Nat) (xs : Nat → Int32) (nl : Nat) (nn : Nat) (S : vSH) (Y : vMS) : Nat → vLA → Int32 → Prop
  | 0, _, _ => False
  | n + 1, A9, x4 => ((((Int32.ofNat L) - 6) < x4 → (True)) ∧ (¬ ((Int32.ofNat L) - 6) < x4 → (vp_in x4 L ∧ (((((xs x4.toNatClampNeg) &&& 15) = 0 → (vp_in (x4 + 1) L ∧ (vp_in (x4 + 2) L ∧ (vp_in (x4 + 3) L ∧ (wp_L_value (fun r_22 V9_23 => vp_in (x4 + 1) L ∧ (vp_in (x4 + 2) L ∧ (vp_in (x4 + 3) L ∧ (wp_X4_value (fun r_27 G_28 => wp_X4_thrown (fun r_29 => ((r_29 = r_22 → (((r_22 = 0 → (vp_in 0 1 ∧ (((lg_cmp (V9_23.2 (0 : Int32).toNatClampNeg) r_27.toInt64 = 0 → (∀ x4_35 : Int32, x4_35 = x4 + 6 → (wp_L_law L xs nl nn S Y n (V9_23.1, G_28, V9_23.2) x4_35))) ∧ (¬ lg_cmp (V9_23.2 (0 : Int32).toNatClampNeg) r_27.toInt64 = 0 → (False)))))) ∧ (¬ r_22 = 0 → (∀ x4_32 : Int32, x4_32 = x4 + 6 → (wp_L_law L xs nl nn S Y n (V9_23.1, G_28, V9_23.2) x4_32)))))) ∧ (¬ r_29 = r_22 → (False)))) Y G_28 ) Y A9.2.1 (xs (x4 + 1).toNatClampNeg) (xs (x4 + 2).toNatClampNeg) (xs (x4 + 3).toNatClampNeg))))) nl nn S (A9.1, A9.2.2) (xs (x4 + 1).toNatClampNeg) (xs (x4 + 2).toNatClampNeg) (xs (x4 + 3).toNatClampNeg)))))) ∧ ((((xs x4.toNatClampNeg) &&& 15) = 1 → (vp_in (x4 + 1) L ∧ (vp_in (x4 + 2) L ∧ (vp_in (x4 + 3) L ∧ (vp_in (x4 + 4) L ∧ (vp_in (x4 + 5) L ∧ (wp_L_values (fun r_41 V9_42 => vp_in (x4 + 1) L ∧ (vp_in (x4 + 2) L ∧ (vp_in (x4 + 3) L ∧ (vp_in (x4 + 4) L ∧ (vp_in (x4 + 5) L ∧ (wp_X4_values (fun r_48 G_49 => wp_X4_thrown (fun r_50 => ((r_50 = r_41 → (((r_41 = 0 → (vp_in 0 1 ∧ (((lg_cmp (V9_42.2 (0 : Int32).toNatClampNeg) r_48.toInt64 = 0 → (∀ x4_56 : Int32, x4_56 = x4 + 6 → (wp_L_law L xs nl nn S Y n (V9_42.1, G_49, V9_42.2) x4_56))) ∧ (¬ lg_cmp (V9_42.2 (0 : Int32).toNatClampNeg) r_48.toInt64 = 0 → (False)))))) ∧ (¬ r_41 = 0 → (∀ x4_53 : Int32, x4_53 = x4 + 6 → (wp_L_law L xs nl nn S Y n (V9_42.1, G_49, V9_42.2) x4_53)))))) ∧ (¬ r_50 = r_41 → (False)))) Y G_49 ) Y A9.2.1 (xs (x4 + 1).toNatClampNeg) (xs (x4 + 2).toNatClampNeg) (xs (x4 + 3).toNatClampNeg) (xs (x4 + 4).toNatClampNeg) (xs (x4 + 5).toNatClampNeg))))))) nl nn S (A9.1, A9.2.2) (xs (x4 + 1).toNatClampNeg) (xs (x4 + 2).toNatClampNeg) (xs (x4 + 3).toNatClampNeg) (xs (x4 + 4).toNatClampNeg) (xs (x4 + 5).toNatClampNeg)))))))) ∧ ((((xs x4.toNatClampNeg) &&& 15) = 2 → (vp_in (x4 + 1) L ∧ (vp_in (x4 + 2) L ∧ (vp_in (x4 + 3) L ∧ (wp_L_encode (fun r_60 V9_61 => vp_in (x4 + 1) L ∧ (vp_in (x4 + 2) L ∧ (vp_in (x4 + 3) L ∧ (wp_X4_encode (fun r_65 G_66 => wp_X4_thrown (fun r_67 => ((r_67 = r_60 → (((r_60 = 0 → (vp_in 0 1 ∧ (((lg_cmp (V9_61.2 (0 : Int32).toNatClampNeg) r_65.toInt64 = 0 → (∀ x4_73 : Int32, x4_73 = x4 + 6 → (wp_L_law L xs nl nn S Y n (V9_61.1, G_66, V9_61.2) x4_73))) ∧ (¬ lg_cmp (V9_61.2 (0 : Int32).toNatClampNeg) r_65.toInt64 = 0 → (False)))))) ∧ (¬ r_60 = 0 → (∀ x4_70 : Int32, x4_70 = x4 + 6 → (wp_L_law L xs nl nn S Y n (V9_61.1, G_66, V9_61.2) x4_70)))))) ∧ (¬ r_67 = r_60 → (False)))) Y G_66 ) Y A9.2.1 (xs (x4 + 1).toNatClampNeg) (xs (x4 + 2).toNatClampNeg) (xs (x4 + 3).toNatClampNeg))))) nl nn S (A9.1, A9.2.2) (xs (x4 + 1).toNatClampNeg) (xs (x4 + 2).toNatClampNeg) (xs (x4 + 3).toNatClampNeg)))))) ∧ ((((xs x4.toNatClampNeg) &&& 15) = 3 → (vp_in (x4 + 1) L ∧ (vp_in (x4 + 2) L ∧ (vp_in (x4 + 3) L ∧ (wp_L_cost (fun r_77 V9_78 => vp_in (x4 + 1) L ∧ (vp_in (x4 + 2) L ∧ (vp_in (x4 + 3) L ∧ (wp_X4_cost (fun r_82 G_83 => wp_X4_thrown (fun r_84 => ((r_84 = r_77 → (((r_77 = 0 → (vp_in 0 1 ∧ (((lg_cmp (V9_78.2 (0 : Int32).toNatClampNeg) r_82.toInt64 = 0 → (∀ x4_90 : Int32, x4_90 = x4 + 6 → (wp_L_law L xs nl nn S Y n (V9_78.1, G_83, V9_78.2) x4_90))) ∧ (¬ lg_cmp (V9_78.2 (0 : Int32).toNatClampNeg) r_82.toInt64 = 0 → (False)))))) ∧ (¬ r_77 = 0 → (∀ x4_87 : Int32, x4_87 = x4 + 6 → (wp_L_law L xs nl nn S Y n (V9_78.1, G_83, V9_78.2) x4_87)))))) ∧ (¬ r_84 = r_77 → (False)))) Y G_83 ) Y A9.2.1 (xs (x4 + 1).toNatClampNeg) (xs (x4 + 2).toNatClampNeg) (xs (x4 + 3).toNatClampNeg))))) nl nn S (A9.1, A9.2.2) (xs (x4 + 1).toNatClampNeg) (xs (x4 + 2).toNatClampNeg) (xs (x4 + 3).toNatClampNeg)))))) ∧ ((((xs x4.toNatClampNeg) &&& 15) = 4 → (vp_in (x4 + 1) L ∧ (vp_in (x4 + 2) L ∧ (wp_L_encodeAll (fun r_93 V9_94 => vp_in (x4 + 1) L ∧ (vp_in (x4 + 2) L ∧ (wp_X4_encodeAll (fun r_97 G_98 => wp_X4_thrown (fun r_99 => ((r_99 = r_93 → (((r_93 = 0 → (vp_in 0 1 ∧ (((lg_cmp (V9_94.2 (0 : Int32).toNatClampNeg) r_97.toInt64 = 0 → (∀ x4_105 : Int32, x4_105 = x4 + 6 → (wp_L_law L xs nl nn S Y n (V9_94.1, G_98, V9_94.2) x4_105))) ∧ (¬ lg_cmp (V9_94.2 (0 : Int32).toNatClampNeg) r_97.toInt64 = 0 → (False)))))) ∧ (¬ r_93 = 0 → (∀ x4_102 : Int32, x4_102 = x4 + 6 → (wp_L_law L xs nl nn S Y n (V9_94.1, G_98, V9_94.2) x4_102)))))) ∧ (¬ r_99 = r_93 → (False)))) Y G_98 ) Y A9.2.1 (xs (x4 + 1).toNatClampNeg) (xs (x4 + 2).toNatClampNeg)))) nl nn S (A9.1, A9.2.2) (xs (x4 + 1).toNatClampNeg) (xs (x4 + 2).toNatClampNeg))))) ∧ ((((xs x4.toNatClampNeg) &&& 15) = 5 → (vp_in (x4 + 1) L ∧ (wp_L_bitAt (fun r_107 V9_108 => vp_in (x4 + 1) L ∧ (wp_X4_bitAt (fun r_110 G_111 => wp_X4_thrown (fun r_112 => ((r_112 = r_107 → (((r_107 = 0 → (vp_in 0 1 ∧ (((lg_cmp (V9_108.2 (0 : Int32).toNatClampNeg) r_110.toInt64 = 0 → (∀ x4_118 : Int32, x4_118 = x4 + 6 → (wp_L_law L xs nl nn S Y n (V9_108.1, G_111, V9_108.2) x4_118))) ∧ (¬ lg_cmp (V9_108.2 (0 : Int32).toNatClampNeg) r_110.toInt64 = 0 → (False)))))) ∧ (¬ r_107 = 0 → (∀ x4_115 : Int32, x4_115 = x4 + 6 → (wp_L_law L xs nl nn S Y n (V9_108.1, G_111, V9_108.2) x4_115)))))) ∧ (¬ r_112 = r_107 → (False)))) Y G_111 ) Y A9.2.1 (xs (x4 + 1).toNatClampNeg))) nl nn S (A9.1, A9.2.2) (xs (x4 + 1).toNatClampNeg)))) ∧ ((((xs x4.toNatClampNeg) &&& 15) = 6 → (vp_in (x4 + 1) L ∧ (wp_L_feed (fun r_120 V9_121 => vp_in (x4 + 1) L ∧ (wp_X4_feed (fun r_123 G_124 => wp_X4_thrown (fun r_125 => ((r_125 = r_120 → (((r_120 = 0 → (vp_in 0 1 ∧ (((lg_cmp (V9_121.2 (0 : Int32).toNatClampNeg) r_123.toInt64 = 0 → (∀ x4_131 : Int32, x4_131 = x4 + 6 → (wp_L_law L xs nl nn S Y n (V9_121.1, G_124, V9_121.2) x4_131))) ∧ (¬ lg_cmp (V9_121.2 (0 : Int32).toNatClampNeg) r_123.toInt64 = 0 → (False)))))) ∧ (¬ r_120 = 0 → (∀ x4_128 : Int32, x4_128 = x4 + 6 → (wp_L_law L xs nl nn S Y n (V9_121.1, G_124, V9_121.2) x4_128)))))) ∧ (¬ r_125 = r_120 → (False)))) Y G_124 ) Y A9.2.1 (xs (x4 + 1).toNatClampNeg))) nl nn S (A9.1, A9.2.2) (xs (x4 + 1).toNatClampNeg)))) ∧ ((((xs x4.toNatClampNeg) &&& 15) = 7 → (vp_in (x4 + 1) L ∧ (wp_L_pass (fun r_133 V9_134 => vp_in (x4 + 1) L ∧ (wp_X4_pass (fun r_136 G_137 => wp_X4_thrown (fun r_138 => ((r_138 = r_133 → (((r_133 = 0 → (vp_in 0 1 ∧ (((lg_cmp (V9_134.2 (0 : Int32).toNatClampNeg) r_136.toInt64 = 0 → (∀ x4_144 : Int32, x4_144 = x4 + 6 → (wp_L_law L xs nl nn S Y n (V9_134.1, G_137, V9_134.2) x4_144))) ∧ (¬ lg_cmp (V9_134.2 (0 : Int32).toNatClampNeg) r_136.toInt64 = 0 → (False)))))) ∧ (¬ r_133 = 0 → (∀ x4_141 : Int32, x4_141 = x4 + 6 → (wp_L_law L xs nl nn S Y n (V9_134.1, G_137, V9_134.2) x4_141)))))) ∧ (¬ r_138 = r_133 → (False)))) Y G_137 ) Y A9.2.1 (xs (x4 + 1).toNatClampNeg))) nl nn S (A9.1, A9.2.2) (xs (x4 + 1).toNatClampNeg)))) ∧ ((((xs x4.toNatClampNeg) &&& 15) = 8 → (vp_in (x4 + 1) L ∧ (vp_in (x4 + 2) L ∧ (vp_in (x4 + 3) L ∧ (wp_L_decode (fun r_148 V9_149 => vp_in (x4 + 1) L ∧ (vp_in (x4 + 2) L ∧ (vp_in (x4 + 3) L ∧ (wp_X4_decode (fun r_153 G_154 => wp_X4_thrown (fun r_155 => ((r_155 = r_148 → (((r_148 = 0 → (vp_in 0 1 ∧ (((lg_cmp (V9_149.2 (0 : Int32).toNatClampNeg) r_153.toInt64 = 0 → (∀ x4_161 : Int32, x4_161 = x4 + 6 → (wp_L_law L xs nl nn S Y n (V9_149.1, G_154, V9_149.2) x4_161))) ∧ (¬ lg_cmp (V9_149.2 (0 : Int32).toNatClampNeg) r_153.toInt64 = 0 → (False)))))) ∧ (¬ r_148 = 0 → (∀ x4_158 : Int32, x4_158 = x4 + 6 → (wp_L_law L xs nl nn S Y n (V9_149.1, G_154, V9_149.2) x4_158)))))) ∧ (¬ r_155 = r_148 → (False)))) Y G_154 ) Y A9.2.1 (xs (x4 + 1).toNatClampNeg) (xs (x4 + 2).toNatClampNeg) (xs (x4 + 3).toNatClampNeg))))) nl nn S (A9.1, A9.2.2) (xs (x4 + 1).toNatClampNeg) (xs (x4 + 2).toNatClampNeg) (xs (x4 + 3).toNatClampNeg)))))) ∧ ((((xs x4.toNatClampNeg) &&& 15) = 9 → (vp_in (x4 + 1) L ∧ (vp_in (x4 + 2) L ∧ (wp_L_decodeAll (fun r_164 V9_165 => vp_in (x4 + 1) L ∧ (vp_in (x4 + 2) L ∧ (wp_X4_decodeAll (fun r_168 G_169 => wp_X4_thrown (fun r_170 => ((r_170 = r_164 → (((r_164 = 0 → (vp_in 0 1 ∧ (((lg_cmp (V9_165.2 (0 : Int32).toNatClampNeg) r_168.toInt64 = 0 → (∀ x4_176 : Int32, x4_176 = x4 + 6 → (wp_L_law L xs nl nn S Y n (V9_165.1, G_169, V9_165.2) x4_176))) ∧ (¬ lg_cmp (V9_165.2 (0 : Int32).toNatClampNeg) r_168.toInt64 = 0 → (False)))))) ∧ (¬ r_164 = 0 → (∀ x4_173 : Int32, x4_173 = x4 + 6 → (wp_L_law L xs nl nn S Y n (V9_165.1, G_169, V9_165.2) x4_173)))))) ∧ (¬ r_170 = r_164 → (False)))) Y G_169 ) Y A9.2.1 (xs (x4 + 1).toNatClampNeg) (xs (x4 + 2).toNatClampNeg)))) nl nn S (A9.1, A9.2.2) (xs (x4 + 1).toNatClampNeg) (xs (x4 + 2).toNatClampNeg))))) ∧ ((((xs x4.toNatClampNeg) &&& 15) = 10 → (vp_in (x4 + 1) L ∧ (vp_in (x4 + 2) L ∧ (wp_L_known (fun r_179 V9_180 => vp_in (x4 + 1) L ∧ (vp_in (x4 + 2) L ∧ (wp_X4_known (fun r_183 G_184 => wp_X4_thrown (fun r_185 => ((r_185 = r_179 → (((r_179 = 0 → (vp_in 0 1 ∧ (((lg_cmp (V9_180.2 (0 : Int32).toNatClampNeg) r_183.toInt64 = 0 → (∀ x4_191 : Int32, x4_191 = x4 + 6 → (wp_L_law L xs nl nn S Y n (V9_180.1, G_184, V9_180.2) x4_191))) ∧ (¬ lg_cmp (V9_180.2 (0 : Int32).toNatClampNeg) r_183.toInt64 = 0 → (False)))))) ∧ (¬ r_179 = 0 → (∀ x4_188 : Int32, x4_188 = x4 + 6 → (wp_L_law L xs nl nn S Y n (V9_180.1, G_184, V9_180.2) x4_188)))))) ∧ (¬ r_185 = r_179 → (False)))) Y G_184 ) Y A9.2.1 (xs (x4 + 1).toNatClampNeg) (xs (x4 + 2).toNatClampNeg)))) nl nn S (A9.1, A9.2.2) (xs (x4 + 1).toNatClampNeg) (xs (x4 + 2).toNatClampNeg))))) ∧ ((((xs x4.toNatClampNeg) &&& 15) = 11 → (vp_in (x4 + 1) L ∧ ((((xs (x4 + 1).toNatClampNeg) = 0 → (vp_in (x4 + 2) L ∧ (vp_in (x4 + 3) L ∧ (vp_in (x4 + 4) L ∧ (wp_L_bound (fun r_197 V9_198 => vp_in (x4 + 1) L ∧ ((((xs (x4 + 1).toNatClampNeg) = 0 → (vp_in (x4 + 2) L ∧ (vp_in (x4 + 3) L ∧ (vp_in (x4 + 4) L ∧ (wp_X4_bound (fun r_204 G_205 => wp_X4_thrown (fun r_206 => ((r_206 = r_197 → (((r_197 = 0 → (vp_in 0 1 ∧ (((lg_cmp (V9_198.2 (0 : Int32).toNatClampNeg) r_204.toInt64 = 0 → (∀ x4_212 : Int32, x4_212 = x4 + 6 → (wp_L_law L xs nl nn S Y n (V9_198.1, G_205, V9_198.2) x4_212))) ∧ (¬ lg_cmp (V9_198.2 (0 : Int32).toNatClampNeg) r_204.toInt64 = 0 → (False)))))) ∧ (¬ r_197 = 0 → (∀ x4_209 : Int32, x4_209 = x4 + 6 → (wp_L_law L xs nl nn S Y n (V9_198.1, G_205, V9_198.2) x4_209)))))) ∧ (¬ r_206 = r_197 → (False)))) Y G_205 ) Y A9.2.1 0 (xs (x4 + 2).toNatClampNeg) (xs (x4 + 3).toNatClampNeg) (xs (x4 + 4).toNatClampNeg)))))) ∧ (¬ (xs (x4 + 1).toNatClampNeg) = 0 → (vp_in (x4 + 2) L ∧ (vp_in (x4 + 3) L ∧ (vp_in (x4 + 4) L ∧ (wp_X4_bound (fun r_216 G_217 => wp_X4_thrown (fun r_218 => ((r_218 = r_197 → (((r_197 = 0 → (vp_in 0 1 ∧ (((lg_cmp (V9_198.2 (0 : Int32).toNatClampNeg) r_216.toInt64 = 0 → (∀ x4_224 : Int32, x4_224 = x4 + 6 → (wp_L_law L xs nl nn S Y n (V9_198.1, G_217, V9_198.2) x4_224))) ∧ (¬ lg_cmp (V9_198.2 (0 : Int32).toNatClampNeg) r_216.toInt64 = 0 → (False)))))) ∧ (¬ r_197 = 0 → (∀ x4_221 : Int32, x4_221 = x4 + 6 → (wp_L_law L xs nl nn S Y n (V9_198.1, G_217, V9_198.2) x4_221)))))) ∧ (¬ r_218 = r_197 → (False)))) Y G_217 ) Y A9.2.1 1 (xs (x4 + 2).toNatClampNeg) (xs (x4 + 3).toNatClampNeg) (xs (x4 + 4).toNatClampNeg))))))))) nl nn S (A9.1, A9.2.2) 0 (xs (x4 + 2).toNatClampNeg) (xs (x4 + 3).toNatClampNeg) (xs (x4 + 4).toNatClampNeg)))))) ∧ (¬ (xs (x4 + 1).toNatClampNeg) = 0 → (vp_in (x4 + 2) L ∧ (vp_in (x4 + 3) L ∧ (vp_in (x4 + 4) L ∧ (wp_L_bound (fun r_228 V9_229 => vp_in (x4 + 1) L ∧ ((((xs (x4 + 1).toNatClampNeg) = 0 → (vp_in (x4 + 2) L ∧ (vp_in (x4 + 3) L ∧ (vp_in (x4 + 4) L ∧ (wp_X4_bound (fun r_235 G_236 => wp_X4_thrown (fun r_237 => ((r_237 = r_228 → (((r_228 = 0 → (vp_in 0 1 ∧ (((lg_cmp (V9_229.2 (0 : Int32).toNatClampNeg) r_235.toInt64 = 0 → (∀ x4_243 : Int32, x4_243 = x4 + 6 → (wp_L_law L xs nl nn S Y n (V9_229.1, G_236, V9_229.2) x4_243))) ∧ (¬ lg_cmp (V9_229.2 (0 : Int32).toNatClampNeg) r_235.toInt64 = 0 → (False)))))) ∧ (¬ r_228 = 0 → (∀ x4_240 : Int32, x4_240 = x4 + 6 → (wp_L_law L xs nl nn S Y n (V9_229.1, G_236, V9_229.2) x4_240)))))) ∧ (¬ r_237 = r_228 → (False)))) Y G_236 ) Y A9.2.1 0 (xs (x4 + 2).toNatClampNeg) (xs (x4 + 3).toNatClampNeg) (xs (x4 + 4).toNatClampNeg)))))) ∧ (¬ (xs (x4 + 1).toNatClampNeg) = 0 → (vp_in (x4 + 2) L ∧ (vp_in (x4 + 3) L ∧ (vp_in (x4 + 4) L ∧ (wp_X4_bound (fun r_247 G_248 => wp_X4_thrown (fun r_249 => ((r_249 = r_228 → (((r_228 = 0 → (vp_in 0 1 ∧ (((lg_cmp (V9_229.2 (0 : Int32).toNatClampNeg) r_247.toInt64 = 0 → (∀ x4_255 : Int32, x4_255 = x4 + 6 → (wp_L_law L xs nl nn S Y n (V9_229.1, G_248, V9_229.2) x4_255))) ∧ (¬ lg_cmp (V9_229.2 (0 : Int32).toNatClampNeg) r_247.toInt64 = 0 → (False)))))) ∧ (¬ r_228 = 0 → (∀ x4_252 : Int32, x4_252 = x4 + 6 → (wp_L_law L xs nl nn S Y n (V9_229.1, G_248, V9_229.2) x4_252)))))) ∧ (¬ r_249 = r_228 → (False)))) Y G_248 ) Y A9.2.1 1 (xs (x4 + 2).toNatClampNeg) (xs (x4 + 3).toNatClampNeg) (xs (x4 + 4).toNatClampNeg))))))))) nl nn S (A9.1, A9.2.2) 1 (xs (x4 + 2).toNatClampNeg) (xs (x4 + 3).toNatClampNeg) (xs (x4 + 4).toNatClampNeg)))))))))) ∧ ((((xs x4.toNatClampNeg) &&& 15) = 12 → (vp_in (x4 + 1) L ∧ (vp_in (x4 + 2) L ∧ (vp_in (x4 + 3) L ∧ (wp_L_least (fun r_259 V9_260 => vp_in (x4 + 1) L ∧ (vp_in (x4 + 2) L ∧ (vp_in (x4 + 3) L ∧ (wp_X4_least (fun r_264 G_265 => wp_X4_thrown (fun r_266 => ((r_266 = r_259 → (((r_259 = 0 → (vp_in 0 1 ∧ (((lg_cmp (V9_260.2 (0 : Int32).toNatClampNeg) r_264.toInt64 = 0 → (∀ x4_272 : Int32, x4_272 = x4 + 6 → (wp_L_law L xs nl nn S Y n (V9_260.1, G_265, V9_260.2) x4_272))) ∧ (¬ lg_cmp (V9_260.2 (0 : Int32).toNatClampNeg) r_264.toInt64 = 0 → (False)))))) ∧ (¬ r_259 = 0 → (∀ x4_269 : Int32, x4_269 = x4 + 6 → (wp_L_law L xs nl nn S Y n (V9_260.1, G_265, V9_260.2) x4_269)))))) ∧ (¬ r_266 = r_259 → (False)))) Y G_265 ) Y A9.2.1 (xs (x4 + 1).toNatClampNeg) (xs (x4 + 2).toNatClampNeg) (xs (x4 + 3).toNatClampNeg))))) nl nn S (A9.1, A9.2.2) (xs (x4 + 1).toNatClampNeg) (xs (x4 + 2).toNatClampNeg) (xs (x4 + 3).toNatClampNeg)))))) ∧ ((((xs x4.toNatClampNeg) &&& 15) = 13 → (vp_in (x4 + 1) L ∧ (vp_in (x4 + 2) L ∧ (wp_L_leaf (fun r_275 V9_276 => vp_in (x4 + 1) L ∧ (vp_in (x4 + 2) L ∧ (wp_X4_leaf (fun r_279 G_280 => wp_X4_thrown (fun r_281 => ((r_281 = r_275 → (((r_275 = 0 → (vp_in 0 1 ∧ (((lg_cmp (V9_276.2 (0 : Int32).toNatClampNeg) r_279.toInt64 = 0 → (∀ x4_287 : Int32, x4_287 = x4 + 6 → (wp_L_law L xs nl nn S Y n (V9_276.1, G_280, V9_276.2) x4_287))) ∧ (¬ lg_cmp (V9_276.2 (0 : Int32).toNatClampNeg) r_279.toInt64 = 0 → (False)))))) ∧ (¬ r_275 = 0 → (∀ x4_284 : Int32, x4_284 = x4 + 6 → (wp_L_law L xs nl nn S Y n (V9_276.1, G_280, V9_276.2) x4_284)))))) ∧ (¬ r_281 = r_275 → (False)))) Y G_280 ) Y A9.2.1 (xs (x4 + 1).toNatClampNeg) (xs (x4 + 2).toNatClampNeg)))) nl nn S (A9.1, A9.2.2) (xs (x4 + 1).toNatClampNeg) (xs (x4 + 2).toNatClampNeg))))) ∧ ((((xs x4.toNatClampNeg) &&& 15) = 14 → (vp_in (x4 + 1) L ∧ (wp_X3_told (fun r_289 => vp_in (x4 + 1) L ∧ (wp_X4_told (fun r_291 G_292 => ((r_289 = r_291 → (∀ x4_294 : Int32, x4_294 = x4 + 6 → (wp_L_law L xs nl nn S Y n (A9.1, G_292, A9.2.2) x4_294))) ∧ (¬ r_289 = r_291 → (False)))) Y A9.2.1 (xs (x4 + 1).toNatClampNeg))) nl nn S A9.1 (xs (x4 + 1).toNatClampNeg)))) ∧ ((((xs x4.toNatClampNeg) &&& 15) = 15 → (wp_X3_reset (fun T_295 => wp_X4_reset (fun G_296 => ∀ x4_297 : Int32, x4_297 = x4 + 6 → (wp_L_law L xs nl nn S Y n (T_295, G_296, A9.2.2) x4_297)) Y A9.2.1 ) nl nn S A9.1 )) ∧ ((¬ ((xs x4.toNatClampNeg) &&& 15) = 0 ∧ ¬ ((xs x4.toNatClampNeg) &&& 15) = 1 ∧ ¬ ((xs x4.toNatClampNeg) &&& 15) = 2 ∧ ¬ ((xs x4.toNatClampNeg) &&& 15) = 3 ∧ ¬ ((xs x4.toNatClampNeg) &&& 15) = 4 ∧ ¬ ((xs x4.toNatClampNeg) &&& 15) = 5 ∧ ¬ ((xs x4.toNatClampNeg) &&& 15) = 6 ∧ ¬ ((xs x4.toNatClampNeg) &&& 15) = 7 ∧ ¬ ((xs x4.toNatClampNeg) &&& 15) = 8 ∧ ¬ ((xs x4.toNatClampNeg) &&& 15) = 9 ∧ ¬ ((xs x4.toNatClampNeg) &&& 15) = 10 ∧ ¬ ((xs x4.toNatClampNeg) &&& 15) = 11 ∧ ¬ ((xs x4.toNatClampNeg) &&& 15) = 12 ∧ ¬ ((xs x4.toNatClampNeg) &&& 15) = 13 ∧ ¬ ((xs x4.toNatClampNeg) &&& 15) = 14 ∧ ¬ ((xs x4.toNatClampNeg) &&& 15) = 15) → (∀ x4_298 : Int32, x4_298 = x4 + 6 → (wp_L_law L xs nl nn S Y n A9 x4_298)))))))))))))))))))))))
set_option maxHeartbeats 40000000 in
set_option maxRecDepth 100000 in
theorem law_loop {p : Program} {e : Env} {s : State} {m : MethodId} {below : List Frame} {meth : Method} {c : Code} (l : Launch) (hl9 : l.stackTraces = false) {b L : Nat} {xs : Nat → Int32} (dC : Nat → ClassId) (dI : Nat → Nat → Nat) (cI cZ cJ cL : ClassId) (sa ad ra am : Nat → Nat) (ao : Nat) (nl : Nat) (nn : Nat) (S : vSH) (Y : vMS) {A : Nat → Prop} (hA : ∀ q : Nat, s.heap.size ≤ q → A q) (hAl : ∀ q : Nat, A q → s.heap.size ≤ q) (C0 : lw_At p s m meth c b L xs) (hK : va_K (dC, dI) vwCl (tysA cI cZ cJ cL) s) (hZ : exZ sa A s s.heap) (hN : ∀ q ∈ ncW, va_Nc q.1 q.2 s) :
    ∀ (n : Nat), n ≤ 600 → ∀ (A9 : vLA) (x4 : Int32), wp_L_law L xs nl nn S Y n A9 x4 → ∀ (H : Heap) (locs : List Loc) (ls : Array Slot), va_P (dC, dI) vwCl (wLA cI cZ cJ cL nl nn ad ra am ao S Y A9) H → va_D A (wLA cI cZ cJ cL nl nn ad ra am ao S Y A9) → va_S A s.heap H locs → lv_has ls 7 [(0, .ref b), (1, .ref (ad 0)), (2, .ref (am 0)), (3, .ref ao), (4, .int x4)] → W p l e room_1 s m #[Value.ref b] below meth c H locs (601024 - 4 * n) (7293000 - 24 * n) (lw_Z below #[Value.ref b] s) (F0 m 43 ls []) := by
  obtain ⟨hx, hb, hr, hml, hown, hts, hX, hbl, hlocks, hgv⟩ := C0
  have hT : ∀ w ∈ WALL, w.before #[Value.ref b] s = true := fun w h => hts w (wall_tbl w h)
  have hown : s.vm.findClass RL = some m.cls := hown
  have hbA : ¬ A b := fun h => absurd (hAl b h) (Nat.not_le.mpr hbl)
  intro n
  induction n with
  | zero => intro _ _ _ hw; exact hw.elim
  | succ n ih =>
    intro hn A9 x4 hw H locs ls hP hD hS hl
    unfold wp_L_law at hw
    refine lv_iload hx hb dL_law_43 (lv_at hl 4 rfl) ?_
    refine lv_aload_n hx hb dL_law_45 rfl (lv_at hl 0 rfl) ?_
    refine va_slen hx hb hX hbl hbA hS dL_law_46 ?_
    refine lv_bipush (v := 6) hx hb dL_law_47 (by decide) ?_
    refine lv_isub hx hb dL_law_49 ?_
    refine lv_icmp_gt (tgt := 1234) hx hb dL_law_50 (by decide) (fun c_1 => ?_) (fun c_1 => ?_)
    · have hw := hw.1 c_1
      refine lv_iconst (v := 1) hx hb dL_law_1234 (by decide) ?_
      refine va_forget (fun q hq => hAl _ (hS.2.2 q hq)) ?_
      refine W.widen (k := 601024) (n := 7293000) (by omega) (by omega) ?_
      exact lw_ret hx hb hr hlocks dL_law_1235
    · have hw := hw.2 c_1
      refine lv_aload_n hx hb dL_law_53 rfl (lv_at hl 0 rfl) ?_
      refine lv_iload hx hb dL_law_54 (lv_at hl 4 rfl) ?_
      obtain ⟨h_2, hw⟩ := hw
      refine va_sld hx hb hX hbl hbA hS h_2 dL_law_56 ?_
      refine lv_bipush (v := 15) hx hb dL_law_57 (by decide) ?_
      refine lv_iand hx hb dL_law_59 ?_
      rcases Classical.em (((xs x4.toNatClampNeg) &&& 15) = 0) with c_3 | c_3
      · have hw := hw.1 c_3
        refine lv_tableIn (off := 80) (tgt := 140) hx hb dL_law_60 (by rw [c_3]; decide) (by rw [c_3]; decide) (by rw [c_3]; rfl) (by decide) ?_
        refine lv_aload_n hx hb dL_law_140 rfl (lv_at hl 1 rfl) ?_
        refine lv_aload_n hx hb dL_law_141 rfl (lv_at hl 0 rfl) ?_
        refine lv_iload hx hb dL_law_142 (lv_at hl 4 rfl) ?_
        refine lv_iconst (v := 1) hx hb dL_law_144 (by decide) ?_
        refine lv_iadd hx hb dL_law_145 ?_
        obtain ⟨h_19, hw⟩ := hw
        refine va_sld hx hb hX hbl hbA hS h_19 dL_law_146 ?_
        refine lv_aload_n hx hb dL_law_147 rfl (lv_at hl 0 rfl) ?_
        refine lv_iload hx hb dL_law_148 (lv_at hl 4 rfl) ?_
        refine lv_iconst (v := 2) hx hb dL_law_150 (by decide) ?_
        refine lv_iadd hx hb dL_law_151 ?_
        obtain ⟨h_20, hw⟩ := hw
        refine va_sld hx hb hX hbl hbA hS h_20 dL_law_152 ?_
        refine lv_aload_n hx hb dL_law_153 rfl (lv_at hl 0 rfl) ?_
        refine lv_iload hx hb dL_law_154 (lv_at hl 4 rfl) ?_
        refine lv_iconst (v := 3) hx hb dL_law_156 (by decide) ?_
        refine lv_iadd hx hb dL_law_157 ?_
        obtain ⟨h_21, hw⟩ := hw
        refine va_sld hx hb hX hbl hbA hS h_21 dL_law_158 ?_
        refine lv_aload_n hx hb dL_law_159 rfl (lv_at hl 3 rfl) ?_
        have hPc := hP.sub (ws' := wLW cI cZ cJ cL nl nn ad ra ao S (A9.1, A9.2.2)) [0, 1, 2, 3, 4, 5, 6, 7, 8, 9, 10, 11, 12, 13, 14, 15, 16, 17, 18, 19, 34] rfl
        have hDc := hD.sub (ws' := wLW cI cZ cJ cL nl nn ad ra ao S (A9.1, A9.2.2)) [0, 1, 2, 3, 4, 5, 6, 7, 8, 9, 10, 11, 12, 13, 14, 15, 16, 17, 18, 19, 34] (by decide) rfl
        have hFc := va_free (wc := wLW cI cZ cJ cL nl nn ad ra ao S (A9.1, A9.2.2)) hD hS hA [0, 1, 2, 3, 4, 5, 6, 7, 8, 9, 10, 11, 12, 13, 14, 15, 16, 17, 18, 19, 34] rfl
        refine va_calli (vx_runSW (As := [.ref (ad 0), .int (xs (x4 + 1).toNatClampNeg), .int (xs (x4 + 2).toNatClampNeg), .int (xs (x4 + 3).toNatClampNeg), .ref ao]) (rest := []) ⟨hx, hb, hml, hown, hT⟩ (met_L_value l hl9 dC dI cI cZ cJ cL sa ad ra ao H.size _ nl nn S (A9.1, A9.2.2) (xs (x4 + 1).toNatClampNeg) (xs (x4 + 2).toNatClampNeg) (xs (x4 + 3).toNatClampNeg) hw) (vx_cwSW 5 hT (gS k_338 k_340 k_341 k_339) rfl rfl rfl (by decide +kernel) ⟨(Nat.le_of_ble_eq_true rfl), (Nat.le_of_ble_eq_true rfl)⟩) ⟨bl_L, fun U hU hW => ⟨rfl, by rw [hU], by rw [hU]; exact hPc, va_K.moved hW.alike hK, hDc.weaken (fun _ _ _ _ => trivial), hZ.call hW hU hS hFc, fun q h => va_Nc.moved hW.alike (hN q h)⟩⟩ rfl rfl hl.1 rfl (lv_room (Nat.le_of_ble_eq_true rfl)) dL_law_160 ⟨by show _ ≤ 601024; omega, by show _ ≤ 7293000; omega⟩) hS (fun q _ h => hFc q h) hFc (fun r_22 V9_23 t H1 locs ht hvm hw hB hz1 hk1 hS => ?_)
        obtain ⟨hP1, -, hD1⟩ := hB
        try dsimp only at hw
        rw [ht] at hP1
        obtain ⟨hP, hD⟩ := va_join (wr := [(am 0, .inr (4, [.int A9.2.1.1, .int Y.1.1, .int Y.1.2.1, .int Y.1.2.2.1, .ref (am 1), .ref (am 2), .ref (am 3), .int Y.1.2.2.2, .ref (am 4), .ref (am 5), .ref (am 6), .ref (am 7), .int A9.2.1.2.2.2.2.1.2.1, .int A9.2.1.2.2.2.2.1.2.2, .ref (am 8), .int A9.2.1.2.2.2.2.2.1.2.1, .int A9.2.1.2.2.2.2.2.1.2.2, .ref (am 9), .ref (am 10), .ref (am 11), .int A9.2.1.2.2.2.2.2.2.1.2.2.2, .ref (am 12), .ref (am 13)])), (am 1, .inl (cI, 8, .inl Y.2.1)), (am 2, .inl (cI, 8, .inl Y.2.2.1)), (am 3, .inl (cI, 8, .inl Y.2.2.2)), (am 4, .inl (cI, 1400, .inl A9.2.1.2.1)), (am 5, .inl (cI, 2800, .inl A9.2.1.2.2.1)), (am 6, .inl (cZ, 2800, .inl A9.2.1.2.2.2.1)), (am 7, .inl (cZ, 40000, .inl A9.2.1.2.2.2.2.1.1)), (am 8, .inl (cZ, 40000, .inl A9.2.1.2.2.2.2.2.1.1)), (am 9, .inl (cI, 8, .inl A9.2.1.2.2.2.2.2.2.1.1)), (am 10, .inl (cI, 8, .inl A9.2.1.2.2.2.2.2.2.1.2.1)), (am 11, .inl (cZ, 8, .inl A9.2.1.2.2.2.2.2.2.1.2.2.1)), (am 12, .inl (cI, 1400, .inl A9.2.1.2.2.2.2.2.2.2.1)), (am 13, .inl (cZ, 1400, .inl A9.2.1.2.2.2.2.2.2.2.2))]) (w1 := wLW cI cZ cJ cL nl nn ad ra ao S V9_23) hP hD [0, 1, 2, 3, 4, 5, 6, 7, 8, 9, 10, 11, 12, 13, 14, 15, 16, 17, 18, 19, 34] [20, 21, 22, 23, 24, 25, 26, 27, 28, 29, 30, 31, 32, 33] rfl rfl (by decide) (by decide) hk1 hFc hP1 hD1
        generalize H1 = H at hP hS ⊢
        have hP := hP.sub (ws' := wLA cI cZ cJ cL nl nn ad ra am ao S Y (V9_23.1, A9.2.1, V9_23.2)) [14, 15, 16, 17, 18, 19, 20, 21, 22, 23, 24, 25, 26, 27, 28, 29, 30, 31, 32, 33, 0, 1, 2, 3, 4, 5, 6, 7, 8, 9, 10, 11, 12, 13, 34] rfl
        have hD := hD.sub (ws' := wLA cI cZ cJ cL nl nn ad ra am ao S Y (V9_23.1, A9.2.1, V9_23.2)) [14, 15, 16, 17, 18, 19, 20, 21, 22, 23, 24, 25, 26, 27, 28, 29, 30, 31, 32, 33, 0, 1, 2, 3, 4, 5, 6, 7, 8, 9, 10, 11, 12, 13, 34] (by decide) rfl
        refine lv_istore (lv' := [(5, .int r_22), (0, .ref b), (1, .ref (ad 0)), (2, .ref (am 0)), (3, .ref ao), (4, .int x4)]) hx hb dL_law_163 hl (by decide) rfl (fun ls hl => ?_)
        refine lv_aload_n hx hb dL_law_165 rfl (lv_at hl 3 rfl) ?_
        refine lv_aload_n hx hb dL_law_166 rfl (lv_at hl 1 rfl) ?_
        refine lv_iload hx hb dL_law_167 (lv_at hl 5 rfl) ?_
        refine lv_iconst (v := 1) hx hb dL_law_169 (by decide) ?_
        refine lv_iadd hx hb dL_law_170 ?_
        obtain ⟨h_24, hw⟩ := hw
        refine va_sld hx hb hX hbl hbA hS h_24 dL_law_171 ?_
        refine lv_aload_n hx hb dL_law_172 rfl (lv_at hl 1 rfl) ?_
        refine lv_iload hx hb dL_law_173 (lv_at hl 5 rfl) ?_
        refine lv_iconst (v := 2) hx hb dL_law_175 (by decide) ?_
        refine lv_iadd hx hb dL_law_176 ?_
        obtain ⟨h_25, hw⟩ := hw
        refine va_sld hx hb hX hbl hbA hS h_25 dL_law_177 ?_
        refine lv_aload_n hx hb dL_law_178 rfl (lv_at hl 1 rfl) ?_
        refine lv_iload hx hb dL_law_179 (lv_at hl 5 rfl) ?_
        refine lv_iconst (v := 3) hx hb dL_law_181 (by decide) ?_
        refine lv_iadd hx hb dL_law_182 ?_
        obtain ⟨h_26, hw⟩ := hw
        refine va_sld hx hb hX hbl hbA hS h_26 dL_law_183 ?_
        have hPc := hP.sub (ws' := wMM cI cZ am Y A9.2.1) [20, 21, 22, 23, 24, 25, 26, 27, 28, 29, 30, 31, 32, 33] rfl
        have hDc := hD.sub (ws' := wMM cI cZ am Y A9.2.1) [20, 21, 22, 23, 24, 25, 26, 27, 28, 29, 30, 31, 32, 33] (by decide) rfl
        have hFc := va_free (wc := wMM cI cZ am Y A9.2.1) hD hS hA [20, 21, 22, 23, 24, 25, 26, 27, 28, 29, 30, 31, 32, 33] rfl
        refine va_calli (va_runV (As := [.int (xs (x4 + 1).toNatClampNeg), .int (xs (x4 + 2).toNatClampNeg), .int (xs (x4 + 3).toNatClampNeg)]) (rest := []) ⟨hx, hb, hml, hown, hT⟩ (met_X4_value l dC dI cI cZ cJ cL am H.size _ Y A9.2.1 (xs (x4 + 1).toNatClampNeg) (xs (x4 + 2).toNatClampNeg) (xs (x4 + 3).toNatClampNeg) hw) (cwV 3 hT (gV k_342 k_344 k_345 k_287 k_343) rfl rfl rfl (by decide +kernel) ⟨(Nat.le_of_ble_eq_true rfl), (Nat.le_of_ble_eq_true rfl)⟩) ⟨bl_W, va_recv hK hPc (ci := 4) (q0 := 0) rfl rfl, fun U hU hW => ⟨rfl, by rw [hU], by rw [hU]; exact hPc, va_K.moved hW.alike hK, hDc.weaken (fun _ _ _ _ => trivial)⟩⟩ rfl rfl hl.1 rfl (lv_room (Nat.le_of_ble_eq_true rfl)) dL_law_184 ⟨by show _ ≤ 601024; omega, by show _ ≤ 7293000; omega⟩) hS (fun q _ h => hFc q h) hFc (fun r_27 G_28 t H1 locs ht hvm hw hB hz1 hk1 hS => ?_)
        obtain ⟨hP1, -, hD1⟩ := hB
        try dsimp only at hw
        rw [ht] at hP1
        obtain ⟨hP, hD⟩ := va_join (wr := [(ad 0, .inr (3, [.ref (ad 1), .ref (ad 9), .ref (ad 10), .ref (ad 13), .ref (ad 16), .ref (ad 18), .int V9_23.1.2.2.2.2.2])), (ad 1, .inr (1, [.int S.1.1, .int S.1.2.1, .int S.1.2.2.1, .int S.1.2.2.2.1, .int S.1.2.2.2.2, .ref (ad 2), .ref (ad 3), .ref (ad 4), .ref (ad 5)])), (ad 2, .inl (cI, 6, .inl S.2.1.1)), (ad 3, .inl (cI, 6, .inl S.2.1.2.1)), (ad 4, .inl (cI, 6, .inl S.2.1.2.2)), (ad 5, .inl (cJ, 3, .inr (.inr (.inr (.inr (fun i => if i < 3 then some (ra i) else none)))))), (ra 0, .inl (cI, nl, .inl (S.2.2 0))), (ra 1, .inl (cI, nl, .inl (S.2.2 1))), (ra 2, .inl (cI, nl, .inl (S.2.2 2))), (ad 9, .inl (cI, nn, .inl V9_23.1.1)), (ad 10, .inr (2, [.ref (ad 11), .ref (ad 12), .int V9_23.1.2.1.2.2])), (ad 11, .inl (cI, nn, .inl V9_23.1.2.1.1)), (ad 12, .inl (cZ, nn, .inl V9_23.1.2.1.2.1)), (ad 13, .inr (2, [.ref (ad 14), .ref (ad 15), .int V9_23.1.2.2.1.2.2])), (ad 14, .inl (cI, nn, .inl V9_23.1.2.2.1.1)), (ad 15, .inl (cZ, nn, .inl V9_23.1.2.2.1.2.1)), (ad 16, .inr (0, [.ref (ad 17), .int V9_23.1.2.2.2.1.2.1, .int V9_23.1.2.2.2.1.2.2])), (ad 17, .inl (cI, 1250, .inl V9_23.1.2.2.2.1.1)), (ad 18, .inr (0, [.ref (ad 19), .int V9_23.1.2.2.2.2.1.2.1, .int V9_23.1.2.2.2.2.1.2.2])), (ad 19, .inl (cI, 1250, .inl V9_23.1.2.2.2.2.1.1)), (ao, .inl (cL, 1, .inr (.inl V9_23.2)))]) (w1 := wMM cI cZ am Y G_28) hP hD [20, 21, 22, 23, 24, 25, 26, 27, 28, 29, 30, 31, 32, 33] [0, 1, 2, 3, 4, 5, 6, 7, 8, 9, 10, 11, 12, 13, 14, 15, 16, 17, 18, 19, 34] rfl rfl (by decide) (by decide) hk1 hFc hP1 hD1
        generalize H1 = H at hP hS ⊢
        have hP := hP.sub (ws' := wLA cI cZ cJ cL nl nn ad ra am ao S Y (V9_23.1, G_28, V9_23.2)) [0, 1, 2, 3, 4, 5, 6, 7, 8, 9, 10, 11, 12, 13, 14, 15, 16, 17, 18, 19, 21, 22, 23, 24, 25, 26, 27, 28, 29, 30, 31, 32, 33, 34, 20] rfl
        have hD := hD.sub (ws' := wLA cI cZ cJ cL nl nn ad ra am ao S Y (V9_23.1, G_28, V9_23.2)) [0, 1, 2, 3, 4, 5, 6, 7, 8, 9, 10, 11, 12, 13, 14, 15, 16, 17, 18, 19, 21, 22, 23, 24, 25, 26, 27, 28, 29, 30, 31, 32, 33, 34, 20] (by decide) rfl
        refine lv_istore (lv' := [(6, .int r_27), (5, .int r_22), (0, .ref b), (1, .ref (ad 0)), (2, .ref (am 0)), (3, .ref ao), (4, .int x4)]) hx hb dL_law_187 hl (by decide) rfl (fun ls hl => ?_)
        refine lv_aload_n hx hb dL_law_189 rfl (lv_at hl 4 rfl) ?_
        have hPc := hP.sub (ws' := wMM cI cZ am Y G_28) [20, 21, 22, 23, 24, 25, 26, 27, 28, 29, 30, 31, 32, 33] rfl
        refine vp_callSi (W.runV (As := []) (rest := []) ⟨hx, hb, hml, hown, hT⟩ (met_X4_thrown l dC dI cI cZ cJ cL am _ Y G_28  hw) (cwV 0 hT (gV k_346 k_348 k_349 k_287 k_347) rfl rfl rfl (by decide +kernel) ⟨(Nat.le_of_ble_eq_true rfl), (Nat.le_of_ble_eq_true rfl)⟩) ⟨bl_R, va_recv hK hPc (ci := 4) (q0 := 0) rfl rfl, fun U hU hW => ⟨rfl, by rw [hU]; exact hPc, va_K.moved hW.alike hK⟩⟩ rfl rfl hl.1 rfl (lv_room (Nat.le_of_ble_eq_true rfl)) dL_law_190 ⟨by show _ ≤ 601024; omega, by show _ ≤ 7293000; omega⟩) (fun r_29 hw => ?_)
        try dsimp only at hw
        refine lv_iload hx hb dL_law_193 (lv_at hl 1 rfl) ?_
        refine lv_icmp_eq (tgt := 200) hx hb dL_law_195 (by decide) (fun c_30 => ?_) (fun c_30 => ?_)
        · have hw := hw.1 c_30
          refine lv_iload hx hb dL_law_200 (lv_at hl 1 rfl) ?_
          refine lv_if_ne (tgt := 217) hx hb dL_law_202 (by decide) (fun c_31 => ?_) (fun c_31 => ?_)
          · have hw := hw.2 c_31
            refine lv_goto (tgt := 1228) hx hb dL_law_217 (by decide) ?_
            obtain ⟨x4_32, ex4_32⟩ : ∃ y : Int32, y = x4 + 6 := ⟨_, rfl⟩
            have hw := hw x4_32 ex4_32
            refine lv_iinc (v := x4_32) (lv' := [(4, .int x4_32), (6, .int r_27), (5, .int r_22), (0, .ref b), (1, .ref (ad 0)), (2, .ref (am 0)), (3, .ref ao)]) hx hb dL_law_1228 hl (k := 6) rfl (by rw [ex4_32]; rfl) (by decide) rfl (fun ls hl => ?_)
            refine lv_goto (tgt := 43) hx hb dL_law_1231 (by decide) ?_
            refine W.widen (k := 601024 - 4 * n) (n := 7293000 - 24 * n) (by omega) (by omega) ?_
            exact ih (by omega) (V9_23.1, G_28, V9_23.2) x4_32 hw _ _ _ hP hD hS (lv_sub hl [3, 4, 5, 6, 0] rfl)
          · have hw := hw.1 c_31
            refine lv_aload_n hx hb dL_law_205 rfl (lv_at hl 5 rfl) ?_
            refine lv_iconst (v := 0) hx hb dL_law_206 (by decide) ?_
            obtain ⟨h_33, hw⟩ := hw
            refine va_lald hx hb hK hP 34 3 rfl rfl h_33 dL_law_207 ?_
            refine lv_iload hx hb dL_law_208 (lv_at hl 0 rfl) ?_
            refine lv_i2l hx hb dL_law_210 rfl ?_
            refine W.lcmp hx hb dL_law_211 ?_
            refine lv_if_eq (tgt := 217) hx hb dL_law_212 (by decide) (fun c_34 => ?_) (fun c_34 => ?_)
            · have hw := hw.1 c_34
              refine lv_goto (tgt := 1228) hx hb dL_law_217 (by decide) ?_
              obtain ⟨x4_35, ex4_35⟩ : ∃ y : Int32, y = x4 + 6 := ⟨_, rfl⟩
              have hw := hw x4_35 ex4_35
              refine lv_iinc (v := x4_35) (lv' := [(4, .int x4_35), (6, .int r_27), (5, .int r_22), (0, .ref b), (1, .ref (ad 0)), (2, .ref (am 0)), (3, .ref ao)]) hx hb dL_law_1228 hl (k := 6) rfl (by rw [ex4_35]; rfl) (by decide) rfl (fun ls hl => ?_)
              refine lv_goto (tgt := 43) hx hb dL_law_1231 (by decide) ?_
              refine W.widen (k := 601024 - 4 * n) (n := 7293000 - 24 * n) (by omega) (by omega) ?_
              exact ih (by omega) (V9_23.1, G_28, V9_23.2) x4_35 hw _ _ _ hP hD hS (lv_sub hl [3, 4, 5, 6, 0] rfl)
            · have hw := hw.2 c_34
              refine lv_iconst (v := 0) hx hb dL_law_215 (by decide) ?_
              exact hw.elim
        · have hw := hw.2 c_30
          refine lv_iconst (v := 0) hx hb dL_law_198 (by decide) ?_
          exact hw.elim
      · have hw := hw.2
        rcases Classical.em (((xs x4.toNatClampNeg) &&& 15) = 1) with c_4 | c_4
        · have hw := hw.1 c_4
          refine lv_tableIn (off := 160) (tgt := 220) hx hb dL_law_60 (by rw [c_4]; decide) (by rw [c_4]; decide) (by rw [c_4]; rfl) (by decide) ?_
          refine lv_aload_n hx hb dL_law_220 rfl (lv_at hl 1 rfl) ?_
          refine lv_aload_n hx hb dL_law_221 rfl (lv_at hl 0 rfl) ?_
          refine lv_iload hx hb dL_law_222 (lv_at hl 4 rfl) ?_
          refine lv_iconst (v := 1) hx hb dL_law_224 (by decide) ?_
          refine lv_iadd hx hb dL_law_225 ?_
          obtain ⟨h_36, hw⟩ := hw
          refine va_sld hx hb hX hbl hbA hS h_36 dL_law_226 ?_
          refine lv_aload_n hx hb dL_law_227 rfl (lv_at hl 0 rfl) ?_
          refine lv_iload hx hb dL_law_228 (lv_at hl 4 rfl) ?_
          refine lv_iconst (v := 2) hx hb dL_law_230 (by decide) ?_
          refine lv_iadd hx hb dL_law_231 ?_
          obtain ⟨h_37, hw⟩ := hw
          refine va_sld hx hb hX hbl hbA hS h_37 dL_law_232 ?_
          refine lv_aload_n hx hb dL_law_233 rfl (lv_at hl 0 rfl) ?_
          refine lv_iload hx hb dL_law_234 (lv_at hl 4 rfl) ?_
          refine lv_iconst (v := 3) hx hb dL_law_236 (by decide) ?_
          refine lv_iadd hx hb dL_law_237 ?_
          obtain ⟨h_38, hw⟩ := hw
          refine va_sld hx hb hX hbl hbA hS h_38 dL_law_238 ?_
          refine lv_aload_n hx hb dL_law_239 rfl (lv_at hl 0 rfl) ?_
          refine lv_iload hx hb dL_law_240 (lv_at hl 4 rfl) ?_
          refine lv_iconst (v := 4) hx hb dL_law_242 (by decide) ?_
          refine lv_iadd hx hb dL_law_243 ?_
          obtain ⟨h_39, hw⟩ := hw
          refine va_sld hx hb hX hbl hbA hS h_39 dL_law_244 ?_
          refine lv_aload_n hx hb dL_law_245 rfl (lv_at hl 0 rfl) ?_
          refine lv_iload hx hb dL_law_246 (lv_at hl 4 rfl) ?_
          refine lv_iconst (v := 5) hx hb dL_law_248 (by decide) ?_
          refine lv_iadd hx hb dL_law_249 ?_
          obtain ⟨h_40, hw⟩ := hw
          refine va_sld hx hb hX hbl hbA hS h_40 dL_law_250 ?_
          refine lv_aload_n hx hb dL_law_251 rfl (lv_at hl 3 rfl) ?_
          have hPc := hP.sub (ws' := wLW cI cZ cJ cL nl nn ad ra ao S (A9.1, A9.2.2)) [0, 1, 2, 3, 4, 5, 6, 7, 8, 9, 10, 11, 12, 13, 14, 15, 16, 17, 18, 19, 34] rfl
          have hDc := hD.sub (ws' := wLW cI cZ cJ cL nl nn ad ra ao S (A9.1, A9.2.2)) [0, 1, 2, 3, 4, 5, 6, 7, 8, 9, 10, 11, 12, 13, 14, 15, 16, 17, 18, 19, 34] (by decide) rfl
          have hFc := va_free (wc := wLW cI cZ cJ cL nl nn ad ra ao S (A9.1, A9.2.2)) hD hS hA [0, 1, 2, 3, 4, 5, 6, 7, 8, 9, 10, 11, 12, 13, 14, 15, 16, 17, 18, 19, 34] rfl
          refine va_calli (vx_runSW (As := [.ref (ad 0), .int (xs (x4 + 1).toNatClampNeg), .int (xs (x4 + 2).toNatClampNeg), .int (xs (x4 + 3).toNatClampNeg), .int (xs (x4 + 4).toNatClampNeg), .int (xs (x4 + 5).toNatClampNeg), .ref ao]) (rest := []) ⟨hx, hb, hml, hown, hT⟩ (met_L_values l hl9 dC dI cI cZ cJ cL sa ad ra ao H.size _ nl nn S (A9.1, A9.2.2) (xs (x4 + 1).toNatClampNeg) (xs (x4 + 2).toNatClampNeg) (xs (x4 + 3).toNatClampNeg) (xs (x4 + 4).toNatClampNeg) (xs (x4 + 5).toNatClampNeg) hw) (vx_cwSW 7 hT (gS k_350 k_352 k_341 k_351) rfl rfl rfl (by decide +kernel) ⟨(Nat.le_of_ble_eq_true rfl), (Nat.le_of_ble_eq_true rfl)⟩) ⟨bl_L, fun U hU hW => ⟨rfl, by rw [hU], by rw [hU]; exact hPc, va_K.moved hW.alike hK, hDc.weaken (fun _ _ _ _ => trivial), hZ.call hW hU hS hFc, fun q h => va_Nc.moved hW.alike (hN q h)⟩⟩ rfl rfl hl.1 rfl (lv_room (Nat.le_of_ble_eq_true rfl)) dL_law_252 ⟨by show _ ≤ 601024; omega, by show _ ≤ 7293000; omega⟩) hS (fun q _ h => hFc q h) hFc (fun r_41 V9_42 t H1 locs ht hvm hw hB hz1 hk1 hS => ?_)
          obtain ⟨hP1, -, hD1⟩ := hB
          try dsimp only at hw
          rw [ht] at hP1
          obtain ⟨hP, hD⟩ := va_join (wr := [(am 0, .inr (4, [.int A9.2.1.1, .int Y.1.1, .int Y.1.2.1, .int Y.1.2.2.1, .ref (am 1), .ref (am 2), .ref (am 3), .int Y.1.2.2.2, .ref (am 4), .ref (am 5), .ref (am 6), .ref (am 7), .int A9.2.1.2.2.2.2.1.2.1, .int A9.2.1.2.2.2.2.1.2.2, .ref (am 8), .int A9.2.1.2.2.2.2.2.1.2.1, .int A9.2.1.2.2.2.2.2.1.2.2, .ref (am 9), .ref (am 10), .ref (am 11), .int A9.2.1.2.2.2.2.2.2.1.2.2.2, .ref (am 12), .ref (am 13)])), (am 1, .inl (cI, 8, .inl Y.2.1)), (am 2, .inl (cI, 8, .inl Y.2.2.1)), (am 3, .inl (cI, 8, .inl Y.2.2.2)), (am 4, .inl (cI, 1400, .inl A9.2.1.2.1)), (am 5, .inl (cI, 2800, .inl A9.2.1.2.2.1)), (am 6, .inl (cZ, 2800, .inl A9.2.1.2.2.2.1)), (am 7, .inl (cZ, 40000, .inl A9.2.1.2.2.2.2.1.1)), (am 8, .inl (cZ, 40000, .inl A9.2.1.2.2.2.2.2.1.1)), (am 9, .inl (cI, 8, .inl A9.2.1.2.2.2.2.2.2.1.1)), (am 10, .inl (cI, 8, .inl A9.2.1.2.2.2.2.2.2.1.2.1)), (am 11, .inl (cZ, 8, .inl A9.2.1.2.2.2.2.2.2.1.2.2.1)), (am 12, .inl (cI, 1400, .inl A9.2.1.2.2.2.2.2.2.2.1)), (am 13, .inl (cZ, 1400, .inl A9.2.1.2.2.2.2.2.2.2.2))]) (w1 := wLW cI cZ cJ cL nl nn ad ra ao S V9_42) hP hD [0, 1, 2, 3, 4, 5, 6, 7, 8, 9, 10, 11, 12, 13, 14, 15, 16, 17, 18, 19, 34] [20, 21, 22, 23, 24, 25, 26, 27, 28, 29, 30, 31, 32, 33] rfl rfl (by decide) (by decide) hk1 hFc hP1 hD1
          generalize H1 = H at hP hS ⊢
          have hP := hP.sub (ws' := wLA cI cZ cJ cL nl nn ad ra am ao S Y (V9_42.1, A9.2.1, V9_42.2)) [14, 15, 16, 17, 18, 19, 20, 21, 22, 23, 24, 25, 26, 27, 28, 29, 30, 31, 32, 33, 0, 1, 2, 3, 4, 5, 6, 7, 8, 9, 10, 11, 12, 13, 34] rfl
          have hD := hD.sub (ws' := wLA cI cZ cJ cL nl nn ad ra am ao S Y (V9_42.1, A9.2.1, V9_42.2)) [14, 15, 16, 17, 18, 19, 20, 21, 22, 23, 24, 25, 26, 27, 28, 29, 30, 31, 32, 33, 0, 1, 2, 3, 4, 5, 6, 7, 8, 9, 10, 11, 12, 13, 34] (by decide) rfl
          refine lv_istore (lv' := [(5, .int r_41), (0, .ref b), (1, .ref (ad 0)), (2, .ref (am 0)), (3, .ref ao), (4, .int x4)]) hx hb dL_law_255 hl (by decide) rfl (fun ls hl => ?_)
          refine lv_aload_n hx hb dL_law_257 rfl (lv_at hl 3 rfl) ?_
          refine lv_aload_n hx hb dL_law_258 rfl (lv_at hl 1 rfl) ?_
          refine lv_iload hx hb dL_law_259 (lv_at hl 5 rfl) ?_
          refine lv_iconst (v := 1) hx hb dL_law_261 (by decide) ?_
          refine lv_iadd hx hb dL_law_262 ?_
          obtain ⟨h_43, hw⟩ := hw
          refine va_sld hx hb hX hbl hbA hS h_43 dL_law_263 ?_
          refine lv_aload_n hx hb dL_law_264 rfl (lv_at hl 1 rfl) ?_
          refine lv_iload hx hb dL_law_265 (lv_at hl 5 rfl) ?_
          refine lv_iconst (v := 2) hx hb dL_law_267 (by decide) ?_
          refine lv_iadd hx hb dL_law_268 ?_
          obtain ⟨h_44, hw⟩ := hw
          refine va_sld hx hb hX hbl hbA hS h_44 dL_law_269 ?_
          refine lv_aload_n hx hb dL_law_270 rfl (lv_at hl 1 rfl) ?_
          refine lv_iload hx hb dL_law_271 (lv_at hl 5 rfl) ?_
          refine lv_iconst (v := 3) hx hb dL_law_273 (by decide) ?_
          refine lv_iadd hx hb dL_law_274 ?_
          obtain ⟨h_45, hw⟩ := hw
          refine va_sld hx hb hX hbl hbA hS h_45 dL_law_275 ?_
          refine lv_aload_n hx hb dL_law_276 rfl (lv_at hl 1 rfl) ?_
          refine lv_iload hx hb dL_law_277 (lv_at hl 5 rfl) ?_
          refine lv_iconst (v := 4) hx hb dL_law_279 (by decide) ?_
          refine lv_iadd hx hb dL_law_280 ?_
          obtain ⟨h_46, hw⟩ := hw
          refine va_sld hx hb hX hbl hbA hS h_46 dL_law_281 ?_
          refine lv_aload_n hx hb dL_law_282 rfl (lv_at hl 1 rfl) ?_
          refine lv_iload hx hb dL_law_283 (lv_at hl 5 rfl) ?_
          refine lv_iconst (v := 5) hx hb dL_law_285 (by decide) ?_
          refine lv_iadd hx hb dL_law_286 ?_
          obtain ⟨h_47, hw⟩ := hw
          refine va_sld hx hb hX hbl hbA hS h_47 dL_law_287 ?_
          have hPc := hP.sub (ws' := wMM cI cZ am Y A9.2.1) [20, 21, 22, 23, 24, 25, 26, 27, 28, 29, 30, 31, 32, 33] rfl
          have hDc := hD.sub (ws' := wMM cI cZ am Y A9.2.1) [20, 21, 22, 23, 24, 25, 26, 27, 28, 29, 30, 31, 32, 33] (by decide) rfl
          have hFc := va_free (wc := wMM cI cZ am Y A9.2.1) hD hS hA [20, 21, 22, 23, 24, 25, 26, 27, 28, 29, 30, 31, 32, 33] rfl
          refine va_calli (va_runV (As := [.int (xs (x4 + 1).toNatClampNeg), .int (xs (x4 + 2).toNatClampNeg), .int (xs (x4 + 3).toNatClampNeg), .int (xs (x4 + 4).toNatClampNeg), .int (xs (x4 + 5).toNatClampNeg)]) (rest := []) ⟨hx, hb, hml, hown, hT⟩ (met_X4_values l dC dI cI cZ cJ cL am H.size _ Y A9.2.1 (xs (x4 + 1).toNatClampNeg) (xs (x4 + 2).toNatClampNeg) (xs (x4 + 3).toNatClampNeg) (xs (x4 + 4).toNatClampNeg) (xs (x4 + 5).toNatClampNeg) hw) (cwV 5 hT (gV k_353 k_355 k_356 k_287 k_354) rfl rfl rfl (by decide +kernel) ⟨(Nat.le_of_ble_eq_true rfl), (Nat.le_of_ble_eq_true rfl)⟩) ⟨bl_W, va_recv hK hPc (ci := 4) (q0 := 0) rfl rfl, fun U hU hW => ⟨rfl, by rw [hU], by rw [hU]; exact hPc, va_K.moved hW.alike hK, hDc.weaken (fun _ _ _ _ => trivial)⟩⟩ rfl rfl hl.1 rfl (lv_room (Nat.le_of_ble_eq_true rfl)) dL_law_288 ⟨by show _ ≤ 601024; omega, by show _ ≤ 7293000; omega⟩) hS (fun q _ h => hFc q h) hFc (fun r_48 G_49 t H1 locs ht hvm hw hB hz1 hk1 hS => ?_)
          obtain ⟨hP1, -, hD1⟩ := hB
          try dsimp only at hw
          rw [ht] at hP1
          obtain ⟨hP, hD⟩ := va_join (wr := [(ad 0, .inr (3, [.ref (ad 1), .ref (ad 9), .ref (ad 10), .ref (ad 13), .ref (ad 16), .ref (ad 18), .int V9_42.1.2.2.2.2.2])), (ad 1, .inr (1, [.int S.1.1, .int S.1.2.1, .int S.1.2.2.1, .int S.1.2.2.2.1, .int S.1.2.2.2.2, .ref (ad 2), .ref (ad 3), .ref (ad 4), .ref (ad 5)])), (ad 2, .inl (cI, 6, .inl S.2.1.1)), (ad 3, .inl (cI, 6, .inl S.2.1.2.1)), (ad 4, .inl (cI, 6, .inl S.2.1.2.2)), (ad 5, .inl (cJ, 3, .inr (.inr (.inr (.inr (fun i => if i < 3 then some (ra i) else none)))))), (ra 0, .inl (cI, nl, .inl (S.2.2 0))), (ra 1, .inl (cI, nl, .inl (S.2.2 1))), (ra 2, .inl (cI, nl, .inl (S.2.2 2))), (ad 9, .inl (cI, nn, .inl V9_42.1.1)), (ad 10, .inr (2, [.ref (ad 11), .ref (ad 12), .int V9_42.1.2.1.2.2])), (ad 11, .inl (cI, nn, .inl V9_42.1.2.1.1)), (ad 12, .inl (cZ, nn, .inl V9_42.1.2.1.2.1)), (ad 13, .inr (2, [.ref (ad 14), .ref (ad 15), .int V9_42.1.2.2.1.2.2])), (ad 14, .inl (cI, nn, .inl V9_42.1.2.2.1.1)), (ad 15, .inl (cZ, nn, .inl V9_42.1.2.2.1.2.1)), (ad 16, .inr (0, [.ref (ad 17), .int V9_42.1.2.2.2.1.2.1, .int V9_42.1.2.2.2.1.2.2])), (ad 17, .inl (cI, 1250, .inl V9_42.1.2.2.2.1.1)), (ad 18, .inr (0, [.ref (ad 19), .int V9_42.1.2.2.2.2.1.2.1, .int V9_42.1.2.2.2.2.1.2.2])), (ad 19, .inl (cI, 1250, .inl V9_42.1.2.2.2.2.1.1)), (ao, .inl (cL, 1, .inr (.inl V9_42.2)))]) (w1 := wMM cI cZ am Y G_49) hP hD [20, 21, 22, 23, 24, 25, 26, 27, 28, 29, 30, 31, 32, 33] [0, 1, 2, 3, 4, 5, 6, 7, 8, 9, 10, 11, 12, 13, 14, 15, 16, 17, 18, 19, 34] rfl rfl (by decide) (by decide) hk1 hFc hP1 hD1
          generalize H1 = H at hP hS ⊢
          have hP := hP.sub (ws' := wLA cI cZ cJ cL nl nn ad ra am ao S Y (V9_42.1, G_49, V9_42.2)) [0, 1, 2, 3, 4, 5, 6, 7, 8, 9, 10, 11, 12, 13, 14, 15, 16, 17, 18, 19, 21, 22, 23, 24, 25, 26, 27, 28, 29, 30, 31, 32, 33, 34, 20] rfl
          have hD := hD.sub (ws' := wLA cI cZ cJ cL nl nn ad ra am ao S Y (V9_42.1, G_49, V9_42.2)) [0, 1, 2, 3, 4, 5, 6, 7, 8, 9, 10, 11, 12, 13, 14, 15, 16, 17, 18, 19, 21, 22, 23, 24, 25, 26, 27, 28, 29, 30, 31, 32, 33, 34, 20] (by decide) rfl
          refine lv_istore (lv' := [(6, .int r_48), (5, .int r_41), (0, .ref b), (1, .ref (ad 0)), (2, .ref (am 0)), (3, .ref ao), (4, .int x4)]) hx hb dL_law_291 hl (by decide) rfl (fun ls hl => ?_)
          refine lv_aload_n hx hb dL_law_293 rfl (lv_at hl 4 rfl) ?_
          have hPc := hP.sub (ws' := wMM cI cZ am Y G_49) [20, 21, 22, 23, 24, 25, 26, 27, 28, 29, 30, 31, 32, 33] rfl
          refine vp_callSi (W.runV (As := []) (rest := []) ⟨hx, hb, hml, hown, hT⟩ (met_X4_thrown l dC dI cI cZ cJ cL am _ Y G_49  hw) (cwV 0 hT (gV k_346 k_348 k_349 k_287 k_347) rfl rfl rfl (by decide +kernel) ⟨(Nat.le_of_ble_eq_true rfl), (Nat.le_of_ble_eq_true rfl)⟩) ⟨bl_R, va_recv hK hPc (ci := 4) (q0 := 0) rfl rfl, fun U hU hW => ⟨rfl, by rw [hU]; exact hPc, va_K.moved hW.alike hK⟩⟩ rfl rfl hl.1 rfl (lv_room (Nat.le_of_ble_eq_true rfl)) dL_law_294 ⟨by show _ ≤ 601024; omega, by show _ ≤ 7293000; omega⟩) (fun r_50 hw => ?_)
          try dsimp only at hw
          refine lv_iload hx hb dL_law_297 (lv_at hl 1 rfl) ?_
          refine lv_icmp_eq (tgt := 304) hx hb dL_law_299 (by decide) (fun c_51 => ?_) (fun c_51 => ?_)
          · have hw := hw.1 c_51
            refine lv_iload hx hb dL_law_304 (lv_at hl 1 rfl) ?_
            refine lv_if_ne (tgt := 321) hx hb dL_law_306 (by decide) (fun c_52 => ?_) (fun c_52 => ?_)
            · have hw := hw.2 c_52
              refine lv_goto (tgt := 1228) hx hb dL_law_321 (by decide) ?_
              obtain ⟨x4_53, ex4_53⟩ : ∃ y : Int32, y = x4 + 6 := ⟨_, rfl⟩
              have hw := hw x4_53 ex4_53
              refine lv_iinc (v := x4_53) (lv' := [(4, .int x4_53), (6, .int r_48), (5, .int r_41), (0, .ref b), (1, .ref (ad 0)), (2, .ref (am 0)), (3, .ref ao)]) hx hb dL_law_1228 hl (k := 6) rfl (by rw [ex4_53]; rfl) (by decide) rfl (fun ls hl => ?_)
              refine lv_goto (tgt := 43) hx hb dL_law_1231 (by decide) ?_
              refine W.widen (k := 601024 - 4 * n) (n := 7293000 - 24 * n) (by omega) (by omega) ?_
              exact ih (by omega) (V9_42.1, G_49, V9_42.2) x4_53 hw _ _ _ hP hD hS (lv_sub hl [3, 4, 5, 6, 0] rfl)
            · have hw := hw.1 c_52
              refine lv_aload_n hx hb dL_law_309 rfl (lv_at hl 5 rfl) ?_
              refine lv_iconst (v := 0) hx hb dL_law_310 (by decide) ?_
              obtain ⟨h_54, hw⟩ := hw
              refine va_lald hx hb hK hP 34 3 rfl rfl h_54 dL_law_311 ?_
              refine lv_iload hx hb dL_law_312 (lv_at hl 0 rfl) ?_
              refine lv_i2l hx hb dL_law_314 rfl ?_
              refine W.lcmp hx hb dL_law_315 ?_
              refine lv_if_eq (tgt := 321) hx hb dL_law_316 (by decide) (fun c_55 => ?_) (fun c_55 => ?_)
              · have hw := hw.1 c_55
                refine lv_goto (tgt := 1228) hx hb dL_law_321 (by decide) ?_
                obtain ⟨x4_56, ex4_56⟩ : ∃ y : Int32, y = x4 + 6 := ⟨_, rfl⟩
                have hw := hw x4_56 ex4_56
                refine lv_iinc (v := x4_56) (lv' := [(4, .int x4_56), (6, .int r_48), (5, .int r_41), (0, .ref b), (1, .ref (ad 0)), (2, .ref (am 0)), (3, .ref ao)]) hx hb dL_law_1228 hl (k := 6) rfl (by rw [ex4_56]; rfl) (by decide) rfl (fun ls hl => ?_)
                refine lv_goto (tgt := 43) hx hb dL_law_1231 (by decide) ?_
                refine W.widen (k := 601024 - 4 * n) (n := 7293000 - 24 * n) (by omega) (by omega) ?_
                exact ih (by omega) (V9_42.1, G_49, V9_42.2) x4_56 hw _ _ _ hP hD hS (lv_sub hl [3, 4, 5, 6, 0] rfl)
              · have hw := hw.2 c_55
                refine lv_iconst (v := 0) hx hb dL_law_319 (by decide) ?_
                exact hw.elim
          · have hw := hw.2 c_51
            refine lv_iconst (v := 0) hx hb dL_law_302 (by decide) ?_
            exact hw.elim
        · have hw := hw.2
          rcases Classical.em (((xs x4.toNatClampNeg) &&& 15) = 2) with c_5 | c_5
          · have hw := hw.1 c_5
            refine lv_tableIn (off := 264) (tgt := 324) hx hb dL_law_60 (by rw [c_5]; decide) (by rw [c_5]; decide) (by rw [c_5]; rfl) (by decide) ?_
            refine lv_aload_n hx hb dL_law_324 rfl (lv_at hl 1 rfl) ?_
            refine lv_aload_n hx hb dL_law_325 rfl (lv_at hl 0 rfl) ?_
            refine lv_iload hx hb dL_law_326 (lv_at hl 4 rfl) ?_
            refine lv_iconst (v := 1) hx hb dL_law_328 (by decide) ?_
            refine lv_iadd hx hb dL_law_329 ?_
            obtain ⟨h_57, hw⟩ := hw
            refine va_sld hx hb hX hbl hbA hS h_57 dL_law_330 ?_
            refine lv_aload_n hx hb dL_law_331 rfl (lv_at hl 0 rfl) ?_
            refine lv_iload hx hb dL_law_332 (lv_at hl 4 rfl) ?_
            refine lv_iconst (v := 2) hx hb dL_law_334 (by decide) ?_
            refine lv_iadd hx hb dL_law_335 ?_
            obtain ⟨h_58, hw⟩ := hw
            refine va_sld hx hb hX hbl hbA hS h_58 dL_law_336 ?_
            refine lv_aload_n hx hb dL_law_337 rfl (lv_at hl 0 rfl) ?_
            refine lv_iload hx hb dL_law_338 (lv_at hl 4 rfl) ?_
            refine lv_iconst (v := 3) hx hb dL_law_340 (by decide) ?_
            refine lv_iadd hx hb dL_law_341 ?_
            obtain ⟨h_59, hw⟩ := hw
            refine va_sld hx hb hX hbl hbA hS h_59 dL_law_342 ?_
            refine lv_aload_n hx hb dL_law_343 rfl (lv_at hl 3 rfl) ?_
            have hPc := hP.sub (ws' := wLW cI cZ cJ cL nl nn ad ra ao S (A9.1, A9.2.2)) [0, 1, 2, 3, 4, 5, 6, 7, 8, 9, 10, 11, 12, 13, 14, 15, 16, 17, 18, 19, 34] rfl
            have hDc := hD.sub (ws' := wLW cI cZ cJ cL nl nn ad ra ao S (A9.1, A9.2.2)) [0, 1, 2, 3, 4, 5, 6, 7, 8, 9, 10, 11, 12, 13, 14, 15, 16, 17, 18, 19, 34] (by decide) rfl
            have hFc := va_free (wc := wLW cI cZ cJ cL nl nn ad ra ao S (A9.1, A9.2.2)) hD hS hA [0, 1, 2, 3, 4, 5, 6, 7, 8, 9, 10, 11, 12, 13, 14, 15, 16, 17, 18, 19, 34] rfl
            refine va_calli (vx_runSW (As := [.ref (ad 0), .int (xs (x4 + 1).toNatClampNeg), .int (xs (x4 + 2).toNatClampNeg), .int (xs (x4 + 3).toNatClampNeg), .ref ao]) (rest := []) ⟨hx, hb, hml, hown, hT⟩ (met_L_encode l hl9 dC dI cI cZ cJ cL sa ad ra ao H.size _ nl nn S (A9.1, A9.2.2) (xs (x4 + 1).toNatClampNeg) (xs (x4 + 2).toNatClampNeg) (xs (x4 + 3).toNatClampNeg) hw) (vx_cwSW 5 hT (gS k_357 k_359 k_341 k_358) rfl rfl rfl (by decide +kernel) ⟨(Nat.le_of_ble_eq_true rfl), (Nat.le_of_ble_eq_true rfl)⟩) ⟨bl_L, fun U hU hW => ⟨rfl, by rw [hU], by rw [hU]; exact hPc, va_K.moved hW.alike hK, hDc.weaken (fun _ _ _ _ => trivial), hZ.call hW hU hS hFc, fun q h => va_Nc.moved hW.alike (hN q h)⟩⟩ rfl rfl hl.1 rfl (lv_room (Nat.le_of_ble_eq_true rfl)) dL_law_344 ⟨by show _ ≤ 601024; omega, by show _ ≤ 7293000; omega⟩) hS (fun q _ h => hFc q h) hFc (fun r_60 V9_61 t H1 locs ht hvm hw hB hz1 hk1 hS => ?_)
            obtain ⟨hP1, -, hD1⟩ := hB
            try dsimp only at hw
            rw [ht] at hP1
            obtain ⟨hP, hD⟩ := va_join (wr := [(am 0, .inr (4, [.int A9.2.1.1, .int Y.1.1, .int Y.1.2.1, .int Y.1.2.2.1, .ref (am 1), .ref (am 2), .ref (am 3), .int Y.1.2.2.2, .ref (am 4), .ref (am 5), .ref (am 6), .ref (am 7), .int A9.2.1.2.2.2.2.1.2.1, .int A9.2.1.2.2.2.2.1.2.2, .ref (am 8), .int A9.2.1.2.2.2.2.2.1.2.1, .int A9.2.1.2.2.2.2.2.1.2.2, .ref (am 9), .ref (am 10), .ref (am 11), .int A9.2.1.2.2.2.2.2.2.1.2.2.2, .ref (am 12), .ref (am 13)])), (am 1, .inl (cI, 8, .inl Y.2.1)), (am 2, .inl (cI, 8, .inl Y.2.2.1)), (am 3, .inl (cI, 8, .inl Y.2.2.2)), (am 4, .inl (cI, 1400, .inl A9.2.1.2.1)), (am 5, .inl (cI, 2800, .inl A9.2.1.2.2.1)), (am 6, .inl (cZ, 2800, .inl A9.2.1.2.2.2.1)), (am 7, .inl (cZ, 40000, .inl A9.2.1.2.2.2.2.1.1)), (am 8, .inl (cZ, 40000, .inl A9.2.1.2.2.2.2.2.1.1)), (am 9, .inl (cI, 8, .inl A9.2.1.2.2.2.2.2.2.1.1)), (am 10, .inl (cI, 8, .inl A9.2.1.2.2.2.2.2.2.1.2.1)), (am 11, .inl (cZ, 8, .inl A9.2.1.2.2.2.2.2.2.1.2.2.1)), (am 12, .inl (cI, 1400, .inl A9.2.1.2.2.2.2.2.2.2.1)), (am 13, .inl (cZ, 1400, .inl A9.2.1.2.2.2.2.2.2.2.2))]) (w1 := wLW cI cZ cJ cL nl nn ad ra ao S V9_61) hP hD [0, 1, 2, 3, 4, 5, 6, 7, 8, 9, 10, 11, 12, 13, 14, 15, 16, 17, 18, 19, 34] [20, 21, 22, 23, 24, 25, 26, 27, 28, 29, 30, 31, 32, 33] rfl rfl (by decide) (by decide) hk1 hFc hP1 hD1
            generalize H1 = H at hP hS ⊢
            have hP := hP.sub (ws' := wLA cI cZ cJ cL nl nn ad ra am ao S Y (V9_61.1, A9.2.1, V9_61.2)) [14, 15, 16, 17, 18, 19, 20, 21, 22, 23, 24, 25, 26, 27, 28, 29, 30, 31, 32, 33, 0, 1, 2, 3, 4, 5, 6, 7, 8, 9, 10, 11, 12, 13, 34] rfl
            have hD := hD.sub (ws' := wLA cI cZ cJ cL nl nn ad ra am ao S Y (V9_61.1, A9.2.1, V9_61.2)) [14, 15, 16, 17, 18, 19, 20, 21, 22, 23, 24, 25, 26, 27, 28, 29, 30, 31, 32, 33, 0, 1, 2, 3, 4, 5, 6, 7, 8, 9, 10, 11, 12, 13, 34] (by decide) rfl
            refine lv_istore (lv' := [(5, .int r_60), (0, .ref b), (1, .ref (ad 0)), (2, .ref (am 0)), (3, .ref ao), (4, .int x4)]) hx hb dL_law_347 hl (by decide) rfl (fun ls hl => ?_)
            refine lv_aload_n hx hb dL_law_349 rfl (lv_at hl 3 rfl) ?_
            refine lv_aload_n hx hb dL_law_350 rfl (lv_at hl 1 rfl) ?_
            refine lv_iload hx hb dL_law_351 (lv_at hl 5 rfl) ?_
            refine lv_iconst (v := 1) hx hb dL_law_353 (by decide) ?_
            refine lv_iadd hx hb dL_law_354 ?_
            obtain ⟨h_62, hw⟩ := hw
            refine va_sld hx hb hX hbl hbA hS h_62 dL_law_355 ?_
            refine lv_aload_n hx hb dL_law_356 rfl (lv_at hl 1 rfl) ?_
            refine lv_iload hx hb dL_law_357 (lv_at hl 5 rfl) ?_
            refine lv_iconst (v := 2) hx hb dL_law_359 (by decide) ?_
            refine lv_iadd hx hb dL_law_360 ?_
            obtain ⟨h_63, hw⟩ := hw
            refine va_sld hx hb hX hbl hbA hS h_63 dL_law_361 ?_
            refine lv_aload_n hx hb dL_law_362 rfl (lv_at hl 1 rfl) ?_
            refine lv_iload hx hb dL_law_363 (lv_at hl 5 rfl) ?_
            refine lv_iconst (v := 3) hx hb dL_law_365 (by decide) ?_
            refine lv_iadd hx hb dL_law_366 ?_
            obtain ⟨h_64, hw⟩ := hw
            refine va_sld hx hb hX hbl hbA hS h_64 dL_law_367 ?_
            have hPc := hP.sub (ws' := wMM cI cZ am Y A9.2.1) [20, 21, 22, 23, 24, 25, 26, 27, 28, 29, 30, 31, 32, 33] rfl
            have hDc := hD.sub (ws' := wMM cI cZ am Y A9.2.1) [20, 21, 22, 23, 24, 25, 26, 27, 28, 29, 30, 31, 32, 33] (by decide) rfl
            have hFc := va_free (wc := wMM cI cZ am Y A9.2.1) hD hS hA [20, 21, 22, 23, 24, 25, 26, 27, 28, 29, 30, 31, 32, 33] rfl
            refine va_calli (va_runV (As := [.int (xs (x4 + 1).toNatClampNeg), .int (xs (x4 + 2).toNatClampNeg), .int (xs (x4 + 3).toNatClampNeg)]) (rest := []) ⟨hx, hb, hml, hown, hT⟩ (met_X4_encode l dC dI cI cZ cJ cL am H.size _ Y A9.2.1 (xs (x4 + 1).toNatClampNeg) (xs (x4 + 2).toNatClampNeg) (xs (x4 + 3).toNatClampNeg) hw) (cwV 3 hT (gV k_360 k_362 k_363 k_287 k_361) rfl rfl rfl (by decide +kernel) ⟨(Nat.le_of_ble_eq_true rfl), (Nat.le_of_ble_eq_true rfl)⟩) ⟨bl_W, va_recv hK hPc (ci := 4) (q0 := 0) rfl rfl, fun U hU hW => ⟨rfl, by rw [hU], by rw [hU]; exact hPc, va_K.moved hW.alike hK, hDc.weaken (fun _ _ _ _ => trivial)⟩⟩ rfl rfl hl.1 rfl (lv_room (Nat.le_of_ble_eq_true rfl)) dL_law_368 ⟨by show _ ≤ 601024; omega, by show _ ≤ 7293000; omega⟩) hS (fun q _ h => hFc q h) hFc (fun r_65 G_66 t H1 locs ht hvm hw hB hz1 hk1 hS => ?_)
            obtain ⟨hP1, -, hD1⟩ := hB
            try dsimp only at hw
            rw [ht] at hP1
            obtain ⟨hP, hD⟩ := va_join (wr := [(ad 0, .inr (3, [.ref (ad 1), .ref (ad 9), .ref (ad 10), .ref (ad 13), .ref (ad 16), .ref (ad 18), .int V9_61.1.2.2.2.2.2])), (ad 1, .inr (1, [.int S.1.1, .int S.1.2.1, .int S.1.2.2.1, .int S.1.2.2.2.1, .int S.1.2.2.2.2, .ref (ad 2), .ref (ad 3), .ref (ad 4), .ref (ad 5)])), (ad 2, .inl (cI, 6, .inl S.2.1.1)), (ad 3, .inl (cI, 6, .inl S.2.1.2.1)), (ad 4, .inl (cI, 6, .inl S.2.1.2.2)), (ad 5, .inl (cJ, 3, .inr (.inr (.inr (.inr (fun i => if i < 3 then some (ra i) else none)))))), (ra 0, .inl (cI, nl, .inl (S.2.2 0))), (ra 1, .inl (cI, nl, .inl (S.2.2 1))), (ra 2, .inl (cI, nl, .inl (S.2.2 2))), (ad 9, .inl (cI, nn, .inl V9_61.1.1)), (ad 10, .inr (2, [.ref (ad 11), .ref (ad 12), .int V9_61.1.2.1.2.2])), (ad 11, .inl (cI, nn, .inl V9_61.1.2.1.1)), (ad 12, .inl (cZ, nn, .inl V9_61.1.2.1.2.1)), (ad 13, .inr (2, [.ref (ad 14), .ref (ad 15), .int V9_61.1.2.2.1.2.2])), (ad 14, .inl (cI, nn, .inl V9_61.1.2.2.1.1)), (ad 15, .inl (cZ, nn, .inl V9_61.1.2.2.1.2.1)), (ad 16, .inr (0, [.ref (ad 17), .int V9_61.1.2.2.2.1.2.1, .int V9_61.1.2.2.2.1.2.2])), (ad 17, .inl (cI, 1250, .inl V9_61.1.2.2.2.1.1)), (ad 18, .inr (0, [.ref (ad 19), .int V9_61.1.2.2.2.2.1.2.1, .int V9_61.1.2.2.2.2.1.2.2])), (ad 19, .inl (cI, 1250, .inl V9_61.1.2.2.2.2.1.1)), (ao, .inl (cL, 1, .inr (.inl V9_61.2)))]) (w1 := wMM cI cZ am Y G_66) hP hD [20, 21, 22, 23, 24, 25, 26, 27, 28, 29, 30, 31, 32, 33] [0, 1, 2, 3, 4, 5, 6, 7, 8, 9, 10, 11, 12, 13, 14, 15, 16, 17, 18, 19, 34] rfl rfl (by decide) (by decide) hk1 hFc hP1 hD1
            generalize H1 = H at hP hS ⊢
            have hP := hP.sub (ws' := wLA cI cZ cJ cL nl nn ad ra am ao S Y (V9_61.1, G_66, V9_61.2)) [0, 1, 2, 3, 4, 5, 6, 7, 8, 9, 10, 11, 12, 13, 14, 15, 16, 17, 18, 19, 21, 22, 23, 24, 25, 26, 27, 28, 29, 30, 31, 32, 33, 34, 20] rfl
            have hD := hD.sub (ws' := wLA cI cZ cJ cL nl nn ad ra am ao S Y (V9_61.1, G_66, V9_61.2)) [0, 1, 2, 3, 4, 5, 6, 7, 8, 9, 10, 11, 12, 13, 14, 15, 16, 17, 18, 19, 21, 22, 23, 24, 25, 26, 27, 28, 29, 30, 31, 32, 33, 34, 20] (by decide) rfl
            refine lv_istore (lv' := [(6, .int r_65), (5, .int r_60), (0, .ref b), (1, .ref (ad 0)), (2, .ref (am 0)), (3, .ref ao), (4, .int x4)]) hx hb dL_law_371 hl (by decide) rfl (fun ls hl => ?_)
            refine lv_aload_n hx hb dL_law_373 rfl (lv_at hl 4 rfl) ?_
            have hPc := hP.sub (ws' := wMM cI cZ am Y G_66) [20, 21, 22, 23, 24, 25, 26, 27, 28, 29, 30, 31, 32, 33] rfl
            refine vp_callSi (W.runV (As := []) (rest := []) ⟨hx, hb, hml, hown, hT⟩ (met_X4_thrown l dC dI cI cZ cJ cL am _ Y G_66  hw) (cwV 0 hT (gV k_346 k_348 k_349 k_287 k_347) rfl rfl rfl (by decide +kernel) ⟨(Nat.le_of_ble_eq_true rfl), (Nat.le_of_ble_eq_true rfl)⟩) ⟨bl_R, va_recv hK hPc (ci := 4) (q0 := 0) rfl rfl, fun U hU hW => ⟨rfl, by rw [hU]; exact hPc, va_K.moved hW.alike hK⟩⟩ rfl rfl hl.1 rfl (lv_room (Nat.le_of_ble_eq_true rfl)) dL_law_374 ⟨by show _ ≤ 601024; omega, by show _ ≤ 7293000; omega⟩) (fun r_67 hw => ?_)
            try dsimp only at hw
            refine lv_iload hx hb dL_law_377 (lv_at hl 1 rfl) ?_
            refine lv_icmp_eq (tgt := 384) hx hb dL_law_379 (by decide) (fun c_68 => ?_) (fun c_68 => ?_)
            · have hw := hw.1 c_68
              refine lv_iload hx hb dL_law_384 (lv_at hl 1 rfl) ?_
              refine lv_if_ne (tgt := 401) hx hb dL_law_386 (by decide) (fun c_69 => ?_) (fun c_69 => ?_)
              · have hw := hw.2 c_69
                refine lv_goto (tgt := 1228) hx hb dL_law_401 (by decide) ?_
                obtain ⟨x4_70, ex4_70⟩ : ∃ y : Int32, y = x4 + 6 := ⟨_, rfl⟩
                have hw := hw x4_70 ex4_70
                refine lv_iinc (v := x4_70) (lv' := [(4, .int x4_70), (6, .int r_65), (5, .int r_60), (0, .ref b), (1, .ref (ad 0)), (2, .ref (am 0)), (3, .ref ao)]) hx hb dL_law_1228 hl (k := 6) rfl (by rw [ex4_70]; rfl) (by decide) rfl (fun ls hl => ?_)
                refine lv_goto (tgt := 43) hx hb dL_law_1231 (by decide) ?_
                refine W.widen (k := 601024 - 4 * n) (n := 7293000 - 24 * n) (by omega) (by omega) ?_
                exact ih (by omega) (V9_61.1, G_66, V9_61.2) x4_70 hw _ _ _ hP hD hS (lv_sub hl [3, 4, 5, 6, 0] rfl)
              · have hw := hw.1 c_69
                refine lv_aload_n hx hb dL_law_389 rfl (lv_at hl 5 rfl) ?_
                refine lv_iconst (v := 0) hx hb dL_law_390 (by decide) ?_
                obtain ⟨h_71, hw⟩ := hw
                refine va_lald hx hb hK hP 34 3 rfl rfl h_71 dL_law_391 ?_
                refine lv_iload hx hb dL_law_392 (lv_at hl 0 rfl) ?_
                refine lv_i2l hx hb dL_law_394 rfl ?_
                refine W.lcmp hx hb dL_law_395 ?_
                refine lv_if_eq (tgt := 401) hx hb dL_law_396 (by decide) (fun c_72 => ?_) (fun c_72 => ?_)
                · have hw := hw.1 c_72
                  refine lv_goto (tgt := 1228) hx hb dL_law_401 (by decide) ?_
                  obtain ⟨x4_73, ex4_73⟩ : ∃ y : Int32, y = x4 + 6 := ⟨_, rfl⟩
                  have hw := hw x4_73 ex4_73
                  refine lv_iinc (v := x4_73) (lv' := [(4, .int x4_73), (6, .int r_65), (5, .int r_60), (0, .ref b), (1, .ref (ad 0)), (2, .ref (am 0)), (3, .ref ao)]) hx hb dL_law_1228 hl (k := 6) rfl (by rw [ex4_73]; rfl) (by decide) rfl (fun ls hl => ?_)
                  refine lv_goto (tgt := 43) hx hb dL_law_1231 (by decide) ?_
                  refine W.widen (k := 601024 - 4 * n) (n := 7293000 - 24 * n) (by omega) (by omega) ?_
                  exact ih (by omega) (V9_61.1, G_66, V9_61.2) x4_73 hw _ _ _ hP hD hS (lv_sub hl [3, 4, 5, 6, 0] rfl)
                · have hw := hw.2 c_72
                  refine lv_iconst (v := 0) hx hb dL_law_399 (by decide) ?_
                  exact hw.elim
            · have hw := hw.2 c_68
              refine lv_iconst (v := 0) hx hb dL_law_382 (by decide) ?_
              exact hw.elim
          · have hw := hw.2
            rcases Classical.em (((xs x4.toNatClampNeg) &&& 15) = 3) with c_6 | c_6
            · have hw := hw.1 c_6
              refine lv_tableIn (off := 344) (tgt := 404) hx hb dL_law_60 (by rw [c_6]; decide) (by rw [c_6]; decide) (by rw [c_6]; rfl) (by decide) ?_
              refine lv_aload_n hx hb dL_law_404 rfl (lv_at hl 1 rfl) ?_
              refine lv_aload_n hx hb dL_law_405 rfl (lv_at hl 0 rfl) ?_
              refine lv_iload hx hb dL_law_406 (lv_at hl 4 rfl) ?_
              refine lv_iconst (v := 1) hx hb dL_law_408 (by decide) ?_
              refine lv_iadd hx hb dL_law_409 ?_
              obtain ⟨h_74, hw⟩ := hw
              refine va_sld hx hb hX hbl hbA hS h_74 dL_law_410 ?_
              refine lv_aload_n hx hb dL_law_411 rfl (lv_at hl 0 rfl) ?_
              refine lv_iload hx hb dL_law_412 (lv_at hl 4 rfl) ?_
              refine lv_iconst (v := 2) hx hb dL_law_414 (by decide) ?_
              refine lv_iadd hx hb dL_law_415 ?_
              obtain ⟨h_75, hw⟩ := hw
              refine va_sld hx hb hX hbl hbA hS h_75 dL_law_416 ?_
              refine lv_aload_n hx hb dL_law_417 rfl (lv_at hl 0 rfl) ?_
              refine lv_iload hx hb dL_law_418 (lv_at hl 4 rfl) ?_
              refine lv_iconst (v := 3) hx hb dL_law_420 (by decide) ?_
              refine lv_iadd hx hb dL_law_421 ?_
              obtain ⟨h_76, hw⟩ := hw
              refine va_sld hx hb hX hbl hbA hS h_76 dL_law_422 ?_
              refine lv_aload_n hx hb dL_law_423 rfl (lv_at hl 3 rfl) ?_
              have hPc := hP.sub (ws' := wLW cI cZ cJ cL nl nn ad ra ao S (A9.1, A9.2.2)) [0, 1, 2, 3, 4, 5, 6, 7, 8, 9, 10, 11, 12, 13, 14, 15, 16, 17, 18, 19, 34] rfl
              have hDc := hD.sub (ws' := wLW cI cZ cJ cL nl nn ad ra ao S (A9.1, A9.2.2)) [0, 1, 2, 3, 4, 5, 6, 7, 8, 9, 10, 11, 12, 13, 14, 15, 16, 17, 18, 19, 34] (by decide) rfl
              have hFc := va_free (wc := wLW cI cZ cJ cL nl nn ad ra ao S (A9.1, A9.2.2)) hD hS hA [0, 1, 2, 3, 4, 5, 6, 7, 8, 9, 10, 11, 12, 13, 14, 15, 16, 17, 18, 19, 34] rfl
              refine va_calli (vx_runSW (As := [.ref (ad 0), .int (xs (x4 + 1).toNatClampNeg), .int (xs (x4 + 2).toNatClampNeg), .int (xs (x4 + 3).toNatClampNeg), .ref ao]) (rest := []) ⟨hx, hb, hml, hown, hT⟩ (met_L_cost l hl9 dC dI cI cZ cJ cL sa ad ra ao H.size _ nl nn S (A9.1, A9.2.2) (xs (x4 + 1).toNatClampNeg) (xs (x4 + 2).toNatClampNeg) (xs (x4 + 3).toNatClampNeg) hw) (vx_cwSW 5 hT (gS k_364 k_366 k_341 k_365) rfl rfl rfl (by decide +kernel) ⟨(Nat.le_of_ble_eq_true rfl), (Nat.le_of_ble_eq_true rfl)⟩) ⟨bl_L, fun U hU hW => ⟨rfl, by rw [hU], by rw [hU]; exact hPc, va_K.moved hW.alike hK, hDc.weaken (fun _ _ _ _ => trivial), hZ.call hW hU hS hFc, fun q h => va_Nc.moved hW.alike (hN q h)⟩⟩ rfl rfl hl.1 rfl (lv_room (Nat.le_of_ble_eq_true rfl)) dL_law_424 ⟨by show _ ≤ 601024; omega, by show _ ≤ 7293000; omega⟩) hS (fun q _ h => hFc q h) hFc (fun r_77 V9_78 t H1 locs ht hvm hw hB hz1 hk1 hS => ?_)
              obtain ⟨hP1, -, hD1⟩ := hB
              try dsimp only at hw
              rw [ht] at hP1
              obtain ⟨hP, hD⟩ := va_join (wr := [(am 0, .inr (4, [.int A9.2.1.1, .int Y.1.1, .int Y.1.2.1, .int Y.1.2.2.1, .ref (am 1), .ref (am 2), .ref (am 3), .int Y.1.2.2.2, .ref (am 4), .ref (am 5), .ref (am 6), .ref (am 7), .int A9.2.1.2.2.2.2.1.2.1, .int A9.2.1.2.2.2.2.1.2.2, .ref (am 8), .int A9.2.1.2.2.2.2.2.1.2.1, .int A9.2.1.2.2.2.2.2.1.2.2, .ref (am 9), .ref (am 10), .ref (am 11), .int A9.2.1.2.2.2.2.2.2.1.2.2.2, .ref (am 12), .ref (am 13)])), (am 1, .inl (cI, 8, .inl Y.2.1)), (am 2, .inl (cI, 8, .inl Y.2.2.1)), (am 3, .inl (cI, 8, .inl Y.2.2.2)), (am 4, .inl (cI, 1400, .inl A9.2.1.2.1)), (am 5, .inl (cI, 2800, .inl A9.2.1.2.2.1)), (am 6, .inl (cZ, 2800, .inl A9.2.1.2.2.2.1)), (am 7, .inl (cZ, 40000, .inl A9.2.1.2.2.2.2.1.1)), (am 8, .inl (cZ, 40000, .inl A9.2.1.2.2.2.2.2.1.1)), (am 9, .inl (cI, 8, .inl A9.2.1.2.2.2.2.2.2.1.1)), (am 10, .inl (cI, 8, .inl A9.2.1.2.2.2.2.2.2.1.2.1)), (am 11, .inl (cZ, 8, .inl A9.2.1.2.2.2.2.2.2.1.2.2.1)), (am 12, .inl (cI, 1400, .inl A9.2.1.2.2.2.2.2.2.2.1)), (am 13, .inl (cZ, 1400, .inl A9.2.1.2.2.2.2.2.2.2.2))]) (w1 := wLW cI cZ cJ cL nl nn ad ra ao S V9_78) hP hD [0, 1, 2, 3, 4, 5, 6, 7, 8, 9, 10, 11, 12, 13, 14, 15, 16, 17, 18, 19, 34] [20, 21, 22, 23, 24, 25, 26, 27, 28, 29, 30, 31, 32, 33] rfl rfl (by decide) (by decide) hk1 hFc hP1 hD1
              generalize H1 = H at hP hS ⊢
              have hP := hP.sub (ws' := wLA cI cZ cJ cL nl nn ad ra am ao S Y (V9_78.1, A9.2.1, V9_78.2)) [14, 15, 16, 17, 18, 19, 20, 21, 22, 23, 24, 25, 26, 27, 28, 29, 30, 31, 32, 33, 0, 1, 2, 3, 4, 5, 6, 7, 8, 9, 10, 11, 12, 13, 34] rfl
              have hD := hD.sub (ws' := wLA cI cZ cJ cL nl nn ad ra am ao S Y (V9_78.1, A9.2.1, V9_78.2)) [14, 15, 16, 17, 18, 19, 20, 21, 22, 23, 24, 25, 26, 27, 28, 29, 30, 31, 32, 33, 0, 1, 2, 3, 4, 5, 6, 7, 8, 9, 10, 11, 12, 13, 34] (by decide) rfl
              refine lv_istore (lv' := [(5, .int r_77), (0, .ref b), (1, .ref (ad 0)), (2, .ref (am 0)), (3, .ref ao), (4, .int x4)]) hx hb dL_law_427 hl (by decide) rfl (fun ls hl => ?_)
              refine lv_aload_n hx hb dL_law_429 rfl (lv_at hl 3 rfl) ?_
              refine lv_aload_n hx hb dL_law_430 rfl (lv_at hl 1 rfl) ?_
              refine lv_iload hx hb dL_law_431 (lv_at hl 5 rfl) ?_
              refine lv_iconst (v := 1) hx hb dL_law_433 (by decide) ?_
              refine lv_iadd hx hb dL_law_434 ?_
              obtain ⟨h_79, hw⟩ := hw
              refine va_sld hx hb hX hbl hbA hS h_79 dL_law_435 ?_
              refine lv_aload_n hx hb dL_law_436 rfl (lv_at hl 1 rfl) ?_
              refine lv_iload hx hb dL_law_437 (lv_at hl 5 rfl) ?_
              refine lv_iconst (v := 2) hx hb dL_law_439 (by decide) ?_
              refine lv_iadd hx hb dL_law_440 ?_
              obtain ⟨h_80, hw⟩ := hw
              refine va_sld hx hb hX hbl hbA hS h_80 dL_law_441 ?_
              refine lv_aload_n hx hb dL_law_442 rfl (lv_at hl 1 rfl) ?_
              refine lv_iload hx hb dL_law_443 (lv_at hl 5 rfl) ?_
              refine lv_iconst (v := 3) hx hb dL_law_445 (by decide) ?_
              refine lv_iadd hx hb dL_law_446 ?_
              obtain ⟨h_81, hw⟩ := hw
              refine va_sld hx hb hX hbl hbA hS h_81 dL_law_447 ?_
              have hPc := hP.sub (ws' := wMM cI cZ am Y A9.2.1) [20, 21, 22, 23, 24, 25, 26, 27, 28, 29, 30, 31, 32, 33] rfl
              have hDc := hD.sub (ws' := wMM cI cZ am Y A9.2.1) [20, 21, 22, 23, 24, 25, 26, 27, 28, 29, 30, 31, 32, 33] (by decide) rfl
              have hFc := va_free (wc := wMM cI cZ am Y A9.2.1) hD hS hA [20, 21, 22, 23, 24, 25, 26, 27, 28, 29, 30, 31, 32, 33] rfl
              refine va_calli (va_runV (As := [.int (xs (x4 + 1).toNatClampNeg), .int (xs (x4 + 2).toNatClampNeg), .int (xs (x4 + 3).toNatClampNeg)]) (rest := []) ⟨hx, hb, hml, hown, hT⟩ (met_X4_cost l dC dI cI cZ cJ cL am H.size _ Y A9.2.1 (xs (x4 + 1).toNatClampNeg) (xs (x4 + 2).toNatClampNeg) (xs (x4 + 3).toNatClampNeg) hw) (cwV 3 hT (gV k_367 k_369 k_370 k_287 k_368) rfl rfl rfl (by decide +kernel) ⟨(Nat.le_of_ble_eq_true rfl), (Nat.le_of_ble_eq_true rfl)⟩) ⟨bl_W, va_recv hK hPc (ci := 4) (q0 := 0) rfl rfl, fun U hU hW => ⟨rfl, by rw [hU], by rw [hU]; exact hPc, va_K.moved hW.alike hK, hDc.weaken (fun _ _ _ _ => trivial)⟩⟩ rfl rfl hl.1 rfl (lv_room (Nat.le_of_ble_eq_true rfl)) dL_law_448 ⟨by show _ ≤ 601024; omega, by show _ ≤ 7293000; omega⟩) hS (fun q _ h => hFc q h) hFc (fun r_82 G_83 t H1 locs ht hvm hw hB hz1 hk1 hS => ?_)
              obtain ⟨hP1, -, hD1⟩ := hB
              try dsimp only at hw
              rw [ht] at hP1
              obtain ⟨hP, hD⟩ := va_join (wr := [(ad 0, .inr (3, [.ref (ad 1), .ref (ad 9), .ref (ad 10), .ref (ad 13), .ref (ad 16), .ref (ad 18), .int V9_78.1.2.2.2.2.2])), (ad 1, .inr (1, [.int S.1.1, .int S.1.2.1, .int S.1.2.2.1, .int S.1.2.2.2.1, .int S.1.2.2.2.2, .ref (ad 2), .ref (ad 3), .ref (ad 4), .ref (ad 5)])), (ad 2, .inl (cI, 6, .inl S.2.1.1)), (ad 3, .inl (cI, 6, .inl S.2.1.2.1)), (ad 4, .inl (cI, 6, .inl S.2.1.2.2)), (ad 5, .inl (cJ, 3, .inr (.inr (.inr (.inr (fun i => if i < 3 then some (ra i) else none)))))), (ra 0, .inl (cI, nl, .inl (S.2.2 0))), (ra 1, .inl (cI, nl, .inl (S.2.2 1))), (ra 2, .inl (cI, nl, .inl (S.2.2 2))), (ad 9, .inl (cI, nn, .inl V9_78.1.1)), (ad 10, .inr (2, [.ref (ad 11), .ref (ad 12), .int V9_78.1.2.1.2.2])), (ad 11, .inl (cI, nn, .inl V9_78.1.2.1.1)), (ad 12, .inl (cZ, nn, .inl V9_78.1.2.1.2.1)), (ad 13, .inr (2, [.ref (ad 14), .ref (ad 15), .int V9_78.1.2.2.1.2.2])), (ad 14, .inl (cI, nn, .inl V9_78.1.2.2.1.1)), (ad 15, .inl (cZ, nn, .inl V9_78.1.2.2.1.2.1)), (ad 16, .inr (0, [.ref (ad 17), .int V9_78.1.2.2.2.1.2.1, .int V9_78.1.2.2.2.1.2.2])), (ad 17, .inl (cI, 1250, .inl V9_78.1.2.2.2.1.1)), (ad 18, .inr (0, [.ref (ad 19), .int V9_78.1.2.2.2.2.1.2.1, .int V9_78.1.2.2.2.2.1.2.2])), (ad 19, .inl (cI, 1250, .inl V9_78.1.2.2.2.2.1.1)), (ao, .inl (cL, 1, .inr (.inl V9_78.2)))]) (w1 := wMM cI cZ am Y G_83) hP hD [20, 21, 22, 23, 24, 25, 26, 27, 28, 29, 30, 31, 32, 33] [0, 1, 2, 3, 4, 5, 6, 7, 8, 9, 10, 11, 12, 13, 14, 15, 16, 17, 18, 19, 34] rfl rfl (by decide) (by decide) hk1 hFc hP1 hD1
              generalize H1 = H at hP hS ⊢
              have hP := hP.sub (ws' := wLA cI cZ cJ cL nl nn ad ra am ao S Y (V9_78.1, G_83, V9_78.2)) [0, 1, 2, 3, 4, 5, 6, 7, 8, 9, 10, 11, 12, 13, 14, 15, 16, 17, 18, 19, 21, 22, 23, 24, 25, 26, 27, 28, 29, 30, 31, 32, 33, 34, 20] rfl
              have hD := hD.sub (ws' := wLA cI cZ cJ cL nl nn ad ra am ao S Y (V9_78.1, G_83, V9_78.2)) [0, 1, 2, 3, 4, 5, 6, 7, 8, 9, 10, 11, 12, 13, 14, 15, 16, 17, 18, 19, 21, 22, 23, 24, 25, 26, 27, 28, 29, 30, 31, 32, 33, 34, 20] (by decide) rfl
              refine lv_istore (lv' := [(6, .int r_82), (5, .int r_77), (0, .ref b), (1, .ref (ad 0)), (2, .ref (am 0)), (3, .ref ao), (4, .int x4)]) hx hb dL_law_451 hl (by decide) rfl (fun ls hl => ?_)
              refine lv_aload_n hx hb dL_law_453 rfl (lv_at hl 4 rfl) ?_
              have hPc := hP.sub (ws' := wMM cI cZ am Y G_83) [20, 21, 22, 23, 24, 25, 26, 27, 28, 29, 30, 31, 32, 33] rfl
              refine vp_callSi (W.runV (As := []) (rest := []) ⟨hx, hb, hml, hown, hT⟩ (met_X4_thrown l dC dI cI cZ cJ cL am _ Y G_83  hw) (cwV 0 hT (gV k_346 k_348 k_349 k_287 k_347) rfl rfl rfl (by decide +kernel) ⟨(Nat.le_of_ble_eq_true rfl), (Nat.le_of_ble_eq_true rfl)⟩) ⟨bl_R, va_recv hK hPc (ci := 4) (q0 := 0) rfl rfl, fun U hU hW => ⟨rfl, by rw [hU]; exact hPc, va_K.moved hW.alike hK⟩⟩ rfl rfl hl.1 rfl (lv_room (Nat.le_of_ble_eq_true rfl)) dL_law_454 ⟨by show _ ≤ 601024; omega, by show _ ≤ 7293000; omega⟩) (fun r_84 hw => ?_)
              try dsimp only at hw
              refine lv_iload hx hb dL_law_457 (lv_at hl 1 rfl) ?_
              refine lv_icmp_eq (tgt := 464) hx hb dL_law_459 (by decide) (fun c_85 => ?_) (fun c_85 => ?_)
              · have hw := hw.1 c_85
                refine lv_iload hx hb dL_law_464 (lv_at hl 1 rfl) ?_
                refine lv_if_ne (tgt := 481) hx hb dL_law_466 (by decide) (fun c_86 => ?_) (fun c_86 => ?_)
                · have hw := hw.2 c_86
                  refine lv_goto (tgt := 1228) hx hb dL_law_481 (by decide) ?_
                  obtain ⟨x4_87, ex4_87⟩ : ∃ y : Int32, y = x4 + 6 := ⟨_, rfl⟩
                  have hw := hw x4_87 ex4_87
                  refine lv_iinc (v := x4_87) (lv' := [(4, .int x4_87), (6, .int r_82), (5, .int r_77), (0, .ref b), (1, .ref (ad 0)), (2, .ref (am 0)), (3, .ref ao)]) hx hb dL_law_1228 hl (k := 6) rfl (by rw [ex4_87]; rfl) (by decide) rfl (fun ls hl => ?_)
                  refine lv_goto (tgt := 43) hx hb dL_law_1231 (by decide) ?_
                  refine W.widen (k := 601024 - 4 * n) (n := 7293000 - 24 * n) (by omega) (by omega) ?_
                  exact ih (by omega) (V9_78.1, G_83, V9_78.2) x4_87 hw _ _ _ hP hD hS (lv_sub hl [3, 4, 5, 6, 0] rfl)
                · have hw := hw.1 c_86
                  refine lv_aload_n hx hb dL_law_469 rfl (lv_at hl 5 rfl) ?_
                  refine lv_iconst (v := 0) hx hb dL_law_470 (by decide) ?_
                  obtain ⟨h_88, hw⟩ := hw
                  refine va_lald hx hb hK hP 34 3 rfl rfl h_88 dL_law_471 ?_
                  refine lv_iload hx hb dL_law_472 (lv_at hl 0 rfl) ?_
                  refine lv_i2l hx hb dL_law_474 rfl ?_
                  refine W.lcmp hx hb dL_law_475 ?_
                  refine lv_if_eq (tgt := 481) hx hb dL_law_476 (by decide) (fun c_89 => ?_) (fun c_89 => ?_)
                  · have hw := hw.1 c_89
                    refine lv_goto (tgt := 1228) hx hb dL_law_481 (by decide) ?_
                    obtain ⟨x4_90, ex4_90⟩ : ∃ y : Int32, y = x4 + 6 := ⟨_, rfl⟩
                    have hw := hw x4_90 ex4_90
                    refine lv_iinc (v := x4_90) (lv' := [(4, .int x4_90), (6, .int r_82), (5, .int r_77), (0, .ref b), (1, .ref (ad 0)), (2, .ref (am 0)), (3, .ref ao)]) hx hb dL_law_1228 hl (k := 6) rfl (by rw [ex4_90]; rfl) (by decide) rfl (fun ls hl => ?_)
                    refine lv_goto (tgt := 43) hx hb dL_law_1231 (by decide) ?_
                    refine W.widen (k := 601024 - 4 * n) (n := 7293000 - 24 * n) (by omega) (by omega) ?_
                    exact ih (by omega) (V9_78.1, G_83, V9_78.2) x4_90 hw _ _ _ hP hD hS (lv_sub hl [3, 4, 5, 6, 0] rfl)
                  · have hw := hw.2 c_89
                    refine lv_iconst (v := 0) hx hb dL_law_479 (by decide) ?_
                    exact hw.elim
              · have hw := hw.2 c_85
                refine lv_iconst (v := 0) hx hb dL_law_462 (by decide) ?_
                exact hw.elim
            · have hw := hw.2
              rcases Classical.em (((xs x4.toNatClampNeg) &&& 15) = 4) with c_7 | c_7
              · have hw := hw.1 c_7
                refine lv_tableIn (off := 424) (tgt := 484) hx hb dL_law_60 (by rw [c_7]; decide) (by rw [c_7]; decide) (by rw [c_7]; rfl) (by decide) ?_
                refine lv_aload_n hx hb dL_law_484 rfl (lv_at hl 1 rfl) ?_
                refine lv_aload_n hx hb dL_law_485 rfl (lv_at hl 0 rfl) ?_
                refine lv_iload hx hb dL_law_486 (lv_at hl 4 rfl) ?_
                refine lv_iconst (v := 1) hx hb dL_law_488 (by decide) ?_
                refine lv_iadd hx hb dL_law_489 ?_
                obtain ⟨h_91, hw⟩ := hw
                refine va_sld hx hb hX hbl hbA hS h_91 dL_law_490 ?_
                refine lv_aload_n hx hb dL_law_491 rfl (lv_at hl 0 rfl) ?_
                refine lv_iload hx hb dL_law_492 (lv_at hl 4 rfl) ?_
                refine lv_iconst (v := 2) hx hb dL_law_494 (by decide) ?_
                refine lv_iadd hx hb dL_law_495 ?_
                obtain ⟨h_92, hw⟩ := hw
                refine va_sld hx hb hX hbl hbA hS h_92 dL_law_496 ?_
                refine lv_aload_n hx hb dL_law_497 rfl (lv_at hl 3 rfl) ?_
                have hPc := hP.sub (ws' := wLW cI cZ cJ cL nl nn ad ra ao S (A9.1, A9.2.2)) [0, 1, 2, 3, 4, 5, 6, 7, 8, 9, 10, 11, 12, 13, 14, 15, 16, 17, 18, 19, 34] rfl
                have hDc := hD.sub (ws' := wLW cI cZ cJ cL nl nn ad ra ao S (A9.1, A9.2.2)) [0, 1, 2, 3, 4, 5, 6, 7, 8, 9, 10, 11, 12, 13, 14, 15, 16, 17, 18, 19, 34] (by decide) rfl
                have hFc := va_free (wc := wLW cI cZ cJ cL nl nn ad ra ao S (A9.1, A9.2.2)) hD hS hA [0, 1, 2, 3, 4, 5, 6, 7, 8, 9, 10, 11, 12, 13, 14, 15, 16, 17, 18, 19, 34] rfl
                refine va_calli (vx_runSW (As := [.ref (ad 0), .int (xs (x4 + 1).toNatClampNeg), .int (xs (x4 + 2).toNatClampNeg), .ref ao]) (rest := []) ⟨hx, hb, hml, hown, hT⟩ (met_L_encodeAll l hl9 dC dI cI cZ cJ cL sa ad ra ao H.size _ nl nn S (A9.1, A9.2.2) (xs (x4 + 1).toNatClampNeg) (xs (x4 + 2).toNatClampNeg) hw) (vx_cwSW 4 hT (gS k_371 k_373 k_341 k_372) rfl rfl rfl (by decide +kernel) ⟨(Nat.le_of_ble_eq_true rfl), (Nat.le_of_ble_eq_true rfl)⟩) ⟨bl_L, fun U hU hW => ⟨rfl, by rw [hU], by rw [hU]; exact hPc, va_K.moved hW.alike hK, hDc.weaken (fun _ _ _ _ => trivial), hZ.call hW hU hS hFc, fun q h => va_Nc.moved hW.alike (hN q h)⟩⟩ rfl rfl hl.1 rfl (lv_room (Nat.le_of_ble_eq_true rfl)) dL_law_498 ⟨by show _ ≤ 601024; omega, by show _ ≤ 7293000; omega⟩) hS (fun q _ h => hFc q h) hFc (fun r_93 V9_94 t H1 locs ht hvm hw hB hz1 hk1 hS => ?_)
                obtain ⟨hP1, -, hD1⟩ := hB
                try dsimp only at hw
                rw [ht] at hP1
                obtain ⟨hP, hD⟩ := va_join (wr := [(am 0, .inr (4, [.int A9.2.1.1, .int Y.1.1, .int Y.1.2.1, .int Y.1.2.2.1, .ref (am 1), .ref (am 2), .ref (am 3), .int Y.1.2.2.2, .ref (am 4), .ref (am 5), .ref (am 6), .ref (am 7), .int A9.2.1.2.2.2.2.1.2.1, .int A9.2.1.2.2.2.2.1.2.2, .ref (am 8), .int A9.2.1.2.2.2.2.2.1.2.1, .int A9.2.1.2.2.2.2.2.1.2.2, .ref (am 9), .ref (am 10), .ref (am 11), .int A9.2.1.2.2.2.2.2.2.1.2.2.2, .ref (am 12), .ref (am 13)])), (am 1, .inl (cI, 8, .inl Y.2.1)), (am 2, .inl (cI, 8, .inl Y.2.2.1)), (am 3, .inl (cI, 8, .inl Y.2.2.2)), (am 4, .inl (cI, 1400, .inl A9.2.1.2.1)), (am 5, .inl (cI, 2800, .inl A9.2.1.2.2.1)), (am 6, .inl (cZ, 2800, .inl A9.2.1.2.2.2.1)), (am 7, .inl (cZ, 40000, .inl A9.2.1.2.2.2.2.1.1)), (am 8, .inl (cZ, 40000, .inl A9.2.1.2.2.2.2.2.1.1)), (am 9, .inl (cI, 8, .inl A9.2.1.2.2.2.2.2.2.1.1)), (am 10, .inl (cI, 8, .inl A9.2.1.2.2.2.2.2.2.1.2.1)), (am 11, .inl (cZ, 8, .inl A9.2.1.2.2.2.2.2.2.1.2.2.1)), (am 12, .inl (cI, 1400, .inl A9.2.1.2.2.2.2.2.2.2.1)), (am 13, .inl (cZ, 1400, .inl A9.2.1.2.2.2.2.2.2.2.2))]) (w1 := wLW cI cZ cJ cL nl nn ad ra ao S V9_94) hP hD [0, 1, 2, 3, 4, 5, 6, 7, 8, 9, 10, 11, 12, 13, 14, 15, 16, 17, 18, 19, 34] [20, 21, 22, 23, 24, 25, 26, 27, 28, 29, 30, 31, 32, 33] rfl rfl (by decide) (by decide) hk1 hFc hP1 hD1
                generalize H1 = H at hP hS ⊢
                have hP := hP.sub (ws' := wLA cI cZ cJ cL nl nn ad ra am ao S Y (V9_94.1, A9.2.1, V9_94.2)) [14, 15, 16, 17, 18, 19, 20, 21, 22, 23, 24, 25, 26, 27, 28, 29, 30, 31, 32, 33, 0, 1, 2, 3, 4, 5, 6, 7, 8, 9, 10, 11, 12, 13, 34] rfl
                have hD := hD.sub (ws' := wLA cI cZ cJ cL nl nn ad ra am ao S Y (V9_94.1, A9.2.1, V9_94.2)) [14, 15, 16, 17, 18, 19, 20, 21, 22, 23, 24, 25, 26, 27, 28, 29, 30, 31, 32, 33, 0, 1, 2, 3, 4, 5, 6, 7, 8, 9, 10, 11, 12, 13, 34] (by decide) rfl
                refine lv_istore (lv' := [(5, .int r_93), (0, .ref b), (1, .ref (ad 0)), (2, .ref (am 0)), (3, .ref ao), (4, .int x4)]) hx hb dL_law_501 hl (by decide) rfl (fun ls hl => ?_)
                refine lv_aload_n hx hb dL_law_503 rfl (lv_at hl 3 rfl) ?_
                refine lv_aload_n hx hb dL_law_504 rfl (lv_at hl 1 rfl) ?_
                refine lv_iload hx hb dL_law_505 (lv_at hl 5 rfl) ?_
                refine lv_iconst (v := 1) hx hb dL_law_507 (by decide) ?_
                refine lv_iadd hx hb dL_law_508 ?_
                obtain ⟨h_95, hw⟩ := hw
                refine va_sld hx hb hX hbl hbA hS h_95 dL_law_509 ?_
                refine lv_aload_n hx hb dL_law_510 rfl (lv_at hl 1 rfl) ?_
                refine lv_iload hx hb dL_law_511 (lv_at hl 5 rfl) ?_
                refine lv_iconst (v := 2) hx hb dL_law_513 (by decide) ?_
                refine lv_iadd hx hb dL_law_514 ?_
                obtain ⟨h_96, hw⟩ := hw
                refine va_sld hx hb hX hbl hbA hS h_96 dL_law_515 ?_
                have hPc := hP.sub (ws' := wMM cI cZ am Y A9.2.1) [20, 21, 22, 23, 24, 25, 26, 27, 28, 29, 30, 31, 32, 33] rfl
                have hDc := hD.sub (ws' := wMM cI cZ am Y A9.2.1) [20, 21, 22, 23, 24, 25, 26, 27, 28, 29, 30, 31, 32, 33] (by decide) rfl
                have hFc := va_free (wc := wMM cI cZ am Y A9.2.1) hD hS hA [20, 21, 22, 23, 24, 25, 26, 27, 28, 29, 30, 31, 32, 33] rfl
                refine va_calli (va_runV (As := [.int (xs (x4 + 1).toNatClampNeg), .int (xs (x4 + 2).toNatClampNeg)]) (rest := []) ⟨hx, hb, hml, hown, hT⟩ (met_X4_encodeAll l dC dI cI cZ cJ cL am H.size _ Y A9.2.1 (xs (x4 + 1).toNatClampNeg) (xs (x4 + 2).toNatClampNeg) hw) (cwV 2 hT (gV k_374 k_376 k_377 k_287 k_375) rfl rfl rfl (by decide +kernel) ⟨(Nat.le_of_ble_eq_true rfl), (Nat.le_of_ble_eq_true rfl)⟩) ⟨bl_W, va_recv hK hPc (ci := 4) (q0 := 0) rfl rfl, fun U hU hW => ⟨rfl, by rw [hU], by rw [hU]; exact hPc, va_K.moved hW.alike hK, hDc.weaken (fun _ _ _ _ => trivial)⟩⟩ rfl rfl hl.1 rfl (lv_room (Nat.le_of_ble_eq_true rfl)) dL_law_516 ⟨by show _ ≤ 601024; omega, by show _ ≤ 7293000; omega⟩) hS (fun q _ h => hFc q h) hFc (fun r_97 G_98 t H1 locs ht hvm hw hB hz1 hk1 hS => ?_)
                obtain ⟨hP1, -, hD1⟩ := hB
                try dsimp only at hw
                rw [ht] at hP1
                obtain ⟨hP, hD⟩ := va_join (wr := [(ad 0, .inr (3, [.ref (ad 1), .ref (ad 9), .ref (ad 10), .ref (ad 13), .ref (ad 16), .ref (ad 18), .int V9_94.1.2.2.2.2.2])), (ad 1, .inr (1, [.int S.1.1, .int S.1.2.1, .int S.1.2.2.1, .int S.1.2.2.2.1, .int S.1.2.2.2.2, .ref (ad 2), .ref (ad 3), .ref (ad 4), .ref (ad 5)])), (ad 2, .inl (cI, 6, .inl S.2.1.1)), (ad 3, .inl (cI, 6, .inl S.2.1.2.1)), (ad 4, .inl (cI, 6, .inl S.2.1.2.2)), (ad 5, .inl (cJ, 3, .inr (.inr (.inr (.inr (fun i => if i < 3 then some (ra i) else none)))))), (ra 0, .inl (cI, nl, .inl (S.2.2 0))), (ra 1, .inl (cI, nl, .inl (S.2.2 1))), (ra 2, .inl (cI, nl, .inl (S.2.2 2))), (ad 9, .inl (cI, nn, .inl V9_94.1.1)), (ad 10, .inr (2, [.ref (ad 11), .ref (ad 12), .int V9_94.1.2.1.2.2])), (ad 11, .inl (cI, nn, .inl V9_94.1.2.1.1)), (ad 12, .inl (cZ, nn, .inl V9_94.1.2.1.2.1)), (ad 13, .inr (2, [.ref (ad 14), .ref (ad 15), .int V9_94.1.2.2.1.2.2])), (ad 14, .inl (cI, nn, .inl V9_94.1.2.2.1.1)), (ad 15, .inl (cZ, nn, .inl V9_94.1.2.2.1.2.1)), (ad 16, .inr (0, [.ref (ad 17), .int V9_94.1.2.2.2.1.2.1, .int V9_94.1.2.2.2.1.2.2])), (ad 17, .inl (cI, 1250, .inl V9_94.1.2.2.2.1.1)), (ad 18, .inr (0, [.ref (ad 19), .int V9_94.1.2.2.2.2.1.2.1, .int V9_94.1.2.2.2.2.1.2.2])), (ad 19, .inl (cI, 1250, .inl V9_94.1.2.2.2.2.1.1)), (ao, .inl (cL, 1, .inr (.inl V9_94.2)))]) (w1 := wMM cI cZ am Y G_98) hP hD [20, 21, 22, 23, 24, 25, 26, 27, 28, 29, 30, 31, 32, 33] [0, 1, 2, 3, 4, 5, 6, 7, 8, 9, 10, 11, 12, 13, 14, 15, 16, 17, 18, 19, 34] rfl rfl (by decide) (by decide) hk1 hFc hP1 hD1
                generalize H1 = H at hP hS ⊢
                have hP := hP.sub (ws' := wLA cI cZ cJ cL nl nn ad ra am ao S Y (V9_94.1, G_98, V9_94.2)) [0, 1, 2, 3, 4, 5, 6, 7, 8, 9, 10, 11, 12, 13, 14, 15, 16, 17, 18, 19, 21, 22, 23, 24, 25, 26, 27, 28, 29, 30, 31, 32, 33, 34, 20] rfl
                have hD := hD.sub (ws' := wLA cI cZ cJ cL nl nn ad ra am ao S Y (V9_94.1, G_98, V9_94.2)) [0, 1, 2, 3, 4, 5, 6, 7, 8, 9, 10, 11, 12, 13, 14, 15, 16, 17, 18, 19, 21, 22, 23, 24, 25, 26, 27, 28, 29, 30, 31, 32, 33, 34, 20] (by decide) rfl
                refine lv_istore (lv' := [(6, .int r_97), (5, .int r_93), (0, .ref b), (1, .ref (ad 0)), (2, .ref (am 0)), (3, .ref ao), (4, .int x4)]) hx hb dL_law_519 hl (by decide) rfl (fun ls hl => ?_)
                refine lv_aload_n hx hb dL_law_521 rfl (lv_at hl 4 rfl) ?_
                have hPc := hP.sub (ws' := wMM cI cZ am Y G_98) [20, 21, 22, 23, 24, 25, 26, 27, 28, 29, 30, 31, 32, 33] rfl
                refine vp_callSi (W.runV (As := []) (rest := []) ⟨hx, hb, hml, hown, hT⟩ (met_X4_thrown l dC dI cI cZ cJ cL am _ Y G_98  hw) (cwV 0 hT (gV k_346 k_348 k_349 k_287 k_347) rfl rfl rfl (by decide +kernel) ⟨(Nat.le_of_ble_eq_true rfl), (Nat.le_of_ble_eq_true rfl)⟩) ⟨bl_R, va_recv hK hPc (ci := 4) (q0 := 0) rfl rfl, fun U hU hW => ⟨rfl, by rw [hU]; exact hPc, va_K.moved hW.alike hK⟩⟩ rfl rfl hl.1 rfl (lv_room (Nat.le_of_ble_eq_true rfl)) dL_law_522 ⟨by show _ ≤ 601024; omega, by show _ ≤ 7293000; omega⟩) (fun r_99 hw => ?_)
                try dsimp only at hw
                refine lv_iload hx hb dL_law_525 (lv_at hl 1 rfl) ?_
                refine lv_icmp_eq (tgt := 532) hx hb dL_law_527 (by decide) (fun c_100 => ?_) (fun c_100 => ?_)
                · have hw := hw.1 c_100
                  refine lv_iload hx hb dL_law_532 (lv_at hl 1 rfl) ?_
                  refine lv_if_ne (tgt := 549) hx hb dL_law_534 (by decide) (fun c_101 => ?_) (fun c_101 => ?_)
                  · have hw := hw.2 c_101
                    refine lv_goto (tgt := 1228) hx hb dL_law_549 (by decide) ?_
                    obtain ⟨x4_102, ex4_102⟩ : ∃ y : Int32, y = x4 + 6 := ⟨_, rfl⟩
                    have hw := hw x4_102 ex4_102
                    refine lv_iinc (v := x4_102) (lv' := [(4, .int x4_102), (6, .int r_97), (5, .int r_93), (0, .ref b), (1, .ref (ad 0)), (2, .ref (am 0)), (3, .ref ao)]) hx hb dL_law_1228 hl (k := 6) rfl (by rw [ex4_102]; rfl) (by decide) rfl (fun ls hl => ?_)
                    refine lv_goto (tgt := 43) hx hb dL_law_1231 (by decide) ?_
                    refine W.widen (k := 601024 - 4 * n) (n := 7293000 - 24 * n) (by omega) (by omega) ?_
                    exact ih (by omega) (V9_94.1, G_98, V9_94.2) x4_102 hw _ _ _ hP hD hS (lv_sub hl [3, 4, 5, 6, 0] rfl)
                  · have hw := hw.1 c_101
                    refine lv_aload_n hx hb dL_law_537 rfl (lv_at hl 5 rfl) ?_
                    refine lv_iconst (v := 0) hx hb dL_law_538 (by decide) ?_
                    obtain ⟨h_103, hw⟩ := hw
                    refine va_lald hx hb hK hP 34 3 rfl rfl h_103 dL_law_539 ?_
                    refine lv_iload hx hb dL_law_540 (lv_at hl 0 rfl) ?_
                    refine lv_i2l hx hb dL_law_542 rfl ?_
                    refine W.lcmp hx hb dL_law_543 ?_
                    refine lv_if_eq (tgt := 549) hx hb dL_law_544 (by decide) (fun c_104 => ?_) (fun c_104 => ?_)
                    · have hw := hw.1 c_104
                      refine lv_goto (tgt := 1228) hx hb dL_law_549 (by decide) ?_
                      obtain ⟨x4_105, ex4_105⟩ : ∃ y : Int32, y = x4 + 6 := ⟨_, rfl⟩
                      have hw := hw x4_105 ex4_105
                      refine lv_iinc (v := x4_105) (lv' := [(4, .int x4_105), (6, .int r_97), (5, .int r_93), (0, .ref b), (1, .ref (ad 0)), (2, .ref (am 0)), (3, .ref ao)]) hx hb dL_law_1228 hl (k := 6) rfl (by rw [ex4_105]; rfl) (by decide) rfl (fun ls hl => ?_)
                      refine lv_goto (tgt := 43) hx hb dL_law_1231 (by decide) ?_
                      refine W.widen (k := 601024 - 4 * n) (n := 7293000 - 24 * n) (by omega) (by omega) ?_
                      exact ih (by omega) (V9_94.1, G_98, V9_94.2) x4_105 hw _ _ _ hP hD hS (lv_sub hl [3, 4, 5, 6, 0] rfl)
                    · have hw := hw.2 c_104
                      refine lv_iconst (v := 0) hx hb dL_law_547 (by decide) ?_
                      exact hw.elim
                · have hw := hw.2 c_100
                  refine lv_iconst (v := 0) hx hb dL_law_530 (by decide) ?_
                  exact hw.elim
              · have hw := hw.2
                rcases Classical.em (((xs x4.toNatClampNeg) &&& 15) = 5) with c_8 | c_8
                · have hw := hw.1 c_8
                  refine lv_tableIn (off := 492) (tgt := 552) hx hb dL_law_60 (by rw [c_8]; decide) (by rw [c_8]; decide) (by rw [c_8]; rfl) (by decide) ?_
                  refine lv_aload_n hx hb dL_law_552 rfl (lv_at hl 1 rfl) ?_
                  refine lv_aload_n hx hb dL_law_553 rfl (lv_at hl 0 rfl) ?_
                  refine lv_iload hx hb dL_law_554 (lv_at hl 4 rfl) ?_
                  refine lv_iconst (v := 1) hx hb dL_law_556 (by decide) ?_
                  refine lv_iadd hx hb dL_law_557 ?_
                  obtain ⟨h_106, hw⟩ := hw
                  refine va_sld hx hb hX hbl hbA hS h_106 dL_law_558 ?_
                  refine lv_aload_n hx hb dL_law_559 rfl (lv_at hl 3 rfl) ?_
                  have hPc := hP.sub (ws' := wLW cI cZ cJ cL nl nn ad ra ao S (A9.1, A9.2.2)) [0, 1, 2, 3, 4, 5, 6, 7, 8, 9, 10, 11, 12, 13, 14, 15, 16, 17, 18, 19, 34] rfl
                  have hDc := hD.sub (ws' := wLW cI cZ cJ cL nl nn ad ra ao S (A9.1, A9.2.2)) [0, 1, 2, 3, 4, 5, 6, 7, 8, 9, 10, 11, 12, 13, 14, 15, 16, 17, 18, 19, 34] (by decide) rfl
                  have hFc := va_free (wc := wLW cI cZ cJ cL nl nn ad ra ao S (A9.1, A9.2.2)) hD hS hA [0, 1, 2, 3, 4, 5, 6, 7, 8, 9, 10, 11, 12, 13, 14, 15, 16, 17, 18, 19, 34] rfl
                  refine va_calli (vx_runSW (As := [.ref (ad 0), .int (xs (x4 + 1).toNatClampNeg), .ref ao]) (rest := []) ⟨hx, hb, hml, hown, hT⟩ (met_L_bitAt l hl9 dC dI cI cZ cJ cL sa ad ra ao H.size _ nl nn S (A9.1, A9.2.2) (xs (x4 + 1).toNatClampNeg) hw) (vx_cwSW 3 hT (gS k_378 k_380 k_341 k_379) rfl rfl rfl (by decide +kernel) ⟨(Nat.le_of_ble_eq_true rfl), (Nat.le_of_ble_eq_true rfl)⟩) ⟨bl_L, fun U hU hW => ⟨rfl, by rw [hU], by rw [hU]; exact hPc, va_K.moved hW.alike hK, hDc.weaken (fun _ _ _ _ => trivial), hZ.call hW hU hS hFc, fun q h => va_Nc.moved hW.alike (hN q h)⟩⟩ rfl rfl hl.1 rfl (lv_room (Nat.le_of_ble_eq_true rfl)) dL_law_560 ⟨by show _ ≤ 601024; omega, by show _ ≤ 7293000; omega⟩) hS (fun q _ h => hFc q h) hFc (fun r_107 V9_108 t H1 locs ht hvm hw hB hz1 hk1 hS => ?_)
                  obtain ⟨hP1, -, hD1⟩ := hB
                  try dsimp only at hw
                  rw [ht] at hP1
                  obtain ⟨hP, hD⟩ := va_join (wr := [(am 0, .inr (4, [.int A9.2.1.1, .int Y.1.1, .int Y.1.2.1, .int Y.1.2.2.1, .ref (am 1), .ref (am 2), .ref (am 3), .int Y.1.2.2.2, .ref (am 4), .ref (am 5), .ref (am 6), .ref (am 7), .int A9.2.1.2.2.2.2.1.2.1, .int A9.2.1.2.2.2.2.1.2.2, .ref (am 8), .int A9.2.1.2.2.2.2.2.1.2.1, .int A9.2.1.2.2.2.2.2.1.2.2, .ref (am 9), .ref (am 10), .ref (am 11), .int A9.2.1.2.2.2.2.2.2.1.2.2.2, .ref (am 12), .ref (am 13)])), (am 1, .inl (cI, 8, .inl Y.2.1)), (am 2, .inl (cI, 8, .inl Y.2.2.1)), (am 3, .inl (cI, 8, .inl Y.2.2.2)), (am 4, .inl (cI, 1400, .inl A9.2.1.2.1)), (am 5, .inl (cI, 2800, .inl A9.2.1.2.2.1)), (am 6, .inl (cZ, 2800, .inl A9.2.1.2.2.2.1)), (am 7, .inl (cZ, 40000, .inl A9.2.1.2.2.2.2.1.1)), (am 8, .inl (cZ, 40000, .inl A9.2.1.2.2.2.2.2.1.1)), (am 9, .inl (cI, 8, .inl A9.2.1.2.2.2.2.2.2.1.1)), (am 10, .inl (cI, 8, .inl A9.2.1.2.2.2.2.2.2.1.2.1)), (am 11, .inl (cZ, 8, .inl A9.2.1.2.2.2.2.2.2.1.2.2.1)), (am 12, .inl (cI, 1400, .inl A9.2.1.2.2.2.2.2.2.2.1)), (am 13, .inl (cZ, 1400, .inl A9.2.1.2.2.2.2.2.2.2.2))]) (w1 := wLW cI cZ cJ cL nl nn ad ra ao S V9_108) hP hD [0, 1, 2, 3, 4, 5, 6, 7, 8, 9, 10, 11, 12, 13, 14, 15, 16, 17, 18, 19, 34] [20, 21, 22, 23, 24, 25, 26, 27, 28, 29, 30, 31, 32, 33] rfl rfl (by decide) (by decide) hk1 hFc hP1 hD1
                  generalize H1 = H at hP hS ⊢
                  have hP := hP.sub (ws' := wLA cI cZ cJ cL nl nn ad ra am ao S Y (V9_108.1, A9.2.1, V9_108.2)) [14, 15, 16, 17, 18, 19, 20, 21, 22, 23, 24, 25, 26, 27, 28, 29, 30, 31, 32, 33, 0, 1, 2, 3, 4, 5, 6, 7, 8, 9, 10, 11, 12, 13, 34] rfl
                  have hD := hD.sub (ws' := wLA cI cZ cJ cL nl nn ad ra am ao S Y (V9_108.1, A9.2.1, V9_108.2)) [14, 15, 16, 17, 18, 19, 20, 21, 22, 23, 24, 25, 26, 27, 28, 29, 30, 31, 32, 33, 0, 1, 2, 3, 4, 5, 6, 7, 8, 9, 10, 11, 12, 13, 34] (by decide) rfl
                  refine lv_istore (lv' := [(5, .int r_107), (0, .ref b), (1, .ref (ad 0)), (2, .ref (am 0)), (3, .ref ao), (4, .int x4)]) hx hb dL_law_563 hl (by decide) rfl (fun ls hl => ?_)
                  refine lv_aload_n hx hb dL_law_565 rfl (lv_at hl 3 rfl) ?_
                  refine lv_aload_n hx hb dL_law_566 rfl (lv_at hl 1 rfl) ?_
                  refine lv_iload hx hb dL_law_567 (lv_at hl 5 rfl) ?_
                  refine lv_iconst (v := 1) hx hb dL_law_569 (by decide) ?_
                  refine lv_iadd hx hb dL_law_570 ?_
                  obtain ⟨h_109, hw⟩ := hw
                  refine va_sld hx hb hX hbl hbA hS h_109 dL_law_571 ?_
                  have hPc := hP.sub (ws' := wMM cI cZ am Y A9.2.1) [20, 21, 22, 23, 24, 25, 26, 27, 28, 29, 30, 31, 32, 33] rfl
                  have hDc := hD.sub (ws' := wMM cI cZ am Y A9.2.1) [20, 21, 22, 23, 24, 25, 26, 27, 28, 29, 30, 31, 32, 33] (by decide) rfl
                  have hFc := va_free (wc := wMM cI cZ am Y A9.2.1) hD hS hA [20, 21, 22, 23, 24, 25, 26, 27, 28, 29, 30, 31, 32, 33] rfl
                  refine va_calli (va_runV (As := [.int (xs (x4 + 1).toNatClampNeg)]) (rest := []) ⟨hx, hb, hml, hown, hT⟩ (met_X4_bitAt l dC dI cI cZ cJ cL am H.size _ Y A9.2.1 (xs (x4 + 1).toNatClampNeg) hw) (cwV 1 hT (gV k_381 k_383 k_384 k_287 k_382) rfl rfl rfl (by decide +kernel) ⟨(Nat.le_of_ble_eq_true rfl), (Nat.le_of_ble_eq_true rfl)⟩) ⟨bl_W, va_recv hK hPc (ci := 4) (q0 := 0) rfl rfl, fun U hU hW => ⟨rfl, by rw [hU], by rw [hU]; exact hPc, va_K.moved hW.alike hK, hDc.weaken (fun _ _ _ _ => trivial)⟩⟩ rfl rfl hl.1 rfl (lv_room (Nat.le_of_ble_eq_true rfl)) dL_law_572 ⟨by show _ ≤ 601024; omega, by show _ ≤ 7293000; omega⟩) hS (fun q _ h => hFc q h) hFc (fun r_110 G_111 t H1 locs ht hvm hw hB hz1 hk1 hS => ?_)
                  obtain ⟨hP1, -, hD1⟩ := hB
                  try dsimp only at hw
                  rw [ht] at hP1
                  obtain ⟨hP, hD⟩ := va_join (wr := [(ad 0, .inr (3, [.ref (ad 1), .ref (ad 9), .ref (ad 10), .ref (ad 13), .ref (ad 16), .ref (ad 18), .int V9_108.1.2.2.2.2.2])), (ad 1, .inr (1, [.int S.1.1, .int S.1.2.1, .int S.1.2.2.1, .int S.1.2.2.2.1, .int S.1.2.2.2.2, .ref (ad 2), .ref (ad 3), .ref (ad 4), .ref (ad 5)])), (ad 2, .inl (cI, 6, .inl S.2.1.1)), (ad 3, .inl (cI, 6, .inl S.2.1.2.1)), (ad 4, .inl (cI, 6, .inl S.2.1.2.2)), (ad 5, .inl (cJ, 3, .inr (.inr (.inr (.inr (fun i => if i < 3 then some (ra i) else none)))))), (ra 0, .inl (cI, nl, .inl (S.2.2 0))), (ra 1, .inl (cI, nl, .inl (S.2.2 1))), (ra 2, .inl (cI, nl, .inl (S.2.2 2))), (ad 9, .inl (cI, nn, .inl V9_108.1.1)), (ad 10, .inr (2, [.ref (ad 11), .ref (ad 12), .int V9_108.1.2.1.2.2])), (ad 11, .inl (cI, nn, .inl V9_108.1.2.1.1)), (ad 12, .inl (cZ, nn, .inl V9_108.1.2.1.2.1)), (ad 13, .inr (2, [.ref (ad 14), .ref (ad 15), .int V9_108.1.2.2.1.2.2])), (ad 14, .inl (cI, nn, .inl V9_108.1.2.2.1.1)), (ad 15, .inl (cZ, nn, .inl V9_108.1.2.2.1.2.1)), (ad 16, .inr (0, [.ref (ad 17), .int V9_108.1.2.2.2.1.2.1, .int V9_108.1.2.2.2.1.2.2])), (ad 17, .inl (cI, 1250, .inl V9_108.1.2.2.2.1.1)), (ad 18, .inr (0, [.ref (ad 19), .int V9_108.1.2.2.2.2.1.2.1, .int V9_108.1.2.2.2.2.1.2.2])), (ad 19, .inl (cI, 1250, .inl V9_108.1.2.2.2.2.1.1)), (ao, .inl (cL, 1, .inr (.inl V9_108.2)))]) (w1 := wMM cI cZ am Y G_111) hP hD [20, 21, 22, 23, 24, 25, 26, 27, 28, 29, 30, 31, 32, 33] [0, 1, 2, 3, 4, 5, 6, 7, 8, 9, 10, 11, 12, 13, 14, 15, 16, 17, 18, 19, 34] rfl rfl (by decide) (by decide) hk1 hFc hP1 hD1
                  generalize H1 = H at hP hS ⊢
                  have hP := hP.sub (ws' := wLA cI cZ cJ cL nl nn ad ra am ao S Y (V9_108.1, G_111, V9_108.2)) [0, 1, 2, 3, 4, 5, 6, 7, 8, 9, 10, 11, 12, 13, 14, 15, 16, 17, 18, 19, 21, 22, 23, 24, 25, 26, 27, 28, 29, 30, 31, 32, 33, 34, 20] rfl
                  have hD := hD.sub (ws' := wLA cI cZ cJ cL nl nn ad ra am ao S Y (V9_108.1, G_111, V9_108.2)) [0, 1, 2, 3, 4, 5, 6, 7, 8, 9, 10, 11, 12, 13, 14, 15, 16, 17, 18, 19, 21, 22, 23, 24, 25, 26, 27, 28, 29, 30, 31, 32, 33, 34, 20] (by decide) rfl
                  refine lv_istore (lv' := [(6, .int r_110), (5, .int r_107), (0, .ref b), (1, .ref (ad 0)), (2, .ref (am 0)), (3, .ref ao), (4, .int x4)]) hx hb dL_law_575 hl (by decide) rfl (fun ls hl => ?_)
                  refine lv_aload_n hx hb dL_law_577 rfl (lv_at hl 4 rfl) ?_
                  have hPc := hP.sub (ws' := wMM cI cZ am Y G_111) [20, 21, 22, 23, 24, 25, 26, 27, 28, 29, 30, 31, 32, 33] rfl
                  refine vp_callSi (W.runV (As := []) (rest := []) ⟨hx, hb, hml, hown, hT⟩ (met_X4_thrown l dC dI cI cZ cJ cL am _ Y G_111  hw) (cwV 0 hT (gV k_346 k_348 k_349 k_287 k_347) rfl rfl rfl (by decide +kernel) ⟨(Nat.le_of_ble_eq_true rfl), (Nat.le_of_ble_eq_true rfl)⟩) ⟨bl_R, va_recv hK hPc (ci := 4) (q0 := 0) rfl rfl, fun U hU hW => ⟨rfl, by rw [hU]; exact hPc, va_K.moved hW.alike hK⟩⟩ rfl rfl hl.1 rfl (lv_room (Nat.le_of_ble_eq_true rfl)) dL_law_578 ⟨by show _ ≤ 601024; omega, by show _ ≤ 7293000; omega⟩) (fun r_112 hw => ?_)
                  try dsimp only at hw
                  refine lv_iload hx hb dL_law_581 (lv_at hl 1 rfl) ?_
                  refine lv_icmp_eq (tgt := 588) hx hb dL_law_583 (by decide) (fun c_113 => ?_) (fun c_113 => ?_)
                  · have hw := hw.1 c_113
                    refine lv_iload hx hb dL_law_588 (lv_at hl 1 rfl) ?_
                    refine lv_if_ne (tgt := 605) hx hb dL_law_590 (by decide) (fun c_114 => ?_) (fun c_114 => ?_)
                    · have hw := hw.2 c_114
                      refine lv_goto (tgt := 1228) hx hb dL_law_605 (by decide) ?_
                      obtain ⟨x4_115, ex4_115⟩ : ∃ y : Int32, y = x4 + 6 := ⟨_, rfl⟩
                      have hw := hw x4_115 ex4_115
                      refine lv_iinc (v := x4_115) (lv' := [(4, .int x4_115), (6, .int r_110), (5, .int r_107), (0, .ref b), (1, .ref (ad 0)), (2, .ref (am 0)), (3, .ref ao)]) hx hb dL_law_1228 hl (k := 6) rfl (by rw [ex4_115]; rfl) (by decide) rfl (fun ls hl => ?_)
                      refine lv_goto (tgt := 43) hx hb dL_law_1231 (by decide) ?_
                      refine W.widen (k := 601024 - 4 * n) (n := 7293000 - 24 * n) (by omega) (by omega) ?_
                      exact ih (by omega) (V9_108.1, G_111, V9_108.2) x4_115 hw _ _ _ hP hD hS (lv_sub hl [3, 4, 5, 6, 0] rfl)
                    · have hw := hw.1 c_114
                      refine lv_aload_n hx hb dL_law_593 rfl (lv_at hl 5 rfl) ?_
                      refine lv_iconst (v := 0) hx hb dL_law_594 (by decide) ?_
                      obtain ⟨h_116, hw⟩ := hw
                      refine va_lald hx hb hK hP 34 3 rfl rfl h_116 dL_law_595 ?_
                      refine lv_iload hx hb dL_law_596 (lv_at hl 0 rfl) ?_
                      refine lv_i2l hx hb dL_law_598 rfl ?_
                      refine W.lcmp hx hb dL_law_599 ?_
                      refine lv_if_eq (tgt := 605) hx hb dL_law_600 (by decide) (fun c_117 => ?_) (fun c_117 => ?_)
                      · have hw := hw.1 c_117
                        refine lv_goto (tgt := 1228) hx hb dL_law_605 (by decide) ?_
                        obtain ⟨x4_118, ex4_118⟩ : ∃ y : Int32, y = x4 + 6 := ⟨_, rfl⟩
                        have hw := hw x4_118 ex4_118
                        refine lv_iinc (v := x4_118) (lv' := [(4, .int x4_118), (6, .int r_110), (5, .int r_107), (0, .ref b), (1, .ref (ad 0)), (2, .ref (am 0)), (3, .ref ao)]) hx hb dL_law_1228 hl (k := 6) rfl (by rw [ex4_118]; rfl) (by decide) rfl (fun ls hl => ?_)
                        refine lv_goto (tgt := 43) hx hb dL_law_1231 (by decide) ?_
                        refine W.widen (k := 601024 - 4 * n) (n := 7293000 - 24 * n) (by omega) (by omega) ?_
                        exact ih (by omega) (V9_108.1, G_111, V9_108.2) x4_118 hw _ _ _ hP hD hS (lv_sub hl [3, 4, 5, 6, 0] rfl)
                      · have hw := hw.2 c_117
                        refine lv_iconst (v := 0) hx hb dL_law_603 (by decide) ?_
                        exact hw.elim
                  · have hw := hw.2 c_113
                    refine lv_iconst (v := 0) hx hb dL_law_586 (by decide) ?_
                    exact hw.elim
                · have hw := hw.2
                  rcases Classical.em (((xs x4.toNatClampNeg) &&& 15) = 6) with c_9 | c_9
                  · have hw := hw.1 c_9
                    refine lv_tableIn (off := 548) (tgt := 608) hx hb dL_law_60 (by rw [c_9]; decide) (by rw [c_9]; decide) (by rw [c_9]; rfl) (by decide) ?_
                    refine lv_aload_n hx hb dL_law_608 rfl (lv_at hl 1 rfl) ?_
                    refine lv_aload_n hx hb dL_law_609 rfl (lv_at hl 0 rfl) ?_
                    refine lv_iload hx hb dL_law_610 (lv_at hl 4 rfl) ?_
                    refine lv_iconst (v := 1) hx hb dL_law_612 (by decide) ?_
                    refine lv_iadd hx hb dL_law_613 ?_
                    obtain ⟨h_119, hw⟩ := hw
                    refine va_sld hx hb hX hbl hbA hS h_119 dL_law_614 ?_
                    refine lv_aload_n hx hb dL_law_615 rfl (lv_at hl 3 rfl) ?_
                    have hPc := hP.sub (ws' := wLW cI cZ cJ cL nl nn ad ra ao S (A9.1, A9.2.2)) [0, 1, 2, 3, 4, 5, 6, 7, 8, 9, 10, 11, 12, 13, 14, 15, 16, 17, 18, 19, 34] rfl
                    have hDc := hD.sub (ws' := wLW cI cZ cJ cL nl nn ad ra ao S (A9.1, A9.2.2)) [0, 1, 2, 3, 4, 5, 6, 7, 8, 9, 10, 11, 12, 13, 14, 15, 16, 17, 18, 19, 34] (by decide) rfl
                    have hFc := va_free (wc := wLW cI cZ cJ cL nl nn ad ra ao S (A9.1, A9.2.2)) hD hS hA [0, 1, 2, 3, 4, 5, 6, 7, 8, 9, 10, 11, 12, 13, 14, 15, 16, 17, 18, 19, 34] rfl
                    refine va_calli (vx_runSW (As := [.ref (ad 0), .int (xs (x4 + 1).toNatClampNeg), .ref ao]) (rest := []) ⟨hx, hb, hml, hown, hT⟩ (met_L_feed l hl9 dC dI cI cZ cJ cL sa ad ra ao H.size _ nl nn S (A9.1, A9.2.2) (xs (x4 + 1).toNatClampNeg) hw) (vx_cwSW 3 hT (gS k_385 k_387 k_341 k_386) rfl rfl rfl (by decide +kernel) ⟨(Nat.le_of_ble_eq_true rfl), (Nat.le_of_ble_eq_true rfl)⟩) ⟨bl_L, fun U hU hW => ⟨rfl, by rw [hU], by rw [hU]; exact hPc, va_K.moved hW.alike hK, hDc.weaken (fun _ _ _ _ => trivial), hZ.call hW hU hS hFc, fun q h => va_Nc.moved hW.alike (hN q h)⟩⟩ rfl rfl hl.1 rfl (lv_room (Nat.le_of_ble_eq_true rfl)) dL_law_616 ⟨by show _ ≤ 601024; omega, by show _ ≤ 7293000; omega⟩) hS (fun q _ h => hFc q h) hFc (fun r_120 V9_121 t H1 locs ht hvm hw hB hz1 hk1 hS => ?_)
                    obtain ⟨hP1, -, hD1⟩ := hB
                    try dsimp only at hw
                    rw [ht] at hP1
                    obtain ⟨hP, hD⟩ := va_join (wr := [(am 0, .inr (4, [.int A9.2.1.1, .int Y.1.1, .int Y.1.2.1, .int Y.1.2.2.1, .ref (am 1), .ref (am 2), .ref (am 3), .int Y.1.2.2.2, .ref (am 4), .ref (am 5), .ref (am 6), .ref (am 7), .int A9.2.1.2.2.2.2.1.2.1, .int A9.2.1.2.2.2.2.1.2.2, .ref (am 8), .int A9.2.1.2.2.2.2.2.1.2.1, .int A9.2.1.2.2.2.2.2.1.2.2, .ref (am 9), .ref (am 10), .ref (am 11), .int A9.2.1.2.2.2.2.2.2.1.2.2.2, .ref (am 12), .ref (am 13)])), (am 1, .inl (cI, 8, .inl Y.2.1)), (am 2, .inl (cI, 8, .inl Y.2.2.1)), (am 3, .inl (cI, 8, .inl Y.2.2.2)), (am 4, .inl (cI, 1400, .inl A9.2.1.2.1)), (am 5, .inl (cI, 2800, .inl A9.2.1.2.2.1)), (am 6, .inl (cZ, 2800, .inl A9.2.1.2.2.2.1)), (am 7, .inl (cZ, 40000, .inl A9.2.1.2.2.2.2.1.1)), (am 8, .inl (cZ, 40000, .inl A9.2.1.2.2.2.2.2.1.1)), (am 9, .inl (cI, 8, .inl A9.2.1.2.2.2.2.2.2.1.1)), (am 10, .inl (cI, 8, .inl A9.2.1.2.2.2.2.2.2.1.2.1)), (am 11, .inl (cZ, 8, .inl A9.2.1.2.2.2.2.2.2.1.2.2.1)), (am 12, .inl (cI, 1400, .inl A9.2.1.2.2.2.2.2.2.2.1)), (am 13, .inl (cZ, 1400, .inl A9.2.1.2.2.2.2.2.2.2.2))]) (w1 := wLW cI cZ cJ cL nl nn ad ra ao S V9_121) hP hD [0, 1, 2, 3, 4, 5, 6, 7, 8, 9, 10, 11, 12, 13, 14, 15, 16, 17, 18, 19, 34] [20, 21, 22, 23, 24, 25, 26, 27, 28, 29, 30, 31, 32, 33] rfl rfl (by decide) (by decide) hk1 hFc hP1 hD1
                    generalize H1 = H at hP hS ⊢
                    have hP := hP.sub (ws' := wLA cI cZ cJ cL nl nn ad ra am ao S Y (V9_121.1, A9.2.1, V9_121.2)) [14, 15, 16, 17, 18, 19, 20, 21, 22, 23, 24, 25, 26, 27, 28, 29, 30, 31, 32, 33, 0, 1, 2, 3, 4, 5, 6, 7, 8, 9, 10, 11, 12, 13, 34] rfl
                    have hD := hD.sub (ws' := wLA cI cZ cJ cL nl nn ad ra am ao S Y (V9_121.1, A9.2.1, V9_121.2)) [14, 15, 16, 17, 18, 19, 20, 21, 22, 23, 24, 25, 26, 27, 28, 29, 30, 31, 32, 33, 0, 1, 2, 3, 4, 5, 6, 7, 8, 9, 10, 11, 12, 13, 34] (by decide) rfl
                    refine lv_istore (lv' := [(5, .int r_120), (0, .ref b), (1, .ref (ad 0)), (2, .ref (am 0)), (3, .ref ao), (4, .int x4)]) hx hb dL_law_619 hl (by decide) rfl (fun ls hl => ?_)
                    refine lv_aload_n hx hb dL_law_621 rfl (lv_at hl 3 rfl) ?_
                    refine lv_aload_n hx hb dL_law_622 rfl (lv_at hl 1 rfl) ?_
                    refine lv_iload hx hb dL_law_623 (lv_at hl 5 rfl) ?_
                    refine lv_iconst (v := 1) hx hb dL_law_625 (by decide) ?_
                    refine lv_iadd hx hb dL_law_626 ?_
                    obtain ⟨h_122, hw⟩ := hw
                    refine va_sld hx hb hX hbl hbA hS h_122 dL_law_627 ?_
                    have hPc := hP.sub (ws' := wMM cI cZ am Y A9.2.1) [20, 21, 22, 23, 24, 25, 26, 27, 28, 29, 30, 31, 32, 33] rfl
                    have hDc := hD.sub (ws' := wMM cI cZ am Y A9.2.1) [20, 21, 22, 23, 24, 25, 26, 27, 28, 29, 30, 31, 32, 33] (by decide) rfl
                    have hFc := va_free (wc := wMM cI cZ am Y A9.2.1) hD hS hA [20, 21, 22, 23, 24, 25, 26, 27, 28, 29, 30, 31, 32, 33] rfl
                    refine va_calli (va_runV (As := [.int (xs (x4 + 1).toNatClampNeg)]) (rest := []) ⟨hx, hb, hml, hown, hT⟩ (met_X4_feed l dC dI cI cZ cJ cL am H.size _ Y A9.2.1 (xs (x4 + 1).toNatClampNeg) hw) (cwV 1 hT (gV k_388 k_390 k_391 k_287 k_389) rfl rfl rfl (by decide +kernel) ⟨(Nat.le_of_ble_eq_true rfl), (Nat.le_of_ble_eq_true rfl)⟩) ⟨bl_W, va_recv hK hPc (ci := 4) (q0 := 0) rfl rfl, fun U hU hW => ⟨rfl, by rw [hU], by rw [hU]; exact hPc, va_K.moved hW.alike hK, hDc.weaken (fun _ _ _ _ => trivial)⟩⟩ rfl rfl hl.1 rfl (lv_room (Nat.le_of_ble_eq_true rfl)) dL_law_628 ⟨by show _ ≤ 601024; omega, by show _ ≤ 7293000; omega⟩) hS (fun q _ h => hFc q h) hFc (fun r_123 G_124 t H1 locs ht hvm hw hB hz1 hk1 hS => ?_)
                    obtain ⟨hP1, -, hD1⟩ := hB
                    try dsimp only at hw
                    rw [ht] at hP1
                    obtain ⟨hP, hD⟩ := va_join (wr := [(ad 0, .inr (3, [.ref (ad 1), .ref (ad 9), .ref (ad 10), .ref (ad 13), .ref (ad 16), .ref (ad 18), .int V9_121.1.2.2.2.2.2])), (ad 1, .inr (1, [.int S.1.1, .int S.1.2.1, .int S.1.2.2.1, .int S.1.2.2.2.1, .int S.1.2.2.2.2, .ref (ad 2), .ref (ad 3), .ref (ad 4), .ref (ad 5)])), (ad 2, .inl (cI, 6, .inl S.2.1.1)), (ad 3, .inl (cI, 6, .inl S.2.1.2.1)), (ad 4, .inl (cI, 6, .inl S.2.1.2.2)), (ad 5, .inl (cJ, 3, .inr (.inr (.inr (.inr (fun i => if i < 3 then some (ra i) else none)))))), (ra 0, .inl (cI, nl, .inl (S.2.2 0))), (ra 1, .inl (cI, nl, .inl (S.2.2 1))), (ra 2, .inl (cI, nl, .inl (S.2.2 2))), (ad 9, .inl (cI, nn, .inl V9_121.1.1)), (ad 10, .inr (2, [.ref (ad 11), .ref (ad 12), .int V9_121.1.2.1.2.2])), (ad 11, .inl (cI, nn, .inl V9_121.1.2.1.1)), (ad 12, .inl (cZ, nn, .inl V9_121.1.2.1.2.1)), (ad 13, .inr (2, [.ref (ad 14), .ref (ad 15), .int V9_121.1.2.2.1.2.2])), (ad 14, .inl (cI, nn, .inl V9_121.1.2.2.1.1)), (ad 15, .inl (cZ, nn, .inl V9_121.1.2.2.1.2.1)), (ad 16, .inr (0, [.ref (ad 17), .int V9_121.1.2.2.2.1.2.1, .int V9_121.1.2.2.2.1.2.2])), (ad 17, .inl (cI, 1250, .inl V9_121.1.2.2.2.1.1)), (ad 18, .inr (0, [.ref (ad 19), .int V9_121.1.2.2.2.2.1.2.1, .int V9_121.1.2.2.2.2.1.2.2])), (ad 19, .inl (cI, 1250, .inl V9_121.1.2.2.2.2.1.1)), (ao, .inl (cL, 1, .inr (.inl V9_121.2)))]) (w1 := wMM cI cZ am Y G_124) hP hD [20, 21, 22, 23, 24, 25, 26, 27, 28, 29, 30, 31, 32, 33] [0, 1, 2, 3, 4, 5, 6, 7, 8, 9, 10, 11, 12, 13, 14, 15, 16, 17, 18, 19, 34] rfl rfl (by decide) (by decide) hk1 hFc hP1 hD1
                    generalize H1 = H at hP hS ⊢
                    have hP := hP.sub (ws' := wLA cI cZ cJ cL nl nn ad ra am ao S Y (V9_121.1, G_124, V9_121.2)) [0, 1, 2, 3, 4, 5, 6, 7, 8, 9, 10, 11, 12, 13, 14, 15, 16, 17, 18, 19, 21, 22, 23, 24, 25, 26, 27, 28, 29, 30, 31, 32, 33, 34, 20] rfl
                    have hD := hD.sub (ws' := wLA cI cZ cJ cL nl nn ad ra am ao S Y (V9_121.1, G_124, V9_121.2)) [0, 1, 2, 3, 4, 5, 6, 7, 8, 9, 10, 11, 12, 13, 14, 15, 16, 17, 18, 19, 21, 22, 23, 24, 25, 26, 27, 28, 29, 30, 31, 32, 33, 34, 20] (by decide) rfl
                    refine lv_istore (lv' := [(6, .int r_123), (5, .int r_120), (0, .ref b), (1, .ref (ad 0)), (2, .ref (am 0)), (3, .ref ao), (4, .int x4)]) hx hb dL_law_631 hl (by decide) rfl (fun ls hl => ?_)
                    refine lv_aload_n hx hb dL_law_633 rfl (lv_at hl 4 rfl) ?_
                    have hPc := hP.sub (ws' := wMM cI cZ am Y G_124) [20, 21, 22, 23, 24, 25, 26, 27, 28, 29, 30, 31, 32, 33] rfl
                    refine vp_callSi (W.runV (As := []) (rest := []) ⟨hx, hb, hml, hown, hT⟩ (met_X4_thrown l dC dI cI cZ cJ cL am _ Y G_124  hw) (cwV 0 hT (gV k_346 k_348 k_349 k_287 k_347) rfl rfl rfl (by decide +kernel) ⟨(Nat.le_of_ble_eq_true rfl), (Nat.le_of_ble_eq_true rfl)⟩) ⟨bl_R, va_recv hK hPc (ci := 4) (q0 := 0) rfl rfl, fun U hU hW => ⟨rfl, by rw [hU]; exact hPc, va_K.moved hW.alike hK⟩⟩ rfl rfl hl.1 rfl (lv_room (Nat.le_of_ble_eq_true rfl)) dL_law_634 ⟨by show _ ≤ 601024; omega, by show _ ≤ 7293000; omega⟩) (fun r_125 hw => ?_)
                    try dsimp only at hw
                    refine lv_iload hx hb dL_law_637 (lv_at hl 1 rfl) ?_
                    refine lv_icmp_eq (tgt := 644) hx hb dL_law_639 (by decide) (fun c_126 => ?_) (fun c_126 => ?_)
                    · have hw := hw.1 c_126
                      refine lv_iload hx hb dL_law_644 (lv_at hl 1 rfl) ?_
                      refine lv_if_ne (tgt := 661) hx hb dL_law_646 (by decide) (fun c_127 => ?_) (fun c_127 => ?_)
                      · have hw := hw.2 c_127
                        refine lv_goto (tgt := 1228) hx hb dL_law_661 (by decide) ?_
                        obtain ⟨x4_128, ex4_128⟩ : ∃ y : Int32, y = x4 + 6 := ⟨_, rfl⟩
                        have hw := hw x4_128 ex4_128
                        refine lv_iinc (v := x4_128) (lv' := [(4, .int x4_128), (6, .int r_123), (5, .int r_120), (0, .ref b), (1, .ref (ad 0)), (2, .ref (am 0)), (3, .ref ao)]) hx hb dL_law_1228 hl (k := 6) rfl (by rw [ex4_128]; rfl) (by decide) rfl (fun ls hl => ?_)
                        refine lv_goto (tgt := 43) hx hb dL_law_1231 (by decide) ?_
                        refine W.widen (k := 601024 - 4 * n) (n := 7293000 - 24 * n) (by omega) (by omega) ?_
                        exact ih (by omega) (V9_121.1, G_124, V9_121.2) x4_128 hw _ _ _ hP hD hS (lv_sub hl [3, 4, 5, 6, 0] rfl)
                      · have hw := hw.1 c_127
                        refine lv_aload_n hx hb dL_law_649 rfl (lv_at hl 5 rfl) ?_
                        refine lv_iconst (v := 0) hx hb dL_law_650 (by decide) ?_
                        obtain ⟨h_129, hw⟩ := hw
                        refine va_lald hx hb hK hP 34 3 rfl rfl h_129 dL_law_651 ?_
                        refine lv_iload hx hb dL_law_652 (lv_at hl 0 rfl) ?_
                        refine lv_i2l hx hb dL_law_654 rfl ?_
                        refine W.lcmp hx hb dL_law_655 ?_
                        refine lv_if_eq (tgt := 661) hx hb dL_law_656 (by decide) (fun c_130 => ?_) (fun c_130 => ?_)
                        · have hw := hw.1 c_130
                          refine lv_goto (tgt := 1228) hx hb dL_law_661 (by decide) ?_
                          obtain ⟨x4_131, ex4_131⟩ : ∃ y : Int32, y = x4 + 6 := ⟨_, rfl⟩
                          have hw := hw x4_131 ex4_131
                          refine lv_iinc (v := x4_131) (lv' := [(4, .int x4_131), (6, .int r_123), (5, .int r_120), (0, .ref b), (1, .ref (ad 0)), (2, .ref (am 0)), (3, .ref ao)]) hx hb dL_law_1228 hl (k := 6) rfl (by rw [ex4_131]; rfl) (by decide) rfl (fun ls hl => ?_)
                          refine lv_goto (tgt := 43) hx hb dL_law_1231 (by decide) ?_
                          refine W.widen (k := 601024 - 4 * n) (n := 7293000 - 24 * n) (by omega) (by omega) ?_
                          exact ih (by omega) (V9_121.1, G_124, V9_121.2) x4_131 hw _ _ _ hP hD hS (lv_sub hl [3, 4, 5, 6, 0] rfl)
                        · have hw := hw.2 c_130
                          refine lv_iconst (v := 0) hx hb dL_law_659 (by decide) ?_
                          exact hw.elim
                    · have hw := hw.2 c_126
                      refine lv_iconst (v := 0) hx hb dL_law_642 (by decide) ?_
                      exact hw.elim
                  · have hw := hw.2
                    rcases Classical.em (((xs x4.toNatClampNeg) &&& 15) = 7) with c_10 | c_10
                    · have hw := hw.1 c_10
                      refine lv_tableIn (off := 604) (tgt := 664) hx hb dL_law_60 (by rw [c_10]; decide) (by rw [c_10]; decide) (by rw [c_10]; rfl) (by decide) ?_
                      refine lv_aload_n hx hb dL_law_664 rfl (lv_at hl 1 rfl) ?_
                      refine lv_aload_n hx hb dL_law_665 rfl (lv_at hl 0 rfl) ?_
                      refine lv_iload hx hb dL_law_666 (lv_at hl 4 rfl) ?_
                      refine lv_iconst (v := 1) hx hb dL_law_668 (by decide) ?_
                      refine lv_iadd hx hb dL_law_669 ?_
                      obtain ⟨h_132, hw⟩ := hw
                      refine va_sld hx hb hX hbl hbA hS h_132 dL_law_670 ?_
                      refine lv_aload_n hx hb dL_law_671 rfl (lv_at hl 3 rfl) ?_
                      have hPc := hP.sub (ws' := wLW cI cZ cJ cL nl nn ad ra ao S (A9.1, A9.2.2)) [0, 1, 2, 3, 4, 5, 6, 7, 8, 9, 10, 11, 12, 13, 14, 15, 16, 17, 18, 19, 34] rfl
                      have hDc := hD.sub (ws' := wLW cI cZ cJ cL nl nn ad ra ao S (A9.1, A9.2.2)) [0, 1, 2, 3, 4, 5, 6, 7, 8, 9, 10, 11, 12, 13, 14, 15, 16, 17, 18, 19, 34] (by decide) rfl
                      have hFc := va_free (wc := wLW cI cZ cJ cL nl nn ad ra ao S (A9.1, A9.2.2)) hD hS hA [0, 1, 2, 3, 4, 5, 6, 7, 8, 9, 10, 11, 12, 13, 14, 15, 16, 17, 18, 19, 34] rfl
                      refine va_calli (vx_runSW (As := [.ref (ad 0), .int (xs (x4 + 1).toNatClampNeg), .ref ao]) (rest := []) ⟨hx, hb, hml, hown, hT⟩ (met_L_pass l hl9 dC dI cI cZ cJ cL sa ad ra ao H.size _ nl nn S (A9.1, A9.2.2) (xs (x4 + 1).toNatClampNeg) hw) (vx_cwSW 3 hT (gS k_392 k_394 k_341 k_393) rfl rfl rfl (by decide +kernel) ⟨(Nat.le_of_ble_eq_true rfl), (Nat.le_of_ble_eq_true rfl)⟩) ⟨bl_L, fun U hU hW => ⟨rfl, by rw [hU], by rw [hU]; exact hPc, va_K.moved hW.alike hK, hDc.weaken (fun _ _ _ _ => trivial), hZ.call hW hU hS hFc, fun q h => va_Nc.moved hW.alike (hN q h)⟩⟩ rfl rfl hl.1 rfl (lv_room (Nat.le_of_ble_eq_true rfl)) dL_law_672 ⟨by show _ ≤ 601024; omega, by show _ ≤ 7293000; omega⟩) hS (fun q _ h => hFc q h) hFc (fun r_133 V9_134 t H1 locs ht hvm hw hB hz1 hk1 hS => ?_)
                      obtain ⟨hP1, -, hD1⟩ := hB
                      try dsimp only at hw
                      rw [ht] at hP1
                      obtain ⟨hP, hD⟩ := va_join (wr := [(am 0, .inr (4, [.int A9.2.1.1, .int Y.1.1, .int Y.1.2.1, .int Y.1.2.2.1, .ref (am 1), .ref (am 2), .ref (am 3), .int Y.1.2.2.2, .ref (am 4), .ref (am 5), .ref (am 6), .ref (am 7), .int A9.2.1.2.2.2.2.1.2.1, .int A9.2.1.2.2.2.2.1.2.2, .ref (am 8), .int A9.2.1.2.2.2.2.2.1.2.1, .int A9.2.1.2.2.2.2.2.1.2.2, .ref (am 9), .ref (am 10), .ref (am 11), .int A9.2.1.2.2.2.2.2.2.1.2.2.2, .ref (am 12), .ref (am 13)])), (am 1, .inl (cI, 8, .inl Y.2.1)), (am 2, .inl (cI, 8, .inl Y.2.2.1)), (am 3, .inl (cI, 8, .inl Y.2.2.2)), (am 4, .inl (cI, 1400, .inl A9.2.1.2.1)), (am 5, .inl (cI, 2800, .inl A9.2.1.2.2.1)), (am 6, .inl (cZ, 2800, .inl A9.2.1.2.2.2.1)), (am 7, .inl (cZ, 40000, .inl A9.2.1.2.2.2.2.1.1)), (am 8, .inl (cZ, 40000, .inl A9.2.1.2.2.2.2.2.1.1)), (am 9, .inl (cI, 8, .inl A9.2.1.2.2.2.2.2.2.1.1)), (am 10, .inl (cI, 8, .inl A9.2.1.2.2.2.2.2.2.1.2.1)), (am 11, .inl (cZ, 8, .inl A9.2.1.2.2.2.2.2.2.1.2.2.1)), (am 12, .inl (cI, 1400, .inl A9.2.1.2.2.2.2.2.2.2.1)), (am 13, .inl (cZ, 1400, .inl A9.2.1.2.2.2.2.2.2.2.2))]) (w1 := wLW cI cZ cJ cL nl nn ad ra ao S V9_134) hP hD [0, 1, 2, 3, 4, 5, 6, 7, 8, 9, 10, 11, 12, 13, 14, 15, 16, 17, 18, 19, 34] [20, 21, 22, 23, 24, 25, 26, 27, 28, 29, 30, 31, 32, 33] rfl rfl (by decide) (by decide) hk1 hFc hP1 hD1
                      generalize H1 = H at hP hS ⊢
                      have hP := hP.sub (ws' := wLA cI cZ cJ cL nl nn ad ra am ao S Y (V9_134.1, A9.2.1, V9_134.2)) [14, 15, 16, 17, 18, 19, 20, 21, 22, 23, 24, 25, 26, 27, 28, 29, 30, 31, 32, 33, 0, 1, 2, 3, 4, 5, 6, 7, 8, 9, 10, 11, 12, 13, 34] rfl
                      have hD := hD.sub (ws' := wLA cI cZ cJ cL nl nn ad ra am ao S Y (V9_134.1, A9.2.1, V9_134.2)) [14, 15, 16, 17, 18, 19, 20, 21, 22, 23, 24, 25, 26, 27, 28, 29, 30, 31, 32, 33, 0, 1, 2, 3, 4, 5, 6, 7, 8, 9, 10, 11, 12, 13, 34] (by decide) rfl
                      refine lv_istore (lv' := [(5, .int r_133), (0, .ref b), (1, .ref (ad 0)), (2, .ref (am 0)), (3, .ref ao), (4, .int x4)]) hx hb dL_law_675 hl (by decide) rfl (fun ls hl => ?_)
                      refine lv_aload_n hx hb dL_law_677 rfl (lv_at hl 3 rfl) ?_
                      refine lv_aload_n hx hb dL_law_678 rfl (lv_at hl 1 rfl) ?_
                      refine lv_iload hx hb dL_law_679 (lv_at hl 5 rfl) ?_
                      refine lv_iconst (v := 1) hx hb dL_law_681 (by decide) ?_
                      refine lv_iadd hx hb dL_law_682 ?_
                      obtain ⟨h_135, hw⟩ := hw
                      refine va_sld hx hb hX hbl hbA hS h_135 dL_law_683 ?_
                      have hPc := hP.sub (ws' := wMM cI cZ am Y A9.2.1) [20, 21, 22, 23, 24, 25, 26, 27, 28, 29, 30, 31, 32, 33] rfl
                      have hDc := hD.sub (ws' := wMM cI cZ am Y A9.2.1) [20, 21, 22, 23, 24, 25, 26, 27, 28, 29, 30, 31, 32, 33] (by decide) rfl
                      have hFc := va_free (wc := wMM cI cZ am Y A9.2.1) hD hS hA [20, 21, 22, 23, 24, 25, 26, 27, 28, 29, 30, 31, 32, 33] rfl
                      refine va_calli (va_runV (As := [.int (xs (x4 + 1).toNatClampNeg)]) (rest := []) ⟨hx, hb, hml, hown, hT⟩ (met_X4_pass l dC dI cI cZ cJ cL am H.size _ Y A9.2.1 (xs (x4 + 1).toNatClampNeg) hw) (cwV 1 hT (gV k_395 k_397 k_398 k_287 k_396) rfl rfl rfl (by decide +kernel) ⟨(Nat.le_of_ble_eq_true rfl), (Nat.le_of_ble_eq_true rfl)⟩) ⟨bl_W, va_recv hK hPc (ci := 4) (q0 := 0) rfl rfl, fun U hU hW => ⟨rfl, by rw [hU], by rw [hU]; exact hPc, va_K.moved hW.alike hK, hDc.weaken (fun _ _ _ _ => trivial)⟩⟩ rfl rfl hl.1 rfl (lv_room (Nat.le_of_ble_eq_true rfl)) dL_law_684 ⟨by show _ ≤ 601024; omega, by show _ ≤ 7293000; omega⟩) hS (fun q _ h => hFc q h) hFc (fun r_136 G_137 t H1 locs ht hvm hw hB hz1 hk1 hS => ?_)
                      obtain ⟨hP1, -, hD1⟩ := hB
                      try dsimp only at hw
                      rw [ht] at hP1
                      obtain ⟨hP, hD⟩ := va_join (wr := [(ad 0, .inr (3, [.ref (ad 1), .ref (ad 9), .ref (ad 10), .ref (ad 13), .ref (ad 16), .ref (ad 18), .int V9_134.1.2.2.2.2.2])), (ad 1, .inr (1, [.int S.1.1, .int S.1.2.1, .int S.1.2.2.1, .int S.1.2.2.2.1, .int S.1.2.2.2.2, .ref (ad 2), .ref (ad 3), .ref (ad 4), .ref (ad 5)])), (ad 2, .inl (cI, 6, .inl S.2.1.1)), (ad 3, .inl (cI, 6, .inl S.2.1.2.1)), (ad 4, .inl (cI, 6, .inl S.2.1.2.2)), (ad 5, .inl (cJ, 3, .inr (.inr (.inr (.inr (fun i => if i < 3 then some (ra i) else none)))))), (ra 0, .inl (cI, nl, .inl (S.2.2 0))), (ra 1, .inl (cI, nl, .inl (S.2.2 1))), (ra 2, .inl (cI, nl, .inl (S.2.2 2))), (ad 9, .inl (cI, nn, .inl V9_134.1.1)), (ad 10, .inr (2, [.ref (ad 11), .ref (ad 12), .int V9_134.1.2.1.2.2])), (ad 11, .inl (cI, nn, .inl V9_134.1.2.1.1)), (ad 12, .inl (cZ, nn, .inl V9_134.1.2.1.2.1)), (ad 13, .inr (2, [.ref (ad 14), .ref (ad 15), .int V9_134.1.2.2.1.2.2])), (ad 14, .inl (cI, nn, .inl V9_134.1.2.2.1.1)), (ad 15, .inl (cZ, nn, .inl V9_134.1.2.2.1.2.1)), (ad 16, .inr (0, [.ref (ad 17), .int V9_134.1.2.2.2.1.2.1, .int V9_134.1.2.2.2.1.2.2])), (ad 17, .inl (cI, 1250, .inl V9_134.1.2.2.2.1.1)), (ad 18, .inr (0, [.ref (ad 19), .int V9_134.1.2.2.2.2.1.2.1, .int V9_134.1.2.2.2.2.1.2.2])), (ad 19, .inl (cI, 1250, .inl V9_134.1.2.2.2.2.1.1)), (ao, .inl (cL, 1, .inr (.inl V9_134.2)))]) (w1 := wMM cI cZ am Y G_137) hP hD [20, 21, 22, 23, 24, 25, 26, 27, 28, 29, 30, 31, 32, 33] [0, 1, 2, 3, 4, 5, 6, 7, 8, 9, 10, 11, 12, 13, 14, 15, 16, 17, 18, 19, 34] rfl rfl (by decide) (by decide) hk1 hFc hP1 hD1
                      generalize H1 = H at hP hS ⊢
                      have hP := hP.sub (ws' := wLA cI cZ cJ cL nl nn ad ra am ao S Y (V9_134.1, G_137, V9_134.2)) [0, 1, 2, 3, 4, 5, 6, 7, 8, 9, 10, 11, 12, 13, 14, 15, 16, 17, 18, 19, 21, 22, 23, 24, 25, 26, 27, 28, 29, 30, 31, 32, 33, 34, 20] rfl
                      have hD := hD.sub (ws' := wLA cI cZ cJ cL nl nn ad ra am ao S Y (V9_134.1, G_137, V9_134.2)) [0, 1, 2, 3, 4, 5, 6, 7, 8, 9, 10, 11, 12, 13, 14, 15, 16, 17, 18, 19, 21, 22, 23, 24, 25, 26, 27, 28, 29, 30, 31, 32, 33, 34, 20] (by decide) rfl
                      refine lv_istore (lv' := [(6, .int r_136), (5, .int r_133), (0, .ref b), (1, .ref (ad 0)), (2, .ref (am 0)), (3, .ref ao), (4, .int x4)]) hx hb dL_law_687 hl (by decide) rfl (fun ls hl => ?_)
                      refine lv_aload_n hx hb dL_law_689 rfl (lv_at hl 4 rfl) ?_
                      have hPc := hP.sub (ws' := wMM cI cZ am Y G_137) [20, 21, 22, 23, 24, 25, 26, 27, 28, 29, 30, 31, 32, 33] rfl
                      refine vp_callSi (W.runV (As := []) (rest := []) ⟨hx, hb, hml, hown, hT⟩ (met_X4_thrown l dC dI cI cZ cJ cL am _ Y G_137  hw) (cwV 0 hT (gV k_346 k_348 k_349 k_287 k_347) rfl rfl rfl (by decide +kernel) ⟨(Nat.le_of_ble_eq_true rfl), (Nat.le_of_ble_eq_true rfl)⟩) ⟨bl_R, va_recv hK hPc (ci := 4) (q0 := 0) rfl rfl, fun U hU hW => ⟨rfl, by rw [hU]; exact hPc, va_K.moved hW.alike hK⟩⟩ rfl rfl hl.1 rfl (lv_room (Nat.le_of_ble_eq_true rfl)) dL_law_690 ⟨by show _ ≤ 601024; omega, by show _ ≤ 7293000; omega⟩) (fun r_138 hw => ?_)
                      try dsimp only at hw
                      refine lv_iload hx hb dL_law_693 (lv_at hl 1 rfl) ?_
                      refine lv_icmp_eq (tgt := 700) hx hb dL_law_695 (by decide) (fun c_139 => ?_) (fun c_139 => ?_)
                      · have hw := hw.1 c_139
                        refine lv_iload hx hb dL_law_700 (lv_at hl 1 rfl) ?_
                        refine lv_if_ne (tgt := 717) hx hb dL_law_702 (by decide) (fun c_140 => ?_) (fun c_140 => ?_)
                        · have hw := hw.2 c_140
                          refine lv_goto (tgt := 1228) hx hb dL_law_717 (by decide) ?_
                          obtain ⟨x4_141, ex4_141⟩ : ∃ y : Int32, y = x4 + 6 := ⟨_, rfl⟩
                          have hw := hw x4_141 ex4_141
                          refine lv_iinc (v := x4_141) (lv' := [(4, .int x4_141), (6, .int r_136), (5, .int r_133), (0, .ref b), (1, .ref (ad 0)), (2, .ref (am 0)), (3, .ref ao)]) hx hb dL_law_1228 hl (k := 6) rfl (by rw [ex4_141]; rfl) (by decide) rfl (fun ls hl => ?_)
                          refine lv_goto (tgt := 43) hx hb dL_law_1231 (by decide) ?_
                          refine W.widen (k := 601024 - 4 * n) (n := 7293000 - 24 * n) (by omega) (by omega) ?_
                          exact ih (by omega) (V9_134.1, G_137, V9_134.2) x4_141 hw _ _ _ hP hD hS (lv_sub hl [3, 4, 5, 6, 0] rfl)
                        · have hw := hw.1 c_140
                          refine lv_aload_n hx hb dL_law_705 rfl (lv_at hl 5 rfl) ?_
                          refine lv_iconst (v := 0) hx hb dL_law_706 (by decide) ?_
                          obtain ⟨h_142, hw⟩ := hw
                          refine va_lald hx hb hK hP 34 3 rfl rfl h_142 dL_law_707 ?_
                          refine lv_iload hx hb dL_law_708 (lv_at hl 0 rfl) ?_
                          refine lv_i2l hx hb dL_law_710 rfl ?_
                          refine W.lcmp hx hb dL_law_711 ?_
                          refine lv_if_eq (tgt := 717) hx hb dL_law_712 (by decide) (fun c_143 => ?_) (fun c_143 => ?_)
                          · have hw := hw.1 c_143
                            refine lv_goto (tgt := 1228) hx hb dL_law_717 (by decide) ?_
                            obtain ⟨x4_144, ex4_144⟩ : ∃ y : Int32, y = x4 + 6 := ⟨_, rfl⟩
                            have hw := hw x4_144 ex4_144
                            refine lv_iinc (v := x4_144) (lv' := [(4, .int x4_144), (6, .int r_136), (5, .int r_133), (0, .ref b), (1, .ref (ad 0)), (2, .ref (am 0)), (3, .ref ao)]) hx hb dL_law_1228 hl (k := 6) rfl (by rw [ex4_144]; rfl) (by decide) rfl (fun ls hl => ?_)
                            refine lv_goto (tgt := 43) hx hb dL_law_1231 (by decide) ?_
                            refine W.widen (k := 601024 - 4 * n) (n := 7293000 - 24 * n) (by omega) (by omega) ?_
                            exact ih (by omega) (V9_134.1, G_137, V9_134.2) x4_144 hw _ _ _ hP hD hS (lv_sub hl [3, 4, 5, 6, 0] rfl)
                          · have hw := hw.2 c_143
                            refine lv_iconst (v := 0) hx hb dL_law_715 (by decide) ?_
                            exact hw.elim
                      · have hw := hw.2 c_139
                        refine lv_iconst (v := 0) hx hb dL_law_698 (by decide) ?_
                        exact hw.elim
                    · have hw := hw.2
                      rcases Classical.em (((xs x4.toNatClampNeg) &&& 15) = 8) with c_11 | c_11
                      · have hw := hw.1 c_11
                        refine lv_tableIn (off := 660) (tgt := 720) hx hb dL_law_60 (by rw [c_11]; decide) (by rw [c_11]; decide) (by rw [c_11]; rfl) (by decide) ?_
                        refine lv_aload_n hx hb dL_law_720 rfl (lv_at hl 1 rfl) ?_
                        refine lv_aload_n hx hb dL_law_721 rfl (lv_at hl 0 rfl) ?_
                        refine lv_iload hx hb dL_law_722 (lv_at hl 4 rfl) ?_
                        refine lv_iconst (v := 1) hx hb dL_law_724 (by decide) ?_
                        refine lv_iadd hx hb dL_law_725 ?_
                        obtain ⟨h_145, hw⟩ := hw
                        refine va_sld hx hb hX hbl hbA hS h_145 dL_law_726 ?_
                        refine lv_aload_n hx hb dL_law_727 rfl (lv_at hl 0 rfl) ?_
                        refine lv_iload hx hb dL_law_728 (lv_at hl 4 rfl) ?_
                        refine lv_iconst (v := 2) hx hb dL_law_730 (by decide) ?_
                        refine lv_iadd hx hb dL_law_731 ?_
                        obtain ⟨h_146, hw⟩ := hw
                        refine va_sld hx hb hX hbl hbA hS h_146 dL_law_732 ?_
                        refine lv_aload_n hx hb dL_law_733 rfl (lv_at hl 0 rfl) ?_
                        refine lv_iload hx hb dL_law_734 (lv_at hl 4 rfl) ?_
                        refine lv_iconst (v := 3) hx hb dL_law_736 (by decide) ?_
                        refine lv_iadd hx hb dL_law_737 ?_
                        obtain ⟨h_147, hw⟩ := hw
                        refine va_sld hx hb hX hbl hbA hS h_147 dL_law_738 ?_
                        refine lv_aload_n hx hb dL_law_739 rfl (lv_at hl 3 rfl) ?_
                        have hPc := hP.sub (ws' := wLW cI cZ cJ cL nl nn ad ra ao S (A9.1, A9.2.2)) [0, 1, 2, 3, 4, 5, 6, 7, 8, 9, 10, 11, 12, 13, 14, 15, 16, 17, 18, 19, 34] rfl
                        have hDc := hD.sub (ws' := wLW cI cZ cJ cL nl nn ad ra ao S (A9.1, A9.2.2)) [0, 1, 2, 3, 4, 5, 6, 7, 8, 9, 10, 11, 12, 13, 14, 15, 16, 17, 18, 19, 34] (by decide) rfl
                        have hFc := va_free (wc := wLW cI cZ cJ cL nl nn ad ra ao S (A9.1, A9.2.2)) hD hS hA [0, 1, 2, 3, 4, 5, 6, 7, 8, 9, 10, 11, 12, 13, 14, 15, 16, 17, 18, 19, 34] rfl
                        refine va_calli (vx_runSW (As := [.ref (ad 0), .int (xs (x4 + 1).toNatClampNeg), .int (xs (x4 + 2).toNatClampNeg), .int (xs (x4 + 3).toNatClampNeg), .ref ao]) (rest := []) ⟨hx, hb, hml, hown, hT⟩ (met_L_decode l hl9 dC dI cI cZ cJ cL sa ad ra ao H.size _ nl nn S (A9.1, A9.2.2) (xs (x4 + 1).toNatClampNeg) (xs (x4 + 2).toNatClampNeg) (xs (x4 + 3).toNatClampNeg) hw) (vx_cwSW 5 hT (gS k_399 k_401 k_341 k_400) rfl rfl rfl (by decide +kernel) ⟨(Nat.le_of_ble_eq_true rfl), (Nat.le_of_ble_eq_true rfl)⟩) ⟨bl_L, fun U hU hW => ⟨rfl, by rw [hU], by rw [hU]; exact hPc, va_K.moved hW.alike hK, hDc.weaken (fun _ _ _ _ => trivial), hZ.call hW hU hS hFc, fun q h => va_Nc.moved hW.alike (hN q h)⟩⟩ rfl rfl hl.1 rfl (lv_room (Nat.le_of_ble_eq_true rfl)) dL_law_740 ⟨by show _ ≤ 601024; omega, by show _ ≤ 7293000; omega⟩) hS (fun q _ h => hFc q h) hFc (fun r_148 V9_149 t H1 locs ht hvm hw hB hz1 hk1 hS => ?_)
                        obtain ⟨hP1, -, hD1⟩ := hB
                        try dsimp only at hw
                        rw [ht] at hP1
                        obtain ⟨hP, hD⟩ := va_join (wr := [(am 0, .inr (4, [.int A9.2.1.1, .int Y.1.1, .int Y.1.2.1, .int Y.1.2.2.1, .ref (am 1), .ref (am 2), .ref (am 3), .int Y.1.2.2.2, .ref (am 4), .ref (am 5), .ref (am 6), .ref (am 7), .int A9.2.1.2.2.2.2.1.2.1, .int A9.2.1.2.2.2.2.1.2.2, .ref (am 8), .int A9.2.1.2.2.2.2.2.1.2.1, .int A9.2.1.2.2.2.2.2.1.2.2, .ref (am 9), .ref (am 10), .ref (am 11), .int A9.2.1.2.2.2.2.2.2.1.2.2.2, .ref (am 12), .ref (am 13)])), (am 1, .inl (cI, 8, .inl Y.2.1)), (am 2, .inl (cI, 8, .inl Y.2.2.1)), (am 3, .inl (cI, 8, .inl Y.2.2.2)), (am 4, .inl (cI, 1400, .inl A9.2.1.2.1)), (am 5, .inl (cI, 2800, .inl A9.2.1.2.2.1)), (am 6, .inl (cZ, 2800, .inl A9.2.1.2.2.2.1)), (am 7, .inl (cZ, 40000, .inl A9.2.1.2.2.2.2.1.1)), (am 8, .inl (cZ, 40000, .inl A9.2.1.2.2.2.2.2.1.1)), (am 9, .inl (cI, 8, .inl A9.2.1.2.2.2.2.2.2.1.1)), (am 10, .inl (cI, 8, .inl A9.2.1.2.2.2.2.2.2.1.2.1)), (am 11, .inl (cZ, 8, .inl A9.2.1.2.2.2.2.2.2.1.2.2.1)), (am 12, .inl (cI, 1400, .inl A9.2.1.2.2.2.2.2.2.2.1)), (am 13, .inl (cZ, 1400, .inl A9.2.1.2.2.2.2.2.2.2.2))]) (w1 := wLW cI cZ cJ cL nl nn ad ra ao S V9_149) hP hD [0, 1, 2, 3, 4, 5, 6, 7, 8, 9, 10, 11, 12, 13, 14, 15, 16, 17, 18, 19, 34] [20, 21, 22, 23, 24, 25, 26, 27, 28, 29, 30, 31, 32, 33] rfl rfl (by decide) (by decide) hk1 hFc hP1 hD1
                        generalize H1 = H at hP hS ⊢
                        have hP := hP.sub (ws' := wLA cI cZ cJ cL nl nn ad ra am ao S Y (V9_149.1, A9.2.1, V9_149.2)) [14, 15, 16, 17, 18, 19, 20, 21, 22, 23, 24, 25, 26, 27, 28, 29, 30, 31, 32, 33, 0, 1, 2, 3, 4, 5, 6, 7, 8, 9, 10, 11, 12, 13, 34] rfl
                        have hD := hD.sub (ws' := wLA cI cZ cJ cL nl nn ad ra am ao S Y (V9_149.1, A9.2.1, V9_149.2)) [14, 15, 16, 17, 18, 19, 20, 21, 22, 23, 24, 25, 26, 27, 28, 29, 30, 31, 32, 33, 0, 1, 2, 3, 4, 5, 6, 7, 8, 9, 10, 11, 12, 13, 34] (by decide) rfl
                        refine lv_istore (lv' := [(5, .int r_148), (0, .ref b), (1, .ref (ad 0)), (2, .ref (am 0)), (3, .ref ao), (4, .int x4)]) hx hb dL_law_743 hl (by decide) rfl (fun ls hl => ?_)
                        refine lv_aload_n hx hb dL_law_745 rfl (lv_at hl 3 rfl) ?_
                        refine lv_aload_n hx hb dL_law_746 rfl (lv_at hl 1 rfl) ?_
                        refine lv_iload hx hb dL_law_747 (lv_at hl 5 rfl) ?_
                        refine lv_iconst (v := 1) hx hb dL_law_749 (by decide) ?_
                        refine lv_iadd hx hb dL_law_750 ?_
                        obtain ⟨h_150, hw⟩ := hw
                        refine va_sld hx hb hX hbl hbA hS h_150 dL_law_751 ?_
                        refine lv_aload_n hx hb dL_law_752 rfl (lv_at hl 1 rfl) ?_
                        refine lv_iload hx hb dL_law_753 (lv_at hl 5 rfl) ?_
                        refine lv_iconst (v := 2) hx hb dL_law_755 (by decide) ?_
                        refine lv_iadd hx hb dL_law_756 ?_
                        obtain ⟨h_151, hw⟩ := hw
                        refine va_sld hx hb hX hbl hbA hS h_151 dL_law_757 ?_
                        refine lv_aload_n hx hb dL_law_758 rfl (lv_at hl 1 rfl) ?_
                        refine lv_iload hx hb dL_law_759 (lv_at hl 5 rfl) ?_
                        refine lv_iconst (v := 3) hx hb dL_law_761 (by decide) ?_
                        refine lv_iadd hx hb dL_law_762 ?_
                        obtain ⟨h_152, hw⟩ := hw
                        refine va_sld hx hb hX hbl hbA hS h_152 dL_law_763 ?_
                        have hPc := hP.sub (ws' := wMM cI cZ am Y A9.2.1) [20, 21, 22, 23, 24, 25, 26, 27, 28, 29, 30, 31, 32, 33] rfl
                        have hDc := hD.sub (ws' := wMM cI cZ am Y A9.2.1) [20, 21, 22, 23, 24, 25, 26, 27, 28, 29, 30, 31, 32, 33] (by decide) rfl
                        have hFc := va_free (wc := wMM cI cZ am Y A9.2.1) hD hS hA [20, 21, 22, 23, 24, 25, 26, 27, 28, 29, 30, 31, 32, 33] rfl
                        refine va_calli (va_runV (As := [.int (xs (x4 + 1).toNatClampNeg), .int (xs (x4 + 2).toNatClampNeg), .int (xs (x4 + 3).toNatClampNeg)]) (rest := []) ⟨hx, hb, hml, hown, hT⟩ (met_X4_decode l dC dI cI cZ cJ cL am H.size _ Y A9.2.1 (xs (x4 + 1).toNatClampNeg) (xs (x4 + 2).toNatClampNeg) (xs (x4 + 3).toNatClampNeg) hw) (cwV 3 hT (gV k_402 k_404 k_405 k_287 k_403) rfl rfl rfl (by decide +kernel) ⟨(Nat.le_of_ble_eq_true rfl), (Nat.le_of_ble_eq_true rfl)⟩) ⟨bl_W, va_recv hK hPc (ci := 4) (q0 := 0) rfl rfl, fun U hU hW => ⟨rfl, by rw [hU], by rw [hU]; exact hPc, va_K.moved hW.alike hK, hDc.weaken (fun _ _ _ _ => trivial)⟩⟩ rfl rfl hl.1 rfl (lv_room (Nat.le_of_ble_eq_true rfl)) dL_law_764 ⟨by show _ ≤ 601024; omega, by show _ ≤ 7293000; omega⟩) hS (fun q _ h => hFc q h) hFc (fun r_153 G_154 t H1 locs ht hvm hw hB hz1 hk1 hS => ?_)
                        obtain ⟨hP1, -, hD1⟩ := hB
                        try dsimp only at hw
                        rw [ht] at hP1
                        obtain ⟨hP, hD⟩ := va_join (wr := [(ad 0, .inr (3, [.ref (ad 1), .ref (ad 9), .ref (ad 10), .ref (ad 13), .ref (ad 16), .ref (ad 18), .int V9_149.1.2.2.2.2.2])), (ad 1, .inr (1, [.int S.1.1, .int S.1.2.1, .int S.1.2.2.1, .int S.1.2.2.2.1, .int S.1.2.2.2.2, .ref (ad 2), .ref (ad 3), .ref (ad 4), .ref (ad 5)])), (ad 2, .inl (cI, 6, .inl S.2.1.1)), (ad 3, .inl (cI, 6, .inl S.2.1.2.1)), (ad 4, .inl (cI, 6, .inl S.2.1.2.2)), (ad 5, .inl (cJ, 3, .inr (.inr (.inr (.inr (fun i => if i < 3 then some (ra i) else none)))))), (ra 0, .inl (cI, nl, .inl (S.2.2 0))), (ra 1, .inl (cI, nl, .inl (S.2.2 1))), (ra 2, .inl (cI, nl, .inl (S.2.2 2))), (ad 9, .inl (cI, nn, .inl V9_149.1.1)), (ad 10, .inr (2, [.ref (ad 11), .ref (ad 12), .int V9_149.1.2.1.2.2])), (ad 11, .inl (cI, nn, .inl V9_149.1.2.1.1)), (ad 12, .inl (cZ, nn, .inl V9_149.1.2.1.2.1)), (ad 13, .inr (2, [.ref (ad 14), .ref (ad 15), .int V9_149.1.2.2.1.2.2])), (ad 14, .inl (cI, nn, .inl V9_149.1.2.2.1.1)), (ad 15, .inl (cZ, nn, .inl V9_149.1.2.2.1.2.1)), (ad 16, .inr (0, [.ref (ad 17), .int V9_149.1.2.2.2.1.2.1, .int V9_149.1.2.2.2.1.2.2])), (ad 17, .inl (cI, 1250, .inl V9_149.1.2.2.2.1.1)), (ad 18, .inr (0, [.ref (ad 19), .int V9_149.1.2.2.2.2.1.2.1, .int V9_149.1.2.2.2.2.1.2.2])), (ad 19, .inl (cI, 1250, .inl V9_149.1.2.2.2.2.1.1)), (ao, .inl (cL, 1, .inr (.inl V9_149.2)))]) (w1 := wMM cI cZ am Y G_154) hP hD [20, 21, 22, 23, 24, 25, 26, 27, 28, 29, 30, 31, 32, 33] [0, 1, 2, 3, 4, 5, 6, 7, 8, 9, 10, 11, 12, 13, 14, 15, 16, 17, 18, 19, 34] rfl rfl (by decide) (by decide) hk1 hFc hP1 hD1
                        generalize H1 = H at hP hS ⊢
                        have hP := hP.sub (ws' := wLA cI cZ cJ cL nl nn ad ra am ao S Y (V9_149.1, G_154, V9_149.2)) [0, 1, 2, 3, 4, 5, 6, 7, 8, 9, 10, 11, 12, 13, 14, 15, 16, 17, 18, 19, 21, 22, 23, 24, 25, 26, 27, 28, 29, 30, 31, 32, 33, 34, 20] rfl
                        have hD := hD.sub (ws' := wLA cI cZ cJ cL nl nn ad ra am ao S Y (V9_149.1, G_154, V9_149.2)) [0, 1, 2, 3, 4, 5, 6, 7, 8, 9, 10, 11, 12, 13, 14, 15, 16, 17, 18, 19, 21, 22, 23, 24, 25, 26, 27, 28, 29, 30, 31, 32, 33, 34, 20] (by decide) rfl
                        refine lv_istore (lv' := [(6, .int r_153), (5, .int r_148), (0, .ref b), (1, .ref (ad 0)), (2, .ref (am 0)), (3, .ref ao), (4, .int x4)]) hx hb dL_law_767 hl (by decide) rfl (fun ls hl => ?_)
                        refine lv_aload_n hx hb dL_law_769 rfl (lv_at hl 4 rfl) ?_
                        have hPc := hP.sub (ws' := wMM cI cZ am Y G_154) [20, 21, 22, 23, 24, 25, 26, 27, 28, 29, 30, 31, 32, 33] rfl
                        refine vp_callSi (W.runV (As := []) (rest := []) ⟨hx, hb, hml, hown, hT⟩ (met_X4_thrown l dC dI cI cZ cJ cL am _ Y G_154  hw) (cwV 0 hT (gV k_346 k_348 k_349 k_287 k_347) rfl rfl rfl (by decide +kernel) ⟨(Nat.le_of_ble_eq_true rfl), (Nat.le_of_ble_eq_true rfl)⟩) ⟨bl_R, va_recv hK hPc (ci := 4) (q0 := 0) rfl rfl, fun U hU hW => ⟨rfl, by rw [hU]; exact hPc, va_K.moved hW.alike hK⟩⟩ rfl rfl hl.1 rfl (lv_room (Nat.le_of_ble_eq_true rfl)) dL_law_770 ⟨by show _ ≤ 601024; omega, by show _ ≤ 7293000; omega⟩) (fun r_155 hw => ?_)
                        try dsimp only at hw
                        refine lv_iload hx hb dL_law_773 (lv_at hl 1 rfl) ?_
                        refine lv_icmp_eq (tgt := 780) hx hb dL_law_775 (by decide) (fun c_156 => ?_) (fun c_156 => ?_)
                        · have hw := hw.1 c_156
                          refine lv_iload hx hb dL_law_780 (lv_at hl 1 rfl) ?_
                          refine lv_if_ne (tgt := 797) hx hb dL_law_782 (by decide) (fun c_157 => ?_) (fun c_157 => ?_)
                          · have hw := hw.2 c_157
                            refine lv_goto (tgt := 1228) hx hb dL_law_797 (by decide) ?_
                            obtain ⟨x4_158, ex4_158⟩ : ∃ y : Int32, y = x4 + 6 := ⟨_, rfl⟩
                            have hw := hw x4_158 ex4_158
                            refine lv_iinc (v := x4_158) (lv' := [(4, .int x4_158), (6, .int r_153), (5, .int r_148), (0, .ref b), (1, .ref (ad 0)), (2, .ref (am 0)), (3, .ref ao)]) hx hb dL_law_1228 hl (k := 6) rfl (by rw [ex4_158]; rfl) (by decide) rfl (fun ls hl => ?_)
                            refine lv_goto (tgt := 43) hx hb dL_law_1231 (by decide) ?_
                            refine W.widen (k := 601024 - 4 * n) (n := 7293000 - 24 * n) (by omega) (by omega) ?_
                            exact ih (by omega) (V9_149.1, G_154, V9_149.2) x4_158 hw _ _ _ hP hD hS (lv_sub hl [3, 4, 5, 6, 0] rfl)
                          · have hw := hw.1 c_157
                            refine lv_aload_n hx hb dL_law_785 rfl (lv_at hl 5 rfl) ?_
                            refine lv_iconst (v := 0) hx hb dL_law_786 (by decide) ?_
                            obtain ⟨h_159, hw⟩ := hw
                            refine va_lald hx hb hK hP 34 3 rfl rfl h_159 dL_law_787 ?_
                            refine lv_iload hx hb dL_law_788 (lv_at hl 0 rfl) ?_
                            refine lv_i2l hx hb dL_law_790 rfl ?_
                            refine W.lcmp hx hb dL_law_791 ?_
                            refine lv_if_eq (tgt := 797) hx hb dL_law_792 (by decide) (fun c_160 => ?_) (fun c_160 => ?_)
                            · have hw := hw.1 c_160
                              refine lv_goto (tgt := 1228) hx hb dL_law_797 (by decide) ?_
                              obtain ⟨x4_161, ex4_161⟩ : ∃ y : Int32, y = x4 + 6 := ⟨_, rfl⟩
                              have hw := hw x4_161 ex4_161
                              refine lv_iinc (v := x4_161) (lv' := [(4, .int x4_161), (6, .int r_153), (5, .int r_148), (0, .ref b), (1, .ref (ad 0)), (2, .ref (am 0)), (3, .ref ao)]) hx hb dL_law_1228 hl (k := 6) rfl (by rw [ex4_161]; rfl) (by decide) rfl (fun ls hl => ?_)
                              refine lv_goto (tgt := 43) hx hb dL_law_1231 (by decide) ?_
                              refine W.widen (k := 601024 - 4 * n) (n := 7293000 - 24 * n) (by omega) (by omega) ?_
                              exact ih (by omega) (V9_149.1, G_154, V9_149.2) x4_161 hw _ _ _ hP hD hS (lv_sub hl [3, 4, 5, 6, 0] rfl)
                            · have hw := hw.2 c_160
                              refine lv_iconst (v := 0) hx hb dL_law_795 (by decide) ?_
                              exact hw.elim
                        · have hw := hw.2 c_156
                          refine lv_iconst (v := 0) hx hb dL_law_778 (by decide) ?_
                          exact hw.elim
                      · have hw := hw.2
                        rcases Classical.em (((xs x4.toNatClampNeg) &&& 15) = 9) with c_12 | c_12
                        · have hw := hw.1 c_12
                          refine lv_tableIn (off := 740) (tgt := 800) hx hb dL_law_60 (by rw [c_12]; decide) (by rw [c_12]; decide) (by rw [c_12]; rfl) (by decide) ?_
                          refine lv_aload_n hx hb dL_law_800 rfl (lv_at hl 1 rfl) ?_
                          refine lv_aload_n hx hb dL_law_801 rfl (lv_at hl 0 rfl) ?_
                          refine lv_iload hx hb dL_law_802 (lv_at hl 4 rfl) ?_
                          refine lv_iconst (v := 1) hx hb dL_law_804 (by decide) ?_
                          refine lv_iadd hx hb dL_law_805 ?_
                          obtain ⟨h_162, hw⟩ := hw
                          refine va_sld hx hb hX hbl hbA hS h_162 dL_law_806 ?_
                          refine lv_aload_n hx hb dL_law_807 rfl (lv_at hl 0 rfl) ?_
                          refine lv_iload hx hb dL_law_808 (lv_at hl 4 rfl) ?_
                          refine lv_iconst (v := 2) hx hb dL_law_810 (by decide) ?_
                          refine lv_iadd hx hb dL_law_811 ?_
                          obtain ⟨h_163, hw⟩ := hw
                          refine va_sld hx hb hX hbl hbA hS h_163 dL_law_812 ?_
                          refine lv_aload_n hx hb dL_law_813 rfl (lv_at hl 3 rfl) ?_
                          have hPc := hP.sub (ws' := wLW cI cZ cJ cL nl nn ad ra ao S (A9.1, A9.2.2)) [0, 1, 2, 3, 4, 5, 6, 7, 8, 9, 10, 11, 12, 13, 14, 15, 16, 17, 18, 19, 34] rfl
                          have hDc := hD.sub (ws' := wLW cI cZ cJ cL nl nn ad ra ao S (A9.1, A9.2.2)) [0, 1, 2, 3, 4, 5, 6, 7, 8, 9, 10, 11, 12, 13, 14, 15, 16, 17, 18, 19, 34] (by decide) rfl
                          have hFc := va_free (wc := wLW cI cZ cJ cL nl nn ad ra ao S (A9.1, A9.2.2)) hD hS hA [0, 1, 2, 3, 4, 5, 6, 7, 8, 9, 10, 11, 12, 13, 14, 15, 16, 17, 18, 19, 34] rfl
                          refine va_calli (vx_runSW (As := [.ref (ad 0), .int (xs (x4 + 1).toNatClampNeg), .int (xs (x4 + 2).toNatClampNeg), .ref ao]) (rest := []) ⟨hx, hb, hml, hown, hT⟩ (met_L_decodeAll l hl9 dC dI cI cZ cJ cL sa ad ra ao H.size _ nl nn S (A9.1, A9.2.2) (xs (x4 + 1).toNatClampNeg) (xs (x4 + 2).toNatClampNeg) hw) (vx_cwSW 4 hT (gS k_406 k_408 k_341 k_407) rfl rfl rfl (by decide +kernel) ⟨(Nat.le_of_ble_eq_true rfl), (Nat.le_of_ble_eq_true rfl)⟩) ⟨bl_L, fun U hU hW => ⟨rfl, by rw [hU], by rw [hU]; exact hPc, va_K.moved hW.alike hK, hDc.weaken (fun _ _ _ _ => trivial), hZ.call hW hU hS hFc, fun q h => va_Nc.moved hW.alike (hN q h)⟩⟩ rfl rfl hl.1 rfl (lv_room (Nat.le_of_ble_eq_true rfl)) dL_law_814 ⟨by show _ ≤ 601024; omega, by show _ ≤ 7293000; omega⟩) hS (fun q _ h => hFc q h) hFc (fun r_164 V9_165 t H1 locs ht hvm hw hB hz1 hk1 hS => ?_)
                          obtain ⟨hP1, -, hD1⟩ := hB
                          try dsimp only at hw
                          rw [ht] at hP1
                          obtain ⟨hP, hD⟩ := va_join (wr := [(am 0, .inr (4, [.int A9.2.1.1, .int Y.1.1, .int Y.1.2.1, .int Y.1.2.2.1, .ref (am 1), .ref (am 2), .ref (am 3), .int Y.1.2.2.2, .ref (am 4), .ref (am 5), .ref (am 6), .ref (am 7), .int A9.2.1.2.2.2.2.1.2.1, .int A9.2.1.2.2.2.2.1.2.2, .ref (am 8), .int A9.2.1.2.2.2.2.2.1.2.1, .int A9.2.1.2.2.2.2.2.1.2.2, .ref (am 9), .ref (am 10), .ref (am 11), .int A9.2.1.2.2.2.2.2.2.1.2.2.2, .ref (am 12), .ref (am 13)])), (am 1, .inl (cI, 8, .inl Y.2.1)), (am 2, .inl (cI, 8, .inl Y.2.2.1)), (am 3, .inl (cI, 8, .inl Y.2.2.2)), (am 4, .inl (cI, 1400, .inl A9.2.1.2.1)), (am 5, .inl (cI, 2800, .inl A9.2.1.2.2.1)), (am 6, .inl (cZ, 2800, .inl A9.2.1.2.2.2.1)), (am 7, .inl (cZ, 40000, .inl A9.2.1.2.2.2.2.1.1)), (am 8, .inl (cZ, 40000, .inl A9.2.1.2.2.2.2.2.1.1)), (am 9, .inl (cI, 8, .inl A9.2.1.2.2.2.2.2.2.1.1)), (am 10, .inl (cI, 8, .inl A9.2.1.2.2.2.2.2.2.1.2.1)), (am 11, .inl (cZ, 8, .inl A9.2.1.2.2.2.2.2.2.1.2.2.1)), (am 12, .inl (cI, 1400, .inl A9.2.1.2.2.2.2.2.2.2.1)), (am 13, .inl (cZ, 1400, .inl A9.2.1.2.2.2.2.2.2.2.2))]) (w1 := wLW cI cZ cJ cL nl nn ad ra ao S V9_165) hP hD [0, 1, 2, 3, 4, 5, 6, 7, 8, 9, 10, 11, 12, 13, 14, 15, 16, 17, 18, 19, 34] [20, 21, 22, 23, 24, 25, 26, 27, 28, 29, 30, 31, 32, 33] rfl rfl (by decide) (by decide) hk1 hFc hP1 hD1
                          generalize H1 = H at hP hS ⊢
                          have hP := hP.sub (ws' := wLA cI cZ cJ cL nl nn ad ra am ao S Y (V9_165.1, A9.2.1, V9_165.2)) [14, 15, 16, 17, 18, 19, 20, 21, 22, 23, 24, 25, 26, 27, 28, 29, 30, 31, 32, 33, 0, 1, 2, 3, 4, 5, 6, 7, 8, 9, 10, 11, 12, 13, 34] rfl
                          have hD := hD.sub (ws' := wLA cI cZ cJ cL nl nn ad ra am ao S Y (V9_165.1, A9.2.1, V9_165.2)) [14, 15, 16, 17, 18, 19, 20, 21, 22, 23, 24, 25, 26, 27, 28, 29, 30, 31, 32, 33, 0, 1, 2, 3, 4, 5, 6, 7, 8, 9, 10, 11, 12, 13, 34] (by decide) rfl
                          refine lv_istore (lv' := [(5, .int r_164), (0, .ref b), (1, .ref (ad 0)), (2, .ref (am 0)), (3, .ref ao), (4, .int x4)]) hx hb dL_law_817 hl (by decide) rfl (fun ls hl => ?_)
                          refine lv_aload_n hx hb dL_law_819 rfl (lv_at hl 3 rfl) ?_
                          refine lv_aload_n hx hb dL_law_820 rfl (lv_at hl 1 rfl) ?_
                          refine lv_iload hx hb dL_law_821 (lv_at hl 5 rfl) ?_
                          refine lv_iconst (v := 1) hx hb dL_law_823 (by decide) ?_
                          refine lv_iadd hx hb dL_law_824 ?_
                          obtain ⟨h_166, hw⟩ := hw
                          refine va_sld hx hb hX hbl hbA hS h_166 dL_law_825 ?_
                          refine lv_aload_n hx hb dL_law_826 rfl (lv_at hl 1 rfl) ?_
                          refine lv_iload hx hb dL_law_827 (lv_at hl 5 rfl) ?_
                          refine lv_iconst (v := 2) hx hb dL_law_829 (by decide) ?_
                          refine lv_iadd hx hb dL_law_830 ?_
                          obtain ⟨h_167, hw⟩ := hw
                          refine va_sld hx hb hX hbl hbA hS h_167 dL_law_831 ?_
                          have hPc := hP.sub (ws' := wMM cI cZ am Y A9.2.1) [20, 21, 22, 23, 24, 25, 26, 27, 28, 29, 30, 31, 32, 33] rfl
                          have hDc := hD.sub (ws' := wMM cI cZ am Y A9.2.1) [20, 21, 22, 23, 24, 25, 26, 27, 28, 29, 30, 31, 32, 33] (by decide) rfl
                          have hFc := va_free (wc := wMM cI cZ am Y A9.2.1) hD hS hA [20, 21, 22, 23, 24, 25, 26, 27, 28, 29, 30, 31, 32, 33] rfl
                          refine va_calli (va_runV (As := [.int (xs (x4 + 1).toNatClampNeg), .int (xs (x4 + 2).toNatClampNeg)]) (rest := []) ⟨hx, hb, hml, hown, hT⟩ (met_X4_decodeAll l dC dI cI cZ cJ cL am H.size _ Y A9.2.1 (xs (x4 + 1).toNatClampNeg) (xs (x4 + 2).toNatClampNeg) hw) (cwV 2 hT (gV k_409 k_411 k_412 k_287 k_410) rfl rfl rfl (by decide +kernel) ⟨(Nat.le_of_ble_eq_true rfl), (Nat.le_of_ble_eq_true rfl)⟩) ⟨bl_W, va_recv hK hPc (ci := 4) (q0 := 0) rfl rfl, fun U hU hW => ⟨rfl, by rw [hU], by rw [hU]; exact hPc, va_K.moved hW.alike hK, hDc.weaken (fun _ _ _ _ => trivial)⟩⟩ rfl rfl hl.1 rfl (lv_room (Nat.le_of_ble_eq_true rfl)) dL_law_832 ⟨by show _ ≤ 601024; omega, by show _ ≤ 7293000; omega⟩) hS (fun q _ h => hFc q h) hFc (fun r_168 G_169 t H1 locs ht hvm hw hB hz1 hk1 hS => ?_)
                          obtain ⟨hP1, -, hD1⟩ := hB
                          try dsimp only at hw
                          rw [ht] at hP1
                          obtain ⟨hP, hD⟩ := va_join (wr := [(ad 0, .inr (3, [.ref (ad 1), .ref (ad 9), .ref (ad 10), .ref (ad 13), .ref (ad 16), .ref (ad 18), .int V9_165.1.2.2.2.2.2])), (ad 1, .inr (1, [.int S.1.1, .int S.1.2.1, .int S.1.2.2.1, .int S.1.2.2.2.1, .int S.1.2.2.2.2, .ref (ad 2), .ref (ad 3), .ref (ad 4), .ref (ad 5)])), (ad 2, .inl (cI, 6, .inl S.2.1.1)), (ad 3, .inl (cI, 6, .inl S.2.1.2.1)), (ad 4, .inl (cI, 6, .inl S.2.1.2.2)), (ad 5, .inl (cJ, 3, .inr (.inr (.inr (.inr (fun i => if i < 3 then some (ra i) else none)))))), (ra 0, .inl (cI, nl, .inl (S.2.2 0))), (ra 1, .inl (cI, nl, .inl (S.2.2 1))), (ra 2, .inl (cI, nl, .inl (S.2.2 2))), (ad 9, .inl (cI, nn, .inl V9_165.1.1)), (ad 10, .inr (2, [.ref (ad 11), .ref (ad 12), .int V9_165.1.2.1.2.2])), (ad 11, .inl (cI, nn, .inl V9_165.1.2.1.1)), (ad 12, .inl (cZ, nn, .inl V9_165.1.2.1.2.1)), (ad 13, .inr (2, [.ref (ad 14), .ref (ad 15), .int V9_165.1.2.2.1.2.2])), (ad 14, .inl (cI, nn, .inl V9_165.1.2.2.1.1)), (ad 15, .inl (cZ, nn, .inl V9_165.1.2.2.1.2.1)), (ad 16, .inr (0, [.ref (ad 17), .int V9_165.1.2.2.2.1.2.1, .int V9_165.1.2.2.2.1.2.2])), (ad 17, .inl (cI, 1250, .inl V9_165.1.2.2.2.1.1)), (ad 18, .inr (0, [.ref (ad 19), .int V9_165.1.2.2.2.2.1.2.1, .int V9_165.1.2.2.2.2.1.2.2])), (ad 19, .inl (cI, 1250, .inl V9_165.1.2.2.2.2.1.1)), (ao, .inl (cL, 1, .inr (.inl V9_165.2)))]) (w1 := wMM cI cZ am Y G_169) hP hD [20, 21, 22, 23, 24, 25, 26, 27, 28, 29, 30, 31, 32, 33] [0, 1, 2, 3, 4, 5, 6, 7, 8, 9, 10, 11, 12, 13, 14, 15, 16, 17, 18, 19, 34] rfl rfl (by decide) (by decide) hk1 hFc hP1 hD1
                          generalize H1 = H at hP hS ⊢
                          have hP := hP.sub (ws' := wLA cI cZ cJ cL nl nn ad ra am ao S Y (V9_165.1, G_169, V9_165.2)) [0, 1, 2, 3, 4, 5, 6, 7, 8, 9, 10, 11, 12, 13, 14, 15, 16, 17, 18, 19, 21, 22, 23, 24, 25, 26, 27, 28, 29, 30, 31, 32, 33, 34, 20] rfl
                          have hD := hD.sub (ws' := wLA cI cZ cJ cL nl nn ad ra am ao S Y (V9_165.1, G_169, V9_165.2)) [0, 1, 2, 3, 4, 5, 6, 7, 8, 9, 10, 11, 12, 13, 14, 15, 16, 17, 18, 19, 21, 22, 23, 24, 25, 26, 27, 28, 29, 30, 31, 32, 33, 34, 20] (by decide) rfl
                          refine lv_istore (lv' := [(6, .int r_168), (5, .int r_164), (0, .ref b), (1, .ref (ad 0)), (2, .ref (am 0)), (3, .ref ao), (4, .int x4)]) hx hb dL_law_835 hl (by decide) rfl (fun ls hl => ?_)
                          refine lv_aload_n hx hb dL_law_837 rfl (lv_at hl 4 rfl) ?_
                          have hPc := hP.sub (ws' := wMM cI cZ am Y G_169) [20, 21, 22, 23, 24, 25, 26, 27, 28, 29, 30, 31, 32, 33] rfl
                          refine vp_callSi (W.runV (As := []) (rest := []) ⟨hx, hb, hml, hown, hT⟩ (met_X4_thrown l dC dI cI cZ cJ cL am _ Y G_169  hw) (cwV 0 hT (gV k_346 k_348 k_349 k_287 k_347) rfl rfl rfl (by decide +kernel) ⟨(Nat.le_of_ble_eq_true rfl), (Nat.le_of_ble_eq_true rfl)⟩) ⟨bl_R, va_recv hK hPc (ci := 4) (q0 := 0) rfl rfl, fun U hU hW => ⟨rfl, by rw [hU]; exact hPc, va_K.moved hW.alike hK⟩⟩ rfl rfl hl.1 rfl (lv_room (Nat.le_of_ble_eq_true rfl)) dL_law_838 ⟨by show _ ≤ 601024; omega, by show _ ≤ 7293000; omega⟩) (fun r_170 hw => ?_)
                          try dsimp only at hw
                          refine lv_iload hx hb dL_law_841 (lv_at hl 1 rfl) ?_
                          refine lv_icmp_eq (tgt := 848) hx hb dL_law_843 (by decide) (fun c_171 => ?_) (fun c_171 => ?_)
                          · have hw := hw.1 c_171
                            refine lv_iload hx hb dL_law_848 (lv_at hl 1 rfl) ?_
                            refine lv_if_ne (tgt := 865) hx hb dL_law_850 (by decide) (fun c_172 => ?_) (fun c_172 => ?_)
                            · have hw := hw.2 c_172
                              refine lv_goto (tgt := 1228) hx hb dL_law_865 (by decide) ?_
                              obtain ⟨x4_173, ex4_173⟩ : ∃ y : Int32, y = x4 + 6 := ⟨_, rfl⟩
                              have hw := hw x4_173 ex4_173
                              refine lv_iinc (v := x4_173) (lv' := [(4, .int x4_173), (6, .int r_168), (5, .int r_164), (0, .ref b), (1, .ref (ad 0)), (2, .ref (am 0)), (3, .ref ao)]) hx hb dL_law_1228 hl (k := 6) rfl (by rw [ex4_173]; rfl) (by decide) rfl (fun ls hl => ?_)
                              refine lv_goto (tgt := 43) hx hb dL_law_1231 (by decide) ?_
                              refine W.widen (k := 601024 - 4 * n) (n := 7293000 - 24 * n) (by omega) (by omega) ?_
                              exact ih (by omega) (V9_165.1, G_169, V9_165.2) x4_173 hw _ _ _ hP hD hS (lv_sub hl [3, 4, 5, 6, 0] rfl)
                            · have hw := hw.1 c_172
                              refine lv_aload_n hx hb dL_law_853 rfl (lv_at hl 5 rfl) ?_
                              refine lv_iconst (v := 0) hx hb dL_law_854 (by decide) ?_
                              obtain ⟨h_174, hw⟩ := hw
                              refine va_lald hx hb hK hP 34 3 rfl rfl h_174 dL_law_855 ?_
                              refine lv_iload hx hb dL_law_856 (lv_at hl 0 rfl) ?_
                              refine lv_i2l hx hb dL_law_858 rfl ?_
                              refine W.lcmp hx hb dL_law_859 ?_
                              refine lv_if_eq (tgt := 865) hx hb dL_law_860 (by decide) (fun c_175 => ?_) (fun c_175 => ?_)
                              · have hw := hw.1 c_175
                                refine lv_goto (tgt := 1228) hx hb dL_law_865 (by decide) ?_
                                obtain ⟨x4_176, ex4_176⟩ : ∃ y : Int32, y = x4 + 6 := ⟨_, rfl⟩
                                have hw := hw x4_176 ex4_176
                                refine lv_iinc (v := x4_176) (lv' := [(4, .int x4_176), (6, .int r_168), (5, .int r_164), (0, .ref b), (1, .ref (ad 0)), (2, .ref (am 0)), (3, .ref ao)]) hx hb dL_law_1228 hl (k := 6) rfl (by rw [ex4_176]; rfl) (by decide) rfl (fun ls hl => ?_)
                                refine lv_goto (tgt := 43) hx hb dL_law_1231 (by decide) ?_
                                refine W.widen (k := 601024 - 4 * n) (n := 7293000 - 24 * n) (by omega) (by omega) ?_
                                exact ih (by omega) (V9_165.1, G_169, V9_165.2) x4_176 hw _ _ _ hP hD hS (lv_sub hl [3, 4, 5, 6, 0] rfl)
                              · have hw := hw.2 c_175
                                refine lv_iconst (v := 0) hx hb dL_law_863 (by decide) ?_
                                exact hw.elim
                          · have hw := hw.2 c_171
                            refine lv_iconst (v := 0) hx hb dL_law_846 (by decide) ?_
                            exact hw.elim
                        · have hw := hw.2
                          rcases Classical.em (((xs x4.toNatClampNeg) &&& 15) = 10) with c_13 | c_13
                          · have hw := hw.1 c_13
                            refine lv_tableIn (off := 808) (tgt := 868) hx hb dL_law_60 (by rw [c_13]; decide) (by rw [c_13]; decide) (by rw [c_13]; rfl) (by decide) ?_
                            refine lv_aload_n hx hb dL_law_868 rfl (lv_at hl 1 rfl) ?_
                            refine lv_aload_n hx hb dL_law_869 rfl (lv_at hl 0 rfl) ?_
                            refine lv_iload hx hb dL_law_870 (lv_at hl 4 rfl) ?_
                            refine lv_iconst (v := 1) hx hb dL_law_872 (by decide) ?_
                            refine lv_iadd hx hb dL_law_873 ?_
                            obtain ⟨h_177, hw⟩ := hw
                            refine va_sld hx hb hX hbl hbA hS h_177 dL_law_874 ?_
                            refine lv_aload_n hx hb dL_law_875 rfl (lv_at hl 0 rfl) ?_
                            refine lv_iload hx hb dL_law_876 (lv_at hl 4 rfl) ?_
                            refine lv_iconst (v := 2) hx hb dL_law_878 (by decide) ?_
                            refine lv_iadd hx hb dL_law_879 ?_
                            obtain ⟨h_178, hw⟩ := hw
                            refine va_sld hx hb hX hbl hbA hS h_178 dL_law_880 ?_
                            refine lv_aload_n hx hb dL_law_881 rfl (lv_at hl 3 rfl) ?_
                            have hPc := hP.sub (ws' := wLW cI cZ cJ cL nl nn ad ra ao S (A9.1, A9.2.2)) [0, 1, 2, 3, 4, 5, 6, 7, 8, 9, 10, 11, 12, 13, 14, 15, 16, 17, 18, 19, 34] rfl
                            have hDc := hD.sub (ws' := wLW cI cZ cJ cL nl nn ad ra ao S (A9.1, A9.2.2)) [0, 1, 2, 3, 4, 5, 6, 7, 8, 9, 10, 11, 12, 13, 14, 15, 16, 17, 18, 19, 34] (by decide) rfl
                            have hFc := va_free (wc := wLW cI cZ cJ cL nl nn ad ra ao S (A9.1, A9.2.2)) hD hS hA [0, 1, 2, 3, 4, 5, 6, 7, 8, 9, 10, 11, 12, 13, 14, 15, 16, 17, 18, 19, 34] rfl
                            refine va_calli (vx_runSW (As := [.ref (ad 0), .int (xs (x4 + 1).toNatClampNeg), .int (xs (x4 + 2).toNatClampNeg), .ref ao]) (rest := []) ⟨hx, hb, hml, hown, hT⟩ (met_L_known l hl9 dC dI cI cZ cJ cL sa ad ra ao H.size _ nl nn S (A9.1, A9.2.2) (xs (x4 + 1).toNatClampNeg) (xs (x4 + 2).toNatClampNeg) hw) (vx_cwSW 4 hT (gS k_413 k_415 k_341 k_414) rfl rfl rfl (by decide +kernel) ⟨(Nat.le_of_ble_eq_true rfl), (Nat.le_of_ble_eq_true rfl)⟩) ⟨bl_L, fun U hU hW => ⟨rfl, by rw [hU], by rw [hU]; exact hPc, va_K.moved hW.alike hK, hDc.weaken (fun _ _ _ _ => trivial), hZ.call hW hU hS hFc, fun q h => va_Nc.moved hW.alike (hN q h)⟩⟩ rfl rfl hl.1 rfl (lv_room (Nat.le_of_ble_eq_true rfl)) dL_law_882 ⟨by show _ ≤ 601024; omega, by show _ ≤ 7293000; omega⟩) hS (fun q _ h => hFc q h) hFc (fun r_179 V9_180 t H1 locs ht hvm hw hB hz1 hk1 hS => ?_)
                            obtain ⟨hP1, -, hD1⟩ := hB
                            try dsimp only at hw
                            rw [ht] at hP1
                            obtain ⟨hP, hD⟩ := va_join (wr := [(am 0, .inr (4, [.int A9.2.1.1, .int Y.1.1, .int Y.1.2.1, .int Y.1.2.2.1, .ref (am 1), .ref (am 2), .ref (am 3), .int Y.1.2.2.2, .ref (am 4), .ref (am 5), .ref (am 6), .ref (am 7), .int A9.2.1.2.2.2.2.1.2.1, .int A9.2.1.2.2.2.2.1.2.2, .ref (am 8), .int A9.2.1.2.2.2.2.2.1.2.1, .int A9.2.1.2.2.2.2.2.1.2.2, .ref (am 9), .ref (am 10), .ref (am 11), .int A9.2.1.2.2.2.2.2.2.1.2.2.2, .ref (am 12), .ref (am 13)])), (am 1, .inl (cI, 8, .inl Y.2.1)), (am 2, .inl (cI, 8, .inl Y.2.2.1)), (am 3, .inl (cI, 8, .inl Y.2.2.2)), (am 4, .inl (cI, 1400, .inl A9.2.1.2.1)), (am 5, .inl (cI, 2800, .inl A9.2.1.2.2.1)), (am 6, .inl (cZ, 2800, .inl A9.2.1.2.2.2.1)), (am 7, .inl (cZ, 40000, .inl A9.2.1.2.2.2.2.1.1)), (am 8, .inl (cZ, 40000, .inl A9.2.1.2.2.2.2.2.1.1)), (am 9, .inl (cI, 8, .inl A9.2.1.2.2.2.2.2.2.1.1)), (am 10, .inl (cI, 8, .inl A9.2.1.2.2.2.2.2.2.1.2.1)), (am 11, .inl (cZ, 8, .inl A9.2.1.2.2.2.2.2.2.1.2.2.1)), (am 12, .inl (cI, 1400, .inl A9.2.1.2.2.2.2.2.2.2.1)), (am 13, .inl (cZ, 1400, .inl A9.2.1.2.2.2.2.2.2.2.2))]) (w1 := wLW cI cZ cJ cL nl nn ad ra ao S V9_180) hP hD [0, 1, 2, 3, 4, 5, 6, 7, 8, 9, 10, 11, 12, 13, 14, 15, 16, 17, 18, 19, 34] [20, 21, 22, 23, 24, 25, 26, 27, 28, 29, 30, 31, 32, 33] rfl rfl (by decide) (by decide) hk1 hFc hP1 hD1
                            generalize H1 = H at hP hS ⊢
                            have hP := hP.sub (ws' := wLA cI cZ cJ cL nl nn ad ra am ao S Y (V9_180.1, A9.2.1, V9_180.2)) [14, 15, 16, 17, 18, 19, 20, 21, 22, 23, 24, 25, 26, 27, 28, 29, 30, 31, 32, 33, 0, 1, 2, 3, 4, 5, 6, 7, 8, 9, 10, 11, 12, 13, 34] rfl
                            have hD := hD.sub (ws' := wLA cI cZ cJ cL nl nn ad ra am ao S Y (V9_180.1, A9.2.1, V9_180.2)) [14, 15, 16, 17, 18, 19, 20, 21, 22, 23, 24, 25, 26, 27, 28, 29, 30, 31, 32, 33, 0, 1, 2, 3, 4, 5, 6, 7, 8, 9, 10, 11, 12, 13, 34] (by decide) rfl
                            refine lv_istore (lv' := [(5, .int r_179), (0, .ref b), (1, .ref (ad 0)), (2, .ref (am 0)), (3, .ref ao), (4, .int x4)]) hx hb dL_law_885 hl (by decide) rfl (fun ls hl => ?_)
                            refine lv_aload_n hx hb dL_law_887 rfl (lv_at hl 3 rfl) ?_
                            refine lv_aload_n hx hb dL_law_888 rfl (lv_at hl 1 rfl) ?_
                            refine lv_iload hx hb dL_law_889 (lv_at hl 5 rfl) ?_
                            refine lv_iconst (v := 1) hx hb dL_law_891 (by decide) ?_
                            refine lv_iadd hx hb dL_law_892 ?_
                            obtain ⟨h_181, hw⟩ := hw
                            refine va_sld hx hb hX hbl hbA hS h_181 dL_law_893 ?_
                            refine lv_aload_n hx hb dL_law_894 rfl (lv_at hl 1 rfl) ?_
                            refine lv_iload hx hb dL_law_895 (lv_at hl 5 rfl) ?_
                            refine lv_iconst (v := 2) hx hb dL_law_897 (by decide) ?_
                            refine lv_iadd hx hb dL_law_898 ?_
                            obtain ⟨h_182, hw⟩ := hw
                            refine va_sld hx hb hX hbl hbA hS h_182 dL_law_899 ?_
                            have hPc := hP.sub (ws' := wMM cI cZ am Y A9.2.1) [20, 21, 22, 23, 24, 25, 26, 27, 28, 29, 30, 31, 32, 33] rfl
                            have hDc := hD.sub (ws' := wMM cI cZ am Y A9.2.1) [20, 21, 22, 23, 24, 25, 26, 27, 28, 29, 30, 31, 32, 33] (by decide) rfl
                            have hFc := va_free (wc := wMM cI cZ am Y A9.2.1) hD hS hA [20, 21, 22, 23, 24, 25, 26, 27, 28, 29, 30, 31, 32, 33] rfl
                            refine va_calli (va_runV (As := [.int (xs (x4 + 1).toNatClampNeg), .int (xs (x4 + 2).toNatClampNeg)]) (rest := []) ⟨hx, hb, hml, hown, hT⟩ (met_X4_known l dC dI cI cZ cJ cL am H.size _ Y A9.2.1 (xs (x4 + 1).toNatClampNeg) (xs (x4 + 2).toNatClampNeg) hw) (cwV 2 hT (gV k_416 k_418 k_419 k_287 k_417) rfl rfl rfl (by decide +kernel) ⟨(Nat.le_of_ble_eq_true rfl), (Nat.le_of_ble_eq_true rfl)⟩) ⟨bl_W, va_recv hK hPc (ci := 4) (q0 := 0) rfl rfl, fun U hU hW => ⟨rfl, by rw [hU], by rw [hU]; exact hPc, va_K.moved hW.alike hK, hDc.weaken (fun _ _ _ _ => trivial)⟩⟩ rfl rfl hl.1 rfl (lv_room (Nat.le_of_ble_eq_true rfl)) dL_law_900 ⟨by show _ ≤ 601024; omega, by show _ ≤ 7293000; omega⟩) hS (fun q _ h => hFc q h) hFc (fun r_183 G_184 t H1 locs ht hvm hw hB hz1 hk1 hS => ?_)
                            obtain ⟨hP1, -, hD1⟩ := hB
                            try dsimp only at hw
                            rw [ht] at hP1
                            obtain ⟨hP, hD⟩ := va_join (wr := [(ad 0, .inr (3, [.ref (ad 1), .ref (ad 9), .ref (ad 10), .ref (ad 13), .ref (ad 16), .ref (ad 18), .int V9_180.1.2.2.2.2.2])), (ad 1, .inr (1, [.int S.1.1, .int S.1.2.1, .int S.1.2.2.1, .int S.1.2.2.2.1, .int S.1.2.2.2.2, .ref (ad 2), .ref (ad 3), .ref (ad 4), .ref (ad 5)])), (ad 2, .inl (cI, 6, .inl S.2.1.1)), (ad 3, .inl (cI, 6, .inl S.2.1.2.1)), (ad 4, .inl (cI, 6, .inl S.2.1.2.2)), (ad 5, .inl (cJ, 3, .inr (.inr (.inr (.inr (fun i => if i < 3 then some (ra i) else none)))))), (ra 0, .inl (cI, nl, .inl (S.2.2 0))), (ra 1, .inl (cI, nl, .inl (S.2.2 1))), (ra 2, .inl (cI, nl, .inl (S.2.2 2))), (ad 9, .inl (cI, nn, .inl V9_180.1.1)), (ad 10, .inr (2, [.ref (ad 11), .ref (ad 12), .int V9_180.1.2.1.2.2])), (ad 11, .inl (cI, nn, .inl V9_180.1.2.1.1)), (ad 12, .inl (cZ, nn, .inl V9_180.1.2.1.2.1)), (ad 13, .inr (2, [.ref (ad 14), .ref (ad 15), .int V9_180.1.2.2.1.2.2])), (ad 14, .inl (cI, nn, .inl V9_180.1.2.2.1.1)), (ad 15, .inl (cZ, nn, .inl V9_180.1.2.2.1.2.1)), (ad 16, .inr (0, [.ref (ad 17), .int V9_180.1.2.2.2.1.2.1, .int V9_180.1.2.2.2.1.2.2])), (ad 17, .inl (cI, 1250, .inl V9_180.1.2.2.2.1.1)), (ad 18, .inr (0, [.ref (ad 19), .int V9_180.1.2.2.2.2.1.2.1, .int V9_180.1.2.2.2.2.1.2.2])), (ad 19, .inl (cI, 1250, .inl V9_180.1.2.2.2.2.1.1)), (ao, .inl (cL, 1, .inr (.inl V9_180.2)))]) (w1 := wMM cI cZ am Y G_184) hP hD [20, 21, 22, 23, 24, 25, 26, 27, 28, 29, 30, 31, 32, 33] [0, 1, 2, 3, 4, 5, 6, 7, 8, 9, 10, 11, 12, 13, 14, 15, 16, 17, 18, 19, 34] rfl rfl (by decide) (by decide) hk1 hFc hP1 hD1
                            generalize H1 = H at hP hS ⊢
                            have hP := hP.sub (ws' := wLA cI cZ cJ cL nl nn ad ra am ao S Y (V9_180.1, G_184, V9_180.2)) [0, 1, 2, 3, 4, 5, 6, 7, 8, 9, 10, 11, 12, 13, 14, 15, 16, 17, 18, 19, 21, 22, 23, 24, 25, 26, 27, 28, 29, 30, 31, 32, 33, 34, 20] rfl
                            have hD := hD.sub (ws' := wLA cI cZ cJ cL nl nn ad ra am ao S Y (V9_180.1, G_184, V9_180.2)) [0, 1, 2, 3, 4, 5, 6, 7, 8, 9, 10, 11, 12, 13, 14, 15, 16, 17, 18, 19, 21, 22, 23, 24, 25, 26, 27, 28, 29, 30, 31, 32, 33, 34, 20] (by decide) rfl
                            refine lv_istore (lv' := [(6, .int r_183), (5, .int r_179), (0, .ref b), (1, .ref (ad 0)), (2, .ref (am 0)), (3, .ref ao), (4, .int x4)]) hx hb dL_law_903 hl (by decide) rfl (fun ls hl => ?_)
                            refine lv_aload_n hx hb dL_law_905 rfl (lv_at hl 4 rfl) ?_
                            have hPc := hP.sub (ws' := wMM cI cZ am Y G_184) [20, 21, 22, 23, 24, 25, 26, 27, 28, 29, 30, 31, 32, 33] rfl
                            refine vp_callSi (W.runV (As := []) (rest := []) ⟨hx, hb, hml, hown, hT⟩ (met_X4_thrown l dC dI cI cZ cJ cL am _ Y G_184  hw) (cwV 0 hT (gV k_346 k_348 k_349 k_287 k_347) rfl rfl rfl (by decide +kernel) ⟨(Nat.le_of_ble_eq_true rfl), (Nat.le_of_ble_eq_true rfl)⟩) ⟨bl_R, va_recv hK hPc (ci := 4) (q0 := 0) rfl rfl, fun U hU hW => ⟨rfl, by rw [hU]; exact hPc, va_K.moved hW.alike hK⟩⟩ rfl rfl hl.1 rfl (lv_room (Nat.le_of_ble_eq_true rfl)) dL_law_906 ⟨by show _ ≤ 601024; omega, by show _ ≤ 7293000; omega⟩) (fun r_185 hw => ?_)
                            try dsimp only at hw
                            refine lv_iload hx hb dL_law_909 (lv_at hl 1 rfl) ?_
                            refine lv_icmp_eq (tgt := 916) hx hb dL_law_911 (by decide) (fun c_186 => ?_) (fun c_186 => ?_)
                            · have hw := hw.1 c_186
                              refine lv_iload hx hb dL_law_916 (lv_at hl 1 rfl) ?_
                              refine lv_if_ne (tgt := 933) hx hb dL_law_918 (by decide) (fun c_187 => ?_) (fun c_187 => ?_)
                              · have hw := hw.2 c_187
                                refine lv_goto (tgt := 1228) hx hb dL_law_933 (by decide) ?_
                                obtain ⟨x4_188, ex4_188⟩ : ∃ y : Int32, y = x4 + 6 := ⟨_, rfl⟩
                                have hw := hw x4_188 ex4_188
                                refine lv_iinc (v := x4_188) (lv' := [(4, .int x4_188), (6, .int r_183), (5, .int r_179), (0, .ref b), (1, .ref (ad 0)), (2, .ref (am 0)), (3, .ref ao)]) hx hb dL_law_1228 hl (k := 6) rfl (by rw [ex4_188]; rfl) (by decide) rfl (fun ls hl => ?_)
                                refine lv_goto (tgt := 43) hx hb dL_law_1231 (by decide) ?_
                                refine W.widen (k := 601024 - 4 * n) (n := 7293000 - 24 * n) (by omega) (by omega) ?_
                                exact ih (by omega) (V9_180.1, G_184, V9_180.2) x4_188 hw _ _ _ hP hD hS (lv_sub hl [3, 4, 5, 6, 0] rfl)
                              · have hw := hw.1 c_187
                                refine lv_aload_n hx hb dL_law_921 rfl (lv_at hl 5 rfl) ?_
                                refine lv_iconst (v := 0) hx hb dL_law_922 (by decide) ?_
                                obtain ⟨h_189, hw⟩ := hw
                                refine va_lald hx hb hK hP 34 3 rfl rfl h_189 dL_law_923 ?_
                                refine lv_iload hx hb dL_law_924 (lv_at hl 0 rfl) ?_
                                refine lv_i2l hx hb dL_law_926 rfl ?_
                                refine W.lcmp hx hb dL_law_927 ?_
                                refine lv_if_eq (tgt := 933) hx hb dL_law_928 (by decide) (fun c_190 => ?_) (fun c_190 => ?_)
                                · have hw := hw.1 c_190
                                  refine lv_goto (tgt := 1228) hx hb dL_law_933 (by decide) ?_
                                  obtain ⟨x4_191, ex4_191⟩ : ∃ y : Int32, y = x4 + 6 := ⟨_, rfl⟩
                                  have hw := hw x4_191 ex4_191
                                  refine lv_iinc (v := x4_191) (lv' := [(4, .int x4_191), (6, .int r_183), (5, .int r_179), (0, .ref b), (1, .ref (ad 0)), (2, .ref (am 0)), (3, .ref ao)]) hx hb dL_law_1228 hl (k := 6) rfl (by rw [ex4_191]; rfl) (by decide) rfl (fun ls hl => ?_)
                                  refine lv_goto (tgt := 43) hx hb dL_law_1231 (by decide) ?_
                                  refine W.widen (k := 601024 - 4 * n) (n := 7293000 - 24 * n) (by omega) (by omega) ?_
                                  exact ih (by omega) (V9_180.1, G_184, V9_180.2) x4_191 hw _ _ _ hP hD hS (lv_sub hl [3, 4, 5, 6, 0] rfl)
                                · have hw := hw.2 c_190
                                  refine lv_iconst (v := 0) hx hb dL_law_931 (by decide) ?_
                                  exact hw.elim
                            · have hw := hw.2 c_186
                              refine lv_iconst (v := 0) hx hb dL_law_914 (by decide) ?_
                              exact hw.elim
                          · have hw := hw.2
                            rcases Classical.em (((xs x4.toNatClampNeg) &&& 15) = 11) with c_14 | c_14
                            · have hw := hw.1 c_14
                              refine lv_tableIn (off := 876) (tgt := 936) hx hb dL_law_60 (by rw [c_14]; decide) (by rw [c_14]; decide) (by rw [c_14]; rfl) (by decide) ?_
                              refine lv_aload_n hx hb dL_law_936 rfl (lv_at hl 1 rfl) ?_
                              refine lv_aload_n hx hb dL_law_937 rfl (lv_at hl 0 rfl) ?_
                              refine lv_iload hx hb dL_law_938 (lv_at hl 4 rfl) ?_
                              refine lv_iconst (v := 1) hx hb dL_law_940 (by decide) ?_
                              refine lv_iadd hx hb dL_law_941 ?_
                              obtain ⟨h_192, hw⟩ := hw
                              refine va_sld hx hb hX hbl hbA hS h_192 dL_law_942 ?_
                              refine lv_if_eq (tgt := 950) hx hb dL_law_943 (by decide) (fun c_193 => ?_) (fun c_193 => ?_)
                              · have hw := hw.1 c_193
                                refine lv_iconst (v := 0) hx hb dL_law_950 (by decide) ?_
                                refine lv_aload_n hx hb dL_law_951 rfl (lv_at hl 0 rfl) ?_
                                refine lv_iload hx hb dL_law_952 (lv_at hl 4 rfl) ?_
                                refine lv_iconst (v := 2) hx hb dL_law_954 (by decide) ?_
                                refine lv_iadd hx hb dL_law_955 ?_
                                obtain ⟨h_194, hw⟩ := hw
                                refine va_sld hx hb hX hbl hbA hS h_194 dL_law_956 ?_
                                refine lv_aload_n hx hb dL_law_957 rfl (lv_at hl 0 rfl) ?_
                                refine lv_iload hx hb dL_law_958 (lv_at hl 4 rfl) ?_
                                refine lv_iconst (v := 3) hx hb dL_law_960 (by decide) ?_
                                refine lv_iadd hx hb dL_law_961 ?_
                                obtain ⟨h_195, hw⟩ := hw
                                refine va_sld hx hb hX hbl hbA hS h_195 dL_law_962 ?_
                                refine lv_aload_n hx hb dL_law_963 rfl (lv_at hl 0 rfl) ?_
                                refine lv_iload hx hb dL_law_964 (lv_at hl 4 rfl) ?_
                                refine lv_iconst (v := 4) hx hb dL_law_966 (by decide) ?_
                                refine lv_iadd hx hb dL_law_967 ?_
                                obtain ⟨h_196, hw⟩ := hw
                                refine va_sld hx hb hX hbl hbA hS h_196 dL_law_968 ?_
                                refine lv_aload_n hx hb dL_law_969 rfl (lv_at hl 3 rfl) ?_
                                have hPc := hP.sub (ws' := wLW cI cZ cJ cL nl nn ad ra ao S (A9.1, A9.2.2)) [0, 1, 2, 3, 4, 5, 6, 7, 8, 9, 10, 11, 12, 13, 14, 15, 16, 17, 18, 19, 34] rfl
                                have hDc := hD.sub (ws' := wLW cI cZ cJ cL nl nn ad ra ao S (A9.1, A9.2.2)) [0, 1, 2, 3, 4, 5, 6, 7, 8, 9, 10, 11, 12, 13, 14, 15, 16, 17, 18, 19, 34] (by decide) rfl
                                have hFc := va_free (wc := wLW cI cZ cJ cL nl nn ad ra ao S (A9.1, A9.2.2)) hD hS hA [0, 1, 2, 3, 4, 5, 6, 7, 8, 9, 10, 11, 12, 13, 14, 15, 16, 17, 18, 19, 34] rfl
                                refine va_calli (vx_runSW (As := [.ref (ad 0), .int 0, .int (xs (x4 + 2).toNatClampNeg), .int (xs (x4 + 3).toNatClampNeg), .int (xs (x4 + 4).toNatClampNeg), .ref ao]) (rest := []) ⟨hx, hb, hml, hown, hT⟩ (met_L_bound l hl9 dC dI cI cZ cJ cL sa ad ra ao H.size _ nl nn S (A9.1, A9.2.2) 0 (xs (x4 + 2).toNatClampNeg) (xs (x4 + 3).toNatClampNeg) (xs (x4 + 4).toNatClampNeg) hw) (vx_cwSW 6 hT (gS k_420 k_422 k_341 k_421) rfl rfl rfl (by decide +kernel) ⟨(Nat.le_of_ble_eq_true rfl), (Nat.le_of_ble_eq_true rfl)⟩) ⟨bl_L, fun U hU hW => ⟨rfl, by rw [hU], by rw [hU]; exact hPc, va_K.moved hW.alike hK, hDc.weaken (fun _ _ _ _ => trivial), hZ.call hW hU hS hFc, fun q h => va_Nc.moved hW.alike (hN q h)⟩⟩ rfl rfl hl.1 rfl (lv_room (Nat.le_of_ble_eq_true rfl)) dL_law_970 ⟨by show _ ≤ 601024; omega, by show _ ≤ 7293000; omega⟩) hS (fun q _ h => hFc q h) hFc (fun r_197 V9_198 t H1 locs ht hvm hw hB hz1 hk1 hS => ?_)
                                obtain ⟨hP1, -, hD1⟩ := hB
                                try dsimp only at hw
                                rw [ht] at hP1
                                obtain ⟨hP, hD⟩ := va_join (wr := [(am 0, .inr (4, [.int A9.2.1.1, .int Y.1.1, .int Y.1.2.1, .int Y.1.2.2.1, .ref (am 1), .ref (am 2), .ref (am 3), .int Y.1.2.2.2, .ref (am 4), .ref (am 5), .ref (am 6), .ref (am 7), .int A9.2.1.2.2.2.2.1.2.1, .int A9.2.1.2.2.2.2.1.2.2, .ref (am 8), .int A9.2.1.2.2.2.2.2.1.2.1, .int A9.2.1.2.2.2.2.2.1.2.2, .ref (am 9), .ref (am 10), .ref (am 11), .int A9.2.1.2.2.2.2.2.2.1.2.2.2, .ref (am 12), .ref (am 13)])), (am 1, .inl (cI, 8, .inl Y.2.1)), (am 2, .inl (cI, 8, .inl Y.2.2.1)), (am 3, .inl (cI, 8, .inl Y.2.2.2)), (am 4, .inl (cI, 1400, .inl A9.2.1.2.1)), (am 5, .inl (cI, 2800, .inl A9.2.1.2.2.1)), (am 6, .inl (cZ, 2800, .inl A9.2.1.2.2.2.1)), (am 7, .inl (cZ, 40000, .inl A9.2.1.2.2.2.2.1.1)), (am 8, .inl (cZ, 40000, .inl A9.2.1.2.2.2.2.2.1.1)), (am 9, .inl (cI, 8, .inl A9.2.1.2.2.2.2.2.2.1.1)), (am 10, .inl (cI, 8, .inl A9.2.1.2.2.2.2.2.2.1.2.1)), (am 11, .inl (cZ, 8, .inl A9.2.1.2.2.2.2.2.2.1.2.2.1)), (am 12, .inl (cI, 1400, .inl A9.2.1.2.2.2.2.2.2.2.1)), (am 13, .inl (cZ, 1400, .inl A9.2.1.2.2.2.2.2.2.2.2))]) (w1 := wLW cI cZ cJ cL nl nn ad ra ao S V9_198) hP hD [0, 1, 2, 3, 4, 5, 6, 7, 8, 9, 10, 11, 12, 13, 14, 15, 16, 17, 18, 19, 34] [20, 21, 22, 23, 24, 25, 26, 27, 28, 29, 30, 31, 32, 33] rfl rfl (by decide) (by decide) hk1 hFc hP1 hD1
                                generalize H1 = H at hP hS ⊢
                                have hP := hP.sub (ws' := wLA cI cZ cJ cL nl nn ad ra am ao S Y (V9_198.1, A9.2.1, V9_198.2)) [14, 15, 16, 17, 18, 19, 20, 21, 22, 23, 24, 25, 26, 27, 28, 29, 30, 31, 32, 33, 0, 1, 2, 3, 4, 5, 6, 7, 8, 9, 10, 11, 12, 13, 34] rfl
                                have hD := hD.sub (ws' := wLA cI cZ cJ cL nl nn ad ra am ao S Y (V9_198.1, A9.2.1, V9_198.2)) [14, 15, 16, 17, 18, 19, 20, 21, 22, 23, 24, 25, 26, 27, 28, 29, 30, 31, 32, 33, 0, 1, 2, 3, 4, 5, 6, 7, 8, 9, 10, 11, 12, 13, 34] (by decide) rfl
                                refine lv_istore (lv' := [(5, .int r_197), (0, .ref b), (1, .ref (ad 0)), (2, .ref (am 0)), (3, .ref ao), (4, .int x4)]) hx hb dL_law_973 hl (by decide) rfl (fun ls hl => ?_)
                                refine lv_aload_n hx hb dL_law_975 rfl (lv_at hl 3 rfl) ?_
                                refine lv_aload_n hx hb dL_law_976 rfl (lv_at hl 1 rfl) ?_
                                refine lv_iload hx hb dL_law_977 (lv_at hl 5 rfl) ?_
                                refine lv_iconst (v := 1) hx hb dL_law_979 (by decide) ?_
                                refine lv_iadd hx hb dL_law_980 ?_
                                obtain ⟨h_199, hw⟩ := hw
                                refine va_sld hx hb hX hbl hbA hS h_199 dL_law_981 ?_
                                refine lv_if_eq (tgt := 989) hx hb dL_law_982 (by decide) (fun c_200 => ?_) (fun c_200 => ?_)
                                · have hw := hw.1 c_200
                                  refine lv_iconst (v := 0) hx hb dL_law_989 (by decide) ?_
                                  refine lv_aload_n hx hb dL_law_990 rfl (lv_at hl 1 rfl) ?_
                                  refine lv_iload hx hb dL_law_991 (lv_at hl 5 rfl) ?_
                                  refine lv_iconst (v := 2) hx hb dL_law_993 (by decide) ?_
                                  refine lv_iadd hx hb dL_law_994 ?_
                                  obtain ⟨h_201, hw⟩ := hw
                                  refine va_sld hx hb hX hbl hbA hS h_201 dL_law_995 ?_
                                  refine lv_aload_n hx hb dL_law_996 rfl (lv_at hl 1 rfl) ?_
                                  refine lv_iload hx hb dL_law_997 (lv_at hl 5 rfl) ?_
                                  refine lv_iconst (v := 3) hx hb dL_law_999 (by decide) ?_
                                  refine lv_iadd hx hb dL_law_1000 ?_
                                  obtain ⟨h_202, hw⟩ := hw
                                  refine va_sld hx hb hX hbl hbA hS h_202 dL_law_1001 ?_
                                  refine lv_aload_n hx hb dL_law_1002 rfl (lv_at hl 1 rfl) ?_
                                  refine lv_iload hx hb dL_law_1003 (lv_at hl 5 rfl) ?_
                                  refine lv_iconst (v := 4) hx hb dL_law_1005 (by decide) ?_
                                  refine lv_iadd hx hb dL_law_1006 ?_
                                  obtain ⟨h_203, hw⟩ := hw
                                  refine va_sld hx hb hX hbl hbA hS h_203 dL_law_1007 ?_
                                  have hPc := hP.sub (ws' := wMM cI cZ am Y A9.2.1) [20, 21, 22, 23, 24, 25, 26, 27, 28, 29, 30, 31, 32, 33] rfl
                                  have hDc := hD.sub (ws' := wMM cI cZ am Y A9.2.1) [20, 21, 22, 23, 24, 25, 26, 27, 28, 29, 30, 31, 32, 33] (by decide) rfl
                                  have hFc := va_free (wc := wMM cI cZ am Y A9.2.1) hD hS hA [20, 21, 22, 23, 24, 25, 26, 27, 28, 29, 30, 31, 32, 33] rfl
                                  refine va_calli (va_runV (As := [.int 0, .int (xs (x4 + 2).toNatClampNeg), .int (xs (x4 + 3).toNatClampNeg), .int (xs (x4 + 4).toNatClampNeg)]) (rest := []) ⟨hx, hb, hml, hown, hT⟩ (met_X4_bound l dC dI cI cZ cJ cL am H.size _ Y A9.2.1 0 (xs (x4 + 2).toNatClampNeg) (xs (x4 + 3).toNatClampNeg) (xs (x4 + 4).toNatClampNeg) hw) (cwV 4 hT (gV k_423 k_425 k_426 k_287 k_424) rfl rfl rfl (by decide +kernel) ⟨(Nat.le_of_ble_eq_true rfl), (Nat.le_of_ble_eq_true rfl)⟩) ⟨bl_W, va_recv hK hPc (ci := 4) (q0 := 0) rfl rfl, fun U hU hW => ⟨rfl, by rw [hU], by rw [hU]; exact hPc, va_K.moved hW.alike hK, hDc.weaken (fun _ _ _ _ => trivial)⟩⟩ rfl rfl hl.1 rfl (lv_room (Nat.le_of_ble_eq_true rfl)) dL_law_1008 ⟨by show _ ≤ 601024; omega, by show _ ≤ 7293000; omega⟩) hS (fun q _ h => hFc q h) hFc (fun r_204 G_205 t H1 locs ht hvm hw hB hz1 hk1 hS => ?_)
                                  obtain ⟨hP1, -, hD1⟩ := hB
                                  try dsimp only at hw
                                  rw [ht] at hP1
                                  obtain ⟨hP, hD⟩ := va_join (wr := [(ad 0, .inr (3, [.ref (ad 1), .ref (ad 9), .ref (ad 10), .ref (ad 13), .ref (ad 16), .ref (ad 18), .int V9_198.1.2.2.2.2.2])), (ad 1, .inr (1, [.int S.1.1, .int S.1.2.1, .int S.1.2.2.1, .int S.1.2.2.2.1, .int S.1.2.2.2.2, .ref (ad 2), .ref (ad 3), .ref (ad 4), .ref (ad 5)])), (ad 2, .inl (cI, 6, .inl S.2.1.1)), (ad 3, .inl (cI, 6, .inl S.2.1.2.1)), (ad 4, .inl (cI, 6, .inl S.2.1.2.2)), (ad 5, .inl (cJ, 3, .inr (.inr (.inr (.inr (fun i => if i < 3 then some (ra i) else none)))))), (ra 0, .inl (cI, nl, .inl (S.2.2 0))), (ra 1, .inl (cI, nl, .inl (S.2.2 1))), (ra 2, .inl (cI, nl, .inl (S.2.2 2))), (ad 9, .inl (cI, nn, .inl V9_198.1.1)), (ad 10, .inr (2, [.ref (ad 11), .ref (ad 12), .int V9_198.1.2.1.2.2])), (ad 11, .inl (cI, nn, .inl V9_198.1.2.1.1)), (ad 12, .inl (cZ, nn, .inl V9_198.1.2.1.2.1)), (ad 13, .inr (2, [.ref (ad 14), .ref (ad 15), .int V9_198.1.2.2.1.2.2])), (ad 14, .inl (cI, nn, .inl V9_198.1.2.2.1.1)), (ad 15, .inl (cZ, nn, .inl V9_198.1.2.2.1.2.1)), (ad 16, .inr (0, [.ref (ad 17), .int V9_198.1.2.2.2.1.2.1, .int V9_198.1.2.2.2.1.2.2])), (ad 17, .inl (cI, 1250, .inl V9_198.1.2.2.2.1.1)), (ad 18, .inr (0, [.ref (ad 19), .int V9_198.1.2.2.2.2.1.2.1, .int V9_198.1.2.2.2.2.1.2.2])), (ad 19, .inl (cI, 1250, .inl V9_198.1.2.2.2.2.1.1)), (ao, .inl (cL, 1, .inr (.inl V9_198.2)))]) (w1 := wMM cI cZ am Y G_205) hP hD [20, 21, 22, 23, 24, 25, 26, 27, 28, 29, 30, 31, 32, 33] [0, 1, 2, 3, 4, 5, 6, 7, 8, 9, 10, 11, 12, 13, 14, 15, 16, 17, 18, 19, 34] rfl rfl (by decide) (by decide) hk1 hFc hP1 hD1
                                  generalize H1 = H at hP hS ⊢
                                  have hP := hP.sub (ws' := wLA cI cZ cJ cL nl nn ad ra am ao S Y (V9_198.1, G_205, V9_198.2)) [0, 1, 2, 3, 4, 5, 6, 7, 8, 9, 10, 11, 12, 13, 14, 15, 16, 17, 18, 19, 21, 22, 23, 24, 25, 26, 27, 28, 29, 30, 31, 32, 33, 34, 20] rfl
                                  have hD := hD.sub (ws' := wLA cI cZ cJ cL nl nn ad ra am ao S Y (V9_198.1, G_205, V9_198.2)) [0, 1, 2, 3, 4, 5, 6, 7, 8, 9, 10, 11, 12, 13, 14, 15, 16, 17, 18, 19, 21, 22, 23, 24, 25, 26, 27, 28, 29, 30, 31, 32, 33, 34, 20] (by decide) rfl
                                  refine lv_istore (lv' := [(6, .int r_204), (5, .int r_197), (0, .ref b), (1, .ref (ad 0)), (2, .ref (am 0)), (3, .ref ao), (4, .int x4)]) hx hb dL_law_1011 hl (by decide) rfl (fun ls hl => ?_)
                                  refine lv_aload_n hx hb dL_law_1013 rfl (lv_at hl 4 rfl) ?_
                                  have hPc := hP.sub (ws' := wMM cI cZ am Y G_205) [20, 21, 22, 23, 24, 25, 26, 27, 28, 29, 30, 31, 32, 33] rfl
                                  refine vp_callSi (W.runV (As := []) (rest := []) ⟨hx, hb, hml, hown, hT⟩ (met_X4_thrown l dC dI cI cZ cJ cL am _ Y G_205  hw) (cwV 0 hT (gV k_346 k_348 k_349 k_287 k_347) rfl rfl rfl (by decide +kernel) ⟨(Nat.le_of_ble_eq_true rfl), (Nat.le_of_ble_eq_true rfl)⟩) ⟨bl_R, va_recv hK hPc (ci := 4) (q0 := 0) rfl rfl, fun U hU hW => ⟨rfl, by rw [hU]; exact hPc, va_K.moved hW.alike hK⟩⟩ rfl rfl hl.1 rfl (lv_room (Nat.le_of_ble_eq_true rfl)) dL_law_1014 ⟨by show _ ≤ 601024; omega, by show _ ≤ 7293000; omega⟩) (fun r_206 hw => ?_)
                                  try dsimp only at hw
                                  refine lv_iload hx hb dL_law_1017 (lv_at hl 1 rfl) ?_
                                  refine lv_icmp_eq (tgt := 1024) hx hb dL_law_1019 (by decide) (fun c_207 => ?_) (fun c_207 => ?_)
                                  · have hw := hw.1 c_207
                                    refine lv_iload hx hb dL_law_1024 (lv_at hl 1 rfl) ?_
                                    refine lv_if_ne (tgt := 1041) hx hb dL_law_1026 (by decide) (fun c_208 => ?_) (fun c_208 => ?_)
                                    · have hw := hw.2 c_208
                                      refine lv_goto (tgt := 1228) hx hb dL_law_1041 (by decide) ?_
                                      obtain ⟨x4_209, ex4_209⟩ : ∃ y : Int32, y = x4 + 6 := ⟨_, rfl⟩
                                      have hw := hw x4_209 ex4_209
                                      refine lv_iinc (v := x4_209) (lv' := [(4, .int x4_209), (6, .int r_204), (5, .int r_197), (0, .ref b), (1, .ref (ad 0)), (2, .ref (am 0)), (3, .ref ao)]) hx hb dL_law_1228 hl (k := 6) rfl (by rw [ex4_209]; rfl) (by decide) rfl (fun ls hl => ?_)
                                      refine lv_goto (tgt := 43) hx hb dL_law_1231 (by decide) ?_
                                      refine W.widen (k := 601024 - 4 * n) (n := 7293000 - 24 * n) (by omega) (by omega) ?_
                                      exact ih (by omega) (V9_198.1, G_205, V9_198.2) x4_209 hw _ _ _ hP hD hS (lv_sub hl [3, 4, 5, 6, 0] rfl)
                                    · have hw := hw.1 c_208
                                      refine lv_aload_n hx hb dL_law_1029 rfl (lv_at hl 5 rfl) ?_
                                      refine lv_iconst (v := 0) hx hb dL_law_1030 (by decide) ?_
                                      obtain ⟨h_210, hw⟩ := hw
                                      refine va_lald hx hb hK hP 34 3 rfl rfl h_210 dL_law_1031 ?_
                                      refine lv_iload hx hb dL_law_1032 (lv_at hl 0 rfl) ?_
                                      refine lv_i2l hx hb dL_law_1034 rfl ?_
                                      refine W.lcmp hx hb dL_law_1035 ?_
                                      refine lv_if_eq (tgt := 1041) hx hb dL_law_1036 (by decide) (fun c_211 => ?_) (fun c_211 => ?_)
                                      · have hw := hw.1 c_211
                                        refine lv_goto (tgt := 1228) hx hb dL_law_1041 (by decide) ?_
                                        obtain ⟨x4_212, ex4_212⟩ : ∃ y : Int32, y = x4 + 6 := ⟨_, rfl⟩
                                        have hw := hw x4_212 ex4_212
                                        refine lv_iinc (v := x4_212) (lv' := [(4, .int x4_212), (6, .int r_204), (5, .int r_197), (0, .ref b), (1, .ref (ad 0)), (2, .ref (am 0)), (3, .ref ao)]) hx hb dL_law_1228 hl (k := 6) rfl (by rw [ex4_212]; rfl) (by decide) rfl (fun ls hl => ?_)
                                        refine lv_goto (tgt := 43) hx hb dL_law_1231 (by decide) ?_
                                        refine W.widen (k := 601024 - 4 * n) (n := 7293000 - 24 * n) (by omega) (by omega) ?_
                                        exact ih (by omega) (V9_198.1, G_205, V9_198.2) x4_212 hw _ _ _ hP hD hS (lv_sub hl [3, 4, 5, 6, 0] rfl)
                                      · have hw := hw.2 c_211
                                        refine lv_iconst (v := 0) hx hb dL_law_1039 (by decide) ?_
                                        exact hw.elim
                                  · have hw := hw.2 c_207
                                    refine lv_iconst (v := 0) hx hb dL_law_1022 (by decide) ?_
                                    exact hw.elim
                                · have hw := hw.2 c_200
                                  refine lv_iconst (v := 1) hx hb dL_law_985 (by decide) ?_
                                  refine lv_goto (tgt := 990) hx hb dL_law_986 (by decide) ?_
                                  refine lv_aload_n hx hb dL_law_990 rfl (lv_at hl 1 rfl) ?_
                                  refine lv_iload hx hb dL_law_991 (lv_at hl 5 rfl) ?_
                                  refine lv_iconst (v := 2) hx hb dL_law_993 (by decide) ?_
                                  refine lv_iadd hx hb dL_law_994 ?_
                                  obtain ⟨h_213, hw⟩ := hw
                                  refine va_sld hx hb hX hbl hbA hS h_213 dL_law_995 ?_
                                  refine lv_aload_n hx hb dL_law_996 rfl (lv_at hl 1 rfl) ?_
                                  refine lv_iload hx hb dL_law_997 (lv_at hl 5 rfl) ?_
                                  refine lv_iconst (v := 3) hx hb dL_law_999 (by decide) ?_
                                  refine lv_iadd hx hb dL_law_1000 ?_
                                  obtain ⟨h_214, hw⟩ := hw
                                  refine va_sld hx hb hX hbl hbA hS h_214 dL_law_1001 ?_
                                  refine lv_aload_n hx hb dL_law_1002 rfl (lv_at hl 1 rfl) ?_
                                  refine lv_iload hx hb dL_law_1003 (lv_at hl 5 rfl) ?_
                                  refine lv_iconst (v := 4) hx hb dL_law_1005 (by decide) ?_
                                  refine lv_iadd hx hb dL_law_1006 ?_
                                  obtain ⟨h_215, hw⟩ := hw
                                  refine va_sld hx hb hX hbl hbA hS h_215 dL_law_1007 ?_
                                  have hPc := hP.sub (ws' := wMM cI cZ am Y A9.2.1) [20, 21, 22, 23, 24, 25, 26, 27, 28, 29, 30, 31, 32, 33] rfl
                                  have hDc := hD.sub (ws' := wMM cI cZ am Y A9.2.1) [20, 21, 22, 23, 24, 25, 26, 27, 28, 29, 30, 31, 32, 33] (by decide) rfl
                                  have hFc := va_free (wc := wMM cI cZ am Y A9.2.1) hD hS hA [20, 21, 22, 23, 24, 25, 26, 27, 28, 29, 30, 31, 32, 33] rfl
                                  refine va_calli (va_runV (As := [.int 1, .int (xs (x4 + 2).toNatClampNeg), .int (xs (x4 + 3).toNatClampNeg), .int (xs (x4 + 4).toNatClampNeg)]) (rest := []) ⟨hx, hb, hml, hown, hT⟩ (met_X4_bound l dC dI cI cZ cJ cL am H.size _ Y A9.2.1 1 (xs (x4 + 2).toNatClampNeg) (xs (x4 + 3).toNatClampNeg) (xs (x4 + 4).toNatClampNeg) hw) (cwV 4 hT (gV k_423 k_425 k_426 k_287 k_424) rfl rfl rfl (by decide +kernel) ⟨(Nat.le_of_ble_eq_true rfl), (Nat.le_of_ble_eq_true rfl)⟩) ⟨bl_W, va_recv hK hPc (ci := 4) (q0 := 0) rfl rfl, fun U hU hW => ⟨rfl, by rw [hU], by rw [hU]; exact hPc, va_K.moved hW.alike hK, hDc.weaken (fun _ _ _ _ => trivial)⟩⟩ rfl rfl hl.1 rfl (lv_room (Nat.le_of_ble_eq_true rfl)) dL_law_1008 ⟨by show _ ≤ 601024; omega, by show _ ≤ 7293000; omega⟩) hS (fun q _ h => hFc q h) hFc (fun r_216 G_217 t H1 locs ht hvm hw hB hz1 hk1 hS => ?_)
                                  obtain ⟨hP1, -, hD1⟩ := hB
                                  try dsimp only at hw
                                  rw [ht] at hP1
                                  obtain ⟨hP, hD⟩ := va_join (wr := [(ad 0, .inr (3, [.ref (ad 1), .ref (ad 9), .ref (ad 10), .ref (ad 13), .ref (ad 16), .ref (ad 18), .int V9_198.1.2.2.2.2.2])), (ad 1, .inr (1, [.int S.1.1, .int S.1.2.1, .int S.1.2.2.1, .int S.1.2.2.2.1, .int S.1.2.2.2.2, .ref (ad 2), .ref (ad 3), .ref (ad 4), .ref (ad 5)])), (ad 2, .inl (cI, 6, .inl S.2.1.1)), (ad 3, .inl (cI, 6, .inl S.2.1.2.1)), (ad 4, .inl (cI, 6, .inl S.2.1.2.2)), (ad 5, .inl (cJ, 3, .inr (.inr (.inr (.inr (fun i => if i < 3 then some (ra i) else none)))))), (ra 0, .inl (cI, nl, .inl (S.2.2 0))), (ra 1, .inl (cI, nl, .inl (S.2.2 1))), (ra 2, .inl (cI, nl, .inl (S.2.2 2))), (ad 9, .inl (cI, nn, .inl V9_198.1.1)), (ad 10, .inr (2, [.ref (ad 11), .ref (ad 12), .int V9_198.1.2.1.2.2])), (ad 11, .inl (cI, nn, .inl V9_198.1.2.1.1)), (ad 12, .inl (cZ, nn, .inl V9_198.1.2.1.2.1)), (ad 13, .inr (2, [.ref (ad 14), .ref (ad 15), .int V9_198.1.2.2.1.2.2])), (ad 14, .inl (cI, nn, .inl V9_198.1.2.2.1.1)), (ad 15, .inl (cZ, nn, .inl V9_198.1.2.2.1.2.1)), (ad 16, .inr (0, [.ref (ad 17), .int V9_198.1.2.2.2.1.2.1, .int V9_198.1.2.2.2.1.2.2])), (ad 17, .inl (cI, 1250, .inl V9_198.1.2.2.2.1.1)), (ad 18, .inr (0, [.ref (ad 19), .int V9_198.1.2.2.2.2.1.2.1, .int V9_198.1.2.2.2.2.1.2.2])), (ad 19, .inl (cI, 1250, .inl V9_198.1.2.2.2.2.1.1)), (ao, .inl (cL, 1, .inr (.inl V9_198.2)))]) (w1 := wMM cI cZ am Y G_217) hP hD [20, 21, 22, 23, 24, 25, 26, 27, 28, 29, 30, 31, 32, 33] [0, 1, 2, 3, 4, 5, 6, 7, 8, 9, 10, 11, 12, 13, 14, 15, 16, 17, 18, 19, 34] rfl rfl (by decide) (by decide) hk1 hFc hP1 hD1
                                  generalize H1 = H at hP hS ⊢
                                  have hP := hP.sub (ws' := wLA cI cZ cJ cL nl nn ad ra am ao S Y (V9_198.1, G_217, V9_198.2)) [0, 1, 2, 3, 4, 5, 6, 7, 8, 9, 10, 11, 12, 13, 14, 15, 16, 17, 18, 19, 21, 22, 23, 24, 25, 26, 27, 28, 29, 30, 31, 32, 33, 34, 20] rfl
                                  have hD := hD.sub (ws' := wLA cI cZ cJ cL nl nn ad ra am ao S Y (V9_198.1, G_217, V9_198.2)) [0, 1, 2, 3, 4, 5, 6, 7, 8, 9, 10, 11, 12, 13, 14, 15, 16, 17, 18, 19, 21, 22, 23, 24, 25, 26, 27, 28, 29, 30, 31, 32, 33, 34, 20] (by decide) rfl
                                  refine lv_istore (lv' := [(6, .int r_216), (5, .int r_197), (0, .ref b), (1, .ref (ad 0)), (2, .ref (am 0)), (3, .ref ao), (4, .int x4)]) hx hb dL_law_1011 hl (by decide) rfl (fun ls hl => ?_)
                                  refine lv_aload_n hx hb dL_law_1013 rfl (lv_at hl 4 rfl) ?_
                                  have hPc := hP.sub (ws' := wMM cI cZ am Y G_217) [20, 21, 22, 23, 24, 25, 26, 27, 28, 29, 30, 31, 32, 33] rfl
                                  refine vp_callSi (W.runV (As := []) (rest := []) ⟨hx, hb, hml, hown, hT⟩ (met_X4_thrown l dC dI cI cZ cJ cL am _ Y G_217  hw) (cwV 0 hT (gV k_346 k_348 k_349 k_287 k_347) rfl rfl rfl (by decide +kernel) ⟨(Nat.le_of_ble_eq_true rfl), (Nat.le_of_ble_eq_true rfl)⟩) ⟨bl_R, va_recv hK hPc (ci := 4) (q0 := 0) rfl rfl, fun U hU hW => ⟨rfl, by rw [hU]; exact hPc, va_K.moved hW.alike hK⟩⟩ rfl rfl hl.1 rfl (lv_room (Nat.le_of_ble_eq_true rfl)) dL_law_1014 ⟨by show _ ≤ 601024; omega, by show _ ≤ 7293000; omega⟩) (fun r_218 hw => ?_)
                                  try dsimp only at hw
                                  refine lv_iload hx hb dL_law_1017 (lv_at hl 1 rfl) ?_
                                  refine lv_icmp_eq (tgt := 1024) hx hb dL_law_1019 (by decide) (fun c_219 => ?_) (fun c_219 => ?_)
                                  · have hw := hw.1 c_219
                                    refine lv_iload hx hb dL_law_1024 (lv_at hl 1 rfl) ?_
                                    refine lv_if_ne (tgt := 1041) hx hb dL_law_1026 (by decide) (fun c_220 => ?_) (fun c_220 => ?_)
                                    · have hw := hw.2 c_220
                                      refine lv_goto (tgt := 1228) hx hb dL_law_1041 (by decide) ?_
                                      obtain ⟨x4_221, ex4_221⟩ : ∃ y : Int32, y = x4 + 6 := ⟨_, rfl⟩
                                      have hw := hw x4_221 ex4_221
                                      refine lv_iinc (v := x4_221) (lv' := [(4, .int x4_221), (6, .int r_216), (5, .int r_197), (0, .ref b), (1, .ref (ad 0)), (2, .ref (am 0)), (3, .ref ao)]) hx hb dL_law_1228 hl (k := 6) rfl (by rw [ex4_221]; rfl) (by decide) rfl (fun ls hl => ?_)
                                      refine lv_goto (tgt := 43) hx hb dL_law_1231 (by decide) ?_
                                      refine W.widen (k := 601024 - 4 * n) (n := 7293000 - 24 * n) (by omega) (by omega) ?_
                                      exact ih (by omega) (V9_198.1, G_217, V9_198.2) x4_221 hw _ _ _ hP hD hS (lv_sub hl [3, 4, 5, 6, 0] rfl)
                                    · have hw := hw.1 c_220
                                      refine lv_aload_n hx hb dL_law_1029 rfl (lv_at hl 5 rfl) ?_
                                      refine lv_iconst (v := 0) hx hb dL_law_1030 (by decide) ?_
                                      obtain ⟨h_222, hw⟩ := hw
                                      refine va_lald hx hb hK hP 34 3 rfl rfl h_222 dL_law_1031 ?_
                                      refine lv_iload hx hb dL_law_1032 (lv_at hl 0 rfl) ?_
                                      refine lv_i2l hx hb dL_law_1034 rfl ?_
                                      refine W.lcmp hx hb dL_law_1035 ?_
                                      refine lv_if_eq (tgt := 1041) hx hb dL_law_1036 (by decide) (fun c_223 => ?_) (fun c_223 => ?_)
                                      · have hw := hw.1 c_223
                                        refine lv_goto (tgt := 1228) hx hb dL_law_1041 (by decide) ?_
                                        obtain ⟨x4_224, ex4_224⟩ : ∃ y : Int32, y = x4 + 6 := ⟨_, rfl⟩
                                        have hw := hw x4_224 ex4_224
                                        refine lv_iinc (v := x4_224) (lv' := [(4, .int x4_224), (6, .int r_216), (5, .int r_197), (0, .ref b), (1, .ref (ad 0)), (2, .ref (am 0)), (3, .ref ao)]) hx hb dL_law_1228 hl (k := 6) rfl (by rw [ex4_224]; rfl) (by decide) rfl (fun ls hl => ?_)
                                        refine lv_goto (tgt := 43) hx hb dL_law_1231 (by decide) ?_
                                        refine W.widen (k := 601024 - 4 * n) (n := 7293000 - 24 * n) (by omega) (by omega) ?_
                                        exact ih (by omega) (V9_198.1, G_217, V9_198.2) x4_224 hw _ _ _ hP hD hS (lv_sub hl [3, 4, 5, 6, 0] rfl)
                                      · have hw := hw.2 c_223
                                        refine lv_iconst (v := 0) hx hb dL_law_1039 (by decide) ?_
                                        exact hw.elim
                                  · have hw := hw.2 c_219
                                    refine lv_iconst (v := 0) hx hb dL_law_1022 (by decide) ?_
                                    exact hw.elim
                              · have hw := hw.2 c_193
                                refine lv_iconst (v := 1) hx hb dL_law_946 (by decide) ?_
                                refine lv_goto (tgt := 951) hx hb dL_law_947 (by decide) ?_
                                refine lv_aload_n hx hb dL_law_951 rfl (lv_at hl 0 rfl) ?_
                                refine lv_iload hx hb dL_law_952 (lv_at hl 4 rfl) ?_
                                refine lv_iconst (v := 2) hx hb dL_law_954 (by decide) ?_
                                refine lv_iadd hx hb dL_law_955 ?_
                                obtain ⟨h_225, hw⟩ := hw
                                refine va_sld hx hb hX hbl hbA hS h_225 dL_law_956 ?_
                                refine lv_aload_n hx hb dL_law_957 rfl (lv_at hl 0 rfl) ?_
                                refine lv_iload hx hb dL_law_958 (lv_at hl 4 rfl) ?_
                                refine lv_iconst (v := 3) hx hb dL_law_960 (by decide) ?_
                                refine lv_iadd hx hb dL_law_961 ?_
                                obtain ⟨h_226, hw⟩ := hw
                                refine va_sld hx hb hX hbl hbA hS h_226 dL_law_962 ?_
                                refine lv_aload_n hx hb dL_law_963 rfl (lv_at hl 0 rfl) ?_
                                refine lv_iload hx hb dL_law_964 (lv_at hl 4 rfl) ?_
                                refine lv_iconst (v := 4) hx hb dL_law_966 (by decide) ?_
                                refine lv_iadd hx hb dL_law_967 ?_
                                obtain ⟨h_227, hw⟩ := hw
                                refine va_sld hx hb hX hbl hbA hS h_227 dL_law_968 ?_
                                refine lv_aload_n hx hb dL_law_969 rfl (lv_at hl 3 rfl) ?_
                                have hPc := hP.sub (ws' := wLW cI cZ cJ cL nl nn ad ra ao S (A9.1, A9.2.2)) [0, 1, 2, 3, 4, 5, 6, 7, 8, 9, 10, 11, 12, 13, 14, 15, 16, 17, 18, 19, 34] rfl
                                have hDc := hD.sub (ws' := wLW cI cZ cJ cL nl nn ad ra ao S (A9.1, A9.2.2)) [0, 1, 2, 3, 4, 5, 6, 7, 8, 9, 10, 11, 12, 13, 14, 15, 16, 17, 18, 19, 34] (by decide) rfl
                                have hFc := va_free (wc := wLW cI cZ cJ cL nl nn ad ra ao S (A9.1, A9.2.2)) hD hS hA [0, 1, 2, 3, 4, 5, 6, 7, 8, 9, 10, 11, 12, 13, 14, 15, 16, 17, 18, 19, 34] rfl
                                refine va_calli (vx_runSW (As := [.ref (ad 0), .int 1, .int (xs (x4 + 2).toNatClampNeg), .int (xs (x4 + 3).toNatClampNeg), .int (xs (x4 + 4).toNatClampNeg), .ref ao]) (rest := []) ⟨hx, hb, hml, hown, hT⟩ (met_L_bound l hl9 dC dI cI cZ cJ cL sa ad ra ao H.size _ nl nn S (A9.1, A9.2.2) 1 (xs (x4 + 2).toNatClampNeg) (xs (x4 + 3).toNatClampNeg) (xs (x4 + 4).toNatClampNeg) hw) (vx_cwSW 6 hT (gS k_420 k_422 k_341 k_421) rfl rfl rfl (by decide +kernel) ⟨(Nat.le_of_ble_eq_true rfl), (Nat.le_of_ble_eq_true rfl)⟩) ⟨bl_L, fun U hU hW => ⟨rfl, by rw [hU], by rw [hU]; exact hPc, va_K.moved hW.alike hK, hDc.weaken (fun _ _ _ _ => trivial), hZ.call hW hU hS hFc, fun q h => va_Nc.moved hW.alike (hN q h)⟩⟩ rfl rfl hl.1 rfl (lv_room (Nat.le_of_ble_eq_true rfl)) dL_law_970 ⟨by show _ ≤ 601024; omega, by show _ ≤ 7293000; omega⟩) hS (fun q _ h => hFc q h) hFc (fun r_228 V9_229 t H1 locs ht hvm hw hB hz1 hk1 hS => ?_)
                                obtain ⟨hP1, -, hD1⟩ := hB
                                try dsimp only at hw
                                rw [ht] at hP1
                                obtain ⟨hP, hD⟩ := va_join (wr := [(am 0, .inr (4, [.int A9.2.1.1, .int Y.1.1, .int Y.1.2.1, .int Y.1.2.2.1, .ref (am 1), .ref (am 2), .ref (am 3), .int Y.1.2.2.2, .ref (am 4), .ref (am 5), .ref (am 6), .ref (am 7), .int A9.2.1.2.2.2.2.1.2.1, .int A9.2.1.2.2.2.2.1.2.2, .ref (am 8), .int A9.2.1.2.2.2.2.2.1.2.1, .int A9.2.1.2.2.2.2.2.1.2.2, .ref (am 9), .ref (am 10), .ref (am 11), .int A9.2.1.2.2.2.2.2.2.1.2.2.2, .ref (am 12), .ref (am 13)])), (am 1, .inl (cI, 8, .inl Y.2.1)), (am 2, .inl (cI, 8, .inl Y.2.2.1)), (am 3, .inl (cI, 8, .inl Y.2.2.2)), (am 4, .inl (cI, 1400, .inl A9.2.1.2.1)), (am 5, .inl (cI, 2800, .inl A9.2.1.2.2.1)), (am 6, .inl (cZ, 2800, .inl A9.2.1.2.2.2.1)), (am 7, .inl (cZ, 40000, .inl A9.2.1.2.2.2.2.1.1)), (am 8, .inl (cZ, 40000, .inl A9.2.1.2.2.2.2.2.1.1)), (am 9, .inl (cI, 8, .inl A9.2.1.2.2.2.2.2.2.1.1)), (am 10, .inl (cI, 8, .inl A9.2.1.2.2.2.2.2.2.1.2.1)), (am 11, .inl (cZ, 8, .inl A9.2.1.2.2.2.2.2.2.1.2.2.1)), (am 12, .inl (cI, 1400, .inl A9.2.1.2.2.2.2.2.2.2.1)), (am 13, .inl (cZ, 1400, .inl A9.2.1.2.2.2.2.2.2.2.2))]) (w1 := wLW cI cZ cJ cL nl nn ad ra ao S V9_229) hP hD [0, 1, 2, 3, 4, 5, 6, 7, 8, 9, 10, 11, 12, 13, 14, 15, 16, 17, 18, 19, 34] [20, 21, 22, 23, 24, 25, 26, 27, 28, 29, 30, 31, 32, 33] rfl rfl (by decide) (by decide) hk1 hFc hP1 hD1
                                generalize H1 = H at hP hS ⊢
                                have hP := hP.sub (ws' := wLA cI cZ cJ cL nl nn ad ra am ao S Y (V9_229.1, A9.2.1, V9_229.2)) [14, 15, 16, 17, 18, 19, 20, 21, 22, 23, 24, 25, 26, 27, 28, 29, 30, 31, 32, 33, 0, 1, 2, 3, 4, 5, 6, 7, 8, 9, 10, 11, 12, 13, 34] rfl
                                have hD := hD.sub (ws' := wLA cI cZ cJ cL nl nn ad ra am ao S Y (V9_229.1, A9.2.1, V9_229.2)) [14, 15, 16, 17, 18, 19, 20, 21, 22, 23, 24, 25, 26, 27, 28, 29, 30, 31, 32, 33, 0, 1, 2, 3, 4, 5, 6, 7, 8, 9, 10, 11, 12, 13, 34] (by decide) rfl
                                refine lv_istore (lv' := [(5, .int r_228), (0, .ref b), (1, .ref (ad 0)), (2, .ref (am 0)), (3, .ref ao), (4, .int x4)]) hx hb dL_law_973 hl (by decide) rfl (fun ls hl => ?_)
                                refine lv_aload_n hx hb dL_law_975 rfl (lv_at hl 3 rfl) ?_
                                refine lv_aload_n hx hb dL_law_976 rfl (lv_at hl 1 rfl) ?_
                                refine lv_iload hx hb dL_law_977 (lv_at hl 5 rfl) ?_
                                refine lv_iconst (v := 1) hx hb dL_law_979 (by decide) ?_
                                refine lv_iadd hx hb dL_law_980 ?_
                                obtain ⟨h_230, hw⟩ := hw
                                refine va_sld hx hb hX hbl hbA hS h_230 dL_law_981 ?_
                                refine lv_if_eq (tgt := 989) hx hb dL_law_982 (by decide) (fun c_231 => ?_) (fun c_231 => ?_)
                                · have hw := hw.1 c_231
                                  refine lv_iconst (v := 0) hx hb dL_law_989 (by decide) ?_
                                  refine lv_aload_n hx hb dL_law_990 rfl (lv_at hl 1 rfl) ?_
                                  refine lv_iload hx hb dL_law_991 (lv_at hl 5 rfl) ?_
                                  refine lv_iconst (v := 2) hx hb dL_law_993 (by decide) ?_
                                  refine lv_iadd hx hb dL_law_994 ?_
                                  obtain ⟨h_232, hw⟩ := hw
                                  refine va_sld hx hb hX hbl hbA hS h_232 dL_law_995 ?_
                                  refine lv_aload_n hx hb dL_law_996 rfl (lv_at hl 1 rfl) ?_
                                  refine lv_iload hx hb dL_law_997 (lv_at hl 5 rfl) ?_
                                  refine lv_iconst (v := 3) hx hb dL_law_999 (by decide) ?_
                                  refine lv_iadd hx hb dL_law_1000 ?_
                                  obtain ⟨h_233, hw⟩ := hw
                                  refine va_sld hx hb hX hbl hbA hS h_233 dL_law_1001 ?_
                                  refine lv_aload_n hx hb dL_law_1002 rfl (lv_at hl 1 rfl) ?_
                                  refine lv_iload hx hb dL_law_1003 (lv_at hl 5 rfl) ?_
                                  refine lv_iconst (v := 4) hx hb dL_law_1005 (by decide) ?_
                                  refine lv_iadd hx hb dL_law_1006 ?_
                                  obtain ⟨h_234, hw⟩ := hw
                                  refine va_sld hx hb hX hbl hbA hS h_234 dL_law_1007 ?_
                                  have hPc := hP.sub (ws' := wMM cI cZ am Y A9.2.1) [20, 21, 22, 23, 24, 25, 26, 27, 28, 29, 30, 31, 32, 33] rfl
                                  have hDc := hD.sub (ws' := wMM cI cZ am Y A9.2.1) [20, 21, 22, 23, 24, 25, 26, 27, 28, 29, 30, 31, 32, 33] (by decide) rfl
                                  have hFc := va_free (wc := wMM cI cZ am Y A9.2.1) hD hS hA [20, 21, 22, 23, 24, 25, 26, 27, 28, 29, 30, 31, 32, 33] rfl
                                  refine va_calli (va_runV (As := [.int 0, .int (xs (x4 + 2).toNatClampNeg), .int (xs (x4 + 3).toNatClampNeg), .int (xs (x4 + 4).toNatClampNeg)]) (rest := []) ⟨hx, hb, hml, hown, hT⟩ (met_X4_bound l dC dI cI cZ cJ cL am H.size _ Y A9.2.1 0 (xs (x4 + 2).toNatClampNeg) (xs (x4 + 3).toNatClampNeg) (xs (x4 + 4).toNatClampNeg) hw) (cwV 4 hT (gV k_423 k_425 k_426 k_287 k_424) rfl rfl rfl (by decide +kernel) ⟨(Nat.le_of_ble_eq_true rfl), (Nat.le_of_ble_eq_true rfl)⟩) ⟨bl_W, va_recv hK hPc (ci := 4) (q0 := 0) rfl rfl, fun U hU hW => ⟨rfl, by rw [hU], by rw [hU]; exact hPc, va_K.moved hW.alike hK, hDc.weaken (fun _ _ _ _ => trivial)⟩⟩ rfl rfl hl.1 rfl (lv_room (Nat.le_of_ble_eq_true rfl)) dL_law_1008 ⟨by show _ ≤ 601024; omega, by show _ ≤ 7293000; omega⟩) hS (fun q _ h => hFc q h) hFc (fun r_235 G_236 t H1 locs ht hvm hw hB hz1 hk1 hS => ?_)
                                  obtain ⟨hP1, -, hD1⟩ := hB
                                  try dsimp only at hw
                                  rw [ht] at hP1
                                  obtain ⟨hP, hD⟩ := va_join (wr := [(ad 0, .inr (3, [.ref (ad 1), .ref (ad 9), .ref (ad 10), .ref (ad 13), .ref (ad 16), .ref (ad 18), .int V9_229.1.2.2.2.2.2])), (ad 1, .inr (1, [.int S.1.1, .int S.1.2.1, .int S.1.2.2.1, .int S.1.2.2.2.1, .int S.1.2.2.2.2, .ref (ad 2), .ref (ad 3), .ref (ad 4), .ref (ad 5)])), (ad 2, .inl (cI, 6, .inl S.2.1.1)), (ad 3, .inl (cI, 6, .inl S.2.1.2.1)), (ad 4, .inl (cI, 6, .inl S.2.1.2.2)), (ad 5, .inl (cJ, 3, .inr (.inr (.inr (.inr (fun i => if i < 3 then some (ra i) else none)))))), (ra 0, .inl (cI, nl, .inl (S.2.2 0))), (ra 1, .inl (cI, nl, .inl (S.2.2 1))), (ra 2, .inl (cI, nl, .inl (S.2.2 2))), (ad 9, .inl (cI, nn, .inl V9_229.1.1)), (ad 10, .inr (2, [.ref (ad 11), .ref (ad 12), .int V9_229.1.2.1.2.2])), (ad 11, .inl (cI, nn, .inl V9_229.1.2.1.1)), (ad 12, .inl (cZ, nn, .inl V9_229.1.2.1.2.1)), (ad 13, .inr (2, [.ref (ad 14), .ref (ad 15), .int V9_229.1.2.2.1.2.2])), (ad 14, .inl (cI, nn, .inl V9_229.1.2.2.1.1)), (ad 15, .inl (cZ, nn, .inl V9_229.1.2.2.1.2.1)), (ad 16, .inr (0, [.ref (ad 17), .int V9_229.1.2.2.2.1.2.1, .int V9_229.1.2.2.2.1.2.2])), (ad 17, .inl (cI, 1250, .inl V9_229.1.2.2.2.1.1)), (ad 18, .inr (0, [.ref (ad 19), .int V9_229.1.2.2.2.2.1.2.1, .int V9_229.1.2.2.2.2.1.2.2])), (ad 19, .inl (cI, 1250, .inl V9_229.1.2.2.2.2.1.1)), (ao, .inl (cL, 1, .inr (.inl V9_229.2)))]) (w1 := wMM cI cZ am Y G_236) hP hD [20, 21, 22, 23, 24, 25, 26, 27, 28, 29, 30, 31, 32, 33] [0, 1, 2, 3, 4, 5, 6, 7, 8, 9, 10, 11, 12, 13, 14, 15, 16, 17, 18, 19, 34] rfl rfl (by decide) (by decide) hk1 hFc hP1 hD1
                                  generalize H1 = H at hP hS ⊢
                                  have hP := hP.sub (ws' := wLA cI cZ cJ cL nl nn ad ra am ao S Y (V9_229.1, G_236, V9_229.2)) [0, 1, 2, 3, 4, 5, 6, 7, 8, 9, 10, 11, 12, 13, 14, 15, 16, 17, 18, 19, 21, 22, 23, 24, 25, 26, 27, 28, 29, 30, 31, 32, 33, 34, 20] rfl
                                  have hD := hD.sub (ws' := wLA cI cZ cJ cL nl nn ad ra am ao S Y (V9_229.1, G_236, V9_229.2)) [0, 1, 2, 3, 4, 5, 6, 7, 8, 9, 10, 11, 12, 13, 14, 15, 16, 17, 18, 19, 21, 22, 23, 24, 25, 26, 27, 28, 29, 30, 31, 32, 33, 34, 20] (by decide) rfl
                                  refine lv_istore (lv' := [(6, .int r_235), (5, .int r_228), (0, .ref b), (1, .ref (ad 0)), (2, .ref (am 0)), (3, .ref ao), (4, .int x4)]) hx hb dL_law_1011 hl (by decide) rfl (fun ls hl => ?_)
                                  refine lv_aload_n hx hb dL_law_1013 rfl (lv_at hl 4 rfl) ?_
                                  have hPc := hP.sub (ws' := wMM cI cZ am Y G_236) [20, 21, 22, 23, 24, 25, 26, 27, 28, 29, 30, 31, 32, 33] rfl
                                  refine vp_callSi (W.runV (As := []) (rest := []) ⟨hx, hb, hml, hown, hT⟩ (met_X4_thrown l dC dI cI cZ cJ cL am _ Y G_236  hw) (cwV 0 hT (gV k_346 k_348 k_349 k_287 k_347) rfl rfl rfl (by decide +kernel) ⟨(Nat.le_of_ble_eq_true rfl), (Nat.le_of_ble_eq_true rfl)⟩) ⟨bl_R, va_recv hK hPc (ci := 4) (q0 := 0) rfl rfl, fun U hU hW => ⟨rfl, by rw [hU]; exact hPc, va_K.moved hW.alike hK⟩⟩ rfl rfl hl.1 rfl (lv_room (Nat.le_of_ble_eq_true rfl)) dL_law_1014 ⟨by show _ ≤ 601024; omega, by show _ ≤ 7293000; omega⟩) (fun r_237 hw => ?_)
                                  try dsimp only at hw
                                  refine lv_iload hx hb dL_law_1017 (lv_at hl 1 rfl) ?_
                                  refine lv_icmp_eq (tgt := 1024) hx hb dL_law_1019 (by decide) (fun c_238 => ?_) (fun c_238 => ?_)
                                  · have hw := hw.1 c_238
                                    refine lv_iload hx hb dL_law_1024 (lv_at hl 1 rfl) ?_
                                    refine lv_if_ne (tgt := 1041) hx hb dL_law_1026 (by decide) (fun c_239 => ?_) (fun c_239 => ?_)
                                    · have hw := hw.2 c_239
                                      refine lv_goto (tgt := 1228) hx hb dL_law_1041 (by decide) ?_
                                      obtain ⟨x4_240, ex4_240⟩ : ∃ y : Int32, y = x4 + 6 := ⟨_, rfl⟩
                                      have hw := hw x4_240 ex4_240
                                      refine lv_iinc (v := x4_240) (lv' := [(4, .int x4_240), (6, .int r_235), (5, .int r_228), (0, .ref b), (1, .ref (ad 0)), (2, .ref (am 0)), (3, .ref ao)]) hx hb dL_law_1228 hl (k := 6) rfl (by rw [ex4_240]; rfl) (by decide) rfl (fun ls hl => ?_)
                                      refine lv_goto (tgt := 43) hx hb dL_law_1231 (by decide) ?_
                                      refine W.widen (k := 601024 - 4 * n) (n := 7293000 - 24 * n) (by omega) (by omega) ?_
                                      exact ih (by omega) (V9_229.1, G_236, V9_229.2) x4_240 hw _ _ _ hP hD hS (lv_sub hl [3, 4, 5, 6, 0] rfl)
                                    · have hw := hw.1 c_239
                                      refine lv_aload_n hx hb dL_law_1029 rfl (lv_at hl 5 rfl) ?_
                                      refine lv_iconst (v := 0) hx hb dL_law_1030 (by decide) ?_
                                      obtain ⟨h_241, hw⟩ := hw
                                      refine va_lald hx hb hK hP 34 3 rfl rfl h_241 dL_law_1031 ?_
                                      refine lv_iload hx hb dL_law_1032 (lv_at hl 0 rfl) ?_
                                      refine lv_i2l hx hb dL_law_1034 rfl ?_
                                      refine W.lcmp hx hb dL_law_1035 ?_
                                      refine lv_if_eq (tgt := 1041) hx hb dL_law_1036 (by decide) (fun c_242 => ?_) (fun c_242 => ?_)
                                      · have hw := hw.1 c_242
                                        refine lv_goto (tgt := 1228) hx hb dL_law_1041 (by decide) ?_
                                        obtain ⟨x4_243, ex4_243⟩ : ∃ y : Int32, y = x4 + 6 := ⟨_, rfl⟩
                                        have hw := hw x4_243 ex4_243
                                        refine lv_iinc (v := x4_243) (lv' := [(4, .int x4_243), (6, .int r_235), (5, .int r_228), (0, .ref b), (1, .ref (ad 0)), (2, .ref (am 0)), (3, .ref ao)]) hx hb dL_law_1228 hl (k := 6) rfl (by rw [ex4_243]; rfl) (by decide) rfl (fun ls hl => ?_)
                                        refine lv_goto (tgt := 43) hx hb dL_law_1231 (by decide) ?_
                                        refine W.widen (k := 601024 - 4 * n) (n := 7293000 - 24 * n) (by omega) (by omega) ?_
                                        exact ih (by omega) (V9_229.1, G_236, V9_229.2) x4_243 hw _ _ _ hP hD hS (lv_sub hl [3, 4, 5, 6, 0] rfl)
                                      · have hw := hw.2 c_242
                                        refine lv_iconst (v := 0) hx hb dL_law_1039 (by decide) ?_
                                        exact hw.elim
                                  · have hw := hw.2 c_238
                                    refine lv_iconst (v := 0) hx hb dL_law_1022 (by decide) ?_
                                    exact hw.elim
                                · have hw := hw.2 c_231
                                  refine lv_iconst (v := 1) hx hb dL_law_985 (by decide) ?_
                                  refine lv_goto (tgt := 990) hx hb dL_law_986 (by decide) ?_
                                  refine lv_aload_n hx hb dL_law_990 rfl (lv_at hl 1 rfl) ?_
                                  refine lv_iload hx hb dL_law_991 (lv_at hl 5 rfl) ?_
                                  refine lv_iconst (v := 2) hx hb dL_law_993 (by decide) ?_
                                  refine lv_iadd hx hb dL_law_994 ?_
                                  obtain ⟨h_244, hw⟩ := hw
                                  refine va_sld hx hb hX hbl hbA hS h_244 dL_law_995 ?_
                                  refine lv_aload_n hx hb dL_law_996 rfl (lv_at hl 1 rfl) ?_
                                  refine lv_iload hx hb dL_law_997 (lv_at hl 5 rfl) ?_
                                  refine lv_iconst (v := 3) hx hb dL_law_999 (by decide) ?_
                                  refine lv_iadd hx hb dL_law_1000 ?_
                                  obtain ⟨h_245, hw⟩ := hw
                                  refine va_sld hx hb hX hbl hbA hS h_245 dL_law_1001 ?_
                                  refine lv_aload_n hx hb dL_law_1002 rfl (lv_at hl 1 rfl) ?_
                                  refine lv_iload hx hb dL_law_1003 (lv_at hl 5 rfl) ?_
                                  refine lv_iconst (v := 4) hx hb dL_law_1005 (by decide) ?_
                                  refine lv_iadd hx hb dL_law_1006 ?_
                                  obtain ⟨h_246, hw⟩ := hw
                                  refine va_sld hx hb hX hbl hbA hS h_246 dL_law_1007 ?_
                                  have hPc := hP.sub (ws' := wMM cI cZ am Y A9.2.1) [20, 21, 22, 23, 24, 25, 26, 27, 28, 29, 30, 31, 32, 33] rfl
                                  have hDc := hD.sub (ws' := wMM cI cZ am Y A9.2.1) [20, 21, 22, 23, 24, 25, 26, 27, 28, 29, 30, 31, 32, 33] (by decide) rfl
                                  have hFc := va_free (wc := wMM cI cZ am Y A9.2.1) hD hS hA [20, 21, 22, 23, 24, 25, 26, 27, 28, 29, 30, 31, 32, 33] rfl
                                  refine va_calli (va_runV (As := [.int 1, .int (xs (x4 + 2).toNatClampNeg), .int (xs (x4 + 3).toNatClampNeg), .int (xs (x4 + 4).toNatClampNeg)]) (rest := []) ⟨hx, hb, hml, hown, hT⟩ (met_X4_bound l dC dI cI cZ cJ cL am H.size _ Y A9.2.1 1 (xs (x4 + 2).toNatClampNeg) (xs (x4 + 3).toNatClampNeg) (xs (x4 + 4).toNatClampNeg) hw) (cwV 4 hT (gV k_423 k_425 k_426 k_287 k_424) rfl rfl rfl (by decide +kernel) ⟨(Nat.le_of_ble_eq_true rfl), (Nat.le_of_ble_eq_true rfl)⟩) ⟨bl_W, va_recv hK hPc (ci := 4) (q0 := 0) rfl rfl, fun U hU hW => ⟨rfl, by rw [hU], by rw [hU]; exact hPc, va_K.moved hW.alike hK, hDc.weaken (fun _ _ _ _ => trivial)⟩⟩ rfl rfl hl.1 rfl (lv_room (Nat.le_of_ble_eq_true rfl)) dL_law_1008 ⟨by show _ ≤ 601024; omega, by show _ ≤ 7293000; omega⟩) hS (fun q _ h => hFc q h) hFc (fun r_247 G_248 t H1 locs ht hvm hw hB hz1 hk1 hS => ?_)
                                  obtain ⟨hP1, -, hD1⟩ := hB
                                  try dsimp only at hw
                                  rw [ht] at hP1
                                  obtain ⟨hP, hD⟩ := va_join (wr := [(ad 0, .inr (3, [.ref (ad 1), .ref (ad 9), .ref (ad 10), .ref (ad 13), .ref (ad 16), .ref (ad 18), .int V9_229.1.2.2.2.2.2])), (ad 1, .inr (1, [.int S.1.1, .int S.1.2.1, .int S.1.2.2.1, .int S.1.2.2.2.1, .int S.1.2.2.2.2, .ref (ad 2), .ref (ad 3), .ref (ad 4), .ref (ad 5)])), (ad 2, .inl (cI, 6, .inl S.2.1.1)), (ad 3, .inl (cI, 6, .inl S.2.1.2.1)), (ad 4, .inl (cI, 6, .inl S.2.1.2.2)), (ad 5, .inl (cJ, 3, .inr (.inr (.inr (.inr (fun i => if i < 3 then some (ra i) else none)))))), (ra 0, .inl (cI, nl, .inl (S.2.2 0))), (ra 1, .inl (cI, nl, .inl (S.2.2 1))), (ra 2, .inl (cI, nl, .inl (S.2.2 2))), (ad 9, .inl (cI, nn, .inl V9_229.1.1)), (ad 10, .inr (2, [.ref (ad 11), .ref (ad 12), .int V9_229.1.2.1.2.2])), (ad 11, .inl (cI, nn, .inl V9_229.1.2.1.1)), (ad 12, .inl (cZ, nn, .inl V9_229.1.2.1.2.1)), (ad 13, .inr (2, [.ref (ad 14), .ref (ad 15), .int V9_229.1.2.2.1.2.2])), (ad 14, .inl (cI, nn, .inl V9_229.1.2.2.1.1)), (ad 15, .inl (cZ, nn, .inl V9_229.1.2.2.1.2.1)), (ad 16, .inr (0, [.ref (ad 17), .int V9_229.1.2.2.2.1.2.1, .int V9_229.1.2.2.2.1.2.2])), (ad 17, .inl (cI, 1250, .inl V9_229.1.2.2.2.1.1)), (ad 18, .inr (0, [.ref (ad 19), .int V9_229.1.2.2.2.2.1.2.1, .int V9_229.1.2.2.2.2.1.2.2])), (ad 19, .inl (cI, 1250, .inl V9_229.1.2.2.2.2.1.1)), (ao, .inl (cL, 1, .inr (.inl V9_229.2)))]) (w1 := wMM cI cZ am Y G_248) hP hD [20, 21, 22, 23, 24, 25, 26, 27, 28, 29, 30, 31, 32, 33] [0, 1, 2, 3, 4, 5, 6, 7, 8, 9, 10, 11, 12, 13, 14, 15, 16, 17, 18, 19, 34] rfl rfl (by decide) (by decide) hk1 hFc hP1 hD1
                                  generalize H1 = H at hP hS ⊢
                                  have hP := hP.sub (ws' := wLA cI cZ cJ cL nl nn ad ra am ao S Y (V9_229.1, G_248, V9_229.2)) [0, 1, 2, 3, 4, 5, 6, 7, 8, 9, 10, 11, 12, 13, 14, 15, 16, 17, 18, 19, 21, 22, 23, 24, 25, 26, 27, 28, 29, 30, 31, 32, 33, 34, 20] rfl
                                  have hD := hD.sub (ws' := wLA cI cZ cJ cL nl nn ad ra am ao S Y (V9_229.1, G_248, V9_229.2)) [0, 1, 2, 3, 4, 5, 6, 7, 8, 9, 10, 11, 12, 13, 14, 15, 16, 17, 18, 19, 21, 22, 23, 24, 25, 26, 27, 28, 29, 30, 31, 32, 33, 34, 20] (by decide) rfl
                                  refine lv_istore (lv' := [(6, .int r_247), (5, .int r_228), (0, .ref b), (1, .ref (ad 0)), (2, .ref (am 0)), (3, .ref ao), (4, .int x4)]) hx hb dL_law_1011 hl (by decide) rfl (fun ls hl => ?_)
                                  refine lv_aload_n hx hb dL_law_1013 rfl (lv_at hl 4 rfl) ?_
                                  have hPc := hP.sub (ws' := wMM cI cZ am Y G_248) [20, 21, 22, 23, 24, 25, 26, 27, 28, 29, 30, 31, 32, 33] rfl
                                  refine vp_callSi (W.runV (As := []) (rest := []) ⟨hx, hb, hml, hown, hT⟩ (met_X4_thrown l dC dI cI cZ cJ cL am _ Y G_248  hw) (cwV 0 hT (gV k_346 k_348 k_349 k_287 k_347) rfl rfl rfl (by decide +kernel) ⟨(Nat.le_of_ble_eq_true rfl), (Nat.le_of_ble_eq_true rfl)⟩) ⟨bl_R, va_recv hK hPc (ci := 4) (q0 := 0) rfl rfl, fun U hU hW => ⟨rfl, by rw [hU]; exact hPc, va_K.moved hW.alike hK⟩⟩ rfl rfl hl.1 rfl (lv_room (Nat.le_of_ble_eq_true rfl)) dL_law_1014 ⟨by show _ ≤ 601024; omega, by show _ ≤ 7293000; omega⟩) (fun r_249 hw => ?_)
                                  try dsimp only at hw
                                  refine lv_iload hx hb dL_law_1017 (lv_at hl 1 rfl) ?_
                                  refine lv_icmp_eq (tgt := 1024) hx hb dL_law_1019 (by decide) (fun c_250 => ?_) (fun c_250 => ?_)
                                  · have hw := hw.1 c_250
                                    refine lv_iload hx hb dL_law_1024 (lv_at hl 1 rfl) ?_
                                    refine lv_if_ne (tgt := 1041) hx hb dL_law_1026 (by decide) (fun c_251 => ?_) (fun c_251 => ?_)
                                    · have hw := hw.2 c_251
                                      refine lv_goto (tgt := 1228) hx hb dL_law_1041 (by decide) ?_
                                      obtain ⟨x4_252, ex4_252⟩ : ∃ y : Int32, y = x4 + 6 := ⟨_, rfl⟩
                                      have hw := hw x4_252 ex4_252
                                      refine lv_iinc (v := x4_252) (lv' := [(4, .int x4_252), (6, .int r_247), (5, .int r_228), (0, .ref b), (1, .ref (ad 0)), (2, .ref (am 0)), (3, .ref ao)]) hx hb dL_law_1228 hl (k := 6) rfl (by rw [ex4_252]; rfl) (by decide) rfl (fun ls hl => ?_)
                                      refine lv_goto (tgt := 43) hx hb dL_law_1231 (by decide) ?_
                                      refine W.widen (k := 601024 - 4 * n) (n := 7293000 - 24 * n) (by omega) (by omega) ?_
                                      exact ih (by omega) (V9_229.1, G_248, V9_229.2) x4_252 hw _ _ _ hP hD hS (lv_sub hl [3, 4, 5, 6, 0] rfl)
                                    · have hw := hw.1 c_251
                                      refine lv_aload_n hx hb dL_law_1029 rfl (lv_at hl 5 rfl) ?_
                                      refine lv_iconst (v := 0) hx hb dL_law_1030 (by decide) ?_
                                      obtain ⟨h_253, hw⟩ := hw
                                      refine va_lald hx hb hK hP 34 3 rfl rfl h_253 dL_law_1031 ?_
                                      refine lv_iload hx hb dL_law_1032 (lv_at hl 0 rfl) ?_
                                      refine lv_i2l hx hb dL_law_1034 rfl ?_
                                      refine W.lcmp hx hb dL_law_1035 ?_
                                      refine lv_if_eq (tgt := 1041) hx hb dL_law_1036 (by decide) (fun c_254 => ?_) (fun c_254 => ?_)
                                      · have hw := hw.1 c_254
                                        refine lv_goto (tgt := 1228) hx hb dL_law_1041 (by decide) ?_
                                        obtain ⟨x4_255, ex4_255⟩ : ∃ y : Int32, y = x4 + 6 := ⟨_, rfl⟩
                                        have hw := hw x4_255 ex4_255
                                        refine lv_iinc (v := x4_255) (lv' := [(4, .int x4_255), (6, .int r_247), (5, .int r_228), (0, .ref b), (1, .ref (ad 0)), (2, .ref (am 0)), (3, .ref ao)]) hx hb dL_law_1228 hl (k := 6) rfl (by rw [ex4_255]; rfl) (by decide) rfl (fun ls hl => ?_)
                                        refine lv_goto (tgt := 43) hx hb dL_law_1231 (by decide) ?_
                                        refine W.widen (k := 601024 - 4 * n) (n := 7293000 - 24 * n) (by omega) (by omega) ?_
                                        exact ih (by omega) (V9_229.1, G_248, V9_229.2) x4_255 hw _ _ _ hP hD hS (lv_sub hl [3, 4, 5, 6, 0] rfl)
                                      · have hw := hw.2 c_254
                                        refine lv_iconst (v := 0) hx hb dL_law_1039 (by decide) ?_
                                        exact hw.elim
                                  · have hw := hw.2 c_250
                                    refine lv_iconst (v := 0) hx hb dL_law_1022 (by decide) ?_
                                    exact hw.elim
                            · have hw := hw.2
                              rcases Classical.em (((xs x4.toNatClampNeg) &&& 15) = 12) with c_15 | c_15
                              · have hw := hw.1 c_15
                                refine lv_tableIn (off := 984) (tgt := 1044) hx hb dL_law_60 (by rw [c_15]; decide) (by rw [c_15]; decide) (by rw [c_15]; rfl) (by decide) ?_
                                refine lv_aload_n hx hb dL_law_1044 rfl (lv_at hl 1 rfl) ?_
                                refine lv_aload_n hx hb dL_law_1045 rfl (lv_at hl 0 rfl) ?_
                                refine lv_iload hx hb dL_law_1046 (lv_at hl 4 rfl) ?_
                                refine lv_iconst (v := 1) hx hb dL_law_1048 (by decide) ?_
                                refine lv_iadd hx hb dL_law_1049 ?_
                                obtain ⟨h_256, hw⟩ := hw
                                refine va_sld hx hb hX hbl hbA hS h_256 dL_law_1050 ?_
                                refine lv_aload_n hx hb dL_law_1051 rfl (lv_at hl 0 rfl) ?_
                                refine lv_iload hx hb dL_law_1052 (lv_at hl 4 rfl) ?_
                                refine lv_iconst (v := 2) hx hb dL_law_1054 (by decide) ?_
                                refine lv_iadd hx hb dL_law_1055 ?_
                                obtain ⟨h_257, hw⟩ := hw
                                refine va_sld hx hb hX hbl hbA hS h_257 dL_law_1056 ?_
                                refine lv_aload_n hx hb dL_law_1057 rfl (lv_at hl 0 rfl) ?_
                                refine lv_iload hx hb dL_law_1058 (lv_at hl 4 rfl) ?_
                                refine lv_iconst (v := 3) hx hb dL_law_1060 (by decide) ?_
                                refine lv_iadd hx hb dL_law_1061 ?_
                                obtain ⟨h_258, hw⟩ := hw
                                refine va_sld hx hb hX hbl hbA hS h_258 dL_law_1062 ?_
                                refine lv_aload_n hx hb dL_law_1063 rfl (lv_at hl 3 rfl) ?_
                                have hPc := hP.sub (ws' := wLW cI cZ cJ cL nl nn ad ra ao S (A9.1, A9.2.2)) [0, 1, 2, 3, 4, 5, 6, 7, 8, 9, 10, 11, 12, 13, 14, 15, 16, 17, 18, 19, 34] rfl
                                have hDc := hD.sub (ws' := wLW cI cZ cJ cL nl nn ad ra ao S (A9.1, A9.2.2)) [0, 1, 2, 3, 4, 5, 6, 7, 8, 9, 10, 11, 12, 13, 14, 15, 16, 17, 18, 19, 34] (by decide) rfl
                                have hFc := va_free (wc := wLW cI cZ cJ cL nl nn ad ra ao S (A9.1, A9.2.2)) hD hS hA [0, 1, 2, 3, 4, 5, 6, 7, 8, 9, 10, 11, 12, 13, 14, 15, 16, 17, 18, 19, 34] rfl
                                refine va_calli (vx_runSW (As := [.ref (ad 0), .int (xs (x4 + 1).toNatClampNeg), .int (xs (x4 + 2).toNatClampNeg), .int (xs (x4 + 3).toNatClampNeg), .ref ao]) (rest := []) ⟨hx, hb, hml, hown, hT⟩ (met_L_least l hl9 dC dI cI cZ cJ cL sa ad ra ao H.size _ nl nn S (A9.1, A9.2.2) (xs (x4 + 1).toNatClampNeg) (xs (x4 + 2).toNatClampNeg) (xs (x4 + 3).toNatClampNeg) hw) (vx_cwSW 5 hT (gS k_427 k_429 k_341 k_428) rfl rfl rfl (by decide +kernel) ⟨(Nat.le_of_ble_eq_true rfl), (Nat.le_of_ble_eq_true rfl)⟩) ⟨bl_L, fun U hU hW => ⟨rfl, by rw [hU], by rw [hU]; exact hPc, va_K.moved hW.alike hK, hDc.weaken (fun _ _ _ _ => trivial), hZ.call hW hU hS hFc, fun q h => va_Nc.moved hW.alike (hN q h)⟩⟩ rfl rfl hl.1 rfl (lv_room (Nat.le_of_ble_eq_true rfl)) dL_law_1064 ⟨by show _ ≤ 601024; omega, by show _ ≤ 7293000; omega⟩) hS (fun q _ h => hFc q h) hFc (fun r_259 V9_260 t H1 locs ht hvm hw hB hz1 hk1 hS => ?_)
                                obtain ⟨hP1, -, hD1⟩ := hB
                                try dsimp only at hw
                                rw [ht] at hP1
                                obtain ⟨hP, hD⟩ := va_join (wr := [(am 0, .inr (4, [.int A9.2.1.1, .int Y.1.1, .int Y.1.2.1, .int Y.1.2.2.1, .ref (am 1), .ref (am 2), .ref (am 3), .int Y.1.2.2.2, .ref (am 4), .ref (am 5), .ref (am 6), .ref (am 7), .int A9.2.1.2.2.2.2.1.2.1, .int A9.2.1.2.2.2.2.1.2.2, .ref (am 8), .int A9.2.1.2.2.2.2.2.1.2.1, .int A9.2.1.2.2.2.2.2.1.2.2, .ref (am 9), .ref (am 10), .ref (am 11), .int A9.2.1.2.2.2.2.2.2.1.2.2.2, .ref (am 12), .ref (am 13)])), (am 1, .inl (cI, 8, .inl Y.2.1)), (am 2, .inl (cI, 8, .inl Y.2.2.1)), (am 3, .inl (cI, 8, .inl Y.2.2.2)), (am 4, .inl (cI, 1400, .inl A9.2.1.2.1)), (am 5, .inl (cI, 2800, .inl A9.2.1.2.2.1)), (am 6, .inl (cZ, 2800, .inl A9.2.1.2.2.2.1)), (am 7, .inl (cZ, 40000, .inl A9.2.1.2.2.2.2.1.1)), (am 8, .inl (cZ, 40000, .inl A9.2.1.2.2.2.2.2.1.1)), (am 9, .inl (cI, 8, .inl A9.2.1.2.2.2.2.2.2.1.1)), (am 10, .inl (cI, 8, .inl A9.2.1.2.2.2.2.2.2.1.2.1)), (am 11, .inl (cZ, 8, .inl A9.2.1.2.2.2.2.2.2.1.2.2.1)), (am 12, .inl (cI, 1400, .inl A9.2.1.2.2.2.2.2.2.2.1)), (am 13, .inl (cZ, 1400, .inl A9.2.1.2.2.2.2.2.2.2.2))]) (w1 := wLW cI cZ cJ cL nl nn ad ra ao S V9_260) hP hD [0, 1, 2, 3, 4, 5, 6, 7, 8, 9, 10, 11, 12, 13, 14, 15, 16, 17, 18, 19, 34] [20, 21, 22, 23, 24, 25, 26, 27, 28, 29, 30, 31, 32, 33] rfl rfl (by decide) (by decide) hk1 hFc hP1 hD1
                                generalize H1 = H at hP hS ⊢
                                have hP := hP.sub (ws' := wLA cI cZ cJ cL nl nn ad ra am ao S Y (V9_260.1, A9.2.1, V9_260.2)) [14, 15, 16, 17, 18, 19, 20, 21, 22, 23, 24, 25, 26, 27, 28, 29, 30, 31, 32, 33, 0, 1, 2, 3, 4, 5, 6, 7, 8, 9, 10, 11, 12, 13, 34] rfl
                                have hD := hD.sub (ws' := wLA cI cZ cJ cL nl nn ad ra am ao S Y (V9_260.1, A9.2.1, V9_260.2)) [14, 15, 16, 17, 18, 19, 20, 21, 22, 23, 24, 25, 26, 27, 28, 29, 30, 31, 32, 33, 0, 1, 2, 3, 4, 5, 6, 7, 8, 9, 10, 11, 12, 13, 34] (by decide) rfl
                                refine lv_istore (lv' := [(5, .int r_259), (0, .ref b), (1, .ref (ad 0)), (2, .ref (am 0)), (3, .ref ao), (4, .int x4)]) hx hb dL_law_1067 hl (by decide) rfl (fun ls hl => ?_)
                                refine lv_aload_n hx hb dL_law_1069 rfl (lv_at hl 3 rfl) ?_
                                refine lv_aload_n hx hb dL_law_1070 rfl (lv_at hl 1 rfl) ?_
                                refine lv_iload hx hb dL_law_1071 (lv_at hl 5 rfl) ?_
                                refine lv_iconst (v := 1) hx hb dL_law_1073 (by decide) ?_
                                refine lv_iadd hx hb dL_law_1074 ?_
                                obtain ⟨h_261, hw⟩ := hw
                                refine va_sld hx hb hX hbl hbA hS h_261 dL_law_1075 ?_
                                refine lv_aload_n hx hb dL_law_1076 rfl (lv_at hl 1 rfl) ?_
                                refine lv_iload hx hb dL_law_1077 (lv_at hl 5 rfl) ?_
                                refine lv_iconst (v := 2) hx hb dL_law_1079 (by decide) ?_
                                refine lv_iadd hx hb dL_law_1080 ?_
                                obtain ⟨h_262, hw⟩ := hw
                                refine va_sld hx hb hX hbl hbA hS h_262 dL_law_1081 ?_
                                refine lv_aload_n hx hb dL_law_1082 rfl (lv_at hl 1 rfl) ?_
                                refine lv_iload hx hb dL_law_1083 (lv_at hl 5 rfl) ?_
                                refine lv_iconst (v := 3) hx hb dL_law_1085 (by decide) ?_
                                refine lv_iadd hx hb dL_law_1086 ?_
                                obtain ⟨h_263, hw⟩ := hw
                                refine va_sld hx hb hX hbl hbA hS h_263 dL_law_1087 ?_
                                have hPc := hP.sub (ws' := wMM cI cZ am Y A9.2.1) [20, 21, 22, 23, 24, 25, 26, 27, 28, 29, 30, 31, 32, 33] rfl
                                have hDc := hD.sub (ws' := wMM cI cZ am Y A9.2.1) [20, 21, 22, 23, 24, 25, 26, 27, 28, 29, 30, 31, 32, 33] (by decide) rfl
                                have hFc := va_free (wc := wMM cI cZ am Y A9.2.1) hD hS hA [20, 21, 22, 23, 24, 25, 26, 27, 28, 29, 30, 31, 32, 33] rfl
                                refine va_calli (va_runV (As := [.int (xs (x4 + 1).toNatClampNeg), .int (xs (x4 + 2).toNatClampNeg), .int (xs (x4 + 3).toNatClampNeg)]) (rest := []) ⟨hx, hb, hml, hown, hT⟩ (met_X4_least l dC dI cI cZ cJ cL am H.size _ Y A9.2.1 (xs (x4 + 1).toNatClampNeg) (xs (x4 + 2).toNatClampNeg) (xs (x4 + 3).toNatClampNeg) hw) (cwV 3 hT (gV k_430 k_432 k_433 k_287 k_431) rfl rfl rfl (by decide +kernel) ⟨(Nat.le_of_ble_eq_true rfl), (Nat.le_of_ble_eq_true rfl)⟩) ⟨bl_W, va_recv hK hPc (ci := 4) (q0 := 0) rfl rfl, fun U hU hW => ⟨rfl, by rw [hU], by rw [hU]; exact hPc, va_K.moved hW.alike hK, hDc.weaken (fun _ _ _ _ => trivial)⟩⟩ rfl rfl hl.1 rfl (lv_room (Nat.le_of_ble_eq_true rfl)) dL_law_1088 ⟨by show _ ≤ 601024; omega, by show _ ≤ 7293000; omega⟩) hS (fun q _ h => hFc q h) hFc (fun r_264 G_265 t H1 locs ht hvm hw hB hz1 hk1 hS => ?_)
                                obtain ⟨hP1, -, hD1⟩ := hB
                                try dsimp only at hw
                                rw [ht] at hP1
                                obtain ⟨hP, hD⟩ := va_join (wr := [(ad 0, .inr (3, [.ref (ad 1), .ref (ad 9), .ref (ad 10), .ref (ad 13), .ref (ad 16), .ref (ad 18), .int V9_260.1.2.2.2.2.2])), (ad 1, .inr (1, [.int S.1.1, .int S.1.2.1, .int S.1.2.2.1, .int S.1.2.2.2.1, .int S.1.2.2.2.2, .ref (ad 2), .ref (ad 3), .ref (ad 4), .ref (ad 5)])), (ad 2, .inl (cI, 6, .inl S.2.1.1)), (ad 3, .inl (cI, 6, .inl S.2.1.2.1)), (ad 4, .inl (cI, 6, .inl S.2.1.2.2)), (ad 5, .inl (cJ, 3, .inr (.inr (.inr (.inr (fun i => if i < 3 then some (ra i) else none)))))), (ra 0, .inl (cI, nl, .inl (S.2.2 0))), (ra 1, .inl (cI, nl, .inl (S.2.2 1))), (ra 2, .inl (cI, nl, .inl (S.2.2 2))), (ad 9, .inl (cI, nn, .inl V9_260.1.1)), (ad 10, .inr (2, [.ref (ad 11), .ref (ad 12), .int V9_260.1.2.1.2.2])), (ad 11, .inl (cI, nn, .inl V9_260.1.2.1.1)), (ad 12, .inl (cZ, nn, .inl V9_260.1.2.1.2.1)), (ad 13, .inr (2, [.ref (ad 14), .ref (ad 15), .int V9_260.1.2.2.1.2.2])), (ad 14, .inl (cI, nn, .inl V9_260.1.2.2.1.1)), (ad 15, .inl (cZ, nn, .inl V9_260.1.2.2.1.2.1)), (ad 16, .inr (0, [.ref (ad 17), .int V9_260.1.2.2.2.1.2.1, .int V9_260.1.2.2.2.1.2.2])), (ad 17, .inl (cI, 1250, .inl V9_260.1.2.2.2.1.1)), (ad 18, .inr (0, [.ref (ad 19), .int V9_260.1.2.2.2.2.1.2.1, .int V9_260.1.2.2.2.2.1.2.2])), (ad 19, .inl (cI, 1250, .inl V9_260.1.2.2.2.2.1.1)), (ao, .inl (cL, 1, .inr (.inl V9_260.2)))]) (w1 := wMM cI cZ am Y G_265) hP hD [20, 21, 22, 23, 24, 25, 26, 27, 28, 29, 30, 31, 32, 33] [0, 1, 2, 3, 4, 5, 6, 7, 8, 9, 10, 11, 12, 13, 14, 15, 16, 17, 18, 19, 34] rfl rfl (by decide) (by decide) hk1 hFc hP1 hD1
                                generalize H1 = H at hP hS ⊢
                                have hP := hP.sub (ws' := wLA cI cZ cJ cL nl nn ad ra am ao S Y (V9_260.1, G_265, V9_260.2)) [0, 1, 2, 3, 4, 5, 6, 7, 8, 9, 10, 11, 12, 13, 14, 15, 16, 17, 18, 19, 21, 22, 23, 24, 25, 26, 27, 28, 29, 30, 31, 32, 33, 34, 20] rfl
                                have hD := hD.sub (ws' := wLA cI cZ cJ cL nl nn ad ra am ao S Y (V9_260.1, G_265, V9_260.2)) [0, 1, 2, 3, 4, 5, 6, 7, 8, 9, 10, 11, 12, 13, 14, 15, 16, 17, 18, 19, 21, 22, 23, 24, 25, 26, 27, 28, 29, 30, 31, 32, 33, 34, 20] (by decide) rfl
                                refine lv_istore (lv' := [(6, .int r_264), (5, .int r_259), (0, .ref b), (1, .ref (ad 0)), (2, .ref (am 0)), (3, .ref ao), (4, .int x4)]) hx hb dL_law_1091 hl (by decide) rfl (fun ls hl => ?_)
                                refine lv_aload_n hx hb dL_law_1093 rfl (lv_at hl 4 rfl) ?_
                                have hPc := hP.sub (ws' := wMM cI cZ am Y G_265) [20, 21, 22, 23, 24, 25, 26, 27, 28, 29, 30, 31, 32, 33] rfl
                                refine vp_callSi (W.runV (As := []) (rest := []) ⟨hx, hb, hml, hown, hT⟩ (met_X4_thrown l dC dI cI cZ cJ cL am _ Y G_265  hw) (cwV 0 hT (gV k_346 k_348 k_349 k_287 k_347) rfl rfl rfl (by decide +kernel) ⟨(Nat.le_of_ble_eq_true rfl), (Nat.le_of_ble_eq_true rfl)⟩) ⟨bl_R, va_recv hK hPc (ci := 4) (q0 := 0) rfl rfl, fun U hU hW => ⟨rfl, by rw [hU]; exact hPc, va_K.moved hW.alike hK⟩⟩ rfl rfl hl.1 rfl (lv_room (Nat.le_of_ble_eq_true rfl)) dL_law_1094 ⟨by show _ ≤ 601024; omega, by show _ ≤ 7293000; omega⟩) (fun r_266 hw => ?_)
                                try dsimp only at hw
                                refine lv_iload hx hb dL_law_1097 (lv_at hl 1 rfl) ?_
                                refine lv_icmp_eq (tgt := 1104) hx hb dL_law_1099 (by decide) (fun c_267 => ?_) (fun c_267 => ?_)
                                · have hw := hw.1 c_267
                                  refine lv_iload hx hb dL_law_1104 (lv_at hl 1 rfl) ?_
                                  refine lv_if_ne (tgt := 1121) hx hb dL_law_1106 (by decide) (fun c_268 => ?_) (fun c_268 => ?_)
                                  · have hw := hw.2 c_268
                                    refine lv_goto (tgt := 1228) hx hb dL_law_1121 (by decide) ?_
                                    obtain ⟨x4_269, ex4_269⟩ : ∃ y : Int32, y = x4 + 6 := ⟨_, rfl⟩
                                    have hw := hw x4_269 ex4_269
                                    refine lv_iinc (v := x4_269) (lv' := [(4, .int x4_269), (6, .int r_264), (5, .int r_259), (0, .ref b), (1, .ref (ad 0)), (2, .ref (am 0)), (3, .ref ao)]) hx hb dL_law_1228 hl (k := 6) rfl (by rw [ex4_269]; rfl) (by decide) rfl (fun ls hl => ?_)
                                    refine lv_goto (tgt := 43) hx hb dL_law_1231 (by decide) ?_
                                    refine W.widen (k := 601024 - 4 * n) (n := 7293000 - 24 * n) (by omega) (by omega) ?_
                                    exact ih (by omega) (V9_260.1, G_265, V9_260.2) x4_269 hw _ _ _ hP hD hS (lv_sub hl [3, 4, 5, 6, 0] rfl)
                                  · have hw := hw.1 c_268
                                    refine lv_aload_n hx hb dL_law_1109 rfl (lv_at hl 5 rfl) ?_
                                    refine lv_iconst (v := 0) hx hb dL_law_1110 (by decide) ?_
                                    obtain ⟨h_270, hw⟩ := hw
                                    refine va_lald hx hb hK hP 34 3 rfl rfl h_270 dL_law_1111 ?_
                                    refine lv_iload hx hb dL_law_1112 (lv_at hl 0 rfl) ?_
                                    refine lv_i2l hx hb dL_law_1114 rfl ?_
                                    refine W.lcmp hx hb dL_law_1115 ?_
                                    refine lv_if_eq (tgt := 1121) hx hb dL_law_1116 (by decide) (fun c_271 => ?_) (fun c_271 => ?_)
                                    · have hw := hw.1 c_271
                                      refine lv_goto (tgt := 1228) hx hb dL_law_1121 (by decide) ?_
                                      obtain ⟨x4_272, ex4_272⟩ : ∃ y : Int32, y = x4 + 6 := ⟨_, rfl⟩
                                      have hw := hw x4_272 ex4_272
                                      refine lv_iinc (v := x4_272) (lv' := [(4, .int x4_272), (6, .int r_264), (5, .int r_259), (0, .ref b), (1, .ref (ad 0)), (2, .ref (am 0)), (3, .ref ao)]) hx hb dL_law_1228 hl (k := 6) rfl (by rw [ex4_272]; rfl) (by decide) rfl (fun ls hl => ?_)
                                      refine lv_goto (tgt := 43) hx hb dL_law_1231 (by decide) ?_
                                      refine W.widen (k := 601024 - 4 * n) (n := 7293000 - 24 * n) (by omega) (by omega) ?_
                                      exact ih (by omega) (V9_260.1, G_265, V9_260.2) x4_272 hw _ _ _ hP hD hS (lv_sub hl [3, 4, 5, 6, 0] rfl)
                                    · have hw := hw.2 c_271
                                      refine lv_iconst (v := 0) hx hb dL_law_1119 (by decide) ?_
                                      exact hw.elim
                                · have hw := hw.2 c_267
                                  refine lv_iconst (v := 0) hx hb dL_law_1102 (by decide) ?_
                                  exact hw.elim
                              · have hw := hw.2
                                rcases Classical.em (((xs x4.toNatClampNeg) &&& 15) = 13) with c_16 | c_16
                                · have hw := hw.1 c_16
                                  refine lv_tableIn (off := 1064) (tgt := 1124) hx hb dL_law_60 (by rw [c_16]; decide) (by rw [c_16]; decide) (by rw [c_16]; rfl) (by decide) ?_
                                  refine lv_aload_n hx hb dL_law_1124 rfl (lv_at hl 1 rfl) ?_
                                  refine lv_aload_n hx hb dL_law_1125 rfl (lv_at hl 0 rfl) ?_
                                  refine lv_iload hx hb dL_law_1126 (lv_at hl 4 rfl) ?_
                                  refine lv_iconst (v := 1) hx hb dL_law_1128 (by decide) ?_
                                  refine lv_iadd hx hb dL_law_1129 ?_
                                  obtain ⟨h_273, hw⟩ := hw
                                  refine va_sld hx hb hX hbl hbA hS h_273 dL_law_1130 ?_
                                  refine lv_aload_n hx hb dL_law_1131 rfl (lv_at hl 0 rfl) ?_
                                  refine lv_iload hx hb dL_law_1132 (lv_at hl 4 rfl) ?_
                                  refine lv_iconst (v := 2) hx hb dL_law_1134 (by decide) ?_
                                  refine lv_iadd hx hb dL_law_1135 ?_
                                  obtain ⟨h_274, hw⟩ := hw
                                  refine va_sld hx hb hX hbl hbA hS h_274 dL_law_1136 ?_
                                  refine lv_aload_n hx hb dL_law_1137 rfl (lv_at hl 3 rfl) ?_
                                  have hPc := hP.sub (ws' := wLW cI cZ cJ cL nl nn ad ra ao S (A9.1, A9.2.2)) [0, 1, 2, 3, 4, 5, 6, 7, 8, 9, 10, 11, 12, 13, 14, 15, 16, 17, 18, 19, 34] rfl
                                  have hDc := hD.sub (ws' := wLW cI cZ cJ cL nl nn ad ra ao S (A9.1, A9.2.2)) [0, 1, 2, 3, 4, 5, 6, 7, 8, 9, 10, 11, 12, 13, 14, 15, 16, 17, 18, 19, 34] (by decide) rfl
                                  have hFc := va_free (wc := wLW cI cZ cJ cL nl nn ad ra ao S (A9.1, A9.2.2)) hD hS hA [0, 1, 2, 3, 4, 5, 6, 7, 8, 9, 10, 11, 12, 13, 14, 15, 16, 17, 18, 19, 34] rfl
                                  refine va_calli (vx_runSW (As := [.ref (ad 0), .int (xs (x4 + 1).toNatClampNeg), .int (xs (x4 + 2).toNatClampNeg), .ref ao]) (rest := []) ⟨hx, hb, hml, hown, hT⟩ (met_L_leaf l hl9 dC dI cI cZ cJ cL sa ad ra ao H.size _ nl nn S (A9.1, A9.2.2) (xs (x4 + 1).toNatClampNeg) (xs (x4 + 2).toNatClampNeg) hw) (vx_cwSW 4 hT (gS k_434 k_436 k_341 k_435) rfl rfl rfl (by decide +kernel) ⟨(Nat.le_of_ble_eq_true rfl), (Nat.le_of_ble_eq_true rfl)⟩) ⟨bl_L, fun U hU hW => ⟨rfl, by rw [hU], by rw [hU]; exact hPc, va_K.moved hW.alike hK, hDc.weaken (fun _ _ _ _ => trivial), hZ.call hW hU hS hFc, fun q h => va_Nc.moved hW.alike (hN q h)⟩⟩ rfl rfl hl.1 rfl (lv_room (Nat.le_of_ble_eq_true rfl)) dL_law_1138 ⟨by show _ ≤ 601024; omega, by show _ ≤ 7293000; omega⟩) hS (fun q _ h => hFc q h) hFc (fun r_275 V9_276 t H1 locs ht hvm hw hB hz1 hk1 hS => ?_)
                                  obtain ⟨hP1, -, hD1⟩ := hB
                                  try dsimp only at hw
                                  rw [ht] at hP1
                                  obtain ⟨hP, hD⟩ := va_join (wr := [(am 0, .inr (4, [.int A9.2.1.1, .int Y.1.1, .int Y.1.2.1, .int Y.1.2.2.1, .ref (am 1), .ref (am 2), .ref (am 3), .int Y.1.2.2.2, .ref (am 4), .ref (am 5), .ref (am 6), .ref (am 7), .int A9.2.1.2.2.2.2.1.2.1, .int A9.2.1.2.2.2.2.1.2.2, .ref (am 8), .int A9.2.1.2.2.2.2.2.1.2.1, .int A9.2.1.2.2.2.2.2.1.2.2, .ref (am 9), .ref (am 10), .ref (am 11), .int A9.2.1.2.2.2.2.2.2.1.2.2.2, .ref (am 12), .ref (am 13)])), (am 1, .inl (cI, 8, .inl Y.2.1)), (am 2, .inl (cI, 8, .inl Y.2.2.1)), (am 3, .inl (cI, 8, .inl Y.2.2.2)), (am 4, .inl (cI, 1400, .inl A9.2.1.2.1)), (am 5, .inl (cI, 2800, .inl A9.2.1.2.2.1)), (am 6, .inl (cZ, 2800, .inl A9.2.1.2.2.2.1)), (am 7, .inl (cZ, 40000, .inl A9.2.1.2.2.2.2.1.1)), (am 8, .inl (cZ, 40000, .inl A9.2.1.2.2.2.2.2.1.1)), (am 9, .inl (cI, 8, .inl A9.2.1.2.2.2.2.2.2.1.1)), (am 10, .inl (cI, 8, .inl A9.2.1.2.2.2.2.2.2.1.2.1)), (am 11, .inl (cZ, 8, .inl A9.2.1.2.2.2.2.2.2.1.2.2.1)), (am 12, .inl (cI, 1400, .inl A9.2.1.2.2.2.2.2.2.2.1)), (am 13, .inl (cZ, 1400, .inl A9.2.1.2.2.2.2.2.2.2.2))]) (w1 := wLW cI cZ cJ cL nl nn ad ra ao S V9_276) hP hD [0, 1, 2, 3, 4, 5, 6, 7, 8, 9, 10, 11, 12, 13, 14, 15, 16, 17, 18, 19, 34] [20, 21, 22, 23, 24, 25, 26, 27, 28, 29, 30, 31, 32, 33] rfl rfl (by decide) (by decide) hk1 hFc hP1 hD1
                                  generalize H1 = H at hP hS ⊢
                                  have hP := hP.sub (ws' := wLA cI cZ cJ cL nl nn ad ra am ao S Y (V9_276.1, A9.2.1, V9_276.2)) [14, 15, 16, 17, 18, 19, 20, 21, 22, 23, 24, 25, 26, 27, 28, 29, 30, 31, 32, 33, 0, 1, 2, 3, 4, 5, 6, 7, 8, 9, 10, 11, 12, 13, 34] rfl
                                  have hD := hD.sub (ws' := wLA cI cZ cJ cL nl nn ad ra am ao S Y (V9_276.1, A9.2.1, V9_276.2)) [14, 15, 16, 17, 18, 19, 20, 21, 22, 23, 24, 25, 26, 27, 28, 29, 30, 31, 32, 33, 0, 1, 2, 3, 4, 5, 6, 7, 8, 9, 10, 11, 12, 13, 34] (by decide) rfl
                                  refine lv_istore (lv' := [(5, .int r_275), (0, .ref b), (1, .ref (ad 0)), (2, .ref (am 0)), (3, .ref ao), (4, .int x4)]) hx hb dL_law_1141 hl (by decide) rfl (fun ls hl => ?_)
                                  refine lv_aload_n hx hb dL_law_1143 rfl (lv_at hl 3 rfl) ?_
                                  refine lv_aload_n hx hb dL_law_1144 rfl (lv_at hl 1 rfl) ?_
                                  refine lv_iload hx hb dL_law_1145 (lv_at hl 5 rfl) ?_
                                  refine lv_iconst (v := 1) hx hb dL_law_1147 (by decide) ?_
                                  refine lv_iadd hx hb dL_law_1148 ?_
                                  obtain ⟨h_277, hw⟩ := hw
                                  refine va_sld hx hb hX hbl hbA hS h_277 dL_law_1149 ?_
                                  refine lv_aload_n hx hb dL_law_1150 rfl (lv_at hl 1 rfl) ?_
                                  refine lv_iload hx hb dL_law_1151 (lv_at hl 5 rfl) ?_
                                  refine lv_iconst (v := 2) hx hb dL_law_1153 (by decide) ?_
                                  refine lv_iadd hx hb dL_law_1154 ?_
                                  obtain ⟨h_278, hw⟩ := hw
                                  refine va_sld hx hb hX hbl hbA hS h_278 dL_law_1155 ?_
                                  have hPc := hP.sub (ws' := wMM cI cZ am Y A9.2.1) [20, 21, 22, 23, 24, 25, 26, 27, 28, 29, 30, 31, 32, 33] rfl
                                  have hDc := hD.sub (ws' := wMM cI cZ am Y A9.2.1) [20, 21, 22, 23, 24, 25, 26, 27, 28, 29, 30, 31, 32, 33] (by decide) rfl
                                  have hFc := va_free (wc := wMM cI cZ am Y A9.2.1) hD hS hA [20, 21, 22, 23, 24, 25, 26, 27, 28, 29, 30, 31, 32, 33] rfl
                                  refine va_calli (va_runV (As := [.int (xs (x4 + 1).toNatClampNeg), .int (xs (x4 + 2).toNatClampNeg)]) (rest := []) ⟨hx, hb, hml, hown, hT⟩ (met_X4_leaf l dC dI cI cZ cJ cL am H.size _ Y A9.2.1 (xs (x4 + 1).toNatClampNeg) (xs (x4 + 2).toNatClampNeg) hw) (cwV 2 hT (gV k_437 k_439 k_440 k_287 k_438) rfl rfl rfl (by decide +kernel) ⟨(Nat.le_of_ble_eq_true rfl), (Nat.le_of_ble_eq_true rfl)⟩) ⟨bl_W, va_recv hK hPc (ci := 4) (q0 := 0) rfl rfl, fun U hU hW => ⟨rfl, by rw [hU], by rw [hU]; exact hPc, va_K.moved hW.alike hK, hDc.weaken (fun _ _ _ _ => trivial)⟩⟩ rfl rfl hl.1 rfl (lv_room (Nat.le_of_ble_eq_true rfl)) dL_law_1156 ⟨by show _ ≤ 601024; omega, by show _ ≤ 7293000; omega⟩) hS (fun q _ h => hFc q h) hFc (fun r_279 G_280 t H1 locs ht hvm hw hB hz1 hk1 hS => ?_)
                                  obtain ⟨hP1, -, hD1⟩ := hB
                                  try dsimp only at hw
                                  rw [ht] at hP1
                                  obtain ⟨hP, hD⟩ := va_join (wr := [(ad 0, .inr (3, [.ref (ad 1), .ref (ad 9), .ref (ad 10), .ref (ad 13), .ref (ad 16), .ref (ad 18), .int V9_276.1.2.2.2.2.2])), (ad 1, .inr (1, [.int S.1.1, .int S.1.2.1, .int S.1.2.2.1, .int S.1.2.2.2.1, .int S.1.2.2.2.2, .ref (ad 2), .ref (ad 3), .ref (ad 4), .ref (ad 5)])), (ad 2, .inl (cI, 6, .inl S.2.1.1)), (ad 3, .inl (cI, 6, .inl S.2.1.2.1)), (ad 4, .inl (cI, 6, .inl S.2.1.2.2)), (ad 5, .inl (cJ, 3, .inr (.inr (.inr (.inr (fun i => if i < 3 then some (ra i) else none)))))), (ra 0, .inl (cI, nl, .inl (S.2.2 0))), (ra 1, .inl (cI, nl, .inl (S.2.2 1))), (ra 2, .inl (cI, nl, .inl (S.2.2 2))), (ad 9, .inl (cI, nn, .inl V9_276.1.1)), (ad 10, .inr (2, [.ref (ad 11), .ref (ad 12), .int V9_276.1.2.1.2.2])), (ad 11, .inl (cI, nn, .inl V9_276.1.2.1.1)), (ad 12, .inl (cZ, nn, .inl V9_276.1.2.1.2.1)), (ad 13, .inr (2, [.ref (ad 14), .ref (ad 15), .int V9_276.1.2.2.1.2.2])), (ad 14, .inl (cI, nn, .inl V9_276.1.2.2.1.1)), (ad 15, .inl (cZ, nn, .inl V9_276.1.2.2.1.2.1)), (ad 16, .inr (0, [.ref (ad 17), .int V9_276.1.2.2.2.1.2.1, .int V9_276.1.2.2.2.1.2.2])), (ad 17, .inl (cI, 1250, .inl V9_276.1.2.2.2.1.1)), (ad 18, .inr (0, [.ref (ad 19), .int V9_276.1.2.2.2.2.1.2.1, .int V9_276.1.2.2.2.2.1.2.2])), (ad 19, .inl (cI, 1250, .inl V9_276.1.2.2.2.2.1.1)), (ao, .inl (cL, 1, .inr (.inl V9_276.2)))]) (w1 := wMM cI cZ am Y G_280) hP hD [20, 21, 22, 23, 24, 25, 26, 27, 28, 29, 30, 31, 32, 33] [0, 1, 2, 3, 4, 5, 6, 7, 8, 9, 10, 11, 12, 13, 14, 15, 16, 17, 18, 19, 34] rfl rfl (by decide) (by decide) hk1 hFc hP1 hD1
                                  generalize H1 = H at hP hS ⊢
                                  have hP := hP.sub (ws' := wLA cI cZ cJ cL nl nn ad ra am ao S Y (V9_276.1, G_280, V9_276.2)) [0, 1, 2, 3, 4, 5, 6, 7, 8, 9, 10, 11, 12, 13, 14, 15, 16, 17, 18, 19, 21, 22, 23, 24, 25, 26, 27, 28, 29, 30, 31, 32, 33, 34, 20] rfl
                                  have hD := hD.sub (ws' := wLA cI cZ cJ cL nl nn ad ra am ao S Y (V9_276.1, G_280, V9_276.2)) [0, 1, 2, 3, 4, 5, 6, 7, 8, 9, 10, 11, 12, 13, 14, 15, 16, 17, 18, 19, 21, 22, 23, 24, 25, 26, 27, 28, 29, 30, 31, 32, 33, 34, 20] (by decide) rfl
                                  refine lv_istore (lv' := [(6, .int r_279), (5, .int r_275), (0, .ref b), (1, .ref (ad 0)), (2, .ref (am 0)), (3, .ref ao), (4, .int x4)]) hx hb dL_law_1159 hl (by decide) rfl (fun ls hl => ?_)
                                  refine lv_aload_n hx hb dL_law_1161 rfl (lv_at hl 4 rfl) ?_
                                  have hPc := hP.sub (ws' := wMM cI cZ am Y G_280) [20, 21, 22, 23, 24, 25, 26, 27, 28, 29, 30, 31, 32, 33] rfl
                                  refine vp_callSi (W.runV (As := []) (rest := []) ⟨hx, hb, hml, hown, hT⟩ (met_X4_thrown l dC dI cI cZ cJ cL am _ Y G_280  hw) (cwV 0 hT (gV k_346 k_348 k_349 k_287 k_347) rfl rfl rfl (by decide +kernel) ⟨(Nat.le_of_ble_eq_true rfl), (Nat.le_of_ble_eq_true rfl)⟩) ⟨bl_R, va_recv hK hPc (ci := 4) (q0 := 0) rfl rfl, fun U hU hW => ⟨rfl, by rw [hU]; exact hPc, va_K.moved hW.alike hK⟩⟩ rfl rfl hl.1 rfl (lv_room (Nat.le_of_ble_eq_true rfl)) dL_law_1162 ⟨by show _ ≤ 601024; omega, by show _ ≤ 7293000; omega⟩) (fun r_281 hw => ?_)
                                  try dsimp only at hw
                                  refine lv_iload hx hb dL_law_1165 (lv_at hl 1 rfl) ?_
                                  refine lv_icmp_eq (tgt := 1172) hx hb dL_law_1167 (by decide) (fun c_282 => ?_) (fun c_282 => ?_)
                                  · have hw := hw.1 c_282
                                    refine lv_iload hx hb dL_law_1172 (lv_at hl 1 rfl) ?_
                                    refine lv_if_ne (tgt := 1189) hx hb dL_law_1174 (by decide) (fun c_283 => ?_) (fun c_283 => ?_)
                                    · have hw := hw.2 c_283
                                      refine lv_goto (tgt := 1228) hx hb dL_law_1189 (by decide) ?_
                                      obtain ⟨x4_284, ex4_284⟩ : ∃ y : Int32, y = x4 + 6 := ⟨_, rfl⟩
                                      have hw := hw x4_284 ex4_284
                                      refine lv_iinc (v := x4_284) (lv' := [(4, .int x4_284), (6, .int r_279), (5, .int r_275), (0, .ref b), (1, .ref (ad 0)), (2, .ref (am 0)), (3, .ref ao)]) hx hb dL_law_1228 hl (k := 6) rfl (by rw [ex4_284]; rfl) (by decide) rfl (fun ls hl => ?_)
                                      refine lv_goto (tgt := 43) hx hb dL_law_1231 (by decide) ?_
                                      refine W.widen (k := 601024 - 4 * n) (n := 7293000 - 24 * n) (by omega) (by omega) ?_
                                      exact ih (by omega) (V9_276.1, G_280, V9_276.2) x4_284 hw _ _ _ hP hD hS (lv_sub hl [3, 4, 5, 6, 0] rfl)
                                    · have hw := hw.1 c_283
                                      refine lv_aload_n hx hb dL_law_1177 rfl (lv_at hl 5 rfl) ?_
                                      refine lv_iconst (v := 0) hx hb dL_law_1178 (by decide) ?_
                                      obtain ⟨h_285, hw⟩ := hw
                                      refine va_lald hx hb hK hP 34 3 rfl rfl h_285 dL_law_1179 ?_
                                      refine lv_iload hx hb dL_law_1180 (lv_at hl 0 rfl) ?_
                                      refine lv_i2l hx hb dL_law_1182 rfl ?_
                                      refine W.lcmp hx hb dL_law_1183 ?_
                                      refine lv_if_eq (tgt := 1189) hx hb dL_law_1184 (by decide) (fun c_286 => ?_) (fun c_286 => ?_)
                                      · have hw := hw.1 c_286
                                        refine lv_goto (tgt := 1228) hx hb dL_law_1189 (by decide) ?_
                                        obtain ⟨x4_287, ex4_287⟩ : ∃ y : Int32, y = x4 + 6 := ⟨_, rfl⟩
                                        have hw := hw x4_287 ex4_287
                                        refine lv_iinc (v := x4_287) (lv' := [(4, .int x4_287), (6, .int r_279), (5, .int r_275), (0, .ref b), (1, .ref (ad 0)), (2, .ref (am 0)), (3, .ref ao)]) hx hb dL_law_1228 hl (k := 6) rfl (by rw [ex4_287]; rfl) (by decide) rfl (fun ls hl => ?_)
                                        refine lv_goto (tgt := 43) hx hb dL_law_1231 (by decide) ?_
                                        refine W.widen (k := 601024 - 4 * n) (n := 7293000 - 24 * n) (by omega) (by omega) ?_
                                        exact ih (by omega) (V9_276.1, G_280, V9_276.2) x4_287 hw _ _ _ hP hD hS (lv_sub hl [3, 4, 5, 6, 0] rfl)
                                      · have hw := hw.2 c_286
                                        refine lv_iconst (v := 0) hx hb dL_law_1187 (by decide) ?_
                                        exact hw.elim
                                  · have hw := hw.2 c_282
                                    refine lv_iconst (v := 0) hx hb dL_law_1170 (by decide) ?_
                                    exact hw.elim
                                · have hw := hw.2
                                  rcases Classical.em (((xs x4.toNatClampNeg) &&& 15) = 14) with c_17 | c_17
                                  · have hw := hw.1 c_17
                                    refine lv_tableIn (off := 1132) (tgt := 1192) hx hb dL_law_60 (by rw [c_17]; decide) (by rw [c_17]; decide) (by rw [c_17]; rfl) (by decide) ?_
                                    refine lv_aload_n hx hb dL_law_1192 rfl (lv_at hl 1 rfl) ?_
                                    refine lv_aload_n hx hb dL_law_1193 rfl (lv_at hl 0 rfl) ?_
                                    refine lv_iload hx hb dL_law_1194 (lv_at hl 4 rfl) ?_
                                    refine lv_iconst (v := 1) hx hb dL_law_1196 (by decide) ?_
                                    refine lv_iadd hx hb dL_law_1197 ?_
                                    obtain ⟨h_288, hw⟩ := hw
                                    refine va_sld hx hb hX hbl hbA hS h_288 dL_law_1198 ?_
                                    have hPc := hP.sub (ws' := wTT cI cZ cJ nl nn ad ra S A9.1) [0, 1, 2, 3, 4, 5, 6, 7, 8, 9, 10, 11, 12, 13, 14, 15, 16, 17, 18, 19] rfl
                                    refine vp_callSi (W.runV (As := [.int (xs (x4 + 1).toNatClampNeg)]) (rest := []) ⟨hx, hb, hml, hown, hT⟩ (met_X3_told l dC dI cI cZ cJ cL ad ra _ nl nn S A9.1 (xs (x4 + 1).toNatClampNeg) hw) (cwV 1 hT (gV k_441 k_443 k_444 k_57 k_442) rfl rfl rfl (by decide +kernel) ⟨(Nat.le_of_ble_eq_true rfl), (Nat.le_of_ble_eq_true rfl)⟩) ⟨bl_R, va_recv hK hPc (ci := 3) (q0 := 0) rfl rfl, fun U hU hW => ⟨rfl, by rw [hU]; exact hPc, va_K.moved hW.alike hK⟩⟩ rfl rfl hl.1 rfl (lv_room (Nat.le_of_ble_eq_true rfl)) dL_law_1199 ⟨by show _ ≤ 601024; omega, by show _ ≤ 7293000; omega⟩) (fun r_289 hw => ?_)
                                    try dsimp only at hw
                                    refine lv_aload_n hx hb dL_law_1202 rfl (lv_at hl 2 rfl) ?_
                                    refine lv_aload_n hx hb dL_law_1203 rfl (lv_at hl 0 rfl) ?_
                                    refine lv_iload hx hb dL_law_1204 (lv_at hl 4 rfl) ?_
                                    refine lv_iconst (v := 1) hx hb dL_law_1206 (by decide) ?_
                                    refine lv_iadd hx hb dL_law_1207 ?_
                                    obtain ⟨h_290, hw⟩ := hw
                                    refine va_sld hx hb hX hbl hbA hS h_290 dL_law_1208 ?_
                                    have hPc := hP.sub (ws' := wMM cI cZ am Y A9.2.1) [20, 21, 22, 23, 24, 25, 26, 27, 28, 29, 30, 31, 32, 33] rfl
                                    have hDc := hD.sub (ws' := wMM cI cZ am Y A9.2.1) [20, 21, 22, 23, 24, 25, 26, 27, 28, 29, 30, 31, 32, 33] (by decide) rfl
                                    have hFc := va_free (wc := wMM cI cZ am Y A9.2.1) hD hS hA [20, 21, 22, 23, 24, 25, 26, 27, 28, 29, 30, 31, 32, 33] rfl
                                    refine va_calli (va_runV (As := [.int (xs (x4 + 1).toNatClampNeg)]) (rest := [.int r_289]) ⟨hx, hb, hml, hown, hT⟩ (met_X4_told l dC dI cI cZ cJ cL am H.size _ Y A9.2.1 (xs (x4 + 1).toNatClampNeg) hw) (cwV 1 hT (gV k_445 k_447 k_448 k_287 k_446) rfl rfl rfl (by decide +kernel) ⟨(Nat.le_of_ble_eq_true rfl), (Nat.le_of_ble_eq_true rfl)⟩) ⟨bl_W, va_recv hK hPc (ci := 4) (q0 := 0) rfl rfl, fun U hU hW => ⟨rfl, by rw [hU], by rw [hU]; exact hPc, va_K.moved hW.alike hK, hDc.weaken (fun _ _ _ _ => trivial)⟩⟩ rfl rfl hl.1 rfl (lv_room (Nat.le_of_ble_eq_true rfl)) dL_law_1209 ⟨by show _ ≤ 601024; omega, by show _ ≤ 7293000; omega⟩) hS (fun q _ h => hFc q h) hFc (fun r_291 G_292 t H1 locs ht hvm hw hB hz1 hk1 hS => ?_)
                                    obtain ⟨hP1, -, hD1⟩ := hB
                                    try dsimp only at hw
                                    rw [ht] at hP1
                                    obtain ⟨hP, hD⟩ := va_join (wr := [(ad 0, .inr (3, [.ref (ad 1), .ref (ad 9), .ref (ad 10), .ref (ad 13), .ref (ad 16), .ref (ad 18), .int A9.1.2.2.2.2.2])), (ad 1, .inr (1, [.int S.1.1, .int S.1.2.1, .int S.1.2.2.1, .int S.1.2.2.2.1, .int S.1.2.2.2.2, .ref (ad 2), .ref (ad 3), .ref (ad 4), .ref (ad 5)])), (ad 2, .inl (cI, 6, .inl S.2.1.1)), (ad 3, .inl (cI, 6, .inl S.2.1.2.1)), (ad 4, .inl (cI, 6, .inl S.2.1.2.2)), (ad 5, .inl (cJ, 3, .inr (.inr (.inr (.inr (fun i => if i < 3 then some (ra i) else none)))))), (ra 0, .inl (cI, nl, .inl (S.2.2 0))), (ra 1, .inl (cI, nl, .inl (S.2.2 1))), (ra 2, .inl (cI, nl, .inl (S.2.2 2))), (ad 9, .inl (cI, nn, .inl A9.1.1)), (ad 10, .inr (2, [.ref (ad 11), .ref (ad 12), .int A9.1.2.1.2.2])), (ad 11, .inl (cI, nn, .inl A9.1.2.1.1)), (ad 12, .inl (cZ, nn, .inl A9.1.2.1.2.1)), (ad 13, .inr (2, [.ref (ad 14), .ref (ad 15), .int A9.1.2.2.1.2.2])), (ad 14, .inl (cI, nn, .inl A9.1.2.2.1.1)), (ad 15, .inl (cZ, nn, .inl A9.1.2.2.1.2.1)), (ad 16, .inr (0, [.ref (ad 17), .int A9.1.2.2.2.1.2.1, .int A9.1.2.2.2.1.2.2])), (ad 17, .inl (cI, 1250, .inl A9.1.2.2.2.1.1)), (ad 18, .inr (0, [.ref (ad 19), .int A9.1.2.2.2.2.1.2.1, .int A9.1.2.2.2.2.1.2.2])), (ad 19, .inl (cI, 1250, .inl A9.1.2.2.2.2.1.1)), (ao, .inl (cL, 1, .inr (.inl A9.2.2)))]) (w1 := wMM cI cZ am Y G_292) hP hD [20, 21, 22, 23, 24, 25, 26, 27, 28, 29, 30, 31, 32, 33] [0, 1, 2, 3, 4, 5, 6, 7, 8, 9, 10, 11, 12, 13, 14, 15, 16, 17, 18, 19, 34] rfl rfl (by decide) (by decide) hk1 hFc hP1 hD1
                                    generalize H1 = H at hP hS ⊢
                                    have hP := hP.sub (ws' := wLA cI cZ cJ cL nl nn ad ra am ao S Y (A9.1, G_292, A9.2.2)) [0, 1, 2, 3, 4, 5, 6, 7, 8, 9, 10, 11, 12, 13, 14, 15, 16, 17, 18, 19, 21, 22, 23, 24, 25, 26, 27, 28, 29, 30, 31, 32, 33, 34, 20] rfl
                                    have hD := hD.sub (ws' := wLA cI cZ cJ cL nl nn ad ra am ao S Y (A9.1, G_292, A9.2.2)) [0, 1, 2, 3, 4, 5, 6, 7, 8, 9, 10, 11, 12, 13, 14, 15, 16, 17, 18, 19, 21, 22, 23, 24, 25, 26, 27, 28, 29, 30, 31, 32, 33, 34, 20] (by decide) rfl
                                    refine lv_icmp_eq (tgt := 1228) hx hb dL_law_1212 (by decide) (fun c_293 => ?_) (fun c_293 => ?_)
                                    · have hw := hw.1 c_293
                                      obtain ⟨x4_294, ex4_294⟩ : ∃ y : Int32, y = x4 + 6 := ⟨_, rfl⟩
                                      have hw := hw x4_294 ex4_294
                                      refine lv_iinc (v := x4_294) (lv' := [(4, .int x4_294), (0, .ref b), (1, .ref (ad 0)), (2, .ref (am 0)), (3, .ref ao)]) hx hb dL_law_1228 hl (k := 4) rfl (by rw [ex4_294]; rfl) (by decide) rfl (fun ls hl => ?_)
                                      refine lv_goto (tgt := 43) hx hb dL_law_1231 (by decide) ?_
                                      refine W.widen (k := 601024 - 4 * n) (n := 7293000 - 24 * n) (by omega) (by omega) ?_
                                      exact ih (by omega) (A9.1, G_292, A9.2.2) x4_294 hw _ _ _ hP hD hS (lv_sub hl [1, 2, 3, 4, 0] rfl)
                                    · have hw := hw.2 c_293
                                      refine lv_iconst (v := 0) hx hb dL_law_1215 (by decide) ?_
                                      exact hw.elim
                                  · have hw := hw.2
                                    rcases Classical.em (((xs x4.toNatClampNeg) &&& 15) = 15) with c_18 | c_18
                                    · have hw := hw.1 c_18
                                      refine lv_tableIn (off := 1157) (tgt := 1217) hx hb dL_law_60 (by rw [c_18]; decide) (by rw [c_18]; decide) (by rw [c_18]; rfl) (by decide) ?_
                                      refine lv_aload_n hx hb dL_law_1217 rfl (lv_at hl 1 rfl) ?_
                                      have hPc := hP.sub (ws' := wTT cI cZ cJ nl nn ad ra S A9.1) [0, 1, 2, 3, 4, 5, 6, 7, 8, 9, 10, 11, 12, 13, 14, 15, 16, 17, 18, 19] rfl
                                      have hDc := hD.sub (ws' := wTT cI cZ cJ nl nn ad ra S A9.1) [0, 1, 2, 3, 4, 5, 6, 7, 8, 9, 10, 11, 12, 13, 14, 15, 16, 17, 18, 19] (by decide) rfl
                                      have hFc := va_free (wc := wTT cI cZ cJ nl nn ad ra S A9.1) hD hS hA [0, 1, 2, 3, 4, 5, 6, 7, 8, 9, 10, 11, 12, 13, 14, 15, 16, 17, 18, 19] rfl
                                      refine va_callv (va_runV (As := []) (rest := []) ⟨hx, hb, hml, hown, hT⟩ (met_X3_reset l dC dI cI cZ cJ cL ad ra H.size _ nl nn S A9.1  hw) (cwV 0 hT (gV k_449 k_451 k_452 k_57 k_450) rfl rfl rfl (by decide +kernel) ⟨(Nat.le_of_ble_eq_true rfl), (Nat.le_of_ble_eq_true rfl)⟩) ⟨bl_W, va_recv hK hPc (ci := 3) (q0 := 0) rfl rfl, fun U hU hW => ⟨rfl, by rw [hU], by rw [hU]; exact hPc, va_K.moved hW.alike hK, hDc.weaken (fun _ _ _ _ => trivial)⟩⟩ rfl rfl hl.1 rfl (lv_room (Nat.le_of_ble_eq_true rfl)) dL_law_1218 ⟨by show _ ≤ 601024; omega, by show _ ≤ 7293000; omega⟩) hS (fun q _ h => hFc q h) hFc (fun T_295 t H1 locs ht hvm hw hB hz1 hk1 hS => ?_)
                                      obtain ⟨hP1, -, hD1⟩ := hB
                                      try dsimp only at hw
                                      rw [ht] at hP1
                                      obtain ⟨hP, hD⟩ := va_join (wr := [(am 0, .inr (4, [.int A9.2.1.1, .int Y.1.1, .int Y.1.2.1, .int Y.1.2.2.1, .ref (am 1), .ref (am 2), .ref (am 3), .int Y.1.2.2.2, .ref (am 4), .ref (am 5), .ref (am 6), .ref (am 7), .int A9.2.1.2.2.2.2.1.2.1, .int A9.2.1.2.2.2.2.1.2.2, .ref (am 8), .int A9.2.1.2.2.2.2.2.1.2.1, .int A9.2.1.2.2.2.2.2.1.2.2, .ref (am 9), .ref (am 10), .ref (am 11), .int A9.2.1.2.2.2.2.2.2.1.2.2.2, .ref (am 12), .ref (am 13)])), (am 1, .inl (cI, 8, .inl Y.2.1)), (am 2, .inl (cI, 8, .inl Y.2.2.1)), (am 3, .inl (cI, 8, .inl Y.2.2.2)), (am 4, .inl (cI, 1400, .inl A9.2.1.2.1)), (am 5, .inl (cI, 2800, .inl A9.2.1.2.2.1)), (am 6, .inl (cZ, 2800, .inl A9.2.1.2.2.2.1)), (am 7, .inl (cZ, 40000, .inl A9.2.1.2.2.2.2.1.1)), (am 8, .inl (cZ, 40000, .inl A9.2.1.2.2.2.2.2.1.1)), (am 9, .inl (cI, 8, .inl A9.2.1.2.2.2.2.2.2.1.1)), (am 10, .inl (cI, 8, .inl A9.2.1.2.2.2.2.2.2.1.2.1)), (am 11, .inl (cZ, 8, .inl A9.2.1.2.2.2.2.2.2.1.2.2.1)), (am 12, .inl (cI, 1400, .inl A9.2.1.2.2.2.2.2.2.2.1)), (am 13, .inl (cZ, 1400, .inl A9.2.1.2.2.2.2.2.2.2.2)), (ao, .inl (cL, 1, .inr (.inl A9.2.2)))]) (w1 := wTT cI cZ cJ nl nn ad ra S T_295) hP hD [0, 1, 2, 3, 4, 5, 6, 7, 8, 9, 10, 11, 12, 13, 14, 15, 16, 17, 18, 19] [20, 21, 22, 23, 24, 25, 26, 27, 28, 29, 30, 31, 32, 33, 34] rfl rfl (by decide) (by decide) hk1 hFc hP1 hD1
                                      generalize H1 = H at hP hS ⊢
                                      have hP := hP.sub (ws' := wLA cI cZ cJ cL nl nn ad ra am ao S Y (T_295, A9.2.1, A9.2.2)) [15, 16, 17, 18, 19, 20, 21, 22, 23, 24, 25, 26, 27, 28, 29, 30, 31, 32, 33, 34, 0, 1, 2, 3, 4, 5, 6, 7, 8, 9, 10, 11, 12, 13, 14] rfl
                                      have hD := hD.sub (ws' := wLA cI cZ cJ cL nl nn ad ra am ao S Y (T_295, A9.2.1, A9.2.2)) [15, 16, 17, 18, 19, 20, 21, 22, 23, 24, 25, 26, 27, 28, 29, 30, 31, 32, 33, 34, 0, 1, 2, 3, 4, 5, 6, 7, 8, 9, 10, 11, 12, 13, 14] (by decide) rfl
                                      refine lv_aload_n hx hb dL_law_1221 rfl (lv_at hl 2 rfl) ?_
                                      have hPc := hP.sub (ws' := wMM cI cZ am Y A9.2.1) [20, 21, 22, 23, 24, 25, 26, 27, 28, 29, 30, 31, 32, 33] rfl
                                      have hDc := hD.sub (ws' := wMM cI cZ am Y A9.2.1) [20, 21, 22, 23, 24, 25, 26, 27, 28, 29, 30, 31, 32, 33] (by decide) rfl
                                      have hFc := va_free (wc := wMM cI cZ am Y A9.2.1) hD hS hA [20, 21, 22, 23, 24, 25, 26, 27, 28, 29, 30, 31, 32, 33] rfl
                                      refine va_callv (va_runV (As := []) (rest := []) ⟨hx, hb, hml, hown, hT⟩ (met_X4_reset l dC dI cI cZ cJ cL am H.size _ Y A9.2.1  hw) (cwV 0 hT (gV k_453 k_455 k_456 k_287 k_454) rfl rfl rfl (by decide +kernel) ⟨(Nat.le_of_ble_eq_true rfl), (Nat.le_of_ble_eq_true rfl)⟩) ⟨bl_W, va_recv hK hPc (ci := 4) (q0 := 0) rfl rfl, fun U hU hW => ⟨rfl, by rw [hU], by rw [hU]; exact hPc, va_K.moved hW.alike hK, hDc.weaken (fun _ _ _ _ => trivial)⟩⟩ rfl rfl hl.1 rfl (lv_room (Nat.le_of_ble_eq_true rfl)) dL_law_1222 ⟨by show _ ≤ 601024; omega, by show _ ≤ 7293000; omega⟩) hS (fun q _ h => hFc q h) hFc (fun G_296 t H1 locs ht hvm hw hB hz1 hk1 hS => ?_)
                                      obtain ⟨hP1, -, hD1⟩ := hB
                                      try dsimp only at hw
                                      rw [ht] at hP1
                                      obtain ⟨hP, hD⟩ := va_join (wr := [(ad 0, .inr (3, [.ref (ad 1), .ref (ad 9), .ref (ad 10), .ref (ad 13), .ref (ad 16), .ref (ad 18), .int T_295.2.2.2.2.2])), (ad 1, .inr (1, [.int S.1.1, .int S.1.2.1, .int S.1.2.2.1, .int S.1.2.2.2.1, .int S.1.2.2.2.2, .ref (ad 2), .ref (ad 3), .ref (ad 4), .ref (ad 5)])), (ad 2, .inl (cI, 6, .inl S.2.1.1)), (ad 3, .inl (cI, 6, .inl S.2.1.2.1)), (ad 4, .inl (cI, 6, .inl S.2.1.2.2)), (ad 5, .inl (cJ, 3, .inr (.inr (.inr (.inr (fun i => if i < 3 then some (ra i) else none)))))), (ra 0, .inl (cI, nl, .inl (S.2.2 0))), (ra 1, .inl (cI, nl, .inl (S.2.2 1))), (ra 2, .inl (cI, nl, .inl (S.2.2 2))), (ad 9, .inl (cI, nn, .inl T_295.1)), (ad 10, .inr (2, [.ref (ad 11), .ref (ad 12), .int T_295.2.1.2.2])), (ad 11, .inl (cI, nn, .inl T_295.2.1.1)), (ad 12, .inl (cZ, nn, .inl T_295.2.1.2.1)), (ad 13, .inr (2, [.ref (ad 14), .ref (ad 15), .int T_295.2.2.1.2.2])), (ad 14, .inl (cI, nn, .inl T_295.2.2.1.1)), (ad 15, .inl (cZ, nn, .inl T_295.2.2.1.2.1)), (ad 16, .inr (0, [.ref (ad 17), .int T_295.2.2.2.1.2.1, .int T_295.2.2.2.1.2.2])), (ad 17, .inl (cI, 1250, .inl T_295.2.2.2.1.1)), (ad 18, .inr (0, [.ref (ad 19), .int T_295.2.2.2.2.1.2.1, .int T_295.2.2.2.2.1.2.2])), (ad 19, .inl (cI, 1250, .inl T_295.2.2.2.2.1.1)), (ao, .inl (cL, 1, .inr (.inl A9.2.2)))]) (w1 := wMM cI cZ am Y G_296) hP hD [20, 21, 22, 23, 24, 25, 26, 27, 28, 29, 30, 31, 32, 33] [0, 1, 2, 3, 4, 5, 6, 7, 8, 9, 10, 11, 12, 13, 14, 15, 16, 17, 18, 19, 34] rfl rfl (by decide) (by decide) hk1 hFc hP1 hD1
                                      generalize H1 = H at hP hS ⊢
                                      have hP := hP.sub (ws' := wLA cI cZ cJ cL nl nn ad ra am ao S Y (T_295, G_296, A9.2.2)) [0, 1, 2, 3, 4, 5, 6, 7, 8, 9, 10, 11, 12, 13, 14, 15, 16, 17, 18, 19, 21, 22, 23, 24, 25, 26, 27, 28, 29, 30, 31, 32, 33, 34, 20] rfl
                                      have hD := hD.sub (ws' := wLA cI cZ cJ cL nl nn ad ra am ao S Y (T_295, G_296, A9.2.2)) [0, 1, 2, 3, 4, 5, 6, 7, 8, 9, 10, 11, 12, 13, 14, 15, 16, 17, 18, 19, 21, 22, 23, 24, 25, 26, 27, 28, 29, 30, 31, 32, 33, 34, 20] (by decide) rfl
                                      refine lv_goto (tgt := 1228) hx hb dL_law_1225 (by decide) ?_
                                      obtain ⟨x4_297, ex4_297⟩ : ∃ y : Int32, y = x4 + 6 := ⟨_, rfl⟩
                                      have hw := hw x4_297 ex4_297
                                      refine lv_iinc (v := x4_297) (lv' := [(4, .int x4_297), (0, .ref b), (1, .ref (ad 0)), (2, .ref (am 0)), (3, .ref ao)]) hx hb dL_law_1228 hl (k := 4) rfl (by rw [ex4_297]; rfl) (by decide) rfl (fun ls hl => ?_)
                                      refine lv_goto (tgt := 43) hx hb dL_law_1231 (by decide) ?_
                                      refine W.widen (k := 601024 - 4 * n) (n := 7293000 - 24 * n) (by omega) (by omega) ?_
                                      exact ih (by omega) (T_295, G_296, A9.2.2) x4_297 hw _ _ _ hP hD hS (lv_sub hl [1, 2, 3, 4, 0] rfl)
                                    · have hw := hw.2
                                      have hw := hw ⟨c_3, c_4, c_5, c_6, c_7, c_8, c_9, c_10, c_11, c_12, c_13, c_14, c_15, c_16, c_17, c_18⟩
                                      have zc_3 := lv_neT c_3 (show ((0 : Int32)).toInt = 0 by decide)
                                      have zc_4 := lv_neT c_4 (show ((1 : Int32)).toInt = 1 by decide)
                                      have zc_5 := lv_neT c_5 (show ((2 : Int32)).toInt = 2 by decide)
                                      have zc_6 := lv_neT c_6 (show ((3 : Int32)).toInt = 3 by decide)
                                      have zc_7 := lv_neT c_7 (show ((4 : Int32)).toInt = 4 by decide)
                                      have zc_8 := lv_neT c_8 (show ((5 : Int32)).toInt = 5 by decide)
                                      have zc_9 := lv_neT c_9 (show ((6 : Int32)).toInt = 6 by decide)
                                      have zc_10 := lv_neT c_10 (show ((7 : Int32)).toInt = 7 by decide)
                                      have zc_11 := lv_neT c_11 (show ((8 : Int32)).toInt = 8 by decide)
                                      have zc_12 := lv_neT c_12 (show ((9 : Int32)).toInt = 9 by decide)
                                      have zc_13 := lv_neT c_13 (show ((10 : Int32)).toInt = 10 by decide)
                                      have zc_14 := lv_neT c_14 (show ((11 : Int32)).toInt = 11 by decide)
                                      have zc_15 := lv_neT c_15 (show ((12 : Int32)).toInt = 12 by decide)
                                      have zc_16 := lv_neT c_16 (show ((13 : Int32)).toInt = 13 by decide)
                                      have zc_17 := lv_neT c_17 (show ((14 : Int32)).toInt = 14 by decide)
                                      have zc_18 := lv_neT c_18 (show ((15 : Int32)).toInt = 15 by decide)
                                      refine lv_tableOut (tgt := 1228) hx hb dL_law_60 (by omega) (by decide) ?_
                                      obtain ⟨x4_298, ex4_298⟩ : ∃ y : Int32, y = x4 + 6 := ⟨_, rfl⟩
                                      have hw := hw x4_298 ex4_298
                                      refine lv_iinc (v := x4_298) (lv' := [(4, .int x4_298), (0, .ref b), (1, .ref (ad 0)), (2, .ref (am 0)), (3, .ref ao)]) hx hb dL_law_1228 hl (k := 4) rfl (by rw [ex4_298]; rfl) (by decide) rfl (fun ls hl => ?_)
                                      refine lv_goto (tgt := 43) hx hb dL_law_1231 (by decide) ?_
                                      refine W.widen (k := 601024 - 4 * n) (n := 7293000 - 24 * n) (by omega) (by omega) ?_
                                      exact ih (by omega) A9 x4_298 hw _ _ _ hP hD hS (lv_sub hl [1, 2, 3, 4, 0] rfl)
def wp_whole (L : Nat) (xs : Nat → Int32) : Prop := wp_L_cell L xs (fun r_2 => wp_L_cell L xs (fun r_3 => wp_X3_init (fun u_4 => wp_L_cell L xs (fun r_21 => wp_L_cell L xs (fun r_22 => wp_X4_init (fun u_23 => wp_L_law L xs (u_4.1.1.2.2.1.toNatClampNeg) (u_4.1.1.2.2.2.2.toNatClampNeg) u_4.1 u_23.1 513 (u_4.2, u_23.2, fun _ => 0) 2) r_21 r_22) 1) 0) r_2 r_3) 1) 0
