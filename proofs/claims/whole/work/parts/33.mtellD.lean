-- the reference's decoder
def okQ (G : vMM) (f m : Nat) (wb : Nat → Bool) : Prop := G.2.2.2.2.2.1.2.1 = nI f ∧ G.2.2.2.2.2.1.2.2 = nI m ∧ f < 40000 ∧ m ≤ 40000 ∧ ∀ i, i < m → G.2.2.2.2.2.1.1 (pl f i) = nI (wb i).toNat
theorem pl_mod {f i : Nat} (hf : f < 40000) (hi : i ≤ 40000) : (f + i) % 40000 = pl f i := by unfold pl; split <;> omega
theorem sp_bitOf {Y : vMS} {G : vMM} {f m p : Nat} {wb : Nat → Bool} (hB : okQ G f m wb) (hp : p < m) {post : Int32 → Prop} (h : post (nI (wb p).toNat)) : wp_X4_bitOf post Y G (nI p) := by
  obtain ⟨h1, h2, h3, h4, h5⟩ := hB
  unfold wp_X4_bitOf
  rw [h1, nI_add, show (40000 : Int32) = nI 40000 from rfl, pk_rem (by omega) (by omega) (by omega), pl_mod h3 (by omega)]
  have hl := pl_lt h3 (show p ≤ 40000 by omega)
  refine ⟨by decide, vp_in_nI hl (by omega), ?_⟩
  rw [nI_clamp (by omega), h5 p hp]
  refine ⟨?_, h⟩
  cases wb p <;> decide
theorem sp_mD {Y : vMS} {G : vMM} {f m thr : Nat} {wb : Nat → Bool} (hB : okQ G f m wb) (hthr : thr ≤ 1001) {bits : Nat → Int32} {W : vRW} {post : Int32 → vMM → Prop} {ex : vMM → Int32 → Int32 → Int32 → Prop} {r12 x9 x8 x2 x3 : Int32} : ∀ (fu g : Nat) (k : Bool) (p : Nat), (thr ≤ g + fu ∨ k = true) → g ≤ 1001 → p ≤ m → ex (mkG G bits W (nI (dRun wb m thr fu g k p).2.2.2)) (nI (dRun wb m thr fu g k p).2.2.1.toNat) (nI (dRun wb m thr fu g k p).2.1) (nI (dRun wb m thr fu g k p).1.toNat) → wp_X4_tell_L106 post ex Y r12 x9 x8 (nI 1400) x2 x3 (nI thr) 0 (fu + 2) (mkG G bits W (nI p)) (nI k.toNat) (nI g) 1 := by
  have hm := hB.2.2.2.1
  intro fu
  induction fu with
  | zero =>
    intro g k p hf hg hp he
    unfold wp_X4_tell_L106
    rw [nI_leI (by omega) (by omega), nI_b0]
    refine ⟨fun _ => he, fun c => ⟨fun d => ?_, fun _ => he⟩⟩
    subst d
    rcases hf with q | q
    · exact absurd q c
    · exact absurd q (by decide)
  | succ fu ih =>
    intro g k p hf hg hp he
    unfold wp_X4_tell_L106
    unfold dRun at he
    rw [nI_leI (by omega) (by omega), nI_b0]
    refine ⟨fun c => ?_, fun c => ⟨fun d => ⟨fun q => absurd q (by decide), fun _ => ⟨fun q => absurd q (by decide), fun _ => ?_⟩⟩, fun d => ?_⟩⟩
    · rw [if_pos (Or.inl c)] at he
      exact he
    · subst d
      have c2 : ¬ (thr ≤ g ∨ false = true) := by simp; omega
      simp only [if_neg c2] at he
      show (G.2.2.2.2.2.1.2.2 ≤ nI p → _) ∧ (¬ G.2.2.2.2.2.1.2.2 ≤ nI p → _)
      rw [hB.2.1, nI_leI (by omega) (by omega)]
      refine ⟨fun c3 => ⟨fun _ => ?_, fun q => absurd rfl q⟩, fun c3 => ⟨fun q => absurd q (by decide), fun _ => ⟨fun q => absurd q (by decide), fun _ => ?_⟩⟩⟩
      · simp only [if_pos c3] at he
        unfold wp_X4_tell_L106
        rw [nI_leI (by omega) (by omega)]
        exact ⟨fun q => absurd q c, fun _ => ⟨fun _ => ⟨fun _ => he, fun q => absurd rfl q⟩, fun q => absurd rfl q⟩⟩
      · simp only [if_neg c3] at he
        refine sp_bitOf (G := mkG G bits W (nI p)) hB (by omega) ?_
        have hf2 : thr ≤ g + (fu + 1) := hf.resolve_right (by decide)
        refine ⟨fun _ => ?_, fun q => absurd rfl q⟩
        cases hb : wb p with
        | true =>
          simp only [hb, if_pos] at he
          refine ⟨fun q => absurd q (by decide), fun _ x6 h6 f' hf' => ?_⟩
          rw [Int32.add_zero] at h6
          subst h6
          rw [show f' = nI (p + 1) by rw [hf']; exact nI_1 _]
          exact ih g true (p + 1) (Or.inr rfl) hg (by omega) he
        | false =>
          simp only [hb] at he
          refine ⟨fun _ x6 h6 f' hf' => ?_, fun q => absurd rfl q⟩
          rw [nI_1] at h6
          subst h6
          rw [show f' = nI (p + 1) by rw [hf']; exact nI_1 _]
          exact ih (g + 1) false (p + 1) (Or.inl (by omega)) (by omega) (by omega) he
    · have d2 : k = true := by cases k with | true => rfl | false => exact absurd rfl d
      rw [if_pos (Or.inr d2)] at he
      exact he
theorem sp_mD_1 {Y : vMS} {G : vMM} {f m thr : Nat} {wb : Nat → Bool} (hB : okQ G f m wb) (hthr : thr ≤ 1001) {bits : Nat → Int32} {W : vRW} {post : Int32 → vMM → Prop} {ex : vMM → Int32 → Int32 → Int32 → Prop} {r12 x9 x8 x2 x3 : Int32} : ∀ (fu g : Nat) (k : Bool) (p : Nat), (thr ≤ g + fu ∨ k = true) → g ≤ 1001 → p ≤ m → ex (mkG G bits W (nI (dRun wb m thr fu g k p).2.2.2)) (nI (dRun wb m thr fu g k p).2.2.1.toNat) (nI (dRun wb m thr fu g k p).2.1) (nI (dRun wb m thr fu g k p).1.toNat) → wp_X4_tell_L106_1 post ex Y r12 x9 x8 (nI 1400) x2 x3 (nI thr) 0 (fu + 2) (mkG G bits W (nI p)) (nI k.toNat) (nI g) 1 := by
  have hm := hB.2.2.2.1
  intro fu
  induction fu with
  | zero =>
    intro g k p hf hg hp he
    unfold wp_X4_tell_L106_1
    rw [nI_leI (by omega) (by omega), nI_b0]
    refine ⟨fun _ => he, fun c => ⟨fun d => ?_, fun _ => he⟩⟩
    subst d
    rcases hf with q | q
    · exact absurd q c
    · exact absurd q (by decide)
  | succ fu ih =>
    intro g k p hf hg hp he
    unfold wp_X4_tell_L106_1
    unfold dRun at he
    rw [nI_leI (by omega) (by omega), nI_b0]
    refine ⟨fun c => ?_, fun c => ⟨fun d => ⟨fun q => absurd q (by decide), fun _ => ⟨fun q => absurd q (by decide), fun _ => ?_⟩⟩, fun d => ?_⟩⟩
    · rw [if_pos (Or.inl c)] at he
      exact he
    · subst d
      have c2 : ¬ (thr ≤ g ∨ false = true) := by simp; omega
      simp only [if_neg c2] at he
      show (G.2.2.2.2.2.1.2.2 ≤ nI p → _) ∧ (¬ G.2.2.2.2.2.1.2.2 ≤ nI p → _)
      rw [hB.2.1, nI_leI (by omega) (by omega)]
      refine ⟨fun c3 => ⟨fun _ => ?_, fun q => absurd rfl q⟩, fun c3 => ⟨fun q => absurd q (by decide), fun _ => ⟨fun q => absurd q (by decide), fun _ => ?_⟩⟩⟩
      · simp only [if_pos c3] at he
        unfold wp_X4_tell_L106_1
        rw [nI_leI (by omega) (by omega)]
        exact ⟨fun q => absurd q c, fun _ => ⟨fun _ => ⟨fun _ => he, fun q => absurd rfl q⟩, fun q => absurd rfl q⟩⟩
      · simp only [if_neg c3] at he
        refine sp_bitOf (G := mkG G bits W (nI p)) hB (by omega) ?_
        have hf2 : thr ≤ g + (fu + 1) := hf.resolve_right (by decide)
        refine ⟨fun _ => ?_, fun q => absurd rfl q⟩
        cases hb : wb p with
        | true =>
          simp only [hb, if_pos] at he
          refine ⟨fun q => absurd q (by decide), fun _ x6 h6 f' hf' => ?_⟩
          rw [Int32.add_zero] at h6
          subst h6
          rw [show f' = nI (p + 1) by rw [hf']; exact nI_1 _]
          exact ih g true (p + 1) (Or.inr rfl) hg (by omega) he
        | false =>
          simp only [hb] at he
          refine ⟨fun _ x6 h6 f' hf' => ?_, fun q => absurd rfl q⟩
          rw [nI_1] at h6
          subst h6
          rw [show f' = nI (p + 1) by rw [hf']; exact nI_1 _]
          exact ih (g + 1) false (p + 1) (Or.inl (by omega)) (by omega) (by omega) he
    · have d2 : k = true := by cases k with | true => rfl | false => exact absurd rfl d
      rw [if_pos (Or.inr d2)] at he
      exact he
theorem sp_mtellD {w h : Nat} {Y : vMS} (hY : okY w h Y) {G : vMM} {b : Nat → Nat} {k : Nat → Bool} (hr : repM (nds w h) 1400 G.2.2.1 G.2.2.2.1 b k) {f m thr : Nat} {wb : Nat → Bool} (hB : okQ G f m wb) {x y : Nat} (hx : x < w) (hy : y < h) (hthr : thr ≤ 1001) {post : Int32 → vMM → Prop}
    (h1 : (takeC w h wb m thr x y (lvs w h) 0 b k 0).1 = true → ∀ W, okW w h x y 0 W (takeC w h wb m thr x y (lvs w h) 0 b k 0).2.1 (takeC w h wb m thr x y (lvs w h) 0 b k 0).2.2.1 → post 1 (mkG G G.2.2.2.2.1.1 W (nI (takeC w h wb m thr x y (lvs w h) 0 b k 0).2.2.2)))
    (h0 : (takeC w h wb m thr x y (lvs w h) 0 b k 0).1 = false → ∀ W p, post 0 (mkG G G.2.2.2.2.1.1 W p)) : wp_X4_tell post Y G (nI 1400) (nI x) (nI y) (nI thr) 0 := by
  have hd := hY.1
  have h6 := lvs_le w h
  have hpos := lvs_pos w h
  have hN := nds_le hd
  have key : ∀ (l a : Nat) (b1 : Nat → Nat) (k1 : Nat → Bool) (W : vRW) (p : Nat) (ex : vMM → Int32 → Int32 → Int32 → Prop), l ≤ lvs w h → a ≤ 1001 → (∀ j, j < l → b1 (pnode w h x y j) = b (pnode w h x y j) ∧ k1 (pnode w h x y j) = k (pnode w h x y j)) → p ≤ m → okW w h x y l W b1 k1 → ((takeC w h wb m thr x y l a b1 k1 p).1 = true → ∀ W' z, okW w h x y 0 W' (takeC w h wb m thr x y l a b1 k1 p).2.1 (takeC w h wb m thr x y l a b1 k1 p).2.2.1 → ex (mkG G G.2.2.2.2.1.1 W' (nI (takeC w h wb m thr x y l a b1 k1 p).2.2.2)) (-1) 1 z) → ((takeC w h wb m thr x y l a b1 k1 p).1 = false → ∀ W' p' z8 z6, ex (mkG G G.2.2.2.2.1.1 W' p') z8 0 z6) → wp_X4_tell_L19 post ex Y (nI 1400) (nI x) (nI y) (nI thr) 0 (l + 1) (mkG G G.2.2.2.2.1.1 W (nI p)) (nI l - 1) 1 (nI a) := by
    intro l
    induction l with
    | zero =>
      intro a b1 k1 W p ex _ _ _ _ hW he _
      unfold wp_X4_tell_L19
      exact ⟨fun _ => he rfl W _ hW, fun q => absurd (by decide) q⟩
    | succ l ih =>
      intro a b1 k1 W p ex hl ha hag hp hW he hq
      unfold wp_X4_tell_L19
      rw [nI_pred]
      refine ⟨fun q => absurd q (nI_pos (by omega)), fun _ => ⟨fun q => absurd q (by decide), fun _ => ?_⟩⟩
      intro x9 hx9
      rw [mWay hY (show l < lvs w h by omega)] at hx9
      subst hx9
      refine sp_mnodeP hY (by omega) hx hy ?_
      have hn := pnode_lt hx hy (show l < lvs w h by omega)
      obtain ⟨g1, g2⟩ := hag l (by omega)
      obtain ⟨d1, d2, d3⟩ := hr _ hn
      rw [← g1] at d1 d3
      rw [← g2] at d2
      have hin8 := vp_in_nI (show lvs w h - 1 - l < 8 by omega) (show 8 < 2 ^ 31 by omega)
      have e0 : nI 1400 + nI (pnode w h x y l) = nI (1400 + pnode w h x y l) := nI_add _ _
      have hin := vp_in_nI (show 1400 + pnode w h x y l < 2800 by omega) (show 2800 < 2 ^ 31 by omega)
      unfold takeC at he hq
      obtain ⟨i1, i2, -⟩ := dRun_in (wb := wb) hthr thr (max a (b1 (pnode w h x y l))) (k1 (pnode w h x y l)) p (by omega) hp
      have hnext : ∀ x8 : Int32, x8 = nI l + (-1) → wp_X4_tell_L19 post ex Y (nI 1400) (nI x) (nI y) (nI thr) 0 (l + 1) (mkG G G.2.2.2.2.1.1 (upd W.1 (lvs w h - 1 - l) (nI (pnode w h x y l)), upd W.2.1 (lvs w h - 1 - l) (nI (dRun wb m thr thr (max a (b1 (pnode w h x y l))) (k1 (pnode w h x y l)) p).2.1), upd W.2.2 (lvs w h - 1 - l) (vp_nar .boolean (nI (dRun wb m thr thr (max a (b1 (pnode w h x y l))) (k1 (pnode w h x y l)) p).2.2.1.toNat))) (nI (dRun wb m thr thr (max a (b1 (pnode w h x y l))) (k1 (pnode w h x y l)) p).2.2.2)) x8 (nI (dRun wb m thr thr (max a (b1 (pnode w h x y l))) (k1 (pnode w h x y l)) p).1.toNat) (nI (dRun wb m thr thr (max a (b1 (pnode w h x y l))) (k1 (pnode w h x y l)) p).2.1) := by
        intro x8 hx8
        rw [show nI l + (-1) = nI l - 1 by rw [Int32.sub_eq_add_neg]] at hx8
        subst hx8
        generalize dRun wb m thr thr (max a (b1 (pnode w h x y l))) (k1 (pnode w h x y l)) p = r at he hq i1 i2 ⊢
        cases hfl : r.1 with
        | true =>
          simp only [if_pos hfl] at he hq
          refine ih _ _ _ _ _ ex (by omega) i1 (fun j hj => ?_) i2 (hW.step hx hy (by omega) _ _) he hq
          rw [setN_n (pnode_ne hx hy hx hy (by omega)), setN_n (pnode_ne hx hy hx hy (by omega))]
          exact hag j (by omega)
        | false =>
          rw [if_neg (by rw [hfl]; exact Bool.false_ne_true)] at hq
          unfold wp_X4_tell_L19
          exact ⟨fun _ => hq rfl _ _ _ _, fun _ => ⟨fun _ => hq rfl _ _ _ _, fun q => absurd rfl q⟩⟩
      have hcl : ∀ i, i < 2 ^ 31 → (nI i).toNatClampNeg = i := fun i hi => nI_clamp hi
      rw [e0]
      refine ⟨hin8, hin, ?_⟩
      rw [hcl _ (show 1400 + pnode w h x y l < 2 ^ 31 by omega), hcl _ (show lvs w h - 1 - l < 2 ^ 31 by omega)]
      show (G.2.2.1 (1400 + pnode w h x y l) ≤ nI a → _) ∧ (¬ G.2.2.1 (1400 + pnode w h x y l) ≤ nI a → _)
      rw [d1, nI_leI (by omega) (by omega)]
      refine ⟨fun c => ⟨hin, fun x11 h11 G2 hG2 => ?_⟩, fun c => ⟨hin, fun x6 h6' => ⟨hin, fun x11 h11 G2 hG2 => ?_⟩⟩⟩
      · have h11 : x11 = nI (k1 (pnode w h x y l)).toNat := h11.trans d2
        subst h11 hG2
        refine ⟨thr + 2, ?_⟩
        have := sp_mD (Y := Y) (bits := G.2.2.2.2.1.1) (W := (upd W.1 (lvs w h - 1 - l) (nI (pnode w h x y l)), W.2.1, W.2.2)) (post := post) (r12 := nI (pnode w h x y l)) (x9 := nI (lvs w h - 1 - l)) (x8 := nI l) (x2 := nI x) (x3 := nI y) hB hthr (ex := fun (G_19 : vMM) (x11_20 : Int32) (x6_21 : Int32) (x7_22 : Int32) => vp_in (nI (lvs w h - 1 - l)) 8 ∧ (vp_in (nI (lvs w h - 1 - l)) 8 ∧ (∀ x8_26 : Int32, x8_26 = nI l + (-1) → (wp_X4_tell_L19 post ex Y (nI 1400) (nI x) (nI y) (nI thr) 0 (l + 1) (G_19.1, G_19.2.1, G_19.2.2.1, G_19.2.2.2.1, G_19.2.2.2.2.1, G_19.2.2.2.2.2.1, (G_19.2.2.2.2.2.2.1.1, (upd G_19.2.2.2.2.2.2.1.2.1 (lvs w h - 1 - l) x6_21), (upd G_19.2.2.2.2.2.2.1.2.2.1 (lvs w h - 1 - l) (vp_nar .boolean x11_20)), G_19.2.2.2.2.2.2.1.2.2.2), G_19.2.2.2.2.2.2.2.1, G_19.2.2.2.2.2.2.2.2) x8_26 x7_22 x6_21)))) thr (max a (b1 (pnode w h x y l))) (k1 (pnode w h x y l)) p (Or.inl (by omega)) (by omega) hp ⟨hin8, hin8, hnext⟩
        rw [show max a (b1 (pnode w h x y l)) = a by omega] at this
        exact this
      · have h11 : x11 = nI (k1 (pnode w h x y l)).toNat := h11.trans d2
        have h6' : x6 = nI (b1 (pnode w h x y l)) := h6'.trans d1
        subst h11 hG2 h6'
        refine ⟨thr + 2, ?_⟩
        have := sp_mD_1 (Y := Y) (bits := G.2.2.2.2.1.1) (W := (upd W.1 (lvs w h - 1 - l) (nI (pnode w h x y l)), W.2.1, W.2.2)) (post := post) (r12 := nI (pnode w h x y l)) (x9 := nI (lvs w h - 1 - l)) (x8 := nI l) (x2 := nI x) (x3 := nI y) hB hthr (ex := fun (G_19 : vMM) (x11_20 : Int32) (x6_21 : Int32) (x7_22 : Int32) => vp_in (nI (lvs w h - 1 - l)) 8 ∧ (vp_in (nI (lvs w h - 1 - l)) 8 ∧ (∀ x8_26 : Int32, x8_26 = nI l + (-1) → (wp_X4_tell_L19 post ex Y (nI 1400) (nI x) (nI y) (nI thr) 0 (l + 1) (G_19.1, G_19.2.1, G_19.2.2.1, G_19.2.2.2.1, G_19.2.2.2.2.1, G_19.2.2.2.2.2.1, (G_19.2.2.2.2.2.2.1.1, (upd G_19.2.2.2.2.2.2.1.2.1 (lvs w h - 1 - l) x6_21), (upd G_19.2.2.2.2.2.2.1.2.2.1 (lvs w h - 1 - l) (vp_nar .boolean x11_20)), G_19.2.2.2.2.2.2.1.2.2.2), G_19.2.2.2.2.2.2.2.1, G_19.2.2.2.2.2.2.2.2) x8_26 x7_22 x6_21)))) thr (max a (b1 (pnode w h x y l))) (k1 (pnode w h x y l)) p (Or.inl (by omega)) (by omega) hp ⟨hin8, hin8, hnext⟩
        rw [show max a (b1 (pnode w h x y l)) = b1 (pnode w h x y l) by omega] at this
        exact this
  intro x8 hx8 G2 hG2
  rw [hY.2.1] at hx8
  subst hx8 hG2
  exact ⟨lvs w h + 1, key (lvs w h) 0 b k (G.2.2.2.2.2.2.1.1, G.2.2.2.2.2.2.1.2.1, G.2.2.2.2.2.2.1.2.2.1) 0 _ (Nat.le_refl _) (by omega) (fun _ _ => ⟨rfl, rfl⟩) (by omega) (fun j q1 q2 => absurd q1 (by omega)) (fun e W' z q => ⟨by decide, h1 e W' q⟩) (fun e W' p' z8 z6 => ⟨by decide, h0 e W' p'⟩)⟩
-- keeping what was found on the way
def kp {α : Type} (w h x y : Nat) (b b' : Nat → α) : Nat → Nat → α
  | 0 => b
  | i + 1 => setN (kp w h x y b b' i) (pnode w h x y (lvs w h - 1 - i)) (b' (pnode w h x y (lvs w h - 1 - i)))
theorem kp_at {α : Type} {w h x y : Nat} {b b' : Nat → α} : ∀ (i n : Nat), i ≤ lvs w h → (b n = b' n ∨ ∃ j, lvs w h ≤ i + j ∧ j < lvs w h ∧ n = pnode w h x y j) → kp w h x y b b' i n = b' n := by
  intro i
  induction i with
  | zero =>
    intro n _ hn
    rcases hn with q | ⟨j, q1, q2, q3⟩
    · exact q
    · omega
  | succ i ih =>
    intro n hi hn
    unfold kp
    by_cases e : n = pnode w h x y (lvs w h - 1 - i)
    · rw [← e, setN_s]
    · rw [setN_n e]
      refine ih n (by omega) ?_
      rcases hn with q | ⟨j, q1, q2, q3⟩
      · exact Or.inl q
      · refine Or.inr ⟨j, ?_, q2, q3⟩
        rcases Nat.lt_or_ge (i + j) (lvs w h) with q4 | q4
        · exfalso
          apply e
          rw [q3]
          congr 1
          omega
        · exact q4
def setK (G : vMM) (bo kn : Nat → Int32) : vMM := (G.1, G.2.1, bo, kn, G.2.2.2.2.1, G.2.2.2.2.2.1, G.2.2.2.2.2.2.1, G.2.2.2.2.2.2.2.1, G.2.2.2.2.2.2.2.2)
theorem sp_keep {w h : Nat} {Y : vMS} (hY : okY w h Y) {G : vMM} {B : Nat} (hBB : B ≤ 1400) {b b' : Nat → Nat} {k k' : Nat → Bool} (hr : repM (nds w h) B G.2.2.1 G.2.2.2.1 b k) {x y : Nat} (hx : x < w) (hy : y < h) (hW : okW w h x y 0 (G.2.2.2.2.2.2.1.1, G.2.2.2.2.2.2.1.2.1, G.2.2.2.2.2.2.1.2.2.1) b' k') (hb' : ∀ j, j < lvs w h → b' (pnode w h x y j) ≤ 1001) (hoff : ∀ n, (∀ j, j < lvs w h → n ≠ pnode w h x y j) → b' n = b n ∧ k' n = k n) {post : vMM → Prop}
    (hp : ∀ bo kn, repM (nds w h) B bo kn b' k' → (∀ i, (i < B ∨ B + nds w h ≤ i) → bo i = G.2.2.1 i ∧ kn i = G.2.2.2.1 i) → post (setK G bo kn)) : wp_X4_keep post Y G (nI B) := by
  have hd := hY.1
  have h6 := lvs_le w h
  have hpos := lvs_pos w h
  have hN := nds_le hd
  have key : ∀ (r i : Nat) (bo kn : Nat → Int32), i + r = lvs w h → repM (nds w h) B bo kn (kp w h x y b b' i) (kp w h x y k k' i) → (∀ j, (j < B ∨ B + nds w h ≤ j) → bo j = G.2.2.1 j ∧ kn j = G.2.2.2.1 j) → wp_X4_keep_L2 post (fun (G_1 : vMM) (x2_2 : Int32) => post G_1) Y (nI B) (r + 1) (setK G bo kn) (nI i) := by
    intro r
    induction r with
    | zero =>
      intro i bo kn hi hr1 ho
      unfold wp_X4_keep_L2
      rw [hY.2.1]
      have : i = lvs w h := by omega
      subst this
      refine ⟨fun _ => hp bo kn (fun n hn => ?_) ho, fun c => absurd ((nI_leI (by omega) (by omega)).mpr (Nat.le_refl _)) c⟩
      have hk : kp w h x y b b' (lvs w h) n = b' n ∧ kp w h x y k k' (lvs w h) n = k' n := by
        by_cases e : ∃ j, j < lvs w h ∧ n = pnode w h x y j
        · obtain ⟨j, e1, e2⟩ := e
          exact ⟨kp_at _ n (Nat.le_refl _) (Or.inr ⟨j, by omega, e1, e2⟩), kp_at _ n (Nat.le_refl _) (Or.inr ⟨j, by omega, e1, e2⟩)⟩
        · have := hoff n (fun j hj q => e ⟨j, hj, q⟩)
          exact ⟨kp_at _ n (Nat.le_refl _) (Or.inl this.1.symm), kp_at _ n (Nat.le_refl _) (Or.inl this.2.symm)⟩
      have := hr1 n hn
      rw [hk.1, hk.2] at this
      exact this
    | succ r ih =>
      intro i bo kn hi hr1 ho
      unfold wp_X4_keep_L2
      rw [hY.2.1]
      refine ⟨fun c => absurd ((nI_leI (by omega) (by omega)).mp c) (by omega), fun _ => ?_⟩
      have hin8 := vp_in_nI (show i < 8 by omega) (show 8 < 2 ^ 31 by omega)
      obtain ⟨w1, w2, w3⟩ := hW (lvs w h - 1 - i) (Nat.zero_le _) (by omega)
      rw [show lvs w h - 1 - (lvs w h - 1 - i) = i by omega] at w1 w2 w3
      have hn := pnode_lt hx hy (show lvs w h - 1 - i < lvs w h by omega)
      have hbn := hb' (lvs w h - 1 - i) (by omega)
      rw [nI_clamp (by omega)]
      have e1 : nI B + (setK G bo kn).2.2.2.2.2.2.1.1 i = nI (B + pnode w h x y (lvs w h - 1 - i)) := by
        show nI B + G.2.2.2.2.2.2.1.1 i = _
        rw [w1, nI_add]
      have e2 : (setK G bo kn).2.2.2.2.2.2.1.2.1 i = nI (b' (pnode w h x y (lvs w h - 1 - i))) := w2
      have e3 : (setK G bo kn).2.2.2.2.2.2.1.2.2.1 i = nI (k' (pnode w h x y (lvs w h - 1 - i))).toNat := w3
      rw [e1, e2, e3]
      have hin := vp_in_nI (show B + pnode w h x y (lvs w h - 1 - i) < 2800 by omega) (show 2800 < 2 ^ 31 by omega)
      refine ⟨hin8, hin8, hin, hin8, hin8, hin, fun x2 hx2 => ?_⟩
      rw [nI_1] at hx2
      subst hx2
      rw [nI_clamp (by omega), nar_b]
      refine ih (i + 1) (upd bo (B + pnode w h x y (lvs w h - 1 - i)) (nI (b' (pnode w h x y (lvs w h - 1 - i))))) (upd kn (B + pnode w h x y (lvs w h - 1 - i)) (nI (k' (pnode w h x y (lvs w h - 1 - i))).toNat)) (by omega) (fun n hn2 => ?_) (fun j hj => ?_)
      · unfold kp
        by_cases e : n = pnode w h x y (lvs w h - 1 - i)
        · subst e
          rw [setN_s, setN_s]
          exact ⟨pk_us, pk_us, hbn⟩
        · rw [setN_n e, setN_n e]
          obtain ⟨q1, q2, q3⟩ := hr1 n hn2
          exact ⟨(pk_un (by omega)).trans q1, (pk_un (by omega)).trans q2, q3⟩
      · obtain ⟨q1, q2⟩ := ho j hj
        exact ⟨(pk_un (by omega)).trans q1, (pk_un (by omega)).trans q2⟩
  exact ⟨lvs w h + 1, key (lvs w h) 0 G.2.2.1 G.2.2.2.1 (by omega) hr (fun _ _ => ⟨rfl, rfl⟩)⟩
