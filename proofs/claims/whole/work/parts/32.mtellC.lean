theorem sp_mN {Y : vMS} {G : vMM} {n v thr a p : Nat} {s : cSt} (hn : n < 1366) (hv : G.2.1 n = nI v) (hv2 : v ≤ 1000) {t : Nat} (ht : G.2.2.2.2.1.2.1 = nI t) (hts : s.2.2.1 = t + p) (ht2 : t < 2 ^ 30) (hthr : thr ≤ 1001) {W : vRW} {p5 : Bool} {b0 : Nat → Int32} (hp0 : p ≤ 10000) {post : Int32 → vMM → Prop} {ex : vMM → Int32 → Int32 → Int32 → Prop} {x9 x8 x2 x3 : Int32} (hm : max a (s.1 n) ≤ v) {bits : Nat → Int32} (hb : rbt p5 b0 bits s.2.2.1 s.2.2.2)
    (he : ∀ bits, rbt p5 b0 bits (tellOne v n a thr s).2.2.1 (tellOne v n a thr s).2.2.2 → ex (mkG G bits W (nI (p + cBits v (s.1 n) (s.2.1 n) a thr))) (nI (cKn v (s.1 n) (s.2.1 n) a thr).toNat) (nI (cAft v (s.1 n) (s.2.1 n) a thr)) 1) :
    ∃ fu, wp_X4_tell_L106 post ex Y (nI n) x9 x8 (nI 0) x2 x3 (nI thr) (nI p5.toNat) fu (mkG G bits W (nI p)) (nI (s.2.1 n).toNat) (nI (max a (s.1 n))) 1 := by
  unfold tellOne at he
  by_cases c : max a (s.1 n) < thr ∧ s.2.1 n = false
  · refine ⟨min v thr - max a (s.1 n) + 2, ?_⟩
    obtain ⟨c1, c2⟩ := c
    have := sp_mC (Y := Y) (G := G) (W := W) (p5 := p5) (b0 := b0) (tb := s.2.2.2) (post := post) (ex := ex) (x9 := x9) (x8 := x8) (x2 := x2) (x3 := x3) hn hv hv2 ht ht2 hthr hp0 hm c1 (fun bits' hb' => ?_) (min v thr - max a (s.1 n)) (max a (s.1 n)) bits (Nat.le_refl _) (by omega) (by rw [Nat.sub_self, Nat.add_zero, ← hts]; exact hb.congr (fun i hi => if_pos hi))
    · rw [Nat.sub_self, Nat.add_zero] at this
      rw [c2]
      exact this
    · unfold cBits cKn cAft at he
      simp only [if_pos (And.intro c1 c2)] at he
      rw [c2, decide_eq_true c1] at he
      have he := he bits' (by
        show rbt p5 b0 bits' (s.2.2.1 + (min v thr - max a (s.1 n) + if v < thr then 1 else 0)) _
        rw [hts, Nat.add_assoc]
        refine hb'.congr (fun i hi => ?_)
        unfold bitsF
        rw [← hts]
        by_cases q : i < s.2.2.1
        · rw [if_pos q, if_pos q]
        · rw [if_neg q, if_neg q]
          by_cases q2 : v < thr
          · rw [decide_eq_true (show max a (s.1 n) < thr ∧ false = false ∧ v < thr from ⟨c1, rfl, q2⟩), Bool.true_and]
            by_cases q3 : i = s.2.2.1 + (min v thr - max a (s.1 n))
            · rw [decide_eq_true q3, decide_eq_true ⟨q2, q3⟩]
            · rw [decide_eq_false q3, decide_eq_false (fun z => q3 z.2)]
          · rw [decide_eq_false (show ¬ (max a (s.1 n) < thr ∧ false = false ∧ v < thr) from fun z => q2 z.2.2), Bool.false_and, decide_eq_false (fun z => q2 z.1)])
      rw [Bool.false_or, Bool.true_and] at he
      exact he
  · refine ⟨1, ?_⟩
    have e1 : cBits v (s.1 n) (s.2.1 n) a thr = 0 := by unfold cBits; rw [if_neg c]
    have e2 : cAft v (s.1 n) (s.2.1 n) a thr = max a (s.1 n) := by unfold cAft; rw [if_neg c]
    have e3 : cKn v (s.1 n) (s.2.1 n) a thr = s.2.1 n := by
      unfold cKn
      cases hk : s.2.1 n with
      | true => rfl
      | false => rw [decide_eq_false (fun q => c ⟨q, hk⟩)]; rfl
    rw [e1, e2, e3] at he
    have he := he bits (by
      show rbt p5 b0 bits (s.2.2.1 + 0) _
      refine hb.congr (fun i hi => ?_)
      unfold bitsF
      exact if_pos hi)
    unfold wp_X4_tell_L106
    rw [nI_leI (by omega) (by omega), nI_b0]
    exact ⟨fun _ => he, fun q => ⟨fun z => absurd ⟨by omega, z⟩ c, fun _ => he⟩⟩
theorem sp_mN_1 {Y : vMS} {G : vMM} {n v thr a p : Nat} {s : cSt} (hn : n < 1366) (hv : G.2.1 n = nI v) (hv2 : v ≤ 1000) {t : Nat} (ht : G.2.2.2.2.1.2.1 = nI t) (hts : s.2.2.1 = t + p) (ht2 : t < 2 ^ 30) (hthr : thr ≤ 1001) {W : vRW} {p5 : Bool} {b0 : Nat → Int32} (hp0 : p ≤ 10000) {post : Int32 → vMM → Prop} {ex : vMM → Int32 → Int32 → Int32 → Prop} {x9 x8 x2 x3 : Int32} (hm : max a (s.1 n) ≤ v) {bits : Nat → Int32} (hb : rbt p5 b0 bits s.2.2.1 s.2.2.2)
    (he : ∀ bits, rbt p5 b0 bits (tellOne v n a thr s).2.2.1 (tellOne v n a thr s).2.2.2 → ex (mkG G bits W (nI (p + cBits v (s.1 n) (s.2.1 n) a thr))) (nI (cKn v (s.1 n) (s.2.1 n) a thr).toNat) (nI (cAft v (s.1 n) (s.2.1 n) a thr)) 1) :
    ∃ fu, wp_X4_tell_L106_1 post ex Y (nI n) x9 x8 (nI 0) x2 x3 (nI thr) (nI p5.toNat) fu (mkG G bits W (nI p)) (nI (s.2.1 n).toNat) (nI (max a (s.1 n))) 1 := by
  unfold tellOne at he
  by_cases c : max a (s.1 n) < thr ∧ s.2.1 n = false
  · refine ⟨min v thr - max a (s.1 n) + 2, ?_⟩
    obtain ⟨c1, c2⟩ := c
    have := sp_mC_1 (Y := Y) (G := G) (W := W) (p5 := p5) (b0 := b0) (tb := s.2.2.2) (post := post) (ex := ex) (x9 := x9) (x8 := x8) (x2 := x2) (x3 := x3) hn hv hv2 ht ht2 hthr hp0 hm c1 (fun bits' hb' => ?_) (min v thr - max a (s.1 n)) (max a (s.1 n)) bits (Nat.le_refl _) (by omega) (by rw [Nat.sub_self, Nat.add_zero, ← hts]; exact hb.congr (fun i hi => if_pos hi))
    · rw [Nat.sub_self, Nat.add_zero] at this
      rw [c2]
      exact this
    · unfold cBits cKn cAft at he
      simp only [if_pos (And.intro c1 c2)] at he
      rw [c2, decide_eq_true c1] at he
      have he := he bits' (by
        show rbt p5 b0 bits' (s.2.2.1 + (min v thr - max a (s.1 n) + if v < thr then 1 else 0)) _
        rw [hts, Nat.add_assoc]
        refine hb'.congr (fun i hi => ?_)
        unfold bitsF
        rw [← hts]
        by_cases q : i < s.2.2.1
        · rw [if_pos q, if_pos q]
        · rw [if_neg q, if_neg q]
          by_cases q2 : v < thr
          · rw [decide_eq_true (show max a (s.1 n) < thr ∧ false = false ∧ v < thr from ⟨c1, rfl, q2⟩), Bool.true_and]
            by_cases q3 : i = s.2.2.1 + (min v thr - max a (s.1 n))
            · rw [decide_eq_true q3, decide_eq_true ⟨q2, q3⟩]
            · rw [decide_eq_false q3, decide_eq_false (fun z => q3 z.2)]
          · rw [decide_eq_false (show ¬ (max a (s.1 n) < thr ∧ false = false ∧ v < thr) from fun z => q2 z.2.2), Bool.false_and, decide_eq_false (fun z => q2 z.1)])
      rw [Bool.false_or, Bool.true_and] at he
      exact he
  · refine ⟨1, ?_⟩
    have e1 : cBits v (s.1 n) (s.2.1 n) a thr = 0 := by unfold cBits; rw [if_neg c]
    have e2 : cAft v (s.1 n) (s.2.1 n) a thr = max a (s.1 n) := by unfold cAft; rw [if_neg c]
    have e3 : cKn v (s.1 n) (s.2.1 n) a thr = s.2.1 n := by
      unfold cKn
      cases hk : s.2.1 n with
      | true => rfl
      | false => rw [decide_eq_false (fun q => c ⟨q, hk⟩)]; rfl
    rw [e1, e2, e3] at he
    have he := he bits (by
      show rbt p5 b0 bits (s.2.2.1 + 0) _
      refine hb.congr (fun i hi => ?_)
      unfold bitsF
      exact if_pos hi)
    unfold wp_X4_tell_L106_1
    rw [nI_leI (by omega) (by omega), nI_b0]
    exact ⟨fun _ => he, fun q => ⟨fun z => absurd ⟨by omega, z⟩ c, fun _ => he⟩⟩
theorem mWay {w h l : Nat} {Y : vMS} (hY : okY w h Y) (hl : l < lvs w h) : (Y.1.2.2.1 - 1) - nI l = nI (lvs w h - 1 - l) := by
  rw [hY.2.1, show (1 : Int32) = nI 1 from rfl, pk_sub (lvs_pos w h), pk_sub (by omega)]
theorem sp_mtellC {w h : Nat} {Y : vMS} (hY : okY w h Y) {G : vMM} {V : Nat → Nat} {s : cSt} (hV : ∀ n, n < nds w h → G.2.1 n = nI (V n) ∧ V n ≤ 1000) (hr : repM (nds w h) 0 G.2.2.1 G.2.2.2.1 s.1 s.2.1) (hb : ∀ n, n < nds w h → s.1 n ≤ V n) (htr : treeV w h V) (ht : G.2.2.2.2.1.2.1 = nI s.2.2.1) (ht2 : s.2.2.1 < 2 ^ 29) {x y thr : Nat} (hx : x < w) (hy : y < h) (hthr : thr ≤ 1001) (p5 : Bool) (hbits : rbt p5 G.2.2.2.2.1.1 G.2.2.2.2.1.1 s.2.2.1 s.2.2.2) {post : Int32 → vMM → Prop}
    (hp : ∀ bits W, rbt p5 G.2.2.2.2.1.1 bits (tellC w h V thr x y (lvs w h) 0 s).2.2.1 (tellC w h V thr x y (lvs w h) 0 s).2.2.2 → okW w h x y 0 W (tellC w h V thr x y (lvs w h) 0 s).1 (tellC w h V thr x y (lvs w h) 0 s).2.1 → post 1 (mkG G bits W (nI (costP w h V thr x y s.1 s.2.1 (lvs w h) 0)))) : wp_X4_tell post Y G (nI 0) (nI x) (nI y) (nI thr) (nI p5.toNat) := by
  have hd := hY.1
  have h6 := lvs_le w h
  have h1 := lvs_pos w h
  have hN := nds_le hd
  have key : ∀ (l a : Nat) (s1 : cSt) (bits : Nat → Int32) (W : vRW) (p : Nat) (ex : vMM → Int32 → Int32 → Int32 → Prop), l ≤ lvs w h → abv w h V x y l a → a ≤ 1001 → (∀ j, j < l → s1.1 (pnode w h x y j) = s.1 (pnode w h x y j) ∧ s1.2.1 (pnode w h x y j) = s.2.1 (pnode w h x y j)) → (∀ n, n < nds w h → s1.1 n ≤ V n) → s1.2.2.1 = s.2.2.1 + p → p + 1001 * l ≤ 6006 → rbt p5 G.2.2.2.2.1.1 bits s1.2.2.1 s1.2.2.2 → okW w h x y l W s1.1 s1.2.1 → (∀ bits' W' p' z, rbt p5 G.2.2.2.2.1.1 bits' (tellC w h V thr x y l a s1).2.2.1 (tellC w h V thr x y l a s1).2.2.2 → okW w h x y 0 W' (tellC w h V thr x y l a s1).1 (tellC w h V thr x y l a s1).2.1 → (tellC w h V thr x y l a s1).2.2.1 = s.2.2.1 + p' → ex (mkG G bits' W' (nI p')) (-1) 1 z) → wp_X4_tell_L19 post ex Y (nI 0) (nI x) (nI y) (nI thr) (nI p5.toNat) (l + 1) (mkG G bits W (nI p)) (nI l - 1) 1 (nI a) := by
    intro l
    induction l with
    | zero =>
      intro a s1 bits W p ex _ _ _ _ _ hsp _ hrb hW he
      unfold wp_X4_tell_L19
      exact ⟨fun _ => he bits W p _ hrb hW hsp, fun q => absurd (by decide) q⟩
    | succ l ih =>
      intro a s1 bits W p ex hl hab ha hag hb1 hsp hpl hrb hW he
      unfold wp_X4_tell_L19
      rw [nI_pred]
      refine ⟨fun q => absurd q (nI_pos (by omega)), fun _ => ⟨fun q => absurd q (by decide), fun _ => ?_⟩⟩
      intro x9 hx9
      rw [mWay hY (show l < lvs w h by omega)] at hx9
      subst hx9
      refine sp_mnodeP hY (by omega) hx hy ?_
      have hn := pnode_lt hx hy (show l < lvs w h by omega)
      obtain ⟨v1, v2⟩ := hV _ hn
      obtain ⟨g1, g2⟩ := hag l (by omega)
      obtain ⟨d1, d2, d3⟩ := hr _ hn
      rw [← g1] at d1 d3
      rw [← g2] at d2
      have hav := hab l rfl
      have hbv := hb1 _ hn
      have hm : max a (s1.1 (pnode w h x y l)) ≤ V (pnode w h x y l) := by omega
      have hin8 := vp_in_nI (show lvs w h - 1 - l < 8 by omega) (show 8 < 2 ^ 31 by omega)
      have e0 : nI 0 + nI (pnode w h x y l) = nI (0 + pnode w h x y l) := nI_add _ _
      have hin := vp_in_nI (show 0 + pnode w h x y l < 2800 by omega) (show 2800 < 2 ^ 31 by omega)
      have hc2 := cAft_le (thr := thr) (k := s1.2.1 (pnode w h x y l)) hm
      have hcb := cBits_le (b := s1.1 (pnode w h x y l)) (a := a) (thr := thr) (k := s1.2.1 (pnode w h x y l)) v2
      unfold tellC at he
      have hnext : ∀ bits', rbt p5 G.2.2.2.2.1.1 bits' (tellOne (V (pnode w h x y l)) (pnode w h x y l) a thr s1).2.2.1 (tellOne (V (pnode w h x y l)) (pnode w h x y l) a thr s1).2.2.2 → ∀ x8 : Int32, x8 = nI l + (-1) → wp_X4_tell_L19 post ex Y (nI 0) (nI x) (nI y) (nI thr) (nI p5.toNat) (l + 1) (mkG G bits' (upd W.1 (lvs w h - 1 - l) (nI (pnode w h x y l)), upd W.2.1 (lvs w h - 1 - l) (nI (cAft (V (pnode w h x y l)) (s1.1 (pnode w h x y l)) (s1.2.1 (pnode w h x y l)) a thr)), upd W.2.2 (lvs w h - 1 - l) (vp_nar .boolean (nI (cKn (V (pnode w h x y l)) (s1.1 (pnode w h x y l)) (s1.2.1 (pnode w h x y l)) a thr).toNat))) (nI (p + cBits (V (pnode w h x y l)) (s1.1 (pnode w h x y l)) (s1.2.1 (pnode w h x y l)) a thr))) x8 1 (nI (cAft (V (pnode w h x y l)) (s1.1 (pnode w h x y l)) (s1.2.1 (pnode w h x y l)) a thr)) := by
        intro bits' hb' x8 hx8
        rw [show nI l + (-1) = nI l - 1 by rw [Int32.sub_eq_add_neg]] at hx8
        subst hx8
        refine ih _ (tellOne (V (pnode w h x y l)) (pnode w h x y l) a thr s1) bits' _ _ ex (by omega) (abv_s htr hx hy (by omega) hc2) (by omega) (fun j hj => ?_) (tellOne_b hb1 hm) ?_ (by omega) hb' (hW.step hx hy (by omega) _ _) he
        · obtain ⟨q1, q2⟩ := tellOne_low (V := V) (thr := thr) (a := a) (s := s1) hx hy hj
          rw [q1, q2]
          exact hag j (by omega)
        · show s1.2.2.1 + _ = _
          omega
      have hcl : ∀ i, i < 2 ^ 31 → (nI i).toNatClampNeg = i := fun i hi => nI_clamp hi
      rw [e0]
      refine ⟨hin8, hin, ?_⟩
      rw [hcl _ (show 0 + pnode w h x y l < 2 ^ 31 by omega), hcl _ (show lvs w h - 1 - l < 2 ^ 31 by omega)]
      show (G.2.2.1 (0 + pnode w h x y l) ≤ nI a → _) ∧ (¬ G.2.2.1 (0 + pnode w h x y l) ≤ nI a → _)
      rw [d1, nI_leI (by omega) (by omega)]
      refine ⟨fun c => ⟨hin, fun x11 h11 G2 hG2 => ?_⟩, fun c => ⟨hin, fun x6 h6' => ⟨hin, fun x11 h11 G2 hG2 => ?_⟩⟩⟩
      · have h11 : x11 = nI (s1.2.1 (pnode w h x y l)).toNat := h11.trans d2
        subst h11 hG2
        have := sp_mN (Y := Y) (G := G) (W := (upd W.1 (lvs w h - 1 - l) (nI (pnode w h x y l)), W.2.1, W.2.2)) (post := post) (x9 := nI (lvs w h - 1 - l)) (x8 := nI l) (x2 := nI x) (x3 := nI y) (by omega) v1 v2 ht hsp (by omega) hthr (by omega) hm hrb (ex := fun (G_19 : vMM) (x11_20 : Int32) (x6_21 : Int32) (x7_22 : Int32) => vp_in (nI (lvs w h - 1 - l)) 8 ∧ (vp_in (nI (lvs w h - 1 - l)) 8 ∧ (∀ x8_26 : Int32, x8_26 = nI l + (-1) → (wp_X4_tell_L19 post ex Y (nI 0) (nI x) (nI y) (nI thr) (nI p5.toNat) (l + 1) (G_19.1, G_19.2.1, G_19.2.2.1, G_19.2.2.2.1, G_19.2.2.2.2.1, G_19.2.2.2.2.2.1, (G_19.2.2.2.2.2.2.1.1, (upd G_19.2.2.2.2.2.2.1.2.1 (lvs w h - 1 - l) x6_21), (upd G_19.2.2.2.2.2.2.1.2.2.1 (lvs w h - 1 - l) (vp_nar .boolean x11_20)), G_19.2.2.2.2.2.2.1.2.2.2), G_19.2.2.2.2.2.2.2.1, G_19.2.2.2.2.2.2.2.2) x8_26 x7_22 x6_21)))) (fun bits' hb' => ⟨hin8, hin8, hnext bits' hb'⟩)
        rw [show max a (s1.1 (pnode w h x y l)) = a by omega] at this
        exact this
      · have h11 : x11 = nI (s1.2.1 (pnode w h x y l)).toNat := h11.trans d2
        have h6' : x6 = nI (s1.1 (pnode w h x y l)) := h6'.trans d1
        subst h11 hG2 h6'
        have := sp_mN_1 (Y := Y) (G := G) (W := (upd W.1 (lvs w h - 1 - l) (nI (pnode w h x y l)), W.2.1, W.2.2)) (post := post) (x9 := nI (lvs w h - 1 - l)) (x8 := nI l) (x2 := nI x) (x3 := nI y) (by omega) v1 v2 ht hsp (by omega) hthr (by omega) hm hrb (ex := fun (G_19 : vMM) (x11_20 : Int32) (x6_21 : Int32) (x7_22 : Int32) => vp_in (nI (lvs w h - 1 - l)) 8 ∧ (vp_in (nI (lvs w h - 1 - l)) 8 ∧ (∀ x8_26 : Int32, x8_26 = nI l + (-1) → (wp_X4_tell_L19 post ex Y (nI 0) (nI x) (nI y) (nI thr) (nI p5.toNat) (l + 1) (G_19.1, G_19.2.1, G_19.2.2.1, G_19.2.2.2.1, G_19.2.2.2.2.1, G_19.2.2.2.2.2.1, (G_19.2.2.2.2.2.2.1.1, (upd G_19.2.2.2.2.2.2.1.2.1 (lvs w h - 1 - l) x6_21), (upd G_19.2.2.2.2.2.2.1.2.2.1 (lvs w h - 1 - l) (vp_nar .boolean x11_20)), G_19.2.2.2.2.2.2.1.2.2.2), G_19.2.2.2.2.2.2.2.1, G_19.2.2.2.2.2.2.2.2) x8_26 x7_22 x6_21)))) (fun bits' hb' => ⟨hin8, hin8, hnext bits' hb'⟩)
        rw [show max a (s1.1 (pnode w h x y l)) = s1.1 (pnode w h x y l) by omega] at this
        exact this
  intro x8 hx8 G2 hG2
  rw [hY.2.1] at hx8
  subst hx8 hG2
  refine ⟨lvs w h + 1, key (lvs w h) 0 s G.2.2.2.2.1.1 (G.2.2.2.2.2.2.1.1, G.2.2.2.2.2.2.1.2.1, G.2.2.2.2.2.2.1.2.2.1) 0 _ (Nat.le_refl _) (abv_0 w h V x y _) (by omega) (fun _ _ => ⟨rfl, rfl⟩) hb (by omega) (by omega) hbits (fun j q1 q2 => absurd q1 (by omega)) (fun bits' W' p' z q1 q2 q3 => ⟨by decide, ?_⟩)⟩
  have e := tellC_t (V := V) (thr := thr) hx hy (lvs w h) 0 s
  have : p' = costP w h V thr x y s.1 s.2.1 (lvs w h) 0 := by omega
  rw [this]
  exact hp bits' W' q1 q2
