-- encode and cost
theorem costP_le {w h : Nat} {V : Nat → Nat} {thr x y : Nat} {b : Nat → Nat} {k : Nat → Bool} (hx : x < w) (hy : y < h) (hV : ∀ n, n < nds w h → V n ≤ 1000) : ∀ (l a : Nat), l ≤ lvs w h → costP w h V thr x y b k l a ≤ 1001 * l := by
  intro l
  induction l with
  | zero => intro a _; exact Nat.le_refl _
  | succ l ih =>
    intro a hl
    unfold costP
    have h1 := cBits_le (b := b (pnode w h x y l)) (a := a) (thr := thr) (k := k (pnode w h x y l)) (hV _ (pnode_lt hx hy (show l < lvs w h by omega)))
    have h2 := ih (cAft (V (pnode w h x y l)) (b (pnode w h x y l)) (k (pnode w h x y l)) a thr) (by omega)
    omega
theorem tell_zero {w h : Nat} {V : Nat → Nat} {thr x y : Nat} (hx : x < w) (hy : y < h) : ∀ (l : Nat) (s : cSt), l ≤ lvs w h → (tellC w h V thr x y l 0 s).2.2.1 = s.2.2.1 → (∀ n, n < nds w h → s.1 n = 0 ∧ s.2.1 n = false) → ∀ n, n < nds w h → (tellC w h V thr x y l 0 s).1 n = 0 ∧ (tellC w h V thr x y l 0 s).2.1 n = false := by
  intro l
  induction l with
  | zero => intro s _ _ hz; exact hz
  | succ l ih =>
    intro s hl ht hz
    obtain ⟨z1, z2⟩ := hz _ (pnode_lt hx hy (show l < lvs w h by omega))
    have e1 := tellC_t (V := V) (thr := thr) hx hy (l + 1) 0 s
    unfold costP at e1
    have e2 : cBits (V (pnode w h x y l)) (s.1 (pnode w h x y l)) (s.2.1 (pnode w h x y l)) 0 thr = 0 := by omega
    rw [z1, z2] at e2
    have ethr : thr = 0 := by
      unfold cBits at e2
      by_cases c : 0 < thr
      · rw [if_pos ⟨by omega, rfl⟩] at e2
        split at e2 <;> omega
      · omega
    have a1 : cAft (V (pnode w h x y l)) (s.1 (pnode w h x y l)) (s.2.1 (pnode w h x y l)) 0 thr = 0 := by
      rw [z1, z2]; unfold cAft; rw [if_neg (by omega)]; rfl
    have a2 : cKn (V (pnode w h x y l)) (s.1 (pnode w h x y l)) (s.2.1 (pnode w h x y l)) 0 thr = false := by
      rw [z1, z2]; unfold cKn; rw [decide_eq_false (by omega)]; rfl
    unfold tellC at ht ⊢
    rw [a1] at ht ⊢
    have f1 : (tellOne (V (pnode w h x y l)) (pnode w h x y l) 0 thr s).1 = s.1 := by
      show setN s.1 _ (cAft _ _ _ _ _) = s.1
      rw [a1]; exact setN_id z1
    have f2 : (tellOne (V (pnode w h x y l)) (pnode w h x y l) 0 thr s).2.1 = s.2.1 := by
      show setN s.2.1 _ (cKn _ _ _ _ _) = s.2.1
      rw [a2]; exact setN_id z2
    have f3 : (tellOne (V (pnode w h x y l)) (pnode w h x y l) 0 thr s).2.2.1 = s.2.2.1 := by
      show s.2.2.1 + cBits _ _ _ _ _ = _
      rw [z1, z2, e2]; rfl
    refine ih _ (by omega) (by rw [f3]; exact ht) (fun n hn => ?_)
    rw [f1, f2]
    exact hz n hn
theorem invS.tell {w h : Nat} {V : Nat → Nat} {s : cSt} {p thr x y : Nat} (hI : invS w h V s p) (hx : x < w) (hy : y < h) (hroom : (tellC w h V thr x y (lvs w h) 0 s).2.2.1 ≤ 40000) : invS w h V (tellC w h V thr x y (lvs w h) 0 s) p := by
  obtain ⟨h1, h2, h3, h4, h5⟩ := hI
  have e := tellC_t (V := V) (thr := thr) hx hy (lvs w h) 0 s
  refine ⟨h1, tellC_b h1 hx hy _ _ _ (Nat.le_refl _) (abv_0 w h V x y _) h2, by omega, hroom, fun q => ?_⟩
  exact tell_zero hx hy _ s (Nat.le_refl _) (by omega) (h5 (by omega))
theorem rbt_of {G : vMM} {n : Nat} {tb : Nat → Bool} (hb : ∀ i, i < n → i < 40000 → G.2.2.2.2.1.1 i = nI (tb i).toNat) (p5 : Bool) : rbt p5 G.2.2.2.2.1.1 G.2.2.2.2.1.1 n tb := by
  unfold rbt
  split
  · exact hb
  · rfl
/-- the reference's coder tells a leaf and keeps it -/
theorem sp_mtk {w h : Nat} {Y : vMS} (hY : okY w h Y) {G : vMM} {V : Nat → Nat} {s : cSt} {d : dSt} {p : Nat} (hG : relG w h G V s d p) (hb : ∀ n, n < nds w h → s.1 n ≤ V n) (htr : treeV w h V) {x y thr : Nat} (hx : x < w) (hy : y < h) {bits : Nat → Int32} {W : vRW} (hbits : rbt true G.2.2.2.2.1.1 bits (tellC w h V thr x y (lvs w h) 0 s).2.2.1 (tellC w h V thr x y (lvs w h) 0 s).2.2.2) (hW : okW w h x y 0 W (tellC w h V thr x y (lvs w h) 0 s).1 (tellC w h V thr x y (lvs w h) 0 s).2.1) {c : Int32} {post : vMM → Prop}
    (hp : ∀ bo kn, relG w h (c, G.2.1, bo, kn, (bits, nI (tellC w h V thr x y (lvs w h) 0 s).2.2.1, G.2.2.2.2.1.2.2), G.2.2.2.2.2.1, (W.1, W.2.1, W.2.2, nI (costP w h V thr x y s.1 s.2.1 (lvs w h) 0)), G.2.2.2.2.2.2.2.1, G.2.2.2.2.2.2.2.2) V (tellC w h V thr x y (lvs w h) 0 s) d p → post (setK (mkG (c, G.2) bits W (nI (costP w h V thr x y s.1 s.2.1 (lvs w h) 0))) bo kn)) : wp_X4_keep post Y (mkG (c, G.2) bits W (nI (costP w h V thr x y s.1 s.2.1 (lvs w h) 0))) (nI 0) := by
  have hN := nds_le hY.1
  obtain ⟨g1, g2, g3, ⟨g4, g5⟩, g6, g7⟩ := hG
  have hbv := tellC_b (thr := thr) htr hx hy (lvs w h) 0 s (Nat.le_refl _) (abv_0 w h V x y _) hb
  refine sp_keep (G := mkG (c, G.2) bits W (nI (costP w h V thr x y s.1 s.2.1 (lvs w h) 0))) (B := 0) hY (by omega) g2 hx hy hW (fun j hj => ?_) (fun n hn => tellC_off _ _ _ hn) (fun bo kn hr ho => ?_)
  · have hn := pnode_lt hx hy hj
    have h1 := hbv _ hn
    have h2 := (g1 _ hn).2
    omega
  · refine hp bo kn ⟨g1, hr, fun n hn => ?_, ⟨rfl, ?_⟩, g6, g7⟩
    · obtain ⟨q1, q2⟩ := ho (1400 + n) (Or.inr (by omega))
      obtain ⟨q3, q4, q5⟩ := g3 n hn
      exact ⟨q1.trans q3, q2.trans q4, q5⟩
    · unfold rbt at hbits
      rw [if_pos rfl] at hbits
      exact hbits
theorem relT.tell {w h : Nat} {T T' : vTT} {V : Nat → Nat} {s s' : cSt} {d : dSt} {p : Nat} (hT : relT w h T V s d p) (hr : repC (nds w h) T' V s') (hs : sameC T T') : relT w h T' V s' d p := by
  obtain ⟨s1, s2, s3⟩ := hs
  refine ⟨hr, ?_, ?_, ?_⟩
  · rw [s2]; exact hT.2.1
  · rw [s3]; exact hT.2.2.1
  · rw [s3]; exact hT.2.2.2
theorem law_encode {w h : Nat} {S : vSH} {Y : vMS} (hS : okS w h S) (hY : okY w h Y) {T : vTT} {G : vMM} (hr : rel w h T G) {out : Nat → Int64} {x1 x2 x3 : Int32} {P : Int32 → vLW → Prop} {K : Int32 → vLW → Int32 → vMM → Prop} (hP : ∀ k V, wp_X4_encode (K k V) Y G x1 x2 x3 → P k V) (hK : KOK w h K) : wp_L_encode P (w * h) (nds w h) S (T, out) x1 x2 x3 := by
  have hN := nds_le hS.1
  have h6 := lvs_le w h
  unfold wp_L_encode wp_X3_encode
  refine sp_checkLeaf hS (fun c => Or.inl ⟨rfl, hP _ _ (sp_isLeaf hY (fun _ => ⟨fun _ => ⟨fun q => absurd q (by decide), fun _ => hK.thr hr (by decide)⟩, fun q => absurd rfl q⟩) (fun q => absurd q c))⟩) (fun c => ?_)
  refine sp_checkThr (fun c2 => Or.inr (Or.inl ⟨rfl, hP _ _ (sp_isLeaf hY (fun q => absurd c q) (fun _ => ⟨fun q => absurd q (by decide), fun _ => ?_⟩))⟩)) (fun c2 => ?_)
  · exact (show (1001 : Int32) = nI 1002 - 1 by decide) ▸ sp_in' (N := 1002) (by omega) (fun _ => ⟨fun _ => ⟨fun q => absurd q (by decide), fun _ => hK.thr hr (by decide)⟩, fun q => absurd rfl q⟩) (fun q => absurd q c2)
  have c0 := c
  have c20 := c2
  obtain ⟨x, y, hx, hy, rfl, rfl⟩ := c
  obtain ⟨thr, hthr, rfl⟩ := c2
  obtain ⟨V, s, d, p, hT, hG, hI⟩ := hr
  have hr : rel w h T G := ⟨V, s, d, p, hT, hG, hI⟩
  have ht4 := hI.2.2.2.1
  have hcost := costP_le (thr := thr) (b := s.1) (k := s.2.1) hx hy (fun n hn => (hG.1 n hn).2) (lvs w h) 0 (Nat.le_refl _)
  have etc := tellC_t (V := V) (thr := thr) hx hy (lvs w h) 0 s
  have mod : ∀ k V', (∀ bits W, rbt true G.2.2.2.2.1.1 bits (tellC w h V thr x y (lvs w h) 0 s).2.2.1 (tellC w h V thr x y (lvs w h) 0 s).2.2.2 → okW w h x y 0 W (tellC w h V thr x y (lvs w h) 0 s).1 (tellC w h V thr x y (lvs w h) 0 s).2.1 → (s.2.2.1 + costP w h V thr x y s.1 s.2.1 (lvs w h) 0 ≤ 40000 → wp_X4_keep (fun G_10 => ∀ f_11 : Int32, f_11 = G_10.2.2.2.2.1.2.1 + G_10.2.2.2.2.2.2.1.2.2.2 → (K k V' G_10.2.2.2.2.2.2.1.2.2.2 (G_10.1, G_10.2.1, G_10.2.2.1, G_10.2.2.2.1, (G_10.2.2.2.2.1.1, f_11, G_10.2.2.2.2.1.2.2), G_10.2.2.2.2.2.1, G_10.2.2.2.2.2.2.1, G_10.2.2.2.2.2.2.2.1, G_10.2.2.2.2.2.2.2.2))) Y (mkG (0, G.2) bits W (nI (costP w h V thr x y s.1 s.2.1 (lvs w h) 0))) (nI 0)) ∧ (¬ s.2.2.1 + costP w h V thr x y s.1 s.2.1 (lvs w h) 0 ≤ 40000 → K k V' 0 (mkG (3, G.2) bits W (nI (costP w h V thr x y s.1 s.2.1 (lvs w h) 0))))) → wp_X4_encode (K k V') Y G (nI x) (nI y) (nI thr) := by
    intro k V' hq
    refine sp_isLeaf hY (fun q => absurd c0 q) (fun _ => ⟨fun q => absurd q (by decide), fun _ => ?_⟩)
    refine (show (1001 : Int32) = nI 1002 - 1 by decide) ▸ sp_in' (N := 1002) (by omega) (fun q => absurd c20 q) (fun _ => ⟨fun q => absurd q (by decide), fun _ => ⟨fun _ => ?_, fun q => absurd (by decide) q⟩⟩)
    refine sp_mtellC (G := (0, G.2)) hY hG.1 hG.2.1 hI.2.1 hI.1 hG.2.2.2.1.1 (by omega) hx hy (by omega) true (rbt_of hG.2.2.2.1.2 true) (fun bits W hbits hW => ?_)
    obtain ⟨k1, k2⟩ := hq bits W hbits hW
    show (G.2.2.2.2.1.2.1 + nI _ ≤ 40000 → _) ∧ (¬ G.2.2.2.2.1.2.1 + nI _ ≤ 40000 → _)
    rw [hG.2.2.2.1.1, nI_add, show (40000 : Int32) = nI 40000 from rfl, nI_leI (by omega) (by omega)]
    exact ⟨fun q => ⟨fun _ => k1 q, fun z => absurd (by decide) z⟩, fun q => ⟨fun z => absurd z (by decide), fun _ => k2 q⟩⟩
  refine sp_costOfLeaf hS hT.1 hI.2.1 hI.1 hx hy (by omega) ?_
  refine sp_checkRoom (m := s.2.2.1) hT.1.2.2.2.1 ht4 (by omega) (fun c => ?_) (fun c => Or.inr (Or.inr ⟨rfl, hP _ _ (mod _ _ (fun bits W hbits hW => ⟨fun q => absurd q (by omega), fun _ => ?_⟩))⟩))
  · refine sp_tellLeaf hS (T := T) hT.1 hI.2.1 hI.1 hx hy (by omega) (by omega) (fun T' hr' hs' => ⟨vin01, hP _ _ (mod _ _ (fun bits W hbits hW => ⟨fun _ => ?_, fun q => absurd c q⟩))⟩)
    refine sp_mtk hY hG hI.2.1 hI.1 hx hy hbits hW (fun bo kn hg => ?_)
    intro f11 hf11
    have hf11 : f11 = G.2.2.2.2.1.2.1 + nI (costP w h V thr x y s.1 s.2.1 (lvs w h) 0) := hf11
    rw [hG.2.2.2.1.1, nI_add, ← etc] at hf11
    subst hf11
    exact hK.ret ⟨V, _, d, p, hT.tell hr' hs', hg, hI.tell hx hy (by omega)⟩ rfl
  · refine hK 3 T out 0 _ ⟨V, s, d, p, hT, ⟨hG.1, hG.2.1, hG.2.2.1, ⟨hG.2.2.2.1.1, fun i hi h4 => ?_⟩, hG.2.2.2.2.1, hG.2.2.2.2.2⟩, hI⟩ rfl (fun q => absurd q (by decide))
    unfold rbt at hbits
    rw [if_pos rfl] at hbits
    have := hbits i (by omega) h4
    refine this.trans ?_
    have key : ∀ (l a : Nat) (s1 : cSt), i < s1.2.2.1 → (tellC w h V thr x y l a s1).2.2.2 i = s1.2.2.2 i := by
      intro l
      induction l with
      | zero => intro a s1 _; rfl
      | succ l ih =>
        intro a s1 hi1
        unfold tellC
        rw [ih _ _ (Nat.lt_of_lt_of_le hi1 (Nat.le_add_right _ _))]
        exact if_pos hi1
    rw [key _ _ _ hi]
theorem law_cost {w h : Nat} {S : vSH} {Y : vMS} (hS : okS w h S) (hY : okY w h Y) {T : vTT} {G : vMM} (hr : rel w h T G) {out : Nat → Int64} {x1 x2 x3 : Int32} {P : Int32 → vLW → Prop} {K : Int32 → vLW → Int32 → vMM → Prop} (hP : ∀ k V, wp_X4_cost (K k V) Y G x1 x2 x3 → P k V) (hK : KOK w h K) : wp_L_cost P (w * h) (nds w h) S (T, out) x1 x2 x3 := by
  have hN := nds_le hS.1
  have h6 := lvs_le w h
  unfold wp_L_cost wp_X3_cost
  refine sp_checkLeaf hS (fun c => Or.inl ⟨rfl, hP _ _ (sp_isLeaf hY (fun _ => ⟨fun _ => ⟨fun q => absurd q (by decide), fun _ => hK.thr hr (by decide)⟩, fun q => absurd rfl q⟩) (fun q => absurd q c))⟩) (fun c => ?_)
  refine sp_checkThr (fun c2 => Or.inr ⟨rfl, hP _ _ (sp_isLeaf hY (fun q => absurd c q) (fun _ => ⟨fun q => absurd q (by decide), fun _ => ?_⟩))⟩) (fun c2 => ?_)
  · exact (show (1001 : Int32) = nI 1002 - 1 by decide) ▸ sp_in' (N := 1002) (by omega) (fun _ => ⟨fun _ => ⟨fun q => absurd q (by decide), fun _ => hK.thr hr (by decide)⟩, fun q => absurd rfl q⟩) (fun q => absurd q c2)
  have c0 := c
  have c20 := c2
  obtain ⟨x, y, hx, hy, rfl, rfl⟩ := c
  obtain ⟨thr, hthr, rfl⟩ := c2
  obtain ⟨V, s, d, p, hT, hG, hI⟩ := hr
  have ht4 := hI.2.2.2.1
  refine sp_costOfLeaf hS hT.1 hI.2.1 hI.1 hx hy (by omega) ⟨vin01, hP _ _ ?_⟩
  refine sp_isLeaf hY (fun q => absurd c0 q) (fun _ => ⟨fun q => absurd q (by decide), fun _ => ?_⟩)
  refine (show (1001 : Int32) = nI 1002 - 1 by decide) ▸ sp_in' (N := 1002) (by omega) (fun q => absurd c20 q) (fun _ => ⟨fun q => absurd q (by decide), fun _ => ⟨fun _ => ?_, fun q => absurd (by decide) q⟩⟩)
  refine sp_mtellC (G := (0, G.2)) hY hG.1 hG.2.1 hI.2.1 hI.1 hG.2.2.2.1.1 (by omega) hx hy (by omega) false (rbt_of hG.2.2.2.1.2 false) (fun bits W hbits hW => ?_)
  have eb : bits = G.2.2.2.2.1.1 := hbits
  subst eb
  have hrel : rel w h T (mkG (0, G.2) G.2.2.2.2.1.1 W (nI (costP w h V thr x y s.1 s.2.1 (lvs w h) 0))) := ⟨V, s, d, p, hT, hG, hI⟩
  exact hK.ret hrel rfl
