-- telling a leaf, from the root on
def pnode (w h x y l : Nat) : Nat := node w h l (x / 2 ^ l) (y / 2 ^ l)
def tellC (w h : Nat) (V : Nat → Nat) (thr x y : Nat) : Nat → Nat → cSt → cSt
  | 0, _, s => s
  | l + 1, a, s => tellC w h V thr x y l (cAft (V (pnode w h x y l)) (s.1 (pnode w h x y l)) (s.2.1 (pnode w h x y l)) a thr) (tellOne (V (pnode w h x y l)) (pnode w h x y l) a thr s)
def costP (w h : Nat) (V : Nat → Nat) (thr x y : Nat) (b : Nat → Nat) (k : Nat → Bool) : Nat → Nat → Nat
  | 0, _ => 0
  | l + 1, a => cBits (V (pnode w h x y l)) (b (pnode w h x y l)) (k (pnode w h x y l)) a thr + costP w h V thr x y b k l (cAft (V (pnode w h x y l)) (b (pnode w h x y l)) (k (pnode w h x y l)) a thr)
/-- a node's value is no more than its children's -/
def treeV (w h : Nat) (V : Nat → Nat) : Prop := ∀ l x y, l + 1 < lvs w h → x < cdiv w l → y < cdiv h l → V (node w h (l + 1) (x / 2) (y / 2)) ≤ V (node w h l x y)
theorem pnode_lt {w h x y l : Nat} (hx : x < w) (hy : y < h) (hl : l < lvs w h) : pnode w h x y l < nds w h := node_lt hl (cdiv_sh hx) (cdiv_sh hy)
theorem treeV.path {w h : Nat} {V : Nat → Nat} (ht : treeV w h V) {x y l : Nat} (hx : x < w) (hy : y < h) (hl : l + 1 < lvs w h) : V (pnode w h x y (l + 1)) ≤ V (pnode w h x y l) := by
  have h1 := ht l (x / 2 ^ l) (y / 2 ^ l) hl (cdiv_sh hx) (cdiv_sh hy)
  unfold pnode
  rw [Nat.pow_succ, ← Nat.div_div_eq_div_mul, ← Nat.div_div_eq_div_mul]
  exact h1
theorem cAft_le {v b a thr : Nat} {k : Bool} (h : max a b ≤ v) : cAft v b k a thr ≤ v := by unfold cAft; split <;> omega
theorem cAft_ge {v b a thr : Nat} {k : Bool} (h : max a b ≤ v) : max a b ≤ cAft v b k a thr := by unfold cAft; split <;> omega
theorem cBits_le {v b a thr : Nat} {k : Bool} (h : v ≤ 1000) : cBits v b k a thr ≤ 1001 := by unfold cBits; split <;> (try split) <;> omega
theorem shrL {x l : Nat} (hx : x < 2 ^ 31) (hl : l < 32) : nI x >>> (nI l &&& 31) = nI (x / 2 ^ l) := pk_shrN hx _ l (s_l l hl)
theorem sp_nodeP {w h nl : Nat} {S : vSH} (hS : okS w h S) {l x y : Nat} (hl : l < lvs w h) (hx : x < w) (hy : y < h) {post : Int32 → Prop} (hp : post (nI (pnode w h x y l))) : wp_X1_nodeAt post nl S (nI l) (nI x >>> (nI l &&& 31)) (nI y >>> (nI l &&& 31)) := by
  have h6 := lvs_le w h
  have hd := hS.1
  have hxw : x < 2 ^ 31 := by have := hd.2.1; omega
  have hyh : y < 2 ^ 31 := by have := hd.2.2.2; omega
  rw [shrL hxw (by omega), shrL hyh (by omega)]
  exact sp_nodeAt hS hl hp
/-- the level below: what a level's number says of the bound above it -/
def abv (w h : Nat) (V : Nat → Nat) (x y l a : Nat) : Prop := ∀ j, l = j + 1 → a ≤ V (pnode w h x y j)
theorem abv_0 (w h : Nat) (V : Nat → Nat) (x y l : Nat) : abv w h V x y l 0 := fun _ _ => Nat.zero_le _
theorem abv_s {w h : Nat} {V : Nat → Nat} (ht : treeV w h V) {x y l a : Nat} (hx : x < w) (hy : y < h) (hl : l < lvs w h) (ha : a ≤ V (pnode w h x y l)) : abv w h V x y l a := by
  intro j e
  subst e
  exact Nat.le_trans ha (ht.path hx hy hl)
theorem sp_costOfLeaf {w h nl : Nat} {S : vSH} (hS : okS w h S) {T : vTT} {V : Nat → Nat} {s : cSt} (hr : repC (nds w h) T V s) (hb : ∀ n, n < nds w h → s.1 n ≤ V n) (ht : treeV w h V) {x y thr : Nat} (hx : x < w) (hy : y < h) (hthr : thr ≤ 1001) {post : Int32 → Prop} (hp : post (nI (costP w h V thr x y s.1 s.2.1 (lvs w h) 0))) : wp_X3_costOfLeaf post nl (nds w h) S T (nI x) (nI y) (nI thr) := by
  have hd := hS.1
  have h6 := lvs_le w h
  have hN := nds_le hd
  obtain ⟨hV, hD, -⟩ := hr
  have key : ∀ (l a c : Nat) (ex : Int32 → Int32 → Int32 → Prop), l ≤ lvs w h → a ≤ 1001 → c ≤ 10000 * (7 - l) → abv w h V x y l a → (∀ z, ex (-1) z (nI (c + costP w h V thr x y s.1 s.2.1 l a))) → wp_X3_costOfLeaf_L17 post ex nl (nds w h) S T (nI x) (nI y) (nI thr) (l + 1) (nI l - 1) (nI a) (nI c) := by
    intro l
    induction l with
    | zero =>
      intro a c ex _ _ _ _ hex
      unfold wp_X3_costOfLeaf_L17
      exact ⟨fun _ => hex _, fun q => absurd (by decide) q⟩
    | succ l ih =>
      intro a c ex hl ha hc hab hex
      unfold wp_X3_costOfLeaf_L17
      rw [nI_pred]
      refine ⟨fun q => absurd q (nI_pos (by omega)), fun _ => ?_⟩
      refine sp_nodeP hS (by omega) hx hy ?_
      have hn := pnode_lt hx hy (show l < lvs w h by omega)
      have hav := hab l rfl
      have hbv := hb _ hn
      obtain ⟨d1, d2, d3⟩ := hD.1 _ hn
      obtain ⟨v1, v2⟩ := hV _ hn
      refine ⟨vp_in_nI hn (by omega), ?_⟩
      rw [nI_clamp (by omega), d1, nI_max (by omega) (by omega)]
      intro x8 hx8
      subst hx8
      refine sp_costOfNode hD hV (by omega) hn (by omega) (by omega) ?_
      intro x4 hx4
      rw [nI_add] at hx4
      subst hx4
      refine sp_boundAfter hD hV (by omega) hn (by omega) (by omega) ?_
      intro x6 hx6
      have e6 : nI l + (-1) = nI l - 1 := by rw [Int32.sub_eq_add_neg]
      rw [e6] at hx6
      subst hx6
      have hm : max a (s.1 (pnode w h x y l)) ≤ V (pnode w h x y l) := by omega
      have hc1 := cBits_le (b := s.1 (pnode w h x y l)) (a := a) (thr := thr) (k := s.2.1 (pnode w h x y l)) v2
      have hc2 := cAft_le (thr := thr) (k := s.2.1 (pnode w h x y l)) hm
      refine ih (cAft (V (pnode w h x y l)) (s.1 (pnode w h x y l)) (s.2.1 (pnode w h x y l)) a thr) (c + cBits (V (pnode w h x y l)) (s.1 (pnode w h x y l)) (s.2.1 (pnode w h x y l)) a thr) ex (by omega) (by omega) (by omega) (abv_s ht hx hy (by omega) hc2) (fun z => ?_)
      have := hex z
      rw [costP, ← Nat.add_assoc] at this
      exact this
  intro x6 hx6
  rw [hS.2.1] at hx6
  subst hx6
  exact ⟨lvs w h + 1, key (lvs w h) 0 0 _ (Nat.le_refl _) (by omega) (by omega) (abv_0 w h V x y _) (fun z => by rw [Nat.zero_add]; exact hp)⟩
theorem tellOne_b {w h : Nat} {V : Nat → Nat} {s : cSt} {n a thr : Nat} (hb : ∀ n, n < nds w h → s.1 n ≤ V n) (hm : max a (s.1 n) ≤ V n) : ∀ j, j < nds w h → (tellOne (V n) n a thr s).1 j ≤ V j := by
  intro j hj
  show setN s.1 n _ j ≤ V j
  by_cases e : j = n
  · subst e; rw [setN_s]; exact cAft_le hm
  · rw [setN_n e]; exact hb j hj
theorem sp_tellLeaf {w h nl : Nat} {S : vSH} (hS : okS w h S) {T : vTT} {V : Nat → Nat} {s : cSt} (hr : repC (nds w h) T V s) (hb : ∀ n, n < nds w h → s.1 n ≤ V n) (ht : treeV w h V) {x y thr : Nat} (hx : x < w) (hy : y < h) (hthr : thr ≤ 1001) (hroom : (tellC w h V thr x y (lvs w h) 0 s).2.2.1 ≤ 40000) {post : vTT → Prop} (hp : ∀ T', repC (nds w h) T' V (tellC w h V thr x y (lvs w h) 0 s) → sameC T T' → post T') : wp_X3_tellLeaf post nl (nds w h) S T (nI x) (nI y) (nI thr) := by
  have hd := hS.1
  have h6 := lvs_le w h
  have hN := nds_le hd
  have hmono : ∀ (l a : Nat) (s : cSt), s.2.2.1 ≤ (tellC w h V thr x y l a s).2.2.1 := by
    intro l
    induction l with
    | zero => intro a s; exact Nat.le_refl _
    | succ l ih => intro a s; exact Nat.le_trans (Nat.le_add_right _ _) (ih _ (tellOne _ _ a thr s))
  have key : ∀ (l a : Nat) (T1 : vTT) (s1 : cSt) (ex : vTT → Int32 → Int32 → Prop), l ≤ lvs w h → a ≤ 1001 → abv w h V x y l a → repC (nds w h) T1 V s1 → (∀ n, n < nds w h → s1.1 n ≤ V n) → (tellC w h V thr x y l a s1).2.2.1 ≤ 40000 → (∀ T' z, repC (nds w h) T' V (tellC w h V thr x y l a s1) → sameC T1 T' → ex T' (-1) z) → wp_X3_tellLeaf_L14 post ex nl (nds w h) S (nI x) (nI y) (nI thr) (l + 1) T1 (nI l - 1) (nI a) := by
    intro l
    induction l with
    | zero =>
      intro a T1 s1 ex _ _ _ hr1 _ _ hex
      unfold wp_X3_tellLeaf_L14
      exact ⟨fun _ => hex _ _ hr1 (sameC.rf T1), fun q => absurd (by decide) q⟩
    | succ l ih =>
      intro a T1 s1 ex hl ha hab hr1 hb1 hro hex
      unfold wp_X3_tellLeaf_L14
      rw [nI_pred]
      refine ⟨fun q => absurd q (nI_pos (by omega)), fun _ => ?_⟩
      refine sp_nodeP hS (by omega) hx hy ?_
      have hn := pnode_lt hx hy (show l < lvs w h by omega)
      have hav := hab l rfl
      have hbv := hb1 _ hn
      obtain ⟨d1, d2, d3⟩ := hr1.2.1.1 _ hn
      obtain ⟨v1, v2⟩ := hr1.1 _ hn
      refine ⟨vp_in_nI hn (by omega), ?_⟩
      rw [nI_clamp (by omega), d1, nI_max (by omega) (by omega)]
      have hm : max a (s1.1 (pnode w h x y l)) ≤ V (pnode w h x y l) := by omega
      have hc2 := cAft_le (thr := thr) (k := s1.2.1 (pnode w h x y l)) hm
      have hro2 : (tellOne (V (pnode w h x y l)) (pnode w h x y l) a thr s1).2.2.1 ≤ 40000 := Nat.le_trans (hmono l _ _) hro
      refine sp_tellNode hr1 (by omega) hn hm hthr hro2 (fun T2 hr2 hs2 => ?_)
      refine ⟨vp_in_nI hn (by omega), ?_⟩
      intro x4 hx4 x5 hx5
      have e6 : nI l + (-1) = nI l - 1 := by rw [Int32.sub_eq_add_neg]
      rw [e6] at hx5
      subst hx5
      have e4 := (hr2.2.1.1 _ hn).1
      rw [e4] at hx4
      have e5 : (tellOne (V (pnode w h x y l)) (pnode w h x y l) a thr s1).1 (pnode w h x y l) = cAft (V (pnode w h x y l)) (s1.1 (pnode w h x y l)) (s1.2.1 (pnode w h x y l)) a thr := setN_s
      rw [e5] at hx4
      subst hx4
      exact ih _ T2 _ ex (by omega) (by omega) (abv_s ht hx hy (by omega) hc2) hr2 (tellOne_b hb1 hm) hro (fun T' z hr' hs' => hex T' z hr' (hs2.tr hs'))
  intro x5 hx5
  rw [hS.2.1] at hx5
  subst hx5
  exact ⟨lvs w h + 1, key (lvs w h) 0 T s _ (Nat.le_refl _) (by omega) (abv_0 w h V x y _) hr hb hroom (fun T' z hr' hs' => hp T' hr' hs')⟩
