-- the decoder: a node, from the bits that wait
def dRun (wb : Nat → Bool) (m thr : Nat) : Nat → Nat → Bool → Nat → Bool × Nat × Bool × Nat
  | 0, g, k, p => (true, g, k, p)
  | f + 1, g, k, p => if thr ≤ g ∨ k = true then (true, g, k, p) else if m ≤ p then (false, g, k, p) else if wb p = true then dRun wb m thr f g true (p + 1) else dRun wb m thr f (g + 1) false (p + 1)
def takeC (w h : Nat) (wb : Nat → Bool) (m thr x y : Nat) : Nat → Nat → (Nat → Nat) → (Nat → Bool) → Nat → Bool × (Nat → Nat) × (Nat → Bool) × Nat
  | 0, _, b, k, p => (true, b, k, p)
  | l + 1, a, b, k, p =>
    if (dRun wb m thr thr (max a (b (pnode w h x y l))) (k (pnode w h x y l)) p).1 = true then
      takeC w h wb m thr x y l (dRun wb m thr thr (max a (b (pnode w h x y l))) (k (pnode w h x y l)) p).2.1 (setN b (pnode w h x y l) (dRun wb m thr thr (max a (b (pnode w h x y l))) (k (pnode w h x y l)) p).2.1) (setN k (pnode w h x y l) (dRun wb m thr thr (max a (b (pnode w h x y l))) (k (pnode w h x y l)) p).2.2.1) (dRun wb m thr thr (max a (b (pnode w h x y l))) (k (pnode w h x y l)) p).2.2.2
    else (false, b, k, p)
theorem dRun_in {wb : Nat → Bool} {m thr : Nat} (hthr : thr ≤ 1001) : ∀ (f g : Nat) (k : Bool) (p : Nat), g ≤ 1001 → p ≤ m → (dRun wb m thr f g k p).2.1 ≤ 1001 ∧ (dRun wb m thr f g k p).2.2.2 ≤ m ∧ (k = true → (dRun wb m thr f g k p).2.2.1 = true) := by
  intro f
  induction f with
  | zero => intro g k p hg hp; exact ⟨hg, hp, fun q => q⟩
  | succ f ih =>
    intro g k p hg hp
    unfold dRun
    split
    · exact ⟨hg, hp, fun q => q⟩
    · rename_i c
      split
      · exact ⟨hg, hp, fun q => q⟩
      · split
        · obtain ⟨q1, q2, -⟩ := ih g true (p + 1) hg (by omega)
          exact ⟨q1, q2, fun q => absurd (Or.inr q) c⟩
        · obtain ⟨q1, q2, -⟩ := ih (g + 1) false (p + 1) (by omega) (by omega)
          exact ⟨q1, q2, fun q => absurd (Or.inr q) c⟩
theorem sp_dRun {nl nn : Nat} {S : vSH} {T : vTT} {f m thr : Nat} {wb : Nat → Bool} (hB : BRok T.2.2.2.2.1 f m wb) (hthr : thr ≤ 1001) {post : Int32 → vTT → Prop} {ex : Int32 → Int32 → Int32 → Prop} {r8 x7 x1 x2 x4 : Int32} : ∀ (fu g : Nat) (k : Bool) (p : Nat), (thr ≤ g + fu ∨ k = true) → g ≤ 1001 → p ≤ m → ((dRun wb m thr fu g k p).1 = true → ex (nI (dRun wb m thr fu g k p).2.2.1.toNat) (nI (dRun wb m thr fu g k p).2.1) (nI (dRun wb m thr fu g k p).2.2.2)) → ((dRun wb m thr fu g k p).1 = false → post (-2) T) → wp_X3_takeBits_L70 post ex nl nn S T r8 x7 x1 x2 (nI thr) x4 (fu + 1) (nI k.toNat) (nI g) (nI p) := by
  have hm := hB.2.2.2.1
  intro fu
  induction fu with
  | zero =>
    intro g k p hf hg hp he hq
    unfold wp_X3_takeBits_L70
    rw [nI_leI (by omega) (by omega), nI_b0]
    refine ⟨fun _ => he rfl, fun c => ⟨fun d => ?_, fun _ => he rfl⟩⟩
    subst d
    rcases hf with q | q
    · exact absurd q c
    · exact absurd q (by decide)
  | succ fu ih =>
    intro g k p hf hg hp he hq
    unfold wp_X3_takeBits_L70
    unfold dRun at he hq
    rw [nI_leI (by omega) (by omega), nI_b0]
    refine ⟨fun c => ?_, fun c => ⟨fun d => ?_, fun d => ?_⟩⟩
    · rw [if_pos (Or.inl c)] at he
      exact he rfl
    · subst d
      have c2 : ¬ (thr ≤ g ∨ false = true) := by simp; omega
      simp only [if_neg c2] at he hq
      rw [hB.2.1, nI_ltI (by omega) (by omega)]
      refine ⟨fun c3 => ?_, fun c3 => ?_⟩
      · simp only [if_neg (show ¬ m ≤ p by omega)] at he hq
        refine sp_look hB c3 ?_
        cases hb : wb p with
        | true =>
          simp only [hb, if_pos] at he hq
          refine ⟨fun _ x5 h5 => ?_, fun q => absurd rfl q⟩
          rw [nI_1] at h5
          subst h5
          exact ih g true (p + 1) (Or.inr rfl) hg (by omega) he hq
        | false =>
          simp only [hb] at he hq
          refine ⟨fun q => absurd q (by decide), fun _ x6 h6 x5 h5 => ?_⟩
          rw [nI_1] at h5 h6
          subst h5 h6
          have hf2 : thr ≤ g + (fu + 1) := hf.resolve_right (by decide)
          exact ih (g + 1) false (p + 1) (Or.inl (by omega)) (by omega) (by omega) he hq
      · simp only [if_pos (show m ≤ p by omega)] at hq
        exact hq trivial
    · have d2 : k = true := by cases k with | true => rfl | false => exact absurd rfl d
      rw [if_pos (Or.inr d2)] at he
      exact he rfl
theorem sp_dry {w h nl : Nat} {S : vSH} (hS : okS w h S) {T : vTT} {b : Nat → Nat} {k : Nat → Bool} (hD : SDok (nds w h) T.2.2.1 b k) {f m thr : Nat} {wb : Nat → Bool} (hB : BRok T.2.2.2.2.1 f m wb) (hthr : thr ≤ 1001) {x y : Nat} (hx : x < w) (hy : y < h) {post : Int32 → vTT → Prop} (h1 : (takeC w h wb m thr x y (lvs w h) 0 b k 0).1 = true → post (nI (takeC w h wb m thr x y (lvs w h) 0 b k 0).2.2.2) T) (h0 : (takeC w h wb m thr x y (lvs w h) 0 b k 0).1 = false → post (-2) T) : wp_X3_takeBits post nl (nds w h) S T (nI x) (nI y) (nI thr) 0 := by
  have hd := hS.1
  have h6 := lvs_le w h
  have hN := nds_le hd
  have key : ∀ (l a : Nat) (b1 : Nat → Nat) (k1 : Nat → Bool) (p : Nat) (ex : vTT → Int32 → Int32 → Int32 → Prop), l ≤ lvs w h → a ≤ 1001 → p ≤ m → (∀ j, j < l → b1 (pnode w h x y j) = b (pnode w h x y j) ∧ k1 (pnode w h x y j) = k (pnode w h x y j)) → ((takeC w h wb m thr x y l a b1 k1 p).1 = true → ∀ z, ex T (-1) z (nI (takeC w h wb m thr x y l a b1 k1 p).2.2.2)) → ((takeC w h wb m thr x y l a b1 k1 p).1 = false → post (-2) T) → wp_X3_takeBits_L17 post ex nl (nds w h) S (nI x) (nI y) (nI thr) 0 (l + 1) T (nI l - 1) (nI a) (nI p) := by
    intro l
    induction l with
    | zero =>
      intro a b1 k1 p ex _ _ _ _ he _
      unfold wp_X3_takeBits_L17
      exact ⟨fun _ => he rfl _, fun q => absurd (by decide) q⟩
    | succ l ih =>
      intro a b1 k1 p ex hl ha hp hag he hq
      unfold wp_X3_takeBits_L17
      rw [nI_pred]
      refine ⟨fun q => absurd q (nI_pos (by omega)), fun _ => ?_⟩
      refine sp_nodeP hS (by omega) hx hy ?_
      have hn := pnode_lt hx hy (show l < lvs w h by omega)
      obtain ⟨g1, g2⟩ := hag l (by omega)
      obtain ⟨d1, d2, d3⟩ := hD.1 _ hn
      refine ⟨vp_in_nI hn (by omega), ?_⟩
      rw [nI_clamp (by omega), d1, nI_max (by omega) (by omega)]
      intro x6 hx6
      subst hx6
      refine ⟨vp_in_nI hn (by omega), ?_⟩
      intro x9 hx9
      rw [d3] at hx9
      subst hx9
      unfold takeC at he hq
      rw [g1, g2] at he hq
      refine ⟨thr + 1, sp_dRun hB hthr thr _ _ p (Or.inl (by omega)) (by omega) hp (fun e => ?_) (fun e => ?_)⟩
      · simp only [if_pos e] at he hq
        refine ⟨fun _ x7 hx7 => ?_, fun q => absurd rfl q⟩
        have e6 : nI l + (-1) = nI l - 1 := by rw [Int32.sub_eq_add_neg]
        rw [e6] at hx7
        subst hx7
        obtain ⟨i1, i2, -⟩ := dRun_in (wb := wb) hthr thr (max a (b (pnode w h x y l))) (k (pnode w h x y l)) p (by omega) hp
        refine ih _ _ _ _ ex (by omega) i1 i2 (fun j hj => ?_) he hq
        rw [setN_n (pnode_ne hx hy hx hy (by omega)), setN_n (pnode_ne hx hy hx hy (by omega))]
        exact hag j (by omega)
      · simp only [e] at hq
        exact hq rfl
  intro x7 hx7
  rw [hS.2.1] at hx7
  subst hx7
  exact ⟨lvs w h + 1, key (lvs w h) 0 b k 0 _ (Nat.le_refl _) (by omega) (by omega) (fun _ _ => ⟨rfl, rfl⟩) (fun e z => h1 e) h0⟩
/-- what learning leaves alone -/
def sameD (T T' : vTT) : Prop := T'.1 = T.1 ∧ T'.2.1 = T.2.1 ∧ T'.2.2.2 = T.2.2.2
theorem sameD.tr {T T' T'' : vTT} (h : sameD T T') (h' : sameD T' T'') : sameD T T'' := ⟨h'.1.trans h.1, h'.2.1.trans h.2.1, h'.2.2.trans h.2.2⟩
theorem sp_wet {w h nl : Nat} {S : vSH} (hS : okS w h S) {T : vTT} {b : Nat → Nat} {k : Nat → Bool} (hD : SDok (nds w h) T.2.2.1 b k) {f m thr : Nat} {wb : Nat → Bool} (hB : BRok T.2.2.2.2.1 f m wb) (hthr : thr ≤ 1001) {x y : Nat} (hx : x < w) (hy : y < h) {post : Int32 → vTT → Prop} (hf : (takeC w h wb m thr x y (lvs w h) 0 b k 0).1 = true) (h1 : ∀ T' r, SDok (nds w h) T'.2.2.1 (takeC w h wb m thr x y (lvs w h) 0 b k 0).2.1 (takeC w h wb m thr x y (lvs w h) 0 b k 0).2.2.1 → sameD T T' → post r T') : wp_X3_takeBits post nl (nds w h) S T (nI x) (nI y) (nI thr) 1 := by
  have hd := hS.1
  have h6 := lvs_le w h
  have hN := nds_le hd
  have key : ∀ (l a : Nat) (b : Nat → Nat) (k : Nat → Bool) (p : Nat) (T : vTT) (ex : vTT → Int32 → Int32 → Int32 → Prop), l ≤ lvs w h → a ≤ 1001 → p ≤ m → SDok (nds w h) T.2.2.1 b k → BRok T.2.2.2.2.1 f m wb → (takeC w h wb m thr x y l a b k p).1 = true → (∀ T' z r, SDok (nds w h) T'.2.2.1 (takeC w h wb m thr x y l a b k p).2.1 (takeC w h wb m thr x y l a b k p).2.2.1 → sameD T T' → ex T' (-1) z r) → wp_X3_takeBits_L17 post ex nl (nds w h) S (nI x) (nI y) (nI thr) 1 (l + 1) T (nI l - 1) (nI a) (nI p) := by
    intro l
    induction l with
    | zero =>
      intro a b k p T ex _ _ _ hD _ _ he
      unfold wp_X3_takeBits_L17
      exact ⟨fun _ => he _ _ _ hD ⟨rfl, rfl, rfl⟩, fun q => absurd (by decide) q⟩
    | succ l ih =>
      intro a b k p T ex hl ha hp hD hB hf he
      unfold wp_X3_takeBits_L17
      rw [nI_pred]
      refine ⟨fun q => absurd q (nI_pos (by omega)), fun _ => ?_⟩
      refine sp_nodeP hS (by omega) hx hy ?_
      have hn := pnode_lt hx hy (show l < lvs w h by omega)
      obtain ⟨d1, d2, d3⟩ := hD.1 _ hn
      have hin := vp_in_nI hn (show nds w h < 2 ^ 31 by omega)
      refine ⟨hin, ?_⟩
      rw [nI_clamp (by omega), d1, nI_max (by omega) (by omega)]
      intro x6 hx6
      subst hx6
      refine ⟨hin, ?_⟩
      intro x9 hx9
      rw [d3] at hx9
      subst hx9
      unfold takeC at hf he
      obtain ⟨i1, i2, i3⟩ := dRun_in (wb := wb) hthr thr (max a (b (pnode w h x y l))) (k (pnode w h x y l)) p (by omega) hp
      have e6 : nI l + (-1) = nI l - 1 := by rw [Int32.sub_eq_add_neg]
      refine ⟨thr + 1, sp_dRun hB hthr thr _ _ p (Or.inl (by omega)) (by omega) hp (fun e => ?_) (fun e => ?_)⟩
      · simp only [if_pos e] at hf he
        generalize dRun wb m thr thr (max a (b (pnode w h x y l))) (k (pnode w h x y l)) p = r at hf he e i1 i2 i3 ⊢
        refine ⟨fun q => absurd q (by decide), fun _ => ⟨hin, fun c => ?_, fun c => ?_⟩⟩
        · rw [nI_b0] at c
          intro x7 hx7
          rw [e6] at hx7
          subst hx7
          have hk : k (pnode w h x y l) = r.2.2.1 := by
            rw [c]
            cases hk : k (pnode w h x y l) with
            | false => rfl
            | true => rw [i3 hk] at c; exact absurd c (by decide)
          rw [setN_id hk] at hf he
          exact ih r.2.1 _ k r.2.2.2 (T.1, T.2.1, (upd T.2.2.1.1 (pnode w h x y l) (nI r.2.1), T.2.2.1.2.1, T.2.2.1.2.2), T.2.2.2.1, T.2.2.2.2.1, T.2.2.2.2.2) ex (by omega) i1 i2 (hD.setB i1) hB hf (fun T' z r' q1 q2 => he T' z r' q1 (sameD.tr (T' := (T.1, T.2.1, (upd T.2.2.1.1 (pnode w h x y l) (nI r.2.1), T.2.2.1.2.1, T.2.2.1.2.2), T.2.2.2.1, T.2.2.2.2.1, T.2.2.2.2.2)) ⟨rfl, rfl, rfl⟩ q2))
        · rw [nI_b0] at c
          have c2 : r.2.2.1 = true := by cases hc : r.2.2.1 with | true => rfl | false => exact absurd hc c
          rw [c2] at hf he
          refine sp_find (hD.setB i1) (by omega) hn (fun D' hD' _ => ?_)
          intro x7 hx7
          rw [e6] at hx7
          subst hx7
          exact ih r.2.1 _ _ r.2.2.2 (T.1, T.2.1, D', T.2.2.2.1, T.2.2.2.2.1, T.2.2.2.2.2) ex (by omega) i1 i2 hD' hB hf (fun T' z r' q1 q2 => he T' z r' q1 (sameD.tr (T' := (T.1, T.2.1, D', T.2.2.2.1, T.2.2.2.2.1, T.2.2.2.2.2)) ⟨rfl, rfl, rfl⟩ q2))
      · rw [if_neg (by rw [e]; decide)] at hf
        exact absurd hf Bool.false_ne_true
  intro x7 hx7
  rw [hS.2.1] at hx7
  subst hx7
  exact ⟨lvs w h + 1, key (lvs w h) 0 b k 0 T _ (Nat.le_refl _) (by omega) (by omega) hD hB hf (fun T' z r q1 q2 => h1 T' r q1 q2)⟩
theorem takeC_p {w h : Nat} {wb : Nat → Bool} {m thr x y : Nat} (hthr : thr ≤ 1001) : ∀ (l a : Nat) (b : Nat → Nat) (k : Nat → Bool) (p : Nat), a ≤ 1001 → (∀ j, j < l → b (pnode w h x y j) ≤ 1001) → p ≤ m → (takeC w h wb m thr x y l a b k p).2.2.2 ≤ m := by
  intro l
  induction l with
  | zero => intro a b k p _ _ hp; exact hp
  | succ l ih =>
    intro a b k p ha hb hp
    unfold takeC
    split
    · have hbl := hb l (by omega)
      obtain ⟨i1, i2, i3⟩ := dRun_in (wb := wb) hthr thr (max a (b (pnode w h x y l))) (k (pnode w h x y l)) p (by omega) hp
      refine ih _ _ _ _ i1 (fun j hj => ?_) i2
      unfold setN
      split
      · exact i1
      · exact hb j (by omega)
    · exact hp
theorem sp_learnLeaf {w h nl : Nat} {S : vSH} (hS : okS w h S) {T : vTT} {b : Nat → Nat} {k : Nat → Bool} (hD : SDok (nds w h) T.2.2.1 b k) {f m thr : Nat} {wb : Nat → Bool} (hB : BRok T.2.2.2.2.1 f m wb) (hthr : thr ≤ 1001) {x y : Nat} (hx : x < w) (hy : y < h) {post : Int32 → vTT → Prop} (h0 : (takeC w h wb m thr x y (lvs w h) 0 b k 0).1 = false → post 0 T)
    (h1 : (takeC w h wb m thr x y (lvs w h) 0 b k 0).1 = true → ∀ D' B' f', SDok (nds w h) D' (takeC w h wb m thr x y (lvs w h) 0 b k 0).2.1 (takeC w h wb m thr x y (lvs w h) 0 b k 0).2.2.1 → BRok B' f' (m - (takeC w h wb m thr x y (lvs w h) 0 b k 0).2.2.2) (fun i => wb (i + (takeC w h wb m thr x y (lvs w h) 0 b k 0).2.2.2)) → post 1 (T.1, T.2.1, D', T.2.2.2.1, B', T.2.2.2.2.2)) : wp_X3_learnLeaf post nl (nds w h) S T (nI x) (nI y) (nI thr) := by
  have hm := hB.2.2.2.1
  have hpm := takeC_p (wb := wb) (m := m) (k := k) hthr (lvs w h) 0 b 0 (by omega) (fun j hj => (hD.1 _ (pnode_lt hx hy hj)).2.1) (by omega) (x := x) (y := y)
  refine sp_dry hS hD hB hthr hx hy (fun e => ⟨fun q => ?_, fun _ => ?_⟩) (fun e => ⟨fun _ => h0 e, fun q => absurd rfl q⟩)
  · exfalso
    have : nI (takeC w h wb m thr x y (lvs w h) 0 b k 0).2.2.2 < 0 := by rw [q]; decide
    exact nI_pos (by omega) this
  · refine sp_wet hS hD hB hthr hx hy e (fun T' r q1 q2 => ?_)
    obtain ⟨s1, s2, s3⟩ := q2
    have hB' : BRok T'.2.2.2.2.1 f m wb := by rw [s3]; exact hB
    refine sp_drop hB' hpm (fun B' hB2 => ?_)
    rw [s1, s2, s3]
    exact h1 e _ _ _ q1 hB2
