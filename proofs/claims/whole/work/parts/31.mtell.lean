-- the reference: its shape, telling a leaf
def okY (w h : Nat) (Y : vMS) : Prop := dim w h ∧ Y.1 = (nI w, nI h, nI (lvs w h), nI (nds w h)) ∧ ∀ l, l < lvs w h → Y.2.1 l = nI (fstN w h l) ∧ Y.2.2.1 l = nI (cdiv w l) ∧ Y.2.2.2 l = nI (cdiv h l)
def mkG (G : vMM) (bits : Nat → Int32) (W : vRW) (p : Int32) : vMM := (G.1, G.2.1, G.2.2.1, G.2.2.2.1, (bits, G.2.2.2.2.1.2.1, G.2.2.2.2.1.2.2), G.2.2.2.2.2.1, (W.1, W.2.1, W.2.2, p), G.2.2.2.2.2.2.2.1, G.2.2.2.2.2.2.2.2)
def repM (nn B : Nat) (bo kn : Nat → Int32) (b : Nat → Nat) (k : Nat → Bool) : Prop := ∀ n, n < nn → bo (B + n) = nI (b n) ∧ kn (B + n) = nI (k n).toNat ∧ b n ≤ 1001
theorem sp_mnode {w h : Nat} {Y : vMS} (hY : okY w h Y) {G : vMM} {l x y : Nat} (hl : l < lvs w h) {post : Int32 → Prop} (hp : post (nI (node w h l x y))) : wp_X4_node post Y G (nI l) (nI x) (nI y) := by
  have h6 := lvs_le w h
  obtain ⟨q1, q2, q3⟩ := hY.2.2 l hl
  refine ⟨vp_in_nI (by omega) (by omega), vp_in_nI (by omega) (by omega), ?_⟩
  rw [nI_clamp (by omega), q1, q2, pk_mul, nI_add, nI_add]
  exact hp
theorem sp_mnodeP {w h : Nat} {Y : vMS} (hY : okY w h Y) {G : vMM} {l x y : Nat} (hl : l < lvs w h) (hx : x < w) (hy : y < h) {post : Int32 → Prop} (hp : post (nI (pnode w h x y l))) : wp_X4_node post Y G (nI l) (nI x >>> (nI l &&& 31)) (nI y >>> (nI l &&& 31)) := by
  have h6 := lvs_le w h
  have hd := hY.1
  have hxw : x < 2 ^ 31 := by have := hd.2.1; omega
  have hyh : y < 2 ^ 31 := by have := hd.2.2.2; omega
  rw [shrL hxw (by omega), shrL hyh (by omega)]
  exact sp_mnode hY hl hp
def okW (w h x y l : Nat) (W : vRW) (b : Nat → Nat) (k : Nat → Bool) : Prop := ∀ j, l ≤ j → j < lvs w h → W.1 (lvs w h - 1 - j) = nI (pnode w h x y j) ∧ W.2.1 (lvs w h - 1 - j) = nI (b (pnode w h x y j)) ∧ W.2.2 (lvs w h - 1 - j) = nI (k (pnode w h x y j)).toNat
theorem okW.step {w h x y l : Nat} (hx : x < w) (hy : y < h) (hl : l < lvs w h) {W : vRW} {b : Nat → Nat} {k : Nat → Bool} (hW : okW w h x y (l + 1) W b k) (g : Nat) (q : Bool) : okW w h x y l (upd W.1 (lvs w h - 1 - l) (nI (pnode w h x y l)), upd W.2.1 (lvs w h - 1 - l) (nI g), upd W.2.2 (lvs w h - 1 - l) (vp_nar .boolean (nI q.toNat))) (setN b (pnode w h x y l) g) (setN k (pnode w h x y l) q) := by
  intro j h1 h2
  by_cases e : j = l
  · subst e
    rw [setN_s, setN_s]
    exact ⟨pk_us, pk_us, pk_us.trans (nar_b q)⟩
  · obtain ⟨g1, g2, g3⟩ := hW j (by omega) h2
    rw [setN_n (pnode_ne hx hy hx hy e), setN_n (pnode_ne hx hy hx hy e)]
    exact ⟨(pk_un (by omega)).trans g1, (pk_un (by omega)).trans g2, (pk_un (by omega)).trans g3⟩
/-- the bits that the reference's coder puts out, or none -/
def rbt (p5 : Bool) (b0 bits : Nat → Int32) (n : Nat) (tb : Nat → Bool) : Prop := if p5 = true then ∀ i, i < n → i < 40000 → bits i = nI (tb i).toNat else bits = b0
theorem rbt.put {b0 bits : Nat → Int32} {n : Nat} {tb : Nat → Bool} (h : rbt true b0 bits n tb) (v : Bool) {tb' : Nat → Bool} (h1 : ∀ i, i < n → tb' i = tb i) (h2 : tb' n = v) : rbt true b0 (upd bits n (vp_nar .boolean (nI v.toNat))) (n + 1) tb' := by
  unfold rbt at h ⊢
  rw [if_pos rfl] at h ⊢
  intro i hi h4
  by_cases e : i = n
  · subst e
    rw [h2]
    exact pk_us.trans (nar_b v)
  · rw [h1 i (by omega)]
    exact (pk_un e).trans (h i (by omega) h4)
theorem rbt.skip {b0 bits : Nat → Int32} {n : Nat} {tb tb' : Nat → Bool} (h : rbt true b0 bits n tb) (hn : 40000 ≤ n) (h1 : ∀ i, i < n → tb' i = tb i) : rbt true b0 bits (n + 1) tb' := by
  unfold rbt at h ⊢
  rw [if_pos rfl] at h ⊢
  intro i hi h4
  rw [h1 i (by omega)]
  exact h i (by omega) h4
theorem rbt.non {b0 bits : Nat → Int32} {n n' : Nat} {tb tb' : Nat → Bool} (h : rbt false b0 bits n tb) : rbt false b0 bits n' tb' := h
theorem rbt.congr {p5 : Bool} {b0 bits : Nat → Int32} {n : Nat} {tb tb' : Nat → Bool} (h : rbt p5 b0 bits n tb) (e : ∀ i, i < n → tb' i = tb i) : rbt p5 b0 bits n tb' := by
  unfold rbt at h ⊢
  split
  · rename_i c
    rw [if_pos c] at h
    intro i hi h4
    rw [e i hi]
    exact h i hi h4
  · rename_i c
    rw [if_neg c] at h
    exact h
theorem sp_mC {Y : vMS} {G : vMM} {n v t thr : Nat} (hn : n < 1366) (hv : G.2.1 n = nI v) (hv2 : v ≤ 1000) (ht : G.2.2.2.2.1.2.1 = nI t) (ht2 : t < 2 ^ 30) (hthr : thr ≤ 1001) {W : vRW} {p5 : Bool} {b0 : Nat → Int32} {tb : Nat → Bool} {p0 g0 : Nat} (hp0 : p0 ≤ 10000) {post : Int32 → vMM → Prop} {ex : vMM → Int32 → Int32 → Int32 → Prop} {x9 x8 x2 x3 : Int32} (hg0 : g0 ≤ v) (hgt : g0 < thr)
    (he : ∀ bits, rbt p5 b0 bits (t + (p0 + (min v thr - g0 + if v < thr then 1 else 0))) (fun i => if i < t + p0 then tb i else decide (v < thr ∧ i = t + p0 + (min v thr - g0))) → ex (mkG G bits W (nI (p0 + (min v thr - g0 + if v < thr then 1 else 0)))) (nI (decide (v < thr)).toNat) (nI (min v thr)) 1) :
    ∀ (r g : Nat) (bits : Nat → Int32), g0 ≤ g → g + r = min v thr → rbt p5 b0 bits (t + (p0 + (g - g0))) (fun i => if i < t + p0 then tb i else false) → wp_X4_tell_L106 post ex Y (nI n) x9 x8 (nI 0) x2 x3 (nI thr) (nI p5.toNat) (r + 2) (mkG G bits W (nI (p0 + (g - g0)))) 0 (nI g) 1 := by
  have hin := vp_in_nI (show n < 1400 by omega) (show 1400 < 2 ^ 31 by omega)
  have fin : ∀ (bits : Nat → Int32), v < thr → rbt p5 b0 bits (t + (p0 + (v - g0)) + 1) (fun i => if i < t + p0 then tb i else decide (v < thr ∧ i = t + p0 + (min v thr - g0))) → wp_X4_tell_L106 post ex Y (nI n) x9 x8 (nI 0) x2 x3 (nI thr) (nI p5.toNat) 1 (mkG G bits W (nI (p0 + (v - g0) + 1))) 1 (nI v) 1 := by
    intro bits c hb
    unfold wp_X4_tell_L106
    have e1 : p0 + (min v thr - g0 + if v < thr then 1 else 0) = p0 + (v - g0) + 1 := by rw [if_pos c]; omega
    have e2 : min v thr = v := by omega
    rw [e1, e2] at he
    have := he bits (by rw [e2] at hb; exact hb)
    rw [decide_eq_true c] at this
    exact ⟨fun _ => this, fun _ => ⟨fun q => absurd q (by decide), fun _ => this⟩⟩
  intro r
  induction r with
  | zero =>
    intro g bits hg hr hb
    unfold wp_X4_tell_L106
    rw [nI_leI (by omega) (by omega)]
    refine ⟨fun c => ?_, fun c => ⟨fun _ => ⟨fun q => absurd q (by decide), fun _ => ⟨fun _ => ⟨fun q => absurd q (by decide), fun _ => ⟨fun _ => ⟨hin, ?_⟩, fun q => absurd rfl q⟩⟩, fun q => absurd rfl q⟩⟩, fun q => absurd rfl q⟩⟩
    · have c2 : ¬ v < thr := by omega
      have e1 : p0 + (min v thr - g0 + if v < thr then 1 else 0) = p0 + (g - g0) := by rw [if_neg c2]; omega
      rw [e1, decide_eq_false c2] at he
      rw [show min v thr = g by omega] at he
      refine he bits (hb.congr (fun i hi => ?_))
      rw [decide_eq_false (fun q => c2 q.1)]
    · have c2 : v < thr := by omega
      have eg : g = v := by omega
      subst eg
      rw [nI_clamp (by omega)]
      show (G.2.1 n = nI g → _) ∧ (¬ G.2.1 n = nI g → _)
      refine ⟨fun _ => ?_, fun q => absurd hv q⟩
      have hok : ∀ i, i < t + (p0 + (g - g0)) → (if i < t + p0 then tb i else decide (g < thr ∧ i = t + p0 + (min g thr - g0))) = (if i < t + p0 then tb i else false) := by
        intro i hi
        by_cases q : i < t + p0
        · rw [if_pos q, if_pos q]
        · rw [if_neg q, if_neg q, decide_eq_false (by omega)]
      have hat : (if t + (p0 + (g - g0)) < t + p0 then tb (t + (p0 + (g - g0))) else decide (g < thr ∧ t + (p0 + (g - g0)) = t + p0 + (min g thr - g0))) = true := by
        rw [if_neg (by omega), decide_eq_true (by omega)]
      refine ⟨fun c3 => ⟨fun q => absurd q (by decide), fun _ x6 h6 f hf => ?_⟩, fun c3 => ?_⟩
      · have e5 : p5 = false := by cases p5 with | false => rfl | true => exact absurd c3 (by decide)
        subst e5
        rw [Int32.add_zero] at h6
        subst h6
        rw [show f = nI (p0 + (g - g0) + 1) by rw [hf]; exact nI_1 _]
        exact fin bits c2 hb.non
      · have e5 : p5 = true := by cases p5 with | true => rfl | false => exact absurd rfl c3
        subst e5
        show (40000 ≤ G.2.2.2.2.1.2.1 + nI (p0 + (g - g0)) → _) ∧ (¬ 40000 ≤ G.2.2.2.2.1.2.1 + nI (p0 + (g - g0)) → _)
        rw [ht, nI_add, show (40000 : Int32) = nI 40000 from rfl, nI_leI (by omega) (by omega)]
        refine ⟨fun c4 => ⟨fun q => absurd q (by decide), fun _ x6 h6 f hf => ?_⟩, fun c4 => ⟨?_, fun q => absurd q (by decide), fun _ x6 h6 f hf => ?_⟩⟩
        · rw [Int32.add_zero] at h6
          subst h6
          rw [show f = nI (p0 + (g - g0) + 1) by rw [hf]; exact nI_1 _]
          exact fin bits c2 (hb.skip c4 hok)
        · show vp_in (G.2.2.2.2.1.2.1 + nI (p0 + (g - g0))) 40000
          rw [ht, nI_add]
          exact vp_in_nI (by omega) (by omega)
        · rw [Int32.add_zero] at h6
          subst h6
          rw [show f = nI (p0 + (g - g0) + 1) by rw [hf]; exact nI_1 _]
          have hbp := hb.put true hok hat
          have e7 : (G.2.2.2.2.1.2.1 + nI (p0 + (g - g0))).toNatClampNeg = t + (p0 + (g - g0)) := by rw [ht, nI_add, nI_clamp (by omega)]
          rw [← e7] at hbp
          rw [e7] at hbp
          show wp_X4_tell_L106 post ex Y (nI n) x9 x8 (nI 0) x2 x3 (nI thr) (nI true.toNat) 1 (mkG G (upd bits ((G.2.2.2.2.1.2.1 + nI (p0 + (g - g0))).toNatClampNeg) (vp_nar .boolean 1)) W (nI (p0 + (g - g0) + 1))) 1 (nI g) 1
          rw [e7]
          exact fin _ c2 hbp
  | succ r ih =>
    intro g bits hg hr hb
    unfold wp_X4_tell_L106
    rw [nI_leI (by omega) (by omega)]
    refine ⟨fun c => absurd c (by omega), fun c => ⟨fun _ => ⟨fun q => absurd q (by decide), fun _ => ⟨fun _ => ⟨fun q => absurd q (by decide), fun _ => ⟨fun _ => ⟨hin, ?_⟩, fun q => absurd rfl q⟩⟩, fun q => absurd rfl q⟩⟩, fun q => absurd rfl q⟩⟩
    rw [nI_clamp (by omega)]
    show (G.2.1 n = nI g → _) ∧ (¬ G.2.1 n = nI g → _)
    rw [hv, nI_eq (by omega) (by omega)]
    refine ⟨fun q => absurd q (by omega), fun _ => ?_⟩
    have ei : p0 + (g + 1 - g0) = p0 + (g - g0) + 1 := by omega
    have et : t + (p0 + (g - g0) + 1) = t + (p0 + (g - g0)) + 1 := by omega
    have ih := fun bits => ih (g + 1) bits (by omega) (by omega)
    rw [ei, et] at ih
    refine ⟨fun c3 => ⟨fun _ x6 h6 f hf => ?_, fun q => absurd rfl q⟩, fun c3 => ?_⟩
    · have e5 : p5 = false := by cases p5 with | false => rfl | true => exact absurd c3 (by decide)
      subst e5
      rw [nI_1] at h6
      subst h6
      rw [show f = nI (p0 + (g - g0) + 1) by rw [hf]; exact nI_1 _]
      exact ih bits hb.non
    · have e5 : p5 = true := by cases p5 with | true => rfl | false => exact absurd rfl c3
      subst e5
      show (40000 ≤ G.2.2.2.2.1.2.1 + nI (p0 + (g - g0)) → _) ∧ (¬ 40000 ≤ G.2.2.2.2.1.2.1 + nI (p0 + (g - g0)) → _)
      rw [ht, nI_add, show (40000 : Int32) = nI 40000 from rfl, nI_leI (by omega) (by omega)]
      refine ⟨fun c4 => ⟨fun _ x6 h6 f hf => ?_, fun q => absurd rfl q⟩, fun c4 => ⟨?_, fun _ x6 h6 f hf => ?_, fun q => absurd rfl q⟩⟩
      · rw [nI_1] at h6
        subst h6
        rw [show f = nI (p0 + (g - g0) + 1) by rw [hf]; exact nI_1 _]
        exact ih bits (hb.skip c4 (fun _ _ => rfl))
      · show vp_in (G.2.2.2.2.1.2.1 + nI (p0 + (g - g0))) 40000
        rw [ht, nI_add]
        exact vp_in_nI (by omega) (by omega)
      · rw [nI_1] at h6
        subst h6
        rw [show f = nI (p0 + (g - g0) + 1) by rw [hf]; exact nI_1 _]
        have hbp := hb.put false (tb' := fun i => if i < t + p0 then tb i else false) (fun _ _ => rfl) (by show (if _ then _ else _) = _; rw [if_neg (by omega)])
        have e7 : (G.2.2.2.2.1.2.1 + nI (p0 + (g - g0))).toNatClampNeg = t + (p0 + (g - g0)) := by rw [ht, nI_add, nI_clamp (by omega)]
        show wp_X4_tell_L106 post ex Y (nI n) x9 x8 (nI 0) x2 x3 (nI thr) (nI true.toNat) (r + 2) (mkG G (upd bits ((G.2.2.2.2.1.2.1 + nI (p0 + (g - g0))).toNatClampNeg) (vp_nar .boolean 0)) W (nI (p0 + (g - g0) + 1))) 0 (nI (g + 1)) 1
        rw [e7]
        exact ih _ hbp
theorem sp_mC_1 {Y : vMS} {G : vMM} {n v t thr : Nat} (hn : n < 1366) (hv : G.2.1 n = nI v) (hv2 : v ≤ 1000) (ht : G.2.2.2.2.1.2.1 = nI t) (ht2 : t < 2 ^ 30) (hthr : thr ≤ 1001) {W : vRW} {p5 : Bool} {b0 : Nat → Int32} {tb : Nat → Bool} {p0 g0 : Nat} (hp0 : p0 ≤ 10000) {post : Int32 → vMM → Prop} {ex : vMM → Int32 → Int32 → Int32 → Prop} {x9 x8 x2 x3 : Int32} (hg0 : g0 ≤ v) (hgt : g0 < thr)
    (he : ∀ bits, rbt p5 b0 bits (t + (p0 + (min v thr - g0 + if v < thr then 1 else 0))) (fun i => if i < t + p0 then tb i else decide (v < thr ∧ i = t + p0 + (min v thr - g0))) → ex (mkG G bits W (nI (p0 + (min v thr - g0 + if v < thr then 1 else 0)))) (nI (decide (v < thr)).toNat) (nI (min v thr)) 1) :
    ∀ (r g : Nat) (bits : Nat → Int32), g0 ≤ g → g + r = min v thr → rbt p5 b0 bits (t + (p0 + (g - g0))) (fun i => if i < t + p0 then tb i else false) → wp_X4_tell_L106_1 post ex Y (nI n) x9 x8 (nI 0) x2 x3 (nI thr) (nI p5.toNat) (r + 2) (mkG G bits W (nI (p0 + (g - g0)))) 0 (nI g) 1 := by
  have hin := vp_in_nI (show n < 1400 by omega) (show 1400 < 2 ^ 31 by omega)
  have fin : ∀ (bits : Nat → Int32), v < thr → rbt p5 b0 bits (t + (p0 + (v - g0)) + 1) (fun i => if i < t + p0 then tb i else decide (v < thr ∧ i = t + p0 + (min v thr - g0))) → wp_X4_tell_L106_1 post ex Y (nI n) x9 x8 (nI 0) x2 x3 (nI thr) (nI p5.toNat) 1 (mkG G bits W (nI (p0 + (v - g0) + 1))) 1 (nI v) 1 := by
    intro bits c hb
    unfold wp_X4_tell_L106_1
    have e1 : p0 + (min v thr - g0 + if v < thr then 1 else 0) = p0 + (v - g0) + 1 := by rw [if_pos c]; omega
    have e2 : min v thr = v := by omega
    rw [e1, e2] at he
    have := he bits (by rw [e2] at hb; exact hb)
    rw [decide_eq_true c] at this
    exact ⟨fun _ => this, fun _ => ⟨fun q => absurd q (by decide), fun _ => this⟩⟩
  intro r
  induction r with
  | zero =>
    intro g bits hg hr hb
    unfold wp_X4_tell_L106_1
    rw [nI_leI (by omega) (by omega)]
    refine ⟨fun c => ?_, fun c => ⟨fun _ => ⟨fun q => absurd q (by decide), fun _ => ⟨fun _ => ⟨fun q => absurd q (by decide), fun _ => ⟨fun _ => ⟨hin, ?_⟩, fun q => absurd rfl q⟩⟩, fun q => absurd rfl q⟩⟩, fun q => absurd rfl q⟩⟩
    · have c2 : ¬ v < thr := by omega
      have e1 : p0 + (min v thr - g0 + if v < thr then 1 else 0) = p0 + (g - g0) := by rw [if_neg c2]; omega
      rw [e1, decide_eq_false c2] at he
      rw [show min v thr = g by omega] at he
      refine he bits (hb.congr (fun i hi => ?_))
      rw [decide_eq_false (fun q => c2 q.1)]
    · have c2 : v < thr := by omega
      have eg : g = v := by omega
      subst eg
      rw [nI_clamp (by omega)]
      show (G.2.1 n = nI g → _) ∧ (¬ G.2.1 n = nI g → _)
      refine ⟨fun _ => ?_, fun q => absurd hv q⟩
      have hok : ∀ i, i < t + (p0 + (g - g0)) → (if i < t + p0 then tb i else decide (g < thr ∧ i = t + p0 + (min g thr - g0))) = (if i < t + p0 then tb i else false) := by
        intro i hi
        by_cases q : i < t + p0
        · rw [if_pos q, if_pos q]
        · rw [if_neg q, if_neg q, decide_eq_false (by omega)]
      have hat : (if t + (p0 + (g - g0)) < t + p0 then tb (t + (p0 + (g - g0))) else decide (g < thr ∧ t + (p0 + (g - g0)) = t + p0 + (min g thr - g0))) = true := by
        rw [if_neg (by omega), decide_eq_true (by omega)]
      refine ⟨fun c3 => ⟨fun q => absurd q (by decide), fun _ x6 h6 f hf => ?_⟩, fun c3 => ?_⟩
      · have e5 : p5 = false := by cases p5 with | false => rfl | true => exact absurd c3 (by decide)
        subst e5
        rw [Int32.add_zero] at h6
        subst h6
        rw [show f = nI (p0 + (g - g0) + 1) by rw [hf]; exact nI_1 _]
        exact fin bits c2 hb.non
      · have e5 : p5 = true := by cases p5 with | true => rfl | false => exact absurd rfl c3
        subst e5
        show (40000 ≤ G.2.2.2.2.1.2.1 + nI (p0 + (g - g0)) → _) ∧ (¬ 40000 ≤ G.2.2.2.2.1.2.1 + nI (p0 + (g - g0)) → _)
        rw [ht, nI_add, show (40000 : Int32) = nI 40000 from rfl, nI_leI (by omega) (by omega)]
        refine ⟨fun c4 => ⟨fun q => absurd q (by decide), fun _ x6 h6 f hf => ?_⟩, fun c4 => ⟨?_, fun q => absurd q (by decide), fun _ x6 h6 f hf => ?_⟩⟩
        · rw [Int32.add_zero] at h6
          subst h6
          rw [show f = nI (p0 + (g - g0) + 1) by rw [hf]; exact nI_1 _]
          exact fin bits c2 (hb.skip c4 hok)
        · show vp_in (G.2.2.2.2.1.2.1 + nI (p0 + (g - g0))) 40000
          rw [ht, nI_add]
          exact vp_in_nI (by omega) (by omega)
        · rw [Int32.add_zero] at h6
          subst h6
          rw [show f = nI (p0 + (g - g0) + 1) by rw [hf]; exact nI_1 _]
          have hbp := hb.put true hok hat
          have e7 : (G.2.2.2.2.1.2.1 + nI (p0 + (g - g0))).toNatClampNeg = t + (p0 + (g - g0)) := by rw [ht, nI_add, nI_clamp (by omega)]
          rw [← e7] at hbp
          rw [e7] at hbp
          show wp_X4_tell_L106_1 post ex Y (nI n) x9 x8 (nI 0) x2 x3 (nI thr) (nI true.toNat) 1 (mkG G (upd bits ((G.2.2.2.2.1.2.1 + nI (p0 + (g - g0))).toNatClampNeg) (vp_nar .boolean 1)) W (nI (p0 + (g - g0) + 1))) 1 (nI g) 1
          rw [e7]
          exact fin _ c2 hbp
  | succ r ih =>
    intro g bits hg hr hb
    unfold wp_X4_tell_L106_1
    rw [nI_leI (by omega) (by omega)]
    refine ⟨fun c => absurd c (by omega), fun c => ⟨fun _ => ⟨fun q => absurd q (by decide), fun _ => ⟨fun _ => ⟨fun q => absurd q (by decide), fun _ => ⟨fun _ => ⟨hin, ?_⟩, fun q => absurd rfl q⟩⟩, fun q => absurd rfl q⟩⟩, fun q => absurd rfl q⟩⟩
    rw [nI_clamp (by omega)]
    show (G.2.1 n = nI g → _) ∧ (¬ G.2.1 n = nI g → _)
    rw [hv, nI_eq (by omega) (by omega)]
    refine ⟨fun q => absurd q (by omega), fun _ => ?_⟩
    have ei : p0 + (g + 1 - g0) = p0 + (g - g0) + 1 := by omega
    have et : t + (p0 + (g - g0) + 1) = t + (p0 + (g - g0)) + 1 := by omega
    have ih := fun bits => ih (g + 1) bits (by omega) (by omega)
    rw [ei, et] at ih
    refine ⟨fun c3 => ⟨fun _ x6 h6 f hf => ?_, fun q => absurd rfl q⟩, fun c3 => ?_⟩
    · have e5 : p5 = false := by cases p5 with | false => rfl | true => exact absurd c3 (by decide)
      subst e5
      rw [nI_1] at h6
      subst h6
      rw [show f = nI (p0 + (g - g0) + 1) by rw [hf]; exact nI_1 _]
      exact ih bits hb.non
    · have e5 : p5 = true := by cases p5 with | true => rfl | false => exact absurd rfl c3
      subst e5
      show (40000 ≤ G.2.2.2.2.1.2.1 + nI (p0 + (g - g0)) → _) ∧ (¬ 40000 ≤ G.2.2.2.2.1.2.1 + nI (p0 + (g - g0)) → _)
      rw [ht, nI_add, show (40000 : Int32) = nI 40000 from rfl, nI_leI (by omega) (by omega)]
      refine ⟨fun c4 => ⟨fun _ x6 h6 f hf => ?_, fun q => absurd rfl q⟩, fun c4 => ⟨?_, fun _ x6 h6 f hf => ?_, fun q => absurd rfl q⟩⟩
      · rw [nI_1] at h6
        subst h6
        rw [show f = nI (p0 + (g - g0) + 1) by rw [hf]; exact nI_1 _]
        exact ih bits (hb.skip c4 (fun _ _ => rfl))
      · show vp_in (G.2.2.2.2.1.2.1 + nI (p0 + (g - g0))) 40000
        rw [ht, nI_add]
        exact vp_in_nI (by omega) (by omega)
      · rw [nI_1] at h6
        subst h6
        rw [show f = nI (p0 + (g - g0) + 1) by rw [hf]; exact nI_1 _]
        have hbp := hb.put false (tb' := fun i => if i < t + p0 then tb i else false) (fun _ _ => rfl) (by show (if _ then _ else _) = _; rw [if_neg (by omega)])
        have e7 : (G.2.2.2.2.1.2.1 + nI (p0 + (g - g0))).toNatClampNeg = t + (p0 + (g - g0)) := by rw [ht, nI_add, nI_clamp (by omega)]
        show wp_X4_tell_L106_1 post ex Y (nI n) x9 x8 (nI 0) x2 x3 (nI thr) (nI true.toNat) (r + 2) (mkG G (upd bits ((G.2.2.2.2.1.2.1 + nI (p0 + (g - g0))).toNatClampNeg) (vp_nar .boolean 0)) W (nI (p0 + (g - g0) + 1))) 0 (nI (g + 1)) 1
        rw [e7]
        exact ih _ hbp
