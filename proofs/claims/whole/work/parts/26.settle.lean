-- what telling a leaf changes, and what it costs
theorem pnode_ne {w h x y x' y' i j : Nat} (hx : x < w) (hy : y < h) (hx' : x' < w) (hy' : y' < h) (hij : i ≠ j) : pnode w h x y i ≠ pnode w h x' y' j :=
  fun e => hij (node_inj (cdiv_sh hx) (cdiv_sh hy) (cdiv_sh hx') (cdiv_sh hy') e).1
theorem tellC_off {w h : Nat} {V : Nat → Nat} {thr x y n : Nat} : ∀ (l a : Nat) (s : cSt), (∀ j, j < l → n ≠ pnode w h x y j) → (tellC w h V thr x y l a s).1 n = s.1 n ∧ (tellC w h V thr x y l a s).2.1 n = s.2.1 n := by
  intro l
  induction l with
  | zero => intro a s _; exact ⟨rfl, rfl⟩
  | succ l ih =>
    intro a s hn
    unfold tellC
    obtain ⟨e1, e2⟩ := ih (cAft (V (pnode w h x y l)) (s.1 (pnode w h x y l)) (s.2.1 (pnode w h x y l)) a thr) (tellOne (V (pnode w h x y l)) (pnode w h x y l) a thr s) (fun j hj => hn j (by omega))
    rw [e1, e2]
    exact ⟨setN_n (hn l (by omega)), setN_n (hn l (by omega))⟩
theorem tellC_up {w h : Nat} {V : Nat → Nat} {thr x y : Nat} (hx : x < w) (hy : y < h) {l j a : Nat} {s : cSt} (hj : l ≤ j) : (tellC w h V thr x y l a s).1 (pnode w h x y j) = s.1 (pnode w h x y j) ∧ (tellC w h V thr x y l a s).2.1 (pnode w h x y j) = s.2.1 (pnode w h x y j) :=
  tellC_off l a s (fun i hi => pnode_ne hx hy hx hy (by omega))
theorem costP_congr {w h : Nat} {V : Nat → Nat} {thr x y : Nat} {b b' : Nat → Nat} {k k' : Nat → Bool} : ∀ (l a : Nat), (∀ j, j < l → b (pnode w h x y j) = b' (pnode w h x y j) ∧ k (pnode w h x y j) = k' (pnode w h x y j)) → costP w h V thr x y b k l a = costP w h V thr x y b' k' l a := by
  intro l
  induction l with
  | zero => intro a _; rfl
  | succ l ih =>
    intro a hc
    unfold costP
    rw [(hc l (by omega)).1, (hc l (by omega)).2, ih _ (fun j hj => hc j (by omega))]
theorem tellOne_low {w h : Nat} {V : Nat → Nat} {thr x y l a : Nat} (hx : x < w) (hy : y < h) {s : cSt} {j : Nat} (hj : j < l) : (tellOne (V (pnode w h x y l)) (pnode w h x y l) a thr s).1 (pnode w h x y j) = s.1 (pnode w h x y j) ∧ (tellOne (V (pnode w h x y l)) (pnode w h x y l) a thr s).2.1 (pnode w h x y j) = s.2.1 (pnode w h x y j) :=
  ⟨setN_n (pnode_ne hx hy hx hy (by omega)), setN_n (pnode_ne hx hy hx hy (by omega))⟩
theorem tellC_t {w h : Nat} {V : Nat → Nat} {thr x y : Nat} (hx : x < w) (hy : y < h) : ∀ (l a : Nat) (s : cSt), (tellC w h V thr x y l a s).2.2.1 = s.2.2.1 + costP w h V thr x y s.1 s.2.1 l a := by
  intro l
  induction l with
  | zero => intro a s; rfl
  | succ l ih =>
    intro a s
    unfold tellC costP
    rw [ih, costP_congr (b' := s.1) (k' := s.2.1) l _ (fun j hj => tellOne_low hx hy hj)]
    show s.2.2.1 + _ + _ = _
    omega
theorem tellC_b {w h : Nat} {V : Nat → Nat} {thr x y : Nat} (ht : treeV w h V) (hx : x < w) (hy : y < h) : ∀ (l a : Nat) (s : cSt), l ≤ lvs w h → abv w h V x y l a → (∀ n, n < nds w h → s.1 n ≤ V n) → ∀ n, n < nds w h → (tellC w h V thr x y l a s).1 n ≤ V n := by
  intro l
  induction l with
  | zero => intro a s _ _ hb; exact hb
  | succ l ih =>
    intro a s hl hab hb
    unfold tellC
    have hn := pnode_lt hx hy (show l < lvs w h by omega)
    have hav := hab l rfl
    have hbv := hb _ hn
    have hm : max a (s.1 (pnode w h x y l)) ≤ V (pnode w h x y l) := by omega
    exact ih _ _ (by omega) (abv_s ht hx hy (by omega) (cAft_le hm)) (tellOne_b hb hm)
theorem bel_off {w h : Nat} {V : Nat → Nat} {thr x0 y0 : Nat} (hx0 : x0 < w) (hy0 : y0 < h) {b b' : Nat → Nat} {k k' : Nat → Bool} (hag : ∀ n, (∀ j, n ≠ pnode w h x0 y0 j) → b n = b' n ∧ k n = k' n) : ∀ (l x y a : Nat), (∀ j, l = j + 1 → ¬ (x = x0 / 2 ^ j ∧ y = y0 / 2 ^ j)) → bel w h V thr b k l x y a = bel w h V thr b' k' l x y a := by
  intro l
  induction l with
  | zero => intro x y a _; rfl
  | succ l ih =>
    intro x y a hne
    unfold bel
    split
    · rename_i c
      have hn : ∀ j, node w h l x y ≠ pnode w h x0 y0 j := by
        intro j e
        obtain ⟨e1, e2, e3⟩ := node_inj c.1 c.2 (cdiv_sh hx0) (cdiv_sh hy0) e
        subst e1
        exact hne l rfl ⟨e2, e3⟩
      obtain ⟨g1, g2⟩ := hag _ hn
      have hch : ∀ x' y', x' / 2 = x → y' / 2 = y → ∀ j, l = j + 1 → ¬ (x' = x0 / 2 ^ j ∧ y' = y0 / 2 ^ j) := by
        intro x' y' f1 f2 j e ⟨q1, q2⟩
        refine hne l rfl ⟨?_, ?_⟩
        · rw [← f1, q1, Nat.div_div_eq_div_mul, ← Nat.pow_succ, e]
        · rw [← f2, q2, Nat.div_div_eq_div_mul, ← Nat.pow_succ, e]
      rw [g1, g2, ih (2 * x) (2 * y) _ (hch _ _ (by omega) (by omega)), ih (2 * x + 1) (2 * y) _ (hch _ _ (by omega) (by omega)), ih (2 * x) (2 * y + 1) _ (hch _ _ (by omega) (by omega)), ih (2 * x + 1) (2 * y + 1) _ (hch _ _ (by omega) (by omega))]
    · rfl
theorem bel_low {w h : Nat} {V : Nat → Nat} {thr : Nat} {b b' : Nat → Nat} {k k' : Nat → Bool} : ∀ (l x y a : Nat), (∀ j x y, j < l → x < cdiv w j → y < cdiv h j → b (node w h j x y) = b' (node w h j x y) ∧ k (node w h j x y) = k' (node w h j x y)) → bel w h V thr b k l x y a = bel w h V thr b' k' l x y a := by
  intro l
  induction l with
  | zero => intro x y a _; rfl
  | succ l ih =>
    intro x y a hag
    unfold bel
    split
    · rename_i c
      obtain ⟨g1, g2⟩ := hag l x y (by omega) c.1 c.2
      have hl : ∀ j x y, j < l → x < cdiv w j → y < cdiv h j → b (node w h j x y) = b' (node w h j x y) ∧ k (node w h j x y) = k' (node w h j x y) := fun j x y hj => hag j x y (by omega)
      rw [g1, g2, ih (2 * x) (2 * y) _ hl, ih (2 * x + 1) (2 * y) _ hl, ih (2 * x) (2 * y + 1) _ hl, ih (2 * x + 1) (2 * y + 1) _ hl]
    · rfl
theorem cBits_again {v b a thr : Nat} {k : Bool} (hm : max a b ≤ v) : cBits v (cAft v b k a thr) (cKn v b k a thr) a thr = 0 ∧ cAft v (cAft v b k a thr) (cKn v b k a thr) a thr = cAft v b k a thr := by
  unfold cBits cAft cKn
  by_cases c : max a b < thr ∧ k = false
  · rw [if_pos c]
    obtain ⟨c1, rfl⟩ := c
    rw [decide_eq_true c1]
    by_cases d : v < thr
    · rw [decide_eq_true d]
      simp
      omega
    · rw [decide_eq_false d]
      simp
      omega
  · rw [if_neg c]
    have e : ¬ (max a (max a b) < thr ∧ (k || (decide (max a b < thr) && decide (v < thr))) = false) := by
      intro q
      refine c ⟨by omega, ?_⟩
      cases k with
      | false => rfl
      | true => exact absurd q.2 (by simp)
    rw [if_neg e, if_neg e]
    omega
/-- telling a leaf takes from the cost of the whole what it costs itself -/
theorem bel_tell {w h : Nat} {V : Nat → Nat} {thr x0 y0 : Nat} (ht : treeV w h V) (hx0 : x0 < w) (hy0 : y0 < h) : ∀ (l x y a : Nat) (s : cSt), l ≤ lvs w h → abv w h V x0 y0 l a → (∀ n, n < nds w h → s.1 n ≤ V n) → (∀ j, l = j + 1 → x = x0 / 2 ^ j ∧ y = y0 / 2 ^ j) → bel w h V thr s.1 s.2.1 l x y a = costP w h V thr x0 y0 s.1 s.2.1 l a + bel w h V thr (tellC w h V thr x0 y0 l a s).1 (tellC w h V thr x0 y0 l a s).2.1 l x y a := by
  intro l
  induction l with
  | zero => intro x y a s _ _ _ _; rfl
  | succ l ih =>
    intro x y a s hl hab hb hxy
    obtain ⟨ex, ey⟩ := hxy l rfl
    have hin : x < cdiv w l ∧ y < cdiv h l := by rw [ex, ey]; exact ⟨cdiv_sh hx0, cdiv_sh hy0⟩
    have hnode : node w h l x y = pnode w h x0 y0 l := by rw [ex, ey]; rfl
    have hn := pnode_lt hx0 hy0 (show l < lvs w h by omega)
    have hav := hab l rfl
    have hbv := hb _ hn
    have hm : max a (s.1 (pnode w h x0 y0 l)) ≤ V (pnode w h x0 y0 l) := by omega
    have hup := tellC_up (V := V) (thr := thr) (a := cAft (V (pnode w h x0 y0 l)) (s.1 (pnode w h x0 y0 l)) (s.2.1 (pnode w h x0 y0 l)) a thr) (s := tellOne (V (pnode w h x0 y0 l)) (pnode w h x0 y0 l) a thr s) hx0 hy0 (Nat.le_refl l)
    have e1 : (tellOne (V (pnode w h x0 y0 l)) (pnode w h x0 y0 l) a thr s).1 (pnode w h x0 y0 l) = cAft (V (pnode w h x0 y0 l)) (s.1 (pnode w h x0 y0 l)) (s.2.1 (pnode w h x0 y0 l)) a thr := setN_s
    have e2 : (tellOne (V (pnode w h x0 y0 l)) (pnode w h x0 y0 l) a thr s).2.1 (pnode w h x0 y0 l) = cKn (V (pnode w h x0 y0 l)) (s.1 (pnode w h x0 y0 l)) (s.2.1 (pnode w h x0 y0 l)) a thr := setN_s
    rw [e1, e2] at hup
    have hag := cBits_again (k := s.2.1 (pnode w h x0 y0 l)) (thr := thr) hm
    have hb1 := tellOne_b (thr := thr) hb hm
    have hab1 := abv_s ht hx0 hy0 (show l < lvs w h by omega) (cAft_le (thr := thr) (k := s.2.1 (pnode w h x0 y0 l)) hm)
    have hlow : ∀ j x y, j < l → x < cdiv w j → y < cdiv h j → s.1 (node w h j x y) = (tellOne (V (pnode w h x0 y0 l)) (pnode w h x0 y0 l) a thr s).1 (node w h j x y) ∧ s.2.1 (node w h j x y) = (tellOne (V (pnode w h x0 y0 l)) (pnode w h x0 y0 l) a thr s).2.1 (node w h j x y) := by
      intro j x y hj hx hy
      have hne : node w h j x y ≠ pnode w h x0 y0 l := fun e => by
        have := (node_inj hx hy (cdiv_sh hx0) (cdiv_sh hy0) e).1
        omega
      exact ⟨(setN_n hne).symm, (setN_n hne).symm⟩
    have hcost : costP w h V thr x0 y0 s.1 s.2.1 l (cAft (V (pnode w h x0 y0 l)) (s.1 (pnode w h x0 y0 l)) (s.2.1 (pnode w h x0 y0 l)) a thr) = costP w h V thr x0 y0 (tellOne (V (pnode w h x0 y0 l)) (pnode w h x0 y0 l) a thr s).1 (tellOne (V (pnode w h x0 y0 l)) (pnode w h x0 y0 l) a thr s).2.1 l (cAft (V (pnode w h x0 y0 l)) (s.1 (pnode w h x0 y0 l)) (s.2.1 (pnode w h x0 y0 l)) a thr) :=
      (costP_congr l _ (fun j hj => tellOne_low hx0 hy0 hj)).symm
    unfold bel costP tellC
    rw [if_pos hin, if_pos hin, hnode, hup.1, hup.2, hag.1, hag.2, hcost]
    have hoff : ∀ n, (∀ j, n ≠ pnode w h x0 y0 j) → s.1 n = (tellC w h V thr x0 y0 l (cAft (V (pnode w h x0 y0 l)) (s.1 (pnode w h x0 y0 l)) (s.2.1 (pnode w h x0 y0 l)) a thr) (tellOne (V (pnode w h x0 y0 l)) (pnode w h x0 y0 l) a thr s)).1 n ∧ s.2.1 n = (tellC w h V thr x0 y0 l (cAft (V (pnode w h x0 y0 l)) (s.1 (pnode w h x0 y0 l)) (s.2.1 (pnode w h x0 y0 l)) a thr) (tellOne (V (pnode w h x0 y0 l)) (pnode w h x0 y0 l) a thr s)).2.1 n := by
      intro n hn
      obtain ⟨q1, q2⟩ := tellC_off (w := w) (h := h) (V := V) (thr := thr) (x := x0) (y := y0) (n := n) l (cAft (V (pnode w h x0 y0 l)) (s.1 (pnode w h x0 y0 l)) (s.2.1 (pnode w h x0 y0 l)) a thr) (tellOne (V (pnode w h x0 y0 l)) (pnode w h x0 y0 l) a thr s) (fun j _ => hn j)
      rw [q1, q2]
      exact ⟨(setN_n (hn l)).symm, (setN_n (hn l)).symm⟩
    have hih := fun x' y' => ih x' y' (cAft (V (pnode w h x0 y0 l)) (s.1 (pnode w h x0 y0 l)) (s.2.1 (pnode w h x0 y0 l)) a thr) (tellOne (V (pnode w h x0 y0 l)) (pnode w h x0 y0 l) a thr s) (by omega) hab1 hb1
    generalize tellC w h V thr x0 y0 l (cAft (V (pnode w h x0 y0 l)) (s.1 (pnode w h x0 y0 l)) (s.2.1 (pnode w h x0 y0 l)) a thr) (tellOne (V (pnode w h x0 y0 l)) (pnode w h x0 y0 l) a thr s) = s' at hoff hih ⊢
    generalize tellOne (V (pnode w h x0 y0 l)) (pnode w h x0 y0 l) a thr s = s1 at hlow hih hcost ⊢
    generalize cAft (V (pnode w h x0 y0 l)) (s.1 (pnode w h x0 y0 l)) (s.2.1 (pnode w h x0 y0 l)) a thr = a' at hih hcost ⊢
    have hoth : ∀ x' y', (∀ j, l = j + 1 → ¬ (x' = x0 / 2 ^ j ∧ y' = y0 / 2 ^ j)) → bel w h V thr s.1 s.2.1 l x' y' a' = bel w h V thr s'.1 s'.2.1 l x' y' a' := fun x' y' hne => bel_off hx0 hy0 hoff l x' y' a' hne
    have hthis : ∀ x' y', (∀ j, l = j + 1 → x' = x0 / 2 ^ j ∧ y' = y0 / 2 ^ j) → bel w h V thr s.1 s.2.1 l x' y' a' = costP w h V thr x0 y0 s1.1 s1.2.1 l a' + bel w h V thr s'.1 s'.2.1 l x' y' a' := by
      intro x' y' e
      rw [bel_low l x' y' a' hlow]
      exact hih x' y' e
    cases l with
    | zero => simp [bel, costP]
    | succ j =>
      have hx2 : x = x0 / 2 ^ j / 2 := by rw [ex, Nat.div_div_eq_div_mul, ← Nat.pow_succ]
      have hy2 : y = y0 / 2 ^ j / 2 := by rw [ey, Nat.div_div_eq_div_mul, ← Nat.pow_succ]
      have hd1 : ∀ x' y', ¬ (x' = x0 / 2 ^ j ∧ y' = y0 / 2 ^ j) → bel w h V thr s.1 s.2.1 (j + 1) x' y' a' = bel w h V thr s'.1 s'.2.1 (j + 1) x' y' a' := fun x' y' hne => hoth x' y' (fun i e => by cases e; exact hne)
      have hd2 : ∀ x' y', (x' = x0 / 2 ^ j ∧ y' = y0 / 2 ^ j) → bel w h V thr s.1 s.2.1 (j + 1) x' y' a' = costP w h V thr x0 y0 s1.1 s1.2.1 (j + 1) a' + bel w h V thr s'.1 s'.2.1 (j + 1) x' y' a' := fun x' y' he => hthis x' y' (fun i e => by cases e; exact he)
      generalize x0 / 2 ^ j = p at hx2 hd1 hd2
      generalize y0 / 2 ^ j = q at hy2 hd1 hd2
      rcases Nat.mod_two_eq_zero_or_one p with p0 | p0 <;> rcases Nat.mod_two_eq_zero_or_one q with q0 | q0
      · rw [hd2 (2 * x) (2 * y) (by omega), hd1 (2 * x + 1) (2 * y) (by omega), hd1 (2 * x) (2 * y + 1) (by omega), hd1 (2 * x + 1) (2 * y + 1) (by omega)]
        omega
      · rw [hd1 (2 * x) (2 * y) (by omega), hd1 (2 * x + 1) (2 * y) (by omega), hd2 (2 * x) (2 * y + 1) (by omega), hd1 (2 * x + 1) (2 * y + 1) (by omega)]
        omega
      · rw [hd1 (2 * x) (2 * y) (by omega), hd2 (2 * x + 1) (2 * y) (by omega), hd1 (2 * x) (2 * y + 1) (by omega), hd1 (2 * x + 1) (2 * y + 1) (by omega)]
        omega
      · rw [hd1 (2 * x) (2 * y) (by omega), hd1 (2 * x + 1) (2 * y) (by omega), hd1 (2 * x) (2 * y + 1) (by omega), hd2 (2 * x + 1) (2 * y + 1) (by omega)]
        omega
/-- a leaf's way is told: each node on it, and bounds grow downward -/
def pst (w h thr : Nat) (s : cSt) (x y : Nat) : Prop := ∀ l, l < lvs w h → (thr ≤ s.1 (pnode w h x y l) ∨ s.2.1 (pnode w h x y l) = true) ∧ (l + 1 < lvs w h → s.1 (pnode w h x y (l + 1)) ≤ s.1 (pnode w h x y l))
theorem cAft_done {v b a thr : Nat} {k : Bool} (hm : max a b ≤ v) : thr ≤ cAft v b k a thr ∨ cKn v b k a thr = true := by
  unfold cAft cKn
  by_cases c : max a b < thr ∧ k = false
  · rw [if_pos c]
    obtain ⟨c1, rfl⟩ := c
    rw [decide_eq_true c1]
    by_cases d : v < thr
    · right; rw [decide_eq_true d]; rfl
    · left; omega
  · rw [if_neg c]
    cases k with
    | true => right; rfl
    | false => left; have : ¬ max a b < thr := fun q => c ⟨q, rfl⟩; omega
theorem pst_told' {w h : Nat} {V : Nat → Nat} {thr x y : Nat} (ht : treeV w h V) (hx : x < w) (hy : y < h) : ∀ (l a : Nat) (s : cSt), l ≤ lvs w h → abv w h V x y l a → (∀ n, n < nds w h → s.1 n ≤ V n) → ∀ j, j < l → (thr ≤ (tellC w h V thr x y l a s).1 (pnode w h x y j) ∨ (tellC w h V thr x y l a s).2.1 (pnode w h x y j) = true) ∧ (j + 1 < l → (tellC w h V thr x y l a s).1 (pnode w h x y (j + 1)) ≤ (tellC w h V thr x y l a s).1 (pnode w h x y j)) ∧ (l = j + 1 → a ≤ (tellC w h V thr x y l a s).1 (pnode w h x y j)) := by
  intro l
  induction l with
  | zero => intro a s _ _ _ j hj; exact absurd hj (Nat.not_lt_zero _)
  | succ l ih =>
    intro a s hl hab hb j hj
    have hn := pnode_lt hx hy (show l < lvs w h by omega)
    have hav := hab l rfl
    have hbv := hb _ hn
    have hm : max a (s.1 (pnode w h x y l)) ≤ V (pnode w h x y l) := by omega
    have hb1 := tellOne_b (thr := thr) hb hm
    have hab1 := abv_s ht hx hy (show l < lvs w h by omega) (cAft_le (thr := thr) (k := s.2.1 (pnode w h x y l)) hm)
    have hup := tellC_up (V := V) (thr := thr) (a := cAft (V (pnode w h x y l)) (s.1 (pnode w h x y l)) (s.2.1 (pnode w h x y l)) a thr) (s := tellOne (V (pnode w h x y l)) (pnode w h x y l) a thr s) hx hy (Nat.le_refl l)
    have e1 : (tellOne (V (pnode w h x y l)) (pnode w h x y l) a thr s).1 (pnode w h x y l) = cAft (V (pnode w h x y l)) (s.1 (pnode w h x y l)) (s.2.1 (pnode w h x y l)) a thr := setN_s
    have e2 : (tellOne (V (pnode w h x y l)) (pnode w h x y l) a thr s).2.1 (pnode w h x y l) = cKn (V (pnode w h x y l)) (s.1 (pnode w h x y l)) (s.2.1 (pnode w h x y l)) a thr := setN_s
    rw [e1, e2] at hup
    unfold tellC
    rcases Nat.lt_or_ge j l with q | q
    · obtain ⟨r1, r2, r3⟩ := ih _ _ (by omega) hab1 hb1 j q
      refine ⟨r1, fun e => ?_, fun e => absurd e (by omega)⟩
      rcases Nat.lt_or_ge (j + 1) l with q2 | q2
      · exact r2 q2
      · have e3 : l = j + 1 := by omega
        subst e3
        rw [hup.1]
        exact r3 rfl
    · have e3 : j = l := by omega
      subst e3
      rw [hup.1, hup.2]
      refine ⟨cAft_done hm, fun e => absurd e (by omega), fun _ => ?_⟩
      have := cAft_ge (thr := thr) (k := s.2.1 (pnode w h x y j)) hm
      omega
theorem pst_told {w h : Nat} {V : Nat → Nat} {thr x y : Nat} (ht : treeV w h V) (hx : x < w) (hy : y < h) {s : cSt} (hb : ∀ n, n < nds w h → s.1 n ≤ V n) : pst w h thr (tellC w h V thr x y (lvs w h) 0 s) x y := by
  intro l hl
  obtain ⟨r1, r2, -⟩ := pst_told' (thr := thr) ht hx hy (lvs w h) 0 s (Nat.le_refl _) (abv_0 w h V x y _) hb l hl
  exact ⟨r1, r2⟩
theorem pst_stay' {w h : Nat} {V : Nat → Nat} {thr x0 y0 x1 y1 : Nat} (hx0 : x0 < w) (hy0 : y0 < h) (hx1 : x1 < w) (hy1 : y1 < h) : ∀ (l a : Nat) (s : cSt), l ≤ lvs w h → pst w h thr s x1 y1 → (∀ j, l = j + 1 → pnode w h x0 y0 j = pnode w h x1 y1 j → a ≤ s.1 (pnode w h x1 y1 j)) → ∀ j, j < lvs w h → (tellC w h V thr x0 y0 l a s).1 (pnode w h x1 y1 j) = s.1 (pnode w h x1 y1 j) ∧ (tellC w h V thr x0 y0 l a s).2.1 (pnode w h x1 y1 j) = s.2.1 (pnode w h x1 y1 j) := by
  intro l
  induction l with
  | zero => intro a s _ _ _ j _; exact ⟨rfl, rfl⟩
  | succ l ih =>
    intro a s hl hp ha j hj
    unfold tellC
    by_cases c : pnode w h x0 y0 l = pnode w h x1 y1 l
    · have hal := ha l rfl c
      obtain ⟨p1, p2⟩ := hp l (by omega)
      rw [← c] at hal p1
      have hne : ¬ (max a (s.1 (pnode w h x0 y0 l)) < thr ∧ s.2.1 (pnode w h x0 y0 l) = false) := by
        intro q
        rcases p1 with p1 | p1
        · omega
        · rw [p1] at q; exact absurd q.2 (by decide)
      have e1 : cAft (V (pnode w h x0 y0 l)) (s.1 (pnode w h x0 y0 l)) (s.2.1 (pnode w h x0 y0 l)) a thr = s.1 (pnode w h x0 y0 l) := by
        unfold cAft; rw [if_neg hne]; omega
      have e2 : cKn (V (pnode w h x0 y0 l)) (s.1 (pnode w h x0 y0 l)) (s.2.1 (pnode w h x0 y0 l)) a thr = s.2.1 (pnode w h x0 y0 l) := by
        unfold cKn
        cases hk : s.2.1 (pnode w h x0 y0 l) with
        | true => rfl
        | false => rw [decide_eq_false (fun q => hne ⟨q, hk⟩)]; rfl
      have f1 : (tellOne (V (pnode w h x0 y0 l)) (pnode w h x0 y0 l) a thr s).1 = s.1 := by
        show setN s.1 _ (cAft _ _ _ _ _) = s.1
        rw [e1]; exact setN_id rfl
      have f2 : (tellOne (V (pnode w h x0 y0 l)) (pnode w h x0 y0 l) a thr s).2.1 = s.2.1 := by
        show setN s.2.1 _ (cKn _ _ _ _ _) = s.2.1
        rw [e2]; exact setN_id rfl
      rw [e1]
      have := ih (s.1 (pnode w h x0 y0 l)) (tellOne (V (pnode w h x0 y0 l)) (pnode w h x0 y0 l) a thr s) (by omega) (by unfold pst; rw [f1, f2]; exact hp) (fun i e g => by
        rw [f1]
        obtain ⟨-, p3⟩ := hp i (by omega)
        subst e
        rw [c]
        exact p3 (by omega)) j hj
      rw [f1, f2] at this
      exact this
    · have hne : ∀ i, pnode w h x1 y1 i ≠ pnode w h x0 y0 l := by
        intro i e
        by_cases e2 : i = l
        · subst e2; exact c e.symm
        · exact pnode_ne hx1 hy1 hx0 hy0 e2 e
      have f1 : ∀ i, (tellOne (V (pnode w h x0 y0 l)) (pnode w h x0 y0 l) a thr s).1 (pnode w h x1 y1 i) = s.1 (pnode w h x1 y1 i) := fun i => setN_n (hne i)
      have f2 : ∀ i, (tellOne (V (pnode w h x0 y0 l)) (pnode w h x0 y0 l) a thr s).2.1 (pnode w h x1 y1 i) = s.2.1 (pnode w h x1 y1 i) := fun i => setN_n (hne i)
      have := ih (cAft (V (pnode w h x0 y0 l)) (s.1 (pnode w h x0 y0 l)) (s.2.1 (pnode w h x0 y0 l)) a thr) (tellOne (V (pnode w h x0 y0 l)) (pnode w h x0 y0 l) a thr s) (by omega) (fun i hi => by rw [f1, f2, f1]; exact hp i hi) (fun i e g => by
        exfalso
        apply c
        obtain ⟨-, g2, g3⟩ := node_inj (cdiv_sh hx0) (cdiv_sh hy0) (cdiv_sh hx1) (cdiv_sh hy1) g
        subst e
        unfold pnode
        rw [Nat.pow_succ, ← Nat.div_div_eq_div_mul, ← Nat.div_div_eq_div_mul, g2, g3, Nat.div_div_eq_div_mul, Nat.div_div_eq_div_mul]) j hj
      rw [f1, f2] at this
      exact this
theorem pst_stay {w h : Nat} {V : Nat → Nat} {thr x0 y0 x1 y1 : Nat} (hx0 : x0 < w) (hy0 : y0 < h) (hx1 : x1 < w) (hy1 : y1 < h) {s : cSt} (hp : pst w h thr s x1 y1) : pst w h thr (tellC w h V thr x0 y0 (lvs w h) 0 s) x1 y1 := by
  have key := pst_stay' (V := V) hx0 hy0 hx1 hy1 (lvs w h) 0 s (Nat.le_refl _) hp (fun _ _ _ => Nat.zero_le _)
  intro l hl
  obtain ⟨p1, p2⟩ := hp l hl
  rw [(key l hl).1, (key l hl).2]
  refine ⟨p1, fun q => ?_⟩
  rw [(key (l + 1) q).1]
  exact p2 q
theorem cdiv_mul {w l x : Nat} (hx : x < cdiv w l) : x * 2 ^ l < w := by
  unfold cdiv at hx
  have h2 : 0 < 2 ^ l := Nat.two_pow_pos l
  rw [Nat.lt_div_iff_mul_lt h2] at hx
  omega
theorem bel_zero {w h : Nat} {V : Nat → Nat} {thr : Nat} {s : cSt} (hp : ∀ x y, x < w → y < h → pst w h thr s x y) : ∀ (l x y a : Nat), l ≤ lvs w h → (∀ j, l = j + 1 → x < cdiv w j → y < cdiv h j → a ≤ s.1 (node w h j x y)) → bel w h V thr s.1 s.2.1 l x y a = 0 := by
  intro l
  induction l with
  | zero => intro x y a _ _; rfl
  | succ l ih =>
    intro x y a hl ha
    unfold bel
    split
    · rename_i c
      have hal := ha l rfl c.1 c.2
      have e0 : node w h l x y = pnode w h (x * 2 ^ l) (y * 2 ^ l) l := by
        unfold pnode
        rw [Nat.mul_div_cancel _ (Nat.two_pow_pos l), Nat.mul_div_cancel _ (Nat.two_pow_pos l)]
      obtain ⟨p1, -⟩ := hp _ _ (cdiv_mul c.1) (cdiv_mul c.2) l (by omega)
      rw [← e0] at p1
      have hne : ¬ (max a (s.1 (node w h l x y)) < thr ∧ s.2.1 (node w h l x y) = false) := by
        intro q
        rcases p1 with p1 | p1
        · omega
        · rw [p1] at q; exact absurd q.2 (by decide)
      have e1 : cBits (V (node w h l x y)) (s.1 (node w h l x y)) (s.2.1 (node w h l x y)) a thr = 0 := by unfold cBits; rw [if_neg hne]
      have e2 : cAft (V (node w h l x y)) (s.1 (node w h l x y)) (s.2.1 (node w h l x y)) a thr = s.1 (node w h l x y) := by unfold cAft; rw [if_neg hne]; omega
      have hch : ∀ x' y', x' / 2 = x → y' / 2 = y → ∀ j, l = j + 1 → x' < cdiv w j → y' < cdiv h j → s.1 (node w h l x y) ≤ s.1 (node w h j x' y') := by
        intro x' y' f1 f2 j e q1 q2
        subst e
        have := (hp _ _ (cdiv_mul q1) (cdiv_mul q2) j (by omega)).2 (by omega)
        unfold pnode at this
        rw [Nat.mul_div_cancel _ (Nat.two_pow_pos j), Nat.mul_div_cancel _ (Nat.two_pow_pos j), Nat.pow_succ, ← Nat.div_div_eq_div_mul, ← Nat.div_div_eq_div_mul, Nat.mul_div_cancel _ (Nat.two_pow_pos j), Nat.mul_div_cancel _ (Nat.two_pow_pos j), f1, f2] at this
        exact this
      rw [e1, e2, ih (2 * x) (2 * y) _ (by omega) (hch _ _ (by omega) (by omega)), ih (2 * x + 1) (2 * y) _ (by omega) (hch _ _ (by omega) (by omega)), ih (2 * x) (2 * y + 1) _ (by omega) (hch _ _ (by omega) (by omega)), ih (2 * x + 1) (2 * y + 1) _ (by omega) (hch _ _ (by omega) (by omega))]
    · rfl
