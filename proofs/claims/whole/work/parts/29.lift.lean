-- the values above the leaves
def vOr (w h : Nat) (V : Nat → Nat) (l x y : Nat) : Nat := if x < cdiv w l ∧ y < cdiv h l then V (node w h l x y) else 1000
def least4 (w h : Nat) (V : Nat → Nat) (l x y : Nat) : Nat := min (min (min (min 1000 (vOr w h V l (2 * x) (2 * y))) (vOr w h V l (2 * x + 1) (2 * y))) (vOr w h V l (2 * x) (2 * y + 1))) (vOr w h V l (2 * x + 1) (2 * y + 1))
def liftK (w h : Nat) (V : Nat → Nat) (l k : Nat) : Nat → Nat := fun n => if fstN w h l ≤ n ∧ n < fstN w h l + k then least4 w h V (l - 1) ((n - fstN w h l) % cdiv w l) ((n - fstN w h l) / cdiv w l) else V n
def liftA (w h : Nat) (V : Nat → Nat) : Nat → Nat → Nat
  | 0 => V
  | j + 1 => liftK w h (liftA w h V j) (j + 1) (cdiv w (j + 1) * cdiv h (j + 1))
theorem least4_le (w h : Nat) (V : Nat → Nat) (l x y : Nat) : least4 w h V l x y ≤ 1000 := by unfold least4; omega
theorem least4_congr {w h : Nat} {V V' : Nat → Nat} {l : Nat} (hc : ∀ n, n < fstN w h (l + 1) → V n = V' n) (x y : Nat) : least4 w h V l x y = least4 w h V' l x y := by
  have hv : ∀ x y, vOr w h V l x y = vOr w h V' l x y := by
    intro x y
    unfold vOr
    split
    · rename_i c; exact hc _ (node_lt' c.1 c.2)
    · rfl
  unfold least4
  rw [hv, hv, hv, hv]
theorem liftK_0 (w h : Nat) (V : Nat → Nat) (l : Nat) : liftK w h V l 0 = V := by
  funext n
  unfold liftK
  rw [if_neg (by omega)]
theorem liftK_s {w h : Nat} {V : Nat → Nat} {l k : Nat} : liftK w h V (l + 1) (k + 1) = setN (liftK w h V (l + 1) k) (fstN w h (l + 1) + k) (least4 w h (liftK w h V (l + 1) k) l (k % cdiv w (l + 1)) (k / cdiv w (l + 1))) := by
  rw [least4_congr (V := liftK w h V (l + 1) k) (V' := V) (fun n hn => by unfold liftK; rw [if_neg (by omega)])]
  funext n
  by_cases e : n = fstN w h (l + 1) + k
  · subst e
    rw [setN_s]
    unfold liftK
    rw [if_pos (by omega), Nat.add_sub_cancel_left]
    rfl
  · rw [setN_n e]
    unfold liftK
    by_cases c : fstN w h (l + 1) ≤ n ∧ n < fstN w h (l + 1) + k
    · rw [if_pos c, if_pos (by omega)]
    · rw [if_neg c, if_neg (by omega)]
theorem liftK_le {w h : Nat} {V : Nat → Nat} {l k n : Nat} (hV : V n ≤ 1000) : liftK w h V l k n ≤ 1000 := by
  unfold liftK
  split
  · exact least4_le _ _ _ _ _ _
  · exact hV
theorem liftA_le {w h : Nat} {V : Nat → Nat} {n : Nat} (hV : V n ≤ 1000) : ∀ j, liftA w h V j n ≤ 1000 := by
  intro j
  induction j with
  | zero => exact hV
  | succ j ih => exact liftK_le ih
theorem liftA_low {w h : Nat} {V : Nat → Nat} {n : Nat} : ∀ {i j : Nat}, i ≤ j → n < fstN w h (i + 1) → liftA w h V j n = liftA w h V i n := by
  intro i j hij hn
  induction hij with
  | refl => rfl
  | @step j hj ih =>
    show liftK w h (liftA w h V j) (j + 1) _ n = _
    unfold liftK
    have := fstN_mono (w := w) (h := h) (show i + 1 ≤ j + 1 from Nat.succ_le_succ hj)
    rw [if_neg (by omega)]
    exact ih
theorem liftA_leaf {w h : Nat} {V : Nat → Nat} {n : Nat} (hn : n < w * h) (j : Nat) : liftA w h V j n = V n := by
  refine liftA_low (i := 0) (Nat.zero_le _) ?_
  show n < 0 + cdiv w 0 * cdiv h 0
  rw [cdiv_0, cdiv_0]; omega
theorem lift_tree (w h : Nat) (V : Nat → Nat) : treeV w h (liftA w h V (lvs w h - 1)) := by
  intro l x y hl hx hy
  have hcx : x / 2 < cdiv w (l + 1) := by
    have := cdiv_mul hx
    have h2 := cdiv_sh (l := l + 1) this
    rw [Nat.pow_succ, ← Nat.div_div_eq_div_mul, Nat.mul_div_cancel _ (Nat.two_pow_pos l)] at h2
    exact h2
  have hcy : y / 2 < cdiv h (l + 1) := by
    have := cdiv_mul hy
    have h2 := cdiv_sh (l := l + 1) this
    rw [Nat.pow_succ, ← Nat.div_div_eq_div_mul, Nat.mul_div_cancel _ (Nat.two_pow_pos l)] at h2
    exact h2
  rw [liftA_low (i := l + 1) (by omega) (node_lt' hcx hcy), liftA_low (i := l) (by omega) (node_lt' hx hy)]
  show liftK w h (liftA w h V l) (l + 1) _ _ ≤ _
  have hlt := node_lt' hcx hcy
  have hlt2 : fstN w h (l + 1 + 1) = fstN w h (l + 1) + cdiv w (l + 1) * cdiv h (l + 1) := rfl
  have hge : fstN w h (l + 1) ≤ node w h (l + 1) (x / 2) (y / 2) := by unfold node; omega
  unfold liftK
  rw [if_pos ⟨hge, by omega⟩]
  have e : node w h (l + 1) (x / 2) (y / 2) - fstN w h (l + 1) = cdiv w (l + 1) * (y / 2) + x / 2 := by unfold node; rw [Nat.mul_comm (cdiv w (l + 1))]; omega
  rw [e, Nat.mul_add_mod, Nat.mod_eq_of_lt hcx, Nat.mul_add_div (by omega), Nat.div_eq_of_lt hcx, Nat.add_zero]
  have hv : vOr w h (liftA w h V l) l x y = liftA w h V l (node w h l x y) := by unfold vOr; rw [if_pos ⟨hx, hy⟩]
  rw [← hv]
  show least4 w h (liftA w h V l) l (x / 2) (y / 2) ≤ _
  unfold least4
  rcases Nat.mod_two_eq_zero_or_one x with p0 | p0 <;> rcases Nat.mod_two_eq_zero_or_one y with q0 | q0
  · rw [show 2 * (x / 2) = x by omega, show 2 * (y / 2) = y by omega]; omega
  · rw [show 2 * (x / 2) = x by omega, show 2 * (y / 2) + 1 = y by omega]; omega
  · rw [show 2 * (x / 2) + 1 = x by omega, show 2 * (y / 2) = y by omega]; omega
  · rw [show 2 * (x / 2) + 1 = x by omega, show 2 * (y / 2) + 1 = y by omega]; omega
theorem okV.set {nn : Nat} {f : Nat → Int32} {V : Nat → Nat} (h : okV nn f V) {n v : Nat} (hv : v ≤ 1000) : okV nn (upd f n (nI v)) (setN V n v) := by
  intro i hi
  obtain ⟨h1, h2⟩ := h i hi
  by_cases e : i = n
  · subst e
    rw [setN_s]
    exact ⟨pk_us, hv⟩
  · rw [setN_n e]
    exact ⟨(pk_un e).trans h1, h2⟩
theorem sp_lcStep {w h nl : Nat} {S : vSH} (hS : okS w h S) {f : Nat → Int32} {V : Nat → Nat} (hV : okV (nds w h) f V) {l x y v : Nat} (hl : l < lvs w h) (hx : x ≤ 64) (hy : y ≤ 64) (hv : v ≤ 1000) {K : Int32 → Prop} (hK : K (nI (min v (vOr w h V l x y)))) : wp_X1_hasNode (fun r => ((r = 0 → K (nI v)) ∧ (¬ r = 0 → wp_X1_nodeAt (fun q => vp_in q (nds w h) ∧ (∀ x4 : Int32, x4 = (if f q.toNatClampNeg < nI v then f q.toNatClampNeg else nI v) → K x4)) nl S (nI l) (nI x) (nI y)))) nl S (nI l) (nI x) (nI y) := by
  have h6 := lvs_le w h
  have hN := nds_le hS.1
  obtain ⟨c1, c2, c3, c4⟩ := cdiv_le hS.1 hl
  refine sp_hasNode hS (fun c => ⟨fun _ => ?_, fun q => absurd rfl q⟩) (fun ⟨l', x', y', a1, a2, a3, b1, b2, b3⟩ => ⟨fun q => absurd q (by decide), fun _ => ?_⟩)
  · unfold vOr at hK
    rw [if_neg (fun q => c ⟨l, x, y, hl, q.1, q.2, rfl, rfl, rfl⟩), Nat.min_eq_left hv] at hK
    exact hK
  · rw [nI_eq (by omega) (by omega)] at b1
    subst b1
    rw [nI_eq (by omega) (by omega)] at b2 b3
    subst b2 b3
    refine sp_nodeAt hS hl ?_
    have hn := node_lt a1 a2 a3
    obtain ⟨v1, v2⟩ := hV _ hn
    refine ⟨vp_in_nI hn (by omega), fun x4 h4 => ?_⟩
    rw [nI_clamp (by omega), v1, nI_min (by omega) (by omega)] at h4
    subst h4
    unfold vOr at hK
    rw [if_pos ⟨a2, a3⟩] at hK
    exact hK
theorem sp_leastOfChildren {w h nl : Nat} {S : vSH} (hS : okS w h S) {T : vTT} {V : Nat → Nat} (hV : okV (nds w h) T.1 V) {l x y : Nat} (hl : l < lvs w h) (hx : x ≤ 31) (hy : y ≤ 31) {post : Int32 → Prop} (hp : post (nI (least4 w h V l x y))) : wp_X3_leastOfChildren post nl (nds w h) S T (nI (l + 1)) (nI x) (nI y) := by
  refine ⟨5, ?_⟩
  unfold wp_X3_leastOfChildren_L8
  refine ⟨fun q => absurd q (by decide), fun _ x6 h6 x7 h7 => ?_⟩
  rw [ch_x x _ 0 (by decide)] at h6
  rw [ch_x y _ 0 (by decide)] at h7
  subst h6 h7
  rw [nI_pred]
  refine sp_lcStep (v := 1000) (K := fun z => ∀ x5_9 : Int32, x5_9 = 0 + 1 → wp_X3_leastOfChildren_L8 post (fun (x5_1 : Int32) (x4_2 : Int32) => post x4_2) nl (nds w h) S T (nI (l + 1)) (nI x) (nI y) 4 x5_9 z) hS hV hl (by omega) (by omega) (by omega) ?_
  intro x5 h5
  subst h5
  unfold wp_X3_leastOfChildren_L8
  refine ⟨fun q => absurd q (by decide), fun _ x6 h6 x7 h7 => ?_⟩
  rw [ch_x x _ 1 (by decide)] at h6
  rw [ch_x y _ 0 (by decide)] at h7
  subst h6 h7
  rw [nI_pred]
  refine sp_lcStep (K := fun z => ∀ x5_9 : Int32, x5_9 = 0 + 1 + 1 → wp_X3_leastOfChildren_L8 post (fun (x5_1 : Int32) (x4_2 : Int32) => post x4_2) nl (nds w h) S T (nI (l + 1)) (nI x) (nI y) 3 x5_9 z) hS hV hl (by omega) (by omega) (by omega) ?_
  intro x5 h5
  subst h5
  unfold wp_X3_leastOfChildren_L8
  refine ⟨fun q => absurd q (by decide), fun _ x6 h6 x7 h7 => ?_⟩
  rw [ch_x x _ 0 (by decide)] at h6
  rw [ch_x y _ 1 (by decide)] at h7
  subst h6 h7
  rw [nI_pred]
  refine sp_lcStep (K := fun z => ∀ x5_9 : Int32, x5_9 = 0 + 1 + 1 + 1 → wp_X3_leastOfChildren_L8 post (fun (x5_1 : Int32) (x4_2 : Int32) => post x4_2) nl (nds w h) S T (nI (l + 1)) (nI x) (nI y) 2 x5_9 z) hS hV hl (by omega) (by omega) (by omega) ?_
  intro x5 h5
  subst h5
  unfold wp_X3_leastOfChildren_L8
  refine ⟨fun q => absurd q (by decide), fun _ x6 h6 x7 h7 => ?_⟩
  rw [ch_x x _ 1 (by decide)] at h6
  rw [ch_x y _ 1 (by decide)] at h7
  subst h6 h7
  rw [nI_pred]
  refine sp_lcStep (K := fun z => ∀ x5_9 : Int32, x5_9 = 0 + 1 + 1 + 1 + 1 → wp_X3_leastOfChildren_L8 post (fun (x5_1 : Int32) (x4_2 : Int32) => post x4_2) nl (nds w h) S T (nI (l + 1)) (nI x) (nI y) 1 x5_9 z) hS hV hl (by omega) (by omega) (by omega) ?_
  intro x5 h5
  subst h5
  unfold wp_X3_leastOfChildren_L8
  exact ⟨fun _ => hp, fun q => absurd (by decide) q⟩
theorem sp_renewLeasts {w h nl : Nat} {S : vSH} (hS : okS w h S) {T : vTT} {V : Nat → Nat} (hV : okV (nds w h) T.1 V) {post : vTT → Prop} (hp : ∀ f, okV (nds w h) f (liftA w h V (lvs w h - 1)) → post (f, T.2)) : wp_X3_renewLeasts post nl (nds w h) S T := by
  have hd := hS.1
  have h6 := lvs_le w h
  have h1 := lvs_pos w h
  have hN := nds_le hd
  have row : ∀ (l y : Nat), l + 1 < lvs w h → y < cdiv h (l + 1) → ∀ (ex : vTT → Int32 → Prop) (r x : Nat) (f : Nat → Int32), x + r = cdiv w (l + 1) → okV (nds w h) f (liftK w h (liftA w h V l) (l + 1) (cdiv w (l + 1) * y + x)) → (∀ f z, okV (nds w h) f (liftK w h (liftA w h V l) (l + 1) (cdiv w (l + 1) * (y + 1))) → ex (f, T.2) z) → wp_X3_renewLeasts_L30 post ex nl (nds w h) S (nI y) (nI (l + 1)) (r + 1) (f, T.2) (nI x) := by
    intro l y hl hy ex r
    obtain ⟨c1, c2, c3, c4⟩ := cdiv_le hd hl
    obtain ⟨q1, q2, q3⟩ := hS.2.2.1 (l + 1) hl
    induction r with
    | zero =>
      intro x f hx hf he
      unfold wp_X3_renewLeasts_L30
      refine ⟨vp_in_nI (by omega) (by omega), ?_⟩
      rw [nI_clamp (by omega), q1, nI_leI (by omega) (by omega)]
      refine ⟨fun _ => he _ _ ?_, fun c => absurd (by omega) c⟩
      rw [Nat.mul_add, Nat.mul_one]
      have : x = cdiv w (l + 1) := by omega
      rw [this] at hf
      exact hf
    | succ r ih =>
      intro x f hx hf he
      unfold wp_X3_renewLeasts_L30
      refine ⟨vp_in_nI (by omega) (by omega), ?_⟩
      rw [nI_clamp (by omega), q1, nI_leI (by omega) (by omega)]
      refine ⟨fun c => absurd c (by omega), fun _ => ?_⟩
      refine sp_nodeAt hS hl ?_
      have hn := node_lt hl (show x < cdiv w (l + 1) by omega) hy
      refine sp_leastOfChildren hS hf (show l < lvs w h by omega) (by omega) (by omega) ?_
      refine ⟨vp_in_nI hn (by omega), fun x3 hx3 => ?_⟩
      rw [nI_1] at hx3
      subst hx3
      rw [nI_clamp (by omega)]
      have e : node w h (l + 1) x y = fstN w h (l + 1) + (cdiv w (l + 1) * y + x) := by unfold node; rw [Nat.mul_comm y]; omega
      have hf2 := hf.set (n := node w h (l + 1) x y) (least4_le w h (liftK w h (liftA w h V l) (l + 1) (cdiv w (l + 1) * y + x)) l x y)
      refine ih (x + 1) _ (by omega) ?_ he
      rw [← Nat.add_assoc, liftK_s, Nat.mul_add_mod, Nat.mod_eq_of_lt (by omega), Nat.mul_add_div (by omega), Nat.div_eq_of_lt (by omega), Nat.add_zero, ← e]
      exact hf2
  have lev : ∀ (l : Nat), l + 1 < lvs w h → ∀ (ex : vTT → Int32 → Prop) (r y : Nat) (f : Nat → Int32), y + r = cdiv h (l + 1) → okV (nds w h) f (liftK w h (liftA w h V l) (l + 1) (cdiv w (l + 1) * y)) → (∀ f z, okV (nds w h) f (liftA w h V (l + 1)) → ex (f, T.2) z) → wp_X3_renewLeasts_L15 post ex nl (nds w h) S (nI (l + 1)) (r + 1) (f, T.2) (nI y) := by
    intro l hl ex r
    obtain ⟨c1, c2, c3, c4⟩ := cdiv_le hd hl
    obtain ⟨q1, q2, q3⟩ := hS.2.2.1 (l + 1) hl
    induction r with
    | zero =>
      intro y f hy hf he
      unfold wp_X3_renewLeasts_L15
      refine ⟨vp_in_nI (by omega) (by omega), ?_⟩
      rw [nI_clamp (by omega), q2, nI_leI (by omega) (by omega)]
      refine ⟨fun _ => he _ _ ?_, fun c => absurd (by omega) c⟩
      have : y = cdiv h (l + 1) := by omega
      rw [this] at hf
      exact hf
    | succ r ih =>
      intro y f hy hf he
      unfold wp_X3_renewLeasts_L15
      refine ⟨vp_in_nI (by omega) (by omega), ?_⟩
      rw [nI_clamp (by omega), q2, nI_leI (by omega) (by omega)]
      refine ⟨fun c => absurd c (by omega), fun _ => ⟨cdiv w (l + 1) + 1, row l y hl (by omega) _ (cdiv w (l + 1)) 0 f (by omega) hf (fun f2 z hf2 => ?_)⟩⟩
      intro x2 hx2
      rw [nI_1] at hx2
      subst hx2
      exact ih (y + 1) f2 (by omega) hf2 he
  have all : ∀ (r l : Nat) (f : Nat → Int32), l + 1 + r = lvs w h → okV (nds w h) f (liftA w h V l) → wp_X3_renewLeasts_L2 post (fun (T_1 : vTT) (x1_2 : Int32) => post T_1) nl (nds w h) S (r + 1) (f, T.2) (nI (l + 1)) := by
    intro r
    induction r with
    | zero =>
      intro l f hl hf
      unfold wp_X3_renewLeasts_L2
      rw [hS.2.1]
      have e : l = lvs w h - 1 := by omega
      refine ⟨fun _ => hp _ ?_, fun c => absurd ?_ c⟩
      · rw [← e]; exact hf
      · exact (nI_leI (by omega) (by omega)).mpr (by omega)
    | succ r ih =>
      intro l f hl hf
      unfold wp_X3_renewLeasts_L2
      rw [hS.2.1]
      refine ⟨fun c => absurd ((nI_leI (by omega) (by omega)).mp c) (by omega), fun _ => ⟨cdiv h (l + 1) + 1, lev l (by omega) _ (cdiv h (l + 1)) 0 f (by omega) ?_ (fun f2 z hf2 => ?_)⟩⟩
      · rw [Nat.mul_zero, liftK_0]; exact hf
      · intro x1 hx1
        rw [nI_1] at hx1
        subst hx1
        exact ih (l + 1) f2 (by omega) hf2
  exact ⟨lvs w h - 1 + 1, all (lvs w h - 1) 0 T.1 (by omega) hV⟩
