-- the reference: leaves of an order
theorem wd_le (w l x : Nat) : wd w l x ≤ 2 ^ l := by
  unfold wd
  split
  · exact Nat.le_refl _
  · rename_i c
    rw [Nat.add_mul, Nat.one_mul] at c
    generalize x * 2 ^ l = q at c ⊢
    generalize 2 ^ l = p at c ⊢
    omega
theorem pow_le {l : Nat} (hl : l ≤ 5) : 2 ^ l ≤ 32 := Nat.le_trans (Nat.pow_le_pow_right (by omega) hl) (by decide)
def wdI (w l x : Nat) (z : Int32) : Prop := (1 ≤ wd w l x ∧ z = nI (wd w l x)) ∨ (wd w l x = 0 ∧ z < 1)
theorem wdI_end {a b : Nat} {w h l x y : Nat} (hl : l ≤ 5) {z u : Int32} (hz : wdI w l x z) (hu : wdI h l y u) {post : Int32 → Prop} (hp : post (nI (lvo w h l x y))) : (z < 1 → post 0) ∧ (¬ z < 1 → ((1 ≤ u → post (z * u)) ∧ (¬ 1 ≤ u → post 0))) := by
  have p1 := pow_le hl
  have p2 := wd_le w l x
  have p3 := wd_le h l y
  rw [lvo_wd] at hp
  rcases hz with ⟨z1, rfl⟩ | ⟨z1, z2⟩
  · rw [show (1 : Int32) = nI 1 from rfl, nI_ltI (by omega) (by omega)]
    refine ⟨fun q => absurd q (by omega), fun _ => ?_⟩
    rcases hu with ⟨u1, rfl⟩ | ⟨u1, u2⟩
    · rw [nI_leI (by omega) (by omega), pk_mul]
      exact ⟨fun _ => hp, fun q => absurd u1 q⟩
    · rw [u1, Nat.mul_zero] at hp
      exact ⟨fun q => absurd u2 (by intro v; exact absurd q (nlt32.mpr v)), fun _ => hp⟩
  · rw [z1, Nat.zero_mul] at hp
    exact ⟨fun _ => hp, fun q => absurd z2 q⟩
theorem shlN {n l : Nat} (hl : l ≤ 5) (hn : n ≤ 1000) : nI n <<< (nI l &&& 31) = nI (n * 2 ^ l) := by
  have p1 := pow_le hl
  have := Nat.mul_le_mul hn p1
  exact pk_shlN _ l (s_l l (by omega)) (by omega)
theorem wdI_1 {w l x : Nat} (hw : w ≤ 32) (hx : x ≤ 64) (hl : l ≤ 5) (hc : w ≤ (x + 1) * 2 ^ l) : wdI w l x (nI w - nI (x * 2 ^ l)) := by
  have p1 := pow_le hl
  have hm := Nat.mul_le_mul hx p1
  have e : wd w l x = w - x * 2 ^ l := by unfold wd; rw [if_neg (by omega)]
  unfold wdI
  rw [e]
  rcases Nat.lt_or_ge (x * 2 ^ l) w with q | q
  · exact Or.inl ⟨by omega, pk_sub (by omega)⟩
  · refine Or.inr ⟨by omega, ?_⟩
    rcases Nat.lt_or_ge w (x * 2 ^ l) with q2 | q2
    · exact Int32.lt_trans (pk_sneg (by omega) q2) (by decide)
    · rw [pk_sub (by omega), show w - x * 2 ^ l = 0 by omega]
      decide
theorem wdI_2 {w l x : Nat} (hc : ¬ w ≤ (x + 1) * 2 ^ l) : wdI w l x (nI (2 ^ l)) := by
  have e : wd w l x = 2 ^ l := by unfold wd; rw [if_pos (by omega)]
  unfold wdI
  rw [e]
  exact Or.inl ⟨Nat.two_pow_pos l, rfl⟩
theorem sp_leavesOf {w h : Nat} {Y : vMS} (hY : okY w h Y) {G : vMM} {l x y : Nat} (hl : l ≤ 5) (hx : x ≤ 64) (hy : y ≤ 64) {post : Int32 → Prop} (hp : post (nI (lvo w h l x y))) : wp_X4_leavesOf post Y G (nI l) (nI x) (nI y) := by
  obtain ⟨⟨d1, d2, d3, d4⟩, e1, -⟩ := hY
  have p1 := pow_le hl
  have m1 := Nat.mul_le_mul (show x + 1 ≤ 65 by omega) p1
  have m2 := Nat.mul_le_mul (show y + 1 ≤ 65 by omega) p1
  unfold wp_X4_leavesOf
  rw [e1]
  show ((nI w ≤ _ → _) ∧ (¬ nI w ≤ _ → _))
  rw [nI_1, nI_1, shlN hl (by omega), shlN hl (by omega), shlN hl (by omega), shlN hl (by omega), one_shl l (by omega)]
  rw [nI_leI (by omega) (by omega)]
  refine ⟨fun c x4 h4 => ?_, fun c x4 h4 => ?_⟩
  · subst h4
    show ((nI h ≤ _ → _) ∧ (¬ nI h ≤ _ → _))
    rw [nI_leI (by omega) (by omega)]
    refine ⟨fun d x5 h5 => ?_, fun d x5 h5 => ?_⟩
    · subst h5
      exact wdI_end (a := 0) (b := 0) hl (wdI_1 d2 hx hl c) (wdI_1 d4 hy hl d) hp
    · subst h5
      exact wdI_end (a := 0) (b := 0) hl (wdI_1 d2 hx hl c) (wdI_2 d) hp
  · subst h4
    show ((nI h ≤ _ → _) ∧ (¬ nI h ≤ _ → _))
    rw [nI_leI (by omega) (by omega)]
    refine ⟨fun d x5 h5 => ?_, fun d x5 h5 => ?_⟩
    · subst h5
      exact wdI_end (a := 0) (b := 0) hl (wdI_2 c) (wdI_1 d4 hy hl d) hp
    · subst h5
      exact wdI_end (a := 0) (b := 0) hl (wdI_2 c) (wdI_2 d) hp
theorem lvo_le {w h l : Nat} (hl : l ≤ 5) (x y : Nat) : lvo w h l x y ≤ 1024 := by
  have p1 := pow_le hl
  have p2 := wd_le w l x
  have p3 := wd_le h l y
  rw [lvo_wd]
  exact Nat.mul_le_mul (Nat.le_trans p2 p1) (Nat.le_trans p3 p1)
theorem lvo_pos {w h l x y : Nat} (hw : w ≤ 32) (hh : h ≤ 32) (hp : 0 < lvo w h l x y) : x < 32 ∧ y < 32 := by
  have hpos := Nat.two_pow_pos l
  have key : ∀ w x, w ≤ 32 → 0 < wd w l x → x < 32 := by
    intro w x hw h1
    have : x * 2 ^ l < w := by
      unfold wd at h1
      split at h1
      · rename_i c
        have : (x + 1) * 2 ^ l = x * 2 ^ l + 2 ^ l := by rw [Nat.add_mul, Nat.one_mul]
        omega
      · omega
    have h2 := Nat.mul_le_mul_left x hpos
    omega
  rw [lvo_wd] at hp
  exact ⟨key w x hw (Nat.pos_of_mul_pos_right hp), key h y hh (Nat.pos_of_mul_pos_left hp)⟩
theorem sp_mquart {w h : Nat} {Y : vMS} (hY : okY w h Y) {G : vMM} {post : Int32 → Prop} {x1 x2 : Int32} {ex : Int32 → Int32 → Int32 → Int32 → Prop} : ∀ (l x y k : Nat), l ≤ 5 → k < lvo w h l x y → (∀ z, ex (-1) z (nI (quart w h l x y k).2) (nI (quart w h l x y k).1)) → wp_X4_leafOf_L46 post ex Y G x1 x2 (l + 1) (nI l - 1) (nI k) (nI y) (nI x) := by
  obtain ⟨d1, d2, d3, d4⟩ := hY.1
  intro l
  induction l with
  | zero =>
    intro x y k _ _ he
    unfold wp_X4_leafOf_L46
    exact ⟨fun _ => he _, fun q => absurd (by decide) q⟩
  | succ l ih =>
    intro x y k hl hk he
    have hkl := lvo_le (w := w) (h := h) hl x y
    obtain ⟨hx, hy⟩ := lvo_pos d2 d4 (show 0 < lvo w h (l + 1) x y by omega)
    have hs := lvo_s w h l x y
    have m0 := lvo_le (w := w) (h := h) (show l ≤ 5 by omega) (2 * x) (2 * y)
    have m1 := lvo_le (w := w) (h := h) (show l ≤ 5 by omega) (2 * x + 1) (2 * y)
    have m2 := lvo_le (w := w) (h := h) (show l ≤ 5 by omega) (2 * x) (2 * y + 1)
    have m3 := lvo_le (w := w) (h := h) (show l ≤ 5 by omega) (2 * x + 1) (2 * y + 1)
    unfold wp_X4_leafOf_L46
    rw [nI_pred]
    refine ⟨fun q => absurd q (nI_pos (by omega)), fun _ => ?_⟩
    have e2 : ∀ n, (2 : Int32) * nI n = nI (2 * n) := fun n => pk_mul 2 n
    rw [e2, e2]
    refine sp_leavesOf hY (by omega) (by omega) (by omega) ?_
    unfold quart at he
    have fin : ∀ (c x' y' k' : Nat) (ci : Int32), ci - ci / 2 * 2 = nI (x' - 2 * x) → ci / 2 = nI (y' - 2 * y) → 2 * x ≤ x' → 2 * y ≤ y' → k' < lvo w h l x' y' → (∀ z, ex (-1) z (nI (quart w h l x' y' k').2) (nI (quart w h l x' y' k').1)) → (¬ (2 : Int32) = 0 ∧ (∀ x3_16 : Int32, x3_16 = nI (2 * x) + (ci - ci / 2 * 2) → (¬ (2 : Int32) = 0 ∧ (∀ x4_18 : Int32, x4_18 = nI (2 * y) + (ci / 2) → (∀ x6_19 : Int32, x6_19 = nI l + (-1) → (wp_X4_leafOf_L46 post ex Y G x1 x2 (l + 1) x6_19 (nI k') x4_18 x3_16)))))) := by
      intro c x' y' k' ci f1 f2 g1 g2 hk' he'
      rw [f1, f2, nI_add, nI_add, show 2 * x + (x' - 2 * x) = x' by omega, show 2 * y + (y' - 2 * y) = y' by omega]
      refine ⟨by decide, fun x3 h3 => ⟨by decide, fun x4 h4 x6 h6 => ?_⟩⟩
      rw [show nI l + (-1) = nI l - 1 by rw [Int32.sub_eq_add_neg]] at h6
      subst h3 h4 h6
      exact ih x' y' k' (by omega) hk' he'
    refine ⟨4, ?_⟩
    unfold wp_X4_leafOf_L69
    rw [nI_ltI (by omega) (by omega)]
    refine ⟨fun c => ?_, fun c x5 h5 x7 h7 => ⟨by decide, by decide, ?_⟩⟩
    · rw [if_pos c] at he
      exact fin 0 _ _ _ 0 (by rw [Nat.sub_self]; decide) (by rw [Nat.sub_self]; decide) (Nat.le_refl _) (Nat.le_refl _) c he
    rw [if_neg c] at he
    rw [pk_sub (by omega)] at h5
    subst h5 h7
    rw [e2, e2, show ((0 : Int32) + 1) - (0 + 1) / 2 * 2 = nI 1 by decide, show ((0 : Int32) + 1) / 2 = nI 0 by decide, nI_add, nI_add, Nat.add_zero (2 * y)]
    refine sp_leavesOf hY (by omega) (by omega) (by omega) ?_
    unfold wp_X4_leafOf_L69
    rw [nI_ltI (by omega) (by omega)]
    refine ⟨fun c2 => ?_, fun c2 x5 h5 x7 h7 => ⟨by decide, by decide, ?_⟩⟩
    · rw [if_pos c2] at he
      exact fin 0 _ _ _ (0 + 1) (by rw [Nat.add_sub_cancel_left]; decide) (by rw [Nat.sub_self]; decide) (by omega) (Nat.le_refl _) c2 he
    rw [if_neg c2] at he
    rw [pk_sub (by omega)] at h5
    subst h5 h7
    rw [e2, e2, show ((0 : Int32) + 1 + 1) - (0 + 1 + 1) / 2 * 2 = nI 0 by decide, show ((0 : Int32) + 1 + 1) / 2 = nI 1 by decide, nI_add, nI_add, Nat.add_zero (2 * x)]
    refine sp_leavesOf hY (by omega) (by omega) (by omega) ?_
    unfold wp_X4_leafOf_L69
    rw [nI_ltI (by omega) (by omega)]
    refine ⟨fun c3 => ?_, fun c3 x5 h5 x7 h7 => ⟨by decide, by decide, ?_⟩⟩
    · rw [if_pos c3] at he
      exact fin 0 _ _ _ (0 + 1 + 1) (by rw [Nat.sub_self]; decide) (by rw [Nat.add_sub_cancel_left]; decide) (Nat.le_refl _) (by omega) c3 he
    rw [if_neg c3] at he
    rw [pk_sub (by omega)] at h5
    subst h5 h7
    rw [e2, e2, show ((0 : Int32) + 1 + 1 + 1) - (0 + 1 + 1 + 1) / 2 * 2 = nI 1 by decide, show ((0 : Int32) + 1 + 1 + 1) / 2 = nI 1 by decide, nI_add, nI_add]
    refine sp_leavesOf hY (by omega) (by omega) (by omega) ?_
    unfold wp_X4_leafOf_L69
    rw [nI_ltI (by omega) (by omega)]
    refine ⟨fun c4 => ?_, fun c4 => absurd (by omega) c4⟩
    exact fin 0 _ _ _ (0 + 1 + 1 + 1) (by rw [Nat.add_sub_cancel_left]; decide) (by rw [Nat.add_sub_cancel_left]; decide) (by omega) (by omega) c4 he
theorem sp_leafOf {w h : Nat} {Y : vMS} (hY : okY w h Y) {G : vMM} {o k : Nat} (ho : o < 3) (hk : k < w * h) {post : Int32 → Prop} (hp : post (nI (ordY w h o k * w + ordX w h o k))) : wp_X4_leafOf post Y G (nI o) (nI k) := by
  obtain ⟨d1, d2, d3, d4⟩ := hY.1
  have hm := hY.1.mul
  have hpos := lvs_pos w h
  have h6 := lvs_le w h
  match o, ho with
  | 0, _ =>
    refine ⟨fun _ => ?_, fun q => absurd rfl q⟩
    have : ordY w h 0 k * w + ordX w h 0 k = k := by
      show k / w * w + k % w = k
      rw [Nat.mul_comm, Nat.div_add_mod]
    rw [this] at hp
    exact hp
  | 1, _ =>
    refine ⟨fun q => absurd q (by decide), fun _ => ⟨fun _ => ?_, fun q => absurd rfl q⟩⟩
    rw [hY.2.1]
    show ¬ nI h = 0 ∧ ¬ nI h = 0 ∧ post ((nI k - nI k / nI h * nI h) * nI w + nI k / nI h)
    rw [pk_rem (by omega) (by omega) (by omega), pk_div (by omega) (by omega) (by omega), pk_mul, nI_add]
    exact ⟨nI_ne0 (by omega) (by omega), nI_ne0 (by omega) (by omega), hp⟩
  | 2, _ =>
    refine ⟨fun q => absurd q (by decide), fun _ => ⟨fun q => absurd q (by decide), fun _ => ?_⟩⟩
    intro x6 hx6
    have e : (nI (lvs w h) : Int32) - 2 = nI (lvs w h - 1) - 1 := by
      rw [show (1 : Int32) = nI 1 from rfl, show lvs w h = lvs w h - 1 + 1 by omega, Nat.add_sub_cancel, ← nI_1, show (2 : Int32) = 1 + 1 from rfl, ← Int32.sub_sub, Int32.add_sub_cancel]
      rfl
    rw [hY.2.1] at hx6
    have hx6 : x6 = nI (lvs w h) - 2 := hx6
    rw [e] at hx6
    subst hx6
    refine ⟨lvs w h - 1 + 1, sp_mquart hY (lvs w h - 1) 0 0 k (by omega) (by rw [lvo_root hY.1]; exact hk) (fun z => ?_)⟩
    rw [hY.2.1]
    show post (_ * nI w + _)
    rw [pk_mul, nI_add]
    exact hp
