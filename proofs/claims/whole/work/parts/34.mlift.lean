-- the reference: values above the leaves
theorem sp_mlStep {w h : Nat} {Y : vMS} (hY : okY w h Y) {G : vMM} {V : Nat → Nat} (hV : okV (nds w h) G.2.1 V) {l x y v : Nat} (hl : l < lvs w h) (hx : x ≤ 64) (hy : y ≤ 64) (hv : v ≤ 1000) {K : Int32 → Prop} (hK : K (nI (min v (vOr w h V l x y)))) : vp_in (nI l) 8 ∧ ((((Y.2.2.1 (nI l).toNatClampNeg) ≤ nI x → (((nI v ≤ 1000 → K (nI v)) ∧ (¬ nI v ≤ 1000 → K 1000)))) ∧ (¬ (Y.2.2.1 (nI l).toNatClampNeg) ≤ nI x → (vp_in (nI l) 8 ∧ ((((Y.2.2.2 (nI l).toNatClampNeg) ≤ nI y → (((nI v ≤ 1000 → K (nI v)) ∧ (¬ nI v ≤ 1000 → K 1000)))) ∧ (¬ (Y.2.2.2 (nI l).toNatClampNeg) ≤ nI y → (wp_X4_node (fun r => vp_in r 1400 ∧ (∀ x9 : Int32, x9 = G.2.1 r.toNatClampNeg → (((nI v ≤ x9 → K (nI v)) ∧ (¬ nI v ≤ x9 → K x9))))) Y G (nI l) (nI x) (nI y))))))))) := by
  have h6 := lvs_le w h
  have hN := nds_le hY.1
  obtain ⟨c1, c2, c3, c4⟩ := cdiv_le hY.1 hl
  obtain ⟨q1, q2, q3⟩ := hY.2.2 l hl
  have hin := vp_in_nI (show l < 8 by omega) (show 8 < 2 ^ 31 by omega)
  rw [nI_clamp (by omega), q2, q3, nI_leI (by omega) (by omega), nI_leI (by omega) (by omega)]
  have hno : ¬ (x < cdiv w l ∧ y < cdiv h l) → ((nI v ≤ 1000 → K (nI v)) ∧ (¬ nI v ≤ 1000 → K 1000)) := by
    intro c
    unfold vOr at hK
    rw [if_neg c, Nat.min_eq_left hv] at hK
    refine ⟨fun _ => hK, fun q => absurd ?_ q⟩
    rw [show (1000 : Int32) = nI 1000 from rfl, nI_leI (by omega) (by omega)]
    exact hv
  refine ⟨hin, fun c => hno (by omega), fun c => ⟨hin, fun d => hno (by omega), fun d => ?_⟩⟩
  have hxy : x < cdiv w l ∧ y < cdiv h l := by omega
  refine sp_mnode hY hl ?_
  have hn := node_lt hl hxy.1 hxy.2
  obtain ⟨v1, v2⟩ := hV _ hn
  refine ⟨vp_in_nI (by omega) (by omega), fun x9 h9 => ?_⟩
  rw [nI_clamp (by omega), v1] at h9
  subst h9
  unfold vOr at hK
  rw [if_pos hxy] at hK
  rw [nI_leI (by omega) (by omega)]
  refine ⟨fun q => ?_, fun q => ?_⟩
  · rw [Nat.min_eq_left q] at hK; exact hK
  · rw [Nat.min_eq_right (by omega)] at hK; exact hK
theorem sp_mleast {w h : Nat} {Y : vMS} (hY : okY w h Y) {G : vMM} {V : Nat → Nat} (hV : okV (nds w h) G.2.1 V) {l x y : Nat} (hl : l < lvs w h) (hx : x ≤ 31) (hy : y ≤ 31) {post : vMM → Prop} {ex : Int32 → Int32 → Prop} {x2 : Int32} (hp : ∀ z, ex z (nI (least4 w h V l x y))) : ∃ f, wp_X4_lift_L56 post ex Y G (nI y) (nI x) x2 (nI (l + 1)) f 0 1000 := by
  refine ⟨5, ?_⟩
  unfold wp_X4_lift_L56
  refine ⟨fun q => absurd q (by decide), fun _ => ⟨by decide, fun x7 h7 => ⟨by decide, fun x8 h8 => ?_⟩⟩⟩
  rw [ch_x x _ 0 (by decide)] at h7
  rw [ch_x y _ 0 (by decide)] at h8
  subst h7 h8
  rw [nI_pred]
  refine sp_mlStep (v := 1000) (K := fun z => ∀ x6_9 : Int32, x6_9 = 0 + 1 → wp_X4_lift_L56 post ex Y G (nI y) (nI x) x2 (nI (l + 1)) 4 x6_9 z) hY hV hl (by omega) (by omega) (by omega) ?_
  intro x6 h6
  subst h6
  unfold wp_X4_lift_L56
  refine ⟨fun q => absurd q (by decide), fun _ => ⟨by decide, fun x7 h7 => ⟨by decide, fun x8 h8 => ?_⟩⟩⟩
  rw [ch_x x _ 1 (by decide)] at h7
  rw [ch_x y _ 0 (by decide)] at h8
  subst h7 h8
  rw [nI_pred]
  refine sp_mlStep (K := fun z => ∀ x6_9 : Int32, x6_9 = 0 + 1 + 1 → wp_X4_lift_L56 post ex Y G (nI y) (nI x) x2 (nI (l + 1)) 3 x6_9 z) hY hV hl (by omega) (by omega) (by omega) ?_
  intro x6 h6
  subst h6
  unfold wp_X4_lift_L56
  refine ⟨fun q => absurd q (by decide), fun _ => ⟨by decide, fun x7 h7 => ⟨by decide, fun x8 h8 => ?_⟩⟩⟩
  rw [ch_x x _ 0 (by decide)] at h7
  rw [ch_x y _ 1 (by decide)] at h8
  subst h7 h8
  rw [nI_pred]
  refine sp_mlStep (K := fun z => ∀ x6_9 : Int32, x6_9 = 0 + 1 + 1 + 1 → wp_X4_lift_L56 post ex Y G (nI y) (nI x) x2 (nI (l + 1)) 2 x6_9 z) hY hV hl (by omega) (by omega) (by omega) ?_
  intro x6 h6
  subst h6
  unfold wp_X4_lift_L56
  refine ⟨fun q => absurd q (by decide), fun _ => ⟨by decide, fun x7 h7 => ⟨by decide, fun x8 h8 => ?_⟩⟩⟩
  rw [ch_x x _ 1 (by decide)] at h7
  rw [ch_x y _ 1 (by decide)] at h8
  subst h7 h8
  rw [nI_pred]
  refine sp_mlStep (K := fun z => ∀ x6_9 : Int32, x6_9 = 0 + 1 + 1 + 1 + 1 → wp_X4_lift_L56 post ex Y G (nI y) (nI x) x2 (nI (l + 1)) 1 x6_9 z) hY hV hl (by omega) (by omega) (by omega) ?_
  intro x6 h6
  subst h6
  unfold wp_X4_lift_L56
  exact ⟨fun _ => hp _, fun q => absurd (by decide) q⟩
def setV (G : vMM) (f : Nat → Int32) : vMM := (G.1, f, G.2.2)
theorem sp_mlift {w h : Nat} {Y : vMS} (hY : okY w h Y) {G : vMM} {V : Nat → Nat} (hV : okV (nds w h) G.2.1 V) {post : vMM → Prop} (hp : ∀ f, okV (nds w h) f (liftA w h V (lvs w h - 1)) → post (setV G f)) : wp_X4_lift post Y G := by
  have hd := hY.1
  have h6 := lvs_le w h
  have h1 := lvs_pos w h
  have hN := nds_le hd
  have lev : ∀ (l : Nat), l + 1 < lvs w h → ∀ (ex : vMM → Int32 → Prop) (r k : Nat) (f : Nat → Int32), k + r = cdiv w (l + 1) * cdiv h (l + 1) → okV (nds w h) f (liftK w h (liftA w h V l) (l + 1) k) → (∀ f z, okV (nds w h) f (liftA w h V (l + 1)) → ex (setV G f) z) → wp_X4_lift_L12 post ex Y (nI (l + 1)) (r + 1) (setV G f) (nI k) := by
    intro l hl ex r
    obtain ⟨c1, c2, c3, c4⟩ := cdiv_le hd hl
    obtain ⟨q1, q2, q3⟩ := hY.2.2 (l + 1) hl
    have hmul := Nat.mul_le_mul c1 c2
    have hin8 := vp_in_nI (show l + 1 < 8 by omega) (show 8 < 2 ^ 31 by omega)
    induction r with
    | zero =>
      intro k f hk hf he
      unfold wp_X4_lift_L12
      rw [nI_clamp (by omega), q2, q3, pk_mul, nI_leI (by omega) (by omega)]
      refine ⟨hin8, hin8, fun _ => he _ _ ?_, fun c => absurd (by omega) c⟩
      have : k = cdiv w (l + 1) * cdiv h (l + 1) := by omega
      rw [this] at hf
      exact hf
    | succ r ih =>
      intro k f hk hf he
      unfold wp_X4_lift_L12
      rw [nI_clamp (by omega), q2, q3, pk_mul, nI_leI (by omega) (by omega), pk_rem (by omega) (by omega) (by omega), pk_div (by omega) (by omega) (by omega)]
      have hz : ¬ nI (cdiv w (l + 1)) = 0 := nI_ne0 (by omega) (by omega)
      have hkx : k % cdiv w (l + 1) < cdiv w (l + 1) := Nat.mod_lt _ (by omega)
      have hky : k / cdiv w (l + 1) < cdiv h (l + 1) := Nat.div_lt_of_lt_mul (by omega)
      refine ⟨hin8, hin8, fun c => absurd c (by omega), fun _ => ⟨hin8, hz, fun x3 h3 => ⟨hin8, hz, fun x4 h4 => ?_⟩⟩⟩
      subst h3 h4
      refine sp_mleast hY (G := setV G f) hf (show l < lvs w h by omega) (by omega) (by omega) (fun z => ?_)
      refine sp_mnode hY hl ?_
      have hn := node_lt hl hkx hky
      refine ⟨vp_in_nI (by omega) (by omega), fun x2 hx2 => ?_⟩
      rw [nI_1] at hx2
      subst hx2
      rw [nI_clamp (by omega)]
      have e : node w h (l + 1) (k % cdiv w (l + 1)) (k / cdiv w (l + 1)) = fstN w h (l + 1) + k := by
        unfold node
        have := Nat.div_add_mod k (cdiv w (l + 1))
        rw [Nat.mul_comm] at this
        omega
      have hf2 := hf.set (n := fstN w h (l + 1) + k) (least4_le w h (liftK w h (liftA w h V l) (l + 1) k) l (k % cdiv w (l + 1)) (k / cdiv w (l + 1)))
      rw [← liftK_s] at hf2
      rw [e]
      exact ih (k + 1) _ (by omega) hf2 he
  have all : ∀ (r l : Nat) (f : Nat → Int32), l + 1 + r = lvs w h → okV (nds w h) f (liftA w h V l) → wp_X4_lift_L2 post (fun (G_1 : vMM) (x1_2 : Int32) => post G_1) Y (r + 1) (setV G f) (nI (l + 1)) := by
    intro r
    induction r with
    | zero =>
      intro l f hl hf
      unfold wp_X4_lift_L2
      rw [hY.2.1]
      have e : l = lvs w h - 1 := by omega
      refine ⟨fun _ => hp _ ?_, fun c => absurd ?_ c⟩
      · rw [← e]; exact hf
      · exact (nI_leI (by omega) (by omega)).mpr (by omega)
    | succ r ih =>
      intro l f hl hf
      unfold wp_X4_lift_L2
      rw [hY.2.1]
      refine ⟨fun c => absurd ((nI_leI (by omega) (by omega)).mp c) (by omega), fun _ => ⟨cdiv w (l + 1) * cdiv h (l + 1) + 1, lev l (by omega) _ _ 0 f (by omega) ?_ (fun f2 z hf2 => ?_)⟩⟩
      · rw [liftK_0]; exact hf
      · intro x1 hx1
        rw [nI_1] at hx1
        subst hx1
        exact ih (l + 1) f2 (by omega) hf2
  exact ⟨lvs w h - 1 + 1, all (lvs w h - 1) 0 G.2.1 (by omega) hV⟩
