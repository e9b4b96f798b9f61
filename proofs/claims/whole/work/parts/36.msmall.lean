-- the reference: smaller ones
def inN (N : Nat) (x : Int32) : Prop := ∃ j, j < N ∧ x = nI j
theorem inN_no {N : Nat} (hN : N < 2 ^ 31) {x : Int32} (h : ¬ inN N x) : x < 0 ∨ nI N ≤ x := by
  rcases pk_ix x hN with q | q | q
  · exact Or.inl q
  · exact Or.inr q
  · exact absurd q h
theorem sp_in {N : Nat} (h0 : 1 ≤ N) (hN : N < 2 ^ 31) {x : Int32} {post : Int32 → Prop} (hn : ¬ inN N x → post 0) (hy : inN N x → post 1) : wp_X4_in post x 0 (nI N - 1) := by
  have e : nI N - 1 = nI (N - 1) := by rw [show (1 : Int32) = nI 1 from rfl, pk_sub h0]
  unfold wp_X4_in
  rw [e]
  refine ⟨fun c => hn (fun ⟨j, q1, q2⟩ => ?_), fun c => ⟨fun d => hn (fun ⟨j, q1, q2⟩ => ?_), fun d => ?_⟩⟩
  · subst q2; exact nI_pos (by omega) c
  · subst q2; rw [nI_ltI (by omega) (by omega)] at d; omega
  · obtain ⟨j, hj, rfl⟩ := nI_of c
    rw [nI_ltI (by omega) hj] at d
    exact hy ⟨j, by omega, rfl⟩
def leafI (w h : Nat) (x1 x2 : Int32) : Prop := ∃ x y, x < w ∧ y < h ∧ x1 = nI x ∧ x2 = nI y
theorem sp_isLeaf {w h : Nat} {Y : vMS} (hY : okY w h Y) {G : vMM} {x1 x2 : Int32} {post : Int32 → Prop} (hn : ¬ leafI w h x1 x2 → post 0) (hy : leafI w h x1 x2 → post 1) : wp_X4_isLeaf post Y G x1 x2 := by
  obtain ⟨⟨d1, d2, d3, d4⟩, e, -⟩ := hY
  unfold wp_X4_isLeaf
  rw [e]
  refine sp_in d1 (by omega) (fun c => ⟨fun _ => hn (fun ⟨x, y, q1, q2, q3, q4⟩ => c ⟨x, q1, q3⟩), fun q => absurd rfl q⟩) (fun ⟨x, q1, q3⟩ => ⟨fun q => absurd q (by decide), fun _ => ?_⟩)
  exact sp_in d3 (by omega) (fun c => ⟨fun _ => hn (fun ⟨x, y, q1, q2, q3, q4⟩ => c ⟨y, q2, q4⟩), fun q => absurd rfl q⟩) (fun ⟨y, q2, q4⟩ => ⟨fun q => absurd q (by decide), fun _ => hy ⟨x, y, q1, q2, q3, q4⟩⟩)
theorem sp_isNode {w h : Nat} {Y : vMS} (hY : okY w h Y) {G : vMM} {x1 x2 x3 : Int32} {post : Int32 → Prop} (hn : ¬ nodeIn w h x1 x2 x3 → post 0) (hy : nodeIn w h x1 x2 x3 → post 1) : wp_X4_isNode post Y G x1 x2 x3 := by
  have hd := hY.1
  have h6 := lvs_le w h
  obtain ⟨-, e, hL⟩ := hY
  unfold wp_X4_isNode
  rw [e]
  refine sp_in (lvs_pos w h) (by omega) (fun c => ⟨fun _ => hn (fun ⟨l, x, y, q1, q2, q3, q4, q5, q6⟩ => c ⟨l, q1, q4⟩), fun q => absurd rfl q⟩) (fun ⟨l, q1, q4⟩ => ⟨fun q => absurd q (by decide), fun _ => ?_⟩)
  subst q4
  obtain ⟨l1, l2, l3⟩ := hL l q1
  obtain ⟨c1, c2, c3, c4⟩ := cdiv_le hd q1
  have hin := vp_in_nI (show l < 8 by omega) (show 8 < 2 ^ 31 by omega)
  rw [nI_clamp (by omega), l2, l3]
  refine ⟨hin, sp_in c3 (by omega) (fun c => ⟨fun _ => hn (fun ⟨l', x, y, q1', q2, q3, q4, q5, q6⟩ => ?_), fun q => absurd rfl q⟩) (fun ⟨x, q2, q5⟩ => ⟨fun q => absurd q (by decide), fun _ => ⟨hin, ?_⟩⟩)⟩
  · rw [nI_eq (by omega) (by omega)] at q4
    subst q4
    exact c ⟨x, q2, q5⟩
  refine sp_in c4 (by omega) (fun c => ⟨fun _ => hn (fun ⟨l', x', y, q1', q2', q3, q4, q5', q6⟩ => ?_), fun q => absurd rfl q⟩) (fun ⟨y, q3, q6⟩ => ⟨fun q => absurd q (by decide), fun _ => hy ⟨l, x, y, q1, q2, q3, rfl, q5, q6⟩⟩)
  rw [nI_eq (by omega) (by omega)] at q4
  subst q4
  exact c ⟨y, q3, q6⟩
def setQ (G : vMM) (q : Nat → Int32) (f m : Int32) : vMM := (G.1, G.2.1, G.2.2.1, G.2.2.2.1, G.2.2.2.2.1, (q, f, m), G.2.2.2.2.2.2.1, G.2.2.2.2.2.2.2.1, G.2.2.2.2.2.2.2.2)
theorem sp_madd {Y : vMS} {G : vMM} {f m : Nat} {wb : Nat → Bool} (hB : okQ G f m wb) (hm : m < 40000) (v : Bool) {post : vMM → Prop} (hp : ∀ q, okQ (setQ G q (nI f) (nI (m + 1))) f (m + 1) (fun i => if i = m then v else wb i) → post (setQ G q (nI f) (nI (m + 1)))) : wp_X4_add post Y G (nI v.toNat) := by
  obtain ⟨h1, h2, h3, h4, h5⟩ := hB
  unfold wp_X4_add
  rw [h1, h2, nI_add, show (40000 : Int32) = nI 40000 from rfl, pk_rem (by omega) (by omega) (by omega), pl_mod h3 (by omega)]
  have hl := pl_lt h3 (show m ≤ 40000 by omega)
  refine ⟨by decide, vp_in_nI hl (by omega), fun f3 hf3 => ?_⟩
  rw [nI_1] at hf3
  subst hf3
  rw [nI_clamp (by omega), nar_b]
  refine hp (upd G.2.2.2.2.2.1.1 (pl f m) (nI v.toNat)) ⟨rfl, rfl, h3, by omega, fun i hi => ?_⟩
  show upd G.2.2.2.2.2.1.1 (pl f m) (nI v.toNat) (pl f i) = nI (if i = m then v else wb i).toNat
  by_cases e : i = m
  · subst e
    rw [if_pos rfl]; exact pk_us
  · rw [if_neg e]
    exact (pk_un (fun q => e (pl_inj h3 (by omega) (by omega) q))).trans (h5 i (by omega))
theorem sp_knownIn {w h : Nat} {Y : vMS} (hY : okY w h Y) {G : vMM} {B : Nat} (hBB : B ≤ 1400) {b : Nat → Nat} {k : Nat → Bool} (hr : repM (nds w h) B G.2.2.1 G.2.2.2.1 b k) {post : Int32 → Prop} (hp : post (nI (cnt k (nds w h)))) : wp_X4_knownIn post Y G (nI B) := by
  have hN := nds_le hY.1
  have key : ∀ (r i : Nat), i + r = nds w h → wp_X4_knownIn_L4 post (fun (x3_1 : Int32) (x2_2 : Int32) => post x2_2) Y G (nI B) (r + 1) (nI i) (nI (cnt k i)) := by
    intro r
    induction r with
    | zero =>
      intro i hi
      unfold wp_X4_knownIn_L4
      rw [hY.2.1]
      have : i = nds w h := by omega
      subst this
      exact ⟨fun _ => hp, fun c => absurd ((nI_leI (by omega) (by omega)).mpr (Nat.le_refl _)) c⟩
    | succ r ih =>
      intro i hi
      unfold wp_X4_knownIn_L4
      rw [hY.2.1, nI_add, nI_clamp (by omega), (hr i (by omega)).2.1, nI_b0]
      refine ⟨fun c => absurd ((nI_leI (by omega) (by omega)).mp c) (by omega), fun _ => ⟨vp_in_nI (by omega) (by omega), fun c x2 h2 x3 h3 => ?_, fun c x2 h2 x3 h3 => ?_⟩⟩
      · rw [Int32.add_zero] at h2
        rw [nI_1] at h3
        subst h2 h3
        have := ih (i + 1) (by omega)
        unfold cnt at this
        rw [c] at this
        exact this
      · rw [nI_1] at h2 h3
        subst h2 h3
        have c2 : k i = true := by cases e : k i with | true => rfl | false => exact absurd e c
        have := ih (i + 1) (by omega)
        unfold cnt at this
        rw [c2] at this
        exact this
  exact ⟨nds w h + 1, key (nds w h) 0 (by omega)⟩
theorem sp_mreset {Y : vMS} {G : vMM} {post : vMM → Prop} (hp : ∀ bo kn, (∀ i, i < 2800 → bo i = 0 ∧ kn i = 0) → post (0, G.2.1, bo, kn, (G.2.2.2.2.1.1, 0, 0), (G.2.2.2.2.2.1.1, 0, 0), G.2.2.2.2.2.2.1, G.2.2.2.2.2.2.2.1, G.2.2.2.2.2.2.2.2)) : wp_X4_reset post Y G := by
  intro G1 hG1
  have key : ∀ (r i : Nat) (bo kn : Nat → Int32), i + r = 2800 → (∀ j, j < i → bo j = 0 ∧ kn j = 0) → wp_X4_reset_L7 post (fun (G_2 : vMM) (x1_3 : Int32) => post (G_2.1, G_2.2.1, G_2.2.2.1, G_2.2.2.2.1, (G_2.2.2.2.2.1.1, 0, 0), (G_2.2.2.2.2.2.1.1, 0, 0), G_2.2.2.2.2.2.2.1, G_2.2.2.2.2.2.2.2.1, G_2.2.2.2.2.2.2.2.2)) Y (r + 1) (0, G.2.1, bo, kn, G.2.2.2.2.1, G.2.2.2.2.2.1, G.2.2.2.2.2.2.1, G.2.2.2.2.2.2.2.1, G.2.2.2.2.2.2.2.2) (nI i) := by
    intro r
    induction r with
    | zero =>
      intro i bo kn hi hz
      unfold wp_X4_reset_L7
      rw [show (2800 : Int32) = nI 2800 from rfl, nI_leI (by omega) (by omega)]
      exact ⟨fun _ => hp bo kn (fun j hj => hz j (by omega)), fun c => absurd (by omega) c⟩
    | succ r ih =>
      intro i bo kn hi hz
      unfold wp_X4_reset_L7
      have hin := vp_in_nI (show i < 2800 by omega) (show 2800 < 2 ^ 31 by omega)
      rw [show (2800 : Int32) = nI 2800 from rfl, nI_leI (by omega) (by omega)]
      refine ⟨fun c => absurd c (by omega), fun _ => ⟨hin, hin, fun x1 h1 => ?_⟩⟩
      rw [nI_1] at h1
      subst h1
      rw [nI_clamp (by omega)]
      refine ih (i + 1) (upd bo i 0) (upd kn i (vp_nar .boolean 0)) (by omega) (fun j hj => ?_)
      by_cases e : j = i
      · subst e
        exact ⟨pk_us, pk_us.trans (by decide)⟩
      · obtain ⟨q1, q2⟩ := hz j (by omega)
        exact ⟨(pk_un e).trans q1, (pk_un e).trans q2⟩
  subst hG1
  exact ⟨2801, key 2800 0 G.2.2.1 G.2.2.2.1 (by omega) (fun j hj => absurd hj (Nat.not_lt_zero j))⟩
def okM (w h : Nat) (F : (Nat → Int32) × (Nat → Int32) × (Nat → Int32)) (n : Nat) : Prop := ∀ l, l < n → F.1 l = nI (fstN w h l) ∧ F.2.1 l = nI (cdiv w l) ∧ F.2.2 l = nI (cdiv h l)
theorem okM.step {w h n : Nat} {F : (Nat → Int32) × (Nat → Int32) × (Nat → Int32)} (hF : okM w h F n) : okM w h (upd F.1 n (nI (fstN w h n)), upd F.2.1 n (nI (cdiv w n)), upd F.2.2 n (nI (cdiv h n))) (n + 1) := by
  intro l hl
  by_cases e : l = n
  · subst e; exact ⟨pk_us, pk_us, pk_us⟩
  · obtain ⟨h1, h2, h3⟩ := hF l (by omega)
    exact ⟨(pk_un e).trans h1, (pk_un e).trans h2, (pk_un e).trans h3⟩
def zF : Nat → Int32 := fun _ => 0
theorem sp_mi {w h : Nat} (hd : dim w h) {post : vMS × vMM → Prop} {x1 x2 : Int32} {ex : (Nat → Int32) → (Nat → Int32) → (Nat → Int32) → (Nat → Int32) → (Nat → Int32) → (Nat → Int32) → (Nat → Int32) → (Nat → Int32) → (Nat → Int32) → (Nat → Int32) → (Nat → Int32) → (Nat → Int32) → (Nat → Int32) → Int32 → Int32 → Int32 → Int32 → Int32 → Prop} (he : ∀ a b c z5 z4 z3, okM w h (a, b, c) (lvs w h) → ex a b c zF zF zF zF zF zF zF zF zF zF (nI (lvs w h)) (nI (nds w h)) z5 z4 z3) : ∃ f, wp_X4_init_L177 post ex x1 x2 f zF zF zF zF zF zF zF zF zF zF zF zF zF 0 0 1 (nI h) (nI w) := by
  have h6 := lvs_le w h
  have h1 := lvs_pos w h
  have key : ∀ (r l : Nat) (a b c : Nat → Int32), l + r = lvs w h → okM w h (a, b, c) l → wp_X4_init_L177 post ex x1 x2 (r + 1) a b c zF zF zF zF zF zF zF zF zF zF (nI l) (nI (fstN w h l)) (if r = 0 then 0 else 1) (nI (cdiv h l)) (nI (cdiv w l)) := by
    intro r
    induction r with
    | zero =>
      intro l a b c hl hF
      unfold wp_X4_init_L177
      have e : l = lvs w h := by omega
      subst e
      rw [if_pos rfl]
      exact ⟨fun _ => he _ _ _ _ _ _ hF, fun q => absurd rfl q⟩
    | succ r ih =>
      intro l a b c hl hF
      unfold wp_X4_init_L177
      rw [if_neg (by omega)]
      obtain ⟨c1, c2, c3, c4⟩ := cdiv_le hd (show l < lvs w h by omega)
      have hin := vp_in_nI (show l < 8 by omega) (show 8 < 2 ^ 31 by omega)
      have htab := lvs_tab w hd.2.1 h hd.2.2.2 hd.1 hd.2.2.1 l (by omega)
      obtain ⟨-, -, s1, -⟩ := cdiv_tab w hd.2.1 l (by omega) hd.1
      obtain ⟨-, -, s2, -⟩ := cdiv_tab h hd.2.2.2 l (by omega) hd.2.2.1
      refine ⟨fun q => absurd q (by decide), fun _ => ⟨hin, hin, hin, fun f54 h54 f55 h55 => ?_⟩⟩
      rw [pk_mul, nI_add] at h54
      rw [nI_1] at h55
      subst h54 h55
      rw [nI_clamp (by omega), nI_1, nI_1, show (2 : Int32) = nI 2 from rfl, pk_div (by omega) (by omega) (by omega), pk_div (by omega) (by omega) (by omega), ← s1, ← s2, show (1 : Int32) = nI 1 from rfl, nI_ltI (by omega) (by omega), nI_leI (by omega) (by omega)]
      have ih := ih (l + 1) _ _ _ (by omega) hF.step
      refine ⟨fun q => ⟨by decide, fun x3 h3 => ⟨by decide, fun x4 h4 => ?_⟩⟩, fun q => ⟨fun q2 => ⟨by decide, fun x3 h3 => ⟨by decide, fun x4 h4 => ?_⟩⟩, fun q2 => ⟨by decide, fun x3 h3 => ⟨by decide, fun x4 h4 => ?_⟩⟩⟩⟩
      · subst h3 h4
        have : ¬ r = 0 := by
          intro e
          have e1 := htab.mpr (by omega)
          have e2 := Nat.mul_le_mul_left (cdiv w l) c4
          omega
        rw [if_neg this] at ih
        exact ih
      · subst h3 h4
        have : r = 0 := by
          have e1 := htab.mp (by rw [show cdiv w l = 1 by omega, show cdiv h l = 1 by omega])
          omega
        rw [if_pos this] at ih
        exact ih
      · subst h3 h4
        have : ¬ r = 0 := by
          intro e
          have e1 := htab.mpr (by omega)
          rw [show cdiv w l = 1 by omega, Nat.one_mul] at e1
          omega
        rw [if_neg this] at ih
        exact ih
  have := key (lvs w h) 0 zF zF zF (by omega) (fun l hl => absurd hl (Nat.not_lt_zero l))
  rw [if_neg (by omega), cdiv_0, cdiv_0] at this
  exact ⟨_, this⟩
theorem sp_mi_1 {w h : Nat} (hd : dim w h) {post : vMS × vMM → Prop} {x1 x2 : Int32} {ex : (Nat → Int32) → (Nat → Int32) → (Nat → Int32) → (Nat → Int32) → (Nat → Int32) → (Nat → Int32) → (Nat → Int32) → (Nat → Int32) → (Nat → Int32) → (Nat → Int32) → (Nat → Int32) → (Nat → Int32) → (Nat → Int32) → Int32 → Int32 → Int32 → Int32 → Int32 → Prop} (he : ∀ a b c z5 z4 z3, okM w h (a, b, c) (lvs w h) → ex a b c zF zF zF zF zF zF zF zF zF zF (nI (lvs w h)) (nI (nds w h)) z5 z4 z3) : ∃ f, wp_X4_init_L177_1 post ex x1 x2 f zF zF zF zF zF zF zF zF zF zF zF zF zF 0 0 1 (nI h) (nI w) := by
  have h6 := lvs_le w h
  have h1 := lvs_pos w h
  have key : ∀ (r l : Nat) (a b c : Nat → Int32), l + r = lvs w h → okM w h (a, b, c) l → wp_X4_init_L177_1 post ex x1 x2 (r + 1) a b c zF zF zF zF zF zF zF zF zF zF (nI l) (nI (fstN w h l)) (if r = 0 then 0 else 1) (nI (cdiv h l)) (nI (cdiv w l)) := by
    intro r
    induction r with
    | zero =>
      intro l a b c hl hF
      unfold wp_X4_init_L177_1
      have e : l = lvs w h := by omega
      subst e
      rw [if_pos rfl]
      exact ⟨fun _ => he _ _ _ _ _ _ hF, fun q => absurd rfl q⟩
    | succ r ih =>
      intro l a b c hl hF
      unfold wp_X4_init_L177_1
      rw [if_neg (by omega)]
      obtain ⟨c1, c2, c3, c4⟩ := cdiv_le hd (show l < lvs w h by omega)
      have hin := vp_in_nI (show l < 8 by omega) (show 8 < 2 ^ 31 by omega)
      have htab := lvs_tab w hd.2.1 h hd.2.2.2 hd.1 hd.2.2.1 l (by omega)
      obtain ⟨-, -, s1, -⟩ := cdiv_tab w hd.2.1 l (by omega) hd.1
      obtain ⟨-, -, s2, -⟩ := cdiv_tab h hd.2.2.2 l (by omega) hd.2.2.1
      refine ⟨fun q => absurd q (by decide), fun _ => ⟨hin, hin, hin, fun f54 h54 f55 h55 => ?_⟩⟩
      rw [pk_mul, nI_add] at h54
      rw [nI_1] at h55
      subst h54 h55
      rw [nI_clamp (by omega), nI_1, nI_1, show (2 : Int32) = nI 2 from rfl, pk_div (by omega) (by omega) (by omega), pk_div (by omega) (by omega) (by omega), ← s1, ← s2, show (1 : Int32) = nI 1 from rfl, nI_ltI (by omega) (by omega), nI_leI (by omega) (by omega)]
      have ih := ih (l + 1) _ _ _ (by omega) hF.step
      refine ⟨fun q => ⟨by decide, fun x3 h3 => ⟨by decide, fun x4 h4 => ?_⟩⟩, fun q => ⟨fun q2 => ⟨by decide, fun x3 h3 => ⟨by decide, fun x4 h4 => ?_⟩⟩, fun q2 => ⟨by decide, fun x3 h3 => ⟨by decide, fun x4 h4 => ?_⟩⟩⟩⟩
      · subst h3 h4
        have : ¬ r = 0 := by
          intro e
          have e1 := htab.mpr (by omega)
          have e2 := Nat.mul_le_mul_left (cdiv w l) c4
          omega
        rw [if_neg this] at ih
        exact ih
      · subst h3 h4
        have : r = 0 := by
          have e1 := htab.mp (by rw [show cdiv w l = 1 by omega, show cdiv h l = 1 by omega])
          omega
        rw [if_pos this] at ih
        exact ih
      · subst h3 h4
        have : ¬ r = 0 := by
          intro e
          have e1 := htab.mpr (by omega)
          rw [show cdiv w l = 1 by omega, Nat.one_mul] at e1
          omega
        rw [if_neg this] at ih
        exact ih
  have := key (lvs w h) 0 zF zF zF (by omega) (fun l hl => absurd hl (Nat.not_lt_zero l))
  rw [if_neg (by omega), cdiv_0, cdiv_0] at this
  exact ⟨_, this⟩
theorem sp_mi_2 {w h : Nat} (hd : dim w h) {post : vMS × vMM → Prop} {x1 x2 : Int32} {ex : (Nat → Int32) → (Nat → Int32) → (Nat → Int32) → (Nat → Int32) → (Nat → Int32) → (Nat → Int32) → (Nat → Int32) → (Nat → Int32) → (Nat → Int32) → (Nat → Int32) → (Nat → Int32) → (Nat → Int32) → (Nat → Int32) → Int32 → Int32 → Int32 → Int32 → Int32 → Prop} (he : ∀ a b c z5 z4 z3, okM w h (a, b, c) (lvs w h) → ex a b c zF zF zF zF zF zF zF zF zF zF (nI (lvs w h)) (nI (nds w h)) z5 z4 z3) : ∃ f, wp_X4_init_L177_2 post ex x1 x2 f zF zF zF zF zF zF zF zF zF zF zF zF zF 0 0 1 (nI h) (nI w) := by
  have h6 := lvs_le w h
  have h1 := lvs_pos w h
  have key : ∀ (r l : Nat) (a b c : Nat → Int32), l + r = lvs w h → okM w h (a, b, c) l → wp_X4_init_L177_2 post ex x1 x2 (r + 1) a b c zF zF zF zF zF zF zF zF zF zF (nI l) (nI (fstN w h l)) (if r = 0 then 0 else 1) (nI (cdiv h l)) (nI (cdiv w l)) := by
    intro r
    induction r with
    | zero =>
      intro l a b c hl hF
      unfold wp_X4_init_L177_2
      have e : l = lvs w h := by omega
      subst e
      rw [if_pos rfl]
      exact ⟨fun _ => he _ _ _ _ _ _ hF, fun q => absurd rfl q⟩
    | succ r ih =>
      intro l a b c hl hF
      unfold wp_X4_init_L177_2
      rw [if_neg (by omega)]
      obtain ⟨c1, c2, c3, c4⟩ := cdiv_le hd (show l < lvs w h by omega)
      have hin := vp_in_nI (show l < 8 by omega) (show 8 < 2 ^ 31 by omega)
      have htab := lvs_tab w hd.2.1 h hd.2.2.2 hd.1 hd.2.2.1 l (by omega)
      obtain ⟨-, -, s1, -⟩ := cdiv_tab w hd.2.1 l (by omega) hd.1
      obtain ⟨-, -, s2, -⟩ := cdiv_tab h hd.2.2.2 l (by omega) hd.2.2.1
      refine ⟨fun q => absurd q (by decide), fun _ => ⟨hin, hin, hin, fun f54 h54 f55 h55 => ?_⟩⟩
      rw [pk_mul, nI_add] at h54
      rw [nI_1] at h55
      subst h54 h55
      rw [nI_clamp (by omega), nI_1, nI_1, show (2 : Int32) = nI 2 from rfl, pk_div (by omega) (by omega) (by omega), pk_div (by omega) (by omega) (by omega), ← s1, ← s2, show (1 : Int32) = nI 1 from rfl, nI_ltI (by omega) (by omega), nI_leI (by omega) (by omega)]
      have ih := ih (l + 1) _ _ _ (by omega) hF.step
      refine ⟨fun q => ⟨by decide, fun x3 h3 => ⟨by decide, fun x4 h4 => ?_⟩⟩, fun q => ⟨fun q2 => ⟨by decide, fun x3 h3 => ⟨by decide, fun x4 h4 => ?_⟩⟩, fun q2 => ⟨by decide, fun x3 h3 => ⟨by decide, fun x4 h4 => ?_⟩⟩⟩⟩
      · subst h3 h4
        have : ¬ r = 0 := by
          intro e
          have e1 := htab.mpr (by omega)
          have e2 := Nat.mul_le_mul_left (cdiv w l) c4
          omega
        rw [if_neg this] at ih
        exact ih
      · subst h3 h4
        have : r = 0 := by
          have e1 := htab.mp (by rw [show cdiv w l = 1 by omega, show cdiv h l = 1 by omega])
          omega
        rw [if_pos this] at ih
        exact ih
      · subst h3 h4
        have : ¬ r = 0 := by
          intro e
          have e1 := htab.mpr (by omega)
          rw [show cdiv w l = 1 by omega, Nat.one_mul] at e1
          omega
        rw [if_neg this] at ih
        exact ih
  have := key (lvs w h) 0 zF zF zF (by omega) (fun l hl => absurd hl (Nat.not_lt_zero l))
  rw [if_neg (by omega), cdiv_0, cdiv_0] at this
  exact ⟨_, this⟩
theorem sp_mi_3 {w h : Nat} (hd : dim w h) {post : vMS × vMM → Prop} {x1 x2 : Int32} {ex : (Nat → Int32) → (Nat → Int32) → (Nat → Int32) → (Nat → Int32) → (Nat → Int32) → (Nat → Int32) → (Nat → Int32) → (Nat → Int32) → (Nat → Int32) → (Nat → Int32) → (Nat → Int32) → (Nat → Int32) → (Nat → Int32) → Int32 → Int32 → Int32 → Int32 → Int32 → Prop} (he : ∀ a b c z5 z4 z3, okM w h (a, b, c) (lvs w h) → ex a b c zF zF zF zF zF zF zF zF zF zF (nI (lvs w h)) (nI (nds w h)) z5 z4 z3) : ∃ f, wp_X4_init_L177_3 post ex x1 x2 f zF zF zF zF zF zF zF zF zF zF zF zF zF 0 0 1 (nI h) (nI w) := by
  have h6 := lvs_le w h
  have h1 := lvs_pos w h
  have key : ∀ (r l : Nat) (a b c : Nat → Int32), l + r = lvs w h → okM w h (a, b, c) l → wp_X4_init_L177_3 post ex x1 x2 (r + 1) a b c zF zF zF zF zF zF zF zF zF zF (nI l) (nI (fstN w h l)) (if r = 0 then 0 else 1) (nI (cdiv h l)) (nI (cdiv w l)) := by
    intro r
    induction r with
    | zero =>
      intro l a b c hl hF
      unfold wp_X4_init_L177_3
      have e : l = lvs w h := by omega
      subst e
      rw [if_pos rfl]
      exact ⟨fun _ => he _ _ _ _ _ _ hF, fun q => absurd rfl q⟩
    | succ r ih =>
      intro l a b c hl hF
      unfold wp_X4_init_L177_3
      rw [if_neg (by omega)]
      obtain ⟨c1, c2, c3, c4⟩ := cdiv_le hd (show l < lvs w h by omega)
      have hin := vp_in_nI (show l < 8 by omega) (show 8 < 2 ^ 31 by omega)
      have htab := lvs_tab w hd.2.1 h hd.2.2.2 hd.1 hd.2.2.1 l (by omega)
      obtain ⟨-, -, s1, -⟩ := cdiv_tab w hd.2.1 l (by omega) hd.1
      obtain ⟨-, -, s2, -⟩ := cdiv_tab h hd.2.2.2 l (by omega) hd.2.2.1
      refine ⟨fun q => absurd q (by decide), fun _ => ⟨hin, hin, hin, fun f54 h54 f55 h55 => ?_⟩⟩
      rw [pk_mul, nI_add] at h54
      rw [nI_1] at h55
      subst h54 h55
      rw [nI_clamp (by omega), nI_1, nI_1, show (2 : Int32) = nI 2 from rfl, pk_div (by omega) (by omega) (by omega), pk_div (by omega) (by omega) (by omega), ← s1, ← s2, show (1 : Int32) = nI 1 from rfl, nI_ltI (by omega) (by omega), nI_leI (by omega) (by omega)]
      have ih := ih (l + 1) _ _ _ (by omega) hF.step
      refine ⟨fun q => ⟨by decide, fun x3 h3 => ⟨by decide, fun x4 h4 => ?_⟩⟩, fun q => ⟨fun q2 => ⟨by decide, fun x3 h3 => ⟨by decide, fun x4 h4 => ?_⟩⟩, fun q2 => ⟨by decide, fun x3 h3 => ⟨by decide, fun x4 h4 => ?_⟩⟩⟩⟩
      · subst h3 h4
        have : ¬ r = 0 := by
          intro e
          have e1 := htab.mpr (by omega)
          have e2 := Nat.mul_le_mul_left (cdiv w l) c4
          omega
        rw [if_neg this] at ih
        exact ih
      · subst h3 h4
        have : r = 0 := by
          have e1 := htab.mp (by rw [show cdiv w l = 1 by omega, show cdiv h l = 1 by omega])
          omega
        rw [if_pos this] at ih
        exact ih
      · subst h3 h4
        have : ¬ r = 0 := by
          intro e
          have e1 := htab.mpr (by omega)
          rw [show cdiv w l = 1 by omega, Nat.one_mul] at e1
          omega
        rw [if_neg this] at ih
        exact ih
  have := key (lvs w h) 0 zF zF zF (by omega) (fun l hl => absurd hl (Nat.not_lt_zero l))
  rw [if_neg (by omega), cdiv_0, cdiv_0] at this
  exact ⟨_, this⟩
theorem sp_mi_4 {w h : Nat} (hd : dim w h) {post : vMS × vMM → Prop} {x1 x2 : Int32} {ex : (Nat → Int32) → (Nat → Int32) → (Nat → Int32) → (Nat → Int32) → (Nat → Int32) → (Nat → Int32) → (Nat → Int32) → (Nat → Int32) → (Nat → Int32) → (Nat → Int32) → (Nat → Int32) → (Nat → Int32) → (Nat → Int32) → Int32 → Int32 → Int32 → Int32 → Int32 → Prop} (he : ∀ a b c z5 z4 z3, okM w h (a, b, c) (lvs w h) → ex a b c zF zF zF zF zF zF zF zF zF zF (nI (lvs w h)) (nI (nds w h)) z5 z4 z3) : ∃ f, wp_X4_init_L177_4 post ex x1 x2 f zF zF zF zF zF zF zF zF zF zF zF zF zF 0 0 1 (nI h) (nI w) := by
  have h6 := lvs_le w h
  have h1 := lvs_pos w h
  have key : ∀ (r l : Nat) (a b c : Nat → Int32), l + r = lvs w h → okM w h (a, b, c) l → wp_X4_init_L177_4 post ex x1 x2 (r + 1) a b c zF zF zF zF zF zF zF zF zF zF (nI l) (nI (fstN w h l)) (if r = 0 then 0 else 1) (nI (cdiv h l)) (nI (cdiv w l)) := by
    intro r
    induction r with
    | zero =>
      intro l a b c hl hF
      unfold wp_X4_init_L177_4
      have e : l = lvs w h := by omega
      subst e
      rw [if_pos rfl]
      exact ⟨fun _ => he _ _ _ _ _ _ hF, fun q => absurd rfl q⟩
    | succ r ih =>
      intro l a b c hl hF
      unfold wp_X4_init_L177_4
      rw [if_neg (by omega)]
      obtain ⟨c1, c2, c3, c4⟩ := cdiv_le hd (show l < lvs w h by omega)
      have hin := vp_in_nI (show l < 8 by omega) (show 8 < 2 ^ 31 by omega)
      have htab := lvs_tab w hd.2.1 h hd.2.2.2 hd.1 hd.2.2.1 l (by omega)
      obtain ⟨-, -, s1, -⟩ := cdiv_tab w hd.2.1 l (by omega) hd.1
      obtain ⟨-, -, s2, -⟩ := cdiv_tab h hd.2.2.2 l (by omega) hd.2.2.1
      refine ⟨fun q => absurd q (by decide), fun _ => ⟨hin, hin, hin, fun f54 h54 f55 h55 => ?_⟩⟩
      rw [pk_mul, nI_add] at h54
      rw [nI_1] at h55
      subst h54 h55
      rw [nI_clamp (by omega), nI_1, nI_1, show (2 : Int32) = nI 2 from rfl, pk_div (by omega) (by omega) (by omega), pk_div (by omega) (by omega) (by omega), ← s1, ← s2, show (1 : Int32) = nI 1 from rfl, nI_ltI (by omega) (by omega), nI_leI (by omega) (by omega)]
      have ih := ih (l + 1) _ _ _ (by omega) hF.step
      refine ⟨fun q => ⟨by decide, fun x3 h3 => ⟨by decide, fun x4 h4 => ?_⟩⟩, fun q => ⟨fun q2 => ⟨by decide, fun x3 h3 => ⟨by decide, fun x4 h4 => ?_⟩⟩, fun q2 => ⟨by decide, fun x3 h3 => ⟨by decide, fun x4 h4 => ?_⟩⟩⟩⟩
      · subst h3 h4
        have : ¬ r = 0 := by
          intro e
          have e1 := htab.mpr (by omega)
          have e2 := Nat.mul_le_mul_left (cdiv w l) c4
          omega
        rw [if_neg this] at ih
        exact ih
      · subst h3 h4
        have : r = 0 := by
          have e1 := htab.mp (by rw [show cdiv w l = 1 by omega, show cdiv h l = 1 by omega])
          omega
        rw [if_pos this] at ih
        exact ih
      · subst h3 h4
        have : ¬ r = 0 := by
          intro e
          have e1 := htab.mpr (by omega)
          rw [show cdiv w l = 1 by omega, Nat.one_mul] at e1
          omega
        rw [if_neg this] at ih
        exact ih
  have := key (lvs w h) 0 zF zF zF (by omega) (fun l hl => absurd hl (Nat.not_lt_zero l))
  rw [if_neg (by omega), cdiv_0, cdiv_0] at this
  exact ⟨_, this⟩
theorem sp_mi_5 {w h : Nat} (hd : dim w h) {post : vMS × vMM → Prop} {x1 x2 : Int32} {ex : (Nat → Int32) → (Nat → Int32) → (Nat → Int32) → (Nat → Int32) → (Nat → Int32) → (Nat → Int32) → (Nat → Int32) → (Nat → Int32) → (Nat → Int32) → (Nat → Int32) → (Nat → Int32) → (Nat → Int32) → (Nat → Int32) → Int32 → Int32 → Int32 → Int32 → Int32 → Prop} (he : ∀ a b c z5 z4 z3, okM w h (a, b, c) (lvs w h) → ex a b c zF zF zF zF zF zF zF zF zF zF (nI (lvs w h)) (nI (nds w h)) z5 z4 z3) : ∃ f, wp_X4_init_L177_5 post ex x1 x2 f zF zF zF zF zF zF zF zF zF zF zF zF zF 0 0 1 (nI h) (nI w) := by
  have h6 := lvs_le w h
  have h1 := lvs_pos w h
  have key : ∀ (r l : Nat) (a b c : Nat → Int32), l + r = lvs w h → okM w h (a, b, c) l → wp_X4_init_L177_5 post ex x1 x2 (r + 1) a b c zF zF zF zF zF zF zF zF zF zF (nI l) (nI (fstN w h l)) (if r = 0 then 0 else 1) (nI (cdiv h l)) (nI (cdiv w l)) := by
    intro r
    induction r with
    | zero =>
      intro l a b c hl hF
      unfold wp_X4_init_L177_5
      have e : l = lvs w h := by omega
      subst e
      rw [if_pos rfl]
      exact ⟨fun _ => he _ _ _ _ _ _ hF, fun q => absurd rfl q⟩
    | succ r ih =>
      intro l a b c hl hF
      unfold wp_X4_init_L177_5
      rw [if_neg (by omega)]
      obtain ⟨c1, c2, c3, c4⟩ := cdiv_le hd (show l < lvs w h by omega)
      have hin := vp_in_nI (show l < 8 by omega) (show 8 < 2 ^ 31 by omega)
      have htab := lvs_tab w hd.2.1 h hd.2.2.2 hd.1 hd.2.2.1 l (by omega)
      obtain ⟨-, -, s1, -⟩ := cdiv_tab w hd.2.1 l (by omega) hd.1
      obtain ⟨-, -, s2, -⟩ := cdiv_tab h hd.2.2.2 l (by omega) hd.2.2.1
      refine ⟨fun q => absurd q (by decide), fun _ => ⟨hin, hin, hin, fun f54 h54 f55 h55 => ?_⟩⟩
      rw [pk_mul, nI_add] at h54
      rw [nI_1] at h55
      subst h54 h55
      rw [nI_clamp (by omega), nI_1, nI_1, show (2 : Int32) = nI 2 from rfl, pk_div (by omega) (by omega) (by omega), pk_div (by omega) (by omega) (by omega), ← s1, ← s2, show (1 : Int32) = nI 1 from rfl, nI_ltI (by omega) (by omega), nI_leI (by omega) (by omega)]
      have ih := ih (l + 1) _ _ _ (by omega) hF.step
      refine ⟨fun q => ⟨by decide, fun x3 h3 => ⟨by decide, fun x4 h4 => ?_⟩⟩, fun q => ⟨fun q2 => ⟨by decide, fun x3 h3 => ⟨by decide, fun x4 h4 => ?_⟩⟩, fun q2 => ⟨by decide, fun x3 h3 => ⟨by decide, fun x4 h4 => ?_⟩⟩⟩⟩
      · subst h3 h4
        have : ¬ r = 0 := by
          intro e
          have e1 := htab.mpr (by omega)
          have e2 := Nat.mul_le_mul_left (cdiv w l) c4
          omega
        rw [if_neg this] at ih
        exact ih
      · subst h3 h4
        have : r = 0 := by
          have e1 := htab.mp (by rw [show cdiv w l = 1 by omega, show cdiv h l = 1 by omega])
          omega
        rw [if_pos this] at ih
        exact ih
      · subst h3 h4
        have : ¬ r = 0 := by
          intro e
          have e1 := htab.mpr (by omega)
          rw [show cdiv w l = 1 by omega, Nat.one_mul] at e1
          omega
        rw [if_neg this] at ih
        exact ih
  have := key (lvs w h) 0 zF zF zF (by omega) (fun l hl => absurd hl (Nat.not_lt_zero l))
  rw [if_neg (by omega), cdiv_0, cdiv_0] at this
  exact ⟨_, this⟩
theorem sp_mi_6 {w h : Nat} (hd : dim w h) {post : vMS × vMM → Prop} {x1 x2 : Int32} {ex : (Nat → Int32) → (Nat → Int32) → (Nat → Int32) → (Nat → Int32) → (Nat → Int32) → (Nat → Int32) → (Nat → Int32) → (Nat → Int32) → (Nat → Int32) → (Nat → Int32) → (Nat → Int32) → (Nat → Int32) → (Nat → Int32) → Int32 → Int32 → Int32 → Int32 → Int32 → Prop} (he : ∀ a b c z5 z4 z3, okM w h (a, b, c) (lvs w h) → ex a b c zF zF zF zF zF zF zF zF zF zF (nI (lvs w h)) (nI (nds w h)) z5 z4 z3) : ∃ f, wp_X4_init_L177_6 post ex x1 x2 f zF zF zF zF zF zF zF zF zF zF zF zF zF 0 0 1 (nI h) (nI w) := by
  have h6 := lvs_le w h
  have h1 := lvs_pos w h
  have key : ∀ (r l : Nat) (a b c : Nat → Int32), l + r = lvs w h → okM w h (a, b, c) l → wp_X4_init_L177_6 post ex x1 x2 (r + 1) a b c zF zF zF zF zF zF zF zF zF zF (nI l) (nI (fstN w h l)) (if r = 0 then 0 else 1) (nI (cdiv h l)) (nI (cdiv w l)) := by
    intro r
    induction r with
    | zero =>
      intro l a b c hl hF
      unfold wp_X4_init_L177_6
      have e : l = lvs w h := by omega
      subst e
      rw [if_pos rfl]
      exact ⟨fun _ => he _ _ _ _ _ _ hF, fun q => absurd rfl q⟩
    | succ r ih =>
      intro l a b c hl hF
      unfold wp_X4_init_L177_6
      rw [if_neg (by omega)]
      obtain ⟨c1, c2, c3, c4⟩ := cdiv_le hd (show l < lvs w h by omega)
      have hin := vp_in_nI (show l < 8 by omega) (show 8 < 2 ^ 31 by omega)
      have htab := lvs_tab w hd.2.1 h hd.2.2.2 hd.1 hd.2.2.1 l (by omega)
      obtain ⟨-, -, s1, -⟩ := cdiv_tab w hd.2.1 l (by omega) hd.1
      obtain ⟨-, -, s2, -⟩ := cdiv_tab h hd.2.2.2 l (by omega) hd.2.2.1
      refine ⟨fun q => absurd q (by decide), fun _ => ⟨hin, hin, hin, fun f54 h54 f55 h55 => ?_⟩⟩
      rw [pk_mul, nI_add] at h54
      rw [nI_1] at h55
      subst h54 h55
      rw [nI_clamp (by omega), nI_1, nI_1, show (2 : Int32) = nI 2 from rfl, pk_div (by omega) (by omega) (by omega), pk_div (by omega) (by omega) (by omega), ← s1, ← s2, show (1 : Int32) = nI 1 from rfl, nI_ltI (by omega) (by omega), nI_leI (by omega) (by omega)]
      have ih := ih (l + 1) _ _ _ (by omega) hF.step
      refine ⟨fun q => ⟨by decide, fun x3 h3 => ⟨by decide, fun x4 h4 => ?_⟩⟩, fun q => ⟨fun q2 => ⟨by decide, fun x3 h3 => ⟨by decide, fun x4 h4 => ?_⟩⟩, fun q2 => ⟨by decide, fun x3 h3 => ⟨by decide, fun x4 h4 => ?_⟩⟩⟩⟩
      · subst h3 h4
        have : ¬ r = 0 := by
          intro e
          have e1 := htab.mpr (by omega)
          have e2 := Nat.mul_le_mul_left (cdiv w l) c4
          omega
        rw [if_neg this] at ih
        exact ih
      · subst h3 h4
        have : r = 0 := by
          have e1 := htab.mp (by rw [show cdiv w l = 1 by omega, show cdiv h l = 1 by omega])
          omega
        rw [if_pos this] at ih
        exact ih
      · subst h3 h4
        have : ¬ r = 0 := by
          intro e
          have e1 := htab.mpr (by omega)
          rw [show cdiv w l = 1 by omega, Nat.one_mul] at e1
          omega
        rw [if_neg this] at ih
        exact ih
  have := key (lvs w h) 0 zF zF zF (by omega) (fun l hl => absurd hl (Nat.not_lt_zero l))
  rw [if_neg (by omega), cdiv_0, cdiv_0] at this
  exact ⟨_, this⟩
theorem sp_mi_7 {w h : Nat} (hd : dim w h) {post : vMS × vMM → Prop} {x1 x2 : Int32} {ex : (Nat → Int32) → (Nat → Int32) → (Nat → Int32) → (Nat → Int32) → (Nat → Int32) → (Nat → Int32) → (Nat → Int32) → (Nat → Int32) → (Nat → Int32) → (Nat → Int32) → (Nat → Int32) → (Nat → Int32) → (Nat → Int32) → Int32 → Int32 → Int32 → Int32 → Int32 → Prop} (he : ∀ a b c z5 z4 z3, okM w h (a, b, c) (lvs w h) → ex a b c zF zF zF zF zF zF zF zF zF zF (nI (lvs w h)) (nI (nds w h)) z5 z4 z3) : ∃ f, wp_X4_init_L177_7 post ex x1 x2 f zF zF zF zF zF zF zF zF zF zF zF zF zF 0 0 1 (nI h) (nI w) := by
  have h6 := lvs_le w h
  have h1 := lvs_pos w h
  have key : ∀ (r l : Nat) (a b c : Nat → Int32), l + r = lvs w h → okM w h (a, b, c) l → wp_X4_init_L177_7 post ex x1 x2 (r + 1) a b c zF zF zF zF zF zF zF zF zF zF (nI l) (nI (fstN w h l)) (if r = 0 then 0 else 1) (nI (cdiv h l)) (nI (cdiv w l)) := by
    intro r
    induction r with
    | zero =>
      intro l a b c hl hF
      unfold wp_X4_init_L177_7
      have e : l = lvs w h := by omega
      subst e
      rw [if_pos rfl]
      exact ⟨fun _ => he _ _ _ _ _ _ hF, fun q => absurd rfl q⟩
    | succ r ih =>
      intro l a b c hl hF
      unfold wp_X4_init_L177_7
      rw [if_neg (by omega)]
      obtain ⟨c1, c2, c3, c4⟩ := cdiv_le hd (show l < lvs w h by omega)
      have hin := vp_in_nI (show l < 8 by omega) (show 8 < 2 ^ 31 by omega)
      have htab := lvs_tab w hd.2.1 h hd.2.2.2 hd.1 hd.2.2.1 l (by omega)
      obtain ⟨-, -, s1, -⟩ := cdiv_tab w hd.2.1 l (by omega) hd.1
      obtain ⟨-, -, s2, -⟩ := cdiv_tab h hd.2.2.2 l (by omega) hd.2.2.1
      refine ⟨fun q => absurd q (by decide), fun _ => ⟨hin, hin, hin, fun f54 h54 f55 h55 => ?_⟩⟩
      rw [pk_mul, nI_add] at h54
      rw [nI_1] at h55
      subst h54 h55
      rw [nI_clamp (by omega), nI_1, nI_1, show (2 : Int32) = nI 2 from rfl, pk_div (by omega) (by omega) (by omega), pk_div (by omega) (by omega) (by omega), ← s1, ← s2, show (1 : Int32) = nI 1 from rfl, nI_ltI (by omega) (by omega), nI_leI (by omega) (by omega)]
      have ih := ih (l + 1) _ _ _ (by omega) hF.step
      refine ⟨fun q => ⟨by decide, fun x3 h3 => ⟨by decide, fun x4 h4 => ?_⟩⟩, fun q => ⟨fun q2 => ⟨by decide, fun x3 h3 => ⟨by decide, fun x4 h4 => ?_⟩⟩, fun q2 => ⟨by decide, fun x3 h3 => ⟨by decide, fun x4 h4 => ?_⟩⟩⟩⟩
      · subst h3 h4
        have : ¬ r = 0 := by
          intro e
          have e1 := htab.mpr (by omega)
          have e2 := Nat.mul_le_mul_left (cdiv w l) c4
          omega
        rw [if_neg this] at ih
        exact ih
      · subst h3 h4
        have : r = 0 := by
          have e1 := htab.mp (by rw [show cdiv w l = 1 by omega, show cdiv h l = 1 by omega])
          omega
        rw [if_pos this] at ih
        exact ih
      · subst h3 h4
        have : ¬ r = 0 := by
          intro e
          have e1 := htab.mpr (by omega)
          rw [show cdiv w l = 1 by omega, Nat.one_mul] at e1
          omega
        rw [if_neg this] at ih
        exact ih
  have := key (lvs w h) 0 zF zF zF (by omega) (fun l hl => absurd hl (Nat.not_lt_zero l))
  rw [if_neg (by omega), cdiv_0, cdiv_0] at this
  exact ⟨_, this⟩
theorem sp_mi_8 {w h : Nat} (hd : dim w h) {post : vMS × vMM → Prop} {x1 x2 : Int32} {ex : (Nat → Int32) → (Nat → Int32) → (Nat → Int32) → (Nat → Int32) → (Nat → Int32) → (Nat → Int32) → (Nat → Int32) → (Nat → Int32) → (Nat → Int32) → (Nat → Int32) → (Nat → Int32) → (Nat → Int32) → (Nat → Int32) → Int32 → Int32 → Int32 → Int32 → Int32 → Prop} (he : ∀ a b c z5 z4 z3, okM w h (a, b, c) (lvs w h) → ex a b c zF zF zF zF zF zF zF zF zF zF (nI (lvs w h)) (nI (nds w h)) z5 z4 z3) : ∃ f, wp_X4_init_L177_8 post ex x1 x2 f zF zF zF zF zF zF zF zF zF zF zF zF zF 0 0 1 (nI h) (nI w) := by
  have h6 := lvs_le w h
  have h1 := lvs_pos w h
  have key : ∀ (r l : Nat) (a b c : Nat → Int32), l + r = lvs w h → okM w h (a, b, c) l → wp_X4_init_L177_8 post ex x1 x2 (r + 1) a b c zF zF zF zF zF zF zF zF zF zF (nI l) (nI (fstN w h l)) (if r = 0 then 0 else 1) (nI (cdiv h l)) (nI (cdiv w l)) := by
    intro r
    induction r with
    | zero =>
      intro l a b c hl hF
      unfold wp_X4_init_L177_8
      have e : l = lvs w h := by omega
      subst e
      rw [if_pos rfl]
      exact ⟨fun _ => he _ _ _ _ _ _ hF, fun q => absurd rfl q⟩
    | succ r ih =>
      intro l a b c hl hF
      unfold wp_X4_init_L177_8
      rw [if_neg (by omega)]
      obtain ⟨c1, c2, c3, c4⟩ := cdiv_le hd (show l < lvs w h by omega)
      have hin := vp_in_nI (show l < 8 by omega) (show 8 < 2 ^ 31 by omega)
      have htab := lvs_tab w hd.2.1 h hd.2.2.2 hd.1 hd.2.2.1 l (by omega)
      obtain ⟨-, -, s1, -⟩ := cdiv_tab w hd.2.1 l (by omega) hd.1
      obtain ⟨-, -, s2, -⟩ := cdiv_tab h hd.2.2.2 l (by omega) hd.2.2.1
      refine ⟨fun q => absurd q (by decide), fun _ => ⟨hin, hin, hin, fun f54 h54 f55 h55 => ?_⟩⟩
      rw [pk_mul, nI_add] at h54
      rw [nI_1] at h55
      subst h54 h55
      rw [nI_clamp (by omega), nI_1, nI_1, show (2 : Int32) = nI 2 from rfl, pk_div (by omega) (by omega) (by omega), pk_div (by omega) (by omega) (by omega), ← s1, ← s2, show (1 : Int32) = nI 1 from rfl, nI_ltI (by omega) (by omega), nI_leI (by omega) (by omega)]
      have ih := ih (l + 1) _ _ _ (by omega) hF.step
      refine ⟨fun q => ⟨by decide, fun x3 h3 => ⟨by decide, fun x4 h4 => ?_⟩⟩, fun q => ⟨fun q2 => ⟨by decide, fun x3 h3 => ⟨by decide, fun x4 h4 => ?_⟩⟩, fun q2 => ⟨by decide, fun x3 h3 => ⟨by decide, fun x4 h4 => ?_⟩⟩⟩⟩
      · subst h3 h4
        have : ¬ r = 0 := by
          intro e
          have e1 := htab.mpr (by omega)
          have e2 := Nat.mul_le_mul_left (cdiv w l) c4
          omega
        rw [if_neg this] at ih
        exact ih
      · subst h3 h4
        have : r = 0 := by
          have e1 := htab.mp (by rw [show cdiv w l = 1 by omega, show cdiv h l = 1 by omega])
          omega
        rw [if_pos this] at ih
        exact ih
      · subst h3 h4
        have : ¬ r = 0 := by
          intro e
          have e1 := htab.mpr (by omega)
          rw [show cdiv w l = 1 by omega, Nat.one_mul] at e1
          omega
        rw [if_neg this] at ih
        exact ih
  have := key (lvs w h) 0 zF zF zF (by omega) (fun l hl => absurd hl (Nat.not_lt_zero l))
  rw [if_neg (by omega), cdiv_0, cdiv_0] at this
  exact ⟨_, this⟩
