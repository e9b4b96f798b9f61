-- the class's constructor: nearest, the shape's levels
def clN (x : Int32) : Nat := if x < 1 then 1 else if 32 < x then 32 else x.toNatClampNeg
theorem clN_in (x : Int32) : 1 ≤ clN x ∧ clN x ≤ 32 := by
  unfold clN
  split
  · omega
  · rename_i c
    split
    · omega
    · rename_i d
      have c0 : ¬ x < 0 := fun q => c (Int32.lt_trans q (by decide))
      obtain ⟨j, hj, rfl⟩ := nI_of c0
      rw [nI_clamp hj]
      have e1 : ¬ j < 1 := fun q => c ((nI_ltI (b := 1) hj (by omega)).mpr q)
      have e2 : ¬ 32 < j := fun q => d ((nI_ltI (a := 32) (by omega) hj).mpr q)
      omega
theorem clN_eq (x : Int32) : nI (clN x) = if x < 1 then 1 else if 32 < x then 32 else x := by
  unfold clN
  split
  · rfl
  · rename_i c
    split
    · rfl
    · have c0 : ¬ x < 0 := fun q => c (Int32.lt_trans q (by decide))
      obtain ⟨j, hj, rfl⟩ := nI_of c0
      rw [nI_clamp hj]
theorem lle (a b : Int32) : a.toInt64 ≤ b.toInt64 ↔ a ≤ b := by
  rw [Int64.le_iff_toInt_le, Int32.le_iff_toInt_le, Int32.toInt_toInt64, Int32.toInt_toInt64]
theorem nlt32 {a b : Int32} : ¬ a ≤ b ↔ b < a := by rw [Int32.le_iff_toInt_le, Int32.lt_iff_toInt_lt]; omega
theorem sp_near {x : Int32} {post : Int32 → Prop} (hp : post (nI (clN x))) : wp_X3_nearest post x.toInt64 1 32 := by
  unfold wp_X3_nearest
  rw [lg_cmp_ge, lg_cmp_le, lle, lle, lg_l2i_i2l]
  rw [clN_eq] at hp
  refine ⟨fun c => ⟨fun d => ?_, fun d => ?_⟩, fun c => ?_⟩
  · rw [if_neg (fun q => absurd c (nlt32.mpr q)), if_neg (fun q => absurd d (nlt32.mpr q))] at hp; exact hp
  · rw [if_neg (fun q => absurd c (nlt32.mpr q)), if_pos (nlt32.mp d)] at hp; exact hp
  · rw [if_pos (nlt32.mp c)] at hp; exact hp
theorem one_shl : ∀ l, l < 6 → (1 : Int32) <<< (nI l &&& 31) = nI (2 ^ l) := by decide +kernel
theorem sp_halved {w l : Nat} (hw : w ≤ 32) (hl : l < 6) {post : Int32 → Prop} (hp : post (nI (cdiv w l))) : wp_X1_halved post (nI w) (nI l) := by
  unfold wp_X1_halved
  have h2 : 0 < 2 ^ l := Nat.two_pow_pos l
  have h3 : 2 ^ l ≤ 32 := Nat.le_trans (Nat.pow_le_pow_right (by omega) (show l ≤ 5 by omega)) (by decide)
  rw [one_shl l hl, nI_add, show (1 : Int32) = nI 1 from rfl, pk_sub (by omega), shrL (by omega) (by omega)]
  exact hp
theorem lvs_tab0 : ∀ w, w < 32 → ∀ h, h < 32 → ∀ l, l < 6 → l < lvs (w + 1) (h + 1) → (decide (cdiv (w + 1) l * cdiv (h + 1) l = 1) = decide (l + 1 = lvs (w + 1) (h + 1))) := by decide +kernel
theorem lvs_tab (w : Nat) (hw : w ≤ 32) (h : Nat) (hh : h ≤ 32) (w1 : 1 ≤ w) (h1 : 1 ≤ h) (l : Nat) (hl : l < lvs w h) : (cdiv w l * cdiv h l = 1 ↔ l + 1 = lvs w h) := by
  obtain ⟨w, rfl⟩ : ∃ v, w = v + 1 := ⟨w - 1, by omega⟩
  obtain ⟨h, rfl⟩ : ∃ v, h = v + 1 := ⟨h - 1, by omega⟩
  have h6 := lvs_le (w + 1) (h + 1)
  have := lvs_tab0 w (by omega) h (by omega) l (by omega) hl
  exact decide_eq_decide.mp this
def okL (w h : Nat) (F : (Nat → Int32) × (Nat → Int32) × (Nat → Int32)) (n : Nat) : Prop := ∀ l, l < n → F.1 l = nI (cdiv w l) ∧ F.2.1 l = nI (cdiv h l) ∧ F.2.2 l = nI (fstN w h l)
theorem okL.step {w h n : Nat} {F : (Nat → Int32) × (Nat → Int32) × (Nat → Int32)} (hF : okL w h F n) : okL w h (upd F.1 n (nI (cdiv w n)), upd F.2.1 n (nI (cdiv h n)), upd F.2.2 n (nI (fstN w h n))) (n + 1) := by
  intro l hl
  by_cases e : l = n
  · subst e; exact ⟨pk_us, pk_us, pk_us⟩
  · obtain ⟨h1, h2, h3⟩ := hF l (by omega)
    exact ⟨(pk_un e).trans h1, (pk_un e).trans h2, (pk_un e).trans h3⟩
theorem sp_levels {w h : Nat} (hd : dim w h) {post : vSH → Prop} {f7 : Int32} {ex : (Nat → Int32) → (Nat → Int32) → (Nat → Int32) → Int32 → Int32 → Int32 → Prop} (he : ∀ a b c z, okL w h (a, b, c) (lvs w h) → ex a b c z (nI (nds w h)) (nI (lvs w h))) : ∃ f, wp_X1_init_L53 post ex (nI w) (nI h) f7 f (fun _ => 0) (fun _ => 0) (fun _ => 0) 0 0 0 := by
  have h6 := lvs_le w h
  have h1 := lvs_pos w h
  have key : ∀ (r l : Nat) (a b c : Nat → Int32), l + r = lvs w h → okL w h (a, b, c) l → wp_X1_init_L53 post ex (nI w) (nI h) f7 (r + 1) a b c (if r = 0 then 1 else 0) (nI (fstN w h l)) (nI l) := by
    intro r
    induction r with
    | zero =>
      intro l a b c hl hF
      unfold wp_X1_init_L53
      have e : l = lvs w h := by omega
      subst e
      rw [if_pos rfl]
      exact ⟨fun _ => he _ _ _ _ hF, fun _ => ⟨fun q => absurd q (by decide), fun _ => he _ _ _ _ hF⟩⟩
    | succ r ih =>
      intro l a b c hl hF
      unfold wp_X1_init_L53
      rw [show (6 : Int32) = nI 6 from rfl, nI_leI (by omega) (by omega), if_neg (by omega)]
      obtain ⟨c1, c2, c3, c4⟩ := cdiv_le hd (show l < lvs w h by omega)
      have hin := vp_in_nI (show l < 6 by omega) (show 6 < 2 ^ 31 by omega)
      have htab := lvs_tab w hd.2.1 h hd.2.2.2 hd.1 hd.2.2.1 l (by omega)
      refine ⟨fun q => absurd q (by omega), fun _ => ⟨fun _ => ?_, fun q => absurd rfl q⟩⟩
      refine sp_halved hd.2.1 (by omega) ⟨hin, ?_⟩
      refine sp_halved hd.2.2.2 (by omega) ⟨hin, hin, hin, hin, ?_⟩
      rw [nI_clamp (by omega), pk_us, pk_us, pk_mul, nI_add]
      intro x4 hx4
      subst hx4
      refine ⟨hin, hin, ?_⟩
      have hmul := Nat.mul_le_mul c1 c2
      rw [show (1 : Int32) = nI 1 from rfl, nI_eq (by omega) (by omega), htab, nI_add]
      refine ⟨fun e x3 hx3 => ?_, fun e x3 hx3 => ?_⟩
      · subst hx3
        have := ih (l + 1) _ _ _ (by omega) hF.step
        rw [if_pos (by omega)] at this
        exact this
      · subst hx3
        have := ih (l + 1) _ _ _ (by omega) hF.step
        rw [if_neg (by omega)] at this
        exact this
  have := key (lvs w h) 0 (fun _ => 0) (fun _ => 0) (fun _ => 0) (by omega) (fun l hl => absurd hl (Nat.not_lt_zero l))
  rw [if_neg (by omega)] at this
  exact ⟨_, this⟩
-- rows and columns
theorem pair_inj {w x y x' y' : Nat} (hx : x < w) (hx' : x' < w) (e : y * w + x = y' * w + x') : x = x' ∧ y = y' := by
  have h1 : (y * w + x) % w = (y' * w + x') % w := by rw [e]
  rw [Nat.mul_comm y, Nat.mul_comm y', Nat.mul_add_mod, Nat.mul_add_mod, Nat.mod_eq_of_lt hx, Nat.mod_eq_of_lt hx'] at h1
  subst h1
  refine ⟨rfl, Nat.eq_of_mul_eq_mul_right (show 0 < w by omega) (by omega)⟩
theorem pair_lt {w h x y : Nat} (hx : x < w) (hy : y < h) : y * w + x < w * h := by
  have := Nat.mul_le_mul_right w (show y + 1 ≤ h from hy)
  rw [Nat.add_mul, Nat.one_mul, Nat.mul_comm h] at this
  omega
def rcOk (w h : Nat) (R : vRW) (y x : Nat) : Prop := ∀ y' x', y' < h → x' < w → (y' < y ∨ (y' = y ∧ x' < x)) → R.1 (y' * w + x') = nI (32 * y' + x') ∧ R.2.1 (x' * h + y') = nI (32 * y' + x')
theorem sp_fillRC {w h : Nat} (hd : dim w h) {Z : Int32 × Int32 × Int32 × Int32 × Int32} (hZ : Z.1 = nI w ∧ Z.2.1 = nI h) {F : (Nat → Int32) × (Nat → Int32) × (Nat → Int32)} {R : vRW} {post : vRW → Prop} (hp : ∀ R', rcOk w h R' h 0 → post R') : wp_X1_fillRowsAndColumns post (w * h) Z F R := by
  have hm := hd.mul
  obtain ⟨d1, d2, d3, d4⟩ := hd
  have row : ∀ (y : Nat), y < h → ∀ (ex : vRW → Int32 → Prop) (r x : Nat) (R : vRW), x + r = w → rcOk w h R y x → (∀ R' z, rcOk w h R' (y + 1) 0 → ex R' z) → wp_X1_fillRowsAndColumns_L12 post ex (w * h) Z F (nI y) (r + 1) R (nI x) := by
    intro y hy ex r
    induction r with
    | zero =>
      intro x R hx hR he
      unfold wp_X1_fillRowsAndColumns_L12
      rw [hZ.1, hZ.2, nI_leI (by omega) (by omega)]
      refine ⟨fun _ => he _ _ (fun y' x' q1 q2 q3 => hR y' x' q1 q2 (by omega)), fun c => absurd (by omega) c⟩
    | succ r ih =>
      intro x R hx hR he
      unfold wp_X1_fillRowsAndColumns_L12
      rw [hZ.1, hZ.2, nI_leI (by omega) (by omega)]
      have l1 := pair_lt (show x < w by omega) hy
      have l2 := pair_lt (w := h) (h := w) hy (show x < w by omega)
      rw [Nat.mul_comm h w] at l2
      rw [pk_mul, nI_add, pk_mul, nI_add, show (32 : Int32) = nI 32 from rfl, pk_mul, nI_add, nI_clamp (by omega), nI_clamp (by omega)]
      refine ⟨fun c => absurd c (by omega), fun _ => ⟨vp_in_nI l1 (by omega), vp_in_nI l2 (by omega), fun x2 hx2 => ?_⟩⟩
      rw [nI_1] at hx2
      subst hx2
      refine ih (x + 1) _ (by omega) (fun y' x' q1 q2 q3 => ?_) he
      by_cases e : y' = y ∧ x' = x
      · obtain ⟨e1, e2⟩ := e
        subst e1 e2
        exact ⟨pk_us, pk_us⟩
      · obtain ⟨g1, g2⟩ := hR y' x' q1 q2 (by omega)
        refine ⟨(pk_un ?_).trans g1, (pk_un ?_).trans g2⟩
        · intro q
          have := pair_inj q2 (show x < w by omega) q
          exact e ⟨this.2, this.1⟩
        · intro q
          have := pair_inj q1 hy q
          exact e this
  have all : ∀ (r y : Nat) (R : vRW), y + r = h → rcOk w h R y 0 → wp_X1_fillRowsAndColumns_L2 post (fun (R9_1 : vRW) (x1_2 : Int32) => post R9_1) (w * h) Z F (r + 1) R (nI y) := by
    intro r
    induction r with
    | zero =>
      intro y R hy hR
      unfold wp_X1_fillRowsAndColumns_L2
      rw [hZ.2, nI_leI (by omega) (by omega)]
      have e : y = h := by omega
      subst e
      exact ⟨fun _ => hp _ hR, fun c => absurd (by omega) c⟩
    | succ r ih =>
      intro y R hy hR
      unfold wp_X1_fillRowsAndColumns_L2
      rw [hZ.2, nI_leI (by omega) (by omega)]
      refine ⟨fun c => absurd c (by omega), fun _ => ⟨w + 1, row y (by omega) _ w 0 R (by omega) hR (fun R' z hR' => ?_)⟩⟩
      intro x1 hx1
      rw [nI_1] at hx1
      subst hx1
      exact ih (y + 1) R' (by omega) hR'
  exact ⟨h + 1, all h 0 R (by omega) (fun y' x' _ _ q => absurd q (by omega))⟩
-- by quarters
def eb (u : Nat) : Nat := u % 2 + 2 * (u / 4 % 2) + 4 * (u / 16 % 2) + 8 * (u / 64 % 2) + 16 * (u / 256 % 2) + 32 * (u / 1024 % 2)
def ebL (x0 : Int32) : Nat → Int32 → Int32 → Int32
  | 0, _, a => a
  | n + 1, i, a => ebL x0 n (i + 1) (a ||| (((x0 >>> ((2 * i) &&& 31)) &&& 1) <<< (i &&& 31)))
theorem eb_tab : ∀ u, u < 1024 → ebL (nI u) 6 0 0 = nI (eb u) := by decide +kernel
theorem eb_c : ∀ u, u < 256 → ∀ c, c < 4 → eb (4 * u + c) = 2 * eb u + c % 2 ∧ eb ((4 * u + c) / 2) = 2 * eb (u / 2) + c / 2 := by decide +kernel
theorem eb_lt (u : Nat) : eb u < 64 := by unfold eb; omega
theorem sp_esb {u : Nat} (hu : u < 1024) {post : Int32 → Prop} (hp : post (nI (eb u))) : wp_X1_everySecondBit post (nI u) := by
  have key : ∀ (r j : Nat) (a : Int32), j + r = 6 → post (ebL (nI u) r (nI j) a) → wp_X1_everySecondBit_L4 post (fun (x2_1 : Int32) (x1_2 : Int32) => post x1_2) (nI u) (r + 1) (nI j) a := by
    intro r
    induction r with
    | zero =>
      intro j a hj hq
      unfold wp_X1_everySecondBit_L4
      rw [show (6 : Int32) = nI 6 from rfl, nI_leI (by omega) (by omega)]
      exact ⟨fun _ => hq, fun c => absurd (by omega) c⟩
    | succ r ih =>
      intro j a hj hq
      unfold wp_X1_everySecondBit_L4
      rw [show (6 : Int32) = nI 6 from rfl, nI_leI (by omega) (by omega)]
      refine ⟨fun c => absurd c (by omega), fun _ x1 hx1 x2 hx2 => ?_⟩
      rw [nI_1] at hx2
      subst hx1 hx2
      refine ih (j + 1) _ (by omega) ?_
      unfold ebL at hq
      rw [nI_1] at hq
      exact hq
  refine ⟨7, key 6 0 0 rfl ?_⟩
  rw [show (nI 0) = 0 from rfl, eb_tab u hu]
  exact hp
def pq (p : Nat × Nat) : Int32 := nI (32 * p.2 + p.1)
def qOk (w h : Nat) (R R' : vRW) (k l x y : Nat) : Prop := R'.1 = R.1 ∧ R'.2.1 = R.2.1 ∧ (∀ j, j < k → R'.2.2 j = R.2.2 j) ∧ ∀ j, j < lvo w h l x y → R'.2.2 (k + j) = pq (quart w h l x y j)
theorem lvo_0 (w h x y : Nat) : lvo w h 0 x y = if x < w ∧ y < h then 1 else 0 := by
  rw [lvo_wd]
  unfold wd
  rw [Nat.pow_zero, Nat.mul_one, Nat.mul_one, Nat.mul_one, Nat.mul_one]
  by_cases c : x < w
  · have e : (if x + 1 < w then 1 else w - x) = 1 := by split <;> omega
    rw [e, Nat.one_mul]
    by_cases d : y < h
    · have e2 : (if y + 1 < h then 1 else h - y) = 1 := by split <;> omega
      rw [e2, if_pos ⟨c, d⟩]
    · have e2 : (if y + 1 < h then 1 else h - y) = 0 := by split <;> omega
      rw [e2, if_neg (fun q => d q.2)]
  · have e : (if x + 1 < w then 1 else w - x) = 0 := by split <;> omega
    rw [e, Nat.zero_mul, if_neg (fun q => c q.1)]
theorem sp_quart {w h : Nat} (hd : dim w h) {Z : Int32 × Int32 × Int32 × Int32 × Int32} (hZ : Z.1 = nI w ∧ Z.2.1 = nI h ∧ Z.2.2.1 = nI (w * h)) {F : (Nat → Int32) × (Nat → Int32) × (Nat → Int32)} {post : vRW → Prop} {ex : vRW → Int32 → Int32 → Prop} : ∀ (l u k fu : Nat) (R : vRW), 4 ^ l * (u + 1) ≤ 1024 → k + lvo w h l (eb u) (eb (u / 2)) ≤ w * h → (∀ R', qOk w h R R' k l (eb u) (eb (u / 2)) → wp_X1_fillQuarters_L4 post ex (w * h) Z F fu R' (nI (4 ^ l * (u + 1))) (nI (k + lvo w h l (eb u) (eb (u / 2))))) → wp_X1_fillQuarters_L4 post ex (w * h) Z F (fu + 4 ^ l) R (nI (4 ^ l * u)) (nI k) := by
  have hm := hd.mul
  obtain ⟨d1, d2, d3, d4⟩ := hd
  intro l
  induction l with
  | zero =>
    intro u k fu R hu hk hn
    rw [Nat.pow_zero, Nat.one_mul] at hu hn ⊢
    have el := eb_lt u
    have el2 := eb_lt (u / 2)
    unfold wp_X1_fillQuarters_L4
    rw [show (1024 : Int32) = nI 1024 from rfl, nI_leI (by omega) (by omega), pk_shrN (by omega) _ 1 (by decide +kernel)]
    refine ⟨fun c => absurd c (by omega), fun _ => sp_esb (by omega) (sp_esb (show u / 2 ^ 1 < 1024 by omega) ?_)⟩
    rw [Nat.pow_one, hZ.1, hZ.2.1, hZ.2.2, nI_leI (by omega) (by omega), nI_leI (by omega) (by omega), nI_leI (by omega) (by omega), nI_1]
    rw [lvo_0] at hk hn
    have none : ¬ (eb u < w ∧ eb (u / 2) < h) → wp_X1_fillQuarters_L4 post ex (w * h) Z F fu R (nI (u + 1)) (nI k) := by
      intro c
      rw [if_neg c, Nat.add_zero] at hn
      refine hn R ⟨rfl, rfl, fun _ _ => rfl, fun j hj => ?_⟩
      rw [lvo_0, if_neg c] at hj
      exact absurd hj (Nat.not_lt_zero _)
    refine ⟨fun c x2 h2 => ?_, fun c => ⟨fun c2 x2 h2 => ?_, fun c2 => ⟨fun c3 => ?_, fun c3 => ?_⟩⟩⟩
    · subst h2; exact none (by omega)
    · subst h2; exact none (by omega)
    · rw [if_pos ⟨by omega, by omega⟩] at hk
      exact absurd hk (by omega)
    · have c5 : eb u < w ∧ eb (u / 2) < h := ⟨by omega, by omega⟩
      rw [if_pos c5] at hn hk
      refine ⟨vp_in_nI (by omega) (by omega), fun x1 h1 x2 h2 => ?_⟩
      rw [nI_1] at h1
      subst h1 h2
      refine hn _ ⟨rfl, rfl, fun j hj => ?_, fun j hj => ?_⟩
      · rw [nI_clamp (by omega)]
        exact pk_un (by omega)
      · rw [lvo_0, if_pos c5] at hj
        have : j = 0 := by omega
        subst this
        rw [nI_clamp (by omega), Nat.add_zero, show (32 : Int32) = nI 32 from rfl, pk_mul, nI_add]
        exact pk_us
  | succ l ih =>
    intro u k fu R hu hk hn
    have e4 : 4 ^ (l + 1) = 4 * 4 ^ l := by rw [Nat.pow_succ, Nat.mul_comm]
    have hpos : 0 < 4 ^ l := Nat.pow_pos (by decide)
    have hu2 : u < 256 := by
      rw [e4] at hu
      have : 4 * (u + 1) ≤ 4 * 4 ^ l * (u + 1) := by
        rw [Nat.mul_assoc]
        refine Nat.mul_le_mul_left 4 ?_
        have := Nat.mul_le_mul_right (u + 1) hpos
        omega
      omega
    have b0 := eb_c u hu2 0 (by omega)
    have b1 := eb_c u hu2 1 (by omega)
    have b2 := eb_c u hu2 2 (by omega)
    have b3 := eb_c u hu2 3 (by omega)
    have hs := lvo_s w h l (eb u) (eb (u / 2))
    simp only [Nat.zero_mod, Nat.zero_div, Nat.add_zero, show 1 % 2 = 1 from rfl, show 1 / 2 = 0 from rfl, show 2 % 2 = 0 from rfl, show 2 / 2 = 1 from rfl, show 3 % 2 = 1 from rfl, show 3 / 2 = 1 from rfl] at b0 b1 b2 b3
    have m0 : 4 ^ (l + 1) * u = 4 ^ l * (4 * u) := by rw [e4, Nat.mul_comm 4, Nat.mul_assoc]
    have m1 : 4 ^ (l + 1) * (u + 1) = 4 ^ l * (4 * u + 3 + 1) := by rw [e4, Nat.mul_comm 4, Nat.mul_assoc, Nat.mul_add]
    have mono : ∀ c, c ≤ 3 → 4 ^ l * (4 * u + c + 1) ≤ 1024 := fun c hc => Nat.le_trans (Nat.mul_le_mul_left _ (by omega)) (m1 ▸ hu)
    have f4 : fu + 4 ^ (l + 1) = fu + 4 ^ l + 4 ^ l + 4 ^ l + 4 ^ l := by omega
    rw [m0, f4]
    rw [m1] at hn
    refine ih (4 * u) k _ R (mono 0 (by omega)) (by rw [b0.1, b0.2]; omega) (fun R1 q1 => ?_)
    rw [b0.1, b0.2] at q1 ⊢
    refine ih (4 * u + 1) _ _ R1 (mono 1 (by omega)) (by rw [b1.1, b1.2]; omega) (fun R2 q2 => ?_)
    rw [b1.1, b1.2] at q2 ⊢
    refine ih (4 * u + 2) _ _ R2 (mono 2 (by omega)) (by rw [b2.1, b2.2]; omega) (fun R3 q3 => ?_)
    rw [b2.1, b2.2] at q3 ⊢
    refine ih (4 * u + 3) _ _ R3 (mono 3 (by omega)) (by rw [b3.1, b3.2]; omega) (fun R4 q4 => ?_)
    rw [b3.1, b3.2] at q4 ⊢
    have := hn R4 ⟨q4.1.trans (q3.1.trans (q2.1.trans q1.1)), q4.2.1.trans (q3.2.1.trans (q2.2.1.trans q1.2.1)), fun j hj => ?_, fun j hj => ?_⟩
    · rw [hs, ← Nat.add_assoc, ← Nat.add_assoc, ← Nat.add_assoc] at this
      exact this
    · rw [q4.2.2.1 j (by omega), q3.2.2.1 j (by omega), q2.2.2.1 j (by omega), q1.2.2.1 j (by omega)]
    · rw [hs] at hj
      unfold quart
      split
      · rename_i c
        rw [q4.2.2.1 _ (by omega), q3.2.2.1 _ (by omega), q2.2.2.1 _ (by omega)]
        exact q1.2.2.2 j c
      · rename_i c
        split
        · rename_i c2
          rw [q4.2.2.1 _ (by omega), q3.2.2.1 _ (by omega)]
          have := q2.2.2.2 _ c2
          rw [show k + lvo w h l (2 * eb u) (2 * eb (u / 2)) + (j - lvo w h l (2 * eb u) (2 * eb (u / 2))) = k + j by omega] at this
          exact this
        · rename_i c2
          split
          · rename_i c3
            rw [q4.2.2.1 _ (by omega)]
            have := q3.2.2.2 _ c3
            rw [show k + lvo w h l (2 * eb u) (2 * eb (u / 2)) + lvo w h l (2 * eb u + 1) (2 * eb (u / 2)) + (j - lvo w h l (2 * eb u) (2 * eb (u / 2)) - lvo w h l (2 * eb u + 1) (2 * eb (u / 2))) = k + j by omega] at this
            exact this
          · rename_i c3
            have := q4.2.2.2 _ (show j - lvo w h l (2 * eb u) (2 * eb (u / 2)) - lvo w h l (2 * eb u + 1) (2 * eb (u / 2)) - lvo w h l (2 * eb u) (2 * eb (u / 2) + 1) < _ by omega)
            rw [show k + lvo w h l (2 * eb u) (2 * eb (u / 2)) + lvo w h l (2 * eb u + 1) (2 * eb (u / 2)) + lvo w h l (2 * eb u) (2 * eb (u / 2) + 1) + (j - lvo w h l (2 * eb u) (2 * eb (u / 2)) - lvo w h l (2 * eb u + 1) (2 * eb (u / 2)) - lvo w h l (2 * eb u) (2 * eb (u / 2) + 1)) = k + j by omega] at this
            exact this
theorem quart_up {w h l : Nat} (hw : w ≤ 2 ^ l) (hh : h ≤ 2 ^ l) : ∀ (d k : Nat), k < w * h → quart w h (l + d) 0 0 k = quart w h l 0 0 k := by
  intro d
  induction d with
  | zero => intro k _; rfl
  | succ d ih =>
    intro k hk
    have hp : 2 ^ l ≤ 2 ^ (l + d) := Nat.pow_le_pow_right (by omega) (by omega)
    have e : lvo w h (l + d) 0 0 = w * h := by
      rw [lvo_wd]
      unfold wd
      rw [if_neg (by omega), if_neg (by omega), Nat.zero_mul, Nat.sub_zero, Nat.sub_zero]
    have q : quart w h (l + d + 1) 0 0 k = quart w h (l + d) 0 0 k := by
      rw [quart, Nat.mul_zero, e, if_pos hk]
    exact q.trans (ih k hk)
theorem sp_fillQ {w h : Nat} (hd : dim w h) {Z : Int32 × Int32 × Int32 × Int32 × Int32} (hZ : Z.1 = nI w ∧ Z.2.1 = nI h ∧ Z.2.2.1 = nI (w * h)) {F : (Nat → Int32) × (Nat → Int32) × (Nat → Int32)} {R : vRW} {post : vRW → Prop} (hp : ∀ R', R'.1 = R.1 → R'.2.1 = R.2.1 → (∀ j, j < w * h → R'.2.2 j = pq (quart w h (lvs w h - 1) 0 0 j)) → post R') : wp_X1_fillQuarters post (w * h) Z F R := by
  have hm := hd.mul
  have h6 := lvs_le w h
  have e0 : eb 0 = 0 := by decide
  have e5 : lvo w h 5 0 0 = w * h := by
    rw [lvo_wd]
    unfold wd
    obtain ⟨d1, d2, d3, d4⟩ := hd
    rw [if_neg (by omega), if_neg (by omega), Nat.zero_mul, Nat.sub_zero, Nat.sub_zero]
  refine ⟨1 + 4 ^ 5, ?_⟩
  have := sp_quart hd hZ (F := F) (post := post) (ex := fun (R9_1 : vRW) (x2_2 : Int32) (x1_3 : Int32) => post R9_1) 5 0 0 1 R (by decide) (by rw [show 0 / 2 = 0 from rfl, e0, e5]; omega) (fun R' q => ?_)
  · rw [Nat.mul_zero] at this
    exact this
  · rw [show 0 / 2 = 0 from rfl, e0] at q
    unfold wp_X1_fillQuarters_L4
    refine ⟨fun _ => hp R' q.1 q.2.1 (fun j hj => ?_), fun c => absurd (by decide) c⟩
    have := q.2.2.2 j (by rw [e5]; exact hj)
    rw [Nat.zero_add] at this
    rw [this]
    obtain ⟨w1, w2⟩ := lvs_pow hd
    have := quart_up w1 w2 (5 - (lvs w h - 1)) j hj
    rw [show lvs w h - 1 + (5 - (lvs w h - 1)) = 5 by omega] at this
    rw [this]
theorem sp_X1_init {w h : Nat} (hd : dim w h) {post : vSH → Prop} (hp : ∀ S, okS w h S → post S) : wp_X1_init post (nI w) (nI h) := by
  intro f7 hf7
  rw [pk_mul] at hf7
  subst hf7
  have hm := hd.mul
  refine sp_levels hd (fun a b c z hF => ⟨nI_pos (by omega), ?_, ?_⟩)
  · rw [nI_clamp (by omega)]; exact hm
  · rw [nI_clamp (by omega)]
    refine sp_fillRC hd ⟨rfl, rfl⟩ (fun R1 hR1 => ?_)
    refine sp_fillQ hd ⟨rfl, rfl, rfl⟩ (fun R2 e1 e2 hq => ?_)
    refine hp _ ⟨hd, rfl, hF, fun o ho k hk => ⟨?_, ord_in hd hk⟩⟩
    match o, ho with
    | 0, _ =>
      have := (hR1 (k / w) (k % w) (Nat.div_lt_of_lt_mul hk) (Nat.mod_lt _ hd.1) (Or.inl (Nat.div_lt_of_lt_mul hk))).1
      rw [Nat.mul_comm (k / w), Nat.div_add_mod, ← e1] at this
      exact this
    | 1, _ =>
      have hk2 : k / h < w := Nat.div_lt_of_lt_mul (by rw [Nat.mul_comm]; exact hk)
      have := (hR1 (k % h) (k / h) (Nat.mod_lt _ hd.2.2.1) hk2 (Or.inl (Nat.mod_lt _ hd.2.2.1))).2
      rw [Nat.mul_comm (k / h), Nat.div_add_mod, ← e2] at this
      exact this
    | 2, _ => exact hq k hk
