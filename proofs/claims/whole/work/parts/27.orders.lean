-- the orders go through all leaves
def wd (w l x : Nat) : Nat := if (x + 1) * 2 ^ l < w then 2 ^ l else w - x * 2 ^ l
theorem lvo_wd (w h l x y : Nat) : lvo w h l x y = wd w l x * wd h l y := rfl
theorem wd_s (w l x : Nat) : wd w (l + 1) x = wd w l (2 * x) + wd w l (2 * x + 1) := by
  unfold wd
  have e0 : 2 ^ (l + 1) = 2 * 2 ^ l := by rw [Nat.pow_succ, Nat.mul_comm]
  have e1 : (x + 1) * 2 ^ (l + 1) = 2 * (x * 2 ^ l) + 2 * 2 ^ l := by rw [e0, Nat.add_mul, Nat.mul_left_comm, Nat.one_mul]
  have e2 : x * 2 ^ (l + 1) = 2 * (x * 2 ^ l) := by rw [e0, Nat.mul_left_comm]
  have e3 : (2 * x + 1) * 2 ^ l = 2 * (x * 2 ^ l) + 2 ^ l := by rw [Nat.add_mul, Nat.mul_assoc, Nat.one_mul]
  have e4 : (2 * x + 1 + 1) * 2 ^ l = 2 * (x * 2 ^ l) + 2 * 2 ^ l := by rw [Nat.add_mul, Nat.add_mul, Nat.mul_assoc, Nat.one_mul]; omega
  have e5 : 2 * x * 2 ^ l = 2 * (x * 2 ^ l) := Nat.mul_assoc _ _ _
  rw [e1, e2, e3, e4, e5, e0]
  generalize x * 2 ^ l = q
  have hp := Nat.two_pow_pos l
  generalize 2 ^ l = p at hp
  (repeat' split) <;> omega
theorem lvo_s (w h l x y : Nat) : lvo w h (l + 1) x y = lvo w h l (2 * x) (2 * y) + lvo w h l (2 * x + 1) (2 * y) + lvo w h l (2 * x) (2 * y + 1) + lvo w h l (2 * x + 1) (2 * y + 1) := by
  simp only [lvo_wd]
  rw [wd_s w, wd_s h, Nat.add_mul, Nat.mul_add, Nat.mul_add]
  omega
theorem quart_in {w h : Nat} : ∀ (l x y k : Nat), k < lvo w h l x y → (quart w h l x y k).1 / 2 ^ l = x ∧ (quart w h l x y k).1 < w ∧ (quart w h l x y k).2 / 2 ^ l = y ∧ (quart w h l x y k).2 < h := by
  intro l
  induction l with
  | zero =>
    intro x y k hk
    have h1 : 0 < wd w 0 x := Nat.pos_of_ne_zero (fun e => by rw [lvo_wd, e, Nat.zero_mul] at hk; omega)
    have h2 : 0 < wd h 0 y := Nat.pos_of_ne_zero (fun e => by rw [lvo_wd, e, Nat.mul_zero] at hk; omega)
    unfold wd at h1 h2
    rw [Nat.pow_zero] at h1 h2 ⊢
    rw [Nat.mul_one, Nat.mul_one] at h1 h2
    show x / 1 = x ∧ x < w ∧ y / 1 = y ∧ y < h
    refine ⟨Nat.div_one x, ?_, Nat.div_one y, ?_⟩
    · split at h1 <;> omega
    · split at h2 <;> omega
  | succ l ih =>
    intro x y k hk
    rw [lvo_s] at hk
    have up : ∀ x' y' k' : Nat, x' / 2 = x → y' / 2 = y → k' < lvo w h l x' y' → (quart w h l x' y' k').1 / 2 ^ (l + 1) = x ∧ (quart w h l x' y' k').1 < w ∧ (quart w h l x' y' k').2 / 2 ^ (l + 1) = y ∧ (quart w h l x' y' k').2 < h := by
      intro x' y' k' f1 f2 hk'
      obtain ⟨r1, r2, r3, r4⟩ := ih x' y' k' hk'
      rw [Nat.pow_succ, ← Nat.div_div_eq_div_mul, ← Nat.div_div_eq_div_mul, r1, r3]
      exact ⟨f1, r2, f2, r4⟩
    unfold quart
    split
    · exact up _ _ _ (by omega) (by omega) (by omega)
    · split
      · exact up _ _ _ (by omega) (by omega) (by omega)
      · split
        · exact up _ _ _ (by omega) (by omega) (by omega)
        · exact up _ _ _ (by omega) (by omega) (by omega)
theorem quart_sur {w h x0 y0 : Nat} (hx : x0 < w) (hy : y0 < h) : ∀ l, ∃ k, k < lvo w h l (x0 / 2 ^ l) (y0 / 2 ^ l) ∧ quart w h l (x0 / 2 ^ l) (y0 / 2 ^ l) k = (x0, y0) := by
  intro l
  induction l with
  | zero =>
    refine ⟨0, ?_, ?_⟩
    · rw [lvo_wd]
      refine Nat.mul_pos ?_ ?_
      · unfold wd; rw [Nat.pow_zero, Nat.div_one, Nat.mul_one, Nat.mul_one]; split <;> omega
      · unfold wd; rw [Nat.pow_zero, Nat.div_one, Nat.mul_one, Nat.mul_one]; split <;> omega
    · show (x0 / 2 ^ 0, y0 / 2 ^ 0) = (x0, y0)
      rw [Nat.pow_zero, Nat.div_one, Nat.div_one]
  | succ l ih =>
    obtain ⟨k, hk, e⟩ := ih
    rw [lvo_s, Nat.pow_succ, ← Nat.div_div_eq_div_mul, ← Nat.div_div_eq_div_mul]
    generalize x0 / 2 ^ l = p at hk e
    generalize y0 / 2 ^ l = q at hk e
    unfold quart
    rcases Nat.mod_two_eq_zero_or_one p with p0 | p0 <;> rcases Nat.mod_two_eq_zero_or_one q with q0 | q0
    · have f1 : 2 * (p / 2) = p := by omega
      have f2 : 2 * (q / 2) = q := by omega
      rw [f1, f2]
      refine ⟨k, by omega, ?_⟩
      rw [if_pos hk]; exact e
    · have f1 : 2 * (p / 2) = p := by omega
      have f2 : 2 * (q / 2) + 1 = q := by omega
      rw [f1, f2]
      refine ⟨lvo w h l p (2 * (q / 2)) + lvo w h l (p + 1) (2 * (q / 2)) + k, by omega, ?_⟩
      rw [if_neg (by omega), if_neg (by omega), if_pos (by omega)]
      have f3 : lvo w h l p (2 * (q / 2)) + lvo w h l (p + 1) (2 * (q / 2)) + k - lvo w h l p (2 * (q / 2)) - lvo w h l (p + 1) (2 * (q / 2)) = k := by omega
      rw [f3]; exact e
    · have f1 : 2 * (p / 2) + 1 = p := by omega
      have f2 : 2 * (q / 2) = q := by omega
      rw [f1, f2]
      refine ⟨lvo w h l (2 * (p / 2)) q + k, by omega, ?_⟩
      rw [if_neg (by omega), if_pos (by omega)]
      have f3 : lvo w h l (2 * (p / 2)) q + k - lvo w h l (2 * (p / 2)) q = k := by omega
      rw [f3]; exact e
    · have f1 : 2 * (p / 2) + 1 = p := by omega
      have f2 : 2 * (q / 2) + 1 = q := by omega
      rw [f1, f2]
      refine ⟨lvo w h l (2 * (p / 2)) (2 * (q / 2)) + lvo w h l p (2 * (q / 2)) + lvo w h l (2 * (p / 2)) q + k, by omega, ?_⟩
      rw [if_neg (by omega), if_neg (by omega), if_neg (by omega)]
      have f3 : lvo w h l (2 * (p / 2)) (2 * (q / 2)) + lvo w h l p (2 * (q / 2)) + lvo w h l (2 * (p / 2)) q + k - lvo w h l (2 * (p / 2)) (2 * (q / 2)) - lvo w h l p (2 * (q / 2)) - lvo w h l (2 * (p / 2)) q = k := by omega
      rw [f3]; exact e
theorem lvs_pow {w h : Nat} (hd : dim w h) : w ≤ 2 ^ (lvs w h - 1) ∧ h ≤ 2 ^ (lvs w h - 1) := by
  obtain ⟨h1, h2, h3, h4⟩ := hd
  unfold lvs
  (repeat' split) <;> simp <;> omega
theorem lvo_root {w h : Nat} (hd : dim w h) : lvo w h (lvs w h - 1) 0 0 = w * h := by
  obtain ⟨h1, h2⟩ := lvs_pow hd
  rw [lvo_wd]
  unfold wd
  rw [if_neg (by omega), if_neg (by omega), Nat.zero_mul, Nat.sub_zero, Nat.sub_zero]
theorem ord_in {w h : Nat} (hd : dim w h) {o k : Nat} (hk : k < w * h) : ordX w h o k < w ∧ ordY w h o k < h := by
  match o with
  | 0 => exact ⟨Nat.mod_lt _ hd.1, Nat.div_lt_of_lt_mul hk⟩
  | 1 => exact ⟨Nat.div_lt_of_lt_mul (by rw [Nat.mul_comm]; exact hk), Nat.mod_lt _ hd.2.2.1⟩
  | o + 2 =>
    obtain ⟨-, q1, -, q2⟩ := quart_in (w := w) (h := h) (lvs w h - 1) 0 0 k (by rw [lvo_root hd]; exact hk)
    exact ⟨q1, q2⟩
theorem ord_sur {w h : Nat} (hd : dim w h) (o : Nat) {x y : Nat} (hx : x < w) (hy : y < h) : ∃ k, k < w * h ∧ ordX w h o k = x ∧ ordY w h o k = y := by
  match o with
  | 0 =>
    refine ⟨w * y + x, ?_, ?_, ?_⟩
    · have := Nat.mul_le_mul_left w (show y + 1 ≤ h from hy)
      rw [Nat.mul_add] at this
      omega
    · show (w * y + x) % w = x
      rw [Nat.mul_add_mod, Nat.mod_eq_of_lt hx]
    · show (w * y + x) / w = y
      rw [Nat.mul_add_div hd.1, Nat.div_eq_of_lt hx, Nat.add_zero]
  | 1 =>
    refine ⟨h * x + y, ?_, ?_, ?_⟩
    · have := Nat.mul_le_mul_left h (show x + 1 ≤ w from hx)
      rw [Nat.mul_add, Nat.mul_comm h w] at this
      omega
    · show (h * x + y) / h = x
      rw [Nat.mul_add_div hd.2.2.1, Nat.div_eq_of_lt hy, Nat.add_zero]
    · show (h * x + y) % h = y
      rw [Nat.mul_add_mod, Nat.mod_eq_of_lt hy]
  | o + 2 =>
    obtain ⟨k, hk, e⟩ := quart_sur hx hy (lvs w h - 1)
    obtain ⟨q1, q2⟩ := lvs_pow hd
    rw [Nat.div_eq_of_lt (by omega), Nat.div_eq_of_lt (by omega)] at hk e
    rw [lvo_root hd] at hk
    refine ⟨k, hk, ?_, ?_⟩
    · show (quart w h (lvs w h - 1) 0 0 k).1 = x
      rw [e]
    · show (quart w h (lvs w h - 1) 0 0 k).2 = y
      rw [e]
-- telling all leaves
def tellAll (w h : Nat) (V : Nat → Nat) (thr o : Nat) : Nat → cSt → cSt
  | 0, s => s
  | k + 1, s => tellC w h V thr (ordX w h o k) (ordY w h o k) (lvs w h) 0 (tellAll w h V thr o k s)
def belA (w h : Nat) (V : Nat → Nat) (thr : Nat) (s : cSt) : Nat := bel w h V thr s.1 s.2.1 (lvs w h) 0 0 0
theorem root_div {w h x y : Nat} (hd : dim w h) (hx : x < w) (hy : y < h) : ∀ j, lvs w h = j + 1 → 0 = x / 2 ^ j ∧ 0 = y / 2 ^ j := by
  intro j e
  obtain ⟨q1, q2⟩ := lvs_pow hd
  rw [e, Nat.add_sub_cancel] at q1 q2
  rw [Nat.div_eq_of_lt (by omega), Nat.div_eq_of_lt (by omega)]
  exact ⟨rfl, rfl⟩
theorem tellAll_b {w h : Nat} {V : Nat → Nat} {thr o : Nat} (hd : dim w h) (ht : treeV w h V) {s : cSt} (hb : ∀ n, n < nds w h → s.1 n ≤ V n) : ∀ k, k ≤ w * h → ∀ n, n < nds w h → (tellAll w h V thr o k s).1 n ≤ V n := by
  intro k
  induction k with
  | zero => intro _; exact hb
  | succ k ih =>
    intro hk
    obtain ⟨q1, q2⟩ := ord_in hd (o := o) (show k < w * h by omega)
    exact tellC_b ht q1 q2 _ _ _ (Nat.le_refl _) (abv_0 w h V _ _ _) (ih (by omega))
theorem tellAll_t {w h : Nat} {V : Nat → Nat} {thr o : Nat} (hd : dim w h) (ht : treeV w h V) {s : cSt} (hb : ∀ n, n < nds w h → s.1 n ≤ V n) : ∀ k, k ≤ w * h → (tellAll w h V thr o k s).2.2.1 + belA w h V thr (tellAll w h V thr o k s) = s.2.2.1 + belA w h V thr s := by
  intro k
  induction k with
  | zero => intro _; rfl
  | succ k ih =>
    intro hk
    have ih := ih (by omega)
    obtain ⟨q1, q2⟩ := ord_in hd (o := o) (show k < w * h by omega)
    have h1 := bel_tell (thr := thr) ht q1 q2 (lvs w h) 0 0 0 (tellAll w h V thr o k s) (Nat.le_refl _) (abv_0 w h V _ _ _) (tellAll_b hd ht hb k (by omega)) (root_div hd q1 q2)
    have h2 := tellC_t (V := V) (thr := thr) q1 q2 (lvs w h) 0 (tellAll w h V thr o k s)
    unfold belA at ih ⊢
    unfold tellAll
    omega
theorem tellAll_p {w h : Nat} {V : Nat → Nat} {thr o : Nat} (hd : dim w h) (ht : treeV w h V) {s : cSt} (hb : ∀ n, n < nds w h → s.1 n ≤ V n) : ∀ k, k ≤ w * h → ∀ j, j < k → pst w h thr (tellAll w h V thr o k s) (ordX w h o j) (ordY w h o j) := by
  intro k
  induction k with
  | zero => intro _ j hj; exact absurd hj (Nat.not_lt_zero _)
  | succ k ih =>
    intro hk j hj
    obtain ⟨q1, q2⟩ := ord_in hd (o := o) (show k < w * h by omega)
    obtain ⟨q3, q4⟩ := ord_in hd (o := o) (show j < w * h by omega)
    unfold tellAll
    rcases Nat.lt_or_ge j k with c | c
    · exact pst_stay q1 q2 q3 q4 (ih (by omega) j c)
    · have : j = k := by omega
      subst this
      exact pst_told ht q1 q2 (tellAll_b hd ht hb j (by omega))
theorem tellAll_cost {w h : Nat} {V : Nat → Nat} {thr o : Nat} (hd : dim w h) (ht : treeV w h V) {s : cSt} (hb : ∀ n, n < nds w h → s.1 n ≤ V n) : (tellAll w h V thr o (w * h) s).2.2.1 = s.2.2.1 + belA w h V thr s := by
  have h1 := tellAll_t (thr := thr) (o := o) hd ht hb (w * h) (Nat.le_refl _)
  have h2 : belA w h V thr (tellAll w h V thr o (w * h) s) = 0 := by
    refine bel_zero (fun x y hx hy => ?_) _ _ _ _ (Nat.le_refl _) (fun _ _ _ _ => Nat.zero_le _)
    obtain ⟨k, hk, e1, e2⟩ := ord_sur hd o hx hy
    have := tellAll_p (thr := thr) (o := o) hd ht hb (w * h) (Nat.le_refl _) k hk
    rw [e1, e2] at this
    exact this
  omega
theorem tellAll_le {w h : Nat} {V : Nat → Nat} {thr o : Nat} (hd : dim w h) (ht : treeV w h V) {s : cSt} (hb : ∀ n, n < nds w h → s.1 n ≤ V n) {k : Nat} (hk : k ≤ w * h) : (tellAll w h V thr o k s).2.2.1 ≤ s.2.2.1 + belA w h V thr s := by
  have := tellAll_t (thr := thr) (o := o) hd ht hb k hk
  omega
theorem belA_le {w h : Nat} {V : Nat → Nat} {thr : Nat} {s : cSt} (hV : ∀ n, n < nds w h → V n ≤ 1000) : belA w h V thr s ≤ 1366365 := Nat.le_trans (bel_le hV _ _ _ _ (Nat.le_refl _)) (bnd_le (lvs_le w h))
theorem sp_tellAll {w h : Nat} {S : vSH} (hS : okS w h S) {T : vTT} {V : Nat → Nat} {s : cSt} (hr : repC (nds w h) T V s) (hb : ∀ n, n < nds w h → s.1 n ≤ V n) (ht : treeV w h V) {thr o : Nat} (ho : o < 3) (hthr : thr ≤ 1001) (hroom : s.2.2.1 + belA w h V thr s ≤ 40000) {post : Int32 → vTT → Prop} {px : String → vTT → Prop} {ex : vTT → Int32 → Prop} {r3 : Int32} (hp : ∀ T' z, repC (nds w h) T' V (tellAll w h V thr o (w * h) s) → sameC T T' → ex T' z) : ∃ f, wp_X3_encodeAll_L37 post px ex (w * h) (nds w h) S r3 (nI o) (nI thr) f T 0 := by
  have hd := hS.1
  have hm := hd.mul
  have key : ∀ (r k : Nat) (T1 : vTT), k + r = w * h → repC (nds w h) T1 V (tellAll w h V thr o k s) → sameC T T1 → wp_X3_encodeAll_L37 post px ex (w * h) (nds w h) S r3 (nI o) (nI thr) (r + 1) T1 (nI k) := by
    intro r
    induction r with
    | zero =>
      intro k T1 hk hr1 hs1
      unfold wp_X3_encodeAll_L37
      rw [hS.2.1]
      have : k = w * h := by omega
      subst this
      refine ⟨fun _ => hp _ _ hr1 hs1, fun q => absurd ?_ q⟩
      exact (nI_leI (by omega) (by omega)).mpr (Nat.le_refl _)
    | succ r ih =>
      intro k T1 hk hr1 hs1
      unfold wp_X3_encodeAll_L37
      rw [hS.2.1]
      refine ⟨fun q => absurd ((nI_leI (by omega) (by omega)).mp q) (by omega), fun _ => ?_⟩
      refine sp_leafX hS ho (by omega) ?_
      refine sp_leafY hS ho (by omega) ?_
      obtain ⟨q1, q2⟩ := ord_in hd (o := o) (show k < w * h by omega)
      have hro := tellAll_le (thr := thr) (o := o) hd ht hb (show k + 1 ≤ w * h by omega)
      refine sp_tellLeaf hS hr1 (tellAll_b hd ht hb k (by omega)) ht q1 q2 hthr (Nat.le_trans hro hroom) (fun T2 hr2 hs2 => ?_)
      intro x hx
      rw [nI_1] at hx
      subst hx
      exact ih (k + 1) T2 (by omega) hr2 (hs1.tr hs2)
  exact ⟨w * h + 1, key (w * h) 0 T (by omega) hr (sameC.rf T)⟩
