-- the tree's measures
def cdiv (w l : Nat) : Nat := (w + 2 ^ l - 1) / 2 ^ l
def lvs (w h : Nat) : Nat := if w ≤ 1 ∧ h ≤ 1 then 1 else if w ≤ 2 ∧ h ≤ 2 then 2 else if w ≤ 4 ∧ h ≤ 4 then 3 else if w ≤ 8 ∧ h ≤ 8 then 4 else if w ≤ 16 ∧ h ≤ 16 then 5 else 6
def fstN (w h : Nat) : Nat → Nat
  | 0 => 0
  | l + 1 => fstN w h l + cdiv w l * cdiv h l
def nds (w h : Nat) : Nat := fstN w h (lvs w h)
def node (w h l x y : Nat) : Nat := fstN w h l + y * cdiv w l + x
def dim (w h : Nat) : Prop := 1 ≤ w ∧ w ≤ 32 ∧ 1 ≤ h ∧ h ≤ 32
theorem cdiv_tab : ∀ w, w ≤ 32 → ∀ l, l ≤ 7 → 1 ≤ w → 1 ≤ cdiv w l ∧ cdiv w l ≤ w ∧ cdiv w (l + 1) = (cdiv w l + 1) / 2 ∧ cdiv w 0 = w := by decide +kernel
theorem cdiv_0 (w : Nat) : cdiv w 0 = w := by unfold cdiv; simp
theorem cdiv_sh {w x l : Nat} (hx : x < w) : x / 2 ^ l < cdiv w l := by
  unfold cdiv
  have h2 : 0 < 2 ^ l := Nat.two_pow_pos l
  rw [Nat.div_lt_iff_lt_mul h2]
  have := Nat.div_add_mod (w + 2 ^ l - 1) (2 ^ l)
  have h3 := Nat.mod_lt (w + 2 ^ l - 1) h2
  have h4 : (w + 2 ^ l - 1) / 2 ^ l * 2 ^ l = 2 ^ l * ((w + 2 ^ l - 1) / 2 ^ l) := Nat.mul_comm _ _
  omega
theorem lvs_le (w h : Nat) : lvs w h ≤ 6 := by unfold lvs; (repeat' split) <;> omega
theorem lvs_pos (w h : Nat) : 1 ≤ lvs w h := by unfold lvs; (repeat' split) <;> omega
theorem fstN_mono {w h a b : Nat} (hab : a ≤ b) : fstN w h a ≤ fstN w h b := by
  induction hab with
  | refl => exact Nat.le_refl _
  | step _ ih => exact Nat.le_trans ih (Nat.le_add_right _ _)
theorem node_lt' {w h l x y : Nat} (hx : x < cdiv w l) (hy : y < cdiv h l) : node w h l x y < fstN w h (l + 1) := by
  show fstN w h l + y * cdiv w l + x < fstN w h l + cdiv w l * cdiv h l
  have : y * cdiv w l + cdiv w l ≤ cdiv w l * cdiv h l := by
    rw [Nat.mul_comm (cdiv w l)]
    have := Nat.mul_le_mul_right (cdiv w l) hy
    rw [Nat.succ_mul] at this
    exact this
  omega
theorem node_lt {w h l x y : Nat} (hl : l < lvs w h) (hx : x < cdiv w l) (hy : y < cdiv h l) : node w h l x y < nds w h := Nat.lt_of_lt_of_le (node_lt' hx hy) (fstN_mono hl)
theorem fstN_le {w h : Nat} (hd : dim w h) : ∀ l, l ≤ 6 → fstN w h l ≤ 1366 := by
  obtain ⟨h1, h2, h3, h4⟩ := hd
  have key : ∀ w, w ≤ 32 → ∀ l, l ≤ 5 → cdiv w l ≤ 2 ^ (5 - l) := by decide +kernel
  have m : ∀ l, l ≤ 5 → cdiv w l * cdiv h l ≤ 2 ^ (5 - l) * 2 ^ (5 - l) := fun l hl => Nat.mul_le_mul (key w h2 l hl) (key h h4 l hl)
  intro l hl
  have m0 : cdiv w 0 * cdiv h 0 ≤ 1024 := m 0 (by omega)
  have m1 : cdiv w 1 * cdiv h 1 ≤ 256 := m 1 (by omega)
  have m2 : cdiv w 2 * cdiv h 2 ≤ 64 := m 2 (by omega)
  have m3 : cdiv w 3 * cdiv h 3 ≤ 16 := m 3 (by omega)
  have m4 : cdiv w 4 * cdiv h 4 ≤ 4 := m 4 (by omega)
  have m5 : cdiv w 5 * cdiv h 5 ≤ 1 := m 5 (by omega)
  have e : fstN w h 6 ≤ 1366 := by
    show ((((((0 + cdiv w 0 * cdiv h 0) + cdiv w 1 * cdiv h 1) + cdiv w 2 * cdiv h 2) + cdiv w 3 * cdiv h 3) + cdiv w 4 * cdiv h 4) + cdiv w 5 * cdiv h 5) ≤ 1366
    omega
  exact Nat.le_trans (fstN_mono hl) e
theorem nds_le {w h : Nat} (hd : dim w h) : nds w h ≤ 1366 := fstN_le hd _ (lvs_le w h)
/-- two nodes are one only if they are of one level and place -/
theorem node_inj {w h l x y l' x' y' : Nat} (hx : x < cdiv w l) (hy : y < cdiv h l) (hx' : x' < cdiv w l') (hy' : y' < cdiv h l') (e : node w h l x y = node w h l' x' y') : l = l' ∧ x = x' ∧ y = y' := by
  have hl : l = l' := by
    rcases Nat.lt_trichotomy l l' with q | q | q
    · have a := node_lt' hx hy
      have b := fstN_mono (w := w) (h := h) (show l + 1 ≤ l' from q)
      have c : fstN w h l' ≤ node w h l' x' y' := by unfold node; omega
      omega
    · exact q
    · have a := node_lt' hx' hy'
      have b := fstN_mono (w := w) (h := h) (show l' + 1 ≤ l from q)
      have c : fstN w h l ≤ node w h l x y := by unfold node; omega
      omega
  subst hl
  have e2 : y * cdiv w l + x = y' * cdiv w l + x' := by unfold node at e; omega
  have hp : 0 < cdiv w l := by omega
  have e3 : (y * cdiv w l + x) % cdiv w l = (y' * cdiv w l + x') % cdiv w l := by rw [e2]
  rw [Nat.mul_comm y, Nat.mul_comm y', Nat.mul_add_mod, Nat.mul_add_mod, Nat.mod_eq_of_lt hx, Nat.mod_eq_of_lt hx'] at e3
  subst e3
  refine ⟨rfl, rfl, ?_⟩
  have : y * cdiv w l = y' * cdiv w l := by omega
  exact Nat.eq_of_mul_eq_mul_right hp this
-- the orders of leaves
def lvo (w h l x y : Nat) : Nat := (if (x + 1) * 2 ^ l < w then 2 ^ l else w - x * 2 ^ l) * (if (y + 1) * 2 ^ l < h then 2 ^ l else h - y * 2 ^ l)
def quart (w h : Nat) : Nat → Nat → Nat → Nat → Nat × Nat
  | 0, x, y, _ => (x, y)
  | l + 1, x, y, k =>
    if k < lvo w h l (2 * x) (2 * y) then quart w h l (2 * x) (2 * y) k
    else if k - lvo w h l (2 * x) (2 * y) < lvo w h l (2 * x + 1) (2 * y) then quart w h l (2 * x + 1) (2 * y) (k - lvo w h l (2 * x) (2 * y))
    else if k - lvo w h l (2 * x) (2 * y) - lvo w h l (2 * x + 1) (2 * y) < lvo w h l (2 * x) (2 * y + 1) then quart w h l (2 * x) (2 * y + 1) (k - lvo w h l (2 * x) (2 * y) - lvo w h l (2 * x + 1) (2 * y))
    else quart w h l (2 * x + 1) (2 * y + 1) (k - lvo w h l (2 * x) (2 * y) - lvo w h l (2 * x + 1) (2 * y) - lvo w h l (2 * x) (2 * y + 1))
def ordX (w h o k : Nat) : Nat := match o with
  | 0 => k % w
  | 1 => k / h
  | _ => (quart w h (lvs w h - 1) 0 0 k).1
def ordY (w h o k : Nat) : Nat := match o with
  | 0 => k / w
  | 1 => k % h
  | _ => (quart w h (lvs w h - 1) 0 0 k).2
/-- a shape as the class holds it -/
def okS (w h : Nat) (S : vSH) : Prop := dim w h ∧ S.1 = (nI w, nI h, nI (w * h), nI (lvs w h), nI (nds w h)) ∧ (∀ l, l < lvs w h → S.2.1.1 l = nI (cdiv w l) ∧ S.2.1.2.1 l = nI (cdiv h l) ∧ S.2.1.2.2 l = nI (fstN w h l)) ∧ ∀ o, o < 3 → ∀ k, k < w * h → S.2.2 o k = nI (32 * ordY w h o k + ordX w h o k) ∧ ordX w h o k < w ∧ ordY w h o k < h
def nodeIn (w h : Nat) (x1 x2 x3 : Int32) : Prop := ∃ l x y : Nat, l < lvs w h ∧ x < cdiv w l ∧ y < cdiv h l ∧ x1 = nI l ∧ x2 = nI x ∧ x3 = nI y
theorem dim.mul {w h : Nat} (hd : dim w h) : w * h ≤ 1024 := by
  have := Nat.mul_le_mul hd.2.1 hd.2.2.2
  omega
theorem cdiv_le {w h l : Nat} (hd : dim w h) (hl : l < lvs w h) : cdiv w l ≤ 32 ∧ cdiv h l ≤ 32 ∧ 1 ≤ cdiv w l ∧ 1 ≤ cdiv h l := by
  have h6 := lvs_le w h
  have a := cdiv_tab w hd.2.1 l (by omega) hd.1
  have b := cdiv_tab h hd.2.2.2 l (by omega) hd.2.2.1
  have := hd.2.1
  have := hd.2.2.2
  omega
theorem sp_hasNode {w h nl : Nat} {S : vSH} (hS : okS w h S) {x1 x2 x3 : Int32} {post : Int32 → Prop} (h0 : ¬ nodeIn w h x1 x2 x3 → post 0) (h1 : nodeIn w h x1 x2 x3 → post 1) : wp_X1_hasNode post nl S x1 x2 x3 := by
  obtain ⟨hd, e1, e2, -⟩ := hS
  have h6 := lvs_le w h
  unfold wp_X1_hasNode
  rw [e1]
  refine ⟨fun c => h0 (fun ⟨l, x, y, a1, a2, a3, b1, b2, b3⟩ => ?_), fun c1 => ?_⟩
  · rw [b1] at c; exact nI_pos (by omega) c
  obtain ⟨l, hl, rfl⟩ := nI_of c1
  show (nI (lvs w h) ≤ nI l → _) ∧ (¬ nI (lvs w h) ≤ nI l → _)
  rw [nI_leI (by omega) hl]
  refine ⟨fun c => h0 (fun ⟨l', x, y, a1, a2, a3, b1, b2, b3⟩ => ?_), fun c2 => ?_⟩
  · rw [nI_eq hl (by omega)] at b1; omega
  have hl6 : l < 6 := by omega
  obtain ⟨q1, q2, q3⟩ := e2 l (by omega)
  obtain ⟨d1, d2, -, -⟩ := cdiv_le hd (show l < lvs w h by omega)
  rw [nI_clamp hl, q1, q2]
  refine ⟨fun c => h0 (fun ⟨l', x, y, a1, a2, a3, b1, b2, b3⟩ => ?_), fun c3 => ?_⟩
  · rw [nI_eq hl (by omega)] at b1; subst b1
    rw [b2] at c; exact nI_pos (by omega) c
  obtain ⟨x, hx, rfl⟩ := nI_of c3
  refine ⟨vp_in_nI hl6 (by omega), ?_⟩
  rw [nI_leI (by omega) hx]
  refine ⟨fun c => h0 (fun ⟨l', x', y, a1, a2, a3, b1, b2, b3⟩ => ?_), fun c4 => ?_⟩
  · rw [nI_eq hl (by omega)] at b1; subst b1
    rw [nI_eq hx (by omega)] at b2; omega
  refine ⟨fun c => h0 (fun ⟨l', x', y, a1, a2, a3, b1, b2, b3⟩ => ?_), fun c5 => ?_⟩
  · rw [nI_eq hl (by omega)] at b1; subst b1
    rw [b3] at c; exact nI_pos (by omega) c
  obtain ⟨y, hy, rfl⟩ := nI_of c5
  refine ⟨vp_in_nI hl6 (by omega), ?_⟩
  rw [nI_leI (by omega) hy]
  refine ⟨fun c => h0 (fun ⟨l', x', y', a1, a2, a3, b1, b2, b3⟩ => ?_), fun c6 => ?_⟩
  · rw [nI_eq hl (by omega)] at b1; subst b1
    rw [nI_eq hy (by omega)] at b3; omega
  exact h1 ⟨l, x, y, by omega, by omega, by omega, rfl, rfl, rfl⟩
theorem sp_nodeAt {w h nl : Nat} {S : vSH} (hS : okS w h S) {l x y : Nat} (hl : l < lvs w h) {post : Int32 → Prop} (hp : post (nI (node w h l x y))) : wp_X1_nodeAt post nl S (nI l) (nI x) (nI y) := by
  obtain ⟨hd, e1, e2, -⟩ := hS
  have h6 := lvs_le w h
  obtain ⟨q1, q2, q3⟩ := e2 l hl
  refine ⟨vp_in_nI (by omega) (by omega), vp_in_nI (by omega) (by omega), ?_⟩
  rw [nI_clamp (by omega), q1, q3, pk_mul, nI_add, nI_add]
  exact hp
theorem sp_leafX {w h : Nat} {S : vSH} (hS : okS w h S) {o k : Nat} (ho : o < 3) (hk : k < w * h) {post : Int32 → Prop} (hp : post (nI (ordX w h o k))) : wp_X1_leafX post (w * h) S (nI o) (nI k) := by
  obtain ⟨hd, e1, -, e3⟩ := hS
  have hm := hd.mul
  obtain ⟨q1, q2, q3⟩ := e3 o ho k hk
  have := hd.2.1
  have := hd.2.2.2
  refine ⟨o, ho, rfl, vp_in_nI hk (by omega), ?_⟩
  rw [nI_clamp (by omega), q1, and31 (by omega), Nat.mul_add_mod, Nat.mod_eq_of_lt (by omega)]
  exact hp
theorem sp_leafY {w h : Nat} {S : vSH} (hS : okS w h S) {o k : Nat} (ho : o < 3) (hk : k < w * h) {post : Int32 → Prop} (hp : post (nI (ordY w h o k))) : wp_X1_leafY post (w * h) S (nI o) (nI k) := by
  obtain ⟨hd, e1, -, e3⟩ := hS
  have hm := hd.mul
  obtain ⟨q1, q2, q3⟩ := e3 o ho k hk
  have := hd.2.1
  have := hd.2.2.2
  refine ⟨o, ho, rfl, vp_in_nI hk (by omega), by decide, ?_⟩
  rw [nI_clamp (by omega), q1, show ((32 : Int32)) = nI 32 from rfl, pk_div (by omega) (by omega) (by omega), Nat.mul_add_div (by omega), Nat.div_eq_of_lt (by omega), Nat.add_zero]
  exact hp
