-- a side: bounds, and which values are known
def cnt (k : Nat → Bool) : Nat → Nat
  | 0 => 0
  | n + 1 => cnt k n + (k n).toNat
theorem cnt_le (k : Nat → Bool) : ∀ n, cnt k n ≤ n
  | 0 => Nat.le_refl _
  | n + 1 => by
    have := cnt_le k n
    show cnt k n + (k n).toNat ≤ n + 1
    cases k n <;> simp <;> omega
theorem cnt_congr {k k' : Nat → Bool} : ∀ {n : Nat}, (∀ i, i < n → k i = k' i) → cnt k n = cnt k' n
  | 0, _ => rfl
  | n + 1, h => by
    show cnt k n + (k n).toNat = cnt k' n + (k' n).toNat
    rw [cnt_congr (fun i hi => h i (by omega)), h n (by omega)]
/-- f with the value v at n -/
def setN {α : Type} (f : Nat → α) (n : Nat) (v : α) : Nat → α := fun i => if i = n then v else f i
theorem setN_s {α : Type} {f : Nat → α} {n : Nat} {v : α} : setN f n v n = v := if_pos rfl
theorem setN_n {α : Type} {f : Nat → α} {n i : Nat} {v : α} (h : i ≠ n) : setN f n v i = f i := if_neg h
theorem setN_id {α : Type} {f : Nat → α} {n : Nat} {v : α} (h : f n = v) : setN f n v = f := by
  funext i
  by_cases e : i = n
  · subst e; rw [setN_s, h]
  · rw [setN_n e]
theorem cnt_set {k : Nat → Bool} {j : Nat} : ∀ {n : Nat}, j < n → k j = false → cnt (setN k j true) n = cnt k n + 1
  | 0, h, _ => absurd h (Nat.not_lt_zero _)
  | n + 1, h, hk => by
    show cnt (setN k j true) n + (setN k j true n).toNat = cnt k n + (k n).toNat + 1
    by_cases e : j = n
    · subst e
      rw [setN_s, hk, cnt_congr (k' := k) (fun i hi => setN_n (by omega))]
      rfl
    · rw [cnt_set (by omega) hk, setN_n (Ne.symm e)]
      omega
def SDok (nn : Nat) (D : vSD) (b : Nat → Nat) (k : Nat → Bool) : Prop := (∀ n, n < nn → D.1 n = nI (b n) ∧ b n ≤ 1001 ∧ D.2.1 n = nI (k n).toNat) ∧ D.2.2 = nI (cnt k nn)
theorem toNat_lt (b : Bool) : b.toNat < 2 := by cases b <;> decide
theorem nI_b0 (b : Bool) : (nI b.toNat = 0) ↔ b = false := by cases b <;> decide
theorem nar_b (b : Bool) : vp_nar .boolean (nI b.toNat) = nI b.toNat := by cases b <;> decide
theorem SDok.setB {nn : Nat} {D : vSD} {b : Nat → Nat} {k : Nat → Bool} (h : SDok nn D b k) {n v : Nat} (hv : v ≤ 1001) : SDok nn (upd D.1 n (nI v), D.2.1, D.2.2) (setN b n v) k := by
  refine ⟨fun i hi => ?_, h.2⟩
  obtain ⟨h1, h2, h3⟩ := h.1 i hi
  by_cases e : i = n
  · subst e
    refine ⟨?_, by rw [setN_s]; exact hv, h3⟩
    rw [setN_s]; exact pk_us
  · refine ⟨?_, by rw [setN_n e]; exact h2, h3⟩
    rw [setN_n e, ← h1]; exact pk_un e
theorem sp_find {nn : Nat} {D : vSD} {b : Nat → Nat} {k : Nat → Bool} (h : SDok nn D b k) (hnn : nn < 2 ^ 30) {n : Nat} (hn : n < nn) {post : vSD → Prop} (hp : ∀ D', SDok nn D' b (setN k n true) → D'.1 = D.1 → post D') : wp_X2_find post nn D (nI n) := by
  obtain ⟨h1, h2, h3⟩ := h.1 n hn
  have hi := vp_in_nI hn (show nn < 2 ^ 31 by omega)
  refine ⟨hi, ?_⟩
  rw [nI_clamp (by omega), h3, nI_b0]
  refine ⟨fun c => ⟨hi, fun f hf => ?_⟩, fun c => ?_⟩
  · refine hp _ ⟨fun i hi => ?_, ?_⟩ rfl
    · obtain ⟨g1, g2, g3⟩ := h.1 i hi
      refine ⟨g1, g2, ?_⟩
      by_cases e : i = n
      · subst e
        rw [setN_s]; exact pk_us.trans (by decide)
      · rw [setN_n e, ← g3]; exact pk_un e
    · show f = _
      rw [hf, h.2, nI_1, cnt_set hn c]
  · have c' : k n = true := by cases e : k n with | true => rfl | false => exact absurd e c
    refine hp _ ?_ rfl
    rw [setN_id c']; exact h
theorem sp_forget {nn : Nat} {D : vSD} {b : Nat → Nat} {k : Nat → Bool} (h : SDok nn D b k) (hnn : nn < 2 ^ 30) {post : vSD → Prop} (hp : ∀ D', SDok nn D' (fun _ => 0) (fun _ => false) → post D') : wp_X2_forget post nn D := by
  have key : ∀ (r i : Nat), i + r = nn → ∀ D' : vSD, (∀ j, j < i → D'.1 j = 0 ∧ D'.2.1 j = 0) → wp_X2_forget_L2 post (fun (D_1 : vSD) (x1_2 : Int32) => post (D_1.1, D_1.2.1, 0)) nn (r + 1) D' (nI i) := by
    intro r
    induction r with
    | zero =>
      intro i hi D' hD
      unfold wp_X2_forget_L2
      rw [nI_leI (by omega) (by omega)]
      refine ⟨fun _ => hp _ ⟨fun n hn => ?_, ?_⟩, fun c => absurd (by omega) c⟩
      · obtain ⟨q1, q2⟩ := hD n (by omega)
        exact ⟨q1, Nat.zero_le _, q2⟩
      · show (0 : Int32) = nI (cnt (fun _ => false) nn)
        have z : ∀ n, cnt (fun _ => false) n = 0 := fun n => by induction n with | zero => rfl | succ n ih => show cnt _ n + 0 = 0; rw [ih]
        rw [z]; rfl
    | succ r ih =>
      intro i hi D' hD
      unfold wp_X2_forget_L2
      rw [nI_leI (by omega) (by omega)]
      have hin := vp_in_nI (show i < nn by omega) (show nn < 2 ^ 31 by omega)
      refine ⟨fun c => absurd c (by omega), fun _ => ⟨fun c => absurd c (by omega), fun _ => ⟨hin, hin, fun x hx => ?_⟩⟩⟩
      rw [nI_1] at hx
      subst hx
      rw [nI_clamp (by omega)]
      refine ih (i + 1) (by omega) _ (fun j hj => ?_)
      by_cases e : j = i
      · subst e
        exact ⟨pk_us, pk_us.trans (by decide)⟩
      · obtain ⟨q1, q2⟩ := hD j (by omega)
        exact ⟨(pk_un e).trans q1, (pk_un e).trans q2⟩
  exact ⟨nn + 1, key nn 0 (by omega) D (fun j hj => absurd hj (Nat.not_lt_zero j))⟩
-- telling a node: the coder
def cAft (v b : Nat) (k : Bool) (a thr : Nat) : Nat := if max a b < thr ∧ k = false then min v thr else max a b
def cKn (v b : Nat) (k : Bool) (a thr : Nat) : Bool := k || (decide (max a b < thr) && decide (v < thr))
def cBits (v b : Nat) (k : Bool) (a thr : Nat) : Nat := if max a b < thr ∧ k = false then (min v thr - max a b) + (if v < thr then 1 else 0) else 0
theorem nI_max {a b : Nat} (ha : a < 2 ^ 31) (hb : b < 2 ^ 31) : (if nI a < nI b then nI b else nI a) = nI (max a b) := by
  by_cases h : a < b
  · rw [if_pos ((nI_ltI ha hb).mpr h), Nat.max_eq_right (by omega)]
  · rw [if_neg (fun q => h ((nI_ltI ha hb).mp q)), Nat.max_eq_left (by omega)]
theorem nI_min {a b : Nat} (ha : a < 2 ^ 31) (hb : b < 2 ^ 31) : (if nI b < nI a then nI b else nI a) = nI (min a b) := by
  by_cases h : b < a
  · rw [if_pos ((nI_ltI hb ha).mpr h), Nat.min_eq_right (by omega)]
  · rw [if_neg (fun q => h ((nI_ltI hb ha).mp q)), Nat.min_eq_left (by omega)]
/-- what the class's coder holds -/
def okV (nn : Nat) (f : Nat → Int32) (V : Nat → Nat) : Prop := ∀ n, n < nn → f n = nI (V n) ∧ V n ≤ 1000
theorem sp_hasBits {nl nn : Nat} {S : vSH} {T : vTT} {b : Nat → Nat} {k : Nat → Bool} (h : SDok nn T.2.1 b k) (hnn : nn < 2 ^ 30) {n g thr : Nat} (hn : n < nn) (hg : g < 2 ^ 30) (ht : thr < 2 ^ 30) {post : Int32 → Prop} (h0 : ¬ (g < thr ∧ k n = false) → post 0) (h1 : g < thr ∧ k n = false → post 1) : wp_X3_hasBits post nl nn S T (nI n) (nI g) (nI thr) := by
  obtain ⟨g1, g2, g3⟩ := h.1 n hn
  unfold wp_X3_hasBits
  rw [nI_leI (by omega) (by omega), nI_clamp (by omega), g3, nI_b0]
  exact ⟨fun c => h0 (by omega), fun c => ⟨vp_in_nI hn (by omega), fun e => h1 ⟨by omega, e⟩, fun e => h0 (fun q => e q.2)⟩⟩
theorem sp_boundAfter {nl nn : Nat} {S : vSH} {T : vTT} {V b : Nat → Nat} {k : Nat → Bool} (h : SDok nn T.2.1 b k) (hV : okV nn T.1 V) (hnn : nn < 2 ^ 30) {n g thr : Nat} (hn : n < nn) (hg : g < 2 ^ 30) (ht : thr < 2 ^ 30) {post : Int32 → Prop} (hp : post (nI (if g < thr ∧ k n = false then min (V n) thr else g))) : wp_X3_boundAfter post nl nn S T (nI n) (nI g) (nI thr) := by
  obtain ⟨v1, v2⟩ := hV n hn
  refine sp_hasBits h hnn hn hg ht (fun c => ?_) (fun c => ?_)
  · rw [if_neg c] at hp
    exact ⟨fun _ => hp, fun q => absurd rfl q⟩
  · rw [if_pos c] at hp
    refine ⟨fun q => absurd q (by decide), fun _ => ⟨vp_in_nI hn (by omega), ?_⟩⟩
    rw [nI_clamp (by omega), v1, nI_min (by omega) (by omega)]
    exact hp
theorem sp_costOfNode {nl nn : Nat} {S : vSH} {T : vTT} {V b : Nat → Nat} {k : Nat → Bool} (h : SDok nn T.2.1 b k) (hV : okV nn T.1 V) (hnn : nn < 2 ^ 30) {n g thr : Nat} (hn : n < nn) (hg : g ≤ V n) (ht : thr < 2 ^ 30) {post : Int32 → Prop} (hp : post (nI (if g < thr ∧ k n = false then (min (V n) thr - g) + (if V n < thr then 1 else 0) else 0))) : wp_X3_costOfNode post nl nn S T (nI n) (nI g) (nI thr) := by
  obtain ⟨v1, v2⟩ := hV n hn
  refine sp_hasBits h hnn hn (by omega) ht (fun c => ?_) (fun c => ?_)
  · rw [if_neg c] at hp
    exact ⟨fun _ => hp, fun q => absurd rfl q⟩
  · rw [if_pos c] at hp
    refine ⟨fun q => absurd q (by decide), fun _ => ?_⟩
    refine sp_boundAfter h hV hnn hn (by omega) ht ?_
    rw [if_pos c]
    intro x hx
    rw [pk_sub (by omega)] at hx
    subst hx
    refine ⟨vp_in_nI hn (by omega), ?_⟩
    rw [nI_clamp (by omega), v1, nI_leI (by omega) (by omega)]
    refine ⟨fun q => ?_, fun q => ?_⟩
    · rw [if_neg (by omega)] at hp; exact hp
    · rw [if_pos (by omega)] at hp; rw [nI_1]; exact hp
