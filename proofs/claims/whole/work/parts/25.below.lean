-- the cost of a node and of all below it
def bel (w h : Nat) (V : Nat → Nat) (thr : Nat) (b : Nat → Nat) (k : Nat → Bool) : Nat → Nat → Nat → Nat → Nat
  | 0, _, _, _ => 0
  | l + 1, x, y, a => if x < cdiv w l ∧ y < cdiv h l then
      cBits (V (node w h l x y)) (b (node w h l x y)) (k (node w h l x y)) a thr
        + bel w h V thr b k l (2 * x) (2 * y) (cAft (V (node w h l x y)) (b (node w h l x y)) (k (node w h l x y)) a thr)
        + bel w h V thr b k l (2 * x + 1) (2 * y) (cAft (V (node w h l x y)) (b (node w h l x y)) (k (node w h l x y)) a thr)
        + bel w h V thr b k l (2 * x) (2 * y + 1) (cAft (V (node w h l x y)) (b (node w h l x y)) (k (node w h l x y)) a thr)
        + bel w h V thr b k l (2 * x + 1) (2 * y + 1) (cAft (V (node w h l x y)) (b (node w h l x y)) (k (node w h l x y)) a thr)
    else 0
def bnd : Nat → Nat
  | 0 => 0
  | l + 1 => 1001 + 4 * bnd l
theorem bel_le {w h : Nat} {V : Nat → Nat} (hV : ∀ n, n < nds w h → V n ≤ 1000) {thr : Nat} {b : Nat → Nat} {k : Nat → Bool} : ∀ (l x y a : Nat), l ≤ lvs w h → bel w h V thr b k l x y a ≤ bnd l := by
  intro l
  induction l with
  | zero => intro x y a _; exact Nat.le_refl _
  | succ l ih =>
    intro x y a hl
    unfold bel
    split
    · rename_i c
      have h0 := cBits_le (b := b (node w h l x y)) (a := a) (thr := thr) (k := k (node w h l x y)) (hV _ (node_lt (show l < lvs w h by omega) c.1 c.2))
      have h1 := ih (2 * x) (2 * y) (cAft (V (node w h l x y)) (b (node w h l x y)) (k (node w h l x y)) a thr) (by omega)
      have h2 := ih (2 * x + 1) (2 * y) (cAft (V (node w h l x y)) (b (node w h l x y)) (k (node w h l x y)) a thr) (by omega)
      have h3 := ih (2 * x) (2 * y + 1) (cAft (V (node w h l x y)) (b (node w h l x y)) (k (node w h l x y)) a thr) (by omega)
      have h4 := ih (2 * x + 1) (2 * y + 1) (cAft (V (node w h l x y)) (b (node w h l x y)) (k (node w h l x y)) a thr) (by omega)
      show _ ≤ 1001 + 4 * bnd l
      omega
    · exact Nat.zero_le _
theorem bnd_le {l : Nat} (h : l ≤ 6) : bnd l ≤ 1366365 := by
  have : ∀ l, l ≤ 6 → bnd l ≤ 1366365 := by decide +kernel
  exact this l h
theorem ch_x (x : Nat) (i : Int32) (j : Nat) (h : i = nI j) : 2 * nI x + i = nI (2 * x + j) := by
  rw [h, show (2 : Int32) = nI 2 from rfl, pk_mul, nI_add]
theorem sp_costBelow {w h nl : Nat} {S : vSH} (hS : okS w h S) {T : vTT} {V : Nat → Nat} {s : cSt} (hr : repC (nds w h) T V s) (hb : ∀ n, n < nds w h → s.1 n ≤ V n) (ht : treeV w h V) {thr : Nat} (hthr : thr ≤ 1001) : ∀ (l x y a d : Nat) (post : Int32 → Prop), l ≤ lvs w h → l < d → x ≤ 64 → y ≤ 64 → a ≤ 1001 → (∀ j, l = j + 1 → x < cdiv w j → y < cdiv h j → a ≤ V (node w h j x y)) → post (nI (bel w h V thr s.1 s.2.1 l x y a)) → wp_X3_costBelow nl (nds w h) S T d post (nI l - 1) (nI x) (nI y) (nI a) (nI thr) := by
  have hd := hS.1
  have h6 := lvs_le w h
  have hN := nds_le hd
  obtain ⟨hV, hD, -⟩ := hr
  intro l
  induction l with
  | zero =>
    intro x y a d post _ hdl _ _ _ _ hp
    obtain ⟨d, rfl⟩ : ∃ e, d = e + 1 := ⟨d - 1, by omega⟩
    unfold wp_X3_costBelow
    refine sp_hasNode hS (fun _ => ⟨fun _ => hp, fun q => absurd rfl q⟩) (fun ⟨l', x', y', a1, a2, a3, b1, b2, b3⟩ => ?_)
    exfalso
    have : nI l' < 0 := by rw [← b1]; decide
    exact nI_pos (by omega) this
  | succ l ih =>
    intro x y a d post hl hdl hx hy ha hab hp
    obtain ⟨d, rfl⟩ : ∃ e, d = e + 1 := ⟨d - 1, by omega⟩
    unfold wp_X3_costBelow
    rw [nI_pred]
    obtain ⟨c1, c2, c3, c4⟩ := cdiv_le hd (show l < lvs w h by omega)
    refine sp_hasNode hS (fun c => ⟨fun _ => ?_, fun q => absurd rfl q⟩) (fun ⟨l', x', y', a1, a2, a3, b1, b2, b3⟩ => ⟨fun q => absurd q (by decide), fun _ => ?_⟩)
    · unfold bel at hp
      rw [if_neg (fun q => c ⟨l, x, y, by omega, q.1, q.2, rfl, rfl, rfl⟩)] at hp
      exact hp
    rw [nI_eq (by omega) (by omega)] at b1
    subst b1
    obtain ⟨e1, e2, -, -⟩ := cdiv_le hd a1
    rw [nI_eq (by omega) (by omega)] at b2 b3
    subst b2 b3
    unfold bel at hp
    rw [if_pos ⟨a2, a3⟩] at hp
    refine sp_nodeAt hS a1 ?_
    have hn := node_lt a1 a2 a3
    have hav := hab l rfl a2 a3
    have htr : ∀ j x' y' : Nat, l = j + 1 → x' / 2 = x → y' / 2 = y → x' < cdiv w j → y' < cdiv h j → V (node w h l x y) ≤ V (node w h j x' y') := by
      intro j x' y' e f1 f2 q1 q2
      have := ht j x' y' (by omega) q1 q2
      rw [f1, f2, ← e] at this
      exact this
    generalize node w h l x y = n at hn hav hp htr
    have hbv := hb _ hn
    obtain ⟨d1, d2, d3⟩ := hD.1 _ hn
    obtain ⟨v1, v2⟩ := hV _ hn
    refine ⟨vp_in_nI hn (by omega), ?_⟩
    rw [nI_clamp (by omega), d1, nI_max (by omega) (by omega)]
    intro x7 hx7
    subst hx7
    refine sp_costOfNode hD hV (by omega) hn (by omega) (by omega) ?_
    refine sp_boundAfter hD hV (by omega) hn (by omega) (by omega) ?_
    have hm : max a (s.1 n) ≤ V n := by omega
    have hc2 := cAft_le (thr := thr) (k := s.2.1 n) hm
    show ∃ n_10 : Nat, wp_X3_costBelow_L71 post _ _ nl (nds w h) S T (nI (cAft (V n) (s.1 n) (s.2.1 n) a thr)) _ _ _ _ _ _ _ n_10 0 (nI (cBits (V n) (s.1 n) (s.2.1 n) a thr))
    generalize cAft (V n) (s.1 n) (s.2.1 n) a thr = a2' at hc2 hp ⊢
    generalize cBits (V n) (s.1 n) (s.2.1 n) a thr = c0 at hp ⊢
    refine ⟨5, ?_⟩
    have step : ∀ (x' y' : Nat) (post' : Int32 → Prop), x' / 2 = x → y' / 2 = y → x' ≤ 64 → y' ≤ 64 → post' (nI (bel w h V thr s.1 s.2.1 l x' y' a2')) → wp_X3_costBelow nl (nds w h) S T d post' (nI l - 1) (nI x') (nI y') (nI a2') (nI thr) := by
      intro x' y' post' f1 f2 q1 q2 hp'
      refine ih x' y' a2' d post' (by omega) (by omega) q1 q2 (by omega) (fun j e g1 g2 => ?_) hp'
      exact Nat.le_trans hc2 (htr j x' y' e f1 f2 g1 g2)
    unfold wp_X3_costBelow_L71
    refine ⟨fun q => absurd q (by decide), fun _ => ?_⟩
    rw [ch_x x _ 0 (by decide), ch_x y _ 0 (by decide)]
    refine step _ _ _ (by omega) (by omega) (by omega) (by omega) ?_
    intro x8 h8 x10 h10
    subst h8 h10
    unfold wp_X3_costBelow_L71
    refine ⟨fun q => absurd q (by decide), fun _ => ?_⟩
    rw [ch_x x _ 1 (by decide), ch_x y _ 0 (by decide)]
    refine step _ _ _ (by omega) (by omega) (by omega) (by omega) ?_
    intro x8 h8 x10 h10
    subst h8 h10
    unfold wp_X3_costBelow_L71
    refine ⟨fun q => absurd q (by decide), fun _ => ?_⟩
    rw [ch_x x _ 0 (by decide), ch_x y _ 1 (by decide)]
    refine step _ _ _ (by omega) (by omega) (by omega) (by omega) ?_
    intro x8 h8 x10 h10
    subst h8 h10
    unfold wp_X3_costBelow_L71
    refine ⟨fun q => absurd q (by decide), fun _ => ?_⟩
    rw [ch_x x _ 1 (by decide), ch_x y _ 1 (by decide)]
    refine step _ _ _ (by omega) (by omega) (by omega) (by omega) ?_
    intro x8 h8 x10 h10
    subst h8 h10
    unfold wp_X3_costBelow_L71
    refine ⟨fun _ => ?_, fun q => absurd (by decide) q⟩
    rw [nI_add, nI_add, nI_add, nI_add]
    exact hp
