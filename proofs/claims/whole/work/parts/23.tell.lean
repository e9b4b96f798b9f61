-- the coder's part of the state: bounds, known, how many bits, the bits
abbrev cSt : Type := (Nat → Nat) × (Nat → Bool) × Nat × (Nat → Bool)
def bitsF (t : Nat) (tb : Nat → Bool) (z : Nat) (one : Bool) : Nat → Bool := fun i => if i < t then tb i else (one && decide (i = t + z))
def tellOne (v n a thr : Nat) (s : cSt) : cSt :=
  (setN s.1 n (cAft v (s.1 n) (s.2.1 n) a thr), setN s.2.1 n (cKn v (s.1 n) (s.2.1 n) a thr), s.2.2.1 + cBits v (s.1 n) (s.2.1 n) a thr,
    bitsF s.2.2.1 s.2.2.2 (min v thr - max a (s.1 n)) (decide (max a (s.1 n) < thr ∧ s.2.1 n = false ∧ v < thr)))
def repC (nn : Nat) (T : vTT) (V : Nat → Nat) (s : cSt) : Prop := okV nn T.1 V ∧ SDok nn T.2.1 s.1 s.2.1 ∧ BRok T.2.2.2.1 0 s.2.2.1 s.2.2.2
/-- what telling leaves alone -/
def sameC (T T' : vTT) : Prop := T'.1 = T.1 ∧ T'.2.2.1 = T.2.2.1 ∧ T'.2.2.2.2 = T.2.2.2.2
theorem sameC.rf (T : vTT) : sameC T T := ⟨rfl, rfl, rfl⟩
theorem sameC.tr {T T' T'' : vTT} (h : sameC T T') (h' : sameC T' T'') : sameC T T'' := ⟨h'.1.trans h.1, h'.2.1.trans h.2.1, h'.2.2.trans h.2.2⟩
theorem sp_zeros {nl nn : Nat} {S : vSH} {T : vTT} {t g aft : Nat} {tb : Nat → Bool} {x1 x2 x3 : Int32} {post : vTT → Prop} {ex : vTT → Int32 → Prop} (ha : aft < 2 ^ 30)
    (hex : ∀ B', BRok B' 0 (t + (aft - g)) (fun i => if i < t then tb i else false) → ex (T.1, T.2.1, T.2.2.1, B', T.2.2.2.2.1, T.2.2.2.2.2) (nI aft)) :
    ∀ (r j : Nat) (B : vBR), g + j + r = aft → t + j + r ≤ 40000 → BRok B 0 (t + j) (fun i => if i < t then tb i else false) → wp_X3_tellNode_L12 post ex nl nn S (nI aft) x1 x2 x3 (r + 1) (T.1, T.2.1, T.2.2.1, B, T.2.2.2.2.1, T.2.2.2.2.2) (nI (g + j)) := by
  intro r
  induction r with
  | zero =>
    intro j B h1 h2 hB
    unfold wp_X3_tellNode_L12
    rw [nI_leI (by omega) (by omega)]
    refine ⟨fun _ => ?_, fun c => absurd (by omega) c⟩
    have e1 : g + j = aft := by omega
    have e2 : j = aft - g := by omega
    rw [e1]
    rw [e2] at hB
    exact hex B hB
  | succ r ih =>
    intro j B h1 h2 hB
    unfold wp_X3_tellNode_L12
    rw [nI_leI (by omega) (by omega)]
    refine ⟨fun c => absurd c (by omega), fun _ => ?_⟩
    refine sp_append hB (by omega) false (fun B' hB' => ?_)
    intro x hx
    rw [nI_1] at hx
    subst hx
    refine ih (j + 1) B' (by omega) (by omega) (hB'.congr (fun i hi => ?_))
    show (if i = t + j then false else if i < t then tb i else false) = _
    by_cases e : i = t + j
    · rw [if_pos e, if_neg (by omega)]
    · rw [if_neg e]
theorem sp_tellNode {nl nn : Nat} {S : vSH} {T : vTT} {V : Nat → Nat} {s : cSt} (h : repC nn T V s) (hnn : nn < 2 ^ 30) {n a thr : Nat} (hn : n < nn) (hv : max a (s.1 n) ≤ V n) (ht : thr ≤ 1001) (hr : s.2.2.1 + cBits (V n) (s.1 n) (s.2.1 n) a thr ≤ 40000) {post : vTT → Prop} (hp : ∀ T', repC nn T' V (tellOne (V n) n a thr s) → sameC T T' → post T') : wp_X3_tellNode post nl nn S T (nI n) (nI (max a (s.1 n))) (nI thr) := by
  obtain ⟨hV, hD, hB⟩ := h
  obtain ⟨v1, v2⟩ := hV n hn
  obtain ⟨d1, d2, d3⟩ := hD.1 n hn
  obtain ⟨g, hg⟩ : ∃ g, g = max a (s.1 n) := ⟨_, rfl⟩
  have hin := vp_in_nI hn (show nn < 2 ^ 31 by omega)
  unfold tellOne cAft cKn cBits at hp
  unfold cBits at hr
  rw [← hg] at hv hr hp ⊢
  refine sp_boundAfter hD hV hnn hn (by omega) (by omega) ?_
  by_cases c : g < thr ∧ s.2.1 n = false
  · rw [if_pos c] at hr ⊢
    simp only [if_pos c] at hp
    have hb0 : BRok T.2.2.2.1 0 (s.2.2.1 + 0) (fun i => if i < s.2.2.1 then s.2.2.2 i else false) := hB.congr (fun i hi => by rw [if_pos hi])
    refine ⟨_, sp_zeros (T := T) (t := s.2.2.1) (g := g) (aft := min (V n) thr) (tb := s.2.2.2) (by omega) (fun B' hB' => ?_) (min (V n) thr - g) 0 T.2.2.2.1 (by omega) (by omega) hb0⟩
    refine sp_hasBits (T := (T.1, T.2.1, T.2.2.1, B', T.2.2.2.2.1, T.2.2.2.2.2)) hD hnn hn (by omega) (by omega) (fun q => absurd c q) (fun _ => ?_)
    refine ⟨fun q => absurd q (by decide), fun _ => ⟨hin, ?_⟩⟩
    show (nI thr ≤ T.1 (nI n).toNatClampNeg → _) ∧ (¬ nI thr ≤ T.1 (nI n).toNatClampNeg → _)
    rw [nI_clamp (by omega), v1, nI_leI (by omega) (by omega)]
    refine ⟨fun q => ⟨hin, ?_⟩, fun q => ?_⟩
    · refine hp _ ⟨hV, ?_, ?_⟩ ⟨rfl, rfl, rfl⟩
      · have e : (s.2.1 n || (decide (g < thr) && decide (V n < thr))) = s.2.1 n := by rw [decide_eq_false (show ¬ V n < thr by omega)]; simp
        rw [e, setN_id (f := s.2.1) rfl]
        exact hD.setB (by omega)
      · show BRok B' 0 (s.2.2.1 + (min (V n) thr - g + if V n < thr then 1 else 0)) _
        rw [if_neg (show ¬ V n < thr by omega), Nat.add_zero]
        refine hB'.congr (fun i hi => ?_)
        show _ = bitsF _ _ _ _ i
        unfold bitsF
        rw [decide_eq_false (show ¬ (g < thr ∧ s.2.1 n = false ∧ V n < thr) by omega), Bool.false_and]
    · refine sp_append (b := true) hB' (by rw [if_pos (show V n < thr by omega)] at hr; omega) (fun B2 hB2 => ?_)
      refine sp_find hD hnn hn (fun D' hD' e1 => ⟨hin, ?_⟩)
      refine hp _ ⟨hV, ?_, ?_⟩ ⟨rfl, rfl, rfl⟩
      · have e : (s.2.1 n || (decide (g < thr) && decide (V n < thr))) = true := by rw [decide_eq_true c.1, decide_eq_true (show V n < thr by omega)]; simp
        rw [e]
        exact hD'.setB (by omega)
      · show BRok B2 0 (s.2.2.1 + (min (V n) thr - g + if V n < thr then 1 else 0)) _
        rw [if_pos (show V n < thr by omega), ← Nat.add_assoc]
        refine hB2.congr (fun i hi => ?_)
        show (if i = s.2.2.1 + (min (V n) thr - g) then true else if i < s.2.2.1 then s.2.2.2 i else false) = bitsF _ _ _ _ i
        unfold bitsF
        rw [decide_eq_true (show g < thr ∧ s.2.1 n = false ∧ V n < thr from ⟨c.1, c.2, by omega⟩), Bool.true_and]
        by_cases e : i = s.2.2.1 + (min (V n) thr - g)
        · rw [if_pos e, if_neg (by omega), decide_eq_true e]
        · rw [if_neg e, decide_eq_false e]
  · rw [if_neg c] at hr ⊢
    simp only [if_neg c] at hp
    have hb0 : BRok T.2.2.2.1 0 (s.2.2.1 + 0) (fun i => if i < s.2.2.1 then s.2.2.2 i else false) := hB.congr (fun i hi => by rw [if_pos hi])
    refine ⟨_, sp_zeros (T := T) (t := s.2.2.1) (g := g) (aft := g) (tb := s.2.2.2) (by omega) (fun B' hB' => ?_) 0 0 T.2.2.2.1 (by omega) (by omega) hb0⟩
    refine sp_hasBits (T := (T.1, T.2.1, T.2.2.1, B', T.2.2.2.2.1, T.2.2.2.2.2)) hD hnn hn (by omega) (by omega) (fun _ => ?_) (fun q => absurd q c)
    refine ⟨fun _ => ⟨hin, ?_⟩, fun q => absurd rfl q⟩
    refine hp _ ⟨hV, ?_, ?_⟩ ⟨rfl, rfl, rfl⟩
    · have e : (s.2.1 n || (decide (g < thr) && decide (V n < thr))) = s.2.1 n := by
        cases hk : s.2.1 n with
        | true => rfl
        | false => rw [decide_eq_false (show ¬ g < thr from fun q => c ⟨q, hk⟩)]; rfl
      rw [e, setN_id (f := s.2.1) rfl, nI_clamp (by omega)]
      exact hD.setB (by omega)
    · rw [Nat.sub_self, Nat.add_zero] at hB'
      show BRok B' 0 s.2.2.1 _
      refine hB'.congr (fun i hi => ?_)
      show _ = bitsF _ _ _ _ i
      unfold bitsF
      rw [if_pos hi, if_pos hi]
