-- pass, value, values
theorem okQ.congr {G : vMM} {f m : Nat} {wb wb' : Nat → Bool} (h : okQ G f m wb) (e : ∀ i, i < m → wb i = wb' i) : okQ G f m wb' := ⟨h.1, h.2.1, h.2.2.1, h.2.2.2.1, fun i hi => (h.2.2.2.2 i hi).trans (by rw [e i hi])⟩
def passD (d : dSt) (tb : Nat → Bool) (p i : Nat) : dSt := (d.1, d.2.1, d.2.2.1 + i, fun j => if j < d.2.2.1 then d.2.2.2 j else tb (p + (j - d.2.2.1)))
theorem passD_s {d : dSt} {tb : Nat → Bool} {p i : Nat} : ∀ j, j < d.2.2.1 + i + 1 → (if j = d.2.2.1 + i then tb (p + i) else if j < d.2.2.1 then d.2.2.2 j else tb (p + (j - d.2.2.1))) = (if j < d.2.2.1 then d.2.2.2 j else tb (p + (j - d.2.2.1))) := by
  intro j hj
  by_cases e : j = d.2.2.1 + i
  · rw [if_pos e, if_neg (by omega), e, Nat.add_sub_cancel_left]
  · rw [if_neg e]
theorem sp_pass3 {w h nl : Nat} {S : vSH} {V : Nat → Nat} {s : cSt} {d : dSt} {p n : Nat} (hn : p + n ≤ s.2.2.1) (ht : s.2.2.1 ≤ 40000) (hm : d.2.2.1 + n ≤ 40000) {post : Int32 → vTT → Prop} {px : String → vTT → Prop} {ex : vTT → Int32 → Prop} {x1 : Int32} : ∀ (r i : Nat) (T : vTT), i + r = n → relT w h T V s (passD d s.2.2.2 p i) p → (∀ T' z, relT w h T' V s (passD d s.2.2.2 p n) p → ex T' z) → wp_X3_pass_L41 post px ex nl (nds w h) S (nI n) x1 (r + 1) T (nI i) := by
  intro r
  induction r with
  | zero =>
    intro i T hi hT he
    unfold wp_X3_pass_L41
    have : i = n := by omega
    subst this
    exact ⟨fun _ => he _ _ hT, fun c => absurd ((nI_leI (by omega) (by omega)).mpr (Nat.le_refl _)) c⟩
  | succ r ih =>
    intro i T hi hT he
    obtain ⟨t1, t2, ⟨f, t3⟩, t4⟩ := hT
    unfold wp_X3_pass_L41
    rw [nI_leI (by omega) (by omega), t4, nI_add]
    refine ⟨fun c => absurd c (by omega), fun _ => ?_⟩
    refine sp_look t1.2.2 (by omega) (sp_append t3 (by show d.2.2.1 + i < 40000; omega) (s.2.2.2 (p + i)) (fun B' hB' => ?_))
    intro x3 h3
    rw [nI_1] at h3
    subst h3
    exact ih (i + 1) _ (by omega) ⟨t1, t2, ⟨f, hB'.congr (fun j hj => passD_s j hj)⟩, rfl⟩ he
theorem sp_mpass {w h : Nat} {Y : vMS} {V : Nat → Nat} {s : cSt} {d : dSt} {p n : Nat} (hn : p + n ≤ s.2.2.1) (ht : s.2.2.1 ≤ 40000) (hm : d.2.2.1 + n ≤ 40000) {post : Int32 → vMM → Prop} {ex : vMM → Int32 → Prop} {x1 : Int32} : ∀ (r i : Nat) (G : vMM), i + r = n → relG w h G V s (passD d s.2.2.2 p i) (p + i) → G.1 = 0 → (∀ G' z, relG w h G' V s (passD d s.2.2.2 p n) (p + n) → G'.1 = 0 → ex G' z) → wp_X4_pass_L66 post ex Y (nI n) x1 (r + 1) G (nI i) := by
  intro r
  induction r with
  | zero =>
    intro i G hi hG hc he
    unfold wp_X4_pass_L66
    have : i = n := by omega
    subst this
    exact ⟨fun _ => he _ _ hG hc, fun c => absurd ((nI_leI (by omega) (by omega)).mpr (Nat.le_refl _)) c⟩
  | succ r ih =>
    intro i G hi hG hc he
    obtain ⟨g1, g2, g3, ⟨g4, g5⟩, g6, ⟨f, g7⟩⟩ := hG
    unfold wp_X4_pass_L66
    rw [nI_leI (by omega) (by omega), g6, nI_clamp (by omega), g5 (p + i) (by omega) (by omega)]
    refine ⟨fun c => absurd c (by omega), fun _ => ⟨vp_in_nI (by omega) (by omega), ?_⟩⟩
    refine sp_madd g7 (by show d.2.2.1 + i < 40000; omega) (s.2.2.2 (p + i)) (fun q hq => ?_)
    intro f13 h13 x3 h3
    have h13 : f13 = G.2.2.2.2.1.2.2 + 1 := h13
    rw [g6, nI_1] at h13
    rw [nI_1] at h3
    subst h13 h3
    exact ih (i + 1) _ (by omega) ⟨g1, g2, g3, ⟨g4, g5⟩, rfl, ⟨f, hq.congr (fun j hj => passD_s j hj)⟩⟩ hc he
theorem sp_mpass_3 {w h : Nat} {Y : vMS} {V : Nat → Nat} {s : cSt} {d : dSt} {p n : Nat} (hn : p + n ≤ s.2.2.1) (ht : s.2.2.1 ≤ 40000) (hm : d.2.2.1 + n ≤ 40000) {post : Int32 → vMM → Prop} {ex : vMM → Int32 → Prop}  : ∀ (r i : Nat) (G : vMM), i + r = n → relG w h G V s (passD d s.2.2.2 p i) (p + i) → G.1 = 0 → (∀ G' z, relG w h G' V s (passD d s.2.2.2 p n) (p + n) → G'.1 = 0 → ex G' z) → wp_X4_pass_L66_3 post ex Y (nI n) (r + 1) G (nI i) := by
  intro r
  induction r with
  | zero =>
    intro i G hi hG hc he
    unfold wp_X4_pass_L66_3
    have : i = n := by omega
    subst this
    exact ⟨fun _ => he _ _ hG hc, fun c => absurd ((nI_leI (by omega) (by omega)).mpr (Nat.le_refl _)) c⟩
  | succ r ih =>
    intro i G hi hG hc he
    obtain ⟨g1, g2, g3, ⟨g4, g5⟩, g6, ⟨f, g7⟩⟩ := hG
    unfold wp_X4_pass_L66_3
    rw [nI_leI (by omega) (by omega), g6, nI_clamp (by omega), g5 (p + i) (by omega) (by omega)]
    refine ⟨fun c => absurd c (by omega), fun _ => ⟨vp_in_nI (by omega) (by omega), ?_⟩⟩
    refine sp_madd g7 (by show d.2.2.1 + i < 40000; omega) (s.2.2.2 (p + i)) (fun q hq => ?_)
    intro f13 h13 x3 h3
    have h13 : f13 = G.2.2.2.2.1.2.2 + 1 := h13
    rw [g6, nI_1] at h13
    rw [nI_1] at h3
    subst h13 h3
    exact ih (i + 1) _ (by omega) ⟨g1, g2, g3, ⟨g4, g5⟩, rfl, ⟨f, hq.congr (fun j hj => passD_s j hj)⟩⟩ hc he
theorem passD_0 {G : vMM} {f : Nat} {d : dSt} {tb : Nat → Bool} {p : Nat} (h : okQ G f d.2.2.1 d.2.2.2) : okQ G f (passD d tb p 0).2.2.1 (passD d tb p 0).2.2.2 := h.congr (fun i hi => (if_pos hi).symm)
theorem law_pass {w h : Nat} {S : vSH} {Y : vMS} {T : vTT} {G : vMM} (hr : rel w h T G) {out : Nat → Int64} {x1 : Int32} {P : Int32 → vLW → Prop} {K : Int32 → vLW → Int32 → vMM → Prop} (hP : ∀ k V, wp_X4_pass (K k V) Y G x1 → P k V) (hK : KOK w h K) : wp_L_pass P (w * h) (nds w h) S (T, out) x1 := by
  obtain ⟨V, s, d, p, hT, hG, hI⟩ := hr
  have hr : rel w h T G := ⟨V, s, d, p, hT, hG, hI⟩
  obtain ⟨f, hB⟩ := hT.2.2.1
  obtain ⟨f', hQ⟩ := hG.2.2.2.2.2
  have hm := hB.2.2.2.1
  have ht := hI.2.2.2.1
  have hp := hI.2.2.1
  refine ⟨fun c => ?_, fun c => Or.inl ⟨rfl, hP _ _ ?_⟩⟩
  · have c' : ¬ x1 < 0 := fun q => absurd c (nlt32.mpr q)
    obtain ⟨n0, hn0, rfl⟩ := nI_of c'
    intro x2 h2
    rw [hT.1.2.2.2.1, hT.2.2.2, pk_sub hp, nI_min (by omega) (by omega)] at h2
    subst h2
    have hnn : p + min n0 (s.2.2.1 - p) ≤ s.2.2.1 := by omega
    have mod : ∀ k V', (d.2.2.1 + min n0 (s.2.2.1 - p) ≤ 40000 → ∀ G', relG w h G' V s (passD d s.2.2.2 p (min n0 (s.2.2.1 - p))) (p + min n0 (s.2.2.1 - p)) → G'.1 = 0 → K k V' (nI (min n0 (s.2.2.1 - p))) G') → (40000 < d.2.2.1 + min n0 (s.2.2.1 - p) → K k V' 0 (2, G.2)) → wp_X4_pass (K k V') Y G (nI n0) := by
      intro k V' q1 q2
      have hrel0 : relG w h (0, G.2) V s (passD d s.2.2.2 p 0) (p + 0) := ⟨hG.1, hG.2.1, hG.2.2.1, hG.2.2.2.1, hG.2.2.2.2.1, ⟨f', passD_0 hQ⟩⟩
      unfold wp_X4_pass
      rw [hG.2.2.2.1.1, hG.2.2.2.2.1, pk_sub hp, hQ.2.1, nI_leI (by omega) (by omega)]
      refine ⟨fun c1 x2 h2 => ?_, fun c1 => ?_⟩
      · subst h2
        have e : min n0 (s.2.2.1 - p) = s.2.2.1 - p := by omega
        rw [e] at q1 q2 hnn
        rw [nI_add, show (40000 : Int32) = nI 40000 from rfl, nI_leI (by omega) (by omega)]
        refine ⟨fun _ => ⟨fun c2 => ⟨fun _ G2 hG2 => ?_, fun z => absurd (by decide) z⟩, fun c2 => ⟨fun z => absurd z (by decide), fun _ => q2 (by omega)⟩⟩, fun z => absurd c z⟩
        subst hG2
        exact ⟨_, sp_mpass hnn ht c2 (s.2.2.1 - p) 0 (0, G.2) (by omega) hrel0 rfl (fun G' z hg hc => q1 c2 G' hg hc)⟩
      · have e : min n0 (s.2.2.1 - p) = n0 := by omega
        rw [e] at q1 q2 hnn
        rw [nI_add, show (40000 : Int32) = nI 40000 from rfl, nI_leI (by omega) (by omega)]
        refine ⟨fun _ => ⟨fun c2 => ⟨fun _ G2 hG2 => ?_, fun z => absurd (by decide) z⟩, fun c2 => ⟨fun z => absurd z (by decide), fun _ => q2 (by omega)⟩⟩, fun z => absurd c z⟩
        subst hG2
        exact ⟨_, sp_mpass_3 hnn ht c2 n0 0 (0, G.2) (by omega) hrel0 rfl (fun G' z hg hc => q1 c2 G' hg hc)⟩
    refine sp_checkRoom hB.2.1 hm (by omega) (fun c2 => ?_) (fun c2 => Or.inr ⟨rfl, hP _ _ (mod _ _ (fun z => absurd z (by omega)) (fun _ => hK.thr hr (by decide)))⟩)
    intro T4 hT4
    subst hT4
    refine ⟨_, sp_pass3 (V := V) (s := s) (d := d) hnn ht c2 (min n0 (s.2.2.1 - p)) 0 (T.1, T.2.1, T.2.2.1, T.2.2.2.1, T.2.2.2.2.1, T.2.2.2.2.2) (by omega) ⟨hT.1, hT.2.1, ⟨f, hB.congr (fun i hi => (if_pos hi).symm)⟩, hT.2.2.2⟩ (fun T' z hT' f8 h8 => ⟨vin01, hP _ _ (mod _ _ (fun _ G' hg hc => ?_) (fun z => absurd z (by omega)))⟩)⟩
    rw [hT'.2.2.2, nI_add] at h8
    have hrel : rel w h (T'.1, T'.2.1, T'.2.2.1, T'.2.2.2.1, T'.2.2.2.2.1, f8) G' := ⟨V, s, _, _, ⟨hT'.1, hT'.2.1, hT'.2.2.1, h8⟩, hg, ⟨hI.1, hI.2.1, hnn, ht, hI.2.2.2.2⟩⟩
    exact hK.ret hrel hc
  · have fin : K 1 (T, out) 0 (1, G.2) := hK.thr hr (by decide)
    exact ⟨fun _ x2 _ => ⟨fun z => absurd z c, fun _ => ⟨fun z => absurd z (by decide), fun _ => fin⟩⟩, fun _ => ⟨fun z => absurd z c, fun _ => ⟨fun z => absurd z (by decide), fun _ => fin⟩⟩⟩
theorem nds_ge {w h : Nat} : w * h ≤ nds w h := by
  have h1 := fstN_mono (w := w) (h := h) (lvs_pos w h)
  have h2 : fstN w h 1 = 0 + cdiv w 0 * cdiv h 0 := rfl
  rw [cdiv_0, cdiv_0] at h2
  unfold nds
  omega
theorem node0 (w h x y : Nat) : node w h 0 x y = y * w + x := by
  unfold node
  rw [cdiv_0]
  show 0 + _ + _ = _
  omega
/-- new values, nothing told: what is common stays common -/
theorem rel_lift {w h : Nat} {T : vTT} {G : vMM} {V : Nat → Nat} {s : cSt} {d : dSt} {p : Nat} (hT : relT w h T V s d p) (hG : relG w h G V s d p) (hI : invS w h V s p) (ht : s.2.2.1 = 0) {V' : Nat → Nat} {f g : Nat → Int32} (hf : okV (nds w h) f (liftA w h V' (lvs w h - 1))) (hg : okV (nds w h) g (liftA w h V' (lvs w h - 1))) {c : Int32} : rel w h (f, T.2) (setV (c, G.2) g) := by
  refine ⟨_, s, d, p, ⟨⟨hf, hT.1.2.1, hT.1.2.2⟩, hT.2.1, hT.2.2.1, hT.2.2.2⟩, ⟨hg, hG.2.1, hG.2.2.1, hG.2.2.2.1, hG.2.2.2.2.1, hG.2.2.2.2.2⟩, ⟨lift_tree w h V', fun n hn => ?_, hI.2.2.1, hI.2.2.2.1, hI.2.2.2.2⟩⟩
  rw [(hI.2.2.2.2 ht n hn).1]
  exact Nat.zero_le _
theorem law_value {w h : Nat} {S : vSH} {Y : vMS} (hS : okS w h S) (hY : okY w h Y) {T : vTT} {G : vMM} (hr : rel w h T G) {out : Nat → Int64} {x1 x2 x3 : Int32} {P : Int32 → vLW → Prop} {K : Int32 → vLW → Int32 → vMM → Prop} (hP : ∀ k V, wp_X4_value (K k V) Y G x1 x2 x3 → P k V) (hK : KOK w h K) : wp_L_value P (w * h) (nds w h) S (T, out) x1 x2 x3 := by
  have hN := nds_le hS.1
  have hge := nds_ge (w := w) (h := h)
  unfold wp_L_value wp_X3_value
  refine sp_checkLeaf hS (fun c => Or.inl ⟨rfl, hP _ _ (sp_isLeaf hY (fun _ => ⟨fun _ => ⟨fun q => absurd q (by decide), fun _ => hK.thr hr (by decide)⟩, fun q => absurd rfl q⟩) (fun q => absurd q c))⟩) (fun c => ?_)
  have c0 := c
  obtain ⟨x, y, hx, hy, rfl, rfl⟩ := c
  obtain ⟨V, s, d, p, hT, hG, hI⟩ := hr
  have hr : rel w h T G := ⟨V, s, d, p, hT, hG, hI⟩
  have ht4 := hI.2.2.2.1
  have hn : y * w + x < nds w h := Nat.lt_of_lt_of_le (pair_lt hx hy) hge
  have bad : ¬ inN 1001 x3 → P 2 (T, out) := by
    intro c
    refine hP _ _ (sp_isLeaf hY (fun q => absurd c0 q) (fun _ => ⟨fun q => absurd q (by decide), fun _ => ?_⟩))
    rw [show (1000 : Int32) = nI 1001 - 1 by decide]
    exact sp_in' (by omega) (fun _ => ⟨fun _ => ⟨fun q => absurd q (by decide), fun _ => hK.thr hr (by decide)⟩, fun q => absurd rfl q⟩) (fun q => absurd q c)
  refine ⟨fun c => Or.inr (Or.inl ⟨rfl, bad (fun ⟨j, q1, q2⟩ => ?_)⟩), fun c => ⟨fun c2 => ?_, fun c2 => Or.inr (Or.inl ⟨rfl, bad (fun ⟨j, q1, q2⟩ => c2 ?_)⟩)⟩⟩
  · subst q2; exact nI_pos (by omega) c
  · obtain ⟨v, hv, rfl⟩ := nI_of c
    rw [show (1000 : Int32) = nI 1000 from rfl, nI_leI hv (by omega)] at c2
    have mod : ∀ k V', (0 < s.2.2.1 → K k V' 0 (3, G.2)) → (s.2.2.1 = 0 → ∀ g, okV (nds w h) g (liftA w h (setN V (y * w + x) v) (lvs w h - 1)) → K k V' (nI (V (y * w + x))) (setV (0, G.2) g)) → wp_X4_value (K k V') Y G (nI x) (nI y) (nI v) := by
      intro k V' q1 q2
      refine sp_isLeaf hY (fun q => absurd c0 q) (fun _ => ⟨fun q => absurd q (by decide), fun _ => ?_⟩)
      rw [show (1000 : Int32) = nI 1001 - 1 by decide]
      refine sp_in' (by omega) (fun q => absurd ⟨v, by omega, rfl⟩ q) (fun _ => ⟨fun q => absurd q (by decide), fun _ => ?_⟩)
      rw [hG.2.2.2.1.1, show (0 : Int32) = nI 0 from rfl, nI_leI (by omega) (by omega), hY.2.1]
      show (_ → (_ → (vp_in (nI y * nI w + nI x) 1400 ∧ _)) ∧ _) ∧ _
      rw [pk_mul, nI_add, nI_clamp (by omega)]
      have hin := vp_in_nI (show y * w + x < 1400 by omega) (show 1400 < 2 ^ 31 by omega)
      refine ⟨fun c3 => ⟨fun _ => ⟨hin, fun x4 h4 => ⟨hin, ?_⟩⟩, fun z => absurd (by decide) z⟩, fun c3 => ⟨fun z => absurd z (by decide), fun _ => q1 (by omega)⟩⟩
      have h4 : x4 = nI (V (y * w + x)) := h4.trans (hG.1 _ hn).1
      subst h4
      exact sp_mlift (G := (0, upd G.2.1 (y * w + x) (nI v), G.2.2)) hY (hG.1.set c2) (fun g hg => q2 (by omega) g hg)
    refine sp_checkNT (t := s.2.2.1) hT.1.2.2.2.1 ht4 (fun c3 => ?_) (fun c3 => Or.inr (Or.inr ⟨rfl, hP _ _ (mod _ _ (fun _ => hK.thr hr (by decide)) (fun z => absurd z (by omega)))⟩))
    refine sp_nodeAt (l := 0) hS (lvs_pos w h) ?_
    rw [node0]
    refine ⟨vp_in_nI hn (by omega), fun x5 h5 => ⟨vp_in_nI hn (by omega), ?_⟩⟩
    rw [nI_clamp (by omega)] at h5 ⊢
    rw [(hT.1.1 _ hn).1] at h5
    subst h5
    refine sp_renewLeasts (T := (upd T.1 (y * w + x) (nI v), T.2)) hS (hT.1.1.set c2) (fun f hf => ⟨vin01, hP _ _ (mod _ _ (fun z => absurd z (by omega)) (fun _ g hg => ?_))⟩)
    exact hK.ret (rel_lift hT hG hI c3 hf hg) rfl
  · subst q2
    rw [show (1000 : Int32) = nI 1000 from rfl, nI_leI (by omega) (by omega)]
    omega
-- values
def clZ (i : Int) : Nat := (min 1000 (max 0 i)).toNat
theorem clZ_le (i : Int) : clZ i ≤ 1000 := by unfold clZ; omega
def vsum (v st : Int32) (k : Nat) : Int := v.toInt + (k : Int) * st.toInt
theorem vsum_in (v st : Int32) {k : Nat} (hk : k ≤ 1100) : -2 ^ 50 ≤ vsum v st k ∧ vsum v st k ≤ 2 ^ 50 := by
  have a := v.le_toInt
  have b := v.toInt_lt
  have c := st.le_toInt
  have e := st.toInt_lt
  have h1 : (k : Int) * st.toInt ≤ (k : Int) * 2 ^ 31 := Int.mul_le_mul_of_nonneg_left (by omega) (by omega)
  have h2 : (k : Int) * (-2 ^ 31) ≤ (k : Int) * st.toInt := Int.mul_le_mul_of_nonneg_left (by omega) (by omega)
  unfold vsum
  generalize (k : Int) * st.toInt = q at h1 h2 ⊢
  omega
theorem vsum_s (v st : Int32) (k : Nat) : vsum v st (k + 1) = vsum v st k + st.toInt := by
  unfold vsum
  rw [Int.natCast_add, Int.add_mul, Int.natCast_one, Int.one_mul]
  omega
theorem l_small {z : Int64} {i : Int} (hz : z.toInt = i) (h0 : 0 ≤ i) (h1 : i ≤ 1000) : z.toInt32 = nI (clZ i) := by
  apply Int32.toInt_inj.mp
  rw [Jvm.Kit.i32_of_i64 (by omega) (by omega), nI_toInt (by have := clZ_le i; omega), hz]
  unfold clZ
  omega
theorem sp_nearV {z : Int64} {i : Int} (hz : z.toInt = i) {post : Int32 → Prop} (hp : post (nI (clZ i))) : wp_X3_nearest post z 0 1000 := by
  unfold wp_X3_nearest
  have e0 : (0 : Int32).toInt64.toInt = 0 := by decide
  have e1 : (1000 : Int32).toInt64.toInt = 1000 := by decide
  rw [lg_cmp_ge, lg_cmp_le, Int64.le_iff_toInt_le, Int64.le_iff_toInt_le, e0, e1, hz]
  refine ⟨fun c => ⟨fun c2 => ?_, fun c2 => ?_⟩, fun c => ?_⟩
  · rw [l_small hz c c2]; exact hp
  · have : clZ i = 1000 := by unfold clZ; omega
    rw [this] at hp; exact hp
  · have : clZ i = 0 := by unfold clZ; omega
    rw [this] at hp; exact hp
def valsK (V : Nat → Nat) (f : Nat) (v st : Int32) : Nat → Nat → Nat
  | 0 => V
  | k + 1 => setN (valsK V f v st k) (f + k) (clZ (vsum v st k))
theorem sp_vals {w h nl : Nat} {S : vSH} (hS : okS w h S) {T : vTT} {V : Nat → Nat} {f n : Nat} (hfn : f + n ≤ w * h) {x1 x2 x3 v st : Int32} {post : Int32 → vTT → Prop} {px : String → vTT → Prop} {ex : vTT → Int32 → Int64 → Prop} : ∀ (r i : Nat) (g : Nat → Int32) (z : Int64), i + r = n → okV (nds w h) g (valsK V f v st i) → z.toInt = vsum v st i → (∀ g z1 z2, okV (nds w h) g (valsK V f v st n) → ex (g, T.2) z1 z2) → wp_X3_values_L61 post px ex nl (nds w h) S (nI n) (nI f) x1 x2 x3 v st (r + 1) (g, T.2) (nI i) z := by
  have hm := hS.1.mul
  have hge := nds_ge (w := w) (h := h)
  have hN := nds_le hS.1
  intro r
  induction r with
  | zero =>
    intro i g z hi hg hz he
    unfold wp_X3_values_L61
    have : i = n := by omega
    subst this
    exact ⟨fun _ => he _ _ _ hg, fun c => absurd ((nI_leI (by omega) (by omega)).mpr (Nat.le_refl _)) c⟩
  | succ r ih =>
    intro i g z hi hg hz he
    unfold wp_X3_values_L61
    rw [nI_leI (by omega) (by omega), nI_add, nI_clamp (by omega)]
    refine ⟨fun c => absurd c (by omega), fun _ => sp_nearV hz ⟨vp_in_nI (by omega) (by omega), fun z' hz' x10 h10 => ?_⟩⟩
    rw [nI_1] at h10
    subst hz' h10
    have q1 := vsum_in v st (show i ≤ 1100 by omega)
    have q2 := vsum_in v st (show i + 1 ≤ 1100 by omega)
    have q3 := vsum_s v st i
    refine ih (i + 1) _ _ (by omega) (hg.set (clZ_le _)) ?_ he
    rw [Jvm.Kit.i64_add (by rw [hz, Jvm.Kit.i64_of_i32]; omega) (by rw [hz, Jvm.Kit.i64_of_i32]; omega), hz, Jvm.Kit.i64_of_i32, q3]
theorem sp_mvals {w h : Nat} {Y : vMS} (hY : okY w h Y) {G : vMM} {V : Nat → Nat} {f n : Nat} (hfn : f + n ≤ w * h) {x1 x2 x3 v st : Int32} {post : Int32 → vMM → Prop} {ex : vMM → Int32 → Prop} : ∀ (r i : Nat) (g : Nat → Int32), i + r = n → okV (nds w h) g (valsK V f v st i) → (∀ g z1, okV (nds w h) g (valsK V f v st n) → ex (setV G g) z1) → wp_X4_values_L93 post ex Y (nI n) (nI f) x1 x2 x3 v st (r + 1) (setV G g) (nI i) := by
  have hm := hY.1.mul
  have hge := nds_ge (w := w) (h := h)
  have hN := nds_le hY.1
  intro r
  induction r with
  | zero =>
    intro i g hi hg he
    unfold wp_X4_values_L93
    have : i = n := by omega
    subst this
    exact ⟨fun _ => he _ _ hg, fun c => absurd ((nI_leI (by omega) (by omega)).mpr (Nat.le_refl _)) c⟩
  | succ r ih =>
    intro i g hi hg he
    unfold wp_X4_values_L93
    rw [nI_leI (by omega) (by omega), nI_add, nI_clamp (by omega)]
    refine ⟨fun c => absurd c (by omega), fun _ z hz' => ?_⟩
    have q1 := vsum_in v st (show i ≤ 1100 by omega)
    have hz : z.toInt = vsum v st i := by
      have a := v.le_toInt
      have b := v.toInt_lt
      have ei : (nI i).toInt64.toInt = (i : Int) := by rw [Jvm.Kit.i64_of_i32, nI_toInt (by omega)]
      have em : ((nI i).toInt64 * st.toInt64).toInt = (i : Int) * st.toInt := by
        have hq : -2 ^ 62 ≤ (i : Int) * st.toInt ∧ (i : Int) * st.toInt < 2 ^ 62 := by
          unfold vsum at q1
          generalize (i : Int) * st.toInt = q at q1 ⊢
          omega
        rw [Jvm.Kit.i64_mul (by rw [ei, Jvm.Kit.i64_of_i32]; omega) (by rw [ei, Jvm.Kit.i64_of_i32]; omega), ei, Jvm.Kit.i64_of_i32]
      have hq2 : v.toInt + (i : Int) * st.toInt = vsum v st i := rfl
      rw [hz', Jvm.Kit.i64_add (by rw [em, Jvm.Kit.i64_of_i32, hq2]; omega) (by rw [em, Jvm.Kit.i64_of_i32, hq2]; omega), em, Jvm.Kit.i64_of_i32]
      rfl
    have e0 : (0 : Int64).toInt = 0 := by decide
    have e1 : (1000 : Int64).toInt = 1000 := by decide
    have hin := vp_in_nI (show f + i < 1400 by omega) (show 1400 < 2 ^ 31 by omega)
    have nx := ih (i + 1) _ (by omega) (hg.set (n := f + i) (clZ_le (vsum v st i))) he
    rw [lg_cmp_ge, lg_cmp_le, Int64.le_iff_toInt_le, Int64.le_iff_toInt_le, e0, e1, hz]
    refine ⟨fun c => ⟨fun c2 => ⟨hin, fun x8 h8 => ?_⟩, fun c2 => ⟨hin, fun x8 h8 => ?_⟩⟩, fun c => ⟨hin, fun x8 h8 => ?_⟩⟩
    · rw [nI_1] at h8
      subst h8
      rw [l_small hz c c2]
      exact nx
    · rw [nI_1] at h8
      subst h8
      have e : clZ (vsum v st i) = 1000 := by unfold clZ; omega
      rw [e] at nx
      exact nx
    · rw [nI_1] at h8
      subst h8
      have e : clZ (vsum v st i) = 0 := by unfold clZ; omega
      rw [e] at nx
      exact nx
theorem sp_mvals_1 {w h : Nat} {Y : vMS} (hY : okY w h Y) {G : vMM} {V : Nat → Nat} {f n : Nat} (hfn : f + n ≤ w * h) {x1 x2 v st : Int32} {post : Int32 → vMM → Prop} {ex : vMM → Int32 → Prop} : ∀ (r i : Nat) (g : Nat → Int32), i + r = n → okV (nds w h) g (valsK V f v st i) → (∀ g z1, okV (nds w h) g (valsK V f v st n) → ex (setV G g) z1) → wp_X4_values_L93_1 post ex Y (nI n) (nI f) x1 x2 v st (r + 1) (setV G g) (nI i) := by
  have hm := hY.1.mul
  have hge := nds_ge (w := w) (h := h)
  have hN := nds_le hY.1
  intro r
  induction r with
  | zero =>
    intro i g hi hg he
    unfold wp_X4_values_L93_1
    have : i = n := by omega
    subst this
    exact ⟨fun _ => he _ _ hg, fun c => absurd ((nI_leI (by omega) (by omega)).mpr (Nat.le_refl _)) c⟩
  | succ r ih =>
    intro i g hi hg he
    unfold wp_X4_values_L93_1
    rw [nI_leI (by omega) (by omega), nI_add, nI_clamp (by omega)]
    refine ⟨fun c => absurd c (by omega), fun _ z hz' => ?_⟩
    have q1 := vsum_in v st (show i ≤ 1100 by omega)
    have hz : z.toInt = vsum v st i := by
      have a := v.le_toInt
      have b := v.toInt_lt
      have ei : (nI i).toInt64.toInt = (i : Int) := by rw [Jvm.Kit.i64_of_i32, nI_toInt (by omega)]
      have em : ((nI i).toInt64 * st.toInt64).toInt = (i : Int) * st.toInt := by
        have hq : -2 ^ 62 ≤ (i : Int) * st.toInt ∧ (i : Int) * st.toInt < 2 ^ 62 := by
          unfold vsum at q1
          generalize (i : Int) * st.toInt = q at q1 ⊢
          omega
        rw [Jvm.Kit.i64_mul (by rw [ei, Jvm.Kit.i64_of_i32]; omega) (by rw [ei, Jvm.Kit.i64_of_i32]; omega), ei, Jvm.Kit.i64_of_i32]
      have hq2 : v.toInt + (i : Int) * st.toInt = vsum v st i := rfl
      rw [hz', Jvm.Kit.i64_add (by rw [em, Jvm.Kit.i64_of_i32, hq2]; omega) (by rw [em, Jvm.Kit.i64_of_i32, hq2]; omega), em, Jvm.Kit.i64_of_i32]
      rfl
    have e0 : (0 : Int64).toInt = 0 := by decide
    have e1 : (1000 : Int64).toInt = 1000 := by decide
    have hin := vp_in_nI (show f + i < 1400 by omega) (show 1400 < 2 ^ 31 by omega)
    have nx := ih (i + 1) _ (by omega) (hg.set (n := f + i) (clZ_le (vsum v st i))) he
    rw [lg_cmp_ge, lg_cmp_le, Int64.le_iff_toInt_le, Int64.le_iff_toInt_le, e0, e1, hz]
    refine ⟨fun c => ⟨fun c2 => ⟨hin, fun x8 h8 => ?_⟩, fun c2 => ⟨hin, fun x8 h8 => ?_⟩⟩, fun c => ⟨hin, fun x8 h8 => ?_⟩⟩
    · rw [nI_1] at h8
      subst h8
      rw [l_small hz c c2]
      exact nx
    · rw [nI_1] at h8
      subst h8
      have e : clZ (vsum v st i) = 1000 := by unfold clZ; omega
      rw [e] at nx
      exact nx
    · rw [nI_1] at h8
      subst h8
      have e : clZ (vsum v st i) = 0 := by unfold clZ; omega
      rw [e] at nx
      exact nx
theorem law_values {w h : Nat} {S : vSH} {Y : vMS} (hS : okS w h S) (hY : okY w h Y) {T : vTT} {G : vMM} (hr : rel w h T G) {out : Nat → Int64} {x1 x2 x3 v st : Int32} {P : Int32 → vLW → Prop} {K : Int32 → vLW → Int32 → vMM → Prop} (hP : ∀ k V, wp_X4_values (K k V) Y G x1 x2 x3 v st → P k V) (hK : KOK w h K) : wp_L_values P (w * h) (nds w h) S (T, out) x1 x2 x3 v st := by
  have hN := nds_le hS.1
  have hm := hS.1.mul
  have hge := nds_ge (w := w) (h := h)
  unfold wp_L_values wp_X3_values
  refine sp_checkLeaf hS (fun c => Or.inl ⟨rfl, hP _ _ (sp_isLeaf hY (fun _ => ⟨fun _ => ⟨fun q => absurd q (by decide), fun _ => hK.thr hr (by decide)⟩, fun q => absurd rfl q⟩) (fun q => absurd q c))⟩) (fun c => ?_)
  have c0 := c
  obtain ⟨x, y, hx, hy, rfl, rfl⟩ := c
  obtain ⟨V, s, d, p, hT, hG, hI⟩ := hr
  have hr : rel w h T G := ⟨V, s, d, p, hT, hG, hI⟩
  have ht4 := hI.2.2.2.1
  have hl := pair_lt hx hy
  refine ⟨fun c => ?_, fun c => Or.inr (Or.inl ⟨rfl, hP _ _ (sp_isLeaf hY (fun q => absurd c0 q) (fun _ => ⟨fun q => absurd q (by decide), fun _ => ⟨fun z => absurd z c, fun _ => ⟨fun z => absurd z (by decide), fun _ => hK.thr hr (by decide)⟩⟩⟩))⟩)⟩
  have c' : ¬ x3 < 0 := fun q => absurd c (nlt32.mpr q)
  obtain ⟨n0, hn0, rfl⟩ := nI_of c'
  have mod : ∀ k V', (0 < s.2.2.1 → K k V' 0 (3, G.2)) → (s.2.2.1 = 0 → ∀ g, okV (nds w h) g (liftA w h (valsK V (y * w + x) v st (min n0 (w * h - (y * w + x)))) (lvs w h - 1)) → K k V' (nI (min n0 (w * h - (y * w + x)))) (setV (0, G.2) g)) → wp_X4_values (K k V') Y G (nI x) (nI y) (nI n0) v st := by
    intro k V' q1 q2
    refine sp_isLeaf hY (fun q => absurd c0 q) (fun _ => ⟨fun q => absurd q (by decide), fun _ => ⟨fun _ => ?_, fun z => absurd c z⟩⟩)
    rw [hG.2.2.2.1.1]
    have hle := nI_leI (a := s.2.2.1) (b := 0) (by omega) (by omega)
    refine ⟨fun c3 => ⟨fun _ x6 h6 => ?_, fun z => absurd (by decide) z⟩, fun c3 => ⟨fun z => absurd z (by decide), fun _ => q1 (by have : ¬ s.2.2.1 ≤ 0 := fun z => c3 (hle.mpr z); omega)⟩⟩
    have t0 : s.2.2.1 = 0 := by have := hle.mp c3; omega
    have ew : Y.1.1 = nI w := by rw [hY.2.1]
    have eh : Y.1.2.1 = nI h := by rw [hY.2.1]
    rw [ew, pk_mul, nI_add] at h6
    subst h6
    rw [ew, eh, pk_mul, pk_sub (by omega), nI_leI (by omega) (by omega)]
    have q2 := q2 t0
    refine ⟨fun c4 x7 h7 G2 hG2 => ?_, fun c4 G2 hG2 => ?_⟩
    · subst h7 hG2
      rw [show min n0 (w * h - (y * w + x)) = w * h - (y * w + x) by omega] at q2
      exact ⟨_, sp_mvals (G := (0, G.2)) hY (by omega) _ 0 G.2.1 (Nat.zero_add _) hG.1 (fun g z hg => sp_mlift (G := setV (0, G.2) g) hY hg (fun g2 hg2 => q2 g2 hg2))⟩
    · subst hG2
      rw [show min n0 (w * h - (y * w + x)) = n0 by omega] at q2
      exact ⟨_, sp_mvals_1 (G := (0, G.2)) hY (by omega) _ 0 G.2.1 (Nat.zero_add _) hG.1 (fun g z hg => sp_mlift (G := setV (0, G.2) g) hY hg (fun g2 hg2 => q2 g2 hg2))⟩
  refine sp_checkNT (t := s.2.2.1) hT.1.2.2.2.1 ht4 (fun c3 => ?_) (fun c3 => Or.inr (Or.inr ⟨rfl, hP _ _ (mod _ _ (fun _ => hK.thr hr (by decide)) (fun z => absurd z (by omega)))⟩))
  refine sp_nodeAt (l := 0) hS (lvs_pos w h) ?_
  rw [node0]
  intro x7 h7 x8 h8
  rw [hS.2.1] at h7
  have h7 : x7 = if nI (w * h) - nI (y * w + x) < nI n0 then nI (w * h) - nI (y * w + x) else nI n0 := h7
  rw [pk_sub (by omega), nI_min (by omega) (by omega)] at h7
  subst h7 h8
  refine ⟨_, sp_vals (T := T) hS (show y * w + x + min n0 (w * h - (y * w + x)) ≤ w * h by omega) _ 0 T.1 _ (Nat.zero_add _) hT.1.1 ?_ (fun g z1 z2 hg => ?_)⟩
  · rw [Jvm.Kit.i64_of_i32]
    unfold vsum
    simp
  · refine sp_renewLeasts (T := (g, T.2)) hS hg (fun f hf => ⟨vin01, hP _ _ (mod _ _ (fun z => absurd z (by omega)) (fun _ g hg => ?_))⟩)
    exact hK.ret (rel_lift hT hG hI c3 hf hg) rfl
