-- encodeAll
theorem tellC_tb {w h : Nat} {V : Nat → Nat} {thr x y i : Nat} : ∀ (l a : Nat) (s : cSt), i < s.2.2.1 → (tellC w h V thr x y l a s).2.2.2 i = s.2.2.2 i := by
  intro l
  induction l with
  | zero => intro a s _; rfl
  | succ l ih =>
    intro a s hi
    unfold tellC
    rw [ih _ _ (Nat.lt_of_lt_of_le hi (Nat.le_add_right _ _))]
    exact if_pos hi
theorem tellAll_tb {w h : Nat} {V : Nat → Nat} {thr o i : Nat} (hd : dim w h) {s : cSt} (hi : i < s.2.2.1) : ∀ k, k ≤ w * h → i < (tellAll w h V thr o k s).2.2.1 ∧ (tellAll w h V thr o k s).2.2.2 i = s.2.2.2 i := by
  intro k
  induction k with
  | zero => intro _; exact ⟨hi, rfl⟩
  | succ k ih =>
    intro hk
    obtain ⟨q1, q2⟩ := ih (by omega)
    obtain ⟨o1, o2⟩ := ord_in hd (o := o) (show k < w * h by omega)
    unfold tellAll
    refine ⟨?_, (tellC_tb _ _ _ q1).trans q2⟩
    rw [tellC_t o1 o2]
    omega
theorem invS.tellAll {w h : Nat} {V : Nat → Nat} {s : cSt} {p thr o : Nat} (hd : dim w h) (hI : invS w h V s p) (hroom : s.2.2.1 + belA w h V thr s ≤ 40000) : ∀ k, k ≤ w * h → invS w h V (tellAll w h V thr o k s) p := by
  intro k
  induction k with
  | zero => intro _; exact hI
  | succ k ih =>
    intro hk
    obtain ⟨o1, o2⟩ := ord_in hd (o := o) (show k < w * h by omega)
    have := tellAll_le (thr := thr) (o := o) hd hI.1 hI.2.1 hk
    exact (ih (by omega)).tell o1 o2 (Nat.le_trans this hroom)
def setSv (G : vMM) (sb sk : Nat → Int32) : vMM := (G.1, G.2.1, G.2.2.1, G.2.2.2.1, G.2.2.2.2.1, G.2.2.2.2.2.1, G.2.2.2.2.2.2.1, sb, sk)
theorem sp_save {w h : Nat} {Y : vMS} (hY : okY w h Y) {G : vMM} {b : Nat → Nat} {k : Nat → Bool} (hr : repM (nds w h) 0 G.2.2.1 G.2.2.2.1 b k) {x1 x2 : Int32} {post : Int32 → vMM → Prop} {ex : vMM → Int32 → Prop} (he : ∀ sb sk z, (∀ n, n < nds w h → sb n = nI (b n) ∧ sk n = nI (k n).toNat) → ex (setSv G sb sk) z) : ∃ f, wp_X4_encodeAll_L40_3 post ex Y x1 x2 f G 0 := by
  have hN := nds_le hY.1
  have key : ∀ (r i : Nat) (sb sk : Nat → Int32), i + r = nds w h → (∀ n, n < i → sb n = nI (b n) ∧ sk n = nI (k n).toNat) → wp_X4_encodeAll_L40_3 post ex Y x1 x2 (r + 1) (setSv G sb sk) (nI i) := by
    intro r
    induction r with
    | zero =>
      intro i sb sk hi hs
      unfold wp_X4_encodeAll_L40_3
      rw [hY.2.1]
      have : i = nds w h := by omega
      subst this
      exact ⟨fun _ => he _ _ _ hs, fun c => absurd ((nI_leI (by omega) (by omega)).mpr (Nat.le_refl _)) c⟩
    | succ r ih =>
      intro i sb sk hi hs
      unfold wp_X4_encodeAll_L40_3
      rw [hY.2.1]
      have i1 := vp_in_nI (show i < 2800 by omega) (show 2800 < 2 ^ 31 by omega)
      have i2 := vp_in_nI (show i < 1400 by omega) (show 1400 < 2 ^ 31 by omega)
      refine ⟨fun c => absurd ((nI_leI (by omega) (by omega)).mp c) (by omega), fun _ => ⟨i1, i2, i1, i2, fun x3 h3 => ?_⟩⟩
      rw [nI_1] at h3
      subst h3
      rw [nI_clamp (by omega)]
      obtain ⟨q1, q2, -⟩ := hr i (by omega)
      rw [Nat.zero_add] at q1 q2
      refine ih (i + 1) (upd sb i (G.2.2.1 i)) (upd sk i (vp_nar .boolean (G.2.2.2.1 i))) (by omega) (fun n hn => ?_)
      by_cases e : n = i
      · subst e
        refine ⟨pk_us.trans q1, pk_us.trans ?_⟩
        rw [q2, nar_b]
      · obtain ⟨q3, q4⟩ := hs n (by omega)
        exact ⟨(pk_un e).trans q3, (pk_un e).trans q4⟩
  exact ⟨nds w h + 1, key (nds w h) 0 G.2.2.2.2.2.2.2.1 G.2.2.2.2.2.2.2.2 (by omega) (fun n hn => absurd hn (Nat.not_lt_zero n))⟩
theorem sp_restore {w h : Nat} {Y : vMS} (hY : okY w h Y) {G : vMM} {b : Nat → Nat} {k : Nat → Bool} (hs : ∀ n, n < nds w h → G.2.2.2.2.2.2.2.1 n = nI (b n) ∧ G.2.2.2.2.2.2.2.2 n = nI (k n).toNat) (hb : ∀ n, n < nds w h → b n ≤ 1001) {x1 x2 x3 x4 : Int32} {post : Int32 → vMM → Prop} {ex : vMM → Int32 → Prop} (he : ∀ bo kn z, repM (nds w h) 0 bo kn b k → (∀ i, nds w h ≤ i → bo i = G.2.2.1 i ∧ kn i = G.2.2.2.1 i) → ex (setK G bo kn) z) : ∃ f, wp_X4_encodeAll_L186_3 post ex Y x4 x3 x1 x2 f G 0 := by
  have hN := nds_le hY.1
  have key : ∀ (r i : Nat) (bo kn : Nat → Int32), i + r = nds w h → (∀ n, n < i → bo n = nI (b n) ∧ kn n = nI (k n).toNat) → (∀ n, nds w h ≤ n → bo n = G.2.2.1 n ∧ kn n = G.2.2.2.1 n) → wp_X4_encodeAll_L186_3 post ex Y x4 x3 x1 x2 (r + 1) (setK G bo kn) (nI i) := by
    intro r
    induction r with
    | zero =>
      intro i bo kn hi h1 h2
      unfold wp_X4_encodeAll_L186_3
      rw [hY.2.1]
      have : i = nds w h := by omega
      subst this
      refine ⟨fun _ => he _ _ _ (fun n hn => ?_) h2, fun c => absurd ((nI_leI (by omega) (by omega)).mpr (Nat.le_refl _)) c⟩
      rw [Nat.zero_add]
      exact ⟨(h1 n hn).1, (h1 n hn).2, hb n hn⟩
    | succ r ih =>
      intro i bo kn hi h1 h2
      unfold wp_X4_encodeAll_L186_3
      rw [hY.2.1]
      have i1 := vp_in_nI (show i < 2800 by omega) (show 2800 < 2 ^ 31 by omega)
      have i2 := vp_in_nI (show i < 1400 by omega) (show 1400 < 2 ^ 31 by omega)
      refine ⟨fun c => absurd ((nI_leI (by omega) (by omega)).mp c) (by omega), fun _ => ⟨i2, i1, i2, i1, fun x3 h3 => ?_⟩⟩
      rw [nI_1] at h3
      subst h3
      rw [nI_clamp (by omega)]
      obtain ⟨q1, q2⟩ := hs i (by omega)
      refine ih (i + 1) (upd bo i (G.2.2.2.2.2.2.2.1 i)) (upd kn i (vp_nar .boolean (G.2.2.2.2.2.2.2.2 i))) (by omega) (fun n hn => ?_) (fun n hn => ?_)
      · by_cases e : n = i
        · subst e
          refine ⟨pk_us.trans q1, pk_us.trans ?_⟩
          rw [q2, nar_b]
        · obtain ⟨q3, q4⟩ := h1 n (by omega)
          exact ⟨(pk_un e).trans q3, (pk_un e).trans q4⟩
      · obtain ⟨q3, q4⟩ := h2 n hn
        exact ⟨(pk_un (by omega)).trans q3, (pk_un (by omega)).trans q4⟩
  exact ⟨nds w h + 1, key (nds w h) 0 G.2.2.1 G.2.2.2.1 (by omega) (fun n hn => absurd hn (Nat.not_lt_zero n)) (fun _ _ => ⟨rfl, rfl⟩)⟩
theorem sp_mall {w h : Nat} {Y : vMS} (hY : okY w h Y) {V : Nat → Nat} {s : cSt} {d : dSt} {p thr o : Nat} (htr : treeV w h V) (hb : ∀ n, n < nds w h → s.1 n ≤ V n) (hV : ∀ n, n < nds w h → V n ≤ 1000) (ht : s.2.2.1 ≤ 40000) (ho : o < 3) (hthr : thr ≤ 1001) {sv : (Nat → Int32) × (Nat → Int32)} {x3 : Int32} {post : Int32 → vMM → Prop} {ex : vMM → Int32 → Prop} (he : ∀ G z, relG w h G V (tellAll w h V thr o (w * h) s) d p → G.1 = 0 → G.2.2.2.2.2.2.2 = sv → ex G z) : ∀ (r k : Nat) (G : vMM), k + r = w * h → relG w h G V (tellAll w h V thr o k s) d p → G.1 = 0 → G.2.2.2.2.2.2.2 = sv → wp_X4_encodeAll_L86_3 post ex Y x3 (nI o) (nI thr) (r + 1) G (nI k) := by
  have hd := hY.1
  have hm := hd.mul
  have hbl := belA_le (thr := thr) (s := s) hV
  obtain ⟨d1, d2, d3, d4⟩ := hY.1
  have ew : Y.1.1 = nI w := by rw [hY.2.1]
  have eh : Y.1.2.1 = nI h := by rw [hY.2.1]
  intro r
  induction r with
  | zero =>
    intro k G hk hG hc hs
    unfold wp_X4_encodeAll_L86_3
    rw [ew, eh, pk_mul]
    have : k = w * h := by omega
    subst this
    exact ⟨fun _ => he _ _ hG hc hs, fun c => absurd ((nI_leI (by omega) (by omega)).mpr (Nat.le_refl _)) c⟩
  | succ r ih =>
    intro k G hk hG hc hs
    unfold wp_X4_encodeAll_L86_3
    rw [ew, eh, pk_mul]
    refine ⟨fun c => absurd ((nI_leI (by omega) (by omega)).mp c) (by omega), fun _ => ?_⟩
    obtain ⟨q1, q2⟩ := ord_in hd (o := o) (show k < w * h by omega)
    obtain ⟨b1, b2⟩ := ord_back hd (o := o) (show k < w * h by omega)
    have hlt := pair_lt q1 q2
    have htk := tellAll_le (thr := thr) (o := o) hd htr hb (show k ≤ w * h by omega)
    have hbk := tellAll_b (thr := thr) (o := o) hd htr hb k (by omega)
    refine sp_leafOf hY ho (by omega) ⟨nI_ne0 (by omega) (by omega), nI_ne0 (by omega) (by omega), ?_⟩
    rw [pk_rem (by omega) (by omega) (by omega), pk_div (by omega) (by omega) (by omega), b1, b2]
    refine sp_mtellC (s := tellAll w h V thr o k s) hY hG.1 hG.2.1 hbk htr hG.2.2.2.1.1 (by omega) q1 q2 hthr true (rbt_of hG.2.2.2.1.2 true) (fun bits W hbits hW => ?_)
    refine sp_mtk (c := G.1) hY hG hbk htr q1 q2 hbits hW (fun bo kn hg => ?_)
    intro f69 h69 x4 h4
    have h69 : f69 = G.2.2.2.2.1.2.1 + nI (costP w h V thr (ordX w h o k) (ordY w h o k) (tellAll w h V thr o k s).1 (tellAll w h V thr o k s).2.1 (lvs w h) 0) := h69
    rw [hG.2.2.2.1.1, nI_add, ← tellC_t q1 q2] at h69
    rw [nI_1] at h4
    subst h69 h4
    exact ih (k + 1) _ (by omega) hg hc hs
theorem law_encodeAll {w h : Nat} {S : vSH} {Y : vMS} (hS : okS w h S) (hY : okY w h Y) {T : vTT} {G : vMM} (hr : rel w h T G) {out : Nat → Int64} {x1 x2 : Int32} {P : Int32 → vLW → Prop} {K : Int32 → vLW → Int32 → vMM → Prop} (hP : ∀ k V, wp_X4_encodeAll (K k V) Y G x1 x2 → P k V) (hK : KOK w h K) : wp_L_encodeAll P (w * h) (nds w h) S (T, out) x1 x2 := by
  have hd := hS.1
  have h6 := lvs_le w h
  have hN := nds_le hd
  unfold wp_L_encodeAll wp_X3_encodeAll
  refine sp_checkOrd (fun c => Or.inl ⟨rfl, hP _ _ ?_⟩) (fun c => sp_checkThr (fun c2 => Or.inl ⟨rfl, hP _ _ ?_⟩) (fun c2 => ?_))
  · unfold wp_X4_encodeAll
    exact sp_in3 (fun _ => ⟨fun _ => ⟨fun q => absurd q (by decide), fun _ => hK.thr hr (by decide)⟩, fun q => absurd rfl q⟩) (fun q => absurd q c)
  · unfold wp_X4_encodeAll
    refine sp_in3 (fun q => absurd c q) (fun _ => ⟨fun q => absurd q (by decide), fun _ => ?_⟩)
    exact sp_inT (fun _ => ⟨fun _ => ⟨fun q => absurd q (by decide), fun _ => hK.thr hr (by decide)⟩, fun q => absurd rfl q⟩) (fun q => absurd q c2)
  have c0 := c
  have c20 := c2
  obtain ⟨o, ho, rfl⟩ := c
  obtain ⟨thr, hthr, rfl⟩ := c2
  obtain ⟨V, s, d, p, hT, hG, hI⟩ := hr
  have ht4 := hI.2.2.2.1
  have hV : ∀ n, n < nds w h → V n ≤ 1000 := fun n hn => (hG.1 n hn).2
  have hbl := belA_le (thr := thr) (s := s) hV
  have hcost := tellAll_cost (thr := thr) (o := o) hd hI.1 hI.2.1
  have mod : ∀ k V', (s.2.2.1 + belA w h V thr s ≤ 40000 → ∀ G', relG w h G' V (tellAll w h V thr o (w * h) s) d p → G'.1 = 0 → K k V' (nI (belA w h V thr s)) G') → (40000 < s.2.2.1 + belA w h V thr s → ∀ G', relG w h G' V s d p → G'.1 = 2 → K k V' 0 G') → wp_X4_encodeAll (K k V') Y G (nI o) (nI thr) := by
    intro k V' q1 q2
    unfold wp_X4_encodeAll
    refine sp_in3 (fun q => absurd c0 q) (fun _ => ⟨fun q => absurd q (by decide), fun _ => ?_⟩)
    refine sp_inT (fun q => absurd c20 q) (fun _ => ⟨fun q => absurd q (by decide), fun _ => ⟨fun _ G2 hG2 => ?_, fun q => absurd (by decide) q⟩⟩)
    subst hG2
    refine sp_save (G := (0, G.2)) hY hG.2.1 (fun sb sk z hsv => ?_)
    intro x3 h3
    have h3 : x3 = nI s.2.2.1 := h3.trans hG.2.2.2.1.1
    subst h3
    refine ⟨w * h + 1, sp_mall (s := s) (d := d) (p := p) (sv := (sb, sk)) hY hI.1 hI.2.1 hV ht4 ho (by omega) (fun G3 z3 hG3 hc3 hs3 => ?_) (w * h) 0 (setSv (0, G.2) sb sk) (by omega) hG rfl rfl⟩
    intro x4 h4
    rw [hG3.2.2.2.1.1, hcost, pk_sub (by omega), Nat.add_sub_cancel_left] at h4
    subst h4
    rw [hG3.2.2.2.1.1, hcost, show (40000 : Int32) = nI 40000 from rfl, nI_leI (by omega) (by omega)]
    refine ⟨fun c => q1 c G3 hG3 hc3, fun c G4 hG4 => ?_⟩
    subst hG4
    have e1 : G3.2.2.2.2.2.2.2.1 = sb := by rw [hs3]
    have e2 : G3.2.2.2.2.2.2.2.2 = sk := by rw [hs3]
    refine sp_restore (b := s.1) (k := s.2.1) hY (fun n hn => ?_) (fun n hn => (hG.2.1 n hn).2.2) (fun bo kn z4 hr4 ho4 => ?_)
    · show G3.2.2.2.2.2.2.2.1 n = _ ∧ G3.2.2.2.2.2.2.2.2 n = _
      rw [e1, e2]
      exact hsv n hn
    · refine q2 (by omega) _ ⟨hG3.1, hr4, fun n hn => ?_, ⟨rfl, fun i hi h4 => ?_⟩, hG3.2.2.2.2.1, hG3.2.2.2.2.2⟩ rfl
      · obtain ⟨z1, z2⟩ := ho4 (1400 + n) (by omega)
        obtain ⟨z3, z4, z5⟩ := hG3.2.2.1 n hn
        exact ⟨z1.trans z3, z2.trans z4, z5⟩
      · obtain ⟨t1, t2⟩ := tellAll_tb (V := V) (thr := thr) (o := o) hd hi (w * h) (Nat.le_refl _)
        have := hG3.2.2.2.1.2 i t1 h4
        rw [t2] at this
        exact this
  have el : S.1.2.2.2.1 = nI (lvs w h) := by rw [hS.2.1]
  rw [el]
  refine sp_costBelow hS hT.1 hI.2.1 hI.1 (show thr ≤ 1001 by omega) (lvs w h) 0 0 0 7 _ (Nat.le_refl _) (by omega) (by omega) (by omega) (by omega) (fun _ _ _ _ => Nat.zero_le _) ?_
  refine sp_checkRoom (m := s.2.2.1) (n := belA w h V thr s) hT.1.2.2.2.1 ht4 (by omega) (fun c => ?_) (fun c => Or.inr ⟨rfl, hP _ _ (mod _ _ (fun z => absurd z (by omega)) (fun _ G' hg hc => hK 2 _ _ 0 G' ⟨V, s, d, p, hT, hg, hI⟩ hc (fun q => absurd q (by decide))))⟩)
  intro T5 hT5
  subst hT5
  exact sp_tellAll (T := T) hS hT.1 hI.2.1 hI.1 ho (by omega) c (fun T' z hr' hs' => ⟨vin01, hP _ _ (mod _ _ (fun _ G' hg hc => hK.ret ⟨V, _, d, p, hT.tell hr' hs', hg, hI.tellAll hd c (w * h) (Nat.le_refl _)⟩ hc) (fun z => absurd z (by omega)))⟩)
