-- decode and decodeAll
theorem sp_in3 {x : Int32} {post : Int32 → Prop} (hn : ¬ inN 3 x → post 0) (hy : inN 3 x → post 1) : wp_X4_in post x 0 2 := by
  rw [show (2 : Int32) = nI 3 - 1 by decide]
  exact sp_in' (by omega) hn hy
theorem sp_inT {x : Int32} {post : Int32 → Prop} (hn : ¬ inN 1002 x → post 0) (hy : inN 1002 x → post 1) : wp_X4_in post x 0 1001 := by
  rw [show (1001 : Int32) = nI 1002 - 1 by decide]
  exact sp_in' (by omega) hn hy
def takeD (w h thr x y : Nat) (d : dSt) : Bool × (Nat → Nat) × (Nat → Bool) × Nat := takeC w h d.2.2.2 d.2.2.1 thr x y (lvs w h) 0 d.1 d.2.1 0
def nextD (w h thr x y : Nat) (d : dSt) : dSt := ((takeD w h thr x y d).2.1, (takeD w h thr x y d).2.2.1, d.2.2.1 - (takeD w h thr x y d).2.2.2, fun i => d.2.2.2 (i + (takeD w h thr x y d).2.2.2))
theorem takeC_off {w h : Nat} {wb : Nat → Bool} {m thr x y n : Nat} : ∀ (l a : Nat) (b : Nat → Nat) (k : Nat → Bool) (p : Nat), (∀ j, j < l → n ≠ pnode w h x y j) → (takeC w h wb m thr x y l a b k p).2.1 n = b n ∧ (takeC w h wb m thr x y l a b k p).2.2.1 n = k n := by
  intro l
  induction l with
  | zero => intro a b k p _; exact ⟨rfl, rfl⟩
  | succ l ih =>
    intro a b k p hn
    unfold takeC
    split
    · obtain ⟨e1, e2⟩ := ih (dRun wb m thr thr (max a (b (pnode w h x y l))) (k (pnode w h x y l)) p).2.1 (setN b (pnode w h x y l) (dRun wb m thr thr (max a (b (pnode w h x y l))) (k (pnode w h x y l)) p).2.1) (setN k (pnode w h x y l) (dRun wb m thr thr (max a (b (pnode w h x y l))) (k (pnode w h x y l)) p).2.2.1) (dRun wb m thr thr (max a (b (pnode w h x y l))) (k (pnode w h x y l)) p).2.2.2 (fun j hj => hn j (by omega))
      rw [e1, e2]
      exact ⟨setN_n (hn l (by omega)), setN_n (hn l (by omega))⟩
    · exact ⟨rfl, rfl⟩
theorem takeC_b {w h : Nat} {wb : Nat → Bool} {m thr x y : Nat} (hx : x < w) (hy : y < h) (hthr : thr ≤ 1001) : ∀ (l a : Nat) (b : Nat → Nat) (k : Nat → Bool) (p : Nat), l ≤ lvs w h → a ≤ 1001 → p ≤ m → (∀ n, n < nds w h → b n ≤ 1001) → ∀ n, n < nds w h → (takeC w h wb m thr x y l a b k p).2.1 n ≤ 1001 := by
  intro l
  induction l with
  | zero => intro a b k p _ _ _ hb; exact hb
  | succ l ih =>
    intro a b k p hl ha hp hb
    unfold takeC
    split
    · have hbl := hb _ (pnode_lt hx hy (show l < lvs w h by omega))
      obtain ⟨i1, i2, -⟩ := dRun_in (wb := wb) hthr thr (max a (b (pnode w h x y l))) (k (pnode w h x y l)) p (by omega) hp
      refine ih _ _ _ _ (by omega) i1 i2 (fun n hn => ?_)
      unfold setN
      split
      · exact i1
      · exact hb n hn
    · exact hb
theorem relT.learn {w h nl : Nat} {S : vSH} (hS : okS w h S) {T : vTT} {V : Nat → Nat} {s : cSt} {d : dSt} {p : Nat} (hT : relT w h T V s d p) {thr x y : Nat} (hthr : thr ≤ 1001) (hx : x < w) (hy : y < h) {post : Int32 → vTT → Prop} (h0 : (takeD w h thr x y d).1 = false → post 0 T) (h1 : (takeD w h thr x y d).1 = true → ∀ T', relT w h T' V s (nextD w h thr x y d) p → post 1 T') : wp_X3_learnLeaf post nl (nds w h) S T (nI x) (nI y) (nI thr) := by
  obtain ⟨t1, t2, ⟨f, t3⟩, t4⟩ := hT
  exact sp_learnLeaf hS t2 t3 hthr hx hy h0 (fun e D' B' f' q1 q2 => h1 e _ ⟨t1, q1, ⟨f', q2⟩, t4⟩)
theorem sp_take {w h : Nat} {Y : vMS} (hY : okY w h Y) {G : vMM} {V : Nat → Nat} {s : cSt} {d : dSt} {p : Nat} (hG : relG w h G V s d p) {thr x y : Nat} (hthr : thr ≤ 1001) (hx : x < w) (hy : y < h) {post : Int32 → vMM → Prop} (h0 : (takeD w h thr x y d).1 = false → ∀ G', relG w h G' V s d p → G'.1 = G.1 → post 0 G') (h1 : (takeD w h thr x y d).1 = true → ∀ G', relG w h G' V s (nextD w h thr x y d) p → G'.1 = G.1 → post 1 G') : wp_X4_take post Y G (nI x) (nI y) (nI thr) := by
  have hN := nds_le hY.1
  obtain ⟨g1, g2, g3, g4, g5, ⟨f, g6⟩⟩ := hG
  have hm := g6.2.2.2.1
  have hb0 : ∀ n, n < nds w h → d.1 n ≤ 1001 := fun n hn => (g3 n hn).2.2
  have hpm := takeC_p (wb := d.2.2.2) (m := d.2.2.1) (k := d.2.1) (x := x) (y := y) (w := w) (h := h) hthr (lvs w h) 0 d.1 0 (by omega) (fun j hj => hb0 _ (pnode_lt hx hy hj)) (by omega)
  have hbb := takeC_b (wb := d.2.2.2) (m := d.2.2.1) (k := d.2.1) hx hy hthr (lvs w h) 0 d.1 0 (Nat.le_refl _) (by omega) (by omega) hb0
  unfold wp_X4_take
  refine sp_mtellD hY g3 g6 hx hy hthr (fun e W hW => ⟨fun q => absurd q (by decide), fun _ => ?_⟩) (fun e W p' => ⟨fun _ => ⟨by decide, h0 e _ ⟨g1, g2, g3, g4, g5, ⟨f, g6⟩⟩ rfl⟩, fun q => absurd rfl q⟩)
  refine sp_keep (G := mkG G G.2.2.2.2.1.1 W (nI (takeD w h thr x y d).2.2.2)) (B := 1400) hY (by omega) g3 hx hy hW (fun j hj => hbb _ (pnode_lt hx hy hj)) (fun n hn => takeC_off _ _ _ _ _ hn) (fun bo kn hr ho => ?_)
  refine ⟨by decide, fun f7 h7 f8 h8 => ⟨by decide, ?_⟩⟩
  have h7 : f7 = (G.2.2.2.2.2.1.2.1 + nI (takeD w h thr x y d).2.2.2) - (G.2.2.2.2.2.1.2.1 + nI (takeD w h thr x y d).2.2.2) / nI 40000 * nI 40000 := h7
  have h8 : f8 = G.2.2.2.2.2.1.2.2 - nI (takeD w h thr x y d).2.2.2 := h8
  have hpm : (takeD w h thr x y d).2.2.2 ≤ d.2.2.1 := hpm
  have hf := g6.2.2.1
  rw [g6.1, nI_add, pk_rem (by omega) (by omega) (by omega), pl_mod hf (by omega)] at h7
  rw [g6.2.1, pk_sub hpm] at h8
  refine h1 e _ ⟨g1, fun n hn => ?_, hr, g4, g5, ⟨pl f (takeD w h thr x y d).2.2.2, h7, h8, pl_lt hf (by omega), ?_, fun i hi => ?_⟩⟩ rfl
  · obtain ⟨q1, q2⟩ := ho (0 + n) (Or.inl (by omega))
    obtain ⟨q3, q4, q5⟩ := g2 n hn
    exact ⟨q1.trans q3, q2.trans q4, q5⟩
  · show d.2.2.1 - _ ≤ 40000
    omega
  · have hi : i < d.2.2.1 - (takeD w h thr x y d).2.2.2 := hi
    show G.2.2.2.2.2.1.1 (pl (pl f _) i) = nI (d.2.2.2 (i + _)).toNat
    rw [pl_pl hf (by omega) (by omega)]
    exact g6.2.2.2.2 _ (by omega)
theorem law_decode {w h : Nat} {S : vSH} {Y : vMS} (hS : okS w h S) (hY : okY w h Y) {T : vTT} {G : vMM} (hr : rel w h T G) {out : Nat → Int64} {x1 x2 x3 : Int32} {P : Int32 → vLW → Prop} {K : Int32 → vLW → Int32 → vMM → Prop} (hP : ∀ k V, wp_X4_decode (K k V) Y G x1 x2 x3 → P k V) (hK : KOK w h K) : wp_L_decode P (w * h) (nds w h) S (T, out) x1 x2 x3 := by
  have hN := nds_le hS.1
  have h6 := lvs_le w h
  unfold wp_L_decode wp_X3_decode
  refine sp_checkLeaf hS (fun c => Or.inl ⟨rfl, hP _ _ (sp_isLeaf hY (fun _ => ⟨fun _ => ⟨fun q => absurd q (by decide), fun _ => hK.thr hr (by decide)⟩, fun q => absurd rfl q⟩) (fun q => absurd q c))⟩) (fun c => ?_)
  refine sp_checkThr (fun c2 => Or.inr ⟨rfl, hP _ _ (sp_isLeaf hY (fun q => absurd c q) (fun _ => ⟨fun q => absurd q (by decide), fun _ => ?_⟩))⟩) (fun c2 => ?_)
  · exact sp_inT (fun _ => ⟨fun _ => ⟨fun q => absurd q (by decide), fun _ => hK.thr hr (by decide)⟩, fun q => absurd rfl q⟩) (fun q => absurd q c2)
  have c0 := c
  have c20 := c2
  obtain ⟨x, y, hx, hy, rfl, rfl⟩ := c
  obtain ⟨thr, hthr, rfl⟩ := c2
  obtain ⟨V, s, d, p, hT, hG, hI⟩ := hr
  have hn : node w h 0 x y < nds w h := node_lt (lvs_pos w h) (by rw [cdiv_0]; exact hx) (by rw [cdiv_0]; exact hy)
  have en : 1400 + y * w + x = 1400 + node w h 0 x y := by
    unfold node
    rw [cdiv_0]
    show _ = 1400 + (0 + _ + _)
    omega
  have mod : ∀ k V', ((takeD w h thr x y d).1 = false → ∀ G', relG w h G' V s d p → G'.1 = 0 → K k V' (-2) G') → ((takeD w h thr x y d).1 = true → ∀ G', relG w h G' V s (nextD w h thr x y d) p → G'.1 = 0 → K k V' (if (nextD w h thr x y d).2.1 (node w h 0 x y) = true ∧ (nextD w h thr x y d).1 (node w h 0 x y) < thr then 1 else 0) G') → wp_X4_decode (K k V') Y G (nI x) (nI y) (nI thr) := by
    intro k V' q0 q1
    refine sp_isLeaf hY (fun q => absurd c0 q) (fun _ => ⟨fun q => absurd q (by decide), fun _ => ?_⟩)
    refine sp_inT (fun q => absurd c20 q) (fun _ => ⟨fun q => absurd q (by decide), fun _ => ⟨fun _ => ?_, fun q => absurd (by decide) q⟩⟩)
    refine sp_take (G := (0, G.2)) hY hG (by omega) hx hy (fun e G' hg hc => ⟨fun _ => q0 e G' hg hc, fun q => absurd rfl q⟩) (fun e G' hg hc => ⟨fun q => absurd q (by decide), fun _ => ?_⟩)
    intro x4 h4
    rw [hY.2.1] at h4
    have h4 : x4 = nI 1400 + nI y * nI w + nI x := h4
    rw [pk_mul, nI_add, nI_add, en] at h4
    subst h4
    have hin := vp_in_nI (show 1400 + node w h 0 x y < 2800 by omega) (show 2800 < 2 ^ 31 by omega)
    obtain ⟨e1, e2, e3⟩ := hg.2.2.1 _ hn
    have q1 := q1 e G' hg hc
    rw [nI_clamp (by omega), e1, e2, nI_b0, nI_leI (by omega) (by omega)]
    refine ⟨hin, fun c => ?_, fun c => ⟨hin, fun c2 => ?_, fun c2 => ?_⟩⟩
    · rw [if_neg (fun z => absurd z.1 (by rw [c]; exact Bool.false_ne_true))] at q1; exact q1
    · rw [if_neg (fun z => absurd z.2 (by omega))] at q1; exact q1
    · have c3 : (nextD w h thr x y d).2.1 (node w h 0 x y) = true := by cases z : (nextD w h thr x y d).2.1 (node w h 0 x y) with | true => rfl | false => exact absurd z c
      rw [if_pos ⟨c3, by omega⟩] at q1; exact q1
  refine hT.learn hS (by omega) hx hy (fun e => ⟨fun _ => ⟨vin01, hP _ _ (mod _ _ (fun _ G' hg hc => hK.ret ⟨V, s, d, p, hT, hg, hI⟩ hc) (fun z => absurd z (by rw [e]; exact Bool.false_ne_true)))⟩, fun q => absurd rfl q⟩) (fun e T' hT' => ⟨fun q => absurd q (by decide), fun _ => ?_⟩)
  refine sp_nodeAt (l := 0) hS (lvs_pos w h) ⟨vp_in_nI hn (by omega), ?_⟩
  obtain ⟨d1, d2, d3⟩ := hT'.2.1.1 _ hn
  have fin : ∀ b : Int32, (if (nextD w h thr x y d).2.1 (node w h 0 x y) = true ∧ (nextD w h thr x y d).1 (node w h 0 x y) < thr then (1 : Int32) else 0) = b → P 0 (T', vp_updL out ((0 : Int32).toNatClampNeg) b.toInt64) := by
    intro b hb
    refine hP _ _ (mod _ _ (fun z => absurd z (by rw [e]; exact fun q => Bool.false_ne_true q.symm)) (fun _ G' hg hc => ?_))
    rw [hb]
    exact hK.ret ⟨V, s, _, p, hT', hg, hI⟩ hc
  rw [nI_clamp (by omega), d1, d3, nI_b0, nI_leI (by omega) (by omega)]
  refine ⟨fun c => ⟨vin01, fin 0 ?_⟩, fun c => ⟨vp_in_nI hn (by omega), fun c2 => ⟨vin01, fin 0 ?_⟩, fun c2 => ⟨vin01, fin 1 ?_⟩⟩⟩
  · rw [if_neg (fun z => absurd z.1 (by rw [c]; exact Bool.false_ne_true))]
  · rw [if_neg (fun z => absurd z.2 (by omega))]
  · have c3 : (nextD w h thr x y d).2.1 (node w h 0 x y) = true := by cases z : (nextD w h thr x y d).2.1 (node w h 0 x y) with | true => rfl | false => exact absurd z c
    rw [if_pos ⟨c3, by omega⟩]
def decAll (w h thr o : Nat) : Nat → Nat → dSt → Nat × dSt
  | 0, k, d => (k, d)
  | r + 1, k, d => if (takeD w h thr (ordX w h o k) (ordY w h o k) d).1 = true then decAll w h thr o r (k + 1) (nextD w h thr (ordX w h o k) (ordY w h o k) d) else (k, d)
theorem ord_back {w h o k : Nat} (hd : dim w h) (hk : k < w * h) : (ordY w h o k * w + ordX w h o k) % w = ordX w h o k ∧ (ordY w h o k * w + ordX w h o k) / w = ordY w h o k := by
  obtain ⟨q1, q2⟩ := ord_in hd (o := o) hk
  rw [Nat.mul_comm, Nat.mul_add_mod, Nat.mod_eq_of_lt q1, Nat.mul_add_div hd.1, Nat.div_eq_of_lt q1, Nat.add_zero]
  exact ⟨rfl, rfl⟩
theorem sp_decAll {w h : Nat} {S : vSH} (hS : okS w h S) {V : Nat → Nat} {s : cSt} {p thr o : Nat} (hthr : thr ≤ 1001) (ho : o < 3) {post : Int32 → vTT → Prop} {px : String → vTT → Prop} : ∀ (r k : Nat) (d : dSt) (T : vTT), k + r = w * h → relT w h T V s d p → (∀ T', relT w h T' V s (decAll w h thr o r k d).2 p → post (nI (decAll w h thr o r k d).1) T') → wp_X3_decodeAll_L10 post px (fun (T_3 : vTT) (x3_4 : Int32) => post S.1.2.2.1 T_3) (w * h) (nds w h) S (nI o) (nI thr) (r + 1) T (nI k) := by
  have hd := hS.1
  have hm := hd.mul
  intro r
  induction r with
  | zero =>
    intro k d T hk hT hp
    unfold wp_X3_decodeAll_L10
    rw [hS.2.1]
    have : k = w * h := by omega
    subst this
    exact ⟨fun _ => hp T hT, fun c => absurd ((nI_leI (by omega) (by omega)).mpr (Nat.le_refl _)) c⟩
  | succ r ih =>
    intro k d T hk hT hp
    unfold wp_X3_decodeAll_L10
    unfold decAll at hp
    rw [hS.2.1]
    refine ⟨fun c => absurd ((nI_leI (by omega) (by omega)).mp c) (by omega), fun _ => ?_⟩
    obtain ⟨q1, q2⟩ := ord_in hd (o := o) (show k < w * h by omega)
    refine sp_leafX hS ho (by omega) (sp_leafY hS ho (by omega) (hT.learn hS hthr q1 q2 (fun e => ⟨fun _ => ?_, fun q => absurd rfl q⟩) (fun e T' hT' => ⟨fun q => absurd q (by decide), fun _ x3 h3 => ?_⟩)))
    · rw [if_neg (by rw [e]; exact Bool.false_ne_true)] at hp
      exact hp T hT
    · rw [nI_1] at h3
      subst h3
      rw [if_pos e] at hp
      have := ih (k + 1) _ T' (by omega) hT' hp
      rw [hS.2.1] at this
      exact this
theorem sp_mdecAll {w h : Nat} {Y : vMS} (hY : okY w h Y) {V : Nat → Nat} {s : cSt} {p thr o : Nat} (hthr : thr ≤ 1001) (ho : o < 3) {post : Int32 → vMM → Prop} : ∀ (r k : Nat) (d : dSt) (G : vMM), k + r = w * h → relG w h G V s d p → (∀ G', relG w h G' V s (decAll w h thr o r k d).2 p → G'.1 = G.1 → post (nI (decAll w h thr o r k d).1) G') → wp_X4_decodeAll_L43_1 post (fun (G_23 : vMM) (x4_24 : Int32) (x3_25 : Int32) => post x3_25 G_23) Y (nI o) (nI thr) (r + 2) G 1 (nI k) := by
  have hd := hY.1
  have hm := hd.mul
  obtain ⟨d1, d2, d3, d4⟩ := hY.1
  intro r
  induction r with
  | zero =>
    intro k d G hk hG hp
    unfold wp_X4_decodeAll_L43_1
    rw [hY.2.1]
    have : k = w * h := by omega
    subst this
    show (_ → _) ∧ (¬ _ → (nI w * nI h ≤ _ → _) ∧ _)
    rw [pk_mul]
    exact ⟨fun q => absurd q (by decide), fun _ => ⟨fun _ => hp G hG rfl, fun c => absurd ((nI_leI (by omega) (by omega)).mpr (Nat.le_refl _)) c⟩⟩
  | succ r ih =>
    intro k d G hk hG hp
    unfold wp_X4_decodeAll_L43_1
    unfold decAll at hp
    have ew : Y.1.1 = nI w := by rw [hY.2.1]
    have eh : Y.1.2.1 = nI h := by rw [hY.2.1]
    rw [ew, eh, pk_mul]
    refine ⟨fun q => absurd q (by decide), fun _ => ⟨fun c => absurd ((nI_leI (by omega) (by omega)).mp c) (by omega), fun _ => ?_⟩⟩
    obtain ⟨q1, q2⟩ := ord_in hd (o := o) (show k < w * h by omega)
    obtain ⟨b1, b2⟩ := ord_back hd (o := o) (show k < w * h by omega)
    have hlt := pair_lt q1 q2
    refine sp_leafOf hY ho (by omega) ⟨nI_ne0 (by omega) (by omega), nI_ne0 (by omega) (by omega), ?_⟩
    rw [pk_rem (by omega) (by omega) (by omega), pk_div (by omega) (by omega) (by omega), b1, b2]
    refine sp_take hY hG hthr q1 q2 (fun e G' hg hc => ⟨fun _ x3 h3 => ?_, fun q => absurd rfl q⟩) (fun e G' hg hc => ⟨fun q => absurd q (by decide), fun _ x3 h3 => ?_⟩)
    · rw [Int32.add_zero] at h3
      subst h3
      rw [if_neg (by rw [e]; exact Bool.false_ne_true)] at hp
      unfold wp_X4_decodeAll_L43_1
      exact ⟨fun _ => hp G' hg hc, fun q => absurd rfl q⟩
    · rw [nI_1] at h3
      subst h3
      rw [if_pos e] at hp
      exact ih (k + 1) _ G' (by omega) hg (fun G2 hg2 hc2 => hp G2 hg2 (hc2.trans hc))
theorem law_decodeAll {w h : Nat} {S : vSH} {Y : vMS} (hS : okS w h S) (hY : okY w h Y) {T : vTT} {G : vMM} (hr : rel w h T G) {out : Nat → Int64} {x1 x2 : Int32} {P : Int32 → vLW → Prop} {K : Int32 → vLW → Int32 → vMM → Prop} (hP : ∀ k V, wp_X4_decodeAll (K k V) Y G x1 x2 → P k V) (hK : KOK w h K) : wp_L_decodeAll P (w * h) (nds w h) S (T, out) x1 x2 := by
  unfold wp_L_decodeAll wp_X3_decodeAll
  refine sp_checkOrd (fun c => ⟨rfl, hP _ _ ?_⟩) (fun c => sp_checkThr (fun c2 => ⟨rfl, hP _ _ ?_⟩) (fun c2 => ?_))
  · unfold wp_X4_decodeAll
    exact sp_in3 (fun _ => ⟨fun _ => ⟨fun q => absurd q (by decide), fun _ => hK.thr hr (by decide)⟩, fun q => absurd rfl q⟩) (fun q => absurd q c)
  · unfold wp_X4_decodeAll
    refine sp_in3 (fun q => absurd c q) (fun _ => ⟨fun q => absurd q (by decide), fun _ => ?_⟩)
    exact sp_inT (fun _ => ⟨fun _ => ⟨fun q => absurd q (by decide), fun _ => hK.thr hr (by decide)⟩, fun q => absurd rfl q⟩) (fun q => absurd q c2)
  have c0 := c
  have c20 := c2
  obtain ⟨o, ho, rfl⟩ := c
  obtain ⟨thr, hthr, rfl⟩ := c2
  obtain ⟨V, s, d, p, hT, hG, hI⟩ := hr
  refine ⟨w * h + 1, sp_decAll hS (by omega) ho (w * h) 0 d T (by omega) hT (fun T' hT' => ⟨vin01, hP _ _ ?_⟩)⟩
  unfold wp_X4_decodeAll
  refine sp_in3 (fun q => absurd c0 q) (fun _ => ⟨fun q => absurd q (by decide), fun _ => ?_⟩)
  refine sp_inT (fun q => absurd c20 q) (fun _ => ⟨fun q => absurd q (by decide), fun _ => ⟨fun _ G2 hG2 => ?_, fun q => absurd (by decide) q⟩⟩)
  subst hG2
  exact ⟨w * h + 2, sp_mdecAll (thr := thr) hY (by omega) ho (w * h) 0 d (0, G.2) (by omega) hG (fun G' hg hc => hK.ret ⟨V, s, _, p, hT', hg, hI⟩ hc)⟩
