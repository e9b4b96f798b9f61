-- what the class's object and the reference's have in common
abbrev dSt : Type := (Nat → Nat) × (Nat → Bool) × Nat × (Nat → Bool)
def relT (w h : Nat) (T : vTT) (V : Nat → Nat) (s : cSt) (d : dSt) (p : Nat) : Prop := repC (nds w h) T V s ∧ SDok (nds w h) T.2.2.1 d.1 d.2.1 ∧ (∃ f, BRok T.2.2.2.2.1 f d.2.2.1 d.2.2.2) ∧ T.2.2.2.2.2 = nI p
def relG (w h : Nat) (G : vMM) (V : Nat → Nat) (s : cSt) (d : dSt) (p : Nat) : Prop := okV (nds w h) G.2.1 V ∧ repM (nds w h) 0 G.2.2.1 G.2.2.2.1 s.1 s.2.1 ∧ repM (nds w h) 1400 G.2.2.1 G.2.2.2.1 d.1 d.2.1 ∧ (G.2.2.2.2.1.2.1 = nI s.2.2.1 ∧ ∀ i, i < s.2.2.1 → i < 40000 → G.2.2.2.2.1.1 i = nI (s.2.2.2 i).toNat) ∧ G.2.2.2.2.1.2.2 = nI p ∧ ∃ f, okQ G f d.2.2.1 d.2.2.2
def invS (w h : Nat) (V : Nat → Nat) (s : cSt) (p : Nat) : Prop := treeV w h V ∧ (∀ n, n < nds w h → s.1 n ≤ V n) ∧ p ≤ s.2.2.1 ∧ s.2.2.1 ≤ 40000 ∧ (s.2.2.1 = 0 → ∀ n, n < nds w h → s.1 n = 0 ∧ s.2.1 n = false)
def rel (w h : Nat) (T : vTT) (G : vMM) : Prop := ∃ V s d p, relT w h T V s d p ∧ relG w h G V s d p ∧ invS w h V s p
theorem relG.code {w h : Nat} {G : vMM} {V : Nat → Nat} {s : cSt} {d : dSt} {p : Nat} (hg : relG w h G V s d p) (c : Int32) : relG w h (c, G.2) V s d p := hg
theorem rel.code {w h : Nat} {T : vTT} {G : vMM} (hr : rel w h T G) (c : Int32) : rel w h T (c, G.2) := by
  obtain ⟨V, s, d, p, h1, h2, h3⟩ := hr
  exact ⟨V, s, d, p, h1, h2, h3⟩
def KOK (w h : Nat) (K : Int32 → vLW → Int32 → vMM → Prop) : Prop := ∀ k T' (out' : Nat → Int64) b G', rel w h T' G' → G'.1 = k → (k = 0 → out' 0 = b.toInt64) → K k (T', out') b G'
theorem KOK.thr {w h : Nat} {K : Int32 → vLW → Int32 → vMM → Prop} (hK : KOK w h K) {T : vTT} {G : vMM} (hr : rel w h T G) {out : Nat → Int64} {b k : Int32} (hk : ¬ k = 0) : K k (T, out) b (k, G.2) := hK k T out b (k, G.2) (hr.code k) rfl (fun q => absurd q hk)
theorem KOK.ret {w h : Nat} {K : Int32 → vLW → Int32 → vMM → Prop} (hK : KOK w h K) {T : vTT} {G : vMM} (hr : rel w h T G) {out : Nat → Int64} {b : Int32} (hc : G.1 = 0) : K 0 (T, vp_updL out ((0 : Int32).toNatClampNeg) b.toInt64) b G := hK 0 T _ b G hr hc (fun _ => pk_uLs)
theorem vin01 : vp_in 0 1 := vp_in_nI (n := 0) (N := 1) (by omega) (by omega)
-- the class's checks
theorem leaf_node {w h : Nat} (x1 x2 : Int32) : nodeIn w h 0 x1 x2 ↔ leafI w h x1 x2 := by
  have hl := lvs_pos w h
  have h6 := lvs_le w h
  constructor
  · rintro ⟨l, x, y, a1, a2, a3, b1, b2, b3⟩
    rw [show (0 : Int32) = nI 0 from rfl, nI_eq (by omega) (by omega)] at b1
    subst b1
    rw [cdiv_0] at a2 a3
    exact ⟨x, y, a2, a3, b2, b3⟩
  · rintro ⟨x, y, a2, a3, b2, b3⟩
    refine ⟨0, x, y, by omega, ?_, ?_, rfl, b2, b3⟩
    · rw [cdiv_0]; exact a2
    · rw [cdiv_0]; exact a3
theorem sp_checkNode {w h nl nn : Nat} {S : vSH} (hS : okS w h S) {T : vTT} {x1 x2 x3 : Int32} {post : vTT → Prop} {px : String → vTT → Prop} (h0 : ¬ nodeIn w h x1 x2 x3 → px "java/lang/IndexOutOfBoundsException" T) (h1 : nodeIn w h x1 x2 x3 → post T) : wp_X3_checkNode post px nl nn S T x1 x2 x3 :=
  sp_hasNode hS (fun c => ⟨fun _ => h0 c, fun q => absurd rfl q⟩) (fun c => ⟨fun q => absurd q (by decide), fun _ => h1 c⟩)
theorem sp_checkLeaf {w h nl nn : Nat} {S : vSH} (hS : okS w h S) {T : vTT} {x1 x2 : Int32} {post : vTT → Prop} {px : String → vTT → Prop} (h0 : ¬ leafI w h x1 x2 → px "java/lang/IndexOutOfBoundsException" T) (h1 : leafI w h x1 x2 → post T) : wp_X3_checkNode post px nl nn S T 0 x1 x2 :=
  sp_checkNode hS (fun c => h0 (fun q => c ((leaf_node _ _).mpr q))) (fun c => h1 ((leaf_node _ _).mp c))
theorem sp_checkThr {x : Int32} {post : Unit → Prop} {px : String → Unit → Prop} (h0 : ¬ inN 1002 x → px "java/lang/IllegalArgumentException" ()) (h1 : inN 1002 x → post ()) : wp_X3_checkThreshold post px x := by
  refine ⟨fun c => h0 (fun ⟨j, q1, q2⟩ => ?_), fun c => ⟨fun d => ?_, fun d => h0 (fun ⟨j, q1, q2⟩ => d ?_)⟩⟩
  · subst q2; exact nI_pos (by omega) c
  · obtain ⟨j, hj, rfl⟩ := nI_of c
    rw [show (1001 : Int32) = nI 1001 from rfl, nI_leI hj (by omega)] at d
    exact h1 ⟨j, by omega, rfl⟩
  · subst q2
    rw [show (1001 : Int32) = nI 1001 from rfl, nI_leI (by omega) (by omega)]
    omega
theorem sp_checkOrd {x : Int32} {post : Unit → Prop} {px : String → Unit → Prop} (h0 : ¬ inN 3 x → px "java/lang/IllegalArgumentException" ()) (h1 : inN 3 x → post ()) : wp_X3_checkOrder post px x := by
  refine ⟨fun c => h0 (fun ⟨j, q1, q2⟩ => ?_), fun c => ⟨fun d => ?_, fun d => h0 (fun ⟨j, q1, q2⟩ => d ?_)⟩⟩
  · subst q2; exact nI_pos (by omega) c
  · obtain ⟨j, hj, rfl⟩ := nI_of c
    rw [show (3 : Int32) = nI 3 from rfl, nI_ltI hj (by omega)] at d
    exact h1 ⟨j, by omega, rfl⟩
  · subst q2
    rw [show (3 : Int32) = nI 3 from rfl, nI_ltI (by omega) (by omega)]
    omega
theorem sp_checkRoom {B : vBR} {m n : Nat} (hm : B.2.2 = nI m) (hm2 : m ≤ 40000) (hn : n < 2 ^ 30) {post : vBR → Prop} {px : String → vBR → Prop} (h1 : m + n ≤ 40000 → post B) (h0 : 40000 < m + n → px "java/lang/UnsupportedOperationException" B) : wp_X3_checkRoom post px B (nI n) := by
  unfold wp_X3_checkRoom
  rw [hm, show (40000 : Int32) = nI 40000 from rfl, pk_sub hm2, nI_leI (by omega) (by omega)]
  exact ⟨fun c => h1 (by omega), fun c => h0 (by omega)⟩
theorem sp_checkNT {nl nn : Nat} {S : vSH} {T : vTT} {t : Nat} (ht : T.2.2.2.1.2.2 = nI t) (ht2 : t ≤ 40000) {post : vTT → Prop} {px : String → vTT → Prop} (h1 : t = 0 → post T) (h0 : 0 < t → px "java/lang/IllegalStateException" T) : wp_X3_checkNothingTold post px nl nn S T := by
  unfold wp_X3_checkNothingTold
  rw [ht, show (0 : Int32) = nI 0 from rfl, nI_leI (by omega) (by omega)]
  exact ⟨fun c => h1 (by omega), fun c => h0 (by omega)⟩
theorem sp_in' {N : Nat} (hN : N < 2 ^ 31) {x : Int32} {post : Int32 → Prop} (hn : ¬ inN N x → post 0) (hy : inN N x → post 1) : wp_X4_in post x 0 (nI N - 1) := by
  rcases Nat.eq_zero_or_pos N with e | e
  · subst e
    have h0 := hn (fun ⟨j, q1, q2⟩ => absurd q1 (Nat.not_lt_zero _))
    refine ⟨fun _ => h0, fun c => ⟨fun _ => h0, fun d => ?_⟩⟩
    obtain ⟨j, hj, rfl⟩ := nI_of c
    exact absurd (show nI 0 - 1 < nI j by rw [Int32.lt_iff_toInt_lt, nI_toInt hj]; show (-1 : Int) < _; omega) d
  · exact sp_in e hN hn hy
-- the calls
theorem law_leaf {w h : Nat} {S : vSH} {Y : vMS} (hS : okS w h S) (hY : okY w h Y) {T : vTT} {G : vMM} (hr : rel w h T G) {out : Nat → Int64} {x1 x2 : Int32} {P : Int32 → vLW → Prop} {K : Int32 → vLW → Int32 → vMM → Prop} (hP : ∀ k V, wp_X4_leaf (K k V) Y G x1 x2 → P k V) (hK : KOK w h K) : wp_L_leaf P (w * h) (nds w h) S (T, out) x1 x2 := by
  have hd := hS.1
  have hm := hd.mul
  unfold wp_L_leaf wp_X3_leaf
  refine sp_checkOrd (fun c => Or.inl ⟨rfl, hP _ _ ?_⟩) (fun c => ?_)
  · unfold wp_X4_leaf
    rw [show (2 : Int32) = nI 3 - 1 by decide]
    exact sp_in' (by omega) (fun _ => ⟨fun _ => ⟨fun q => absurd q (by decide), fun _ => hK.thr hr (by decide)⟩, fun q => absurd rfl q⟩) (fun q => absurd q c)
  · have mod : ∀ k V, (¬ inN (w * h) x2 → K k V 0 (2, G.2)) → (inN (w * h) x2 → wp_X4_leafOf (fun r => K k V r (0, G.2)) Y (0, G.2) x1 x2) → wp_X4_leaf (K k V) Y G x1 x2 := by
      intro k V q1 q2
      unfold wp_X4_leaf
      rw [show wp_X4_in = wp_X4_in from rfl]
      refine (show (2 : Int32) = nI 3 - 1 by decide) ▸ sp_in' (N := 3) (by omega) (fun q => absurd c q) (fun _ => ⟨fun q => absurd q (by decide), fun _ => ?_⟩)
      rw [hY.2.1]
      show wp_X4_in _ x2 0 (nI w * nI h - 1)
      rw [pk_mul]
      exact sp_in' (by omega) (fun q => ⟨fun _ => ⟨fun z => absurd z (by decide), fun _ => q1 q⟩, fun z => absurd rfl z⟩) (fun q => ⟨fun z => absurd z (by decide), fun _ => ⟨fun _ => q2 q, fun z => absurd (by decide) z⟩⟩)
    obtain ⟨o, ho, rfl⟩ := c
    have hout : ¬ inN (w * h) x2 → P 2 (T, out) := fun c => hP _ _ (mod _ _ (fun _ => hK.thr hr (by decide)) (fun q => absurd q c))
    rw [hS.2.1]
    refine ⟨fun c => Or.inr ⟨rfl, hout (fun ⟨j, q1, q2⟩ => ?_)⟩, fun c => ⟨fun c2 => ?_, fun c2 => Or.inr ⟨rfl, hout (fun ⟨j, q1, q2⟩ => c2 ?_)⟩⟩⟩
    · subst q2; exact nI_pos (by omega) c
    · obtain ⟨k, hk, rfl⟩ := nI_of c
      have hk2 : k < w * h := (nI_ltI hk (by omega)).mp c2
      refine sp_leafX hS ho hk2 (sp_leafY hS ho hk2 (sp_nodeAt (l := 0) hS (lvs_pos w h) ⟨vin01, hP _ _ (mod _ _ (fun q => absurd ⟨k, hk2, rfl⟩ q) (fun _ => ?_))⟩))
      refine sp_leafOf hY ho hk2 ?_
      have e : node w h 0 (ordX w h o k) (ordY w h o k) = ordY w h o k * w + ordX w h o k := by
        unfold node
        rw [cdiv_0]
        show 0 + _ + _ = _
        omega
      rw [e]
      exact hK.ret (hr.code 0) rfl
    · subst q2
      exact (nI_ltI (by omega) (by omega)).mpr q1
theorem law_bitAt {w h : Nat} {S : vSH} {Y : vMS} {T : vTT} {G : vMM} (hr : rel w h T G) {out : Nat → Int64} {x1 : Int32} {P : Int32 → vLW → Prop} {K : Int32 → vLW → Int32 → vMM → Prop} (hP : ∀ k V, wp_X4_bitAt (K k V) Y G x1 → P k V) (hK : KOK w h K) : wp_L_bitAt P (w * h) (nds w h) S (T, out) x1 := by
  obtain ⟨V, s, d, p, hT, hG, hI⟩ := hr
  have hr : rel w h T G := ⟨V, s, d, p, hT, hG, hI⟩
  have ht := hI.2.2.2.1
  have hB := hT.1.2.2
  have mod : ∀ k V', (¬ inN s.2.2.1 x1 → K k V' 0 (1, G.2)) → (∀ j, j < s.2.2.1 → x1 = nI j → K k V' (nI (s.2.2.2 j).toNat) (0, G.2)) → wp_X4_bitAt (K k V') Y G x1 := by
    intro k V' q1 q2
    unfold wp_X4_bitAt
    rw [hG.2.2.2.1.1]
    refine sp_in' (by omega) (fun q => ⟨fun _ => ⟨fun z => absurd z (by decide), fun _ => q1 q⟩, fun z => absurd rfl z⟩) (fun ⟨j, q3, q4⟩ => ⟨fun z => absurd z (by decide), fun _ => ⟨fun _ => ?_, fun z => absurd (by decide) z⟩⟩)
    subst q4
    have e := hG.2.2.2.1.2 j q3 (by omega)
    have := q2 j q3 rfl
    rw [nI_clamp (by omega), e, nI_b0]
    refine ⟨vp_in_nI (by omega) (by omega), fun c => ?_, fun c => ?_⟩
    · rw [c] at this; exact this
    · have c2 : s.2.2.2 j = true := by cases z : s.2.2.2 j with | true => rfl | false => exact absurd z c
      rw [c2] at this; exact this
  have hout : ¬ inN s.2.2.1 x1 → P 1 (T, out) := fun c => hP _ _ (mod _ _ (fun _ => hK.thr hr (by decide)) (fun j q1 q2 => absurd ⟨j, q1, q2⟩ c))
  refine ⟨fun c => ⟨rfl, hout (fun ⟨j, q1, q2⟩ => ?_)⟩, fun c => ?_⟩
  · subst q2; exact nI_pos (by omega) c
  · obtain ⟨j, hj, rfl⟩ := nI_of c
    rw [hB.2.1, nI_ltI hj (by omega)]
    refine ⟨fun c2 => sp_look hB c2 ⟨vin01, hP _ _ (mod _ _ (fun q => absurd ⟨j, c2, rfl⟩ q) (fun j' q1 q2 => ?_))⟩, fun c2 => ⟨rfl, hout (fun ⟨j', q1, q2⟩ => ?_)⟩⟩
    · rw [nI_eq hj (by omega)] at q2
      subst q2
      exact hK.ret (hr.code 0) rfl
    · rw [nI_eq hj (by omega)] at q2
      omega
theorem law_feed {w h : Nat} {S : vSH} {Y : vMS} {T : vTT} {G : vMM} (hr : rel w h T G) {out : Nat → Int64} {x1 : Int32} {P : Int32 → vLW → Prop} {K : Int32 → vLW → Int32 → vMM → Prop} (hP : ∀ k V, wp_X4_feed (K k V) Y G x1 → P k V) (hK : KOK w h K) : wp_L_feed P (w * h) (nds w h) S (T, out) x1 := by
  obtain ⟨V, s, d, p, hT, hG, hI⟩ := hr
  have hr : rel w h T G := ⟨V, s, d, p, hT, hG, hI⟩
  obtain ⟨f, hB⟩ := hT.2.2.1
  obtain ⟨f', hQ⟩ := hG.2.2.2.2.2
  have hm := hB.2.2.2.1
  have one : ∀ v : Bool, x1 = nI v.toNat → wp_X3_checkRoom (fun B_2 => wp_X0_append (fun B_3 => (fun r_1 T_2 => vp_in 0 1 ∧ (P 0 (T_2, (vp_updL out ((0 : Int32).toNatClampNeg) r_1.toInt64)))) B_3.2.2 (T.1, T.2.1, T.2.2.1, T.2.2.2.1, B_3, T.2.2.2.2.2)) B_2 x1) (fun E B_2 => (fun (E : String) (T_2 : vTT) => ((E = "java/lang/IllegalArgumentException" ∧ (P 1 (T_2, out))) ∨ (E = "java/lang/UnsupportedOperationException" ∧ (P 2 (T_2, out))))) E (T.1, T.2.1, T.2.2.1, T.2.2.2.1, B_2, T.2.2.2.2.2)) T.2.2.2.2.1 1 := by
    intro v hv
    subst hv
    have mod : ∀ k V', (40000 < d.2.2.1 + 1 → K k V' 0 (2, G.2)) → (d.2.2.1 < 40000 → wp_X4_add (fun G_7 => K k V' G_7.2.2.2.2.2.1.2.2 G_7) Y (0, G.2) (nI v.toNat)) → wp_X4_feed (K k V') Y G (nI v.toNat) := by
      intro k V' q1 q2
      unfold wp_X4_feed
      refine (show (1 : Int32) = nI 2 - 1 by decide) ▸ sp_in' (N := 2) (by omega) (fun q => absurd ⟨v.toNat, toNat_lt v, rfl⟩ q) (fun _ => ⟨fun q => absurd q (by decide), fun _ => ?_⟩)
      rw [hQ.2.1, show (40000 : Int32) = nI 40000 from rfl, nI_eq (by omega) (by omega)]
      refine ⟨fun c => ⟨fun q => absurd q (by decide), fun _ => q1 (by omega)⟩, fun c => ⟨fun _ => ?_, fun q => absurd (by decide) q⟩⟩
      have := q2 (by omega)
      cases v with
      | true => exact ⟨fun _ => this, fun q => absurd rfl q⟩
      | false => exact ⟨fun q => absurd q (by decide), fun _ => this⟩
    refine sp_checkRoom (n := 1) hB.2.1 hm (by omega) (fun c => ?_) (fun c => Or.inr ⟨rfl, hP _ _ (mod _ _ (fun _ => hK.thr hr (by decide)) (fun q => absurd q (by omega)))⟩)
    refine sp_append hB (by omega) v (fun B' hB' => ⟨vin01, hP _ _ (mod _ _ (fun q => absurd q (by omega)) (fun q => ?_))⟩)
    refine sp_madd (G := (0, G.2)) (f := f') hQ q v (fun qq hqq => ?_)
    rw [hB'.2.1]
    have hrel : rel w h (T.1, T.2.1, T.2.2.1, T.2.2.2.1, B', T.2.2.2.2.2) (setQ (0, G.2) qq (nI f') (nI (d.2.2.1 + 1))) := ⟨V, s, (d.1, d.2.1, d.2.2.1 + 1, fun i => if i = d.2.2.1 then v else d.2.2.2 i), p, ⟨hT.1, hT.2.1, ⟨f, hB'⟩, hT.2.2.2⟩, ⟨hG.1, hG.2.1, hG.2.2.1, hG.2.2.2.1, hG.2.2.2.2.1, ⟨f', hqq⟩⟩, hI⟩
    exact hK.ret hrel rfl
  refine ⟨fun c => one false c, fun c => ⟨fun c2 => one true c2, fun c2 => Or.inl ⟨rfl, hP _ _ ?_⟩⟩⟩
  unfold wp_X4_feed
  refine (show (1 : Int32) = nI 2 - 1 by decide) ▸ sp_in' (N := 2) (by omega) (fun _ => ⟨fun _ => ⟨fun q => absurd q (by decide), fun _ => hK.thr hr (by decide)⟩, fun q => absurd rfl q⟩) (fun ⟨j, q1, q2⟩ => ?_)
  exfalso
  match j, q1 with
  | 0, _ => exact c q2
  | 1, _ => exact c2 q2
theorem law_known {w h : Nat} {S : vSH} {Y : vMS} (hS : okS w h S) (hY : okY w h Y) {T : vTT} {G : vMM} (hr : rel w h T G) {out : Nat → Int64} {x1 x2 : Int32} {P : Int32 → vLW → Prop} {K : Int32 → vLW → Int32 → vMM → Prop} (hP : ∀ k V, wp_X4_known (K k V) Y G x1 x2 → P k V) (hK : KOK w h K) : wp_L_known P (w * h) (nds w h) S (T, out) x1 x2 := by
  have hN := nds_le hS.1
  unfold wp_L_known wp_X3_known
  refine sp_checkLeaf hS (fun c => ⟨rfl, hP _ _ (sp_isLeaf hY (fun _ => ⟨fun _ => ⟨fun q => absurd q (by decide), fun _ => hK.thr hr (by decide)⟩, fun q => absurd rfl q⟩) (fun q => absurd q c))⟩) (fun c => ?_)
  obtain ⟨x, y, hx, hy, rfl, rfl⟩ := c
  obtain ⟨V, s, d, p, hT, hG, hI⟩ := hr
  have hr : rel w h T G := ⟨V, s, d, p, hT, hG, hI⟩
  have hn : node w h 0 x y < nds w h := node_lt (lvs_pos w h) (by rw [cdiv_0]; exact hx) (by rw [cdiv_0]; exact hy)
  have en : 1400 + y * w + x = 1400 + node w h 0 x y := by
    unfold node
    rw [cdiv_0]
    show _ = 1400 + (0 + _ + _)
    omega
  obtain ⟨d1, d2, d3⟩ := hT.2.1.1 _ hn
  obtain ⟨g1, g2, g3⟩ := hG.2.2.1 _ hn
  have mod : ∀ k V', K k V' (if d.2.1 (node w h 0 x y) = true then nI (d.1 (node w h 0 x y)) else (-1) - nI (d.1 (node w h 0 x y))) (0, G.2) → wp_X4_known (K k V') Y G (nI x) (nI y) := by
    intro k V' q
    refine sp_isLeaf hY (fun c => absurd ⟨x, y, hx, hy, rfl, rfl⟩ c) (fun _ => ⟨fun q => absurd q (by decide), fun _ => ⟨fun _ => ?_, fun q => absurd (by decide) q⟩⟩)
    intro x3 h3
    rw [hY.2.1] at h3
    have h3 : x3 = nI 1400 + nI y * nI w + nI x := h3
    rw [pk_mul, nI_add, nI_add, en] at h3
    subst h3
    have hin := vp_in_nI (show 1400 + node w h 0 x y < 2800 by omega) (show 2800 < 2 ^ 31 by omega)
    rw [nI_clamp (by omega), g1, g2, nI_b0]
    refine ⟨hin, fun c => ⟨hin, ?_⟩, fun c => ⟨hin, ?_⟩⟩
    · rw [if_neg (by rw [c]; exact Bool.false_ne_true)] at q; exact q
    · have c2 : d.2.1 (node w h 0 x y) = true := by cases z : d.2.1 (node w h 0 x y) with | true => rfl | false => exact absurd z c
      rw [if_pos c2] at q; exact q
  have hin := vp_in_nI hn (show nds w h < 2 ^ 31 by omega)
  refine sp_nodeAt (l := 0) hS (lvs_pos w h) ⟨hin, ?_⟩
  rw [nI_clamp (by omega), d1]
  intro x4 h4
  subst h4
  refine ⟨hin, ?_⟩
  show (T.2.2.1.2.1 _ = 0 → _) ∧ (¬ T.2.2.1.2.1 _ = 0 → _)
  rw [d3, nI_b0]
  refine ⟨fun c => ⟨vin01, hP _ _ (mod _ _ ?_)⟩, fun c => ⟨vin01, hP _ _ (mod _ _ ?_)⟩⟩
  · rw [if_neg (by rw [c]; exact Bool.false_ne_true)]
    exact hK.ret (hr.code 0) rfl
  · have c2 : d.2.1 (node w h 0 x y) = true := by cases z : d.2.1 (node w h 0 x y) with | true => rfl | false => exact absurd z c
    rw [if_pos c2]
    exact hK.ret (hr.code 0) rfl
theorem law_bound {w h : Nat} {S : vSH} {Y : vMS} (hS : okS w h S) (hY : okY w h Y) {T : vTT} {G : vMM} (hr : rel w h T G) {out : Nat → Int64} {x1 x2 x3 x4 : Int32} {P : Int32 → vLW → Prop} {K : Int32 → vLW → Int32 → vMM → Prop} (hP : ∀ k V, wp_X4_bound (K k V) Y G x1 x2 x3 x4 → P k V) (hK : KOK w h K) : wp_L_bound P (w * h) (nds w h) S (T, out) x1 x2 x3 x4 := by
  have hN := nds_le hS.1
  unfold wp_L_bound wp_X3_bound
  refine sp_checkNode hS (fun c => ⟨rfl, hP _ _ (sp_isNode hY (fun _ => ⟨fun _ => ⟨fun q => absurd q (by decide), fun _ => hK.thr hr (by decide)⟩, fun q => absurd rfl q⟩) (fun q => absurd q c))⟩) (fun c => ?_)
  have c0 := c
  obtain ⟨l, x, y, hl, hx, hy, rfl, rfl, rfl⟩ := c
  obtain ⟨V, s, d, p, hT, hG, hI⟩ := hr
  have hr : rel w h T G := ⟨V, s, d, p, hT, hG, hI⟩
  have hn := node_lt hl hx hy
  have hin := vp_in_nI hn (show nds w h < 2 ^ 31 by omega)
  obtain ⟨d1, d2, d3⟩ := hT.2.1.1 _ hn
  obtain ⟨g1, g2, g3⟩ := hG.2.2.1 _ hn
  obtain ⟨d1', d2', d3'⟩ := hT.1.2.1.1 _ hn
  obtain ⟨g1', g2', g3'⟩ := hG.2.1 _ hn
  refine ⟨fun c => sp_nodeAt hS hl ⟨hin, vin01, hP _ _ ?_⟩, fun c => sp_nodeAt hS hl ⟨hin, vin01, hP _ _ ?_⟩⟩
  · rw [nI_clamp (by omega), d1]
    refine sp_isNode hY (fun q => absurd c0 q) (fun _ => ⟨fun q => absurd q (by decide), fun _ => ⟨fun _ => ⟨fun _ => sp_mnode hY hl ?_, fun q => absurd c q⟩, fun q => absurd (by decide) q⟩⟩)
    have e : (1400 : Int32) + nI (node w h l x y) = nI (1400 + node w h l x y) := nI_add 1400 _
    rw [e, nI_clamp (by omega), g1]
    exact ⟨vp_in_nI (by omega) (by omega), hK.ret (hr.code 0) rfl⟩
  · rw [nI_clamp (by omega), d1']
    refine sp_isNode hY (fun q => absurd c0 q) (fun _ => ⟨fun q => absurd q (by decide), fun _ => ⟨fun _ => ⟨fun q => absurd q c, fun _ => sp_mnode hY hl ?_⟩, fun q => absurd (by decide) q⟩⟩)
    have e : (0 : Int32) + nI (node w h l x y) = nI (0 + node w h l x y) := nI_add 0 _
    rw [e, nI_clamp (by omega), g1']
    exact ⟨vp_in_nI (by omega) (by omega), hK.ret (hr.code 0) rfl⟩
theorem law_least {w h : Nat} {S : vSH} {Y : vMS} (hS : okS w h S) (hY : okY w h Y) {T : vTT} {G : vMM} (hr : rel w h T G) {out : Nat → Int64} {x1 x2 x3 : Int32} {P : Int32 → vLW → Prop} {K : Int32 → vLW → Int32 → vMM → Prop} (hP : ∀ k V, wp_X4_least (K k V) Y G x1 x2 x3 → P k V) (hK : KOK w h K) : wp_L_least P (w * h) (nds w h) S (T, out) x1 x2 x3 := by
  have hN := nds_le hS.1
  unfold wp_L_least wp_X3_least
  refine sp_checkNode hS (fun c => ⟨rfl, hP _ _ (sp_isNode hY (fun _ => ⟨fun _ => ⟨fun q => absurd q (by decide), fun _ => hK.thr hr (by decide)⟩, fun q => absurd rfl q⟩) (fun q => absurd q c))⟩) (fun c => ?_)
  have c0 := c
  obtain ⟨l, x, y, hl, hx, hy, rfl, rfl, rfl⟩ := c
  obtain ⟨V, s, d, p, hT, hG, hI⟩ := hr
  have hr : rel w h T G := ⟨V, s, d, p, hT, hG, hI⟩
  have hn := node_lt hl hx hy
  have hin := vp_in_nI hn (show nds w h < 2 ^ 31 by omega)
  obtain ⟨d1, d2⟩ := hT.1.1 _ hn
  obtain ⟨g1, g2⟩ := hG.1 _ hn
  refine sp_nodeAt hS hl ⟨hin, vin01, hP _ _ ?_⟩
  rw [nI_clamp (by omega), d1]
  refine sp_isNode hY (fun q => absurd c0 q) (fun _ => ⟨fun q => absurd q (by decide), fun _ => ⟨fun _ => sp_mnode hY hl ?_, fun q => absurd (by decide) q⟩⟩)
  rw [nI_clamp (by omega), g1]
  exact ⟨vp_in_nI (by omega) (by omega), hK.ret (hr.code 0) rfl⟩
theorem law_told {w h : Nat} {S : vSH} {Y : vMS} (hS : okS w h S) (hY : okY w h Y) {T : vTT} {G : vMM} (hr : rel w h T G) {x1 : Int32} {P : Int32 → Prop} {K : Int32 → Int32 → vMM → Prop} (hP : ∀ k, wp_X4_told (K k) Y G x1 → P k) (hK : ∀ k G', rel w h T G' → K k k G') : wp_X3_told P (w * h) (nds w h) S T x1 := by
  obtain ⟨V, s, d, p, hT, hG, hI⟩ := hr
  have hr : rel w h T G := ⟨V, s, d, p, hT, hG, hI⟩
  obtain ⟨f, hB⟩ := hT.2.2.1
  obtain ⟨f', hQ⟩ := hG.2.2.2.2.2
  unfold wp_X3_told
  rw [hS.2.1, hT.1.2.2.2.1, hB.2.1, hT.1.2.1.2, hT.2.1.2]
  have mod : ∀ k, (x1 = 0 → k = nI w) → (x1 = 1 → k = nI h) → (x1 = 2 → k = nI (lvs w h)) → (x1 = 3 → k = nI (nds w h)) → (x1 = 4 → k = nI s.2.2.1) → (x1 = 5 → k = nI d.2.2.1) → (x1 = 6 → k = nI (cnt s.2.1 (nds w h))) → (x1 = 7 → k = nI (cnt d.2.1 (nds w h))) → ((¬ x1 = 0 ∧ ¬ x1 = 1 ∧ ¬ x1 = 2 ∧ ¬ x1 = 3 ∧ ¬ x1 = 4 ∧ ¬ x1 = 5 ∧ ¬ x1 = 6 ∧ ¬ x1 = 7) → k = -1) → P k := by
    intro k a0 a1 a2 a3 a4 a5 a6 a7 a8
    have hk : K k k (0, G.2) := hK k _ (hr.code 0)
    refine hP k ?_
    unfold wp_X4_told
    rw [hY.2.1, hG.2.2.2.1.1, hQ.2.1]
    refine ⟨fun c => ?_, fun c => ?_, fun c => ?_, fun c => ?_, fun c => ?_, fun c => ?_, fun c => ?_, fun c => ?_, fun c => ?_⟩
    · rw [a0 c] at hk ⊢; exact hk
    · rw [a1 c] at hk ⊢; exact hk
    · rw [a2 c] at hk ⊢; exact hk
    · rw [a3 c] at hk ⊢; exact hk
    · rw [a4 c] at hk ⊢; exact hk
    · rw [a5 c] at hk ⊢; exact hk
    · refine sp_knownIn (G := (0, G.2)) (B := 0) hY (by omega) hG.2.1 ?_
      rw [a6 c] at hk ⊢; exact hk
    · refine sp_knownIn (G := (0, G.2)) (B := 1400) hY (by omega) hG.2.2.1 ?_
      rw [a7 c] at hk ⊢; exact hk
    · rw [a8 c] at hk ⊢; exact hk
  refine ⟨fun c => ?_, fun c => ?_, fun c => ?_, fun c => ?_, fun c => ?_, fun c => ?_, fun c => ?_, fun c => ?_, fun c => ?_⟩
  · subst c; exact mod _ (fun _ => rfl) (fun q => absurd q (by decide)) (fun q => absurd q (by decide)) (fun q => absurd q (by decide)) (fun q => absurd q (by decide)) (fun q => absurd q (by decide)) (fun q => absurd q (by decide)) (fun q => absurd q (by decide)) (fun q => absurd rfl q.1)
  · subst c; exact mod _ (fun q => absurd q (by decide)) (fun _ => rfl) (fun q => absurd q (by decide)) (fun q => absurd q (by decide)) (fun q => absurd q (by decide)) (fun q => absurd q (by decide)) (fun q => absurd q (by decide)) (fun q => absurd q (by decide)) (fun q => absurd rfl q.2.1)
  · subst c; exact mod _ (fun q => absurd q (by decide)) (fun q => absurd q (by decide)) (fun _ => rfl) (fun q => absurd q (by decide)) (fun q => absurd q (by decide)) (fun q => absurd q (by decide)) (fun q => absurd q (by decide)) (fun q => absurd q (by decide)) (fun q => absurd rfl q.2.2.1)
  · subst c; exact mod _ (fun q => absurd q (by decide)) (fun q => absurd q (by decide)) (fun q => absurd q (by decide)) (fun _ => rfl) (fun q => absurd q (by decide)) (fun q => absurd q (by decide)) (fun q => absurd q (by decide)) (fun q => absurd q (by decide)) (fun q => absurd rfl q.2.2.2.1)
  · subst c; exact mod _ (fun q => absurd q (by decide)) (fun q => absurd q (by decide)) (fun q => absurd q (by decide)) (fun q => absurd q (by decide)) (fun _ => rfl) (fun q => absurd q (by decide)) (fun q => absurd q (by decide)) (fun q => absurd q (by decide)) (fun q => absurd rfl q.2.2.2.2.1)
  · subst c; exact mod _ (fun q => absurd q (by decide)) (fun q => absurd q (by decide)) (fun q => absurd q (by decide)) (fun q => absurd q (by decide)) (fun q => absurd q (by decide)) (fun _ => rfl) (fun q => absurd q (by decide)) (fun q => absurd q (by decide)) (fun q => absurd rfl q.2.2.2.2.2.1)
  · subst c; exact mod _ (fun q => absurd q (by decide)) (fun q => absurd q (by decide)) (fun q => absurd q (by decide)) (fun q => absurd q (by decide)) (fun q => absurd q (by decide)) (fun q => absurd q (by decide)) (fun _ => rfl) (fun q => absurd q (by decide)) (fun q => absurd rfl q.2.2.2.2.2.2.1)
  · subst c; exact mod _ (fun q => absurd q (by decide)) (fun q => absurd q (by decide)) (fun q => absurd q (by decide)) (fun q => absurd q (by decide)) (fun q => absurd q (by decide)) (fun q => absurd q (by decide)) (fun q => absurd q (by decide)) (fun _ => rfl) (fun q => absurd rfl q.2.2.2.2.2.2.2)
  · exact mod _ (fun q => absurd q c.1) (fun q => absurd q c.2.1) (fun q => absurd q c.2.2.1) (fun q => absurd q c.2.2.2.1) (fun q => absurd q c.2.2.2.2.1) (fun q => absurd q c.2.2.2.2.2.1) (fun q => absurd q c.2.2.2.2.2.2.1) (fun q => absurd q c.2.2.2.2.2.2.2) (fun _ => rfl)
theorem law_reset {w h : Nat} {S : vSH} {Y : vMS} (hd : dim w h) {T : vTT} {G : vMM} (hr : rel w h T G) {P : vTT → Prop} {K : vTT → vMM → Prop} (hP : ∀ T', wp_X4_reset (K T') Y G → P T') (hK : ∀ T' G', rel w h T' G' → K T' G') : wp_X3_reset P (w * h) (nds w h) S T := by
  have hN := nds_le hd
  obtain ⟨V, s, d, p, hT, hG, hI⟩ := hr
  refine sp_forget hT.1.2.1 (by omega) (fun D1 hD1 => sp_forget hT.2.1 (by omega) (fun D2 hD2 => sp_empty (bs := fun _ => false) (fun B1 hB1 => sp_empty (bs := fun _ => false) (fun B2 hB2 => hP _ (sp_mreset (fun bo kn hz => hK _ _ ?_))))))
  refine ⟨V, ((fun _ => 0), (fun _ => false), 0, fun _ => false), ((fun _ => 0), (fun _ => false), 0, fun _ => false), 0, ⟨⟨hT.1.1, hD1, hB1⟩, hD2, ⟨0, hB2⟩, rfl⟩, ⟨hG.1, fun n hn => ?_, fun n hn => ?_, ⟨rfl, fun i hi => absurd hi (Nat.not_lt_zero i)⟩, rfl, ⟨0, rfl, rfl, by omega, Nat.zero_le _, fun i hi => absurd hi (Nat.not_lt_zero i)⟩⟩, ⟨hI.1, fun n _ => Nat.zero_le _, Nat.le_refl _, by show 0 ≤ 40000; omega, fun _ n _ => ⟨rfl, rfl⟩⟩⟩
  · obtain ⟨q1, q2⟩ := hz (0 + n) (by omega)
    exact ⟨q1, q2, by show 0 ≤ 1001; omega⟩
  · obtain ⟨q1, q2⟩ := hz (1400 + n) (by omega)
    exact ⟨q1, q2, by show 0 ≤ 1001; omega⟩
