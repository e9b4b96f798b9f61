-- new objects
theorem sp_X0i {post : vBR → Prop} (h : post (zF, 0, 0)) : wp_X0_init post := h
def T00 : vTT := (zF, (zF, zF, 0), (zF, zF, 0), (zF, 0, 0), (zF, 0, 0), 0)
def G00 : vMM := (0, zF, zF, zF, (zF, 0, 0), (zF, 0, 0), (zF, zF, zF, 0), zF, zF)
theorem cl_dim (x y : Int32) : dim (clN x) (clN y) := ⟨(clN_in x).1, (clN_in x).2, (clN_in y).1, (clN_in y).2⟩
theorem sp_X3_init {x1 x2 : Int32} {post : vSH × vTT → Prop} (hp : ∀ S, okS (clN x1) (clN x2) S → post (S, T00)) : wp_X3_init post x1 x2 := by
  have hd := cl_dim x1 x2
  have hN := nds_le hd
  refine sp_near (sp_near (sp_X1_init hd (fun S hS => ?_)))
  have e : S.1.2.2.2.2 = nI (nds (clN x1) (clN x2)) := by rw [hS.2.1]
  rw [e, nI_clamp (by omega)]
  have z : wp_X2_init = wp_X2_init := rfl
  refine ⟨nI_pos (by omega), by omega, ⟨nI_pos (by omega), ?_, nI_pos (by omega), ?_, ⟨nI_pos (by omega), ?_, nI_pos (by omega), ?_, hp S hS⟩⟩⟩ <;> rw [nI_clamp (by omega)] <;> omega
theorem sp_mic {w h : Nat} (hd : dim w h) {cw ch : Int32} (e1 : cw = nI w) (e2 : ch = nI h) {post : vMS × vMM → Prop} {x1 x2 : Int32} {ex : (Nat → Int32) → (Nat → Int32) → (Nat → Int32) → (Nat → Int32) → (Nat → Int32) → (Nat → Int32) → (Nat → Int32) → (Nat → Int32) → (Nat → Int32) → (Nat → Int32) → (Nat → Int32) → (Nat → Int32) → (Nat → Int32) → Int32 → Int32 → Int32 → Int32 → Int32 → Prop} (he : ∀ a b c z5 z4 z3, okM w h (a, b, c) (lvs w h) → ex a b c zF zF zF zF zF zF zF zF zF zF (nI (lvs w h)) (nI (nds w h)) z5 z4 z3) : ∃ f, wp_X4_init_L177 post ex x1 x2 f zF zF zF zF zF zF zF zF zF zF zF zF zF 0 0 1 ch cw := by
  subst e1 e2
  exact sp_mi hd he
theorem sp_mic_1 {w h : Nat} (hd : dim w h) {cw ch : Int32} (e1 : cw = nI w) (e2 : ch = nI h) {post : vMS × vMM → Prop} {x1 x2 : Int32} {ex : (Nat → Int32) → (Nat → Int32) → (Nat → Int32) → (Nat → Int32) → (Nat → Int32) → (Nat → Int32) → (Nat → Int32) → (Nat → Int32) → (Nat → Int32) → (Nat → Int32) → (Nat → Int32) → (Nat → Int32) → (Nat → Int32) → Int32 → Int32 → Int32 → Int32 → Int32 → Prop} (he : ∀ a b c z5 z4 z3, okM w h (a, b, c) (lvs w h) → ex a b c zF zF zF zF zF zF zF zF zF zF (nI (lvs w h)) (nI (nds w h)) z5 z4 z3) : ∃ f, wp_X4_init_L177_1 post ex x1 x2 f zF zF zF zF zF zF zF zF zF zF zF zF zF 0 0 1 ch cw := by
  subst e1 e2
  exact sp_mi_1 hd he
theorem sp_mic_2 {w h : Nat} (hd : dim w h) {cw ch : Int32} (e1 : cw = nI w) (e2 : ch = nI h) {post : vMS × vMM → Prop} {x1 x2 : Int32} {ex : (Nat → Int32) → (Nat → Int32) → (Nat → Int32) → (Nat → Int32) → (Nat → Int32) → (Nat → Int32) → (Nat → Int32) → (Nat → Int32) → (Nat → Int32) → (Nat → Int32) → (Nat → Int32) → (Nat → Int32) → (Nat → Int32) → Int32 → Int32 → Int32 → Int32 → Int32 → Prop} (he : ∀ a b c z5 z4 z3, okM w h (a, b, c) (lvs w h) → ex a b c zF zF zF zF zF zF zF zF zF zF (nI (lvs w h)) (nI (nds w h)) z5 z4 z3) : ∃ f, wp_X4_init_L177_2 post ex x1 x2 f zF zF zF zF zF zF zF zF zF zF zF zF zF 0 0 1 ch cw := by
  subst e1 e2
  exact sp_mi_2 hd he
theorem sp_mic_3 {w h : Nat} (hd : dim w h) {cw ch : Int32} (e1 : cw = nI w) (e2 : ch = nI h) {post : vMS × vMM → Prop} {x1 x2 : Int32} {ex : (Nat → Int32) → (Nat → Int32) → (Nat → Int32) → (Nat → Int32) → (Nat → Int32) → (Nat → Int32) → (Nat → Int32) → (Nat → Int32) → (Nat → Int32) → (Nat → Int32) → (Nat → Int32) → (Nat → Int32) → (Nat → Int32) → Int32 → Int32 → Int32 → Int32 → Int32 → Prop} (he : ∀ a b c z5 z4 z3, okM w h (a, b, c) (lvs w h) → ex a b c zF zF zF zF zF zF zF zF zF zF (nI (lvs w h)) (nI (nds w h)) z5 z4 z3) : ∃ f, wp_X4_init_L177_3 post ex x1 x2 f zF zF zF zF zF zF zF zF zF zF zF zF zF 0 0 1 ch cw := by
  subst e1 e2
  exact sp_mi_3 hd he
theorem sp_mic_4 {w h : Nat} (hd : dim w h) {cw ch : Int32} (e1 : cw = nI w) (e2 : ch = nI h) {post : vMS × vMM → Prop} {x1 x2 : Int32} {ex : (Nat → Int32) → (Nat → Int32) → (Nat → Int32) → (Nat → Int32) → (Nat → Int32) → (Nat → Int32) → (Nat → Int32) → (Nat → Int32) → (Nat → Int32) → (Nat → Int32) → (Nat → Int32) → (Nat → Int32) → (Nat → Int32) → Int32 → Int32 → Int32 → Int32 → Int32 → Prop} (he : ∀ a b c z5 z4 z3, okM w h (a, b, c) (lvs w h) → ex a b c zF zF zF zF zF zF zF zF zF zF (nI (lvs w h)) (nI (nds w h)) z5 z4 z3) : ∃ f, wp_X4_init_L177_4 post ex x1 x2 f zF zF zF zF zF zF zF zF zF zF zF zF zF 0 0 1 ch cw := by
  subst e1 e2
  exact sp_mi_4 hd he
theorem sp_mic_5 {w h : Nat} (hd : dim w h) {cw ch : Int32} (e1 : cw = nI w) (e2 : ch = nI h) {post : vMS × vMM → Prop} {x1 x2 : Int32} {ex : (Nat → Int32) → (Nat → Int32) → (Nat → Int32) → (Nat → Int32) → (Nat → Int32) → (Nat → Int32) → (Nat → Int32) → (Nat → Int32) → (Nat → Int32) → (Nat → Int32) → (Nat → Int32) → (Nat → Int32) → (Nat → Int32) → Int32 → Int32 → Int32 → Int32 → Int32 → Prop} (he : ∀ a b c z5 z4 z3, okM w h (a, b, c) (lvs w h) → ex a b c zF zF zF zF zF zF zF zF zF zF (nI (lvs w h)) (nI (nds w h)) z5 z4 z3) : ∃ f, wp_X4_init_L177_5 post ex x1 x2 f zF zF zF zF zF zF zF zF zF zF zF zF zF 0 0 1 ch cw := by
  subst e1 e2
  exact sp_mi_5 hd he
theorem sp_mic_6 {w h : Nat} (hd : dim w h) {cw ch : Int32} (e1 : cw = nI w) (e2 : ch = nI h) {post : vMS × vMM → Prop} {x1 x2 : Int32} {ex : (Nat → Int32) → (Nat → Int32) → (Nat → Int32) → (Nat → Int32) → (Nat → Int32) → (Nat → Int32) → (Nat → Int32) → (Nat → Int32) → (Nat → Int32) → (Nat → Int32) → (Nat → Int32) → (Nat → Int32) → (Nat → Int32) → Int32 → Int32 → Int32 → Int32 → Int32 → Prop} (he : ∀ a b c z5 z4 z3, okM w h (a, b, c) (lvs w h) → ex a b c zF zF zF zF zF zF zF zF zF zF (nI (lvs w h)) (nI (nds w h)) z5 z4 z3) : ∃ f, wp_X4_init_L177_6 post ex x1 x2 f zF zF zF zF zF zF zF zF zF zF zF zF zF 0 0 1 ch cw := by
  subst e1 e2
  exact sp_mi_6 hd he
theorem sp_mic_7 {w h : Nat} (hd : dim w h) {cw ch : Int32} (e1 : cw = nI w) (e2 : ch = nI h) {post : vMS × vMM → Prop} {x1 x2 : Int32} {ex : (Nat → Int32) → (Nat → Int32) → (Nat → Int32) → (Nat → Int32) → (Nat → Int32) → (Nat → Int32) → (Nat → Int32) → (Nat → Int32) → (Nat → Int32) → (Nat → Int32) → (Nat → Int32) → (Nat → Int32) → (Nat → Int32) → Int32 → Int32 → Int32 → Int32 → Int32 → Prop} (he : ∀ a b c z5 z4 z3, okM w h (a, b, c) (lvs w h) → ex a b c zF zF zF zF zF zF zF zF zF zF (nI (lvs w h)) (nI (nds w h)) z5 z4 z3) : ∃ f, wp_X4_init_L177_7 post ex x1 x2 f zF zF zF zF zF zF zF zF zF zF zF zF zF 0 0 1 ch cw := by
  subst e1 e2
  exact sp_mi_7 hd he
theorem sp_mic_8 {w h : Nat} (hd : dim w h) {cw ch : Int32} (e1 : cw = nI w) (e2 : ch = nI h) {post : vMS × vMM → Prop} {x1 x2 : Int32} {ex : (Nat → Int32) → (Nat → Int32) → (Nat → Int32) → (Nat → Int32) → (Nat → Int32) → (Nat → Int32) → (Nat → Int32) → (Nat → Int32) → (Nat → Int32) → (Nat → Int32) → (Nat → Int32) → (Nat → Int32) → (Nat → Int32) → Int32 → Int32 → Int32 → Int32 → Int32 → Prop} (he : ∀ a b c z5 z4 z3, okM w h (a, b, c) (lvs w h) → ex a b c zF zF zF zF zF zF zF zF zF zF (nI (lvs w h)) (nI (nds w h)) z5 z4 z3) : ∃ f, wp_X4_init_L177_8 post ex x1 x2 f zF zF zF zF zF zF zF zF zF zF zF zF zF 0 0 1 ch cw := by
  subst e1 e2
  exact sp_mi_8 hd he
theorem sp_X4_init {x1 x2 : Int32} {post : vMS × vMM → Prop} (hp : ∀ Y, okY (clN x1) (clN x2) Y → post (Y, G00)) : wp_X4_init post x1 x2 := by
  have hd := cl_dim x1 x2
  have k1 := clN_eq x1
  have k2 := clN_eq x2
  have a1 : ∀ x : Int32, 1 ≤ x → x ≤ 32 → x = nI (clN x) := fun x q1 q2 => by rw [clN_eq, if_neg (fun z => absurd q1 (nlt32.mpr z)), if_neg (fun z => absurd q2 (nlt32.mpr z))]
  have a2 : ∀ x : Int32, 1 ≤ x → ¬ x ≤ 32 → 32 = nI (clN x) := fun x q1 q2 => by rw [clN_eq, if_neg (fun z => absurd q1 (nlt32.mpr z)), if_pos (nlt32.mp q2)]
  have a3 : ∀ x : Int32, ¬ 1 ≤ x → 1 = nI (clN x) := fun x q1 => by rw [clN_eq, if_pos (nlt32.mp q1)]
  have fin : ∀ (cw ch : Int32) (a b c : Nat → Int32), cw = nI (clN x1) → ch = nI (clN x2) → okM (clN x1) (clN x2) (a, b, c) (lvs (clN x1) (clN x2)) → post (((cw, ch, nI (lvs (clN x1) (clN x2)), nI (nds (clN x1) (clN x2))), a, b, c), G00) := by
    intro cw ch a b c e1 e2 hF
    subst e1 e2
    exact hp _ ⟨hd, rfl, hF⟩
  refine ⟨fun c1 => ⟨fun c2 => ⟨fun d1 => ⟨fun d2 => ?_, fun d2 => ?_⟩, fun d1 => ?_⟩, fun c2 => ⟨fun d1 => ⟨fun d2 => ?_, fun d2 => ?_⟩, fun d1 => ?_⟩⟩, fun c1 => ⟨fun d1 => ⟨fun d2 => ?_, fun d2 => ?_⟩, fun d1 => ?_⟩⟩
  · exact sp_mic hd (a1 x1 c1 c2) (a1 x2 d1 d2) (fun a b c z5 z4 z3 hF => fin _ _ a b c (a1 x1 c1 c2) (a1 x2 d1 d2) hF)
  · exact sp_mic_1 hd (a1 x1 c1 c2) (a2 x2 d1 d2) (fun a b c z5 z4 z3 hF => fin _ _ a b c (a1 x1 c1 c2) (a2 x2 d1 d2) hF)
  · exact sp_mic_2 hd (a1 x1 c1 c2) (a3 x2 d1) (fun a b c z5 z4 z3 hF => fin _ _ a b c (a1 x1 c1 c2) (a3 x2 d1) hF)
  · exact sp_mic_3 hd (a2 x1 c1 c2) (a1 x2 d1 d2) (fun a b c z5 z4 z3 hF => fin _ _ a b c (a2 x1 c1 c2) (a1 x2 d1 d2) hF)
  · exact sp_mic_4 hd (a2 x1 c1 c2) (a2 x2 d1 d2) (fun a b c z5 z4 z3 hF => fin _ _ a b c (a2 x1 c1 c2) (a2 x2 d1 d2) hF)
  · exact sp_mic_5 hd (a2 x1 c1 c2) (a3 x2 d1) (fun a b c z5 z4 z3 hF => fin _ _ a b c (a2 x1 c1 c2) (a3 x2 d1) hF)
  · exact sp_mic_6 hd (a3 x1 c1) (a1 x2 d1 d2) (fun a b c z5 z4 z3 hF => fin _ _ a b c (a3 x1 c1) (a1 x2 d1 d2) hF)
  · exact sp_mic_7 hd (a3 x1 c1) (a2 x2 d1 d2) (fun a b c z5 z4 z3 hF => fin _ _ a b c (a3 x1 c1) (a2 x2 d1 d2) hF)
  · exact sp_mic_8 hd (a3 x1 c1) (a3 x2 d1) (fun a b c z5 z4 z3 hF => fin _ _ a b c (a3 x1 c1) (a3 x2 d1) hF)
theorem cnt_f (n : Nat) : cnt (fun _ => false) n = 0 := by
  induction n with
  | zero => rfl
  | succ n ih => show cnt _ n + 0 = 0; rw [ih]
theorem rel_new (w h : Nat) : rel w h T00 G00 := by
  have hz : SDok (nds w h) ((zF, zF, 0) : vSD) (fun _ => 0) (fun _ => false) := ⟨fun n _ => ⟨rfl, Nat.zero_le _, rfl⟩, by rw [cnt_f]; rfl⟩
  have hb : BRok ((zF, 0, 0) : vBR) 0 0 (fun _ => false) := ⟨rfl, rfl, by omega, by omega, fun i hi => absurd hi (Nat.not_lt_zero i)⟩
  have hm : ∀ B, repM (nds w h) B zF zF (fun _ => 0) (fun _ => false) := fun B n _ => ⟨rfl, rfl, Nat.zero_le _⟩
  refine ⟨fun _ => 0, ((fun _ => 0), (fun _ => false), 0, fun _ => false), ((fun _ => 0), (fun _ => false), 0, fun _ => false), 0, ⟨⟨fun n _ => ⟨rfl, Nat.zero_le _⟩, hz, hb⟩, hz, ⟨0, hb⟩, rfl⟩, ⟨fun n _ => ⟨rfl, Nat.zero_le _⟩, hm 0, hm 1400, ⟨rfl, fun i hi => absurd hi (Nat.not_lt_zero i)⟩, rfl, ⟨0, rfl, rfl, by omega, Nat.zero_le _, fun i hi => absurd hi (Nat.not_lt_zero i)⟩⟩, ⟨fun _ _ _ _ _ _ => Nat.le_refl _, fun _ _ => Nat.le_refl _, Nat.le_refl _, Nat.zero_le _, fun _ _ _ => ⟨rfl, rfl⟩⟩⟩
-- the law
theorem law_kk {w h : Nat} {Y : vMS} {x4 : Int32} {N : vLA → Int32 → Prop} (hN : ∀ T G out, rel w h T G → ∀ x, x = x4 + 6 → N (T, G, out) x) : KOK w h (fun k V b G => wp_X4_thrown (fun r => ((r = k → (((k = 0 → (vp_in 0 1 ∧ (((lg_cmp (V.2 (0 : Int32).toNatClampNeg) b.toInt64 = 0 → (∀ x : Int32, x = x4 + 6 → N (V.1, G, V.2) x)) ∧ (¬ lg_cmp (V.2 (0 : Int32).toNatClampNeg) b.toInt64 = 0 → False))))) ∧ (¬ k = 0 → (∀ x : Int32, x = x4 + 6 → N (V.1, G, V.2) x))))) ∧ (¬ r = k → False))) Y G) := by
  intro k T' out' b G' hr hc ho
  refine ⟨fun _ => ⟨fun hk => ⟨vin01, fun _ => hN _ _ _ hr, fun q => q ?_⟩, fun _ => hN _ _ _ hr⟩, fun q => q hc⟩
  rw [lg_cmp_eq]
  exact ho hk
theorem law_run {L w h : Nat} {xs : Nat → Int32} (hL : L ≤ 3074) {S : vSH} {Y : vMS} (hS : okS w h S) (hY : okY w h Y) : ∀ (n j : Nat) (A9 : vLA), j + n = 512 → rel w h A9.1 A9.2.1 → wp_L_law L xs (w * h) (nds w h) S Y (n + 1) A9 (nI (2 + 6 * j)) := by
  intro n
  induction n with
  | zero =>
    intro j A9 hj hr
    unfold wp_L_law
    refine ⟨fun _ => trivial, fun c => absurd ?_ c⟩
    rw [Int32.lt_iff_toInt_lt, nI_toInt (by omega)]
    have := pk_sub_toInt (a := L) (b := 6) (by omega) (by omega)
    show (nI L - nI 6).toInt < _
    rw [this]
    omega
  | succ n ih =>
    intro j A9 hj hr
    unfold wp_L_law
    refine ⟨fun _ => trivial, fun c => ?_⟩
    have hle : 8 + 6 * j ≤ L := by
      rcases Nat.lt_or_ge L (8 + 6 * j) with q | q
      · exfalso
        apply c
        rw [Int32.lt_iff_toInt_lt, nI_toInt (by omega)]
        have := pk_sub_toInt (a := L) (b := 6) (by omega) (by omega)
        show (nI L - nI 6).toInt < _
        rw [this]
        omega
      · exact q
    have nx : ∀ T G out, rel w h T G → ∀ x : Int32, x = nI (2 + 6 * j) + 6 → wp_L_law L xs (w * h) (nds w h) S Y (n + 1) (T, G, out) x := by
      intro T G out hr' x hx
      rw [show (6 : Int32) = nI 6 from rfl, nI_add, show 2 + 6 * j + 6 = 2 + 6 * (j + 1) by omega] at hx
      subst hx
      exact ih (j + 1) (T, G, out) (by omega) hr'
    have i0 : vp_in (nI (2 + 6 * j)) L := vp_in_nI (by omega) (by omega)
    have ii : ∀ k, k < 6 → vp_in (nI (2 + 6 * j) + nI k) L := fun k hk => by rw [nI_add]; exact vp_in_nI (by omega) (by omega)
    have i1 : vp_in (nI (2 + 6 * j) + 1) L := ii 1 (by omega)
    have i2 : vp_in (nI (2 + 6 * j) + 2) L := ii 2 (by omega)
    have i3 : vp_in (nI (2 + 6 * j) + 3) L := ii 3 (by omega)
    have i4 : vp_in (nI (2 + 6 * j) + 4) L := ii 4 (by omega)
    have i5 : vp_in (nI (2 + 6 * j) + 5) L := ii 5 (by omega)
    generalize nI (2 + 6 * j) = x4 at *
    refine ⟨i0, fun _ => ?_, fun _ => ?_, fun _ => ?_, fun _ => ?_, fun _ => ?_, fun _ => ?_, fun _ => ?_, fun _ => ?_, fun _ => ?_, fun _ => ?_, fun _ => ?_, fun _ => ?_, fun _ => ?_, fun _ => ?_, fun _ => ?_, fun _ => ?_, fun _ => ?_⟩
    · exact ⟨i1, i2, i3, law_value hS hY hr (fun k V hx => ⟨i1, i2, i3, hx⟩) (law_kk nx)⟩
    · exact ⟨i1, i2, i3, i4, i5, law_values hS hY hr (fun k V hx => ⟨i1, i2, i3, i4, i5, hx⟩) (law_kk nx)⟩
    · exact ⟨i1, i2, i3, law_encode hS hY hr (fun k V hx => ⟨i1, i2, i3, hx⟩) (law_kk nx)⟩
    · exact ⟨i1, i2, i3, law_cost hS hY hr (fun k V hx => ⟨i1, i2, i3, hx⟩) (law_kk nx)⟩
    · exact ⟨i1, i2, law_encodeAll hS hY hr (fun k V hx => ⟨i1, i2, hx⟩) (law_kk nx)⟩
    · exact ⟨i1, law_bitAt hr (fun k V hx => ⟨i1, hx⟩) (law_kk nx)⟩
    · exact ⟨i1, law_feed hr (fun k V hx => ⟨i1, hx⟩) (law_kk nx)⟩
    · exact ⟨i1, law_pass hr (fun k V hx => ⟨i1, hx⟩) (law_kk nx)⟩
    · exact ⟨i1, i2, i3, law_decode hS hY hr (fun k V hx => ⟨i1, i2, i3, hx⟩) (law_kk nx)⟩
    · exact ⟨i1, i2, law_decodeAll hS hY hr (fun k V hx => ⟨i1, i2, hx⟩) (law_kk nx)⟩
    · exact ⟨i1, i2, law_known hS hY hr (fun k V hx => ⟨i1, i2, hx⟩) (law_kk nx)⟩
    · refine ⟨i1, fun c => ?_, fun c => ?_⟩
      · exact ⟨i2, i3, i4, law_bound hS hY hr (fun k V hx => ⟨i1, fun _ => ⟨i2, i3, i4, hx⟩, fun q => absurd c q⟩) (law_kk nx)⟩
      · exact ⟨i2, i3, i4, law_bound hS hY hr (fun k V hx => ⟨i1, fun q => absurd q c, fun _ => ⟨i2, i3, i4, hx⟩⟩) (law_kk nx)⟩
    · exact ⟨i1, i2, i3, law_least hS hY hr (fun k V hx => ⟨i1, i2, i3, hx⟩) (law_kk nx)⟩
    · exact ⟨i1, i2, law_leaf hS hY hr (fun k V hx => ⟨i1, i2, hx⟩) (law_kk nx)⟩
    · exact ⟨i1, law_told hS hY hr (fun k hx => ⟨i1, hx⟩) (fun k G' hr' => ⟨fun _ => nx _ _ _ hr', fun q => absurd rfl q⟩)⟩
    · exact law_reset hS.1 hr (fun T' hx => hx) (fun T' G' hr' => nx _ _ _ hr')
    · exact nx _ _ A9.2.2 hr
def cellv (L : Nat) (xs : Nat → Int32) (i : Nat) : Int32 := if L ≤ i then 0 else xs i
theorem sp_cell {L : Nat} {xs : Nat → Int32} (hL : L ≤ 3074) {i : Nat} (hi : i < 2) {post : Int32 → Prop} (hp : post (cellv L xs i)) : wp_L_cell L xs post (nI i) := by
  unfold cellv at hp
  show (nI L ≤ nI i → _) ∧ (¬ nI L ≤ nI i → _)
  rw [nI_leI (by omega) (by omega), nI_clamp (by omega)]
  refine ⟨fun c => ?_, fun c => ⟨vp_in_nI (by omega) (by omega), ?_⟩⟩
  · rw [if_pos c] at hp; exact hp
  · rw [if_neg c] at hp; exact hp
theorem whole_pure (L : Nat) (xs : Nat → Int32) (hL : L ≤ 3074) : wp_whole L xs := by
  refine sp_cell (i := 0) hL (by omega) (sp_cell (i := 1) hL (by omega) (sp_X3_init (fun S hS => ?_)))
  refine sp_cell (i := 0) hL (by omega) (sp_cell (i := 1) hL (by omega) (sp_X4_init (fun Y hY => ?_)))
  have hm := hS.1.mul
  have hN := nds_le hS.1
  have e1 : (S.1.2.2.1).toNatClampNeg = clN (cellv L xs 0) * clN (cellv L xs 1) := by
    rw [hS.2.1]
    exact nI_clamp (by omega)
  have e2 : (S.1.2.2.2.2).toNatClampNeg = nds (clN (cellv L xs 0)) (clN (cellv L xs 1)) := by
    rw [hS.2.1]
    exact nI_clamp (by omega)
  show wp_L_law L xs (S.1.2.2.1).toNatClampNeg (S.1.2.2.2.2).toNatClampNeg S Y 513 (T00, G00, fun _ => 0) 2
  rw [e1, e2]
  exact law_run hL hS hY 512 0 _ (by omega) (rel_new _ _)
