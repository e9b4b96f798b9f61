-- begun with a family of BITS.to-paste (bits of an Int32)
def bt (x : Int32) (i : Nat) : Bool := x.toBitVec.getLsbD i
theorem b_ext {x y : Int32} (h : ∀ i, i < 32 → bt x i = bt y i) : x = y := Int32.toBitVec_inj.mp (BitVec.eq_of_getLsbD_eq (fun i hi => h i hi))
theorem b_or (x y : Int32) (i : Nat) : bt (x ||| y) i = (bt x i || bt y i) := by unfold bt; rw [Int32.toBitVec_or, BitVec.getLsbD_or]
theorem b_and (x y : Int32) (i : Nat) : bt (x &&& y) i = (bt x i && bt y i) := by unfold bt; rw [Int32.toBitVec_and, BitVec.getLsbD_and]
theorem b_xor (x y : Int32) (i : Nat) : bt (x ^^^ y) i = (bt x i ^^ bt y i) := by unfold bt; rw [Int32.toBitVec_xor, BitVec.getLsbD_xor]
theorem b_big {x : Int32} {i : Nat} (h : 32 ≤ i) : bt x i = false := BitVec.getLsbD_of_ge _ _ h
theorem b_m1 : ∀ i, i < 32 → bt (-1) i = true := by decide +kernel
theorem b_0 (i : Nat) : bt 0 i = false := BitVec.getLsbD_zero
theorem s_l : ∀ n, n < 32 → ((nI n &&& 31).toBitVec.smod 32).toNat = n := by decide +kernel
theorem s_u : ∀ n, n < 32 → (((nI n).toUInt32 &&& Int32.toUInt32 31).toBitVec % 32).toNat = n := by decide +kernel
theorem b_shl (n : Nat) (hn : n < 32) (x : Int32) {i : Nat} (hi : i < 32) : bt (x <<< (nI n &&& 31)) i = (decide (n ≤ i) && bt x (i - n)) := by
  unfold bt
  rw [Int32.toBitVec_shiftLeft]
  show (x.toBitVec <<< ((nI n &&& 31).toBitVec.smod 32).toNat).getLsbD i = _
  rw [s_l n hn, BitVec.getLsbD_shiftLeft]
  rcases Nat.lt_or_ge i n with h | h
  · simp [h, Nat.not_le.mpr h]
  · simp [hi, h, Nat.not_lt.mpr h]
theorem b_ushr (n : Nat) (hn : n < 32) (x : Int32) (i : Nat) : bt ((x.toUInt32 >>> ((nI n).toUInt32 &&& Int32.toUInt32 31)).toInt32) i = bt x (n + i) := by
  show (x.toUInt32 >>> ((nI n).toUInt32 &&& Int32.toUInt32 31)).toBitVec.getLsbD i = x.toUInt32.toBitVec.getLsbD (n + i)
  rw [UInt32.toBitVec_shiftRight]
  show (x.toUInt32.toBitVec >>> (((nI n).toUInt32 &&& Int32.toUInt32 31).toBitVec % 32).toNat).getLsbD i = _
  rw [s_u n hn, BitVec.getLsbD_ushiftRight]
theorem b_sshr (n : Nat) (hn : n < 32) (x : Int32) {i : Nat} (hi : i < 32) : bt (x >>> (nI n &&& 31)) i = if n + i < 32 then bt x (n + i) else bt x 31 := by
  unfold bt
  rw [Int32.toBitVec_shiftRight]
  show (x.toBitVec.sshiftRight ((nI n &&& 31).toBitVec.smod 32).toNat).getLsbD i = _
  rw [s_l n hn, BitVec.getLsbD_sshiftRight, BitVec.msb_eq_getLsbD_last]
  simp [hi]
-- numbers
theorem and_one (y : Int32) : y &&& 1 = nI (bt y 0).toNat := by
  have h1 : ∀ i, i < 32 → bt 1 i = decide (i = 0) := by decide +kernel
  have h2 : ∀ b : Bool, ∀ i, i < 32 → bt (nI b.toNat) i = (b && decide (i = 0)) := by decide +kernel
  apply b_ext
  intro i hi
  rw [b_and, h1 i hi, h2 _ i hi]
  by_cases h : i = 0
  · subst h; simp
  · simp [h]
theorem shr5 {p : Nat} (h : p < 2 ^ 31) : nI p >>> ((5 : Int32) &&& 31) = nI (p / 32) := pk_shrN h _ 5 (by decide +kernel)
theorem and31 {p : Nat} (h : p < 2 ^ 32) : nI p &&& 31 = nI (p % 32) := pk_andN h 5 (by decide +kernel)
theorem lt_lit {a : Nat} (k : Nat) (ha : a < 2 ^ 31) (hk : k < 2 ^ 31) : (nI a < nI k) ↔ a < k := nI_ltI ha hk
-- a row of bits
def bitv (ws : Nat → Int32) (p : Nat) : Bool := bt (ws (p / 32)) (p % 32)
def pl (f i : Nat) : Nat := if f + i < 40000 then f + i else f + i - 40000
theorem pl_lt {f i : Nat} (hf : f < 40000) (hi : i ≤ 40000) : pl f i < 40000 := by unfold pl; split <;> omega
theorem pl_inj {f i j : Nat} (hf : f < 40000) (hi : i < 40000) (hj : j < 40000) (h : pl f i = pl f j) : i = j := by
  unfold pl at h; split at h <;> split at h <;> omega
theorem pl_pl {f k i : Nat} (hf : f < 40000) (hk : k ≤ 40000) (hi : i + k ≤ 40000) : pl (pl f k) i = pl f (i + k) := by
  unfold pl; (repeat' split) <;> omega
def BRok (B : vBR) (f m : Nat) (bs : Nat → Bool) : Prop := B.2.1 = nI f ∧ B.2.2 = nI m ∧ f < 40000 ∧ m ≤ 40000 ∧ ∀ i, i < m → bitv B.1 (pl f i) = bs i
theorem BRok.congr {B : vBR} {f m : Nat} {bs cs : Nat → Bool} (h : BRok B f m bs) (e : ∀ i, i < m → bs i = cs i) : BRok B f m cs := ⟨h.1, h.2.1, h.2.2.1, h.2.2.2.1, fun i hi => (h.2.2.2.2 i hi).trans (e i hi)⟩
theorem sp_placeOf {B : vBR} {f i : Nat} {post : Int32 → Prop} (hB : B.2.1 = nI f) (hf : f < 40000) (hi : i ≤ 40000) (h : post (nI (pl f i))) : wp_X0_placeOf post B (nI i) := by
  intro x hx
  rw [hB, nI_add] at hx
  subst hx
  have h4 : ((40000 : Int32)) = nI 40000 := rfl
  rw [h4, nI_ltI (by omega) (by omega)]
  refine ⟨fun hc => ?_, fun hc => ?_⟩
  · rw [pl, if_pos hc] at h; exact h
  · rw [pl, if_neg hc] at h; rw [pk_sub (by omega)]; exact h
theorem sp_look {B : vBR} {f m : Nat} {bs : Nat → Bool} (hB : BRok B f m bs) {i : Nat} (hi : i < m) {post : Int32 → Prop} (h : post (nI (bs i).toNat)) : wp_X0_look post B (nI i) := by
  obtain ⟨h1, h2, h3, h4, h5⟩ := hB
  refine ⟨fun hc => absurd hc (nI_pos (by omega)), fun _ => ⟨fun _ => ?_, fun hc => absurd ?_ hc⟩⟩
  · refine sp_placeOf h1 h3 (by omega) ?_
    have hp := pl_lt h3 (show i ≤ 40000 by omega)
    have hb := h5 i hi
    generalize pl f i = p at hp hb
    show vp_in (nI p >>> ((5 : Int32) &&& 31)) 1250 ∧ _
    rw [shr5 (by omega), and31 (by omega)]
    refine ⟨vp_in_nI (by omega) (by omega), ?_⟩
    rw [nI_clamp (by omega), and_one, b_ushr _ (by omega), Nat.add_zero]
    show post (nI (bitv B.1 p).toNat)
    rw [hb]; exact h
  · rw [h2, nI_ltI (by omega) (by omega)]; exact hi
theorem bt_one : ∀ i, i < 32 → bt 1 i = decide (i = 0) := by decide +kernel
theorem bt_mask {n j : Nat} (hn : n < 32) (hj : j < 32) : bt ((1 : Int32) <<< (nI n &&& 31)) j = decide (j = n) := by
  rw [b_shl n hn 1 hj]
  by_cases h : n ≤ j
  · rw [bt_one _ (by omega), decide_eq_true h, Bool.true_and]
    by_cases e : j = n
    · subst e; simp
    · rw [decide_eq_false e, decide_eq_false (by omega)]
  · rw [decide_eq_false h, Bool.false_and, decide_eq_false (by omega)]
theorem bit_set {ws : Nat → Int32} {p q : Nat} {w : Int32} {b : Bool} (hw : ∀ j, j < 32 → bt w j = if j = p % 32 then b else bt (ws (p / 32)) j) : bitv (upd ws (p / 32) w) q = if q = p then b else bitv ws q := by
  unfold bitv
  by_cases h : q / 32 = p / 32
  · rw [h, pk_us, hw _ (by omega)]
    by_cases e : q % 32 = p % 32
    · rw [if_pos e, if_pos (by omega)]
    · rw [if_neg e, if_neg (by intro z; exact e (by rw [z]))]
  · rw [pk_un h, if_neg (by intro z; exact h (by rw [z]))]
theorem sp_append {B : vBR} {f m : Nat} {bs : Nat → Bool} (hB : BRok B f m bs) (hm : m < 40000) (b : Bool) {post : vBR → Prop} (h : ∀ B', BRok B' f (m + 1) (fun i => if i = m then b else bs i) → post B') : wp_X0_append post B (nI b.toNat) := by
  obtain ⟨h1, h2, h3, h4, h5⟩ := hB
  have hk : ((40000 : Int32)) = nI 40000 := rfl
  refine ⟨fun _ => ?_, fun hc => absurd ?_ hc⟩
  · rw [h2]
    refine sp_placeOf h1 h3 (by omega) ?_
    have hp := pl_lt h3 (show m ≤ 40000 by omega)
    have hinj : ∀ i, i < m → pl f i ≠ pl f m := fun i hi e => by have := pl_inj h3 (by omega) (by omega) e; omega
    generalize hpe : pl f m = p at hp hinj
    have hs : ∀ (w : Int32), (∀ j, j < 32 → bt w j = if j = p % 32 then b else bt (B.1 (p / 32)) j) → post (upd B.1 (p / 32) w, B.2.1, nI m + 1) := by
      intro w hw
      refine h _ ⟨h1, by rw [nI_1], h3, by omega, fun i hi => ?_⟩
      show bitv (upd B.1 (p / 32) w) (pl f i) = if i = m then b else bs i
      rw [bit_set hw]
      by_cases e : i = m
      · subst e
        rw [if_pos hpe, if_pos rfl]
      · rw [if_neg (hinj i (by omega)), if_neg e]; exact h5 i (by omega)
    show ∀ x3 : Int32, _
    rw [shr5 (by omega), and31 (by omega), nI_clamp (by omega)]
    intro x3 hx3
    have hi := vp_in_nI (n := p / 32) (N := 1250) (by omega) (by omega)
    refine ⟨fun hc => ⟨hi, hi, fun f9 hf9 => ?_⟩, fun hc => ⟨hi, hi, fun f9 hf9 => ?_⟩⟩
    · have hb : b = true := by cases b with | true => rfl | false => exact absurd hc (by decide)
      rw [hf9]
      refine hs _ (fun j hj => ?_)
      rw [b_or, hx3, bt_mask (by omega) hj]
      by_cases e : j = p % 32
      · simp [e, hb]
      · simp [e]
    · have hb : b = false := by cases b with | false => rfl | true => exact absurd rfl hc
      rw [hf9]
      refine hs _ (fun j hj => ?_)
      rw [b_and, b_xor, b_m1 j hj, hx3, bt_mask (by omega) hj]
      by_cases e : j = p % 32
      · simp [e, hb]
      · simp [e]
  · rw [h2, hk, nI_ltI (by omega) (by omega)]; exact hm
theorem sp_drop {B : vBR} {f m : Nat} {bs : Nat → Bool} (hB : BRok B f m bs) {k : Nat} (hk : k ≤ m) {post : vBR → Prop} (h : ∀ B', BRok B' (pl f k) (m - k) (fun i => bs (i + k)) → post B') : wp_X0_drop post B (nI k) := by
  obtain ⟨h1, h2, h3, h4, h5⟩ := hB
  refine sp_placeOf h1 h3 (by omega) ?_
  intro f2 hf2
  rw [h2, pk_sub hk] at hf2
  refine h _ ⟨rfl, hf2, pl_lt h3 (by omega), by omega, fun i hi => ?_⟩
  show bitv B.1 (pl (pl f k) i) = _
  rw [pl_pl h3 (by omega) (by omega)]
  exact h5 _ (by omega)
theorem sp_empty {B : vBR} {bs : Nat → Bool} {post : vBR → Prop} (h : ∀ B', BRok B' 0 0 bs → post B') : wp_X0_empty post B := h _ ⟨rfl, rfl, by decide, by decide, fun i hi => absurd hi (Nat.not_lt_zero i)⟩
