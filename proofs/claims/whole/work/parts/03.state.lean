-- the worlds of the class: words for its cells
abbrev vBR : Type := (Nat → Int32) × Int32 × Int32
abbrev vSD : Type := (Nat → Int32) × (Nat → Int32) × Int32
abbrev vSH : Type := (Int32 × Int32 × Int32 × Int32 × Int32) × ((Nat → Int32) × (Nat → Int32) × (Nat → Int32)) × (Nat → Nat → Int32)
abbrev vTT : Type := (Nat → Int32) × vSD × vSD × vBR × vBR × Int32
abbrev tysA (cI cZ cJ cL : ClassId) : List (ClassId × FieldType) := [(cI, .int), (cZ, .boolean), (cJ, .array .int), (cL, .long)]
abbrev wBR (cI : ClassId) (a0 a1 : Nat) (B : vBR) : va_W := [(a0, .inr (0, [.ref a1, .int B.2.1, .int B.2.2])), (a1, .inl (cI, 1250, .inl B.1))]
abbrev wSD (cI cZ : ClassId) (nn a0 a1 a2 : Nat) (D : vSD) : va_W := [(a0, .inr (2, [.ref a1, .ref a2, .int D.2.2])), (a1, .inl (cI, nn, .inl D.1)), (a2, .inl (cZ, nn, .inl D.2.1))]
abbrev wSH (cI cJ : ClassId) (nl a0 a1 a2 a3 a4 : Nat) (ra : Nat → Nat) (S : vSH) : va_W := [(a0, .inr (1, [.int S.1.1, .int S.1.2.1, .int S.1.2.2.1, .int S.1.2.2.2.1, .int S.1.2.2.2.2, .ref a1, .ref a2, .ref a3, .ref a4])), (a1, .inl (cI, 6, .inl S.2.1.1)), (a2, .inl (cI, 6, .inl S.2.1.2.1)), (a3, .inl (cI, 6, .inl S.2.1.2.2)), (a4, .inl (cJ, 3, .inr (.inr (.inr (.inr (fun i => if i < 3 then some (ra i) else none)))))), (ra 0, .inl (cI, nl, .inl (S.2.2 0))), (ra 1, .inl (cI, nl, .inl (S.2.2 1))), (ra 2, .inl (cI, nl, .inl (S.2.2 2)))]
abbrev wTT (cI cZ cJ : ClassId) (nl nn : Nat) (ad ra : Nat → Nat) (S : vSH) (T : vTT) : va_W := [(ad 0, .inr (3, [.ref (ad 1), .ref (ad 9), .ref (ad 10), .ref (ad 13), .ref (ad 16), .ref (ad 18), .int T.2.2.2.2.2])), (ad 1, .inr (1, [.int S.1.1, .int S.1.2.1, .int S.1.2.2.1, .int S.1.2.2.2.1, .int S.1.2.2.2.2, .ref (ad 2), .ref (ad 3), .ref (ad 4), .ref (ad 5)])), (ad 2, .inl (cI, 6, .inl S.2.1.1)), (ad 3, .inl (cI, 6, .inl S.2.1.2.1)), (ad 4, .inl (cI, 6, .inl S.2.1.2.2)), (ad 5, .inl (cJ, 3, .inr (.inr (.inr (.inr (fun i => if i < 3 then some (ra i) else none)))))), (ra 0, .inl (cI, nl, .inl (S.2.2 0))), (ra 1, .inl (cI, nl, .inl (S.2.2 1))), (ra 2, .inl (cI, nl, .inl (S.2.2 2))), (ad 9, .inl (cI, nn, .inl T.1)), (ad 10, .inr (2, [.ref (ad 11), .ref (ad 12), .int T.2.1.2.2])), (ad 11, .inl (cI, nn, .inl T.2.1.1)), (ad 12, .inl (cZ, nn, .inl T.2.1.2.1)), (ad 13, .inr (2, [.ref (ad 14), .ref (ad 15), .int T.2.2.1.2.2])), (ad 14, .inl (cI, nn, .inl T.2.2.1.1)), (ad 15, .inl (cZ, nn, .inl T.2.2.1.2.1)), (ad 16, .inr (0, [.ref (ad 17), .int T.2.2.2.1.2.1, .int T.2.2.2.1.2.2])), (ad 17, .inl (cI, 1250, .inl T.2.2.2.1.1)), (ad 18, .inr (0, [.ref (ad 19), .int T.2.2.2.2.1.2.1, .int T.2.2.2.2.1.2.2])), (ad 19, .inl (cI, 1250, .inl T.2.2.2.2.1.1))]
-- a method's start: one that only reads, one that writes
abbrev pcR (D : va_G) (tys : List (ClassId × FieldType)) (ws : va_W) (av : List Value) : Array Value → State → Prop := va_Pc av (fun U => va_P D vwCl ws U.heap ∧ va_K D vwCl tys U)
abbrev pcW (D : va_G) (tys : List (ClassId × FieldType)) (ws : va_W) (sz : Nat) (av : List Value) : Array Value → State → Prop := va_Pc av (fun U => U.heap.size = sz ∧ va_P D vwCl ws U.heap ∧ va_K D vwCl tys U ∧ va_D (fun _ => True) ws)
abbrev qB (D : va_G) (tys : List (ClassId × FieldType)) (A : Nat → Prop) (ws : va_W) (t : State) : Prop := va_P D vwCl ws t.heap ∧ va_K D vwCl tys t ∧ va_D A ws
theorem bl_R {D : va_G} {tys : List (ClassId × FieldType)} {ws : va_W} {av : List Value} : FrameBlind (pcR D tys ws av) := fun a U g mk q => by
  obtain ⟨q0, qP, qK⟩ := q
  exact ⟨q0, qP, va_K.moved (u := U) (U := U.calling g mk a) (Vm.Alike.refl U.vm) qK⟩
theorem bl_W {D : va_G} {tys : List (ClassId × FieldType)} {ws : va_W} {sz : Nat} {av : List Value} : FrameBlind (pcW D tys ws sz av) := fun a U g mk q => by
  obtain ⟨q0, q1, qP, qK, qD⟩ := q
  exact ⟨q0, q1, qP, va_K.moved (u := U) (U := U.calling g mk a) (Vm.Alike.refl U.vm) qK, qD⟩
