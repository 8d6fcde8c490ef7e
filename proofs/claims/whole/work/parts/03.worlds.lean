/-! The two sides laid out. The side of the system: 81 cells (0 the whole; 1 text, 2 home, 3 kind, 4 past, 5 slots, 6 kept marks, 7 seen, 8 outcomes, 9 rows, 10 who, 11 and 12 the trial; from 13 on four cells a day: day, talk, times, sentences; day 0 is today, 1 .. 14 the past, 15 and 16 the slots). The side of the reference: 12 cells. -/
def kX (k : Nat) : Nat := if k < 13 then (match k with | 0 => 0 | 1 => 6 | 4 => 7 | 5 => 8 | 6 => 9 | 7 => 10 | 8 => 11 | 9 => 3 | 11 => 1 | _ => 4) else (match (k - 13) % 4 with | 0 => 2 | 1 => 1 | 2 => 4 | _ => 5)
def fX0 (L : Nat → Nat) (f : Nat → Int32) (z : Int64) : List Value := [.ref (L 1), .int (f 1), .int (f 2), .int (f 3), .ref (L 2), .ref (L 3), .ref (L 13), .ref (L 4), .int (f 8), .int (f 9), .ref (L 5), .ref (L 6), .long z, .ref (L 11), .ref (L 9), .int (f 15), .ref (L 7), .ref (L 8)]
def fX1 (L : Nat → Nat) (k : Nat) (f : Nat → Int32) (_ : Int64) : List Value := [.int (f 0), .int (f 1), .int (f 2), .ref (L (k + 1))]
def fX2 (L : Nat → Nat) (k : Nat) (f : Nat → Int32) (_ : Int64) : List Value := [.ref (L (k + 1)), .int (f 1), .int (f 2), .ref (L (k + 3))]
def fX3 (L : Nat → Nat) (f : Nat → Int32) (_ : Int64) : List Value := [.ref (L 10), .int (f 1)]
def cX (L : Nat → Nat) (K : Nat → ClassId) (w : St) (k : Nat) : va_E := match kX k with
  | 0 => .inr (3, fX0 L (w.1 k) w.2)
  | 1 => .inr (2, fX1 L k (w.1 k) w.2)
  | 2 => .inr (0, fX2 L k (w.1 k) w.2)
  | 3 => .inr (1, fX3 L (w.1 k) w.2)
  | 4 => .inl (K 0, 7, .inl (w.1 k))
  | 5 => .inl (K 0, 6, .inl (w.1 k))
  | 6 => .inl (K 1, 40, .inl (w.1 k))
  | 7 => .inl (K 3, 14, .inr (.inr (.inr (.inr (fun i => some (L (17 + 4 * i)))))))
  | 8 => .inl (K 3, 2, .inr (.inr (.inr (.inr (fun i => some (L (73 + 4 * i)))))))
  | 9 => .inl (K 2, 2, .inl (w.1 k))
  | 10 => .inl (K 0, 10, .inl (w.1 k))
  | _ => .inl (K 0, 16, .inl (w.1 k))
section CX
variable {L : Nat → Nat} {K : Nat → ClassId} {k : Nat}
theorem cX_a0 (h : kX k = 0) (w : St) : cX L K w k = .inr (3, fX0 L (w.1 k) w.2) := by unfold cX; rw [h]; rfl
theorem cX_a1 (h : kX k = 1) (w : St) : cX L K w k = .inr (2, fX1 L k (w.1 k) w.2) := by unfold cX; rw [h]; rfl
theorem cX_a2 (h : kX k = 2) (w : St) : cX L K w k = .inr (0, fX2 L k (w.1 k) w.2) := by unfold cX; rw [h]; rfl
theorem cX_a3 (h : kX k = 3) (w : St) : cX L K w k = .inr (1, fX3 L (w.1 k) w.2) := by unfold cX; rw [h]; rfl
theorem cX_a4 (h : kX k = 4) (w : St) : cX L K w k = .inl (K 0, 7, .inl (w.1 k)) := by unfold cX; rw [h]; rfl
theorem cX_a5 (h : kX k = 5) (w : St) : cX L K w k = .inl (K 0, 6, .inl (w.1 k)) := by unfold cX; rw [h]; rfl
theorem cX_a6 (h : kX k = 6) (w : St) : cX L K w k = .inl (K 1, 40, .inl (w.1 k)) := by unfold cX; rw [h]; rfl
theorem cX_a7 (h : kX k = 7) (w : St) : cX L K w k = .inl (K 3, 14, .inr (.inr (.inr (.inr (fun i => some (L (17 + 4 * i))))))) := by unfold cX; rw [h]; rfl
theorem cX_a8 (h : kX k = 8) (w : St) : cX L K w k = .inl (K 3, 2, .inr (.inr (.inr (.inr (fun i => some (L (73 + 4 * i))))))) := by unfold cX; rw [h]; rfl
theorem cX_a9 (h : kX k = 9) (w : St) : cX L K w k = .inl (K 2, 2, .inl (w.1 k)) := by unfold cX; rw [h]; rfl
theorem cX_a10 (h : kX k = 10) (w : St) : cX L K w k = .inl (K 0, 10, .inl (w.1 k)) := by unfold cX; rw [h]; rfl
theorem cX_a11 (h : kX k = 11) (w : St) : cX L K w k = .inl (K 0, 16, .inl (w.1 k)) := by unfold cX; rw [h]; rfl
theorem cX_ne (w : St) (j : Nat) (v : Int32) (d : Nat) (h : d ≠ k) : cX L K (wr w k j v) d = cX L K w d := by
  unfold cX
  rw [wr_ne w j v h, wr_2]
theorem kX_0 : ∀ d, d < 81 → kX d = 0 → d = 0 := by decide +kernel
theorem kX_big {d : Nat} (h : kX d = 0) : d = 0 := by
  by_cases hd : d < 13
  · exact kX_0 d (by omega) h
  · unfold kX at h
    rw [if_neg hd] at h
    split at h <;> omega
theorem cX_nz (w : St) (v : Int64) (d : Nat) (h : d ≠ 0) : cX L K (wz w v) d = cX L K w d := by
  unfold cX
  split
  · rename_i h0
    exact absurd (kX_big h0) h
  all_goals rfl
end CX
theorem kX_talk {k : Nat} (h : kX k = 2 ∧ k < 81) : kX (k + 1) = 1 ∧ k + 1 < 81 := (show ∀ k, k < 81 → kX k = 2 → kX (k + 1) = 1 ∧ k + 1 < 81 by decide +kernel) k h.2 h.1
theorem kX_sent {k : Nat} (h : kX k = 2 ∧ k < 81) : kX (k + 3) = 5 ∧ k + 3 < 81 := (show ∀ k, k < 81 → kX k = 2 → kX (k + 3) = 5 ∧ k + 3 < 81 by decide +kernel) k h.2 h.1
theorem kX_times {k : Nat} (h : kX k = 1 ∧ k < 81) : kX (k + 1) = 4 ∧ k + 1 < 81 := (show ∀ k, k < 81 → kX k = 1 → kX (k + 1) = 4 ∧ k + 1 < 81 by decide +kernel) k h.2 h.1
theorem kX_past {q : Nat} (h : q < 14) : kX (17 + 4 * q) = 2 ∧ 17 + 4 * q < 81 := (show ∀ q, q < 14 → kX (17 + 4 * q) = 2 ∧ 17 + 4 * q < 81 by decide +kernel) q h
theorem kX_slot {q : Nat} (h : q < 2) : kX (73 + 4 * q) = 2 ∧ 73 + 4 * q < 81 := (show ∀ q, q < 2 → kX (73 + 4 * q) = 2 ∧ 73 + 4 * q < 81 by decide +kernel) q h
theorem kc_0 : kX 0 = 0 ∧ 0 < 81 := by decide
theorem kc_1 : kX 1 = 6 ∧ 1 < 81 := by decide
theorem kc_2 : kX 2 = 4 ∧ 2 < 81 := by decide
theorem kc_3 : kX 3 = 4 ∧ 3 < 81 := by decide
theorem kc_4 : kX 4 = 7 ∧ 4 < 81 := by decide
theorem kc_5 : kX 5 = 8 ∧ 5 < 81 := by decide
theorem kc_6 : kX 6 = 9 ∧ 6 < 81 := by decide
theorem kc_7 : kX 7 = 10 ∧ 7 < 81 := by decide
theorem kc_8 : kX 8 = 11 ∧ 8 < 81 := by decide
theorem kc_9 : kX 9 = 3 ∧ 9 < 81 := by decide
theorem kc_10 : kX 10 = 4 ∧ 10 < 81 := by decide
theorem kc_11 : kX 11 = 1 ∧ 11 < 81 := by decide
theorem kc_12 : kX 12 = 4 ∧ 12 < 81 := by decide
theorem kc_13 : kX 13 = 2 ∧ 13 < 81 := by decide
theorem kc_14 : kX 14 = 1 ∧ 14 < 81 := by decide
theorem kc_15 : kX 15 = 4 ∧ 15 < 81 := by decide
theorem kc_16 : kX 16 = 5 ∧ 16 < 81 := by decide
def tyG (K : Nat → ClassId) : List (ClassId × FieldType) := [(K 0, .int), (K 1, .char), (K 2, .boolean), (K 3, .object RX0)]
/-- the links among nest mates, as the tables give them -/
def nwF : List (String × Nat × String × String × String × String) := [("OneSentence", 100, "OneSentence$Day", "talk", "LOneSentence$Talk;", "OneSentence"), ("OneSentence", 107, "OneSentence$Talk", "times", "[I", "OneSentence"), ("OneSentence", 113, "OneSentence$Day", "hour", "I", "OneSentence"), ("OneSentence", 128, "OneSentence$Talk", "sense", "I", "OneSentence"), ("OneSentence", 229, "OneSentence$Talk", "last", "I", "OneSentence"), ("OneSentence", 90, "OneSentence$Day", "sentence", "[I", "OneSentence"), ("OneSentence", 93, "OneSentence$Day", "at", "I", "OneSentence")]
def nwM : List (String × Nat × MethodName × String) := [("OneSentence", 137, ⟨"OneSentence$Day", "become", "(LOneSentence$Day;)V"⟩, "OneSentence"), ("OneSentence", 152, ⟨"OneSentence$Rows", "by", "(I)V"⟩, "OneSentence"), ("OneSentence", 174, ⟨"OneSentence$Rows", "many", "(I)I"⟩, "OneSentence"), ("OneSentence", 177, ⟨"OneSentence$Rows", "told", "(II)I"⟩, "OneSentence"), ("OneSentence", 187, ⟨"OneSentence$Talk", "become", "(LOneSentence$Talk;)V"⟩, "OneSentence"), ("OneSentence", 193, ⟨"OneSentence$Talk", "utter", "(III)V"⟩, "OneSentence"), ("OneSentence", 22, ⟨"OneSentence$Day", "<init>", "()V"⟩, "OneSentence"), ("OneSentence", 40, ⟨"OneSentence$Talk", "<init>", "()V"⟩, "OneSentence"), ("OneSentence", 47, ⟨"OneSentence$Rows", "<init>", "()V"⟩, "OneSentence"), ("OneSentence", 76, ⟨"OneSentence$Day", "begin", "()V"⟩, "OneSentence"), ("OneSentence$Day", 11, ⟨"OneSentence$Talk", "<init>", "()V"⟩, "OneSentence"), ("OneSentence$Day", 22, ⟨"OneSentence$Talk", "begin", "()V"⟩, "OneSentence"), ("OneSentence$Day", 32, ⟨"OneSentence$Talk", "become", "(LOneSentence$Talk;)V"⟩, "OneSentence"), ("OneSentence$Rows", 19, ⟨"OneSentence", "has", "(II)Z"⟩, "OneSentence"), ("OneSentence$Rows", 23, ⟨"OneSentence", "power", "(II)I"⟩, "OneSentence")]
def ordF : Nat → Int32 := fun j => match j with | 0 => 1 | 1 => 1 | 2 => 2 | 3 => 6 | 4 => 24 | 5 => 120 | _ => 720
def eX (L : Nat → Nat) (t0 : Nat) (U : State) : Prop := (∀ q ∈ nwF, va_Nw (.fieldLinkNest q.1 q.2.1 q.2.2.1 q.2.2.2.1 q.2.2.2.2.1 q.2.2.2.2.2) U) ∧ (∀ q ∈ nwM, va_Nw (.methodLinkNest q.1 q.2.1 q.2.2.1 q.2.2.2) U) ∧ va_Z "OneSentence" "ORDERS" "[I" (.ref t0) (gA L 81) U U.heap ∧ va_T .int t0 7 (fun j => .int (ordF j)) (gA L 81) U U.heap
theorem eX_ok {L : Nat → Nat} {t0 : Nat} : gX L 81 (eX L t0) := by
  refine ⟨fun U g mk a h => ⟨fun q hq => va_Nw.same rfl (u := U) rfl (h.1 q hq), fun q hq => va_Nw.same rfl (u := U) rfl (h.2.1 q hq), h.2.2.1.moved (u := U) (U := U.calling g mk a) (Vm.Alike.refl U.vm), h.2.2.2.moved (u := U) (U := U.calling g mk a) (Vm.Alike.refl U.vm)⟩, fun s U H locs h hS hU hW => ⟨fun q hq => va_Nw.warmF hW (h.1 q hq), fun q hq => va_Nw.warmM hW (h.2.1 q hq), ?_, ?_⟩⟩
  · rw [hU]
    exact (h.2.2.1.moved hW.alike).kept hS.2.1
  · rw [hU]
    exact (h.2.2.2.moved hW.alike).kept hS.2.1
abbrev xP (D : va_G) (L : Nat → Nat) (K : Nat → ClassId) (t0 : Nat) (w : St) : State → Prop := gP D L 81 (cX L K w) (tyG K) (eX L t0)
/-! the side of the reference -/
def fM0 (L : Nat → Nat) (f : Nat → Int32) (z : Int64) : List Value := [.int (f 0), .int (f 1), .ref (L 1), .ref (L 2), .ref (L 3), .ref (L 4), .int (f 6), .int (f 7), .ref (L 5), .int (f 9), .int (f 10), .int (f 11), .int (f 12), .int (f 13), .ref (L 6), .int (f 15), .int (f 16), .int (f 17), .ref (L 7), .ref (L 8), .ref (L 9), .long z, .ref (L 10), .ref (L 11)]
def cM (L : Nat → Nat) (K : Nat → ClassId) (w : St) (k : Nat) : va_E := match k with
  | 0 => .inr (4, fM0 L (w.1 k) w.2)
  | 1 => .inl (K 0, 6, .inl (w.1 k))
  | 2 => .inl (K 0, 7, .inl (w.1 k))
  | 3 => .inl (K 0, 54, .inl (w.1 k))
  | 4 => .inl (K 0, 24, .inl (w.1 k))
  | 5 => .inl (K 0, 40, .inl (w.1 k))
  | 6 => .inl (K 0, 378, .inl (w.1 k))
  | 7 => .inl (K 0, 10, .inl (w.1 k))
  | 8 => .inl (K 0, 64, .inl (w.1 k))
  | 9 => .inl (K 0, 16, .inl (w.1 k))
  | 10 => .inl (K 2, 2, .inl (w.1 k))
  | _ => .inl (K 0, 54, .inl (w.1 k))
theorem cM_ne {L : Nat → Nat} {K : Nat → ClassId} {k : Nat} (w : St) (j : Nat) (v : Int32) (d : Nat) (h : d ≠ k) : cM L K (wr w k j v) d = cM L K w d := by
  unfold cM
  rw [wr_ne w j v h, wr_2]
theorem cM_nz {L : Nat → Nat} {K : Nat → ClassId} (w : St) (v : Int64) (d : Nat) (h : d ≠ 0) : cM L K (wz w v) d = cM L K w d := by
  unfold cM
  split
  · exact absurd rfl h
  all_goals rfl
def eM (_ : State) : Prop := True
theorem eM_ok {L : Nat → Nat} : gX L 12 eM := ⟨fun _ _ _ _ h => h, fun _ _ _ _ _ _ _ _ => trivial⟩
abbrev mP (D : va_G) (L : Nat → Nat) (K : Nat → ClassId) (w : St) : State → Prop := gP D L 12 (cM L K w) (tyG K) eM
