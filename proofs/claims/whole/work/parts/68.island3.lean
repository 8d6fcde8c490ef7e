theorem er_4 {n k pos L : Nat} {ch : Nat → Nat} {f : Nat} : nx9 n ch (some f) pos L = some f := rfl
/-- what a house of the table holds -/
def tab (ch : Nat → Nat) (j : Nat) : Nat := ch (3 + 5 * (j / 4) + j % 4) - 48
theorem four {n k : Nat} {ch : Nat → Nat} {m : St} (hk : k < 6) (h : FS n ch m k (2 + 5 * k + 1) none) (ht : ∀ j, j < 4 * k → m.1 4 j = nI (tab ch j)) (KK : St → Option (Int32 × St)) : ∃ m' e, ((fm_figure 9 m).bind fun q117 => (gu (q117.2) 4 24 ((4 : Int32) * nI k) (q117.1)).bind fun w120 => (fm_figure 3 w120).bind fun q135 => (gu (q135.2) 4 24 (((4 : Int32) * (w120.1 0 6)) + (1 : Int32)) (q135.1)).bind fun w138 => (fm_figure 9 w138).bind fun q154 => (gu (q154.2) 4 24 (((4 : Int32) * (w138.1 0 6)) + (2 : Int32)) (q154.1)).bind fun w157 => (fm_figure 3 w157).bind fun q172 => (gu (q172.2) 4 24 (((4 : Int32) * (w157.1 0 6)) + (3 : Int32)) (q172.1)).bind fun w175 => KK w175) = KK m' ∧ FS n ch m' k (2 + 5 * k + 1 + 4) e ∧ GF m m' ∧ (match e with
    | none => FF n ch (2 + 5 * k + 1) = FF n ch (2 + 5 * k + 1 + 4) ∧ ∀ j, j < 4 * (k + 1) → m'.1 4 j = nI (tab ch j)
    | some f => FF n ch (2 + 5 * k + 1) = nI f) := by
  have ex : ∀ t, (4 : Int32) * nI k + nI t = nI (4 * k + t) := fun t => by rw [show (4 : Int32) = nI 4 from rfl, pk_mul, nI_add]
  have ex0 : (4 : Int32) * nI k = nI (4 * k) := by rw [show (4 : Int32) = nI 4 from rfl, pk_mul]
  obtain ⟨v1, a1, m1, u1, w1, s1, g1, t1, r1⟩ := figw (L := 9) (idx := 4 * k) (Or.inl rfl) (by omega) h
  obtain ⟨v2, a2, m2, u2, w2, s2, g2, t2, r2⟩ := figw (L := 3) (idx := 4 * k + 1) (Or.inr rfl) (by omega) s1
  obtain ⟨v3, a3, m3, u3, w3, s3, g3, t3, r3⟩ := figw (L := 9) (idx := 4 * k + 2) (Or.inl rfl) (by omega) s2
  obtain ⟨v4, a4, m4, u4, w4, s4, g4, t4, r4⟩ := figw (L := 3) (idx := 4 * k + 3) (Or.inr rfl) (by omega) s3
  refine ⟨m4, _, ?_, s4, ((g1.tr g2).tr g3).tr g4, ?_⟩
  · rw [show (9 : Int32) = nI 9 from rfl, show (3 : Int32) = nI 3 from rfl, show (1 : Int32) = nI 1 from rfl, show (2 : Int32) = nI 2 from rfl, u1, Option.bind_some, ex0, w1, Option.bind_some, u2, Option.bind_some, s1.2.1, ex, w2, Option.bind_some, u3, Option.bind_some, s2.2.1, ex, w3, Option.bind_some, u4, Option.bind_some, s3.2.1, ex, w4, Option.bind_some]
  · have p0 : 2 + 5 * k + 1 ≤ n := h.2.2.2.2
    have F0 := FF_f (n := n) (ch := ch) (t := 0) (L := 9) hk (by omega) rfl p0
    cases e1 : nx9 n ch none (2 + 5 * k + 1) 9 with
    | some f => rw [show 2 + 5 * k + 1 + 0 = 2 + 5 * k + 1 from rfl, e1] at F0; exact F0
    | none =>
    rw [show 2 + 5 * k + 1 + 0 = 2 + 5 * k + 1 from rfl, e1] at F0
    rw [e1] at s1 s2 s3 s4 t2 t3 t4
    have F0 : FF n ch (2 + 5 * k + 1) = FF n ch (2 + 5 * k + 1 + 1) := F0
    have F1 := FF_f (n := n) (ch := ch) (t := 1) (L := 3) hk (by omega) rfl s1.2.2.2.2
    cases e2 : nx9 n ch none (2 + 5 * k + 1 + 1) 3 with
    | some f => rw [e2] at F1; exact F0.trans F1
    | none =>
    rw [e2] at F1 s2 s3 s4 t3 t4
    have F1 : FF n ch (2 + 5 * k + 1 + 1) = FF n ch (2 + 5 * k + 1 + 1 + 1) := F1
    have F2 := FF_f (n := n) (ch := ch) (t := 2) (L := 9) hk (by omega) rfl s2.2.2.2.2
    cases e3 : nx9 n ch none (2 + 5 * k + 1 + 1 + 1) 9 with
    | some f => rw [show 2 + 5 * k + 1 + 2 = 2 + 5 * k + 1 + 1 + 1 from rfl, e3] at F2; exact (F0.trans F1).trans F2
    | none =>
    rw [show 2 + 5 * k + 1 + 2 = 2 + 5 * k + 1 + 1 + 1 from rfl, e3] at F2
    rw [e3] at s3 s4 t4
    have F2 : FF n ch (2 + 5 * k + 1 + 1 + 1) = FF n ch (2 + 5 * k + 1 + 1 + 1 + 1) := F2
    have F3 := FF_f (n := n) (ch := ch) (t := 3) (L := 3) hk (by omega) rfl s3.2.2.2.2
    cases e4 : nx9 n ch none (2 + 5 * k + 1 + 1 + 1 + 1) 3 with
    | some f => rw [show 2 + 5 * k + 1 + 3 = 2 + 5 * k + 1 + 1 + 1 + 1 from rfl, e4] at F3; exact ((F0.trans F1).trans F2).trans F3
    | none =>
    rw [show 2 + 5 * k + 1 + 3 = 2 + 5 * k + 1 + 1 + 1 + 1 from rfl, e4] at F3
    have F3 : FF n ch (2 + 5 * k + 1 + 1 + 1 + 1) = FF n ch (2 + 5 * k + 1 + 1 + 1 + 1 + 1) := F3
    refine ⟨((F0.trans F1).trans F2).trans F3, fun j hj => ?_⟩
    have q1 := t1 e1
    have q2 := t2 e2
    have q3 := t3 e3
    have q4 := t4 e4
    have tk : ∀ t, t < 4 → tab ch (4 * k + t) = ch (2 + 5 * k + 1 + t) - 48 := fun t h => by
      unfold tab
      rw [show 3 + 5 * ((4 * k + t) / 4) + (4 * k + t) % 4 = 2 + 5 * k + 1 + t by omega]
    rcases Nat.lt_or_ge j (4 * k) with c | c
    · rw [r4 j (by omega), r3 j (by omega), r2 j (by omega), r1 j (by omega)]
      exact ht j c
    · rcases (show j = 4 * k + 0 ∨ j = 4 * k + 1 ∨ j = 4 * k + 2 ∨ j = 4 * k + 3 by omega) with rfl | rfl | rfl | rfl
      · rw [tk 0 (by omega), r4 _ (by omega), r3 _ (by omega), r2 _ (by omega)]; exact q1
      · rw [tk 1 (by omega), r4 _ (by omega), r3 _ (by omega)]; exact q2
      · rw [tk 2 (by omega), r4 _ (by omega)]; exact q3
      · rw [tk 3 (by omega)]; exact q4
