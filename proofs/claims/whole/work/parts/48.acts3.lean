theorem dig_n (c : Nat) : (10 : Int32) * nI (c / 10) + nI (c % 10) = nI c := by
  rw [show (10 : Int32) = nI 10 from rfl, pk_mul, nI_add]
  congr 1
  omega
theorem ten_n (s f : Nat) : (10 : Int32) * nI s + nI f = nI (10 * s + f) := by rw [show (10 : Int32) = nI 10 from rfl, pk_mul, nI_add]
theorem ca_name {x m : St} (h : RR x m) (a b c : Int32) : CA (fx_name a b c x) (fm_name a b c m) := by
  have hR := h
  obtain ⟨n, P, mk, ch, hm, kd, D, hB, hX, hM, hI⟩ := h.rb
  have hP6 := hB.2.1.1
  unfold fx_name fm_name
  rcases pers hB.2.1 a with ⟨p, hp, rfl, e1, e2⟩ | ⟨e1, e2⟩
  · rw [e1, e2]
    simp only [Option.bind_some]
    rw [if_neg (show ¬ (1 : Int32) = 0 by decide), if_neg (show ¬ (1 : Int32) = 0 by decide)]
    by_cases b0 : b < 0
    · rw [if_pos b0, in_f (a := b.toInt64) (b := 0) (c := 3) (lo := 0) (hi := 3) rfl rfl rfl (Or.inl b0)]
      exact ⟨_, _, _, rfl, rfl, hR⟩
    by_cases b3 : 3 < b
    · rw [if_neg b0, if_pos b3, in_f (a := b.toInt64) (b := 0) (c := 3) (lo := 0) (hi := 3) rfl rfl rfl (Or.inr b3)]
      exact ⟨_, _, _, rfl, rfl, hR⟩
    rw [if_neg b0, if_neg b3, in_t (a := b.toInt64) (b := 0) (c := 3) (lo := 0) (hi := 3) rfl rfl rfl (by rw [le_lt]; exact b0) (by rw [le_lt]; exact b3)]
    simp only [Option.bind_some]
    rw [if_neg (show ¬ (1 : Int32) = 0 by decide)]
    by_cases c0 : c < 0
    · rw [if_pos c0, in_f (a := c.toInt64) (b := 0) (c := 9) (lo := 0) (hi := 9) rfl rfl rfl (Or.inl c0)]
      exact ⟨_, _, _, rfl, rfl, hR⟩
    by_cases c9 : c ≤ 9
    · rw [if_neg c0, if_pos c9, in_t (a := c.toInt64) (b := 0) (c := 9) (lo := 0) (hi := 9) rfl rfl rfl (by rw [le_lt]; exact c0) c9]
      simp only [Option.bind_some]
      obtain ⟨s, hs, rfl⟩ := nI_of2 (M := 3) (n := 3) rfl b0 (by rw [le_lt]; exact b3)
      obtain ⟨f, hf, rfl⟩ := nI_of2 (M := 9) (n := 9) rfl c0 c9
      have S4 := hI.2.1 p hp
      have m1 : m.1 3 (1 + p) = nI (D.2.2.1 p / 10) := (hM.2.2.1 p (by omega) S4).1
      have m8 : m.1 3 (8 + p) = nI (D.2.2.1 p % 10) := (hM.2.2.1 p (by omega) S4).2
      rw [if_neg (show ¬ (1 : Int32) = 0 by decide), show (1 : Int32) + nI p = nI (1 + p) from nI_add 1 p, show (8 : Int32) + nI p = nI (8 + p) from nI_add 8 p, gr_n (show p < 6 by omega) (by decide), gr_n (show 1 + p < 54 by omega) (by decide), gr_n (show 8 + p < 54 by omega) (by decide), m1, m8, show x.1 16 p = _ from hX.2.2.1 p (by omega) S4]
      simp only [Option.bind_some, lb]
      rw [dig_n, ten_n]
      by_cases hq : nI (D.2.2.1 p) = nI (10 * s + f)
      · rw [if_pos hq, if_pos hq]
        exact ⟨_, _, _, rfl, rfl, hR⟩
      rw [if_neg hq, if_neg hq]
      obtain ⟨x1, m1, e1, e2, hB1, hX1, hM1⟩ := hB.act hX hM hI
      rw [e1, e2]
      simp only [Option.bind_some]
      rw [gu_n (show p < 6 by omega) (by decide), gu_n (show 1 + p < 54 by omega) (by decide)]
      simp only [Option.bind_some]
      rw [gu_n (show 8 + p < 54 by omega) (by decide)]
      refine ⟨_, _, _, rfl, rfl, (hB1.fr (x' := wr x1 16 p (nI (10 * s + f))) (m' := wr (wr m1 3 (1 + p) (nI s)) 3 (8 + p) (nI f)) (FX.wr (by omega)) (F3.wr.tr F3.wr)).rr (D := (D.1, D.2.1, (fun j => if j = p then 10 * s + f else D.2.2.1 j), D.2.2.2)) ⟨?_, ?_, fun j hj h40 => ?_, ?_⟩ ⟨?_, ?_, fun j hj h40 => ?_, ?_⟩ ⟨hI.1, fun j hj => ?_, hI.2.2⟩⟩
      · rw [wr_ne _ _ _ (by omega)]; exact hX1.1
      · rw [wr_ne _ _ _ (by omega)]; exact hX1.2.1
      · dsimp only at h40 ⊢
        by_cases hjp : j = p
        · subst hjp
          rw [wr_same, if_pos rfl]
        · rw [wr_off _ _ _ hjp, if_neg hjp]; rw [if_neg hjp] at h40; exact hX1.2.2.1 j hj h40
      · exact hX1.2.2.2.fr (wr_ne _ _ _ (by omega)) (wr_ne _ _ _ (by omega))
      · rw [wr_off _ _ _ (by omega), wr_off _ _ _ (by omega)]; exact hM1.1
      · rw [wr_off _ _ _ (by omega), wr_off _ _ _ (by omega)]; exact hM1.2.1
      · dsimp only at h40 ⊢
        by_cases hjp : j = p
        · subst hjp
          rw [if_pos rfl]
          constructor
          · rw [wr_off _ _ _ (by omega), show 0 + 1 + j = 1 + j by omega, wr_same]
            congr 1; omega
          · rw [show 0 + 8 + j = 8 + j by omega, wr_same]
            congr 1; omega
        · rw [wr_off _ _ _ (by omega), wr_off _ _ _ (by omega), wr_off _ _ _ (by omega), wr_off _ _ _ (by omega), if_neg hjp]
          rw [if_neg hjp] at h40
          exact hM1.2.2.1 j hj h40
      · exact hM1.2.2.2.to (fun j q1 q2 => by rw [wr_off _ _ _ (by omega), wr_off _ _ _ (by omega)])
      · dsimp only
        by_cases hjp : j = p
        · rw [if_pos hjp]; omega
        · rw [if_neg hjp]; exact hI.2.1 j hj
    · rw [if_neg c0, if_neg c9, in_f (a := c.toInt64) (b := 0) (c := 9) (lo := 0) (hi := 9) rfl rfl rfl (Or.inr (by rw [lt_le]; exact c9))]
      exact ⟨_, _, _, rfl, rfl, hR⟩
  · rw [e1, e2]
    exact ⟨_, _, _, rfl, rfl, hR⟩
theorem ca_undo {x m : St} (h : RR x m) : CA (fx_undo x) (fm_undo m) := by
  have hR := h
  obtain ⟨n, P, mk, ch, hm, kd, D, ⟨hT, hP, hK, ⟨a, f, nx, ha, hf, hnx, x9, m12, x8, m13, hE⟩, hz⟩, hX, hM, hI⟩ := h.rb
  unfold fx_undo fm_undo
  rw [x9, m12]
  rcases Nat.eq_zero_or_pos a with h0 | h0
  · subst h0
    rw [if_neg (show ¬ 0 < nI 0 by decide), if_pos (show nI 0 = 0 from rfl)]
    exact ⟨_, _, _, rfl, rfl, hR⟩
  obtain ⟨k, rfl⟩ : ∃ k, a = k + 1 := ⟨a - 1, by omega⟩
  obtain ⟨D', q1, q2, q3⟩ := hE k (by omega)
  have hq : (f + k) % 14 < 14 := Nat.mod_lt _ (by omega)
  rw [if_pos (show (0 : Int32) < nI (k + 1) from nI_lt (a := 0) (by omega) (by omega)), if_neg (show ¬ nI (k + 1) = (0 : Int32) from nI_ne0 (by omega) (by omega)), nI_pred]
  dsimp only [lb]
  rw [wr_same, wr_off _ _ _ (show 8 ≠ 9 by omega), x8, wr_off _ _ _ (show 13 ≠ 12 by omega), m13, nI_add, show ir (nI (f + k)) 14 = nI ((f + k) % 14) from rem_n (d := 14) (by omega) (by decide) (by decide), if_neg (nI_pos (by omega)), if_neg (show ¬ (14 : Int32) ≤ nI ((f + k) % 14) from nI_ge (b := 14) hq (by decide)), gq_n hq (by decide), show nI nx + (13 : Int32) = nI (nx + 13) from nI_add nx 13, show ir (nI (nx + 13)) 14 = nI ((nx + 13) % 14) from rem_n (d := 14) (by omega) (by decide) (by decide)]
  simp only [Option.bind_some]
  obtain ⟨x1, e1, f1, g1⟩ := become_d (d := 13) (e := 17 + 4 * ((f + k) % 14)) (w := wr x 0 9 (nI k)) (by omega) (q1.fr (fun c h1 h2 => wr_ne _ _ _ (by omega)))
  obtain ⟨m1, e2, f2, f3, g2, g3⟩ := undo36 ((nx + 13) % 14) (Nat.mod_lt _ (by omega)) 27 4096 0 (wr (wr m 0 12 (nI k)) 0 13 (nI ((nx + 13) % 14))) (by omega) (by omega) (wr_same _ _ _ _)
  rw [e1, show (0 : Int32) = nI 0 from rfl, e2, fm_undo_36, if_pos (show (27 : Int32) ≤ nI 27 by decide)]
  simp only [Option.bind_some]
  unfold fx_undo_59
  have xf : ∀ d, d ≠ 0 → (d < 13 ∨ 17 ≤ d) → x1.1 d = x.1 d := fun d h1 h2 => by rw [f1.1 d h2, wr_ne _ _ _ h1]
  have x0 : ∀ j, j ≠ 9 → x1.1 0 j = x.1 0 j := fun j h1 => by rw [f1.1 0 (by omega), wr_off _ _ _ h1]
  have mf : ∀ d, d ≠ 0 → d ≠ 3 → m1.1 d = m.1 d := fun d h1 h2 => by rw [f2 d h2, wr_ne _ _ _ h1, wr_ne _ _ _ h1]
  have m0 : ∀ j, j ≠ 12 → j ≠ 13 → m1.1 0 j = m.1 0 j := fun j h1 h2 => by rw [f2 0 (by omega), wr_off _ _ _ h2, wr_off _ _ _ h1]
  have y9 : x1.1 0 9 = nI k := by rw [f1.1 0 (by omega), wr_same]
  have y12 : m1.1 0 12 = nI k := by rw [f2 0 (by omega), wr_off _ _ _ (by omega), wr_same]
  have y13 : m1.1 0 13 = nI ((nx + 13) % 14) := by rw [f2 0 (by omega), wr_same]
  rw [y9, y12]
  refine ⟨_, _, _, rfl, rfl, n, P, mk, ch, hm, kd, D', hT.fr (x0 1 (by omega)) (xf 1 (by omega) (by omega)) (m0 9 (by omega) (by omega)) (mf 5 (by omega) (by omega)), hP.fr (x0 3 (by omega)) (x0 2 (by omega)) (xf 2 (by omega) (by omega)) (xf 3 (by omega) (by omega)) (m0 0 (by omega) (by omega)) (m0 1 (by omega) (by omega)) (mf 1 (by omega) (by omega)) (mf 2 (by omega) (by omega)), g1, ?_, q3, hK.fr (fun d q => xf d (by omega) (by omega)) (mf 10 (by omega) (by omega)) (mf 11 (by omega) (by omega)), ⟨k, f, (nx + 13) % 14, by omega, hf, Nat.mod_lt _ (by omega), y9, y12, (x0 8 (by omega)).trans x8, y13, fun j hj => ?_⟩, (f1.2.trans hz).trans f3.symm⟩
  · rw [show (nx + 14 - (k + 1) + k) % 14 = (nx + 13) % 14 by omega] at q2
    exact q2.to (fun j hj => by rw [Nat.zero_add, g2 j (by omega) hj, wr_ne _ _ _ (by omega), wr_ne _ _ _ (by omega)])
  · obtain ⟨D2, r1, r2, r3⟩ := hE j (by omega)
    refine ⟨D2, r1.fr (fun c h1 h2 => xf c (by omega) (by omega)), ?_, r3⟩
    rw [show ((nx + 13) % 14 + 14 - k + j) % 14 = (nx + 14 - (k + 1) + j) % 14 by omega]
    exact r2.fr (fun j _ => by rw [mf 6 (by omega) (by omega)])
theorem slot2 (a : Int32) : (a < 0 ∨ ¬ a < 0 ∧ ¬ a < 2) ∧ fm_in a.toInt64 0 1 = some 0 ∨ ∃ s, s < 2 ∧ a = nI s ∧ fm_in a.toInt64 0 1 = some 1 := by
  by_cases h0 : a < 0
  · exact Or.inl ⟨Or.inl h0, in_f (lo := 0) (hi := 1) rfl rfl rfl (Or.inl h0)⟩
  by_cases h1 : a ≤ 1
  · obtain ⟨s, hs, rfl⟩ := nI_of2 (M := 1) (n := 1) rfl h0 h1
    exact Or.inr ⟨s, by omega, rfl, in_t (lo := 0) (hi := 1) rfl rfl rfl (by rw [le_lt]; exact h0) h1⟩
  · refine Or.inl ⟨Or.inr ⟨h0, ?_⟩, in_f (lo := 0) (hi := 1) rfl rfl rfl (Or.inr (by rw [lt_le]; exact h1))⟩
    rw [Int32.le_iff_toInt_le] at h1
    rw [Int32.lt_iff_toInt_lt]
    rw [show (1 : Int32).toInt = 1 from rfl] at h1
    rw [show (2 : Int32).toInt = 2 from rfl]
    omega
theorem ca_keep {x m : St} (h : RR x m) (a : Int32) : CA (fx_keep a x) (fm_keep a m) := by
  have hR := h
  obtain ⟨n, P, mk, ch, hm, kd, D, ⟨hT, hP, hK, hA, hz⟩, hX, hM, hI⟩ := h.rb
  unfold fx_keep fm_keep
  rcases slot2 a with ⟨h1, h2⟩ | ⟨s, hs, rfl, h2⟩
  · rw [h2]
    rcases h1 with h1 | ⟨h1, h3⟩
    · rw [if_pos h1]; exact ⟨_, _, _, rfl, rfl, hR⟩
    · rw [if_neg h1, if_neg h3]; exact ⟨_, _, _, rfl, rfl, hR⟩
  rw [h2, if_neg (nI_pos (by omega)), if_pos (show nI s < (2 : Int32) from nI_lt (b := 2) hs (by decide)), gq_n hs (by decide)]
  simp only [Option.bind_some]
  obtain ⟨x1, e1, f1, g1⟩ := become_d (d := 73 + 4 * s) (e := 13) (w := x) (by omega) hX
  obtain ⟨m1, e2, f2, f3, g2, g3⟩ := keep21 s hs 27 4096 0 (wr m 10 s 1) (by omega) (by omega)
  rw [e1, if_neg (show ¬ (1 : Int32) = 0 by decide), gu_n hs (by decide)]
  simp only [Option.bind_some]
  rw [gu_n hs (by decide)]
  simp only [Option.bind_some]
  rw [show (0 : Int32) = nI 0 from rfl, e2, fm_keep_21, if_pos (show (27 : Int32) ≤ nI 27 by decide), show (26 : Int32) = nI 26 from rfl, gr_n (show 26 < 54 by omega) (by decide), f2 3 (by omega), wr_ne _ _ _ (show 13 ≠ 6 by omega), wr_ne _ _ _ (show 3 ≠ 10 by omega), f1.1 13 (by omega), hX.2.1, show m.1 3 26 = _ from hM.2.1]
  have xf : ∀ d, d ≠ 6 → (d < 73 + 4 * s ∨ 73 + 4 * s + 4 ≤ d) → (wr x1 6 s 1).1 d = x.1 d := fun d h1 h2 => by rw [wr_ne _ _ _ h1, f1.1 d h2]
  have mf : ∀ d, d ≠ 10 → d ≠ 11 → m1.1 d = m.1 d := fun d h1 h2 => by rw [f2 d h2, wr_ne _ _ _ h1]
  refine ⟨_, wr x1 6 s 1, m1, rfl, rfl, n, P, mk, ch, hm, kd, D, hT.fr (by rw [xf 0 (by omega) (by omega)]) (xf 1 (by omega) (by omega)) (by rw [mf 0 (by omega) (by omega)]) (mf 5 (by omega) (by omega)), hP.fr (by rw [xf 0 (by omega) (by omega)]) (by rw [xf 0 (by omega) (by omega)]) (xf 2 (by omega) (by omega)) (xf 3 (by omega) (by omega)) (by rw [mf 0 (by omega) (by omega)]) (by rw [mf 0 (by omega) (by omega)]) (mf 1 (by omega) (by omega)) (mf 2 (by omega) (by omega)), hX.fr (fun c q1 q2 => xf c (by omega) (by omega)), hM.fr (fun j _ => by rw [mf 3 (by omega) (by omega)]), hI, fun t ht => ?_, hA.fr (fun d q1 q2 => xf d (by omega) (by omega)) (by rw [xf 0 (by omega) (by omega)]) (by rw [xf 0 (by omega) (by omega)]) (mf 6 (by omega) (by omega)) (by rw [mf 0 (by omega) (by omega)]) (by rw [mf 0 (by omega) (by omega)]), (f1.2.trans hz).trans f3.symm⟩
  rw [f2 10 (by omega)]
  by_cases hts : t = s
  · subst hts
    refine Or.inr ⟨wr_same _ _ _ _, wr_same _ _ _ _, D, g1.fr (fun c q1 q2 => wr_ne _ _ _ (by omega)), hM.to (fun j hj => ?_), hI⟩
    rw [g2 j (by omega) hj, wr_ne _ _ _ (by omega), Nat.zero_add]
  · rw [wr_off _ _ _ hts, wr_off _ _ _ hts, f1.1 6 (by omega)]
    rcases hK t ht with q | ⟨q1, q2, D', q3, q4, q5⟩
    · exact Or.inl q
    · exact Or.inr ⟨q1, q2, D', q3.fr (fun c r1 r2 => xf c (by omega) (by omega)), q4.fr (fun j hj => by rw [g3 _ (by omega), wr_ne _ _ _ (by omega)]), q5⟩
theorem ca_again {x m : St} (h : RR x m) (a : Int32) : CA (fx_again a x) (fm_again a m) := by
  have hR := h
  obtain ⟨n, P, mk, ch, hm, kd, D, ⟨hT, hP, hK, hA, hz⟩, hX, hM, hI⟩ := h.rb
  unfold fx_again fm_again
  rcases slot2 a with ⟨h1, h2⟩ | ⟨s, hs, rfl, h2⟩
  · rw [h2]
    rcases h1 with h1 | ⟨h1, h3⟩
    · rw [if_pos h1]; exact ⟨_, _, _, rfl, rfl, hR⟩
    · rw [if_neg h1, if_neg h3]; exact ⟨_, _, _, rfl, rfl, hR⟩
  rw [h2, if_neg (nI_pos (by omega)), if_pos (show nI s < (2 : Int32) from nI_lt (b := 2) hs (by decide)), gr_n hs (by decide)]
  simp only [Option.bind_some]
  rw [if_neg (show ¬ (1 : Int32) = 0 by decide), gr_n hs (by decide), gq_n hs (by decide)]
  simp only [Option.bind_some]
  rcases hK s hs with ⟨q1, q2⟩ | ⟨q1, q2, D', q3, q4, q5⟩
  · rw [q1, q2]
    exact ⟨_, _, _, rfl, rfl, hR⟩
  rw [q1, q2, if_neg (show ¬ (1 : Int32) = 0 by decide), if_neg (show ¬ (1 : Int32) = 0 by decide)]
  obtain ⟨x1, e1, f1, g1⟩ := become_d (d := 13) (e := 73 + 4 * s) (w := x) (by omega) q3
  obtain ⟨m1, e2, f2, f3, g2, g3⟩ := again26 s hs 27 4096 0 m (by omega) (by omega)
  rw [e1, show (0 : Int32) = nI 0 from rfl, e2, fm_again_26, if_pos (show (27 : Int32) ≤ nI 27 by decide)]
  unfold fx_forgetActs
  simp only [Option.bind_some]
  rw [show (26 : Int32) = nI 26 from rfl, gr_n (show 26 < 54 by omega) (by decide), wr_ne _ _ _ (show 3 ≠ 0 by omega), wr_ne _ _ _ (show 13 ≠ 0 by omega), wr_ne _ _ _ (show 13 ≠ 0 by omega), g1.2.1, g2 26 (by omega) (by omega), q4.2.1]
  have xf : ∀ d, d ≠ 0 → (d < 13 ∨ 17 ≤ d) → (wr (wr x1 0 8 0) 0 9 0).1 d = x.1 d := fun d h1 h2 => by rw [wr_ne _ _ _ h1, wr_ne _ _ _ h1, f1.1 d h2]
  have x0 : ∀ j, j ≠ 8 → j ≠ 9 → (wr (wr x1 0 8 0) 0 9 0).1 0 j = x.1 0 j := fun j h1 h2 => by rw [wr_off _ _ _ h2, wr_off _ _ _ h1, f1.1 0 (by omega)]
  have mf : ∀ d, d ≠ 0 → d ≠ 3 → (wr m1 0 12 0).1 d = m.1 d := fun d h1 h2 => by rw [wr_ne _ _ _ h1, f2 d h2]
  have m0 : ∀ j, j ≠ 12 → (wr m1 0 12 0).1 0 j = m.1 0 j := fun j h1 => by rw [wr_off _ _ _ h1, f2 0 (by omega)]
  obtain ⟨a, f, nx, ha, hf, hnx, x9, m12, x8, m13, hE⟩ := hA
  refine ⟨_, wr (wr x1 0 8 0) 0 9 0, wr m1 0 12 0, rfl, rfl, n, P, mk, ch, hm, kd, D', hT.fr (x0 1 (by omega) (by omega)) (xf 1 (by omega) (by omega)) (m0 9 (by omega)) (mf 5 (by omega) (by omega)), hP.fr (x0 3 (by omega) (by omega)) (x0 2 (by omega) (by omega)) (xf 2 (by omega) (by omega)) (xf 3 (by omega) (by omega)) (m0 0 (by omega)) (m0 1 (by omega)) (mf 1 (by omega) (by omega)) (mf 2 (by omega) (by omega)), g1.fr (fun c h1 h2 => by rw [wr_ne _ _ _ (by omega), wr_ne _ _ _ (by omega)]), q4.to (fun j hj => by rw [Nat.zero_add, wr_ne _ _ _ (by omega), g2 j (by omega) hj]), q5, hK.fr (fun d q => xf d (by omega) (by omega)) (mf 10 (by omega) (by omega)) (mf 11 (by omega) (by omega)), ⟨0, 0, nx, by omega, by omega, hnx, by rw [wr_same]; rfl, by rw [wr_same]; rfl, by rw [wr_off _ _ _ (by omega), wr_same]; rfl, by rw [wr_off _ _ _ (by omega), f2 0 (by omega)]; exact m13, fun j hj => absurd hj (by omega)⟩, (f1.2.trans hz).trans f3.symm⟩
