theorem rest77 {o : Nat → Nat} {x m : St} (hO : OS o 16 x m) {i w1 w2 : Nat} (hi : i < 4) (h1 : w1 < 10) (h2 : w2 < 10) (c : Int32) (k68 : Int32 → Int32 → Int32 → Int32 → Int32 → Int32 → St → Option (Int32 × St)) : ∀ (r f1 f2 j : Nat) (cnt fst : Int32), j + r = 4 → r < f1 → ∃ cnt' fst', fx_rests_77 k68 f1 (nI w1) (nI w2) c cnt fst (nI i) (nI j) x = k68 (nI w1) (nI w2) c cnt' fst' (nI (i + 1)) x ∧ fm_rests_78 (f2 + r) (nI w1) (nI w2) c cnt fst (nI (4 * i + j)) m = fm_rests_78 f2 (nI w1) (nI w2) c cnt' fst' (nI (4 * i + 4)) m := by
  intro r
  induction r with
  | zero =>
    intro f1 f2 j cnt fst hj hf
    obtain ⟨f1, rfl⟩ : ∃ f, f1 = f + 1 := ⟨f1 - 1, by omega⟩
    obtain rfl : j = 4 := by omega
    refine ⟨cnt, fst, ?_, rfl⟩
    rw [fx_rests_77, if_pos (show (4 : Int32) ≤ nI 4 by decide), nI_1]
  | succ r ih =>
    intro f1 f2 j cnt fst hj hf
    obtain ⟨f1, rfl⟩ : ∃ f, f1 = f + 1 := ⟨f1 - 1, by omega⟩
    have hj4 : j < 4 := by omega
    have er : ir (nI (4 * i + j)) (4 : Int32) = nI j := by
      rw [show ir (nI (4 * i + j)) (4 : Int32) = nI ((4 * i + j) % 4) from rem_n (d := 4) (by omega) (by decide) (by decide)]
      congr 1; omega
    have ed : nI (4 * i + j) / (4 : Int32) = nI i := by
      rw [show nI (4 * i + j) / (4 : Int32) = nI ((4 * i + j) / 4) from pk_div (d := 4) (by omega) (by decide) (by decide)]
      congr 1; omega
    have qx := isRest_x hO hi hj4 h1 h2 4 4096 0 (by omega) (by omega)
    have qm := isRest_m hO hi hj4 h1 h2 4 4096 0 true (by omega) (by omega)
    rw [fx_rests_77, if_neg (show ¬ (4 : Int32) ≤ nI j from nI_ge (b := 4) hj4 (by decide)), show f2 + (r + 1) = (f2 + r) + 1 from rfl, fm_rests_78, if_neg (show ¬ (16 : Int32) ≤ nI (4 * i + j) from nI_ge (b := 16) (by omega) (by decide))]
    unfold fx_isRest fm_isRest fx_rests_115 fx_rests_120 fm_rests_119 fm_rests_124
    rw [er, ed, show (0 : Int32) = nI 0 from rfl, qx, show (1 : Int32) = b2 true from rfl, qm, Option.bind_some, Option.bind_some, Bool.true_and, show b2 true = (1 : Int32) from rfl, nI_1, nI_1]
    have key := fun (cnt fst : Int32) => ih f1 f2 (j + 1) cnt fst (by omega) (by omega)
    by_cases hz : b2 (Ra o i j w1 w2 4 0) = nI 0
    · rw [if_pos hz, if_pos hz]
      exact key cnt fst
    · rw [if_neg hz, if_neg hz]
      by_cases hc : cnt = nI 0
      · rw [if_pos hc, if_pos hc]
        exact key (cnt + 1) _
      · rw [if_neg hc, if_neg hc]
        exact key (cnt + 1) fst
theorem rest68 {o : Nat → Nat} {x m : St} (hO : OS o 16 x m) {w1 w2 : Nat} (h1 : w1 < 10) (h2 : w2 < 10) (c : Int32) : ∀ (r f1 f2 i : Nat) (cnt fst : Int32), i + r = 4 → r < f1 → ∃ v, fx_rests_68 f1 (nI w1) (nI w2) c cnt fst (nI i) x = some (v, x) ∧ fm_rests_78 (f2 + 1 + 4 * r) (nI w1) (nI w2) c cnt fst (nI (4 * i)) m = some (v, m) := by
  intro r
  induction r with
  | zero =>
    intro f1 f2 i cnt fst hi hf
    obtain ⟨f1, rfl⟩ : ∃ f, f1 = f + 1 := ⟨f1 - 1, by omega⟩
    obtain rfl : i = 4 := by omega
    rw [fx_rests_68, if_pos (show (4 : Int32) ≤ nI 4 by decide), show f2 + 1 + 4 * 0 = f2 + 1 from rfl, fm_rests_78, if_pos (show (16 : Int32) ≤ nI (4 * 4) by decide)]
    by_cases hc : c = 0
    · rw [if_pos hc, if_pos hc]; exact ⟨_, rfl, rfl⟩
    · rw [if_neg hc, if_neg hc]; exact ⟨_, rfl, rfl⟩
  | succ r ih =>
    intro f1 f2 i cnt fst hi hf
    obtain ⟨f1, rfl⟩ : ∃ f, f1 = f + 1 := ⟨f1 - 1, by omega⟩
    have hi4 : i < 4 := by omega
    obtain ⟨cnt', fst', e1, e2⟩ := rest77 hO hi4 h1 h2 c (fx_rests_68 f1) 4 4096 (f2 + 1 + 4 * r) 0 cnt fst (by omega) (by omega)
    rw [fx_rests_68, if_neg (show ¬ (4 : Int32) ≤ nI i from nI_ge (b := 4) hi4 (by decide)), show (0 : Int32) = nI 0 from rfl, e1, show f2 + 1 + 4 * (r + 1) = f2 + 1 + 4 * r + 4 from by omega, show nI (4 * i) = nI (4 * i + 0) from rfl, e2, show 4 * i + 4 = 4 * (i + 1) from by omega]
    exact ih f1 f2 (i + 1) cnt' fst' (by omega) (by omega)
theorem ca_rests {x m : St} (h : RR x m) (a b c d e : Int32) : CA (fx_rests a b c d e x) (fm_rests a b c d e m) := by
  have hR := h
  obtain ⟨n, P, mk, ch, hm, kd, D, hB, hX, hM, hI⟩ := h.rb
  have hP6 := hB.2.1.1
  unfold fx_rests fm_rests
  rcases pers hB.2.1 a with ⟨p, hp, rfl, e1, e2⟩ | ⟨e1, e2⟩
  · rw [e1, e2, Option.bind_some, Option.bind_some, if_neg (show ¬ (1 : Int32) = 0 by decide), if_neg (show ¬ (1 : Int32) = 0 by decide)]
    rcases pers hB.2.1 b with ⟨q, hq, rfl, e3, e4⟩ | ⟨e3, e4⟩
    · rw [e3, e4, Option.bind_some, Option.bind_some, if_neg (show ¬ (1 : Int32) = 0 by decide), if_neg (show ¬ (1 : Int32) = 0 by decide)]
      by_cases hpq : nI p = nI q
      · rw [if_pos hpq, if_pos hpq]
        exact ⟨_, _, _, rfl, rfl, hR⟩
      rw [if_neg hpq, if_neg hpq]
      rcases isSense_e c with ⟨h3, h4⟩ | ⟨w1, hw1, rfl, h3, h4⟩
      · rw [h3, h4]
        exact ⟨_, _, _, rfl, rfl, hR⟩
      rw [h3, h4, Option.bind_some, Option.bind_some, if_neg (show ¬ (1 : Int32) = 0 by decide), if_neg (show ¬ (1 : Int32) = 0 by decide)]
      rcases isSense_e d with ⟨h5, h6⟩ | ⟨w2, hw2, rfl, h5, h6⟩
      · rw [h5, h6]
        exact ⟨_, _, _, rfl, rfl, hR⟩
      rw [h5, h6, Option.bind_some, Option.bind_some, if_neg (show ¬ (1 : Int32) = 0 by decide), if_neg (show ¬ (1 : Int32) = 0 by decide)]
      rcases in_ab (lo := 0) (hi := 1) e 0 1 0 1 rfl rfl rfl rfl (by decide) (by decide) with ⟨h7, h8⟩ | ⟨z, -, z2, rfl, h8⟩
      · rw [h8]
        by_cases q : e < 0
        · rw [if_pos q]; exact ⟨_, _, _, rfl, rfl, hR⟩
        · rw [if_neg q, if_neg (fun z => h7 ⟨by rw [le_lt]; exact q, z⟩)]; exact ⟨_, _, _, rfl, rfl, hR⟩
      obtain ⟨x1, m1, o, d1, d2, hO, f1, g1, hz⟩ := outs (P := P) (p := p) (q := q) hP6 hp hq hI hX hM 16 4096 0 (fun _ => 0) x m (by omega) (by omega) SW.rf SN.rf hB.2.2.2.2 (fun j hj => absurd hj (by omega))
      obtain ⟨v, k1, k2⟩ := rest68 hO hw1 hw2 (nI z) 4 4096 4079 0 (nI 0) (-9) (by omega) (by omega)
      rw [show 4079 + 1 + 4 * 4 = 4096 from rfl, show 4 * 0 = 0 from rfl] at k2
      rw [h8, Option.bind_some, if_neg (nI_pos (show z < 2 ^ 31 by omega)), if_pos (show nI z ≤ (1 : Int32) from nI_le (b := 1) z2 (by decide)), if_neg (show ¬ (1 : Int32) = 0 by decide)]
      unfold fx_playOutcomes fm_laySenses
      rw [show (0 : Int32) = nI 0 from rfl, d1, d2, Option.bind_some, Option.bind_some]
      exact ⟨v, x1, m1, k1, k2, hR.scr f1 g1 hz⟩
    · rw [e3, e4]
      exact ⟨_, _, _, rfl, rfl, hR⟩
  · rw [e1, e2]
    exact ⟨_, _, _, rfl, rfl, hR⟩
