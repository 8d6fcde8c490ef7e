theorem clear_x (a b c : Int32) : ∀ (r fu i : Nat) (w : St), i + r = 10 → r < fu → ∃ w', fx_quarrel_43 fu a b c (nI i) w = fx_quarrel_71 4096 a b c (nI 0) w' ∧ (∀ d, d ≠ 7 → w'.1 d = w.1 d) ∧ w'.2 = w.2 ∧ (∀ j, i ≤ j → j < 10 → w'.1 7 j = -9) ∧ ∀ j, j < i → w'.1 7 j = w.1 7 j := by
  intro r
  induction r with
  | zero =>
    intro fu i w h1 hf
    obtain ⟨fu, rfl⟩ : ∃ f, fu = f + 1 := ⟨fu - 1, by omega⟩
    obtain rfl : i = 10 := by omega
    rw [fx_quarrel_43, if_pos (show (10 : Int32) ≤ nI 10 by decide), show (0 : Int32) = nI 0 from rfl]
    exact ⟨w, rfl, fun _ _ => rfl, rfl, fun j q1 q2 => absurd q2 (by omega), fun _ _ => rfl⟩
  | succ r ih =>
    intro fu i w h1 hf
    obtain ⟨fu, rfl⟩ : ∃ f, fu = f + 1 := ⟨fu - 1, by omega⟩
    rw [fx_quarrel_43, if_neg (show ¬ (10 : Int32) ≤ nI i from nI_ge (b := 10) (by omega) (by decide)), gu_n (show i < 10 by omega) (by decide)]
    simp only [Option.bind_some]
    rw [nI_1]
    obtain ⟨w', e1, e2, e3, e4, e5⟩ := ih fu (i + 1) (wr w 7 i (-9)) (by omega) (by omega)
    refine ⟨w', e1, fun d hd => (e2 d hd).trans (wr_ne _ _ _ hd), e3, fun j q1 q2 => ?_, fun j q => ?_⟩
    · rcases Nat.lt_or_ge i j with q | q
      · exact e4 j (by omega) q2
      · obtain rfl : j = i := by omega
        rw [e5 j (by omega), wr_same]
    · rw [e5 j (by omega), wr_off _ _ _ (by omega)]
theorem clear_m (a b c : Int32) : ∀ (r fu i : Nat) (w : St), i + r = 10 → r < fu → ∃ w', fm_quarrel_29 fu a b c (nI i) w = ((gr (w'.1 3) 54 (nI 0)).bind fun v57 => (fm_layTrial v57 w').bind fun w58 => fm_quarrel_64 4096 a b c (nI 0) w58) ∧ (∀ d, d ≠ 7 → w'.1 d = w.1 d) ∧ w'.2 = w.2 ∧ (∀ j, i ≤ j → j < 10 → w'.1 7 j = -9) ∧ ∀ j, j < i → w'.1 7 j = w.1 7 j := by
  intro r
  induction r with
  | zero =>
    intro fu i w h1 hf
    obtain ⟨fu, rfl⟩ : ∃ f, fu = f + 1 := ⟨fu - 1, by omega⟩
    obtain rfl : i = 10 := by omega
    rw [fm_quarrel_29, if_pos (show (10 : Int32) ≤ nI 10 by decide), show (0 : Int32) = nI 0 from rfl]
    exact ⟨w, rfl, fun _ _ => rfl, rfl, fun j q1 q2 => absurd q2 (by omega), fun _ _ => rfl⟩
  | succ r ih =>
    intro fu i w h1 hf
    obtain ⟨fu, rfl⟩ : ∃ f, fu = f + 1 := ⟨fu - 1, by omega⟩
    rw [fm_quarrel_29, if_neg (show ¬ (10 : Int32) ≤ nI i from nI_ge (b := 10) (by omega) (by decide)), gu_n (show i < 10 by omega) (by decide)]
    simp only [Option.bind_some]
    rw [nI_1]
    obtain ⟨w', e1, e2, e3, e4, e5⟩ := ih fu (i + 1) (wr w 7 i (-9)) (by omega) (by omega)
    refine ⟨w', e1, fun d hd => (e2 d hd).trans (wr_ne _ _ _ hd), e3, fun j q1 q2 => ?_, fun j q => ?_⟩
    · rcases Nat.lt_or_ge i j with q | q
      · exact e4 j (by omega) q2
      · obtain rfl : j = i := by omega
        rw [e5 j (by omega), wr_same]
    · rw [e5 j (by omega), wr_off _ _ _ (by omega)]
theorem un_9 : 0 + un (fun _ => -9) = 10 := by decide
theorem ca_quarrel {x m : St} (h : RR x m) (a b c : Int32) : CA (fx_quarrel a b c x) (fm_quarrel a b c m) := by
  have hR := h
  obtain ⟨n, P, mk, ch, hm, kd, D, hB, hX, hM, hI⟩ := h.rb
  have hP6 := hB.2.1.1
  unfold fx_quarrel fm_quarrel
  rcases pers hB.2.1 a with ⟨p, hp, rfl, e1, e2⟩ | ⟨e1, e2⟩
  · rw [e1, e2]
    simp only [Option.bind_some]
    rw [if_neg (show ¬ (1 : Int32) = 0 by decide), if_neg (show ¬ (1 : Int32) = 0 by decide)]
    rcases pers hB.2.1 b with ⟨q, hq, rfl, e3, e4⟩ | ⟨e3, e4⟩
    · rw [e3, e4]
      simp only [Option.bind_some]
      rw [if_neg (show ¬ (1 : Int32) = 0 by decide), if_neg (show ¬ (1 : Int32) = 0 by decide)]
      by_cases hpq : nI p = nI q
      · rw [if_pos hpq, if_pos hpq]
        exact ⟨_, _, _, rfl, rfl, hR⟩
      rw [if_neg hpq, if_neg hpq]
      obtain ⟨m1, c1, c2, c3, c4, -⟩ := clear_m (nI p) (nI q) c 10 4096 0 m (by omega) (by omega)
      obtain ⟨x1, m2, d1, d2, f1, g1, hQ⟩ := QT.start (P := P) (B := D.1) (x0 := x) (m0 := m) hP6 hI hX (hM.fr (w' := m1) (fun j _ => by rw [c2 3 (by omega)]))
      obtain ⟨x2, b1, b2, b3, b4, -⟩ := clear_x (nI p) (nI q) c 10 4096 0 x1 (by omega) (by omega)
      rw [d1, Option.bind_some]
      rw [show (0 : Int32) = nI 0 from rfl, c1, b1, gr_n (show 0 < 54 by omega) (by decide), c2 3 (by omega), hM.1, Option.bind_some, d2, Option.bind_some]
      have hQ2 : QT P D.2.2.1 x2 m2 := by
        obtain ⟨a, a2, q1, q2, q3, q4, q5, q6, q7⟩ := hQ
        exact ⟨a, a2, q1.fr (b2 _ (by omega)) (b2 _ (by omega)), q2, q3, q4, q5, q6.fr (b2 _ (by omega)) (by rw [b2 0 (by omega)]), q7⟩
      obtain ⟨v, x', m', k1, k2, k3, k4, k5, k6⟩ := quar (S := D.2.2.1) (p := p) (q := q) hP6 hp hq c 11 4096 0 (fun _ => -9) x2 m2 (by omega) (by omega) un_9 (fun j hj => ⟨b4 j (by omega) hj, by rw [g1.1 7 (by omega)]; exact c4 j (by omega) hj⟩) hQ2
      refine ⟨v, x', m', k1, k2, hR.scr ((f1.sw.tr ⟨fun d a b => b2 d (by omega), fun j a => by rw [b2 0 (by omega)]⟩).tr k3) ((SN.tr ⟨fun d a => c2 d (by omega), fun j a => by rw [c2 3 (by omega)], fun j a => by rw [c2 0 (by omega)]⟩ g1.sn).tr k4) ?_⟩
      rw [k5, b3, f1.2, hB.2.2.2.2, k6, g1.2.2, c3]
    · rw [e3, e4]
      exact ⟨_, _, _, rfl, rfl, hR⟩
  · rw [e1, e2]
    exact ⟨_, _, _, rfl, rfl, hR⟩
/-! nights -/
theorem six (s : Int64) : ∃ p, p < 6 ∧ (lr (lush s 33) 6).toInt32 = nI p := by
  have hu : ∃ k, k < 2 ^ 31 ∧ lush s 33 = lN k := by
    refine ⟨s.toBitVec.toNat / 2 ^ 33, ?_, ?_⟩
    · have := s.toBitVec.isLt
      omega
    · apply Int64.toBitVec_inj.1
      show s.toBitVec >>> _ = BitVec.ofNat 64 _
      apply BitVec.eq_of_toNat_eq
      rw [BitVec.toNat_ofNat, Nat.mod_eq_of_lt (by have := s.toBitVec.isLt; omega)]
      show (s.toBitVec >>> (33 : Nat)).toNat = _
      rw [BitVec.toNat_ushiftRight, Nat.shiftRight_eq_div_pow]
  obtain ⟨k, hk, e⟩ := hu
  refine ⟨k % 6, Nat.mod_lt _ (by omega), ?_⟩
  rw [e]
  unfold lr
  rw [show (6 : Int64) = lN 6 from rfl, pk_lDiv (by omega) (by omega) (by omega), lN_mul, lN_sub (by omega), lN_i]
  congr 1
  omega
