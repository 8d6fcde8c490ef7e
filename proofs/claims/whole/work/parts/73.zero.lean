theorem zero30 : ∀ (r fu i : Nat) (w : St), i + r = 27 → r < fu → ∃ w', fm_island_30 fu (nI i) w = fm_island_30 1 (nI 27) w' ∧ (∀ d, d ≠ 3 → w'.1 d = w.1 d) ∧ w'.2 = w.2 ∧ (∀ j, i ≤ j → j < 27 → w'.1 3 j = 0) ∧ ∀ j, j < i ∨ 27 ≤ j → w'.1 3 j = w.1 3 j := by
  intro r
  induction r with
  | zero =>
    intro fu i w h1 hf
    obtain ⟨fu, rfl⟩ : ∃ f, fu = f + 1 := ⟨fu - 1, by omega⟩
    obtain rfl : i = 27 := by omega
    refine ⟨w, ?_, fun _ _ => rfl, rfl, fun j q1 q2 => absurd q2 (by omega), fun _ _ => rfl⟩
    rw [fm_island_30, if_pos (show (27 : Int32) ≤ nI 27 by decide), fm_island_30, if_pos (show (27 : Int32) ≤ nI 27 by decide)]
  | succ r ih =>
    intro fu i w h1 hf
    obtain ⟨fu, rfl⟩ : ∃ f, fu = f + 1 := ⟨fu - 1, by omega⟩
    rw [fm_island_30, if_neg (show ¬ (27 : Int32) ≤ nI i from nI_ge (b := 27) (by omega) (by decide)), gu_n (show i < 54 by omega) (by decide), Option.bind_some, nI_1]
    obtain ⟨w', e1, e2, e3, e4, e5⟩ := ih fu (i + 1) (wr w 3 i 0) (by omega) (by omega)
    refine ⟨w', e1, fun d hd => (e2 d hd).trans (wr_ne _ _ _ hd), e3, fun j q1 q2 => ?_, fun j q => ?_⟩
    · rcases Nat.lt_or_ge i j with q | q
      · exact e4 j (by omega) q2
      · obtain rfl : j = i := by omega
        rw [e5 j (by omega), wr_same]
    · rw [e5 j (by omega), wr_off _ _ _ (by omega)]
theorem begin19 (t : Nat) : ∀ (r fu i : Nat) (w : St), i + r = 7 → r < fu → ∃ w', ft_begin_19 fu t (nI i) w = some w' ∧ (∀ d, d ≠ t + 1 → w'.1 d = w.1 d) ∧ w'.2 = w.2 ∧ (∀ j, i ≤ j → j < 7 → w'.1 (t + 1) j = 0) ∧ ∀ j, j < i → w'.1 (t + 1) j = w.1 (t + 1) j := by
  intro r
  induction r with
  | zero =>
    intro fu i w h1 hf
    obtain ⟨fu, rfl⟩ : ∃ f, fu = f + 1 := ⟨fu - 1, by omega⟩
    obtain rfl : i = 7 := by omega
    rw [ft_begin_19, if_pos (show (7 : Int32) ≤ nI 7 by decide)]
    exact ⟨w, rfl, fun _ _ => rfl, rfl, fun j q1 q2 => absurd q2 (by omega), fun _ _ => rfl⟩
  | succ r ih =>
    intro fu i w h1 hf
    obtain ⟨fu, rfl⟩ : ∃ f, fu = f + 1 := ⟨fu - 1, by omega⟩
    rw [ft_begin_19, if_neg (show ¬ (7 : Int32) ≤ nI i from nI_ge (b := 7) (by omega) (by decide)), gu_n (show i < 7 by omega) (by decide), Option.bind_some, nI_1]
    obtain ⟨w', e1, e2, e3, e4, e5⟩ := ih fu (i + 1) (wr w (t + 1) i 0) (by omega) (by omega)
    refine ⟨w', e1, fun d hd => (e2 d hd).trans (wr_ne _ _ _ hd), e3, fun j q1 q2 => ?_, fun j q => ?_⟩
    · rcases Nat.lt_or_ge i j with q | q
      · exact e4 j (by omega) q2
      · obtain rfl : j = i := by omega
        rw [e5 j (by omega), wr_same]
    · rw [e5 j (by omega), wr_off _ _ _ (by omega)]
