theorem settle69 {n K mk : Nat} {ch : Nat → Nat} (hK : K ≤ 6) (hn : n = 2 + 5 * K) (hF : FF n ch 0 = -9) (hmk : mk ≤ 9) : ∀ (r fu i : Nat) (w : St), i + r = K → r < fu → (∀ j, j < 4 * K → w.1 4 j = nI (tab ch j)) → w.1 0 0 = nI K → w.1 0 1 = nI mk → w.1 3 0 = nI (am mk (tH ch) i) → ∃ w', fm_island_69 fu (nI i) w = fm_island_69 1 (nI K) w' ∧ (∀ d, d ≠ 1 → d ≠ 2 → d ≠ 3 → w'.1 d = w.1 d) ∧ w'.2 = w.2 ∧ w'.1 3 0 = nI (am mk (tH ch) K) ∧ (∀ j, 15 ≤ j → w'.1 3 j = w.1 3 j) ∧ (∀ j, j < i ∨ K ≤ j → w'.1 1 j = w.1 1 j ∧ w'.1 2 j = w.1 2 j) ∧ (∀ j, j < i → w'.1 3 (1 + j) = w.1 3 (1 + j) ∧ w'.1 3 (8 + j) = w.1 3 (8 + j)) ∧ ∀ j, i ≤ j → j < K → w'.1 1 j = nI (tH ch j) ∧ w'.1 2 j = nI (tK ch j) ∧ w'.1 3 (1 + j) = nI (tS ch j / 10) ∧ w'.1 3 (8 + j) = nI (tS ch j % 10) := by
  intro r
  induction r with
  | zero =>
    intro fu i w h1 hf ht h3 h2 hA
    obtain ⟨fu, rfl⟩ : ∃ f, fu = f + 1 := ⟨fu - 1, by omega⟩
    obtain rfl : i = K := by omega
    refine ⟨w, ?_, fun _ _ _ _ => rfl, rfl, hA, fun _ _ => rfl, fun _ _ => ⟨rfl, rfl⟩, fun _ _ => ⟨rfl, rfl⟩, fun j a b => absurd b (by omega)⟩
    rw [fm_island_69, h3, if_pos (nI_le (Nat.le_refl _) (by omega)), fm_island_69, h3, if_pos (nI_le (Nat.le_refl _) (by omega))]
  | succ r ih =>
    intro fu i w h1 hf ht h3 h2 hA
    obtain ⟨fu, rfl⟩ : ∃ f, fu = f + 1 := ⟨fu - 1, by omega⟩
    have hi : i < K := by omega
    have d0 := dig_ok (t := 0) hK hn hi (by omega) hF
    have d1 := dig_ok (t := 1) hK hn hi (by omega) hF
    have d2 := dig_ok (t := 2) hK hn hi (by omega) hF
    have tk : ∀ t, t < 4 → tab ch (4 * i + t) = ch (3 + 5 * i + t) - 48 := fun t h => by
      unfold tab
      rw [show 3 + 5 * ((4 * i + t) / 4) + (4 * i + t) % 4 = 3 + 5 * i + t by omega]
    have hd2 : ch (3 + 5 * i + 2) ≤ 48 + 9 := d2.2
    have hs1 : tS ch i / 10 = ch (3 + 5 * i + 1) - 48 := by unfold tS; omega
    have hs2 : tS ch i % 10 = ch (3 + 5 * i + 2) - 48 := by unfold tS; omega
    have i0 : (4 : Int32) * nI i = nI (4 * i) := by rw [show (4 : Int32) = nI 4 from rfl, pk_mul]
    have j0 : w.1 4 (4 * i) = nI (tH ch i) := by rw [ht (4 * i) (by omega), show 4 * i = 4 * i + 0 from rfl, tk 0 (by omega)]; rfl
    have j1 : w.1 4 (4 * i + 1) = nI (tS ch i / 10) := by rw [ht _ (by omega), tk 1 (by omega), hs1]
    have j2 : w.1 4 (4 * i + 2) = nI (tS ch i % 10) := by rw [ht _ (by omega), tk 2 (by omega), hs2]
    have j3 : w.1 4 (4 * i + 3) = nI (tK ch i) := by rw [ht _ (by omega), tk 3 (by omega)]; rfl
    rw [fm_island_69, h3, if_neg (nI_ge hi (by omega)), i0, ad (4 * i) 1 1 rfl, ad (4 * i) 2 2 rfl, ad (4 * i) 3 3 rfl, show (1 : Int32) + nI i = nI (1 + i) from nI_add 1 i, show (8 : Int32) + nI i = nI (8 + i) from nI_add 8 i, gr_n (show 4 * i < 24 by omega) (by decide), Option.bind_some, j0, gu_n (show i < 6 by omega) (by decide), Option.bind_some, gr_n (show 4 * i + 1 < 24 by omega) (by decide), Option.bind_some, wr_ne _ _ _ (show 4 ≠ 1 by omega), j1, gu_n (show 1 + i < 54 by omega) (by decide), Option.bind_some, gr_n (show 4 * i + 2 < 24 by omega) (by decide), Option.bind_some, wr_ne _ _ _ (show 4 ≠ 3 by omega), wr_ne _ _ _ (show 4 ≠ 1 by omega), j2, gu_n (show 8 + i < 54 by omega) (by decide), Option.bind_some, gr_n (show 4 * i + 3 < 24 by omega) (by decide), Option.bind_some, wr_ne _ _ _ (show 4 ≠ 3 by omega), wr_ne _ _ _ (show 4 ≠ 3 by omega), wr_ne _ _ _ (show 4 ≠ 1 by omega), j3, gu_n (show i < 7 by omega) (by decide), Option.bind_some]
    obtain ⟨w3, hw⟩ : ∃ w3, w3 = wr (wr (wr (wr w 1 i (nI (tH ch i))) 3 (1 + i) (nI (tS ch i / 10))) 3 (8 + i) (nI (tS ch i % 10))) 2 i (nI (tK ch i)) := ⟨_, rfl⟩
    have k1 : w3.1 1 i = nI (tH ch i) := by rw [hw, wr_ne _ _ _ (by omega), wr_ne _ _ _ (by omega), wr_ne _ _ _ (by omega), wr_same]
    have k2 : w3.1 2 i = nI (tK ch i) := by rw [hw, wr_same]
    have ka : w3.1 3 (1 + i) = nI (tS ch i / 10) := by rw [hw, wr_ne _ _ _ (by omega), wr_off _ _ _ (by omega), wr_same]
    have kb : w3.1 3 (8 + i) = nI (tS ch i % 10) := by rw [hw, wr_ne _ _ _ (by omega), wr_same]
    have kf : ∀ d, d ≠ 1 → d ≠ 2 → d ≠ 3 → w3.1 d = w.1 d := fun d a b c => by rw [hw, wr_ne _ _ _ b, wr_ne _ _ _ c, wr_ne _ _ _ c, wr_ne _ _ _ a]
    have k3 : ∀ j, j ≠ 1 + i → j ≠ 8 + i → w3.1 3 j = w.1 3 j := fun j a b => by rw [hw, wr_ne _ _ _ (by omega), wr_off _ _ _ b, wr_off _ _ _ a, wr_ne _ _ _ (by omega)]
    have ko : ∀ j, j ≠ i → w3.1 1 j = w.1 1 j ∧ w3.1 2 j = w.1 2 j := fun j hj => by
      rw [hw]
      exact ⟨by rw [wr_ne _ _ _ (by omega), wr_ne _ _ _ (by omega), wr_ne _ _ _ (by omega), wr_off _ _ _ hj], by rw [wr_off _ _ _ hj, wr_ne _ _ _ (by omega), wr_ne _ _ _ (by omega), wr_ne _ _ _ (by omega)]⟩
    have kz : w3.2 = w.2 := by rw [hw]; rfl
    rw [← hw, show (0 : Int32) = nI 0 from rfl, gr_n (show 0 < 54 by omega) (by decide), Option.bind_some, gr_n (show i < 6 by omega) (by decide), Option.bind_some, k1, kf 0 (by omega) (by omega) (by omega), h2, k3 0 (by omega) (by omega), hA]
    unfold fm_island_171
    rw [gu_n (show 0 < 54 by omega) (by decide), gu_n (show 0 < 54 by omega) (by decide), Option.bind_some, Option.bind_some, bit_1 (by omega), nO, nO, nI_1, Nat.or_zero]
    have key : ∀ v : Nat, v = am mk (tH ch) (i + 1) → ∃ w', fm_island_69 fu (nI (i + 1)) (wr w3 3 0 (nI v)) = fm_island_69 1 (nI K) w' ∧ (∀ d, d ≠ 1 → d ≠ 2 → d ≠ 3 → w'.1 d = w.1 d) ∧ w'.2 = w.2 ∧ w'.1 3 0 = nI (am mk (tH ch) K) ∧ (∀ j, 15 ≤ j → w'.1 3 j = w.1 3 j) ∧ (∀ j, j < i ∨ K ≤ j → w'.1 1 j = w.1 1 j ∧ w'.1 2 j = w.1 2 j) ∧ (∀ j, j < i → w'.1 3 (1 + j) = w.1 3 (1 + j) ∧ w'.1 3 (8 + j) = w.1 3 (8 + j)) ∧ ∀ j, i ≤ j → j < K → w'.1 1 j = nI (tH ch j) ∧ w'.1 2 j = nI (tK ch j) ∧ w'.1 3 (1 + j) = nI (tS ch j / 10) ∧ w'.1 3 (8 + j) = nI (tS ch j % 10) := by
      intro v hv
      obtain ⟨w', l1, l2, l3, l4, l5, l6, l7, l8⟩ := ih fu (i + 1) (wr w3 3 0 (nI v)) (by omega) (by omega) (fun j hj => by rw [wr_ne _ _ _ (by omega), kf 4 (by omega) (by omega) (by omega)]; exact ht j hj) (by rw [wr_ne _ _ _ (by omega), kf 0 (by omega) (by omega) (by omega)]; exact h3) (by rw [wr_ne _ _ _ (by omega), kf 0 (by omega) (by omega) (by omega)]; exact h2) (by rw [wr_same, hv])
      refine ⟨w', l1, fun d a b c => by rw [l2 d a b c, wr_ne _ _ _ c, kf d a b c], l3.trans kz, l4, fun j a => by rw [l5 j a, wr_off _ _ _ (by omega), k3 j (by omega) (by omega)], fun j hj => ?_, fun j hj => ?_, fun j a b => ?_⟩
      · obtain ⟨y1, y2⟩ := l6 j (by omega)
        obtain ⟨z1, z2⟩ := ko j (by omega)
        exact ⟨by rw [y1, wr_ne _ _ _ (by omega), z1], by rw [y2, wr_ne _ _ _ (by omega), z2]⟩
      · obtain ⟨y1, y2⟩ := l7 j (by omega)
        exact ⟨by rw [y1, wr_off _ _ _ (by omega), k3 _ (by omega) (by omega)], by rw [y2, wr_off _ _ _ (by omega), k3 _ (by omega) (by omega)]⟩
      · by_cases hji : j = i
        · subst hji
          obtain ⟨y1, y2⟩ := l6 j (by omega)
          obtain ⟨y3, y4⟩ := l7 j (by omega)
          exact ⟨by rw [y1, wr_ne _ _ _ (by omega), k1], by rw [y2, wr_ne _ _ _ (by omega), k2], by rw [y3, wr_off _ _ _ (by omega), ka], by rw [y4, wr_off _ _ _ (by omega), kb]⟩
        · exact l8 j (by omega) b
    have hh : tH ch i < 100 := by unfold tH; have := d0.2; simp only [Nat.zero_mod, if_true, Nat.add_zero] at this; omega
    by_cases hm : tH ch i = mk
    · rw [if_pos (by rw [hm])]
      exact key _ (by rw [am, if_pos hm])
    · rw [if_neg (fun z => hm ((nI_eq (by omega) (by omega)).mp z))]
      exact key _ (by rw [am, if_neg hm])
