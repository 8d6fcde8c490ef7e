/-- the houses as the text has them -/
def tH (ch : Nat → Nat) (k : Nat) : Nat := ch (3 + 5 * k) - 48
def tS (ch : Nat → Nat) (k : Nat) : Nat := 10 * (ch (3 + 5 * k + 1) - 48) + (ch (3 + 5 * k + 2) - 48)
def tK (ch : Nat → Nat) (k : Nat) : Nat := ch (3 + 5 * k + 3) - 48
theorem settle42 {n K mk : Nat} {ch : Nat → Nat} (hK : K ≤ 6) (hn : n = 2 + 5 * K) (hF : FF n ch 0 = -9) (hmk : mk ≤ 9) : ∀ (r fu i : Nat) (w : St), i + r = K → r < fu → (∀ j, j < n → w.1 1 j = nI (ch j)) → w.1 0 3 = nI K → w.1 0 2 = nI mk → w.1 13 1 = nI (am mk (tH ch) i) → ∃ w', fx_island_42 fu (nI i) w = fx_island_42 1 (nI K) w' ∧ (∀ d, d ≠ 2 → d ≠ 3 → d ≠ 13 → d ≠ 16 → w'.1 d = w.1 d) ∧ w'.2 = w.2 ∧ (∀ j, j ≠ 1 → w'.1 13 j = w.1 13 j) ∧ w'.1 13 1 = nI (am mk (tH ch) K) ∧ (∀ j, j < i ∨ K ≤ j → w'.1 2 j = w.1 2 j ∧ w'.1 3 j = w.1 3 j ∧ w'.1 16 j = w.1 16 j) ∧ ∀ j, i ≤ j → j < K → w'.1 2 j = nI (tH ch j) ∧ w'.1 3 j = nI (tK ch j) ∧ w'.1 16 j = nI (tS ch j) := by
  intro r
  induction r with
  | zero =>
    intro fu i w h1 hf ht h3 h2 hA
    obtain ⟨fu, rfl⟩ : ∃ f, fu = f + 1 := ⟨fu - 1, by omega⟩
    obtain rfl : i = K := by omega
    refine ⟨w, ?_, fun _ _ _ _ _ => rfl, rfl, fun _ _ => rfl, hA, fun _ _ => ⟨rfl, rfl, rfl⟩, fun j a b => absurd b (by omega)⟩
    rw [fx_island_42, h3, if_pos (nI_le (Nat.le_refl _) (by omega)), fx_island_42, h3, if_pos (nI_le (Nat.le_refl _) (by omega))]
  | succ r ih =>
    intro fu i w h1 hf ht h3 h2 hA
    obtain ⟨fu, rfl⟩ : ∃ f, fu = f + 1 := ⟨fu - 1, by omega⟩
    have hi : i < K := by omega
    have d0 := dig_ok (t := 0) hK hn hi (by omega) hF
    have d1 := dig_ok (t := 1) hK hn hi (by omega) hF
    have d2 := dig_ok (t := 2) hK hn hi (by omega) hF
    have d3 := dig_ok (t := 3) hK hn hi (by omega) hF
    have hat : (2 : Int32) + (5 : Int32) * nI i = nI (2 + 5 * i) := by rw [show (5 : Int32) = nI 5 from rfl, show (2 : Int32) = nI 2 from rfl, pk_mul, nI_add]
    have p1 : nI (2 + 5 * i) + (1 : Int32) = nI (3 + 5 * i) := by rw [nI_1]; congr 1; omega
    have p2 : nI (2 + 5 * i) + (2 : Int32) = nI (3 + 5 * i + 1) := by rw [ad _ 2 2 rfl]; congr 1; omega
    have p3 : nI (2 + 5 * i) + (3 : Int32) = nI (3 + 5 * i + 2) := by rw [ad _ 3 3 rfl]; congr 1; omega
    have p4 : nI (2 + 5 * i) + (4 : Int32) = nI (3 + 5 * i + 3) := by rw [ad _ 4 4 rfl]; congr 1; omega
    rw [fx_island_42, h3, if_neg (nI_ge hi (by omega)), hat]
    unfold fx_settle
    rw [if_neg (nI_pos (by omega)), if_pos (show nI i < (6 : Int32) from nI_lt (b := 6) (by omega) (by decide)), p1, p2, p3, p4, figIn (show n ≤ 40 by omega) (show 3 + 5 * i < n by omega) ht d0.1, Option.bind_some, gu_n (show i < 7 by omega) (by decide), Option.bind_some, figIn (show n ≤ 40 by omega) (show 3 + 5 * i + 1 < n by omega) (fun j hj => by rw [wr_ne _ _ _ (by omega)]; exact ht j hj) d1.1, Option.bind_some, figIn (show n ≤ 40 by omega) (show 3 + 5 * i + 2 < n by omega) (fun j hj => by rw [wr_ne _ _ _ (by omega)]; exact ht j hj) d2.1, Option.bind_some, ten_n, gu_n (show i < 6 by omega) (by decide), Option.bind_some, figIn (show n ≤ 40 by omega) (show 3 + 5 * i + 3 < n by omega) (fun j hj => by rw [wr_ne _ _ _ (by omega), wr_ne _ _ _ (by omega)]; exact ht j hj) d3.1, Option.bind_some, gu_n (show i < 7 by omega) (by decide), Option.bind_some, gr_n (show i < 7 by omega) (by decide), Option.bind_some]
    obtain ⟨w3, hw⟩ : ∃ w3, w3 = wr (wr (wr w 2 i (nI (tH ch i))) 16 i (nI (tS ch i))) 3 i (nI (tK ch i)) := ⟨_, rfl⟩
    have k2 : w3.1 2 i = nI (tH ch i) := by rw [hw, wr_ne _ _ _ (by omega), wr_ne _ _ _ (by omega), wr_same]
    have k3 : w3.1 3 i = nI (tK ch i) := by rw [hw, wr_same]
    have k16 : w3.1 16 i = nI (tS ch i) := by rw [hw, wr_ne _ _ _ (by omega), wr_same]
    have kf : ∀ d, d ≠ 2 → d ≠ 3 → d ≠ 16 → w3.1 d = w.1 d := fun d a b c => by rw [hw, wr_ne _ _ _ b, wr_ne _ _ _ c, wr_ne _ _ _ a]
    have ko : ∀ j, j ≠ i → w3.1 2 j = w.1 2 j ∧ w3.1 3 j = w.1 3 j ∧ w3.1 16 j = w.1 16 j := fun j hj => by
      rw [hw]
      refine ⟨?_, ?_, ?_⟩
      · rw [wr_ne _ _ _ (by omega), wr_ne _ _ _ (by omega), wr_off _ _ _ hj]
      · rw [wr_off _ _ _ hj, wr_ne _ _ _ (by omega), wr_ne _ _ _ (by omega)]
      · rw [wr_ne _ _ _ (by omega), wr_off _ _ _ hj, wr_ne _ _ _ (by omega)]
    have kz : w3.2 = w.2 := by rw [hw]; rfl
    have e3 : wr (wr (wr w 2 i (nI (ch (3 + 5 * i) - 48))) 16 i (nI (10 * (ch (3 + 5 * i + 1) - 48) + (ch (3 + 5 * i + 2) - 48)))) 3 i (nI (ch (3 + 5 * i + 3) - 48)) = w3 := hw.symm
    rw [e3, k2, kf 0 (by omega) (by omega) (by omega), h2, kf 13 (by omega) (by omega) (by omega), hA, bit_1 (by omega), nO, nI_1]
    have key : ∀ w4 : St, (∀ d, d ≠ 13 → w4.1 d = w3.1 d) → w4.2 = w3.2 → (∀ j, j ≠ 1 → w4.1 13 j = w3.1 13 j) → w4.1 13 1 = nI (am mk (tH ch) (i + 1)) → ∃ w', fx_island_42 fu (nI (i + 1)) w4 = fx_island_42 1 (nI K) w' ∧ (∀ d, d ≠ 2 → d ≠ 3 → d ≠ 13 → d ≠ 16 → w'.1 d = w.1 d) ∧ w'.2 = w.2 ∧ (∀ j, j ≠ 1 → w'.1 13 j = w.1 13 j) ∧ w'.1 13 1 = nI (am mk (tH ch) K) ∧ (∀ j, j < i ∨ K ≤ j → w'.1 2 j = w.1 2 j ∧ w'.1 3 j = w.1 3 j ∧ w'.1 16 j = w.1 16 j) ∧ ∀ j, i ≤ j → j < K → w'.1 2 j = nI (tH ch j) ∧ w'.1 3 j = nI (tK ch j) ∧ w'.1 16 j = nI (tS ch j) := by
      intro w4 q1 q2 q3 q4
      obtain ⟨w', l1, l2, l3, l4, l5, l6, l7⟩ := ih fu (i + 1) w4 (by omega) (by omega) (fun j hj => by rw [q1 1 (by omega), kf 1 (by omega) (by omega) (by omega)]; exact ht j hj) (by rw [q1 0 (by omega), kf 0 (by omega) (by omega) (by omega)]; exact h3) (by rw [q1 0 (by omega), kf 0 (by omega) (by omega) (by omega)]; exact h2) q4
      refine ⟨w', l1, fun d a b c e => by rw [l2 d a b c e, q1 d c, kf d a b e], l3.trans (q2.trans kz), fun j a => by rw [l4 j a, q3 j a, kf 13 (by omega) (by omega) (by omega)], l5, fun j hj => ?_, fun j a b => ?_⟩
      · obtain ⟨y1, y2, y3⟩ := l6 j (by omega)
        obtain ⟨z1, z2, z3⟩ := ko j (by omega)
        exact ⟨by rw [y1, q1 2 (by omega), z1], by rw [y2, q1 3 (by omega), z2], by rw [y3, q1 16 (by omega), z3]⟩
      · by_cases hji : j = i
        · subst hji
          obtain ⟨y1, y2, y3⟩ := l6 j (by omega)
          exact ⟨by rw [y1, q1 2 (by omega), k2], by rw [y2, q1 3 (by omega), k3], by rw [y3, q1 16 (by omega), k16]⟩
        · exact l7 j (by omega) b
    have hh : tH ch i < 100 := by unfold tH; have := d0.2; simp only [Nat.zero_mod, if_true, Nat.add_zero] at this; omega
    by_cases hm : tH ch i = mk
    · rw [if_pos (by rw [hm]), Option.bind_some]
      refine key _ (fun d a => wr_ne _ _ _ a) rfl (fun j a => wr_off _ _ _ a) ?_
      rw [wr_same, am, if_pos hm]
    · rw [if_neg (fun z => hm ((nI_eq (by omega) (by omega)).mp z)), Option.bind_some]
      refine key w3 (fun d a => rfl) rfl (fun j a => rfl) ?_
      rw [kf 13 (by omega) (by omega) (by omega), hA, am, if_neg hm]
