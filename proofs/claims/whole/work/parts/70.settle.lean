/-! settling the island -/
theorem FF_all {n : Nat} {ch : Nat → Nat} : ∀ (r i : Nat), i + r = n → n < 100 → FF n ch i = -9 → ∀ j, i ≤ j → j < n → fitB ch j = true := by
  intro r
  induction r with
  | zero => intro i h1 h2 h3 j h4 h5; omega
  | succ r ih =>
    intro i h1 h2 h3 j h4 h5
    rw [FF_s (show i < n by omega)] at h3
    cases hb : fitB ch i with
    | false => rw [hb] at h3; exact absurd h3 (n9 (by omega))
    | true =>
      rw [hb, if_pos rfl] at h3
      rcases Nat.lt_or_ge i j with q | q
      · exact ih (i + 1) (by omega) h2 h3 j q h5
      · obtain rfl : j = i := by omega
        exact hb
theorem dig_ok {n k t K : Nat} {ch : Nat → Nat} (hK : K ≤ 6) (hn : n = 2 + 5 * K) (hk : k < K) (ht : t < 4) (h : FF n ch 0 = -9) : 48 ≤ ch (3 + 5 * k + t) ∧ ch (3 + 5 * k + t) ≤ 48 + (if t % 2 = 0 then 9 else 3) := by
  have h1 := FF_all n 0 (by omega) (by omega) h (2 + 5 * k + 1 + t) (by omega) (by omega)
  rw [fit_f (show k < 6 by omega) ht] at h1
  unfold gd9 at h1
  rw [Bool.and_eq_true, decide_eq_true_eq, decide_eq_true_eq] at h1
  rw [show 3 + 5 * k + t = 2 + 5 * k + 1 + t by omega]
  exact h1
theorem figIn {n j : Nat} {ch : Nat → Nat} {w : St} (hn : n ≤ 40) (hj : j < n) (h1 : ∀ j, j < n → w.1 1 j = nI (ch j)) (hc : 48 ≤ ch j) : fx_figureIn (nI j) w = some (nI (ch j - 48), w) := by
  unfold fx_figureIn
  rw [if_neg (nI_pos (by omega)), if_neg (show ¬ (40 : Int32) ≤ nI j from nI_ge (b := 40) (by omega) (by decide)), gr_n (show j < 40 by omega) (by decide), Option.bind_some, h1 j hj, show nI (ch j) - (48 : Int32) = nI (ch j - 48) from by rw [show (48 : Int32) = nI 48 from rfl, nS hc]]
/-- who lives at the market of the first i -/
def am (mk : Nat) (hm : Nat → Nat) : Nat → Nat
  | 0 => 0
  | i + 1 => if hm i = mk then am mk hm i ||| 2 ^ i else am mk hm i
theorem am_lt {mk : Nat} {hm : Nat → Nat} : ∀ i, am mk hm i < 2 ^ i := by
  intro i
  induction i with
  | zero => exact Nat.one_pos
  | succ i ih =>
    have h1 : 2 ^ i < 2 ^ (i + 1) := Nat.pow_lt_pow_right (by decide) (Nat.lt_succ_self i)
    rw [am]
    split
    · exact Nat.or_lt_two_pow (Nat.lt_trans ih h1) h1
    · exact Nat.lt_trans ih h1
