/-! fractions in lowest terms -/
theorem gm_n {a b : Nat} (ha : a < 2 ^ 31) (h0 : 0 < b) (hb : b < 2 ^ 31) : gm (nI a) (nI b) = some (nI (a % b)) := by
  unfold gm
  rw [if_neg (nI_ne0 h0 hb), rem_n ha h0 hb]
theorem half_lt {b r k : Nat} (h0 : 0 < r) (hr : r < b) (hb : b < 2 ^ (k + 1)) : b % r < 2 ^ k := by
  have h1 := Nat.mod_lt b h0
  have h2 := Nat.div_add_mod b r
  have h3 : 1 ≤ b / r := Nat.div_pos (by omega) h0
  have h4 : r * 1 ≤ r * (b / r) := Nat.mul_le_mul_left r h3
  rw [Nat.pow_succ] at hb
  omega
theorem common_x : ∀ (k fu a b i : Nat), b < 2 ^ k → i + 2 * k < 50 → 2 * k < fu → a < 2 ^ 31 → b < 2 ^ 31 → fx_common_7 fu (nI a) (nI b) (nI i) = some (nI (Nat.gcd b a)) := by
  intro k
  induction k with
  | zero =>
    intro fu a b i h1 h2 h3 h4 h5
    obtain ⟨fu, rfl⟩ : ∃ f, fu = f + 1 := ⟨fu - 1, by omega⟩
    obtain rfl : b = 0 := by omega
    rw [fx_common_7, if_neg (show ¬ (50 : Int32) ≤ nI i from nI_ge (b := 50) (by omega) (by decide)), if_pos (show nI 0 = 0 from rfl), Nat.gcd_zero_left]
  | succ k ih =>
    intro fu a b i h1 h2 h3 h4 h5
    obtain ⟨fu, rfl⟩ : ∃ f, fu = f + 1 := ⟨fu - 1, by omega⟩
    rw [fx_common_7, if_neg (show ¬ (50 : Int32) ≤ nI i from nI_ge (b := 50) (by omega) (by decide))]
    rcases Nat.eq_zero_or_pos b with h0 | h0
    · subst h0
      rw [if_pos (show nI 0 = 0 from rfl), Nat.gcd_zero_left]
    rw [if_neg (nI_ne0 h0 h5), gm_n h4 h0 h5, Option.bind_some, nI_1, Nat.gcd_rec b a]
    have hr := Nat.mod_lt a h0
    generalize a % b = r at hr
    obtain ⟨fu, rfl⟩ : ∃ f, fu = f + 1 := ⟨fu - 1, by omega⟩
    rw [fx_common_7, if_neg (show ¬ (50 : Int32) ≤ nI (i + 1) from nI_ge (b := 50) (by omega) (by decide))]
    rcases Nat.eq_zero_or_pos r with h6 | h6
    · subst h6
      rw [if_pos (show nI 0 = 0 from rfl), Nat.gcd_zero_left]
    rw [if_neg (nI_ne0 h6 (by omega)), gm_n h5 h6 (by omega), Option.bind_some, nI_1, Nat.gcd_rec r b]
    have h7 := half_lt h6 hr h1
    exact ih fu r (b % r) (i + 1 + 1) h7 (by omega) (by omega) (by omega) (Nat.lt_of_le_of_lt (Nat.mod_le _ _) h5)
theorem common_m : ∀ (k fu a b : Nat), b < 2 ^ k → 2 * k < fu → a < 2 ^ 31 → b < 2 ^ 31 → fm_common_13 fu (nI a) (nI b) = some (nI (Nat.gcd b a)) := by
  intro k
  induction k with
  | zero =>
    intro fu a b h1 h3 h4 h5
    obtain ⟨fu, rfl⟩ : ∃ f, fu = f + 1 := ⟨fu - 1, by omega⟩
    obtain rfl : b = 0 := by omega
    rw [fm_common_13, if_pos (show nI 0 = 0 from rfl), Nat.gcd_zero_left]
  | succ k ih =>
    intro fu a b h1 h3 h4 h5
    obtain ⟨fu, rfl⟩ : ∃ f, fu = f + 1 := ⟨fu - 1, by omega⟩
    rw [fm_common_13]
    rcases Nat.eq_zero_or_pos b with h0 | h0
    · subst h0
      rw [if_pos (show nI 0 = 0 from rfl), Nat.gcd_zero_left]
    rw [if_neg (nI_ne0 h0 h5), gm_n h4 h0 h5, Option.bind_some, Nat.gcd_rec b a]
    have hr := Nat.mod_lt a h0
    generalize a % b = r at hr
    obtain ⟨fu, rfl⟩ : ∃ f, fu = f + 1 := ⟨fu - 1, by omega⟩
    rw [fm_common_13]
    rcases Nat.eq_zero_or_pos r with h6 | h6
    · subst h6
      rw [if_pos (show nI 0 = 0 from rfl), Nat.gcd_zero_left]
    rw [if_neg (nI_ne0 h6 (by omega)), gm_n h5 h6 (by omega), Option.bind_some, Nat.gcd_rec r b]
    have h7 := half_lt h6 hr h1
    exact ih fu r (b % r) h7 (by omega) (by omega) (Nat.lt_of_le_of_lt (Nat.mod_le _ _) h5)
/-- above or below -/
def FR (a b : Nat) (c : Int32) : Int32 := if c = 0 then nI (b / Nat.gcd b a) else nI (a / Nat.gcd b a)
theorem gcd_31 {a b : Nat} (h0 : 0 < b) (hb : b < 4096) : 0 < Nat.gcd b a ∧ Nat.gcd b a < 2 ^ 31 := by
  have h1 := Nat.gcd_pos_of_pos_left a h0
  have h2 := Nat.le_of_dvd h0 (Nat.gcd_dvd_left b a)
  exact ⟨h1, by omega⟩
theorem fraction_x {a b : Nat} (c : Int32) (ha : a < 2 ^ 31) (h0 : 0 < b) (hb : b < 4096) : fx_fraction (nI a) (nI b) c = some (FR a b c) := by
  obtain ⟨g0, g1⟩ := gcd_31 (a := a) h0 hb
  unfold fx_fraction fx_common FR
  rw [show (0 : Int32) = nI 0 from rfl, common_x 12 4096 a b 0 hb (by omega) (by omega) ha (by omega), Option.bind_some, if_pos (nI_lt g0 g1), gd_n (by omega) g0 g1, gd_n ha g0 g1]
  by_cases hc : c = nI 0
  · rw [if_pos hc, if_pos hc]; rfl
  · rw [if_neg hc, if_neg hc]; rfl
theorem common_mm {a b : Nat} (ha : a < 2 ^ 31) (hb : b < 4096) : fm_common (nI a) (nI b) = some (nI (Nat.gcd b a)) := by
  unfold fm_common fm_common_10
  rw [if_pos (nI_pos' ha), common_m 12 4096 a b hb (by omega) ha (by omega)]
/-! those who may of a row -/
def pw (B : Nat) (kd sn : Nat → Nat) : TK → List Nat → TK
  | a, [] => a
  | a, d :: ds => pw B kd sn (if (B.testBit (d - 1) && my kd a (d - 1)) = true then wk kd sn a (d - 1) else a) ds
theorem BX.trial {B : Nat} {kd sn : Nat → Nat} {a : TK} {x : St} (h : BX B kd sn a x) : ∃ x', ft_become 11 14 x = some x' ∧ FT 11 x x' ∧ TX B kd sn a x' := by
  obtain ⟨h1, h2, h3, h4, h5, h6⟩ := h
  obtain ⟨x1, e1, f1, g0, g1, g2, g3⟩ := become_t (t := 11) (s := 14) (w := x) (by omega) (by omega) (by omega)
  exact ⟨x1, e1, f1, h1.to g0 g1 g2 g3, h2, fun j hj => by rw [f1.1 3 (by omega) (by omega)]; exact h3 j hj, h4, h5.fr (f1.1 16 (by omega) (by omega)) (by rw [f1.1 0 (by omega) (by omega)]), h6⟩
theorem BM.trial {B : Nat} {kd sn : Nat → Nat} {a : TK} {m : St} (h : BM B kd sn a m) : ∃ m', fm_layTrial (nI B) m = some m' ∧ TF m m' ∧ TM B kd sn a m' := by
  obtain ⟨h1, h2, h3, h4, h5, h6⟩ := h
  obtain ⟨m1, e1, f1, f2, f3, g1, g2, g3, g4, g5⟩ := layTrial_m (B := B) h1
  refine ⟨m1, e1, ⟨f1, f3, f2⟩, g2, h2, fun j hj => by rw [f1 2 (by omega)]; exact h3 j hj, h4, fun j hj hb => ?_, h6, g1⟩
  obtain ⟨q1, q2, q3⟩ := h5 j hj hb
  rcases Nat.lt_or_ge j 6 with r | r
  · rw [(g3 j r).1, (g3 j r).2]
    exact ⟨q1, q2 r⟩
  · obtain rfl : j = 6 := by omega
    exact ⟨q1, g4.trans (q3 rfl).1, g5.trans (q3 rfl).2⟩
theorem and_l {a b : Bool} (h : (a && b) = true) : a = true := by cases a <;> simp at h ⊢
theorem playW16 {B n R : Nat} {kd sn : Nat → Nat} (hn : n < 1000) (hR : R < 2 ^ 31) (hg : gdp n R) : ∀ (r fu i : Nat) (a : TK) (x : St), i + r = n → r < fu → TX B kd sn a x → x.1 13 1 = nI B → ∃ x', fx_playWhoMay_16 fu (nI n) (nI R) (nI i) x = some x' ∧ FT 11 x x' ∧ TX B kd sn (pw B kd sn a (dl n R i r)) x' := by
  intro r
  induction r with
  | zero =>
    intro fu i a x h1 hf hX h13
    obtain ⟨fu, rfl⟩ : ∃ f, fu = f + 1 := ⟨fu - 1, by omega⟩
    obtain rfl : i = n := by omega
    rw [fx_playWhoMay_16, if_pos (nI_le (Nat.le_refl _) (by omega))]
    exact ⟨x, rfl, FT.rf, hX⟩
  | succ r ih =>
    intro fu i a x h1 hf hX h13
    obtain ⟨fu, rfl⟩ : ∃ f, fu = f + 1 := ⟨fu - 1, by omega⟩
    obtain ⟨g1, g2⟩ := gdp_at n R (n - 1 - i) hg (by omega)
    rw [fx_playWhoMay_16, if_neg (nI_ge (show i < n by omega) (by omega)), personIn (show i < n by omega) hn hR, Option.bind_some, dl, pw]
    generalize R / 10 ^ (n - 1 - i) % 10 = d at g1 g2
    unfold fx_playWhoMay_59
    rw [show nI d - (1 : Int32) = nI (d - 1) from by rw [show (1 : Int32) = nI 1 from rfl, nS g1], h13, hX.may (show d - 1 < 7 by omega), Option.bind_some, nI_1]
    cases hc : (B.testBit (d - 1) && my kd a (d - 1)) with
    | false =>
      rw [if_pos (show b2 false = 0 from rfl), if_neg (show ¬ false = true by decide)]
      exact ih fu (i + 1) a x (by omega) (by omega) hX h13
    | true =>
      rw [if_neg (show ¬ b2 true = 0 by decide), if_pos rfl]
      obtain ⟨x1, u1, u2, u3⟩ := hX.say (show d - 1 < 7 by omega) (and_l hc)
      rw [u1, Option.bind_some]
      obtain ⟨x', k1, k2, k3⟩ := ih fu (i + 1) _ x1 (by omega) (by omega) u3 (by rw [u2.1 13 (by omega) (by omega)]; exact h13)
      exact ⟨x', k1, u2.tr k2, k3⟩
theorem chance119 {B n R q : Nat} {kd sn : Nat → Nat} (k70 : Int32 → Int32 → Int32 → Int32 → Int32 → Int32 → St → Option (Int32 × St)) (x6 c : Int32) (cnt tot : Nat) (hn : n < 5) (hR : R < 2 ^ 31) (hg : gdp n R) (hq : q < 10) : ∀ (r fu i : Nat) (a : TK) (m : St), i + r = n → r < fu → TM B kd sn a m → ∃ m', fm_chance_119 k70 fu (nI n) (nI q) c (nI cnt) (nI tot) x6 (nI R) (nI r - 1) m = k70 (nI n) (nI q) c (nI (if (pw B kd sn a (dl n R i r)).1 = q then cnt + 1 else cnt)) (nI (tot + 1)) (x6 + 1) m' ∧ FL 27 m m' := by
  intro r
  induction r with
  | zero =>
    intro fu i a m h1 hf hM
    obtain ⟨fu, rfl⟩ : ∃ f, fu = f + 1 := ⟨fu - 1, by omega⟩
    refine ⟨m, ?_, FL.rf⟩
    show fm_chance_119 k70 (fu + 1) (nI n) (nI q) c (nI cnt) (nI tot) x6 (nI R) (nI 0 - 1) m = k70 (nI n) (nI q) c (nI (if a.1 = q then cnt + 1 else cnt)) (nI (tot + 1)) (x6 + 1) m
    rw [fm_chance_119, if_pos (show nI 0 - 1 < (0 : Int32) by decide), show (49 : Int32) = nI 49 from rfl, gr_n (show 49 < 54 by omega) (by decide), show m.1 3 49 = _ from hM.1.1, Option.bind_some]
    unfold fm_chance_183 fm_chance_186
    have ha := hM.2.1.1
    by_cases hz : a.1 = q
    · rw [if_pos hz, if_pos (by rw [hz]), lb, nI_1, nI_1]
    · rw [if_neg hz, if_neg (fun r => hz ((nI_eq (by omega) (by omega)).mp r)), lb, nI_1, show nI cnt + (0 : Int32) = nI cnt from nI_add cnt 0]
  | succ r ih =>
    intro fu i a m h1 hf hM
    obtain ⟨fu, rfl⟩ : ∃ f, fu = f + 1 := ⟨fu - 1, by omega⟩
    obtain ⟨g1, g2⟩ := gdp_at n R (n - 1 - i) hg (by omega)
    have hr : n - 1 - i = r := by omega
    rw [hr] at g1 g2
    rw [fm_chance_119, show nI (r + 1) - (1 : Int32) = nI r from nI_pred r, if_neg (nI_pos (by omega)), tenTo_n r (by omega), Option.bind_some, gd_n hR (Nat.pow_pos (by decide)) (ten_lt (by omega)), Option.bind_some, lb, show ir (nI (R / 10 ^ r)) (10 : Int32) = nI (R / 10 ^ r % 10) from rem_n (d := 10) (Nat.lt_of_le_of_lt (Nat.div_le_self _ _) hR) (by decide) (by decide), dl, hr, pw]
    generalize R / 10 ^ r % 10 = d at g1 g2
    unfold fm_chance_156
    rw [show nI d - (1 : Int32) = nI (d - 1) from by rw [show (1 : Int32) = nI 1 from rfl, nS g1], hM.may (show d - 1 < 7 by omega), Option.bind_some, show nI r + (-1 : Int32) = nI r - 1 from (Int32.sub_eq_add_neg _ _).symm]
    cases hc : (B.testBit (d - 1) && my kd a (d - 1)) with
    | false =>
      rw [if_pos (show b2 false = 0 from rfl), if_neg (show ¬ false = true by decide)]
      exact ih fu (i + 1) a m (by omega) (by omega) hM
    | true =>
      rw [if_neg (show ¬ b2 true = 0 by decide), if_pos rfl]
      obtain ⟨m1, u1, u2, u3⟩ := hM.say (show d - 1 < 7 by omega) (and_l hc)
      rw [u1, Option.bind_some]
      obtain ⟨m', k1, k2⟩ := ih fu (i + 1) _ m1 (by omega) (by omega) u3
      exact ⟨m', k1, u2.tr k2⟩
