/-! a row spoken: its digits, how far it goes, what the talk comes to -/
def ok (B : Nat) (kd : Nat → Nat) (a : TK) (d : Nat) : Bool := decide (1 ≤ d) && decide (d ≤ 7) && (B.testBit (d - 1) && my kd a (d - 1))
def pl (B : Nat) (kd sn : Nat → Nat) : Nat → TK → List Nat → Option Nat × TK
  | _, a, [] => (none, a)
  | i, a, d :: ds => if ok B kd a d then pl B kd sn (i + 1) (wk kd sn a (d - 1)) ds else (some i, a)
def dl (n R : Nat) : Nat → Nat → List Nat
  | _, 0 => []
  | i, r + 1 => (R / 10 ^ (n - 1 - i) % 10) :: dl n R (i + 1) r
theorem nI_m1 (n : Nat) : nI (n + 1) + (-1 : Int32) = nI n := by
  have := nI_pred n
  rw [Int32.sub_eq_add_neg] at this
  exact this
theorem nS {a b : Nat} (h : b ≤ a) : nI a - nI b = nI (a - b) := by
  obtain ⟨c, rfl⟩ : ∃ c, a = c + b := ⟨a - b, by omega⟩
  rw [← nI_add, Nat.add_sub_cancel, Int32.add_sub_cancel]
theorem personIn7 : ∀ (k fu i R : Nat), k < fu → i + k < 2 ^ 31 → R < 2 ^ 31 → fx_personIn_7 fu (nI i) (nI R) (nI (i + k)) = some (nI (R / 10 ^ k % 10) - 1) := by
  intro k
  induction k with
  | zero =>
    intro fu i R h1 h2 h3
    obtain ⟨fu, rfl⟩ : ∃ f, fu = f + 1 := ⟨fu - 1, by omega⟩
    rw [Nat.add_zero i, fx_personIn_7, if_pos (nI_le (Nat.le_refl _) (by omega)), show ir (nI R) (10 : Int32) = nI (R % 10) from rem_n (d := 10) h3 (by decide) (by decide), Nat.pow_zero, Nat.div_one]
  | succ k ih =>
    intro fu i R h1 h2 h3
    obtain ⟨fu, rfl⟩ : ∃ f, fu = f + 1 := ⟨fu - 1, by omega⟩
    rw [fx_personIn_7, if_neg (nI_ge (show i < i + (k + 1) by omega) (by omega)), lb, show nI R / (10 : Int32) = nI (R / 10) from pk_div (d := 10) h3 (by decide) (by decide), ← Nat.add_assoc, nI_m1, ih fu i (R / 10) (by omega) (by omega) (by omega), Nat.div_div_eq_div_mul, Nat.pow_succ, Nat.mul_comm 10]
theorem personIn {n i R : Nat} (hi : i < n) (hn : n < 1000) (hR : R < 2 ^ 31) : fx_personIn (nI n) (nI R) (nI i) = some (nI (R / 10 ^ (n - 1 - i) % 10) - 1) := by
  obtain ⟨k, rfl⟩ : ∃ k, n = i + k + 1 := ⟨n - 1 - i, by omega⟩
  unfold fx_personIn
  rw [show nI (i + k + 1) - (1 : Int32) = nI (i + k) from nI_pred (i + k), lb, personIn7 k 4096 i R (by omega) (by omega) hR]
  rw [show i + k + 1 - 1 - i = k by omega]
theorem play17 {B n R : Nat} {kd sn : Nat → Nat} (hn : n < 1000) (hR : R < 2 ^ 31) : ∀ (r fu i : Nat) (a : TK) (x : St), i + r = n → r < fu → TX B kd sn a x → ∃ x', fx_play_17 fu (nI n) (nI R) (nI B) (nI i) x = some (cd (pl B kd sn i a (dl n R i r)).1, x') ∧ FT 11 x x' ∧ TX B kd sn (pl B kd sn i a (dl n R i r)).2 x' := by
  intro r
  induction r with
  | zero =>
    intro fu i a x h1 hf hX
    obtain ⟨fu, rfl⟩ : ∃ f, fu = f + 1 := ⟨fu - 1, by omega⟩
    obtain rfl : i = n := by omega
    rw [fx_play_17, if_pos (nI_le (Nat.le_refl _) (by omega))]
    exact ⟨x, rfl, FT.rf, hX⟩
  | succ r ih =>
    intro fu i a x h1 hf hX
    obtain ⟨fu, rfl⟩ : ∃ f, fu = f + 1 := ⟨fu - 1, by omega⟩
    rw [fx_play_17, if_neg (nI_ge (show i < n by omega) (by omega)), personIn (show i < n by omega) hn hR, Option.bind_some, dl]
    have hd : R / 10 ^ (n - 1 - i) % 10 < 10 := Nat.mod_lt _ (by omega)
    generalize R / 10 ^ (n - 1 - i) % 10 = d at hd
    rcases Nat.eq_zero_or_pos d with h0 | h0
    · subst h0
      rw [may_out (Or.inl (by decide)), Option.bind_some, if_pos rfl]
      have ho : ok B kd a 0 = false := rfl
      exact ⟨x, by rw [pl, ho]; rfl, FT.rf, by rw [pl, ho]; exact hX⟩
    obtain ⟨p, rfl⟩ : ∃ p, d = p + 1 := ⟨d - 1, by omega⟩
    rw [show nI (p + 1) - (1 : Int32) = nI p from nI_pred p]
    rcases Nat.lt_or_ge p 7 with h7 | h7
    · rw [hX.may h7, Option.bind_some]
      have ho : ok B kd a (p + 1) = (B.testBit p && my kd a p) := by
        unfold ok
        rw [decide_eq_true (show 1 ≤ p + 1 by omega), decide_eq_true (show p + 1 ≤ 7 by omega)]
        rfl
      cases hc : (B.testBit p && my kd a p) with
      | false =>
        rw [if_pos (show b2 false = 0 from rfl)]
        exact ⟨x, by rw [pl, ho, hc]; rfl, FT.rf, by rw [pl, ho, hc]; exact hX⟩
      | true =>
        rw [if_neg (show ¬ b2 true = 0 by decide)]
        have hbt : B.testBit p = true := by
          cases h : B.testBit p with
          | true => rfl
          | false => rw [h] at hc; cases hc
        obtain ⟨x1, u1, u2, u3⟩ := hX.say h7 hbt
        rw [u1, Option.bind_some, nI_1]
        obtain ⟨x', k1, k2, k3⟩ := ih fu (i + 1) _ x1 (by omega) (by omega) u3
        exact ⟨x', by rw [pl, ho, hc]; exact k1, u2.tr k2, by rw [pl, ho, hc]; exact k3⟩
    · rw [may_out (Or.inr (nI_le h7 (by omega))), Option.bind_some, if_pos rfl]
      have ho : ok B kd a (p + 1) = false := by
        unfold ok
        rw [decide_eq_false (show ¬ p + 1 ≤ 7 by omega), Bool.and_false, Bool.false_and]
      exact ⟨x, by rw [pl, ho]; rfl, FT.rf, by rw [pl, ho]; exact hX⟩
theorem tenTo_n : ∀ k, k < 6 → fm_tenTo (nI k) = some (nI (10 ^ k)) := by decide +kernel
theorem ten_lt {k : Nat} (h : k < 6) : 10 ^ k < 2 ^ 31 := Nat.lt_of_lt_of_le (Nat.pow_lt_pow_right (a := 10) (by decide) h) (by decide)
theorem gd_n {a d : Nat} (ha : a < 2 ^ 31) (h0 : 0 < d) (hd : d < 2 ^ 31) : gd (nI a) (nI d) = some (nI (a / d)) := by
  unfold gd
  rw [if_neg (nI_ne0 h0 hd), pk_div ha h0 hd]
theorem in06 (p : Nat) (hp : p < 100) : fm_in (nI p).toInt64 0 6 = some (b2 (decide (p < 7))) := by
  by_cases h : p < 7
  · rw [in_t (a := (nI p).toInt64) (b := 0) (c := 6) (lo := 0) (hi := 6) (x := nI p) rfl rfl rfl (nI_pos' (by omega)) (nI_le (b := 6) (by omega) (by decide)), decide_eq_true h]
    rfl
  · rw [in_f (a := (nI p).toInt64) (b := 0) (c := 6) (lo := 0) (hi := 6) (x := nI p) rfl rfl rfl (Or.inr (nI_lt (a := 6) (by omega) (by omega))), decide_eq_false h]
    rfl
theorem sayRow8 {B n R : Nat} {kd sn : Nat → Nat} (hn : n < 6) (hR : R < 2 ^ 31) : ∀ (r fu i : Nat) (a : TK) (m : St), i + r = n → r < fu → TM B kd sn a m → ∃ m', fm_sayRow_8 fu (nI n) (nI R) (nI i) m = some (cd (pl B kd sn i a (dl n R i r)).1, m') ∧ FL 27 m m' ∧ TM B kd sn (pl B kd sn i a (dl n R i r)).2 m' := by
  intro r
  induction r with
  | zero =>
    intro fu i a m h1 hf hM
    obtain ⟨fu, rfl⟩ : ∃ f, fu = f + 1 := ⟨fu - 1, by omega⟩
    obtain rfl : i = n := by omega
    rw [fm_sayRow_8, if_pos (nI_le (Nat.le_refl _) (by omega))]
    exact ⟨m, rfl, FL.rf, hM⟩
  | succ r ih =>
    intro fu i a m h1 hf hM
    obtain ⟨fu, rfl⟩ : ∃ f, fu = f + 1 := ⟨fu - 1, by omega⟩
    have hk : nI n - (1 : Int32) - nI i = nI (n - 1 - i) := by
      rw [show (1 : Int32) = nI 1 from rfl, nS (by omega), nS (by omega)]
    rw [fm_sayRow_8, if_neg (nI_ge (show i < n by omega) (by omega)), hk, tenTo_n _ (by omega), Option.bind_some, gd_n hR (Nat.pow_pos (by decide)) (ten_lt (by omega)), Option.bind_some, lb, show ir (nI (R / 10 ^ (n - 1 - i))) (10 : Int32) = nI (R / 10 ^ (n - 1 - i) % 10) from rem_n (d := 10) (Nat.lt_of_le_of_lt (Nat.div_le_self _ _) hR) (by decide) (by decide), dl]
    have hd : R / 10 ^ (n - 1 - i) % 10 < 10 := Nat.mod_lt _ (by omega)
    generalize R / 10 ^ (n - 1 - i) % 10 = d at hd
    rcases Nat.eq_zero_or_pos d with h0 | h0
    · subst h0
      rw [in_f (a := (nI 0 - 1).toInt64) (b := 0) (c := 6) (lo := 0) (hi := 6) (x := nI 0 - 1) rfl rfl rfl (Or.inl (by decide)), Option.bind_some, if_pos rfl]
      have ho : ok B kd a 0 = false := rfl
      exact ⟨m, by rw [pl, ho]; rfl, FL.rf, by rw [pl, ho]; exact hM⟩
    obtain ⟨p, rfl⟩ : ∃ p, d = p + 1 := ⟨d - 1, by omega⟩
    rw [show nI (p + 1) - (1 : Int32) = nI p from nI_pred p, in06 p (by omega), Option.bind_some]
    rcases Nat.lt_or_ge p 7 with h7 | h7
    · rw [decide_eq_true h7, if_neg (show ¬ b2 true = 0 by decide), hM.may h7, Option.bind_some]
      have ho : ok B kd a (p + 1) = (B.testBit p && my kd a p) := by
        unfold ok
        rw [decide_eq_true (show 1 ≤ p + 1 by omega), decide_eq_true (show p + 1 ≤ 7 by omega)]
        rfl
      cases hc : (B.testBit p && my kd a p) with
      | false =>
        rw [if_pos (show b2 false = 0 from rfl)]
        exact ⟨m, by rw [pl, ho, hc]; rfl, FL.rf, by rw [pl, ho, hc]; exact hM⟩
      | true =>
        rw [if_neg (show ¬ b2 true = 0 by decide)]
        have hbt : B.testBit p = true := by
          cases h : B.testBit p with
          | true => rfl
          | false => rw [h] at hc; cases hc
        obtain ⟨m1, u1, u2, u3⟩ := hM.say h7 hbt
        rw [u1, Option.bind_some, nI_1]
        obtain ⟨m', k1, k2, k3⟩ := ih fu (i + 1) _ m1 (by omega) (by omega) u3
        exact ⟨m', by rw [pl, ho, hc]; exact k1, u2.tr k2, by rw [pl, ho, hc]; exact k3⟩
    · rw [decide_eq_false (show ¬ p < 7 by omega), if_pos (show b2 false = 0 from rfl)]
      have ho : ok B kd a (p + 1) = false := by
        unfold ok
        rw [decide_eq_false (show ¬ p + 1 ≤ 7 by omega), Bool.and_false, Bool.false_and]
      exact ⟨m, by rw [pl, ho]; rfl, FL.rf, by rw [pl, ho]; exact hM⟩
/-! what lies ready before a row is tried -/
def BX (B : Nat) (kd sn : Nat → Nat) (a : TK) (x : St) : Prop := XT 14 a x ∧ TI a ∧ KX kd x ∧ kd 6 = 0 ∧ SX B sn x ∧ B < 128
def BM (B : Nat) (kd sn : Nat → Nat) (a : TK) (m : St) : Prop := MT 3 0 a m ∧ TI a ∧ KM kd m ∧ kd 6 = 0 ∧ (∀ j, j < 7 → B.testBit j = true → sn j < 40 ∧ (j < 6 → m.1 3 (0 + 1 + j) = nI (sn j / 10) ∧ m.1 3 (0 + 8 + j) = nI (sn j % 10)) ∧ (j = 6 → m.1 0 15 = nI (sn j / 10) ∧ m.1 0 16 = nI (sn j % 10))) ∧ B < 128
/-- what the row R of n does -/
def PL (B : Nat) (kd sn : Nat → Nat) (a : TK) (n R : Nat) : Option Nat × TK := pl B kd sn 0 a (dl n R 0 n)
section BXM
variable {B n R : Nat} {kd sn : Nat → Nat} {a : TK} {x m x' m' : St}
theorem BX.fr (h : BX B kd sn a x) (f : ∀ d, (d = 14 ∨ d = 15 ∨ d = 3 ∨ d = 16) → x'.1 d = x.1 d) (g : x'.1 0 15 = x.1 0 15) : BX B kd sn a x' := by
  obtain ⟨h1, h2, h3, h4, h5, h6⟩ := h
  refine ⟨h1.fr (f 14 (by omega)) (f 15 (by omega)), h2, ?_, h4, h5.fr (f 16 (by omega)) g, h6⟩
  intro j hj
  rw [f 3 (by omega)]
  exact h3 j hj
theorem BM.fr (h : BM B kd sn a m) (f : m'.1 2 = m.1 2) (g : ∀ j, j < 27 → m'.1 3 j = m.1 3 j) (g1 : m'.1 0 15 = m.1 0 15) (g2 : m'.1 0 16 = m.1 0 16) : BM B kd sn a m' := by
  obtain ⟨h1, h2, h3, h4, h5, h6⟩ := h
  refine ⟨h1.to (fun j _ _ => g _ (by omega)), h2, ?_, h4, fun j hj hb => ?_, h6⟩
  · intro j hj
    rw [f]
    exact h3 j hj
  · obtain ⟨q1, q2, q3⟩ := h5 j hj hb
    exact ⟨q1, fun r => by rw [g _ (by omega), g _ (by omega)]; exact q2 r, fun r => by rw [g1, g2]; exact q3 r⟩
theorem play_x (h : BX B kd sn a x) (hn : n < 1000) (hR : R < 2 ^ 31) : ∃ x', fx_play (nI n) (nI R) (nI B) x = some (cd (PL B kd sn a n R).1, x') ∧ FT 11 x x' ∧ x'.1 11 0 = nI (PL B kd sn a n R).2.1 ∧ (PL B kd sn a n R).2.1 < 10 := by
  obtain ⟨h1, h2, h3, h4, h5, h6⟩ := h
  obtain ⟨x1, e1, f1, g0, g1, g2, g3⟩ := become_t (t := 11) (s := 14) (w := x) (by omega) (by omega) (by omega)
  have hT : TX B kd sn a x1 := ⟨h1.to g0 g1 g2 g3, h2, fun j hj => by rw [f1.1 3 (by omega) (by omega)]; exact h3 j hj, h4, h5.fr (f1.1 16 (by omega) (by omega)) (by rw [f1.1 0 (by omega) (by omega)]), h6⟩
  obtain ⟨x', k1, k2, k3⟩ := play17 hn hR n 4096 0 a x1 (by omega) (by omega) hT
  refine ⟨x', ?_, f1.tr k2, k3.1.1, k3.2.1.1⟩
  unfold fx_play
  rw [e1, Option.bind_some]
  exact k1
theorem play_m (h : BM B kd sn a m) (hn : n < 6) (hR : R < 2 ^ 31) : ∃ m', fm_sayRow (nI B) (nI n) (nI R) m = some (cd (PL B kd sn a n R).1, m') ∧ TF m m' ∧ m'.1 3 49 = nI (PL B kd sn a n R).2.1 := by
  obtain ⟨h1, h2, h3, h4, h5, h6⟩ := h
  obtain ⟨m1, e1, f1, f2, f3, g1, g2, g3, g4, g5⟩ := layTrial_m (B := B) h1
  have hT : TM B kd sn a m1 := by
    refine ⟨g2, h2, fun j hj => by rw [f1 2 (by omega)]; exact h3 j hj, h4, fun j hj hb => ?_, h6, g1⟩
    obtain ⟨q1, q2, q3⟩ := h5 j hj hb
    rcases Nat.lt_or_ge j 6 with r | r
    · rw [(g3 j r).1, (g3 j r).2]
      exact ⟨q1, q2 r⟩
    · obtain rfl : j = 6 := by omega
      exact ⟨q1, g4.trans (q3 rfl).1, g5.trans (q3 rfl).2⟩
  obtain ⟨m', k1, k2, k3⟩ := sayRow8 hn hR n 4096 0 a m1 (by omega) (by omega) hT
  refine ⟨m', ?_, TF.tr ⟨f1, f3, f2⟩ k2.tf, k3.1.1⟩
  unfold fm_sayRow
  rw [e1, Option.bind_some]
  exact k1
end BXM
theorem BX.of {n P mk : Nat} {ch hm kd : Nat → Nat} {D : DT} {x m : St} (hB : RB n P mk ch hm kd x m) (hX : XD 13 D x) (hI : DI P D) {B : Nat} (h64 : B < 2 ^ P) : BX B kd D.2.2.1 D.2.2.2 x := ⟨hX.2.2.2, hI.2.2, hB.2.1.kx, hB.2.1.k6, (SX.of6 hB.2.1.1 hI hX).sub (sub63 h64), by have := p_le hB.2.1.1; omega⟩
theorem BM.of {n P mk : Nat} {ch hm kd : Nat → Nat} {D : DT} {x m : St} (hB : RB n P mk ch hm kd x m) (hM : MD 3 0 D m) (hI : DI P D) {B : Nat} (h64 : B < 2 ^ P) : BM B kd D.2.2.1 D.2.2.2 m := ⟨hM.2.2.2, hI.2.2, hB.2.1.km, hB.2.1.k6, fun j hj hb => by
  have hP6 := hB.2.1.1
  have h6 := bit_P h64 hb
  have h40 := hI.2.1 j h6
  exact ⟨h40, fun _ => hM.2.2.1 j (by omega) h40, fun q => absurd q (by omega)⟩, by have := p_le hB.2.1.1; omega⟩
