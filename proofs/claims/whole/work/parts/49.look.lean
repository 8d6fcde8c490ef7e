theorem hasb {b p : Nat} (hb : b < 2 ^ 31) (hp : p < 31) : ((nI b >>> (nI p &&& 31)) &&& (1 : Int32)) = b2 (b.testBit p) := by
  rw [has_e hb hp, Nat.testBit_eq_decide_div_mod_eq]
  rcases Nat.mod_two_eq_zero_or_one (b / 2 ^ p) with h | h <;> rw [h] <;> rfl
theorem b2_has (b : Bool) : (if b2 b = 0 then (0 : Int32) else 1) = b2 b := by cases b <;> rfl
theorem ca_person {x m : St} (h : RR x m) (a b : Int32) : CA (fx_person a b x) (fm_person a b m) := by
  have hR := h
  obtain ⟨n, P, mk, ch, hm, kd, D, hB, hX, hM, hI⟩ := h.rb
  have hP6 := hB.2.1.1
  have hlt : D.1 < 64 := Nat.lt_of_lt_of_le hI.1 (p_le hP6)
  unfold fx_person fm_person
  rcases pers hB.2.1 a with ⟨p, hp, rfl, e1, e2⟩ | ⟨e1, e2⟩
  · obtain ⟨y1, y2⟩ := may_xm hB hX hM hI hp
    rw [e1, e2]
    simp only [Option.bind_some]
    rw [if_neg (show ¬ (1 : Int32) = 0 by decide), if_neg (show ¬ (1 : Int32) = 0 by decide)]
    obtain ⟨-, -, -, -, -, -, h5, h6, -⟩ := hB.2.1
    by_cases c0 : b = 0
    · rw [if_pos c0, if_pos c0, gr_n (show p < 7 by omega) (by decide), gr_n (show p < 6 by omega) (by decide), (h5 p (by omega)).2.1, (h5 p (by omega)).2.2]
      exact ⟨_, _, _, rfl, rfl, hR⟩
    rw [if_neg c0, if_neg c0]
    have s4 := hI.2.1 p hp
    have xs : x.1 16 p = nI (D.2.2.1 p) := hX.2.2.1 p (by omega) s4
    by_cases c1 : b = 1
    · rw [if_pos c1, if_pos c1, gr_n (show p < 6 by omega) (by decide), show (1 : Int32) + nI p = nI (1 + p) from nI_add 1 p, gr_n (show 1 + p < 54 by omega) (by decide), xs, show m.1 3 (1 + p) = nI (D.2.2.1 p / 10) from (hM.2.2.1 p (by omega) s4).1]
      simp only [Option.bind_some]
      rw [show nI (D.2.2.1 p) / (10 : Int32) = nI (D.2.2.1 p / 10) from pk_div (d := 10) (by omega) (by decide) (by decide)]
      exact ⟨_, _, _, rfl, rfl, hR⟩
    rw [if_neg c1, if_neg c1]
    by_cases c2 : b = 2
    · rw [if_pos c2, if_pos c2, gr_n (show p < 6 by omega) (by decide), show (8 : Int32) + nI p = nI (8 + p) from nI_add 8 p, gr_n (show 8 + p < 54 by omega) (by decide), xs, show m.1 3 (8 + p) = nI (D.2.2.1 p % 10) from (hM.2.2.1 p (by omega) s4).2]
      simp only [Option.bind_some]
      rw [show ir (nI (D.2.2.1 p)) (10 : Int32) = nI (D.2.2.1 p % 10) from rem_n (d := 10) (by omega) (by decide) (by decide)]
      exact ⟨_, _, _, rfl, rfl, hR⟩
    rw [if_neg c2, if_neg c2]
    by_cases c3 : b = 3
    · rw [if_pos c3, if_pos c3, gr_n (show p < 7 by omega) (by decide), gr_n (show p < 7 by omega) (by decide), (h6 p (by omega)).2.1, (h6 p (by omega)).2.2]
      exact ⟨_, _, _, rfl, rfl, hR⟩
    rw [if_neg c3, if_neg c3]
    by_cases c4 : b = 4
    · rw [if_pos c4, if_pos c4, hX.1, has_x (by omega) (by omega), show (0 : Int32) = nI 0 from rfl, gr_n (show 0 < 54 by omega) (by decide), hM.1]
      simp only [Option.bind_some]
      rw [hasb (by omega) (by omega)]
      cases D.1.testBit p <;> exact ⟨_, _, _, rfl, rfl, hR⟩
    rw [if_neg c4, if_neg c4]
    by_cases c5 : b = 5
    · rw [if_pos c5, if_pos c5, y1, y2]
      simp only [Option.bind_some]
      cases (D.1.testBit p && my kd D.2.2.2 p) <;> exact ⟨_, _, _, rfl, rfl, hR⟩
    rw [if_neg c5, if_neg c5]
    by_cases c6 : b = 6
    · rw [if_pos c6, if_pos c6, gr_n (show p < 7 by omega) (by decide), show (15 : Int32) + nI p = nI (15 + p) from nI_add 15 p, gr_n (show 15 + p < 54 by omega) (by decide), show x.1 15 p = _ from hX.2.2.2.2.2.2 p (by omega), show m.1 3 (15 + p) = D.2.2.2.2.2.2 p by rw [← hM.2.2.2.2.2.2 p (by omega)]]
      exact ⟨_, _, _, rfl, rfl, hR⟩
    rw [if_neg c6, if_neg c6]
    exact ⟨_, _, _, rfl, rfl, hR⟩
  · rw [e1, e2]
    exact ⟨_, _, _, rfl, rfl, hR⟩
def wm (f : Nat → Bool) : Nat → Nat → Nat → Nat
  | 0, _, s => s
  | r + 1, i, s => wm f r (i + 1) (if f i then s ||| 2 ^ i else s)
theorem whoMay_x {P mk : Nat} {hm kd : Nat → Nat} {x m : St} (hP : RP P mk hm kd x m) (f : Nat → Bool) (hf : ∀ p, p < P → fx_maySpeak 14 (x.1 13 1) (nI p) x = some (b2 (f p), x)) : ∀ (r fu i s : Nat), i + r = P → r < fu → fx_whoMay_4 fu (nI s) (nI i) x = some (nI (wm f r i s), x) := by
  have h3 : x.1 0 3 = nI P := hP.2.2.1
  have hP6 := hP.1
  intro r
  induction r with
  | zero =>
    intro fu i s h1 h2
    obtain ⟨fu, rfl⟩ : ∃ f, fu = f + 1 := ⟨fu - 1, by omega⟩
    obtain rfl : i = P := by omega
    rw [fx_whoMay_4, h3, if_pos (nI_le (Nat.le_refl _) (by omega))]
    rfl
  | succ r ih =>
    intro fu i s h1 h2
    obtain ⟨fu, rfl⟩ : ∃ f, fu = f + 1 := ⟨fu - 1, by omega⟩
    rw [fx_whoMay_4, h3, if_neg (nI_ge (show i < P by omega) (by omega)), hf i (by omega)]
    simp only [Option.bind_some, lb, fx_whoMay_40]
    rw [bit_1 (by omega), nO, nI_1, ih fu (i + 1) s (by omega) (by omega), ih fu (i + 1) (s ||| 2 ^ i) (by omega) (by omega)]
    show _ = some (nI (wm f r (i + 1) (if f i = true then s ||| 2 ^ i else s)), x)
    cases f i <;> rfl
theorem count_m {P mk : Nat} {hm kd : Nat → Nat} {x m : St} (a : Int32) (hP : RP P mk hm kd x m) (f : Nat → Bool) (hf : ∀ p, p < P → fm_may 0 (nI p) m = some (b2 (f p), m)) : ∀ (r fu i s : Nat), i + r = P → r < fu → fm_count_4 fu a (nI s) (nI i) m = fm_count_4 1 a (nI (wm f r i s)) (nI P) m := by
  have h3 : m.1 0 0 = nI P := hP.2.2.2.1
  have hP6 := hP.1
  intro r
  induction r with
  | zero =>
    intro fu i s h1 h2
    obtain ⟨fu, rfl⟩ : ∃ f, fu = f + 1 := ⟨fu - 1, by omega⟩
    obtain rfl : i = P := by omega
    rw [fm_count_4, fm_count_4, h3, if_pos (nI_le (Nat.le_refl _) (by omega)), if_pos (nI_le (Nat.le_refl _) (by omega))]
    rfl
  | succ r ih =>
    intro fu i s h1 h2
    obtain ⟨fu, rfl⟩ : ∃ f, fu = f + 1 := ⟨fu - 1, by omega⟩
    rw [fm_count_4, h3, if_neg (nI_ge (show i < P by omega) (by omega)), hf i (by omega)]
    simp only [Option.bind_some, lb, fm_count_29]
    rw [bit_1 (by omega), nO, nI_1, show nI s ||| (0 : Int32) = nI s from by rw [show (0 : Int32) = nI 0 from rfl, nO, Nat.or_zero], ih fu (i + 1) s (by omega) (by omega), ih fu (i + 1) (s ||| 2 ^ i) (by omega) (by omega)]
    show _ = fm_count_4 1 a (nI (wm f r (i + 1) (if f i = true then s ||| 2 ^ i else s))) (nI P) m
    cases f i <;> rfl
theorem ca_count {x m : St} (h : RR x m) (a : Int32) : CA (fx_count a x) (fm_count a m) := by
  have hR := h
  obtain ⟨n, P, mk, ch, hm, kd, D, hB, hX, hM, hI⟩ := h.rb
  have hP6 := hB.2.1.1
  obtain ⟨⟨hn, x1, m9, hc⟩, hP, hK, ⟨ac, f, nx, ha, hf, hnx, x9, m12, x8, m13, hE⟩, hz⟩ := hB
  have hB : RB n P mk ch hm kd x m := ⟨⟨hn, x1, m9, hc⟩, hP, hK, ⟨ac, f, nx, ha, hf, hnx, x9, m12, x8, m13, hE⟩, hz⟩
  have e1 := whoMay_x hP (fun p => D.1.testBit p && my kd D.2.2.2 p) (fun p hp => (may_xm hB hX hM hI hp).1) P 4096 0 0 (by omega) (by omega)
  have e2 := count_m a hP (fun p => D.1.testBit p && my kd D.2.2.2 p) (fun p hp => (may_xm hB hX hM hI hp).2) P 4096 0 0 (by omega) (by omega)
  obtain ⟨-, -, h3, h4, h5, h6, -⟩ := hP
  unfold fx_count fm_count fx_whoMay
  rw [show (0 : Int32) = nI 0 from rfl, e1, e2, fm_count_4, h4, if_pos (nI_le (Nat.le_refl _) (by omega))]
  rw [show (22 : Int32) = nI 22 from rfl, show (26 : Int32) = nI 26 from rfl, show (23 : Int32) = nI 23 from rfl, show (0 : Int32) = nI 0 from rfl, gr_n (show 22 < 54 by omega) (by decide), gr_n (show 26 < 54 by omega) (by decide), gr_n (show 0 < 54 by omega) (by decide), gr_n (show 23 < 54 by omega) (by decide), show m.1 3 22 = _ from hM.2.2.2.1, show m.1 3 26 = _ from hM.2.1, show m.1 3 0 = _ from hM.1, show m.1 3 23 = _ from hM.2.2.2.2.1, x1, m9, h3, h5, h6, show x.1 14 0 = _ from hX.2.2.2.1, hX.2.1, hX.1, show x.1 14 1 = _ from hX.2.2.2.2.1, x9, m12]
  simp only [Option.bind_some]
  repeat' split
  all_goals exact ⟨_, _, _, rfl, rfl, hR⟩
