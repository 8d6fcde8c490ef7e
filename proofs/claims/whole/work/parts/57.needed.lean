theorem sb_0 : ∀ i, i < 64 → ∀ b, b < 64 → sb i b = 0 → i ≤ b := by decide +kernel
section NEED
variable {n P mk : Nat} {ch hm kd : Nat → Nat} {D : DT} {x m : St}
theorem ned_tail (hM : MD 3 0 D m) (h0 : m.1 0 0 = nI P) (hP : P ≤ 6) (hD : D.1 < 64) (T : Int32) (best : Nat) : ∀ (r fu i : Nat) (m1 : St), i + r = 2 ^ P → r < fu → D.1 < i → TF m m1 → fm_needed_21 fu T (nI best) (nI i) m1 = some (nI best, m1) := by
  have hp := p_le hP
  intro r
  induction r with
  | zero =>
    intro fu i m1 h1 hf hi hF
    obtain ⟨fu, rfl⟩ : ∃ f, fu = f + 1 := ⟨fu - 1, by omega⟩
    rw [fm_needed_21, hF.1 0 (by omega), h0, bit_1 (by omega), if_pos (nI_le (by omega) (by omega))]
  | succ r ih =>
    intro fu i m1 h1 hf hi hF
    obtain ⟨fu, rfl⟩ : ∃ f, fu = f + 1 := ⟨fu - 1, by omega⟩
    have hs : ¬ sb i D.1 = 0 := fun q => by
      have := sb_0 i (by omega) D.1 hD q
      omega
    have hl : sb i D.1 ≤ i := sb_le _ _
    rw [fm_needed_21, hF.1 0 (by omega), h0, bit_1 (by omega), if_neg (nI_ge (show i < 2 ^ P by omega) (by omega)), show (0 : Int32) = nI 0 from rfl, gr_n (show 0 < 54 by omega) (by decide), hF.2.1 0 (by omega), show m.1 3 0 = _ from hM.1, Option.bind_some, n_sb (by omega), if_neg (fun (q : nI (sb i D.1) = nI 0) => hs ((nI_eq (by omega) (by omega)).mp q))]
    unfold fm_needed_59 fm_needed_60 fm_needed_81 fm_needed_82
    rw [if_pos rfl, nI_1]
    exact ih fu (i + 1) m1 (by omega) (by omega) (by omega) hF
theorem ned (hB : RB n P mk ch hm kd x m) (hX : XD 13 D x) (hM : MD 3 0 D m) (hI : DI P D) {T : Nat} (hT : T < 1024) : ∀ (r fu i best : Nat) (x1 m1 : St), i + r = 2 ^ P → r < fu → best < 64 → FQ x x1 → TF m m1 → ∃ v x' m', fx_needed_20 fu (nI D.1) (nI T) (nI best) (nI i) x1 = some (v, x') ∧ fm_needed_21 fu (nI T) (nI best) (nI i) m1 = some (v, m') ∧ FQ x x' ∧ TF m m' := by
  have hP6 := hB.2.1.1
  have hp := p_le hP6
  have hD : D.1 < 64 := Nat.lt_of_lt_of_le hI.1 hp
  have h0 : m.1 0 0 = nI P := hB.2.1.2.2.2.1
  intro r
  induction r with
  | zero =>
    intro fu i best x1 m1 h1 hf hb hF hG
    obtain ⟨fu, rfl⟩ : ∃ f, fu = f + 1 := ⟨fu - 1, by omega⟩
    have := hI.1
    refine ⟨nI best, x1, m1, ?_, ned_tail hM h0 hP6 hD (nI T) best 0 (fu + 1) i m1 h1 hf (by omega) hG, hF, hG⟩
    rw [fx_needed_20, if_pos (nI_lt (show D.1 < i by omega) (by omega))]
  | succ r ih =>
    intro fu i best x1 m1 h1 hf hb hF hG
    obtain ⟨fu, rfl⟩ : ∃ f, fu = f + 1 := ⟨fu - 1, by omega⟩
    rcases Nat.lt_or_ge D.1 i with hi | hi
    · refine ⟨nI best, x1, m1, ?_, ned_tail hM h0 hP6 hD (nI T) best (r + 1) (fu + 1) i m1 h1 hf hi hG, hF, hG⟩
      rw [fx_needed_20, if_pos (nI_lt hi (by omega))]
    have hl : sb i D.1 ≤ i := sb_le _ _
    have skip := fun (b : Nat) (hb : b < 64) (x2 m2 : St) (f2 : FQ x x2) (g2 : TF m m2) => ih fu (i + 1) b x2 m2 (by omega) (by omega) hb f2 g2
    rw [fx_needed_20, if_neg (nI_nlt hi (by omega)), fm_needed_21, hG.1 0 (by omega), h0, bit_1 (by omega), if_neg (nI_ge (show i < 2 ^ P by omega) (by omega)), show (0 : Int32) = nI 0 from rfl, gr_n (show 0 < 54 by omega) (by decide), hG.2.1 0 (by omega), show m.1 3 0 = _ from hM.1, Option.bind_some, n_sb (by omega)]
    unfold fx_needed_61 fm_needed_59 fm_needed_60 fm_needed_81 fm_needed_82
    rw [nI_1, if_pos (show (0 : Int32) = 0 from rfl)]
    by_cases hs : nI (sb i D.1) = nI 0
    · rw [if_pos hs, if_pos hs, pc_x i (by omega), pc_x best (by omega), pc_m i (by omega), pc_m best (by omega), Option.bind_some, Option.bind_some, Option.bind_some, Option.bind_some]
      by_cases hc : nI (pc best) ≤ nI (pc i)
      · rw [if_pos hc, if_pos hc]
        exact skip best hb x1 m1 hF hG
      · rw [if_neg hc, if_neg hc, if_neg (show ¬ (1 : Int32) = 0 by decide)]
        obtain ⟨x2, k1, k2⟩ := senses_x (N := 3) (by omega) ((BX.of hB hX hI (show i < 2 ^ P by omega)).fq hF)
        obtain ⟨m2, l1, l2⟩ := canBy_m (N := 3) (by omega) ((BM.of hB hM hI (show i < 2 ^ P by omega)).tf hG)
        rw [show (3 : Int32) = nI 3 from rfl, k1, l1, Option.bind_some, Option.bind_some]
        by_cases he : nI (SB i kd D.2.2.1 D.2.2.2 3) = nI T
        · rw [if_pos he, if_pos he]
          exact skip i (by omega) x2 m2 (hF.tr k2) (hG.tr l2)
        · rw [if_neg he, if_neg he]
          exact skip best hb x2 m2 (hF.tr k2) (hG.tr l2)
    · rw [if_neg hs, if_neg hs]
      exact skip best hb x1 m1 hF hG
end NEED
theorem ca_needed {x m : St} (h : RR x m) : CA (fx_needed x) (fm_needed m) := by
  have hR := h
  obtain ⟨n, P, mk, ch, hm, kd, D, hB, hX, hM, hI⟩ := h.rb
  have hp := p_le hB.2.1.1
  have h64 : D.1 < 64 := Nat.lt_of_lt_of_le hI.1 hp
  obtain ⟨x1, k1, k2⟩ := senses_x (N := 3) (by omega) (BX.of hB hX hI hI.1)
  obtain ⟨m1, l1, l2⟩ := canBy_m (N := 3) (by omega) (BM.of hB hM hI hI.1)
  obtain ⟨v, x', m', e1, e2, f1, f2⟩ := ned hB hX hM hI (SB_lt (N := 3) (fun n R => (BX.of hB hX hI hI.1).lt)) (2 ^ P) 4096 0 D.1 x1 m1 (by omega) (by omega) h64 k2 l2
  unfold fx_needed fm_needed
  rw [lb, hX.1, show (3 : Int32) = nI 3 from rfl, k1, show (0 : Int32) = nI 0 from rfl, gr_n (show 0 < 54 by omega) (by decide), show m.1 3 0 = _ from hM.1, Option.bind_some, Option.bind_some, l1, Option.bind_some, lb, lb, gr_n (show 0 < 54 by omega) (by decide), l2.2.1 0 (by omega), show m.1 3 0 = _ from hM.1, Option.bind_some]
  exact ⟨v, x', m', e1, e2, hR.scr f1.sw f2.sn (f1.2.trans (hB.2.2.2.2.trans f2.2.2.symm))⟩
def namS (S : Nat → Nat) (i : Nat) : Nat → Nat := fun j => if j = 6 then i else S j
theorem or_64 : ∀ b, b < 64 → b ||| 64 < 128 := by decide +kernel
theorem nam_P {B P j : Nat} (h : B < 2 ^ P) (h6 : ¬ j = 6) (hb : (B ||| 64).testBit j = true) : j < P := by
  rw [Nat.testBit_or, Bool.or_eq_true] at hb
  rcases hb with hb | hb
  · exact bit_P h hb
  · rw [show (64 : Nat) = 2 ^ 6 from rfl, Nat.testBit_two_pow, decide_eq_true_eq] at hb
    exact absurd hb.symm h6
section NAM
variable {n P mk : Nat} {ch hm kd : Nat → Nat} {D : DT} {x m x1 m1 : St}
theorem BX.nam (hB : RB n P mk ch hm kd x m) (hX : XD 13 D x) (hI : DI P D) (f : SW x x1) {i : Nat} (hi : i < 40) : BX (D.1 ||| 64) kd (namS D.2.2.1 i) D.2.2.2 (wr x1 0 15 (nI i)) := by
  have h64 : D.1 < 64 := Nat.lt_of_lt_of_le hI.1 (p_le hB.2.1.1)
  have e : ∀ d, d ≠ 0 → 13 ≤ d → (wr x1 0 15 (nI i)).1 d = x.1 d := fun d a b => by rw [wr_ne _ _ _ a, f.1 d a (by omega)]
  refine ⟨hX.2.2.2.fr (e 14 (by omega) (by omega)) (e 15 (by omega) (by omega)), hI.2.2, fun j hj => ?_, hB.2.1.k6, fun j hj hb => ?_, or_64 _ h64⟩
  · rw [wr_ne _ _ _ (by omega), f.1 3 (by omega) (by omega)]
    exact hB.2.1.kx j hj
  · by_cases h6 : j = 6
    · subst h6
      rw [if_pos rfl, wr_same]
      exact ⟨hi, rfl⟩
    · rw [if_neg h6, e 16 (by omega) (by omega)]
      unfold namS
      rw [if_neg h6]
      have h40 := hI.2.1 j (nam_P hI.1 h6 hb)
      exact ⟨h40, hX.2.2.1 j (by omega) h40⟩
theorem BM.nam (hB : RB n P mk ch hm kd x m) (hM : MD 3 0 D m) (hI : DI P D) (f : SN m m1) {i : Nat} (hi : i < 40) : BM (D.1 ||| 64) kd (namS D.2.2.1 i) D.2.2.2 (wr (wr m1 0 15 (nI (i / 10))) 0 16 (nI (i % 10))) := by
  have h64 : D.1 < 64 := Nat.lt_of_lt_of_le hI.1 (p_le hB.2.1.1)
  have e : ∀ j, j < 27 → (wr (wr m1 0 15 (nI (i / 10))) 0 16 (nI (i % 10))).1 3 j = m.1 3 j := fun j a => by rw [wr_ne _ _ _ (by omega), wr_ne _ _ _ (by omega), f.2.1 j a]
  refine ⟨hM.2.2.2.to (fun j _ a => e _ (by omega)), hI.2.2, fun j hj => ?_, hB.2.1.k6, fun j hj hb => ?_, or_64 _ h64⟩
  · rw [wr_ne _ _ _ (by omega), wr_ne _ _ _ (by omega), f.1 2 (by omega)]
    exact hB.2.1.km j hj
  · unfold namS
    by_cases h6 : j = 6
    · subst h6
      rw [if_pos rfl]
      exact ⟨hi, fun q => absurd q (by omega), fun _ => ⟨by rw [wr_off _ _ _ (by omega), wr_same], by rw [wr_same]⟩⟩
    · rw [if_neg h6, e _ (by omega), e _ (by omega)]
      have h40 := hI.2.1 j (nam_P hI.1 h6 hb)
      exact ⟨h40, fun _ => hM.2.2.1 j (by omega) h40, fun q => absurd q h6⟩
theorem nam_l (hB : RB n P mk ch hm kd x m) (hX : XD 13 D x) (hM : MD 3 0 D m) (hI : DI P D) {N : Nat} (hN : N < 5) (c : Int32) : ∀ (r fu i b v : Nat) (x1 m1 : St), i + r = 40 → r < fu → SW x x1 → SN m m1 → x1.2 = m1.2 → ∃ u x' m', fx_naming_21 fu (nI N) c (nI b) (nI v) (nI i) x1 = some (u, x') ∧ fm_naming_23 fu (nI N) c (nI b) (nI v) (nI i) m1 = some (u, m') ∧ SW x x' ∧ SN m m' ∧ x'.2 = m'.2 := by
  have h64 : D.1 < 64 := Nat.lt_of_lt_of_le hI.1 (p_le hB.2.1.1)
  intro r
  induction r with
  | zero =>
    intro fu i b v x1 m1 h1 hf hF hG hz
    obtain ⟨fu, rfl⟩ : ∃ f, fu = f + 1 := ⟨fu - 1, by omega⟩
    obtain rfl : i = 40 := by omega
    rw [fx_naming_21, fm_naming_23, if_pos (show (40 : Int32) ≤ nI 40 by decide), if_pos (show (40 : Int32) ≤ nI 40 by decide)]
    by_cases hc : c = 0
    · rw [if_pos hc, if_pos hc]; exact ⟨_, _, _, rfl, rfl, hF, hG, hz⟩
    · rw [if_neg hc, if_neg hc]; exact ⟨_, _, _, rfl, rfl, hF, hG, hz⟩
  | succ r ih =>
    intro fu i b v x1 m1 h1 hf hF hG hz
    obtain ⟨fu, rfl⟩ : ∃ f, fu = f + 1 := ⟨fu - 1, by omega⟩
    have hi : i < 40 := by omega
    have bx := BX.nam hB hX hI hF hi
    have bm := BM.nam hB hM hI hG hi
    obtain ⟨x2, k1, k2⟩ := senses_x (N := N) hN bx
    obtain ⟨m2, l1, l2⟩ := canBy_m (N := N) hN bm
    have hn : ¬ (40 : Int32) ≤ nI i := nI_ge (b := 40) hi (by decide)
    rw [fx_naming_21, fm_naming_23, if_neg hn, if_neg hn, show nI i / (10 : Int32) = nI (i / 10) from pk_div (d := 10) (by omega) (by decide) (by decide), show ir (nI i) (10 : Int32) = nI (i % 10) from rem_n (d := 10) (by omega) (by decide) (by decide), wr_ne _ _ _ (show 13 ≠ 0 by omega), hF.1 13 (by omega) (by omega), hX.1, show (64 : Int32) = nI 64 from rfl, nO, k1, show (0 : Int32) = nI 0 from rfl, gr_n (show 0 < 54 by omega) (by decide), wr_ne _ _ _ (show 3 ≠ 0 by omega), wr_ne _ _ _ (show 3 ≠ 0 by omega), hG.2.1 0 (by omega), show m.1 3 0 = _ from hM.1, Option.bind_some, Option.bind_some, nO, l1, Option.bind_some]
    have hl := SB_lt (N := N) (fun n R => bx.lt (n := n) (R := R))
    rw [pc_x _ hl, pc_m _ hl, Option.bind_some, Option.bind_some]
    unfold fx_naming_68 fm_naming_80 fm_naming_95
    rw [nI_1]
    have hF2 : SW x x2 := hF.tr (SW.tr (x' := wr x1 0 15 (nI i)) ⟨fun d a _ => wr_ne _ _ _ a, fun j a => wr_off _ _ _ a⟩ k2.sw)
    have hG2 : SN m m2 := hG.tr (SN.tr (x' := wr (wr m1 0 15 (nI (i / 10))) 0 16 (nI (i % 10))) ⟨fun d a => by rw [wr_ne _ _ _ (by omega), wr_ne _ _ _ (by omega)], fun j a => by rw [wr_ne _ _ _ (by omega), wr_ne _ _ _ (by omega)], fun j a => by rw [wr_off _ _ _ (by omega), wr_off _ _ _ (by omega)]⟩ l2.sn)
    have hz2 : x2.2 = m2.2 := k2.2.trans (hz.trans l2.2.2.symm)
    by_cases hq : nI (pc (SB (D.1 ||| 64) kd (namS D.2.2.1 i) D.2.2.2 N)) ≤ nI v
    · rw [if_pos hq, if_pos hq, if_pos hq]
      exact ih fu (i + 1) b v x2 m2 (by omega) (by omega) hF2 hG2 hz2
    · rw [if_neg hq, if_neg hq, if_neg hq]
      exact ih fu (i + 1) i _ x2 m2 (by omega) (by omega) hF2 hG2 hz2
end NAM
theorem ca_naming {x m : St} (h : RR x m) (b c : Int32) : CA (fx_naming b c x) (fm_naming b c m) := by
  have hR := h
  obtain ⟨n, P, mk, ch, hm, kd, D, hB, hX, hM, hI⟩ := h.rb
  unfold fx_naming fm_naming
  rcases in_ab (lo := 1) (hi := 3) b 1 3 1 3 rfl rfl rfl rfl (by decide) (by decide) with ⟨h1, h2⟩ | ⟨N, v1, v2, rfl, h2⟩
  · rw [h2]
    by_cases q : b < 1
    · rw [if_pos q]; exact ⟨_, _, _, rfl, rfl, hR⟩
    · rw [if_neg q, if_neg (fun z => h1 ⟨by rw [le_lt]; exact q, z⟩)]; exact ⟨_, _, _, rfl, rfl, hR⟩
  obtain ⟨u, x', m', e1, e2, f1, f2, f3⟩ := nam_l hB hX hM hI (N := N) (by omega) c 40 4096 0 0 0 x m (by omega) (by omega) SW.rf SN.rf hB.2.2.2.2
  rw [h2, Option.bind_some, if_neg (show ¬ nI N < (1 : Int32) from nI_nlt (b := 1) v1 (by omega)), if_pos (show nI N ≤ (3 : Int32) from nI_le (b := 3) v2 (by decide)), if_neg (show ¬ (1 : Int32) = 0 by decide), show (0 : Int32) = nI 0 from rfl]
  exact ⟨u, x', m', e1, e2, hR.scr f1 f2 f3⟩
