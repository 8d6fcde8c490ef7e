/-! who speaks in a row -/
def gdp : Nat → Nat → Prop
  | 0, R => R = 0
  | n + 1, R => (1 ≤ R % 10 ∧ R % 10 ≤ 7) ∧ gdp n (R / 10)
def wi : Nat → Nat → Nat → Nat
  | 0, s, _ => s
  | n + 1, s, R => wi n (s ||| 2 ^ (R % 10 - 1)) (R / 10)
theorem gdp_tv {l : List Nat} (hl : ∀ j, l.getD j 0 < 7) : ∀ n v, gdp n (tv l n v) := by
  intro n
  induction n with
  | zero => intro v; rfl
  | succ n ih =>
    intro v
    have h := hl (v % l.length)
    have e1 : tv l (n + 1) v % 10 = l.getD (v % l.length) 0 + 1 := by rw [tv]; omega
    have e2 : tv l (n + 1) v / 10 = tv l n (v / l.length) := by rw [tv]; omega
    refine ⟨⟨by omega, by omega⟩, ?_⟩
    rw [e2]
    exact ih _
theorem gdp_at : ∀ n R k, gdp n R → k < n → 1 ≤ R / 10 ^ k % 10 ∧ R / 10 ^ k % 10 ≤ 7 := by
  intro n
  induction n with
  | zero => intro R k h hk; omega
  | succ n ih =>
    intro R k h hk
    cases k with
    | zero => rw [Nat.pow_zero, Nat.div_one]; exact h.1
    | succ k =>
      have := ih (R / 10) k h.2 (by omega)
      rw [Nat.div_div_eq_div_mul, Nat.mul_comm 10, ← Nat.pow_succ] at this
      exact this
theorem speakers4 {n R : Nat} (hn : n < 1000) (hR : R < 2 ^ 31) (hg : gdp n R) : ∀ (r fu i s : Nat), i + r = n → r < fu → fx_speakersIn_4 fu (nI n) (nI R) (nI s) (nI i) = some (nI ((dl n R i r).foldl (fun s d => s ||| 2 ^ (d - 1)) s)) := by
  intro r
  induction r with
  | zero =>
    intro fu i s h1 hf
    obtain ⟨fu, rfl⟩ : ∃ f, fu = f + 1 := ⟨fu - 1, by omega⟩
    obtain rfl : i = n := by omega
    rw [fx_speakersIn_4, if_pos (nI_le (Nat.le_refl _) (by omega))]
    rfl
  | succ r ih =>
    intro fu i s h1 hf
    obtain ⟨fu, rfl⟩ : ∃ f, fu = f + 1 := ⟨fu - 1, by omega⟩
    obtain ⟨g1, g2⟩ := gdp_at n R (n - 1 - i) hg (by omega)
    rw [fx_speakersIn_4, if_neg (nI_ge (show i < n by omega) (by omega)), personIn (show i < n by omega) hn hR, Option.bind_some, dl, List.foldl_cons]
    rw [show nI (R / 10 ^ (n - 1 - i) % 10) - (1 : Int32) = nI (R / 10 ^ (n - 1 - i) % 10 - 1) from by rw [show (1 : Int32) = nI 1 from rfl, nS g1], bit_1 (by omega), lb, nO, nI_1]
    exact ih fu (i + 1) _ (by omega) (by omega)
theorem sp_wi {n R : Nat} (hn : n < 5) : (dl n R 0 n).foldl (fun s d => s ||| 2 ^ (d - 1)) 0 = wi n 0 R := by
  rcases (show n = 0 ∨ n = 1 ∨ n = 2 ∨ n = 3 ∨ n = 4 by omega) with rfl | rfl | rfl | rfl | rfl <;> simp [dl, wi, Nat.div_div_eq_div_mul] <;> ac_rfl
theorem speakers_x {n R : Nat} (hn : n < 5) (hR : R < 2 ^ 31) (hg : gdp n R) : fx_speakersIn (nI n) (nI R) = some (nI (wi n 0 R)) := by
  unfold fx_speakersIn
  rw [show (0 : Int32) = nI 0 from rfl, speakers4 (by omega) hR hg n 4096 0 0 (by omega) (by omega), sp_wi hn]
theorem whoIn4 : ∀ (n fu s R : Nat), n < fu → R < 2 ^ 31 → gdp n R → fm_whoIn_4 fu (nI s) (nI R) = some (nI (wi n s R)) := by
  intro n
  induction n with
  | zero =>
    intro fu s R hf hR hg
    obtain ⟨fu, rfl⟩ : ∃ f, fu = f + 1 := ⟨fu - 1, by omega⟩
    obtain rfl : R = 0 := hg
    rw [fm_whoIn_4, if_pos (show nI 0 ≤ 0 by decide)]
    rfl
  | succ n ih =>
    intro fu s R hf hR hg
    obtain ⟨fu, rfl⟩ : ∃ f, fu = f + 1 := ⟨fu - 1, by omega⟩
    obtain ⟨⟨g1, g2⟩, g3⟩ := hg
    rw [fm_whoIn_4, if_neg (nI_nle (show 0 < R by omega) hR), show ir (nI R) (10 : Int32) = nI (R % 10) from rem_n (d := 10) hR (by decide) (by decide), show nI (R % 10) - (1 : Int32) = nI (R % 10 - 1) from by rw [show (1 : Int32) = nI 1 from rfl, nS g1], bit_1 (by omega), lb, lb, nO, show nI R / (10 : Int32) = nI (R / 10) from pk_div (d := 10) hR (by decide) (by decide)]
    exact ih fu _ (R / 10) (by omega) (by omega) g3
theorem whoIn_m {n R : Nat} (hn : n < 5) (hR : R < 2 ^ 31) (hg : gdp n R) : fm_whoIn (nI R) = some (nI (wi n 0 R)) := by
  unfold fm_whoIn
  rw [show (0 : Int32) = nI 0 from rfl]
  exact whoIn4 n 4096 0 R (by omega) hR hg
theorem sb_sb {a b c : Nat} (h : a < 128) : sb (sb a b) c = sb a (b ||| c) := by
  apply Nat.eq_of_testBit_eq
  intro i
  rw [sb_bit (Nat.lt_of_le_of_lt (sb_le _ _) h), sb_bit h, sb_bit h, Nat.testBit_or]
  cases a.testBit i <;> cases b.testBit i <;> cases c.testBit i <;> rfl
/-- how often, by whom always, by whom at all -/
def stS (B : Nat) (kd sn : Nat → Nat) (a : TK) (n q : Nat) (s : Nat × Nat × Nat) (R : Nat) : Nat × Nat × Nat := if EV B kd sn a n R = some q then (s.1 + 1, s.2.1 &&& wi n 0 R, s.2.2 ||| wi n 0 R) else s
/-- what is asked of it -/
def spE (B : Nat) (c : Int32) (s : Nat × Nat × Nat) : Int32 := if c = 0 then nI s.1 else (if nI s.1 = 0 then -9 else (if c = 1 then nI s.2.1 else nI (sb B s.2.2)))
theorem spoken77 {B n q : Nat} {kd sn : Nat → Nat} {a : TK} (hn : n < 5) (hq : q < 10) (c : Int32) : ∀ (r fu i : Nat) (s : Nat × Nat × Nat) (x : St), i + r = (wl B).length ^ n → r < fu → BX B kd sn a x → WH (wl B) x → x.1 13 1 = nI B → ∃ x', fx_spoken_77 fu (nI n) (nI q) c (nI s.1) (nI s.2.1) (nI (sb B s.2.2)) (nI ((wl B).length ^ n)) (nI i) x = some (spE B c (((List.range' i r).map (tv (wl B) n)).foldl (stS B kd sn a n q) s), x') ∧ FT 11 x x' := by
  intro r
  induction r with
  | zero =>
    intro fu i s x h1 hf hX hW h13
    obtain ⟨fu, rfl⟩ : ∃ f, fu = f + 1 := ⟨fu - 1, by omega⟩
    have := len_pow hX.2.2.2.2.2 hn
    rw [fx_spoken_77, if_pos (nI_le (show (wl B).length ^ n ≤ i by omega) (by omega))]
    refine ⟨x, ?_, FT.rf⟩
    show _ = some (spE B c s, x)
    unfold spE
    repeat' split
    all_goals rfl
  | succ r ih =>
    intro fu i s x h1 hf hX hW h13
    obtain ⟨fu, rfl⟩ : ∃ f, fu = f + 1 := ⟨fu - 1, by omega⟩
    have hB := hX.2.2.2.2.2
    have := len_pow hB hn
    have hg := gdp_tv (wl_get hB) n i
    have h31 := tv_31 (wl_get hB) hn i
    rw [fx_spoken_77, if_neg (nI_ge (show i < (wl B).length ^ n by omega) (by omega)), told_x hW (wl_ok B hB).1 (by omega) (by omega) (by omega), Option.bind_some, lb, h13, List.range'_succ, List.map_cons, List.foldl_cons]
    obtain ⟨x1, k1, k2⟩ := isTold_x (n := n) (R := tv (wl B) n i) hX (by omega) h31 hq
    have h131 : x1.1 13 1 = nI B := by rw [k2.1 13 (by omega) (by omega)]; exact h13
    rw [k1, Option.bind_some, speakers_x hn h31 hg]
    unfold fx_spoken_141
    by_cases he : EV B kd sn a n (tv (wl B) n i) = some q
    · rw [if_pos he, if_neg (show ¬ (1 : Int32) = 0 by decide), Option.bind_some, lb, Option.bind_some, lb, nA, n_sb (Nat.lt_of_le_of_lt (sb_le _ _) hB), sb_sb hB, nI_1 s.1, nI_1 i, show stS B kd sn a n q s (tv (wl B) n i) = _ from if_pos he]
      obtain ⟨x', l1, l2⟩ := ih fu (i + 1) (s.1 + 1, s.2.1 &&& wi n 0 (tv (wl B) n i), s.2.2 ||| wi n 0 (tv (wl B) n i)) x1 (by omega) (by omega) (hX.ft k2) (hW.ft k2) h131
      exact ⟨x', l1, k2.tr l2⟩
    · rw [if_neg he, if_pos rfl, show stS B kd sn a n q s (tv (wl B) n i) = s from if_neg he, nI_1]
      obtain ⟨x', l1, l2⟩ := ih fu (i + 1) s x1 (by omega) (by omega) (hX.ft k2) (hW.ft k2) h131
      exact ⟨x', l1, k2.tr l2⟩
theorem spoken56 {B n q : Nat} {kd sn : Nat → Nat} {a : TK} (hn : n < 5) (c : Int32) : ∀ (r fu i : Nat) (s : Nat × Nat × Nat) (m : St), i + r = 7 ^ n → r < fu → BM B kd sn a m → m.1 3 0 = nI B → q < 10 → ∃ m', fm_spoken_56 fu (nI n) (nI q) c (nI s.1) (nI s.2.1) (nI s.2.2) (nI i) m = some (spE B c (((List.range' i r).map (tv w7 n)).foldl (stS B kd sn a n q) s), m') ∧ TF m m' := by
  have := sev_pow hn
  intro r
  induction r with
  | zero =>
    intro fu i s m h1 hf hM h3 hq
    obtain ⟨fu, rfl⟩ : ∃ f, fu = f + 1 := ⟨fu - 1, by omega⟩
    refine ⟨m, ?_, TF.rf⟩
    show _ = some (spE B c s, m)
    rw [fm_spoken_56, sevens_n n hn, Option.bind_some, if_pos (nI_le (show 7 ^ n ≤ i by omega) (by omega)), show gr (m.1 3) 54 0 = some (nI B) from by rw [show (0 : Int32) = nI 0 from rfl, gr_n (show 0 < 54 by omega) (by decide), h3], Option.bind_some, n_sb hM.2.2.2.2.2]
    unfold spE
    repeat' split
    all_goals rfl
  | succ r ih =>
    intro fu i s m h1 hf hM h3 hq
    obtain ⟨fu, rfl⟩ : ∃ f, fu = f + 1 := ⟨fu - 1, by omega⟩
    have hg := gdp_tv w7_lt n i
    have h31 := tv_31 w7_lt hn i
    rw [fm_spoken_56, sevens_n n hn, Option.bind_some, if_neg (nI_ge (show i < 7 ^ n by omega) (by omega)), rowOf_m (by omega) (by omega), Option.bind_some, show gr (m.1 3) 54 0 = some (nI B) from by rw [show (0 : Int32) = nI 0 from rfl, gr_n (show 0 < 54 by omega) (by decide), h3], Option.bind_some, List.range'_succ, List.map_cons, List.foldl_cons, whoIn_m hn h31 hg]
    obtain ⟨v, m1, k1, k2, k3⟩ := play_m2 (n := n) (R := tv w7 n i) hM (by omega) h31 hM.lt
    have h3' : m1.1 3 0 = nI B := by rw [k2.2.1 0 (by omega)]; exact h3
    rw [k1, Option.bind_some]
    unfold fm_spoken_125
    rw [nI_1 i]
    have next : ¬ EV B kd sn a n (tv w7 n i) = some q → ∃ m', fm_spoken_56 fu (nI n) (nI q) c (nI s.1) (nI s.2.1) (nI s.2.2) (nI (i + 1)) m1 = some (spE B c (((List.range' (i + 1) r).map (tv w7 n)).foldl (stS B kd sn a n q) (stS B kd sn a n q s (tv w7 n i))), m') ∧ TF m m' := by
      intro he
      rw [show stS B kd sn a n q s (tv w7 n i) = s from if_neg he]
      obtain ⟨m', l1, l2⟩ := ih fu (i + 1) s m1 (by omega) (by omega) (hM.tf k2) h3' hq
      exact ⟨m', l1, k2.tr l2⟩
    rcases k3 with ⟨e1, z, e2, e3, e4⟩ | ⟨e1, e3⟩
    · rw [e1, if_pos rfl, show (49 : Int32) = nI 49 from rfl, gr_n (show 49 < 54 by omega) (by decide), Option.bind_some, e4]
      by_cases hz : z = q
      · subst hz
        rw [if_pos rfl, Option.bind_some, lb, Option.bind_some, lb, nA, nO, nI_1 s.1, show stS B kd sn a n z s (tv w7 n i) = _ from if_pos e3]
        obtain ⟨m', l1, l2⟩ := ih fu (i + 1) (s.1 + 1, s.2.1 &&& wi n 0 (tv w7 n i), s.2.2 ||| wi n 0 (tv w7 n i)) m1 (by omega) (by omega) (hM.tf k2) h3' hq
        exact ⟨m', l1, k2.tr l2⟩
      · rw [if_neg (fun r => hz ((nI_eq (by omega) (by omega)).mp r))]
        exact next (by rw [e3]; exact fun r => hz (Option.some.inj r))
    · rw [if_neg e1]
      exact next (by rw [e3]; simp)
theorem stS_no {B n q : Nat} {kd sn : Nat → Nat} {a : TK} (hn : n < 5) : ∀ s R, ib B n R = false → stS B kd sn a n q s R = s := by
  intro s R h
  unfold stS
  rw [ev_no hn h, if_neg (by simp)]
theorem sb_00 (a : Nat) (h : a < 128) : sb a 0 = a := by
  apply Nat.eq_of_testBit_eq
  intro i
  rw [sb_bit h]
  simp
theorem ca_spoken {x m : St} (h : RR x m) (a b c : Int32) : CA (fx_spoken a b c x) (fm_spoken a b c m) := by
  have hR := h
  obtain ⟨n, P, mk, ch, hm, kd, D, hB, hX, hM, hI⟩ := h.rb
  have h64 : D.1 < 64 := Nat.lt_of_lt_of_le hI.1 (p_le hB.2.1.1)
  unfold fx_spoken fm_spoken
  rcases in_ab (lo := 1) (hi := 4) a 1 4 1 4 rfl rfl rfl rfl (by decide) (by decide) with ⟨h1, h2⟩ | ⟨k, v1, v2, rfl, h2⟩
  · rw [h2]
    by_cases q : a < 1
    · rw [if_pos q]; exact ⟨_, _, _, rfl, rfl, hR⟩
    · by_cases q2 : 4 < a
      · rw [if_neg q, if_pos q2]; exact ⟨_, _, _, rfl, rfl, hR⟩
      · exact absurd ⟨by rw [le_lt]; exact q, by rw [le_lt]; exact q2⟩ h1
  rw [h2, Option.bind_some, if_neg (show ¬ nI k < (1 : Int32) from nI_nlt (b := 1) v1 (by omega)), if_neg (show ¬ (4 : Int32) < nI k from nI_nlt (a := 4) v2 (by decide)), if_neg (show ¬ (1 : Int32) = 0 by decide)]
  rcases isSense_e b with ⟨h3, h4⟩ | ⟨q, hq, rfl, h3, h4⟩
  · rw [h3, h4]
    exact ⟨_, _, _, rfl, rfl, hR⟩
  rw [h3, h4, Option.bind_some, Option.bind_some, if_neg (show ¬ (1 : Int32) = 0 by decide), if_neg (show ¬ (1 : Int32) = 0 by decide)]
  rcases in_ab (lo := 0) (hi := 2) c 0 2 0 2 rfl rfl rfl rfl (by decide) (by decide) with ⟨h5, h6⟩ | ⟨z, -, z2, rfl, h6⟩
  · rw [h6]
    by_cases q : c < 0
    · rw [if_pos q]; exact ⟨_, _, _, rfl, rfl, hR⟩
    · rw [if_neg q, if_neg (fun z => h5 ⟨by rw [le_lt]; exact q, z⟩)]; exact ⟨_, _, _, rfl, rfl, hR⟩
  have hlt : D.1 < 128 := by omega
  have hlp := len_pow hlt (show k < 5 by omega)
  have hsp := sev_pow (show k < 5 by omega)
  obtain ⟨x1, e1, hW, f1⟩ := by_x hlt x
  have h13 : x1.1 13 1 = nI D.1 := by rw [f1.1 13 (by omega) (by omega)]; exact hX.1
  obtain ⟨x', e2, f2⟩ := spoken77 (show k < 5 by omega) hq (nI z) ((wl D.1).length ^ k) 4096 0 (0, D.1, 0) x1 (by omega) (by omega) ((BX.of hB hX hI hI.1).fw f1) hW h13
  obtain ⟨m', l1, l2⟩ := spoken56 (show k < 5 by omega) (nI z) (7 ^ k) 4096 0 (0, D.1, 0) m (by omega) (by omega) (BM.of hB hM hI hI.1) hM.1 hq
  rw [rg_x] at e2
  rw [rg_m, fold_eq _ (stS_no (show k < 5 by omega))] at l1
  rw [sb_00 D.1 hlt] at e2
  rw [h6, Option.bind_some, if_neg (nI_pos (show z < 2 ^ 31 by omega)), if_pos (show nI z ≤ (2 : Int32) from nI_le (b := 2) z2 (by decide)), if_neg (show ¬ (1 : Int32) = 0 by decide), hX.1, e1, Option.bind_some, h13, lb, lb, many_x hW (wl_ok D.1 hlt).1 (by omega), Option.bind_some, lb, show (0 : Int32) = nI 0 from rfl, gr_n (show 0 < 54 by omega) (by decide), show m.1 3 0 = _ from hM.1, Option.bind_some]
  exact ⟨_, x', m', e2, l1, hR.scr (f1.fq.sw.tr f2.sw) l2.sn (f2.2.trans (f1.2.trans (hB.2.2.2.2.trans l2.2.2.symm)))⟩
