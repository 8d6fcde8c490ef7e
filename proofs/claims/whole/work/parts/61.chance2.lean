def ES (B : Nat) (kd sn : Nat → Nat) (a : TK) (n R : Nat) : Nat := (pw B kd sn a (dl n R 0 n)).1
def stX (B : Nat) (kd sn : Nat → Nat) (a : TK) (n q : Nat) (s R : Nat) : Nat := if ES B kd sn a n R = q then s + 1 else s
def stC (B : Nat) (kd sn : Nat → Nat) (a : TK) (n q : Nat) (s : Nat × Nat) (R : Nat) : Nat × Nat := if ib B n R = true then (stX B kd sn a n q s.1 R, s.2 + 1) else s
theorem stX_le {B n q : Nat} {kd sn : Nat → Nat} {a : TK} : ∀ (L : List Nat) (s : Nat), L.foldl (stX B kd sn a n q) s ≤ s + L.length := by
  intro L
  induction L with
  | nil => exact fun s => Nat.le_refl _
  | cons R L ih =>
    intro s
    rw [List.foldl_cons, List.length_cons]
    have := ih (stX B kd sn a n q s R)
    have h : stX B kd sn a n q s R ≤ s + 1 := by unfold stX; split <;> omega
    omega
theorem stC_x {B n q : Nat} {kd sn : Nat → Nat} {a : TK} : ∀ (L : List Nat), (∀ R, R ∈ L → ib B n R = true) → ∀ s, L.foldl (stC B kd sn a n q) s = (L.foldl (stX B kd sn a n q) s.1, s.2 + L.length) := by
  intro L
  induction L with
  | nil => intro _ s; rfl
  | cons R L ih =>
    intro h s
    rw [List.foldl_cons, List.foldl_cons, show stC B kd sn a n q s R = (stX B kd sn a n q s.1 R, s.2 + 1) from if_pos (h R List.mem_cons_self), ih (fun r hr => h r (List.mem_cons_of_mem _ hr)), List.length_cons]
    show (_, s.2 + 1 + L.length) = (_, s.2 + (L.length + 1))
    rw [Nat.add_assoc, Nat.add_comm 1]
theorem rv_all (B n : Nat) : ∀ R, R ∈ RV (wl B) n → ib B n R = true := by
  intro R h
  rw [← rv_ib] at h
  exact (List.mem_filter.mp h).2
theorem rv_len (w : List Nat) (n : Nat) : (RV w n).length = w.length ^ n := by rw [← tv_all, List.length_map, List.length_range]
theorem stC_all {B n q : Nat} {kd sn : Nat → Nat} {a : TK} : (RV w7 n).foldl (stC B kd sn a n q) (0, 0) = ((RV (wl B) n).foldl (stX B kd sn a n q) 0, (wl B).length ^ n) := by
  rw [fold_eq _ (fun s R h => by unfold stC; rw [h]; rfl), stC_x _ (rv_all B n), rv_len, Nat.zero_add]
theorem chance85 {B n q : Nat} {kd sn : Nat → Nat} {a : TK} (hn : n < 5) (hq : q < 10) (c : Int32) (hT : 0 < (wl B).length ^ n) : ∀ (r fu i s : Nat) (x : St), i + r = (wl B).length ^ n → r < fu → s ≤ i → BX B kd sn a x → WH (wl B) x → x.1 13 1 = nI B → ∃ x', fx_chance_85 fu (nI n) (nI q) c (nI s) (nI ((wl B).length ^ n)) (nI i) x = some (FR (((List.range' i r).map (tv (wl B) n)).foldl (stX B kd sn a n q) s) ((wl B).length ^ n) c, x') ∧ FT 11 x x' := by
  intro r
  induction r with
  | zero =>
    intro fu i s x h1 hf hs hX hW h13
    obtain ⟨fu, rfl⟩ : ∃ f, fu = f + 1 := ⟨fu - 1, by omega⟩
    have := len_pow hX.2.2.2.2.2 hn
    rw [fx_chance_85, if_pos (nI_le (show (wl B).length ^ n ≤ i by omega) (by omega)), fraction_x c (by omega) hT this]
    exact ⟨x, rfl, FT.rf⟩
  | succ r ih =>
    intro fu i s x h1 hf hs hX hW h13
    obtain ⟨fu, rfl⟩ : ∃ f, fu = f + 1 := ⟨fu - 1, by omega⟩
    have hB := hX.2.2.2.2.2
    have := len_pow hB hn
    have hg := gdp_tv (wl_get hB) n i
    have h31 := tv_31 (wl_get hB) hn i
    obtain ⟨x1, e1, f1, t1⟩ := hX.trial
    obtain ⟨x2, e2, f2, t2⟩ := playW16 (by omega) h31 hg n 4096 0 a x1 (by omega) (by omega) t1 (by rw [f1.1 13 (by omega) (by omega)]; exact h13)
    have f12 : FT 11 x x2 := f1.tr f2
    have hv : x2.1 11 0 = nI (ES B kd sn a n (tv (wl B) n i)) := t2.1.1
    have hv10 : ES B kd sn a n (tv (wl B) n i) < 10 := t2.2.1.1
    rw [fx_chance_85, if_neg (nI_ge (show i < (wl B).length ^ n by omega) (by omega)), told_x hW (wl_ok B hB).1 (by omega) (by omega) (by omega), Option.bind_some, List.range'_succ, List.map_cons, List.foldl_cons]
    unfold fx_playWhoMay fx_chance_121
    rw [e1, Option.bind_some, show (0 : Int32) = nI 0 from rfl, e2, Option.bind_some, hv, nI_1, nI_1]
    have h131 : x2.1 13 1 = nI B := by rw [f12.1 13 (by omega) (by omega)]; exact h13
    by_cases hz : ES B kd sn a n (tv (wl B) n i) = q
    · rw [if_pos (by rw [hz]), show stX B kd sn a n q s (tv (wl B) n i) = s + 1 from if_pos hz]
      obtain ⟨x', l1, l2⟩ := ih fu (i + 1) (s + 1) x2 (by omega) (by omega) (by omega) (hX.ft f12) (hW.ft f12) h131
      exact ⟨x', l1, f12.tr l2⟩
    · rw [if_neg (fun r => hz ((nI_eq (by omega) (by omega)).mp r)), show stX B kd sn a n q s (tv (wl B) n i) = s from if_neg hz]
      obtain ⟨x', l1, l2⟩ := ih fu (i + 1) s x2 (by omega) (by omega) (by omega) (hX.ft f12) (hW.ft f12) h131
      exact ⟨x', l1, f12.tr l2⟩
theorem or_128 {a b : Nat} (h : a < 128) (h2 : b < 128) : a ||| b < 128 := Nat.or_lt_two_pow (n := 7) h h2
theorem two_128 {p : Nat} (h : p < 7) : 2 ^ p < 128 := Nat.lt_of_lt_of_le (Nat.pow_lt_pow_right (a := 2) (by decide) h) (by decide)
theorem wi_lt : ∀ n s R, gdp n R → s < 128 → wi n s R < 128 := by
  intro n
  induction n with
  | zero => exact fun s R _ h => h
  | succ n ih => exact fun s R hg h => ih _ _ hg.2 (or_128 h (two_128 (by have := hg.1.2; omega)))
theorem sb_or {a b c : Nat} (ha : a < 128) (hb : b < 128) : sb (a ||| b) c = 0 ↔ sb a c = 0 ∧ sb b c = 0 := by
  have e : sb (a ||| b) c = sb a c ||| sb b c := by
    apply Nat.eq_of_testBit_eq
    intro i
    rw [sb_bit (or_128 ha hb), Nat.testBit_or, Nat.testBit_or, sb_bit ha, sb_bit hb]
    cases a.testBit i <;> cases b.testBit i <;> cases c.testBit i <;> rfl
  rw [e]
  constructor
  · intro h
    have h1 : sb a c ≤ sb a c ||| sb b c := Nat.left_le_or
    have h2 : sb b c ≤ sb a c ||| sb b c := Nat.right_le_or
    omega
  · rintro ⟨h1, h2⟩
    rw [h1, h2]; rfl
theorem sb_pow : ∀ p, p < 7 → ∀ b, b < 128 → (sb (2 ^ p) b = 0 ↔ b.testBit p = true) := by decide +kernel
theorem wi_ib {B : Nat} (hB : B < 128) : ∀ n s R, gdp n R → s < 128 → (sb (wi n s R) B = 0 ↔ sb s B = 0 ∧ ib B n R = true) := by
  intro n
  induction n with
  | zero => intro s R _ _; exact ⟨fun h => ⟨h, rfl⟩, fun h => h.1⟩
  | succ n ih =>
    intro s R hg hs
    have h7 : R % 10 - 1 < 7 := by have := hg.1.2; omega
    rw [wi, ih _ _ hg.2 (or_128 hs (two_128 h7)), sb_or hs (two_128 h7), sb_pow _ h7 B hB, ib, Bool.and_eq_true]
    constructor
    · rintro ⟨⟨q1, q2⟩, q3⟩; exact ⟨q1, q3, q2⟩
    · rintro ⟨q1, q3, q2⟩; exact ⟨⟨q1, q2⟩, q3⟩
theorem chance70 {B n q : Nat} {kd sn : Nat → Nat} {a : TK} (hn : n < 5) (hn1 : 1 ≤ n) (hq : q < 10) (c : Int32) : ∀ (r fu i : Nat) (s : Nat × Nat) (m : St), i + r = 7 ^ n → r < fu → s.1 ≤ i → s.2 ≤ i → (0 < (((List.range' i r).map (tv w7 n)).foldl (stC B kd sn a n q) s).2 ∧ (((List.range' i r).map (tv w7 n)).foldl (stC B kd sn a n q) s).2 < 4096) → BM B kd sn a m → m.1 3 0 = nI B → ∃ m', fm_chance_70 fu (nI n) (nI q) c (nI s.1) (nI s.2) (nI i) m = some (FR (((List.range' i r).map (tv w7 n)).foldl (stC B kd sn a n q) s).1 (((List.range' i r).map (tv w7 n)).foldl (stC B kd sn a n q) s).2 c, m') ∧ TF m m' := by
  have hsp := sev_pow hn
  intro r
  induction r with
  | zero =>
    intro fu i s m h1 hf hs1 hs2 hT hM h3
    obtain ⟨fu, rfl⟩ : ∃ f, fu = f + 1 := ⟨fu - 1, by omega⟩
    have hT : 0 < s.2 ∧ s.2 < 4096 := hT
    obtain ⟨g0, g1⟩ := gcd_31 (a := s.1) hT.1 hT.2
    refine ⟨m, ?_, TF.rf⟩
    show _ = some (FR s.1 s.2 c, m)
    rw [fm_chance_70, sevens_n n hn, Option.bind_some, if_pos (nI_le (show 7 ^ n ≤ i by omega) (by omega)), common_mm (by omega) hT.2, Option.bind_some, gd_n (by omega) g0 g1, gd_n (by omega) g0 g1]
    unfold FR
    by_cases hc : c = 0
    · rw [if_pos hc, if_pos hc]; rfl
    · rw [if_neg hc, if_neg hc]; rfl
  | succ r ih =>
    intro fu i s m h1 hf hs1 hs2 hT hM h3
    obtain ⟨fu, rfl⟩ : ∃ f, fu = f + 1 := ⟨fu - 1, by omega⟩
    have hB := hM.2.2.2.2.2
    have hg := gdp_tv w7_lt n i
    have h31 := tv_31 w7_lt hn i
    have h30 : ∀ m : St, m.1 3 0 = nI B → gr (m.1 3) 54 0 = some (nI B) := fun m h => by rw [show (0 : Int32) = nI 0 from rfl, gr_n (show 0 < 54 by omega) (by decide), h]
    rw [List.range'_succ, List.map_cons, List.foldl_cons] at hT ⊢
    rw [fm_chance_70, sevens_n n hn, Option.bind_some, if_neg (nI_ge (show i < 7 ^ n by omega) (by omega)), rowOf_m (by omega) (by omega), Option.bind_some, whoIn_m hn h31 hg, Option.bind_some, h30 m h3, Option.bind_some, Option.bind_some, n_sb (wi_lt n 0 _ hg (by decide))]
    have hiff := wi_ib hB n 0 (tv w7 n i) hg (by decide)
    have hle : sb (wi n 0 (tv w7 n i)) B ≤ wi n 0 (tv w7 n i) := sb_le _ _
    have hwl := wi_lt n 0 (tv w7 n i) hg (by decide)
    have h00 : sb 0 B = 0 := Nat.le_zero.mp (sb_le 0 B)
    cases he : ib B n (tv w7 n i) with
    | true =>
      have hz : sb (wi n 0 (tv w7 n i)) B = 0 := hiff.mpr ⟨h00, he⟩
      obtain ⟨m1, e1, f1, t1⟩ := hM.trial
      rw [hz, if_pos (show nI 0 = 0 from rfl), e1, Option.bind_some, lb]
      obtain ⟨m2, e2, f2⟩ := chance119 (fm_chance_70 fu) (nI i) c s.1 s.2 hn h31 hg hq n 4096 0 a m1 (by omega) (by omega) t1
      rw [e2, nI_1]
      have hst : stC B kd sn a n q s (tv w7 n i) = (stX B kd sn a n q s.1 (tv w7 n i), s.2 + 1) := if_pos he
      rw [hst] at hT ⊢
      have hx1 : stX B kd sn a n q s.1 (tv w7 n i) ≤ s.1 + 1 := by unfold stX; split <;> omega
      obtain ⟨m', l1, l2⟩ := ih fu (i + 1) _ m2 (by omega) (by omega) (show stX B kd sn a n q s.1 (tv w7 n i) ≤ i + 1 by omega) (show s.2 + 1 ≤ i + 1 by omega) hT (hM.tf (f1.tr f2.tf)) (by rw [f2.tf.2.1 0 (by omega), f1.2.1 0 (by omega)]; exact h3)
      exact ⟨m', l1, (f1.tr f2.tf).tr l2⟩
    | false =>
      have hz : ¬ sb (wi n 0 (tv w7 n i)) B = 0 := fun h => by
        rw [(hiff.mp h).2] at he
        cases he
      rw [if_neg (fun (r : nI (sb (wi n 0 (tv w7 n i)) B) = (0 : Int32)) => hz ((nI_eq (b := 0) (by omega) (by decide)).mp r))]
      unfold fm_chance_186
      rw [nI_1]
      have hst : stC B kd sn a n q s (tv w7 n i) = s := if_neg (by rw [he]; decide)
      rw [hst] at hT ⊢
      exact ih fu (i + 1) s m (by omega) (by omega) (by omega) (by omega) hT hM h3
theorem wl_pos : ∀ B, B < 128 → B ≠ 0 → 0 < (wl B).length := by decide +kernel
theorem ca_chance {x m : St} (h : RR x m) (a b c : Int32) : CA (fx_chance a b c x) (fm_chance a b c m) := by
  have hR := h
  obtain ⟨n, P, mk, ch, hm, kd, D, hB, hX, hM, hI⟩ := h.rb
  have h64 : D.1 < 64 := Nat.lt_of_lt_of_le hI.1 (p_le hB.2.1.1)
  unfold fx_chance fm_chance
  rcases in_ab (lo := 1) (hi := 4) a 1 4 1 4 rfl rfl rfl rfl (by decide) (by decide) with ⟨h1, h2⟩ | ⟨k, v1, v2, rfl, h2⟩
  · rw [h2]
    by_cases q : a < 1
    · rw [if_pos q]; exact ⟨_, _, _, rfl, rfl, hR⟩
    · by_cases q2 : 4 < a
      · rw [if_neg q, if_pos q2]; exact ⟨_, _, _, rfl, rfl, hR⟩
      · exact absurd ⟨by rw [le_lt]; exact q, by rw [le_lt]; exact q2⟩ h1
  rw [h2, Option.bind_some, if_neg (show ¬ nI k < (1 : Int32) from nI_nlt (b := 1) v1 (by omega)), if_neg (show ¬ (4 : Int32) < nI k from nI_nlt (a := 4) v2 (by decide)), if_neg (show ¬ (1 : Int32) = 0 by decide)]
  rcases isSense_e b with ⟨h3, h4⟩ | ⟨q, hq, rfl, h3, h4⟩
  · rw [h3, h4]
    exact ⟨_, _, _, rfl, rfl, hR⟩
  have hm0 : m.1 3 0 = nI D.1 := hM.1
  have hm22 : m.1 3 22 = nI D.2.2.2.1 := hM.2.2.2.1
  have hx14 : x.1 14 0 = nI D.2.2.2.1 := hX.2.2.2.1
  rw [h3, h4, Option.bind_some, Option.bind_some, if_neg (show ¬ (1 : Int32) = 0 by decide), if_neg (show ¬ (1 : Int32) = 0 by decide), hX.1, show (0 : Int32) = nI 0 from rfl, gr_n (show 0 < 54 by omega) (by decide), hm0, Option.bind_some]
  by_cases h0 : nI D.1 = nI 0
  · rw [if_pos h0, if_pos h0, hx14, show (22 : Int32) = nI 22 from rfl, gr_n (show 22 < 54 by omega) (by decide), hm22, Option.bind_some]
    unfold fx_chance_49
    rw [show (1 : Int32) = nI 1 from rfl, fraction_x (a := 1) (b := 1) c (by decide) (by decide) (by decide), fraction_x (a := 0) (b := 1) c (by decide) (by decide) (by decide)]
    unfold FR
    by_cases hc : c = nI 0
    · rw [if_pos hc, if_pos (show c = 0 from hc), if_pos (show c = 0 from hc)]
      by_cases hs : nI D.2.2.2.1 = nI q
      · rw [if_pos hs]; exact ⟨_, _, _, rfl, rfl, hR⟩
      · rw [if_neg hs]; exact ⟨_, _, _, rfl, rfl, hR⟩
    · rw [if_neg hc, if_neg (show ¬ c = 0 from hc), if_neg (show ¬ c = 0 from hc)]
      by_cases hs : nI D.2.2.2.1 = nI q
      · rw [if_pos hs, if_pos hs]; exact ⟨_, _, _, rfl, rfl, hR⟩
      · rw [if_neg hs, if_neg hs]; exact ⟨_, _, _, rfl, rfl, hR⟩
  rw [if_neg h0, if_neg h0]
  have hne : D.1 ≠ 0 := fun r => h0 (by rw [r])
  have hlt : D.1 < 128 := by omega
  have hlp := len_pow hlt (show k < 5 by omega)
  have hpos := wl_pos D.1 hlt hne
  have hT : 0 < (wl D.1).length ^ k := Nat.pow_pos hpos
  have hsp := sev_pow (show k < 5 by omega)
  obtain ⟨x1, e1, hW, f1⟩ := by_x hlt x
  have h13 : x1.1 13 1 = nI D.1 := by rw [f1.1 13 (by omega) (by omega)]; exact hX.1
  have hbx := BX.of hB hX hI hI.1
  have hbm := BM.of hB hM hI hI.1
  obtain ⟨x', e2, f2⟩ := chance85 (show k < 5 by omega) hq c hT ((wl D.1).length ^ k) 4096 0 0 x1 (by omega) (by omega) (by omega) (hbx.fw f1) hW h13
  have hall : ((List.range' 0 (7 ^ k)).map (tv w7 k)).foldl (stC D.1 kd D.2.2.1 D.2.2.2 k q) (0, 0) = ((RV (wl D.1) k).foldl (stX D.1 kd D.2.2.1 D.2.2.2 k q) 0, (wl D.1).length ^ k) := by rw [rg_m]; exact stC_all
  obtain ⟨m', l1, l2⟩ := chance70 (show k < 5 by omega) v1 hq c (7 ^ k) 4096 0 (0, 0) m (by omega) (by omega) (by omega) (by omega) (by rw [hall]; exact ⟨hT, hlp⟩) hbm hm0
  rw [rg_x] at e2
  rw [hall] at l1
  rw [e1, Option.bind_some, many_x hW (wl_ok D.1 hlt).1 (by omega), Option.bind_some, lb]
  exact ⟨_, x', m', e2, l1, hR.scr (f1.fq.sw.tr f2.sw) l2.sn (f2.2.trans (f1.2.trans (hB.2.2.2.2.trans l2.2.2.symm)))⟩
