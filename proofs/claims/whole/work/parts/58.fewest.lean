/-! the least row that comes to q -/
def fo (B : Nat) (kd sn : Nat → Nat) (a : TK) (n q : Nat) (s : Option Nat) (R : Nat) : Option Nat := match s with
  | some r => some r
  | none => if EV B kd sn a n R = some q then some R else none
theorem fo_some {B : Nat} {kd sn : Nat → Nat} {a : TK} {n q : Nat} (r : Nat) : ∀ L : List Nat, L.foldl (fo B kd sn a n q) (some r) = some r := by
  intro L
  induction L with
  | nil => rfl
  | cons R L ih => exact ih
/-- the least row of n that comes to q -/
def LR (B : Nat) (kd sn : Nat → Nat) (a : TK) (q n : Nat) : Option Nat := (RV (wl B) n).foldl (fo B kd sn a n q) none
theorem isTold_x {B n R q : Nat} {kd sn : Nat → Nat} {a : TK} {x : St} (h : BX B kd sn a x) (hn : n < 1000) (hR : R < 2 ^ 31) (hq : q < 10) : ∃ x', fx_isTold (nI n) (nI R) (nI B) (nI q) x = some (if EV B kd sn a n R = some q then 1 else 0, x') ∧ FT 11 x x' := by
  obtain ⟨v, x', k1, k2, k3⟩ := play_x2 (n := n) (R := R) h hn hR
  unfold fx_isTold
  rw [k1, Option.bind_some]
  refine ⟨x', ?_, k2⟩
  rcases k3 with ⟨e1, z, e2, e3, e4⟩ | ⟨e1, e3⟩
  · rw [e1, if_pos rfl, e4, e3]
    by_cases hz : z = q
    · subst hz
      rw [if_pos rfl, if_pos rfl]
    · rw [if_neg (fun r => hz ((nI_eq (by omega) (by omega)).mp r)), if_neg (fun r => hz (Option.some.inj r))]
  · rw [if_neg e1, e3, if_neg (by simp)]
theorem leastRow12 {B n q : Nat} {kd sn : Nat → Nat} {a : TK} (hn : n < 5) (hq : q < 10) : ∀ (r fu i : Nat) (x : St), i + r = (wl B).length ^ n → r < fu → BX B kd sn a x → WH (wl B) x → x.1 13 1 = nI B → ∃ x', fx_leastRow_12 fu (nI n) (nI q) (nI ((wl B).length ^ n)) (nI i) x = some (cd (((List.range' i r).map (tv (wl B) n)).foldl (fo B kd sn a n q) none), x') ∧ FT 11 x x' := by
  intro r
  induction r with
  | zero =>
    intro fu i x h1 hf hX hW h13
    obtain ⟨fu, rfl⟩ : ∃ f, fu = f + 1 := ⟨fu - 1, by omega⟩
    have := len_pow hX.2.2.2.2.2 hn
    rw [fx_leastRow_12, if_pos (nI_le (show (wl B).length ^ n ≤ i by omega) (by omega))]
    exact ⟨x, rfl, FT.rf⟩
  | succ r ih =>
    intro fu i x h1 hf hX hW h13
    obtain ⟨fu, rfl⟩ : ∃ f, fu = f + 1 := ⟨fu - 1, by omega⟩
    have hB := hX.2.2.2.2.2
    have := len_pow hB hn
    rw [fx_leastRow_12, if_neg (nI_ge (show i < (wl B).length ^ n by omega) (by omega)), told_x hW (wl_ok B hB).1 (by omega) (by omega) (by omega), Option.bind_some, lb, h13, List.range'_succ, List.map_cons, List.foldl_cons]
    obtain ⟨x1, k1, k2⟩ := isTold_x (n := n) (R := tv (wl B) n i) hX (by omega) (tv_31 (wl_get hB) hn i) hq
    rw [k1, Option.bind_some]
    by_cases he : EV B kd sn a n (tv (wl B) n i) = some q
    · rw [if_pos he, if_neg (show ¬ (1 : Int32) = 0 by decide), show fo B kd sn a n q none (tv (wl B) n i) = some (tv (wl B) n i) from if_pos he, fo_some]
      exact ⟨x1, rfl, k2⟩
    · rw [if_neg he, if_pos rfl, show fo B kd sn a n q none (tv (wl B) n i) = none from if_neg he, nI_1]
      obtain ⟨x', l1, l2⟩ := ih fu (i + 1) x1 (by omega) (by omega) (hX.ft k2) (hW.ft k2) (by rw [k2.1 13 (by omega) (by omega)]; exact h13)
      exact ⟨x', l1, k2.tr l2⟩
theorem leastRow_x {B n q : Nat} {kd sn : Nat → Nat} {a : TK} {x : St} (hn : n < 5) (hq : q < 10) (hX : BX B kd sn a x) (hW : WH (wl B) x) (h13 : x.1 13 1 = nI B) : ∃ x', fx_leastRow (nI n) (nI q) x = some (cd (LR B kd sn a q n), x') ∧ FT 11 x x' := by
  have hB := hX.2.2.2.2.2
  have hp := len_pow hB hn
  obtain ⟨x', e, f⟩ := leastRow12 hn hq ((wl B).length ^ n) 4096 0 x (by omega) (by omega) hX hW h13
  rw [rg_x] at e
  unfold fx_leastRow
  rw [many_x hW (wl_ok B hB).1 hn, Option.bind_some, lb, show (0 : Int32) = nI 0 from rfl]
  exact ⟨x', e, f⟩
/-- how many, or the row -/
def FE (B : Nat) (kd sn : Nat → Nat) (a : TK) (q : Nat) (c : Bool) : Nat → Nat → Int32
  | 0, _ => -9
  | r + 1, n => match LR B kd sn a q n with
    | none => FE B kd sn a q c r (n + 1)
    | some R => if c then nI n else nI R
theorem fo_mem {B : Nat} {kd sn : Nat → Nat} {a : TK} {n q R : Nat} : ∀ L : List Nat, L.foldl (fo B kd sn a n q) none = some R → R ∈ L ∧ EV B kd sn a n R = some q := by
  intro L
  induction L with
  | nil => intro h; cases h
  | cons r L ih =>
    intro h
    rw [List.foldl_cons] at h
    by_cases he : EV B kd sn a n r = some q
    · rw [show fo B kd sn a n q none r = some r from if_pos he, fo_some] at h
      cases h
      exact ⟨List.mem_cons_self, he⟩
    · rw [show fo B kd sn a n q none r = none from if_neg he] at h
      exact ⟨List.mem_cons_of_mem _ (ih h).1, (ih h).2⟩
theorem rv_31 {l : List Nat} (hl : ∀ j, l.getD j 0 < 7) {n R : Nat} (hn : n < 5) (h : R ∈ RV l n) : R < 2 ^ 31 := by
  rw [← tv_all] at h
  obtain ⟨i, -, rfl⟩ := List.mem_map.mp h
  exact tv_31 hl hn i
theorem fewest26 {B q : Nat} {kd sn : Nat → Nat} {a : TK} (hq : q < 10) (c : Int32) : ∀ (r fu n : Nat) (x : St), n + r = 5 → r < fu → BX B kd sn a x → WH (wl B) x → x.1 13 1 = nI B → ∃ x', fx_fewest_26 fu (nI q) c (nI n) x = some (FE B kd sn a q (decide (c = 0)) r n, x') ∧ FT 11 x x' := by
  intro r
  induction r with
  | zero =>
    intro fu n x h1 hf hX hW h13
    obtain ⟨fu, rfl⟩ : ∃ f, fu = f + 1 := ⟨fu - 1, by omega⟩
    rw [fx_fewest_26, if_pos (show (4 : Int32) < nI n from nI_lt (a := 4) (by omega) (by omega))]
    exact ⟨x, rfl, FT.rf⟩
  | succ r ih =>
    intro fu n x h1 hf hX hW h13
    obtain ⟨fu, rfl⟩ : ∃ f, fu = f + 1 := ⟨fu - 1, by omega⟩
    have hB := hX.2.2.2.2.2
    obtain ⟨x1, e, f⟩ := leastRow_x (n := n) (by omega) hq hX hW h13
    rw [fx_fewest_26, if_neg (show ¬ (4 : Int32) < nI n from nI_nlt (a := 4) (b := n) (by omega) (by decide)), e, Option.bind_some, lb, FE]
    cases hL : LR B kd sn a q n with
    | none =>
      rw [if_pos (show cd none = -9 from rfl), nI_1]
      obtain ⟨x', e2, f2⟩ := ih fu (n + 1) x1 (by omega) (by omega) (hX.ft f) (hW.ft f) (by rw [f.1 13 (by omega) (by omega)]; exact h13)
      exact ⟨x', e2, f.tr f2⟩
    | some R =>
      have hR := rv_31 (wl_get hB) (show n < 5 by omega) (fo_mem _ hL).1
      rw [if_neg (show ¬ cd (some R) = -9 from n9 hR)]
      by_cases hc : c = 0
      · rw [if_pos hc, decide_eq_true hc]
        exact ⟨x1, rfl, f⟩
      · rw [if_neg hc, decide_eq_false hc]
        exact ⟨x1, rfl, f⟩
/-- the trial and the row kept beside it alone moved -/
def TG (m m' : St) : Prop := (∀ d, d ≠ 3 → d ≠ 0 → m'.1 d = m.1 d) ∧ (∀ j, j < 27 → m'.1 3 j = m.1 3 j) ∧ (∀ j, j ≠ 17 → m'.1 0 j = m.1 0 j) ∧ m'.2 = m.2
theorem TG.rf {m : St} : TG m m := ⟨fun _ _ _ => rfl, fun _ _ => rfl, fun _ _ => rfl, rfl⟩
theorem TG.tr {x x' x'' : St} (h : TG x x') (g : TG x' x'') : TG x x'' := ⟨fun d a b => (g.1 d a b).trans (h.1 d a b), fun j a => (g.2.1 j a).trans (h.2.1 j a), fun j a => (g.2.2.1 j a).trans (h.2.2.1 j a), g.2.2.2.trans h.2.2.2⟩
theorem TG.wr {m : St} {v : Int32} : TG m (wr m 0 17 v) := ⟨fun d _ b => wr_ne _ _ _ b, fun j _ => by rw [wr_ne _ _ _ (by omega)], fun j a => wr_off _ _ _ a, rfl⟩
theorem TF.tg {m m' : St} (h : TF m m') : TG m m' := ⟨fun d a _ => h.1 d a, h.2.1, fun j _ => by rw [h.1 0 (by omega)], h.2.2⟩
theorem TG.sn {m m' : St} (h : TG m m') : SN m m' := ⟨fun d a => h.1 d (by omega) (by omega), h.2.1, fun j a => h.2.2.1 j (by omega)⟩
theorem BM.tg {B : Nat} {kd sn : Nat → Nat} {a : TK} {m m' : St} (h : BM B kd sn a m) (f : TG m m') : BM B kd sn a m' := h.fr (f.1 2 (by omega) (by omega)) f.2.1 (f.2.2.1 15 (by omega)) (f.2.2.1 16 (by omega))
theorem layF10 {B n q : Nat} {kd sn : Nat → Nat} {a : TK} (k2 : Int32 → Int32 → Int32 → St → Option (Int32 × St)) (hn : n < 5) (hq : q < 10) : ∀ (r fu i : Nat) (m : St), i + r = 7 ^ n → r < fu → BM B kd sn a m → ∃ m', TG m m' ∧ match ((List.range' i r).map (tv w7 n)).foldl (fo B kd sn a n q) none with
    | none => fm_layFewest_10 k2 fu (nI B) (nI q) (nI n) (nI i) m = k2 (nI B) (nI q) (nI (n + 1)) m'
    | some R => fm_layFewest_10 k2 fu (nI B) (nI q) (nI n) (nI i) m = some (nI n, m') ∧ m'.1 0 17 = nI R := by
  have := sev_pow hn
  intro r
  induction r with
  | zero =>
    intro fu i m h1 hf hM
    obtain ⟨fu, rfl⟩ : ∃ f, fu = f + 1 := ⟨fu - 1, by omega⟩
    refine ⟨m, TG.rf, ?_⟩
    show fm_layFewest_10 k2 (fu + 1) (nI B) (nI q) (nI n) (nI i) m = k2 (nI B) (nI q) (nI (n + 1)) m
    rw [fm_layFewest_10, sevens_n n hn, Option.bind_some, if_pos (nI_le (show 7 ^ n ≤ i by omega) (by omega)), nI_1]
  | succ r ih =>
    intro fu i m h1 hf hM
    obtain ⟨fu, rfl⟩ : ∃ f, fu = f + 1 := ⟨fu - 1, by omega⟩
    rw [fm_layFewest_10, sevens_n n hn, Option.bind_some, if_neg (nI_ge (show i < 7 ^ n by omega) (by omega)), rowOf_m (by omega) (by omega), Option.bind_some, wr_same, List.range'_succ, List.map_cons, List.foldl_cons]
    have hM1 : BM B kd sn a (wr m 0 17 (nI (tv w7 n i))) := hM.tg TG.wr
    obtain ⟨v, m1, k1, g1, k3⟩ := play_m2 (n := n) (R := tv w7 n i) hM1 (by omega) (tv_31 w7_lt hn i) hM1.lt
    have g2 : TG m m1 := TG.wr.tr g1.tg
    have h17 : m1.1 0 17 = nI (tv w7 n i) := by rw [g1.1 0 (by omega), wr_same]
    rw [k1, Option.bind_some]
    unfold fm_layFewest_57
    rw [nI_1]
    have next : ¬ EV B kd sn a n (tv w7 n i) = some q → ∃ m', TG m m' ∧ match ((List.range' (i + 1) r).map (tv w7 n)).foldl (fo B kd sn a n q) (fo B kd sn a n q none (tv w7 n i)) with
        | none => fm_layFewest_10 k2 fu (nI B) (nI q) (nI n) (nI (i + 1)) m1 = k2 (nI B) (nI q) (nI (n + 1)) m'
        | some R => fm_layFewest_10 k2 fu (nI B) (nI q) (nI n) (nI (i + 1)) m1 = some (nI n, m') ∧ m'.1 0 17 = nI R := by
      intro he
      rw [show fo B kd sn a n q none (tv w7 n i) = none from if_neg he]
      obtain ⟨m', l1, l2⟩ := ih fu (i + 1) m1 (by omega) (by omega) (hM.tg g2)
      exact ⟨m', g2.tr l1, l2⟩
    rcases k3 with ⟨e1, z, e2, e3, e4⟩ | ⟨e1, e3⟩
    · rw [e1, if_pos rfl, show (49 : Int32) = nI 49 from rfl, gr_n (show 49 < 54 by omega) (by decide), Option.bind_some, e4]
      by_cases hz : z = q
      · subst hz
        rw [if_pos rfl, show fo B kd sn a n z none (tv w7 n i) = some (tv w7 n i) from if_pos e3, fo_some]
        exact ⟨m1, g2, rfl, h17⟩
      · rw [if_neg (fun r => hz ((nI_eq (by omega) (by omega)).mp r))]
        exact next (by rw [e3]; exact fun r => hz (Option.some.inj r))
    · rw [if_neg e1]
      exact next (by rw [e3]; simp)
theorem fo_no {B n q : Nat} {kd sn : Nat → Nat} {a : TK} (hn : n < 5) : ∀ s R, ib B n R = false → fo B kd sn a n q s R = s := by
  intro s R h
  unfold fo
  rw [ev_no hn h]
  cases s <;> rfl
theorem layF2 {B q : Nat} {kd sn : Nat → Nat} {a : TK} (hq : q < 10) : ∀ (r fu n : Nat) (m : St), n + r = 5 → r < fu → BM B kd sn a m → ∃ m', fm_layFewest_2 fu (nI B) (nI q) (nI n) m = some (FE B kd sn a q true r n, m') ∧ m'.1 0 17 = FE B kd sn a q false r n ∧ TG m m' := by
  intro r
  induction r with
  | zero =>
    intro fu n m h1 hf hM
    obtain ⟨fu, rfl⟩ : ∃ f, fu = f + 1 := ⟨fu - 1, by omega⟩
    obtain rfl : n = 5 := by omega
    rw [fm_layFewest_2, if_pos (show (5 : Int32) ≤ nI 5 by decide)]
    exact ⟨_, rfl, wr_same _ _ _ _, TG.wr⟩
  | succ r ih =>
    intro fu n m h1 hf hM
    obtain ⟨fu, rfl⟩ : ∃ f, fu = f + 1 := ⟨fu - 1, by omega⟩
    have hp := sev_pow (show n < 5 by omega)
    rw [fm_layFewest_2, if_neg (show ¬ (5 : Int32) ≤ nI n from nI_ge (b := 5) (by omega) (by decide)), show (0 : Int32) = nI 0 from rfl]
    obtain ⟨m1, g1, e1⟩ := layF10 (fm_layFewest_2 fu) (show n < 5 by omega) hq (7 ^ n) 4096 0 m (by omega) (by omega) hM
    rw [rg_m, fold_eq _ (fo_no (show n < 5 by omega))] at e1
    rw [FE, FE]
    unfold LR
    cases hL : (RV (wl B) n).foldl (fo B kd sn a n q) none with
    | none =>
      rw [hL] at e1
      have e1 : _ = _ := e1
      rw [e1]
      obtain ⟨m', l1, l2, l3⟩ := ih fu (n + 1) m1 (by omega) (by omega) (hM.tg g1)
      exact ⟨m', l1, l2, g1.tr l3⟩
    | some R =>
      rw [hL] at e1
      exact ⟨m1, e1.1, e1.2, g1⟩
theorem layFewest_m {B q : Nat} {kd sn : Nat → Nat} {a : TK} {m : St} (hq : q < 10) (hM : BM B kd sn a m) : ∃ m', fm_layFewest (nI B) (nI q) m = some (FE B kd sn a q true 5 0, m') ∧ m'.1 0 17 = FE B kd sn a q false 5 0 ∧ TG m m' := layF2 hq 5 4096 0 m (by omega) (by omega) hM
theorem ca_fewest {x m : St} (h : RR x m) (b c : Int32) : CA (fx_fewest b c x) (fm_fewest b c m) := by
  have hR := h
  obtain ⟨n, P, mk, ch, hm, kd, D, hB, hX, hM, hI⟩ := h.rb
  have h64 : D.1 < 64 := Nat.lt_of_lt_of_le hI.1 (p_le hB.2.1.1)
  unfold fx_fewest fm_fewest
  rcases isSense_e b with ⟨h1, h2⟩ | ⟨q, hq, rfl, h1, h2⟩
  · rw [h1, h2]
    exact ⟨_, _, _, rfl, rfl, hR⟩
  have bx := BX.of hB hX hI hI.1
  obtain ⟨x1, e1, hW, f1⟩ := by_x (show D.1 < 128 by omega) x
  obtain ⟨x', e2, f2⟩ := fewest26 hq c 5 4096 0 x1 (by omega) (by omega) (bx.fw f1) hW (by rw [f1.1 13 (by omega) (by omega)]; exact hX.1)
  obtain ⟨m', l1, l2, l3⟩ := layFewest_m hq (BM.of hB hM hI hI.1)
  rw [h1, h2, Option.bind_some, Option.bind_some, if_neg (show ¬ (1 : Int32) = 0 by decide), if_neg (show ¬ (1 : Int32) = 0 by decide), hX.1, e1, Option.bind_some, show (0 : Int32) = nI 0 from rfl, gr_n (show 0 < 54 by omega) (by decide), show m.1 3 0 = _ from hM.1, Option.bind_some, e2, l1, Option.bind_some, lb, l2]
  have hR' : RR x' m' := hR.scr (f1.fq.sw.tr f2.sw) l3.sn (f2.2.trans (f1.2.trans (hB.2.2.2.2.trans l3.2.2.2.symm)))
  by_cases hc : c = nI 0
  · rw [if_pos hc, decide_eq_true (show c = 0 from hc)]
    exact ⟨_, _, _, rfl, rfl, hR'⟩
  · rw [if_neg hc, decide_eq_false (show ¬ c = 0 from hc)]
    exact ⟨_, _, _, rfl, rfl, hR'⟩
