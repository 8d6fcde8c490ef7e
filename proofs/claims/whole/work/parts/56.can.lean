/-! what can be told -/
section CAN
variable {B : Nat} {kd sn : Nat → Nat} {a : TK}
theorem pl_z {n R z : Nat} (hn : n < 1000) (h : (PL B kd sn a n R).1 = some z) : ¬ cd (PL B kd sn a n R).1 = -9 := fun q => by
  rw [(PL_9 hn).mp q] at h
  cases h
theorem play_x2 {x : St} {n R : Nat} (h : BX B kd sn a x) (hn : n < 1000) (hR : R < 2 ^ 31) : ∃ v x', fx_play (nI n) (nI R) (nI B) x = some (v, x') ∧ FT 11 x x' ∧ ((v = -9 ∧ ∃ q, q < 10 ∧ EV B kd sn a n R = some q ∧ x'.1 11 0 = nI q) ∨ (¬ v = -9 ∧ EV B kd sn a n R = none)) := by
  obtain ⟨x', k1, k2, k3, k4⟩ := play_x h hn hR
  refine ⟨_, x', k1, k2, ?_⟩
  unfold EV
  cases e : (PL B kd sn a n R).1 with
  | none => exact Or.inl ⟨rfl, _, k4, rfl, k3⟩
  | some z =>
    refine Or.inr ⟨?_, rfl⟩
    have := pl_z hn e
    rw [e] at this
    exact this
theorem play_m2 {m : St} {n R : Nat} (h : BM B kd sn a m) (hn : n < 6) (hR : R < 2 ^ 31) (hx : ∀ q, EV B kd sn a n R = some q → q < 10) : ∃ v m', fm_sayRow (nI B) (nI n) (nI R) m = some (v, m') ∧ TF m m' ∧ ((v = -9 ∧ ∃ q, q < 10 ∧ EV B kd sn a n R = some q ∧ m'.1 3 49 = nI q) ∨ (¬ v = -9 ∧ EV B kd sn a n R = none)) := by
  obtain ⟨m', k1, k2, k3⟩ := play_m h hn hR
  refine ⟨_, m', k1, k2, ?_⟩
  have hx' := hx
  unfold EV at hx' ⊢
  cases e : (PL B kd sn a n R).1 with
  | none =>
    rw [e] at hx'
    exact Or.inl ⟨rfl, _, hx' _ rfl, rfl, k3⟩
  | some z =>
    refine Or.inr ⟨?_, rfl⟩
    have := pl_z (show n < 1000 by omega) e
    rw [e] at this
    exact this
theorem pl_ti : ∀ (ds : List Nat) (i : Nat) (b : TK), TI b → (∀ j, j < 7 → B.testBit j = true → sn j < 40) → TI (pl B kd sn i b ds).2 := by
  intro ds
  induction ds with
  | nil => intro i b h hs; exact h
  | cons d ds ih =>
    intro i b h hs
    rw [pl]
    cases ho : ok B kd b d with
    | false => exact h
    | true =>
      rw [if_pos rfl]
      unfold ok at ho
      simp only [Bool.and_eq_true, decide_eq_true_eq] at ho
      exact ih _ _ (ut_ok h (hs (d - 1) (by omega) ho.2.1)) hs
theorem ev_lt {n R : Nat} (ha : TI a) (hs : ∀ j, j < 7 → B.testBit j = true → sn j < 40) : ∀ q, EV B kd sn a n R = some q → q < 10 := by
  intro q h
  unfold EV at h
  cases e : (PL B kd sn a n R).1 with
  | none =>
    rw [e] at h
    cases h
    exact (pl_ti _ _ _ ha hs).1
  | some z => rw [e] at h; cases h
theorem BM.lt {m : St} {n R : Nat} (h : BM B kd sn a m) : ∀ q, EV B kd sn a n R = some q → q < 10 := ev_lt h.2.1 (fun j hj hb => (h.2.2.2.2.1 j hj hb).1)
theorem BX.lt {x : St} {n R : Nat} (h : BX B kd sn a x) : ∀ q, EV B kd sn a n R = some q → q < 10 := ev_lt h.2.1 (fun j hj hb => (h.2.2.2.2.1 j hj hb).1)
theorem BX.ft {x x' : St} (h : BX B kd sn a x) (f : FT 11 x x') : BX B kd sn a x' := h.fr (fun d q => f.1 d (by omega) (by omega)) (by rw [f.1 0 (by omega) (by omega)])
theorem BX.fw {x x' : St} (h : BX B kd sn a x) (f : FW x x') : BX B kd sn a x' := h.fr (fun d q => f.1 d (by omega) (by omega)) (by rw [f.1 0 (by omega) (by omega)])
theorem BM.tf {m m' : St} (h : BM B kd sn a m) (f : TF m m') : BM B kd sn a m' := h.fr (f.1 2 (by omega)) f.2.1 (by rw [f.1 0 (by omega)]) (by rw [f.1 0 (by omega)])
end CAN
theorem WH.ft {l : List Nat} {x x' : St} (h : WH l x) (f : FT 11 x x') : WH l x' := h.fr (f.1 9 (by omega) (by omega)) (f.1 10 (by omega) (by omega))
theorem len_pow {B n : Nat} (hB : B < 128) (hn : n < 5) : (wl B).length ^ n < 4096 := by
  have h1 := (wl_ok B hB).1
  have h2 := Nat.pow_le_pow_left h1 n
  have h3 : 7 ^ n ≤ 7 ^ 4 := Nat.pow_le_pow_right (by decide) (by omega)
  have h4 : (7 : Nat) ^ 4 = 2401 := by decide
  omega
theorem sev_pow {n : Nat} (hn : n < 5) : 7 ^ n < 4096 := by
  have h3 : 7 ^ n ≤ 7 ^ 4 := Nat.pow_le_pow_right (by decide) (by omega)
  have h4 : (7 : Nat) ^ 4 = 2401 := by decide
  omega
theorem tv_31 {l : List Nat} (hl : ∀ j, l.getD j 0 < 7) {n : Nat} (hn : n < 5) (v : Nat) : tv l n v < 2 ^ 31 := Nat.lt_trans (tv_lt hl n v) (ten_lt (by omega))
def stO (B : Nat) (kd sn : Nat → Nat) (a : TK) (n s R : Nat) : Nat := match EV B kd sn a n R with
  | none => s
  | some q => s ||| 2 ^ q
theorem senses33 {B n : Nat} {kd sn : Nat → Nat} {a : TK} (k13 : Int32 → Int32 → Int32 → Int32 → St → Option (Int32 × St)) (N : Int32) (hn : n < 5) : ∀ (r fu i s : Nat) (x : St), i + r = (wl B).length ^ n → r < fu → BX B kd sn a x → WH (wl B) x → ∃ x', fx_sensesBy_33 k13 fu (nI B) N (nI s) (nI n) (nI ((wl B).length ^ n)) (nI i) x = k13 (nI B) N (nI (((List.range' i r).map (tv (wl B) n)).foldl (stO B kd sn a n) s)) (nI (n + 1)) x' ∧ FT 11 x x' := by
  intro r
  induction r with
  | zero =>
    intro fu i s x h1 hf hX hW
    obtain ⟨fu, rfl⟩ : ∃ f, fu = f + 1 := ⟨fu - 1, by omega⟩
    have hB := hX.2.2.2.2.2
    have := len_pow hB hn
    rw [fx_sensesBy_33, if_pos (nI_le (show (wl B).length ^ n ≤ i by omega) (by omega)), nI_1]
    exact ⟨x, rfl, FT.rf⟩
  | succ r ih =>
    intro fu i s x h1 hf hX hW
    obtain ⟨fu, rfl⟩ : ∃ f, fu = f + 1 := ⟨fu - 1, by omega⟩
    have hB := hX.2.2.2.2.2
    have := len_pow hB hn
    rw [fx_sensesBy_33, if_neg (nI_ge (show i < (wl B).length ^ n by omega) (by omega)), told_x hW (wl_ok B hB).1 (by omega) (by omega) (by omega), Option.bind_some, List.range'_succ, List.map_cons, List.foldl_cons]
    obtain ⟨v, x1, k1, k2, k3⟩ := play_x2 (n := n) (R := tv (wl B) n i) hX (by omega) (tv_31 (wl_get hB) hn i)
    rw [k1, Option.bind_some]
    unfold fx_sensesBy_75
    rw [nI_1]
    rcases k3 with ⟨e1, q, e2, e3, e4⟩ | ⟨e1, e3⟩
    · rw [e1, if_pos rfl, e4, bit_1 (by omega), lb, nO]
      obtain ⟨x', l1, l2⟩ := ih fu (i + 1) (s ||| 2 ^ q) x1 (by omega) (by omega) (hX.ft k2) (hW.ft k2)
      refine ⟨x', ?_, k2.tr l2⟩
      rw [show stO B kd sn a n s (tv (wl B) n i) = s ||| 2 ^ q by unfold stO; rw [e3]]
      exact l1
    · rw [if_neg e1]
      obtain ⟨x', l1, l2⟩ := ih fu (i + 1) s x1 (by omega) (by omega) (hX.ft k2) (hW.ft k2)
      refine ⟨x', ?_, k2.tr l2⟩
      rw [show stO B kd sn a n s (tv (wl B) n i) = s by unfold stO; rw [e3]]
      exact l1
theorem canBy14 {B n : Nat} {kd sn : Nat → Nat} {a : TK} (k5 : Int32 → Int32 → Int32 → Int32 → St → Option (Int32 × St)) (N : Int32) (hn : n < 5) : ∀ (r fu i s : Nat) (m : St), i + r = 7 ^ n → r < fu → BM B kd sn a m → ∃ m', fm_canBy_14 k5 fu (nI B) N (nI s) (nI n) (nI i) m = k5 (nI B) N (nI (((List.range' i r).map (tv w7 n)).foldl (stO B kd sn a n) s)) (nI (n + 1)) m' ∧ TF m m' := by
  have := sev_pow hn
  intro r
  induction r with
  | zero =>
    intro fu i s m h1 hf hM
    obtain ⟨fu, rfl⟩ : ∃ f, fu = f + 1 := ⟨fu - 1, by omega⟩
    rw [fm_canBy_14, sevens_n n hn, Option.bind_some, if_pos (nI_le (show 7 ^ n ≤ i by omega) (by omega)), nI_1]
    exact ⟨m, rfl, TF.rf⟩
  | succ r ih =>
    intro fu i s m h1 hf hM
    obtain ⟨fu, rfl⟩ : ∃ f, fu = f + 1 := ⟨fu - 1, by omega⟩
    rw [fm_canBy_14, sevens_n n hn, Option.bind_some, if_neg (nI_ge (show i < 7 ^ n by omega) (by omega)), rowOf_m (by omega) (by omega), Option.bind_some, List.range'_succ, List.map_cons, List.foldl_cons]
    obtain ⟨v, m1, k1, k2, k3⟩ := play_m2 (n := n) (R := tv w7 n i) hM (by omega) (tv_31 w7_lt hn i) hM.lt
    rw [k1, Option.bind_some]
    unfold fm_canBy_57
    rw [nI_1]
    rcases k3 with ⟨e1, q, e2, e3, e4⟩ | ⟨e1, e3⟩
    · rw [e1, if_pos rfl, show (49 : Int32) = nI 49 from rfl, gr_n (show 49 < 54 by omega) (by decide), Option.bind_some, e4, bit_1 (by omega), lb, nO]
      obtain ⟨m', l1, l2⟩ := ih fu (i + 1) (s ||| 2 ^ q) m1 (by omega) (by omega) (hM.tf k2)
      refine ⟨m', ?_, k2.tr l2⟩
      rw [show stO B kd sn a n s (tv w7 n i) = s ||| 2 ^ q by unfold stO; rw [e3]]
      exact l1
    · rw [if_neg e1, lb, show nI s ||| (0 : Int32) = nI s from by rw [show (0 : Int32) = nI 0 from rfl, nO, Nat.or_zero]]
      obtain ⟨m', l1, l2⟩ := ih fu (i + 1) s m1 (by omega) (by omega) (hM.tf k2)
      refine ⟨m', ?_, k2.tr l2⟩
      rw [show stO B kd sn a n s (tv w7 n i) = s by unfold stO; rw [e3]]
      exact l1
def sbf (B : Nat) (kd sn : Nat → Nat) (a : TK) : Nat → Nat → Nat → Nat
  | 0, _, s => s
  | r + 1, n, s => sbf B kd sn a r (n + 1) ((RV (wl B) n).foldl (stO B kd sn a n) s)
theorem rg_x (B n : Nat) : (List.range' 0 ((wl B).length ^ n)).map (tv (wl B) n) = RV (wl B) n := by rw [← List.range_eq_range', tv_all]
theorem rg_m (n : Nat) : (List.range' 0 (7 ^ n)).map (tv w7 n) = RV w7 n := by rw [← List.range_eq_range']; exact tv_all w7 n
theorem sens13 {B N : Nat} {kd sn : Nat → Nat} {a : TK} (hN : N < 5) : ∀ (r fu n s : Nat) (x : St), n + r = N + 1 → r < fu → BX B kd sn a x → WH (wl B) x → ∃ x', fx_sensesBy_13 fu (nI B) (nI N) (nI s) (nI n) x = some (nI (sbf B kd sn a r n s), x') ∧ FT 11 x x' := by
  intro r
  induction r with
  | zero =>
    intro fu n s x h1 hf hX hW
    obtain ⟨fu, rfl⟩ : ∃ f, fu = f + 1 := ⟨fu - 1, by omega⟩
    rw [fx_sensesBy_13, if_pos (nI_lt (show N < n by omega) (by omega))]
    exact ⟨x, rfl, FT.rf⟩
  | succ r ih =>
    intro fu n s x h1 hf hX hW
    obtain ⟨fu, rfl⟩ : ∃ f, fu = f + 1 := ⟨fu - 1, by omega⟩
    have hB := hX.2.2.2.2.2
    have hp := len_pow hB (show n < 5 by omega)
    rw [fx_sensesBy_13, if_neg (nI_nlt (show n ≤ N by omega) (by omega)), many_x hW (wl_ok B hB).1 (by omega), Option.bind_some, lb, show (0 : Int32) = nI 0 from rfl]
    obtain ⟨x1, e1, f1⟩ := senses33 (fx_sensesBy_13 fu) (nI N) (show n < 5 by omega) ((wl B).length ^ n) 4096 0 s x (by omega) (by omega) hX hW
    rw [e1, rg_x]
    obtain ⟨x', e2, f2⟩ := ih fu (n + 1) ((RV (wl B) n).foldl (stO B kd sn a n) s) x1 (by omega) (by omega) (hX.ft f1) (hW.ft f1)
    exact ⟨x', e2, f1.tr f2⟩
theorem stO_no {B n : Nat} {kd sn : Nat → Nat} {a : TK} (hn : n < 5) : ∀ s R, ib B n R = false → stO B kd sn a n s R = s := by
  intro s R h
  unfold stO
  rw [ev_no hn h]
theorem canBy5 {B N : Nat} {kd sn : Nat → Nat} {a : TK} (hN : N < 5) : ∀ (r fu n s : Nat) (m : St), n + r = N + 1 → r < fu → BM B kd sn a m → ∃ m', fm_canBy_5 fu (nI B) (nI N) (nI s) (nI n) m = some (nI (sbf B kd sn a r n s), m') ∧ TF m m' := by
  intro r
  induction r with
  | zero =>
    intro fu n s m h1 hf hM
    obtain ⟨fu, rfl⟩ : ∃ f, fu = f + 1 := ⟨fu - 1, by omega⟩
    rw [fm_canBy_5, if_pos (nI_lt (show N < n by omega) (by omega))]
    exact ⟨m, rfl, TF.rf⟩
  | succ r ih =>
    intro fu n s m h1 hf hM
    obtain ⟨fu, rfl⟩ : ∃ f, fu = f + 1 := ⟨fu - 1, by omega⟩
    have hp := sev_pow (show n < 5 by omega)
    rw [fm_canBy_5, if_neg (nI_nlt (show n ≤ N by omega) (by omega)), show (0 : Int32) = nI 0 from rfl]
    obtain ⟨m1, e1, f1⟩ := canBy14 (fm_canBy_5 fu) (nI N) (show n < 5 by omega) (7 ^ n) 4096 0 s m (by omega) (by omega) hM
    rw [e1, rg_m, fold_eq _ (stO_no (show n < 5 by omega))]
    obtain ⟨m', e2, f2⟩ := ih fu (n + 1) ((RV (wl B) n).foldl (stO B kd sn a n) s) m1 (by omega) (by omega) (hM.tf f1)
    exact ⟨m', e2, f1.tr f2⟩
def SB (B : Nat) (kd sn : Nat → Nat) (a : TK) (N : Nat) : Nat := sbf B kd sn a (N + 1) 0 0
/-- rows, who and the trial alone moved -/
def FQ (w w' : St) : Prop := (∀ d, (d < 9 ∨ 13 ≤ d) → w'.1 d = w.1 d) ∧ w'.2 = w.2
theorem FQ.rf {x : St} : FQ x x := ⟨fun _ _ => rfl, rfl⟩
theorem FQ.tr {x x' x'' : St} (h : FQ x x') (h2 : FQ x' x'') : FQ x x'' := ⟨fun d q => (h2.1 d q).trans (h.1 d q), h2.2.trans h.2⟩
theorem FQ.sw {x x' : St} (h : FQ x x') : SW x x' := ⟨fun d _ b => h.1 d (by omega), fun j _ => by rw [h.1 0 (by omega)]⟩
theorem FT.fq {x x' : St} (h : FT 11 x x') : FQ x x' := ⟨fun d q => h.1 d (by omega) (by omega), h.2⟩
theorem FW.fq {x x' : St} (h : FW x x') : FQ x x' := ⟨fun d q => h.1 d (by omega) (by omega), h.2⟩
theorem BX.fq {B : Nat} {kd sn : Nat → Nat} {a : TK} {x x' : St} (h : BX B kd sn a x) (f : FQ x x') : BX B kd sn a x' := h.fr (fun d q => f.1 d (by omega)) (by rw [f.1 0 (by omega)])
theorem senses_x {B N : Nat} {kd sn : Nat → Nat} {a : TK} {x : St} (hN : N < 5) (hX : BX B kd sn a x) : ∃ x', fx_sensesBy (nI B) (nI N) x = some (nI (SB B kd sn a N), x') ∧ FQ x x' := by
  obtain ⟨x1, e1, hW, f1⟩ := by_x hX.2.2.2.2.2 x
  obtain ⟨x', e2, f2⟩ := sens13 hN (N + 1) 4096 0 0 x1 (by omega) (by omega) (hX.fw f1) hW
  unfold fx_sensesBy
  rw [e1, Option.bind_some]
  exact ⟨x', e2, f1.fq.tr f2.fq⟩
theorem canBy_m {B N : Nat} {kd sn : Nat → Nat} {a : TK} {m : St} (hN : N < 5) (hM : BM B kd sn a m) : ∃ m', fm_canBy (nI B) (nI N) m = some (nI (SB B kd sn a N), m') ∧ TF m m' := by
  obtain ⟨m', e2, f2⟩ := canBy5 hN (N + 1) 4096 0 0 m (by omega) (by omega) hM
  exact ⟨m', e2, f2⟩
theorem stO_lt {B n : Nat} {kd sn : Nat → Nat} {a : TK} (hl : ∀ n R q, EV B kd sn a n R = some q → q < 10) {s R : Nat} (h : s < 1024) : stO B kd sn a n s R < 1024 := by
  unfold stO
  cases e : EV B kd sn a n R with
  | none => exact h
  | some q => exact Nat.or_lt_two_pow (n := 10) h (Nat.pow_lt_pow_right (by decide) (hl n R q e))
theorem foldO_lt {B n : Nat} {kd sn : Nat → Nat} {a : TK} (hl : ∀ n R q, EV B kd sn a n R = some q → q < 10) : ∀ (L : List Nat) (s : Nat), s < 1024 → L.foldl (stO B kd sn a n) s < 1024 := by
  intro L
  induction L with
  | nil => exact fun s h => h
  | cons R L ih => exact fun s h => ih _ (stO_lt hl h)
theorem sbf_lt {B : Nat} {kd sn : Nat → Nat} {a : TK} (hl : ∀ n R q, EV B kd sn a n R = some q → q < 10) : ∀ (r n s : Nat), s < 1024 → sbf B kd sn a r n s < 1024 := by
  intro r
  induction r with
  | zero => exact fun n s h => h
  | succ r ih => exact fun n s h => ih _ _ (foldO_lt hl _ _ h)
theorem SB_lt {B N : Nat} {kd sn : Nat → Nat} {a : TK} (hl : ∀ n R q, EV B kd sn a n R = some q → q < 10) : SB B kd sn a N < 1024 := sbf_lt hl _ _ _ (by decide)
theorem ca_can {x m : St} (h : RR x m) (b : Int32) : CA (fx_can b x) (fm_can b m) := by
  have hR := h
  obtain ⟨n, P, mk, ch, hm, kd, D, hB, hX, hM, hI⟩ := h.rb
  have h64 : D.1 < 64 := Nat.lt_of_lt_of_le hI.1 (p_le hB.2.1.1)
  unfold fx_can fm_can
  rcases in_ab (lo := 0) (hi := 3) b 0 3 0 3 rfl rfl rfl rfl (by decide) (by decide) with ⟨h1, h2⟩ | ⟨N, -, v2, rfl, h2⟩
  · rw [h2]
    by_cases q : b < 0
    · rw [if_pos q]; exact ⟨_, _, _, rfl, rfl, hR⟩
    · rw [if_neg q, if_neg (fun z => h1 ⟨by rw [le_lt]; exact q, z⟩)]; exact ⟨_, _, _, rfl, rfl, hR⟩
  obtain ⟨x', k1, k2⟩ := senses_x (N := N) (by omega) (BX.of hB hX hI hI.1)
  obtain ⟨m', l1, l2⟩ := canBy_m (N := N) (by omega) (BM.of hB hM hI hI.1)
  rw [h2, Option.bind_some, if_neg (nI_pos (show N < 2 ^ 31 by omega)), if_pos (show nI N ≤ (3 : Int32) from nI_le (b := 3) v2 (by decide)), if_neg (show ¬ (1 : Int32) = 0 by decide), hX.1, show (0 : Int32) = nI 0 from rfl, gr_n (show 0 < 54 by omega) (by decide), show m.1 3 0 = _ from hM.1, Option.bind_some, k1, l1]
  exact ⟨_, _, _, rfl, rfl, hR.scr k2.sw l2.sn (k2.2.trans (hB.2.2.2.2.trans l2.2.2.symm))⟩
