/-! shares -/
def sbs (a b : Nat) : Prop := ∀ i, a.testBit i = true → b.testBit i = true
theorem pl_mono {B C : Nat} {kd sn : Nat → Nat} (hs : sbs B C) : ∀ (ds : List Nat) (i : Nat) (a : TK), (pl B kd sn i a ds).1 = none → pl C kd sn i a ds = pl B kd sn i a ds := by
  intro ds
  induction ds with
  | nil => intro i a _; rfl
  | cons d ds ih =>
    intro i a h
    rw [pl] at h ⊢
    rw [pl]
    cases ho : ok B kd a d with
    | false => rw [ho] at h; cases h
    | true =>
      have ho2 : ok C kd a d = true := by
        unfold ok at ho ⊢
        simp only [Bool.and_eq_true] at ho ⊢
        exact ⟨ho.1, hs _ ho.2.1, ho.2.2⟩
      rw [ho, if_pos rfl] at h
      rw [ho2, if_pos rfl, if_pos rfl]
      exact ih _ _ h
theorem EV.mono {B C : Nat} {kd sn : Nat → Nat} {a : TK} {n R q : Nat} (hs : sbs B C) (h : EV B kd sn a n R = some q) : EV C kd sn a n R = some q := by
  have h1 : (PL B kd sn a n R).1 = none := by
    unfold EV at h
    cases e : (PL B kd sn a n R).1 with
    | none => rfl
    | some z => rw [e] at h; cases h
  have h2 : PL C kd sn a n R = PL B kd sn a n R := pl_mono hs _ _ _ h1
  unfold EV at h ⊢
  rw [h2]
  exact h
theorem stO.mono {B C : Nat} {kd sn : Nat → Nat} {a : TK} {n R s t : Nat} (hs : sbs B C) (h : sbs s t) : sbs (stO B kd sn a n s R) (stO C kd sn a n t R) := by
  intro i hi
  unfold stO at hi ⊢
  cases e : EV B kd sn a n R with
  | none =>
    rw [e] at hi
    have hi : s.testBit i = true := hi
    cases e2 : EV C kd sn a n R with
    | none => exact h i hi
    | some q =>
      show (t ||| 2 ^ q).testBit i = true
      rw [Nat.testBit_or, h i hi, Bool.true_or]
  | some q =>
    rw [e] at hi
    rw [EV.mono hs e]
    have hi : (s ||| 2 ^ q).testBit i = true := hi
    show (t ||| 2 ^ q).testBit i = true
    rw [Nat.testBit_or, Bool.or_eq_true] at hi ⊢
    rcases hi with hi | hi
    · exact Or.inl (h i hi)
    · exact Or.inr hi
theorem foldO.mono {B C : Nat} {kd sn : Nat → Nat} {a : TK} {n : Nat} (hs : sbs B C) : ∀ (L : List Nat) (s t : Nat), sbs s t → sbs (L.foldl (stO B kd sn a n) s) (L.foldl (stO C kd sn a n) t) := by
  intro L
  induction L with
  | nil => exact fun s t h => h
  | cons R L ih => exact fun s t h => ih _ _ (stO.mono hs h)
theorem sbf.mono {B C : Nat} {kd sn : Nat → Nat} {a : TK} (hs : sbs B C) : ∀ (r n s t : Nat), n + r ≤ 5 → sbs s t → sbs (sbf B kd sn a r n s) (sbf C kd sn a r n t) := by
  intro r
  induction r with
  | zero => exact fun n s t _ h => h
  | succ r ih =>
    intro n s t hn h
    rw [sbf, sbf, ← fold_eq _ (stO_no (B := B) (show n < 5 by omega)), ← fold_eq _ (stO_no (B := C) (show n < 5 by omega))]
    exact ih _ _ _ (by omega) (foldO.mono hs _ _ _ h)
theorem bit_le {a b : Nat} (h : sbs a b) (k : Nat) : a / 2 ^ k % 2 ≤ b / 2 ^ k % 2 := by
  have h1 := h k
  rw [Nat.testBit_eq_decide_div_mod_eq, Nat.testBit_eq_decide_div_mod_eq, decide_eq_true_eq, decide_eq_true_eq] at h1
  omega
theorem pc_mono {a b : Nat} (h : sbs a b) : pc a ≤ pc b := by
  have h0 := bit_le h 0
  have h1 := bit_le h 1
  have h2 := bit_le h 2
  have h3 := bit_le h 3
  have h4 := bit_le h 4
  have h5 := bit_le h 5
  have h6 := bit_le h 6
  have h7 := bit_le h 7
  have h8 := bit_le h 8
  have h9 := bit_le h 9
  unfold pc
  simp only [Nat.reducePow, Nat.div_one] at h0 h1 h2 h3 h4 h5 h6 h7 h8 h9
  omega
/-- how many senses those of S come to -/
def PS (kd sn : Nat → Nat) (a : TK) (N S : Nat) : Nat := pc (SB S kd sn a N)
theorem PS_mono {kd sn : Nat → Nat} {a : TK} {N S T : Nat} (hN : N < 5) (h : sbs S T) : PS kd sn a N S ≤ PS kd sn a N T := pc_mono (sbf.mono h _ _ _ _ (by omega) (fun _ h => h))
def fac : Nat → Nat
  | 0 => 1
  | k + 1 => (k + 1) * fac k
theorem orders_x : ∀ k, k < 7 → ∀ w : St, fx_orders (nI k) w = some (nI (fac k), w) := by
  intro k hk w
  unfold fx_orders
  rw [if_neg (nI_pos (by omega)), if_neg (show ¬ (7 : Int32) ≤ nI k from nI_ge (b := 7) hk (by decide)), gr_n hk (by decide), Option.bind_some, (show ∀ k, k < 7 → ordF k = nI (fac k) by decide +kernel) k hk]
theorem fac_m : ∀ k, k < 7 → fm_factorial (nI k) = some (nI (fac k)) := by decide +kernel
theorem fac_le : ∀ k, k < 7 → fac k ≤ 720 ∧ 0 < fac k := by decide +kernel
def ckA (D p S : Nat) : Bool := !D.testBit p || (decide (sb S (sb D (2 ^ p)) = 0) == (decide (sb S D = 0) && !S.testBit p))
theorem sub_iff0 : ∀ D, D < 64 → ∀ p, p < 6 → ∀ S, S < 64 → ckA D p S = true := by decide +kernel
theorem sub_iff (D : Nat) (h : D < 64) (p : Nat) (h2 : p < 6) (hb : D.testBit p = true) (S : Nat) (h3 : S < 64) : (sb S (sb D (2 ^ p)) = 0 ↔ sb S D = 0 ∧ S.testBit p = false) := by
  have := sub_iff0 D h p h2 S h3
  unfold ckA at this
  rw [hb, Bool.not_true, Bool.false_or, beq_iff_eq] at this
  by_cases c1 : sb S (sb D (2 ^ p)) = 0
  · rw [decide_eq_true c1] at this
    have := this.symm
    rw [Bool.and_eq_true, decide_eq_true_eq, Bool.not_eq_true'] at this
    exact ⟨fun _ => this, fun _ => c1⟩
  · rw [decide_eq_false c1] at this
    refine ⟨fun q => absurd q c1, fun q => ?_⟩
    rw [decide_eq_true q.1, q.2] at this
    cases this
theorem pc_one : ∀ D, D < 64 → ∀ p, p < 6 → D.testBit p = true → pc D = pc (sb D (2 ^ p)) + 1 ∧ pc (sb D (2 ^ p)) < 6 ∧ sb D (2 ^ p) ≤ D := by decide +kernel
theorem pc_sub : ∀ A, A < 64 → ∀ S, S < 64 → sb S A = 0 → pc S ≤ pc A := by decide +kernel
def ckB (D p S : Nat) : Bool := !(D.testBit p && decide (sb S D = 0)) || (decide (S ||| 2 ^ p ≤ D) && decide (sb (S ||| 2 ^ p) D = 0))
theorem or_in0 : ∀ D, D < 64 → ∀ p, p < 6 → ∀ S, S < 64 → ckB D p S = true := by decide +kernel
theorem or_in (D : Nat) (h : D < 64) (p : Nat) (h2 : p < 6) (hb : D.testBit p = true) (S : Nat) (h3 : S < 64) (h4 : sb S D = 0) : S ||| 2 ^ p ≤ D ∧ sb (S ||| 2 ^ p) D = 0 := by
  have := or_in0 D h p h2 S h3
  unfold ckB at this
  rw [hb, decide_eq_true h4, Bool.true_and, Bool.not_true, Bool.false_or, Bool.and_eq_true, decide_eq_true_eq, decide_eq_true_eq] at this
  exact this
theorem sbs_or (S t : Nat) : sbs S (S ||| t) := fun i h => by rw [Nat.testBit_or, h, Bool.true_or]
/-- the sum over the sets from S on -/
def sh (kd sn : Nat → Nat) (a : TK) (N p A : Nat) : Nat → Nat → Nat → Nat
  | 0, _, s => s
  | r + 1, S, s => sh kd sn a N p A r (S + 1) (if sb S A = 0 then s + fac (pc S) * fac (pc A - pc S) * (PS kd sn a N (S ||| 2 ^ p) - PS kd sn a N S) else s)
theorem sh_tail {kd sn : Nat → Nat} {a : TK} {N p A : Nat} (hA : A < 64) : ∀ (r S s : Nat), A < S → S + r ≤ 64 → sh kd sn a N p A r S s = s := by
  intro r
  induction r with
  | zero => intro S s _ _; rfl
  | succ r ih =>
    intro S s h h2
    rw [sh, if_neg (fun q => by have := sb_0 S (by omega) A hA q; omega)]
    exact ih (S + 1) s (by omega) (by omega)
theorem sh_add {kd sn : Nat → Nat} {a : TK} {N p A : Nat} : ∀ (r k S s : Nat), sh kd sn a N p A (r + k) S s = sh kd sn a N p A k (S + r) (sh kd sn a N p A r S s) := by
  intro r
  induction r with
  | zero => intro k S s; rw [Nat.zero_add]; rfl
  | succ r ih =>
    intro k S s
    rw [show r + 1 + k = (r + k) + 1 by omega, sh, ih, sh, show S + 1 + r = S + (r + 1) by omega]
theorem wt_le {A S : Nat} {kd sn : Nat → Nat} {a : TK} {N T : Nat} (h : pc A < 6) (hS : pc S ≤ pc A) : fac (pc S) * fac (pc A - pc S) * (PS kd sn a N T - PS kd sn a N S) ≤ 5184000 := by
  have h1 := (fac_le (pc S) (by omega)).1
  have h2 := (fac_le (pc A - pc S) (by omega)).1
  have h3 : PS kd sn a N T - PS kd sn a N S ≤ 10 := Nat.le_trans (Nat.sub_le _ _) (pc_le _)
  exact Nat.mul_le_mul (Nat.mul_le_mul h1 h2) h3
section SHARE
variable {n P mk : Nat} {ch hm kd : Nat → Nat} {D : DT} {x m : St}
theorem gain_x (hB : RB n P mk ch hm kd x m) (hX : XD 13 D x) (hI : DI P D) {N p S : Nat} (hN : N < 5) (hp : p < 6) (hS : S < 2 ^ P) (hSp : S ||| 2 ^ p < 2 ^ P) {x1 : St} (hF : FQ x x1) : ∃ x', fx_gain (nI S) (nI p) (nI N) x1 = some (nI (PS kd D.2.2.1 D.2.2.2 N (S ||| 2 ^ p) - PS kd D.2.2.1 D.2.2.2 N S), x') ∧ FQ x x' := by
  have b1 := (BX.of hB hX hI hSp).fq hF
  obtain ⟨x2, k1, k2⟩ := senses_x hN b1
  have b2 := (BX.of hB hX hI hS).fq (hF.tr k2)
  obtain ⟨x3, l1, l2⟩ := senses_x hN b2
  unfold fx_gain
  rw [bit_1 (by omega), nO, k1, Option.bind_some, pc_x _ (SB_lt (fun n R => b1.lt)), Option.bind_some, l1, Option.bind_some, pc_x _ (SB_lt (fun n R => b2.lt)), Option.bind_some]
  refine ⟨x3, ?_, (hF.tr k2).tr l2⟩
  show some (nI (PS kd D.2.2.1 D.2.2.2 N (S ||| 2 ^ p)) - nI (PS kd D.2.2.1 D.2.2.2 N S), x3) = _
  rw [nS (PS_mono hN (sbs_or S (2 ^ p)))]
theorem share72 (hB : RB n P mk ch hm kd x m) (hX : XD 13 D x) (hI : DI P D) {N p : Nat} (hN : N < 5) (hp : p < 6) (hb : D.1.testBit p = true) (c : Int32) : ∀ (r fu S s : Nat) (x1 : St), S + r = sb D.1 (2 ^ p) + 1 → r < fu → s ≤ S * 5184000 → FQ x x1 → ∃ x', fx_share_72 fu (nI p) (nI N) c (nI (sb D.1 (2 ^ p))) (nI (pc (sb D.1 (2 ^ p)))) (nI s) (nI S) x1 = some (FR (sh kd D.2.2.1 D.2.2.2 N p (sb D.1 (2 ^ p)) r S s) (fac (pc D.1)) c, x') ∧ FQ x x' ∧ sh kd D.2.2.1 D.2.2.2 N p (sb D.1 (2 ^ p)) r S s < 2 ^ 31 := by
  have h64 : D.1 < 64 := Nat.lt_of_lt_of_le hI.1 (p_le hB.2.1.1)
  obtain ⟨q1, q2, q3⟩ := pc_one D.1 h64 p hp hb
  intro r
  induction r with
  | zero =>
    intro fu S s x1 h1 hf hs hF
    obtain ⟨fu, rfl⟩ : ∃ f, fu = f + 1 := ⟨fu - 1, by omega⟩
    obtain ⟨g1, g2⟩ := fac_le (pc D.1) (by omega)
    refine ⟨x1, ?_, hF, by show s < 2 ^ 31; omega⟩
    rw [fx_share_72, if_pos (nI_lt (show sb D.1 (2 ^ p) < S by omega) (by omega)), nI_1, ← q1, orders_x (pc D.1) (by omega), Option.bind_some, fraction_x c (by omega) g2 (by omega), Option.bind_some]
    rfl
  | succ r ih =>
    intro fu S s x1 h1 hf hs hF
    obtain ⟨fu, rfl⟩ : ∃ f, fu = f + 1 := ⟨fu - 1, by omega⟩
    have hle : sb S (sb D.1 (2 ^ p)) ≤ S := sb_le _ _
    rw [fx_share_72, if_neg (nI_nlt (show S ≤ sb D.1 (2 ^ p) by omega) (by omega)), n_sb (show S < 128 by omega)]
    unfold fx_share_124
    rw [nI_1]
    by_cases hz : sb S (sb D.1 (2 ^ p)) = 0
    · have hps := pc_sub _ (show sb D.1 (2 ^ p) < 64 by omega) S (by omega) hz
      have hw := wt_le (N := N) (kd := kd) (sn := D.2.2.1) (a := D.2.2.2) (T := S ||| 2 ^ p) q2 hps
      obtain ⟨o1, o2⟩ := or_in D.1 h64 p hp hb S (by omega) ((sub_iff D.1 h64 p hp hb S (by omega)).mp hz).1
      obtain ⟨x2, k1, k2⟩ := gain_x hB hX hI hN hp (show S < 2 ^ P by have := hI.1; omega) (show S ||| 2 ^ p < 2 ^ P by have := hI.1; omega) hF
      rw [hz, if_pos (show nI 0 = 0 from rfl), pc_x S (by omega), Option.bind_some, orders_x (pc S) (by omega), Option.bind_some, nS hps, orders_x (pc (sb D.1 (2 ^ p)) - pc S) (by omega), Option.bind_some, k1, Option.bind_some, lb, pk_mul, pk_mul, nI_add, sh, if_pos hz]
      exact ih fu (S + 1) _ x2 (by omega) (by omega) (by omega) k2
    · rw [if_neg (fun (r : nI (sb S (sb D.1 (2 ^ p))) = (0 : Int32)) => hz ((nI_eq (b := 0) (by omega) (by decide)).mp r)), sh, if_neg hz]
      exact ih fu (S + 1) s x1 (by omega) (by omega) (Nat.le_trans hs (Nat.mul_le_mul_right _ (Nat.le_succ S))) hF
theorem share55 (hB : RB n P mk ch hm kd x m) (hM : MD 3 0 D m) (hI : DI P D) {N : Nat} (hN : N < 5) (p c : Int32) : ∀ (r fu S : Nat) (m1 : St), S + r = D.1 + 1 → r < fu → SN m m1 → m1.1 0 15 = m.1 0 15 → m1.1 0 16 = m.1 0 16 → m1.2 = m.2 → (∀ j, j < S → sb j D.1 = 0 → m1.1 8 j = nI (PS kd D.2.2.1 D.2.2.2 N j)) → ∃ m', fm_share_55 fu p (nI N) c (nI D.1) (nI S) m1 = fm_share_105 4096 p c (nI D.1) (nI 0) (nI 0) m' ∧ (∀ j, j < D.1 + 1 → sb j D.1 = 0 → m'.1 8 j = nI (PS kd D.2.2.1 D.2.2.2 N j)) ∧ SN m m' ∧ m'.2 = m.2 := by
  have h64 : D.1 < 64 := Nat.lt_of_lt_of_le hI.1 (p_le hB.2.1.1)
  intro r
  induction r with
  | zero =>
    intro fu S m1 h1 hf hG g15 g16 hz ht
    obtain ⟨fu, rfl⟩ : ∃ f, fu = f + 1 := ⟨fu - 1, by omega⟩
    rw [fm_share_55, if_pos (nI_lt (show D.1 < S by omega) (by omega)), show (0 : Int32) = nI 0 from rfl]
    exact ⟨m1, rfl, fun j hj => ht j (by omega), hG, hz⟩
  | succ r ih =>
    intro fu S m1 h1 hf hG g15 g16 hz ht
    obtain ⟨fu, rfl⟩ : ∃ f, fu = f + 1 := ⟨fu - 1, by omega⟩
    have hle : sb S D.1 ≤ S := sb_le _ _
    rw [fm_share_55, if_neg (nI_nlt (show S ≤ D.1 by omega) (by omega)), n_sb (show S < 128 by omega)]
    unfold fm_share_92
    rw [nI_1]
    have nx : ∀ (m2 : St) (v : Int32), TF m1 m2 → (sb S D.1 = 0 → v = nI (PS kd D.2.2.1 D.2.2.2 N S)) → ∃ m', ((gu m2 8 64 (nI S) v).bind fun w92 => fm_share_55 fu p (nI N) c (nI D.1) (nI (S + 1)) w92) = fm_share_105 4096 p c (nI D.1) (nI 0) (nI 0) m' ∧ (∀ j, j < D.1 + 1 → sb j D.1 = 0 → m'.1 8 j = nI (PS kd D.2.2.1 D.2.2.2 N j)) ∧ SN m m' ∧ m'.2 = m.2 := by
      intro m2 v f hv
      rw [gu_n (show S < 64 by omega) (by decide), Option.bind_some]
      refine ih fu (S + 1) (wr m2 8 S v) (by omega) (by omega) ((hG.tr f.sn).tr (SN.wr (by omega))) ?_ ?_ (f.2.2.trans hz) (fun j hj hs => ?_)
      · rw [wr_ne _ _ _ (by omega), f.1 0 (by omega)]; exact g15
      · rw [wr_ne _ _ _ (by omega), f.1 0 (by omega)]; exact g16
      · by_cases hjS : j = S
        · subst hjS
          rw [wr_same]
          exact hv hs
        · rw [wr_off _ _ _ hjS, f.1 8 (by omega)]
          exact ht j (by omega) hs
    by_cases hs : sb S D.1 = 0
    · have bm : BM S kd D.2.2.1 D.2.2.2 m1 := (BM.of hB hM hI (show S < 2 ^ P by have := hI.1; omega)).fr (hG.1 2 (by omega)) hG.2.1 g15 g16
      obtain ⟨m2, l1, l2⟩ := canBy_m hN bm
      rw [hs, if_pos (show nI 0 = 0 from rfl), l1, Option.bind_some, pc_m _ (SB_lt (fun n R => bm.lt)), Option.bind_some]
      exact nx m2 _ l2 (fun _ => rfl)
    · rw [if_neg (fun (r : nI (sb S D.1) = (0 : Int32)) => hs ((nI_eq (b := 0) (by omega) (by decide)).mp r))]
      exact nx m1 0 TF.rf (fun h => absurd h hs)
theorem share105 {kd sn : Nat → Nat} {a : TK} {D0 N p : Nat} {m : St} (h64 : D0 < 64) (hN : N < 5) (hp : p < 6) (hb : D0.testBit p = true) (c : Int32) (ht : ∀ j, j < D0 + 1 → sb j D0 = 0 → m.1 8 j = nI (PS kd sn a N j)) : ∀ (r fu S s : Nat), S + r = D0 + 1 → r < fu → sh kd sn a N p (sb D0 (2 ^ p)) r S s < 2 ^ 31 → fm_share_105 fu (nI p) c (nI D0) (nI s) (nI S) m = some (FR (sh kd sn a N p (sb D0 (2 ^ p)) r S s) (fac (pc D0)) c, m) := by
  obtain ⟨q1, q2, q3⟩ := pc_one D0 h64 p hp hb
  intro r
  induction r with
  | zero =>
    intro fu S s h1 hf hs
    obtain ⟨fu, rfl⟩ : ∃ f, fu = f + 1 := ⟨fu - 1, by omega⟩
    have hs : s < 2 ^ 31 := hs
    obtain ⟨f1, f2⟩ := fac_le (pc D0) (by omega)
    obtain ⟨g0, g1⟩ := gcd_31 (a := s) f2 (show fac (pc D0) < 4096 by omega)
    show _ = some (FR s (fac (pc D0)) c, m)
    rw [fm_share_105, if_pos (nI_lt (show D0 < S by omega) (by omega)), pc_m D0 (by omega), Option.bind_some, fac_m (pc D0) (by omega), Option.bind_some, common_mm hs (by omega), Option.bind_some, Option.bind_some, fac_m (pc D0) (by omega), Option.bind_some, gd_n (by omega) g0 g1, gd_n hs g0 g1]
    unfold FR
    by_cases hc : c = 0
    · rw [if_pos hc, if_pos hc]; rfl
    · rw [if_neg hc, if_neg hc]; rfl
  | succ r ih =>
    intro fu S s h1 hf hs
    obtain ⟨fu, rfl⟩ : ∃ f, fu = f + 1 := ⟨fu - 1, by omega⟩
    have hle : sb S D0 ≤ S := sb_le _ _
    have hiff := sub_iff D0 h64 p hp hb S (by omega)
    rw [fm_share_105, if_neg (nI_nlt (show S ≤ D0 by omega) (by omega)), n_sb (show S < 128 by omega)]
    unfold fm_share_185
    rw [nI_1, has_m (by omega) (by omega)]
    rw [sh] at hs ⊢
    by_cases hz : sb S D0 = 0
    · rw [hz, if_pos (show nI 0 = 0 from rfl), Option.bind_some]
      cases hbt : S.testBit p with
      | true =>
        have hn : ¬ sb S (sb D0 (2 ^ p)) = 0 := fun q => by
          have := (hiff.mp q).2
          rw [hbt] at this
          cases this
        rw [if_pos rfl, if_neg (show ¬ (1 : Int32) = 0 by decide)]
        rw [if_neg hn] at hs ⊢
        exact ih fu (S + 1) s (by omega) (by omega) hs
      | false =>
        have hy : sb S (sb D0 (2 ^ p)) = 0 := hiff.mpr ⟨hz, hbt⟩
        have hps := pc_sub _ (show sb D0 (2 ^ p) < 64 by omega) S (by omega) hy
        obtain ⟨o1, o2⟩ := or_in D0 h64 p hp hb S (by omega) hz
        rw [if_neg (show ¬ false = true by decide), if_pos rfl, pc_m S (by omega), Option.bind_some, fac_m (pc S) (by omega), Option.bind_some, pc_m D0 (by omega), Option.bind_some, Option.bind_some, show nI (pc D0) - (1 : Int32) - nI (pc S) = nI (pc (sb D0 (2 ^ p)) - pc S) from by rw [q1, show (1 : Int32) = nI 1 from rfl, nS (by omega), nS (by omega)]; rfl, fac_m _ (by omega), Option.bind_some, lb, pk_mul, bit_1 (by omega), nO, gr_n (show S ||| 2 ^ p < 64 by omega) (by decide), Option.bind_some, gr_n (show S < 64 by omega) (by decide), Option.bind_some, ht _ (by omega) o2, ht S (by omega) hz, nS (PS_mono hN (sbs_or S (2 ^ p))), lb, pk_mul, nI_add]
        rw [if_pos hy] at hs ⊢
        exact ih fu (S + 1) _ (by omega) (by omega) hs
    · have hn : ¬ sb S (sb D0 (2 ^ p)) = 0 := fun q => hz (hiff.mp q).1
      rw [if_neg (fun (r : nI (sb S D0) = (0 : Int32)) => hz ((nI_eq (b := 0) (by omega) (by decide)).mp r))]
      rw [if_neg hn] at hs ⊢
      exact ih fu (S + 1) s (by omega) (by omega) hs
end SHARE
theorem ca_share {x m : St} (h : RR x m) (a b c : Int32) : CA (fx_share a b c x) (fm_share a b c m) := by
  have hR := h
  obtain ⟨n, P, mk, ch, hm, kd, D, hB, hX, hM, hI⟩ := h.rb
  have hP6 := hB.2.1.1
  have h64 : D.1 < 64 := Nat.lt_of_lt_of_le hI.1 (p_le hP6)
  unfold fx_share fm_share
  rcases pers hB.2.1 a with ⟨p, hp, rfl, e1, e2⟩ | ⟨e1, e2⟩
  · rw [e1, e2, Option.bind_some, Option.bind_some, if_neg (show ¬ (1 : Int32) = 0 by decide), if_neg (show ¬ (1 : Int32) = 0 by decide)]
    rcases in_ab (lo := 1) (hi := 3) b 1 3 1 3 rfl rfl rfl rfl (by decide) (by decide) with ⟨h1, h2⟩ | ⟨N, v1, v2, rfl, h2⟩
    · rw [h2]
      by_cases q : b < 1
      · rw [if_pos q]; exact ⟨_, _, _, rfl, rfl, hR⟩
      · rw [if_neg q, if_neg (fun z => h1 ⟨by rw [le_lt]; exact q, z⟩)]; exact ⟨_, _, _, rfl, rfl, hR⟩
    have hm0 : m.1 3 0 = nI D.1 := hM.1
    rw [h2, Option.bind_some, if_neg (show ¬ nI N < (1 : Int32) from nI_nlt (b := 1) v1 (by omega)), if_pos (show nI N ≤ (3 : Int32) from nI_le (b := 3) v2 (by decide)), if_neg (show ¬ (1 : Int32) = 0 by decide), hX.1, show (0 : Int32) = nI 0 from rfl, gr_n (show 0 < 54 by omega) (by decide), hm0, has_x (by omega) (by omega), Option.bind_some, Option.bind_some, has_m (by omega) (by omega), Option.bind_some]
    cases hbt : D.1.testBit p with
    | false =>
      rw [if_neg (show ¬ false = true by decide), if_pos (show (0 : Int32) = nI 0 from rfl), if_pos (show (0 : Int32) = nI 0 from rfl), show (1 : Int32) = nI 1 from rfl, fraction_x (a := 0) (b := 1) c (by decide) (by decide) (by decide)]
      unfold FR
      by_cases hc : c = nI 0
      · rw [if_pos hc, if_pos (show c = 0 from hc)]; exact ⟨_, _, _, rfl, rfl, hR⟩
      · rw [if_neg hc, if_neg (show ¬ c = 0 from hc)]; exact ⟨_, _, _, rfl, rfl, hR⟩
    | true =>
      obtain ⟨q1, q2, q3⟩ := pc_one D.1 h64 p (by omega) hbt
      obtain ⟨x', k1, k2, k3⟩ := share72 hB hX hI (N := N) (p := p) (by omega) (by omega) hbt c (sb D.1 (2 ^ p) + 1) 4096 0 0 x (by omega) (by omega) (by omega) FQ.rf
      obtain ⟨m', l1, l2, l3, l4⟩ := share55 hB hM hI (N := N) (by omega) (nI p) c (D.1 + 1) 4096 0 m (by omega) (by omega) SN.rf rfl rfl rfl (fun j hj => absurd hj (by omega))
      have hsh : sh kd D.2.2.1 D.2.2.2 N p (sb D.1 (2 ^ p)) (D.1 + 1) 0 0 = sh kd D.2.2.1 D.2.2.2 N p (sb D.1 (2 ^ p)) (sb D.1 (2 ^ p) + 1) 0 0 := by
        rw [show D.1 + 1 = (sb D.1 (2 ^ p) + 1) + (D.1 - sb D.1 (2 ^ p)) by omega, sh_add]
        exact sh_tail (by omega) _ _ _ (by omega) (by omega)
      have l5 := share105 (p := p) h64 (show N < 5 by omega) (by omega) hbt c l2 (D.1 + 1) 4096 0 0 (by omega) (by omega) (by rw [hsh]; exact k3)
      rw [if_pos rfl, if_neg (show ¬ (1 : Int32) = nI 0 by decide), if_neg (show ¬ (1 : Int32) = nI 0 by decide), lb, bit_1 (by omega), n_sb (by omega), pc_x _ (by omega), Option.bind_some]
      refine ⟨_, x', m', k1, ?_, hR.scr k2.sw l3 (k2.2.trans (hB.2.2.2.2.trans l4.symm))⟩
      rw [l1, l5, hsh]
  · rw [e1, e2]
    exact ⟨_, _, _, rfl, rfl, hR⟩
