/-! who may be chosen, and the row of a number, on either side -/
def wr7 (B : Nat) : Nat → Nat → List Nat → List Nat
  | 0, _, l => l
  | r + 1, i, l => wr7 B r (i + 1) (if B.testBit i then l ++ [i] else l)
theorem wr7_wl : ∀ B, B < 128 → wr7 B 7 0 [] = wl B := by decide +kernel
theorem wl_ok : ∀ B, B < 128 → (wl B).length ≤ 7 ∧ ∀ j, j < 7 → (wl B).getD j 0 < 7 := by decide +kernel
def WH (l : List Nat) (w : St) : Prop := w.1 9 1 = nI l.length ∧ ∀ j, j < l.length → w.1 10 j = nI (l.getD j 0)
theorem WH.fr {l : List Nat} {w w' : St} (h : WH l w) (a : w'.1 9 = w.1 9) (b : w'.1 10 = w.1 10) : WH l w' := by
  unfold WH at h ⊢
  rw [a, b]
  exact h
def FW (w w' : St) : Prop := (∀ d, d ≠ 9 → d ≠ 10 → w'.1 d = w.1 d) ∧ w'.2 = w.2
theorem FW.sw {x x' : St} (h : FW x x') : SW x x' := ⟨fun d _ b => h.1 d (by omega) (by omega), fun j _ => by rw [h.1 0 (by omega) (by omega)]⟩
theorem getD_app (l : List Nat) (p : Nat) : ∀ j, j < (l ++ [p]).length → (l ++ [p]).getD j 0 = if j = l.length then p else l.getD j 0 := by
  intro j hj
  rw [List.length_append] at hj
  have hj : j < l.length + 1 := hj
  by_cases h : j = l.length
  · subst h
    rw [if_pos rfl]
    simp
  · rw [if_neg h]
    simp [List.getElem?_append_left (show j < l.length by omega)]
theorem by7 {B : Nat} (hB : B < 128) : ∀ (r fu i : Nat) (l : List Nat) (w : St), i + r = 7 → r < fu → l.length ≤ i → WH l w → ∃ w', fr_by_7 fu (nI B) (nI i) w = some w' ∧ WH (wr7 B r i l) w' ∧ FW w w' := by
  intro r
  induction r with
  | zero =>
    intro fu i l w h1 hf hl hW
    obtain ⟨fu, rfl⟩ : ∃ f, fu = f + 1 := ⟨fu - 1, by omega⟩
    obtain rfl : i = 7 := by omega
    rw [fr_by_7, if_pos (show (7 : Int32) ≤ nI 7 by decide)]
    exact ⟨w, rfl, hW, fun _ _ _ => rfl, rfl⟩
  | succ r ih =>
    intro fu i l w h1 hf hl hW
    obtain ⟨fu, rfl⟩ : ∃ f, fu = f + 1 := ⟨fu - 1, by omega⟩
    rw [fr_by_7, if_neg (show ¬ (7 : Int32) ≤ nI i from nI_ge (b := 7) (by omega) (by decide)), has_x (by omega) (by omega), Option.bind_some]
    unfold fr_by_53
    rw [wr7]
    cases hb : B.testBit i with
    | false =>
      rw [if_neg (show ¬ false = true by decide), if_pos rfl, nI_1, if_neg (show ¬ false = true by decide)]
      exact ih fu (i + 1) l w (by omega) (by omega) (by omega) hW
    | true =>
      rw [if_pos rfl, if_neg (show ¬ (1 : Int32) = 0 by decide), hW.1, if_neg (show ¬ (7 : Int32) ≤ nI l.length from nI_ge (b := 7) (by omega) (by decide)), gu_n (show l.length < 7 by omega) (by decide), Option.bind_some, wr_ne _ _ _ (show 9 ≠ 10 by omega), hW.1, nI_1, nI_1, if_pos rfl]
      have hW2 : WH (l ++ [i]) (wr (wr w 10 l.length (nI i)) 9 1 (nI (l.length + 1))) := by
        refine ⟨by rw [wr_same, List.length_append]; rfl, fun j hj => ?_⟩
        rw [getD_app l i j hj, wr_ne _ _ _ (by omega)]
        rw [List.length_append] at hj
        have hj : j < l.length + 1 := hj
        by_cases h : j = l.length
        · subst h
          rw [wr_same, if_pos rfl]
        · rw [wr_off _ _ _ h, if_neg h]
          exact hW.2 j (by omega)
      obtain ⟨w', e1, e2, e3⟩ := ih fu (i + 1) (l ++ [i]) _ (by omega) (by omega) (by rw [List.length_append]; show l.length + 1 ≤ i + 1; omega) hW2
      exact ⟨w', e1, e2, fun d a b => by rw [e3.1 d a b, wr_ne _ _ _ a, wr_ne _ _ _ b], e3.2⟩
theorem by_x {B : Nat} (hB : B < 128) (w : St) : ∃ w', fr_by (nI B) w = some w' ∧ WH (wl B) w' ∧ FW w w' := by
  obtain ⟨w', e1, e2, e3⟩ := by7 hB 7 4096 0 [] (wr w 9 1 0) (by omega) (by omega) (Nat.le_refl _) ⟨wr_same _ _ _ _, fun j hj => absurd hj (Nat.not_lt_zero _)⟩
  rw [wr7_wl B hB] at e2
  exact ⟨w', e1, e2, fun d a b => (e3.1 d a b).trans (wr_ne _ _ _ a), e3.2⟩
theorem power_n : ∀ k, k < 8 → ∀ n, n < 5 → fx_power (nI k) (nI n) = some (nI (k ^ n)) := by decide +kernel
theorem many_x {l : List Nat} {w : St} {n : Nat} (h : WH l w) (hl : l.length ≤ 7) (hn : n < 5) : fr_many (nI n) w = some (nI (l.length ^ n), w) := by
  unfold fr_many
  rw [h.1, power_n _ (by omega) _ hn]
  rfl
theorem tv_e (s t y g : Nat) : s + t * (g + 1) + t * 10 * y = s + t * (10 * y + (g + 1)) := by rw [Nat.mul_add t (10 * y), Nat.mul_assoc, Nat.add_assoc, Nat.add_comm (t * (g + 1))]
theorem told24 {l : List Nat} {w : St} {n : Nat} (h : WH l w) (h0 : 0 < l.length) (hl : l.length ≤ 7) (hn : n < 1000) : ∀ (r fu i s v t : Nat), i + r = n → r < fu → v < 2 ^ 31 → fr_told_24 fu (nI n) (nI s) (nI v) (nI t) (nI i) w = some (nI (s + t * tv l r v), w) := by
  intro r
  induction r with
  | zero =>
    intro fu i s v t h1 hf hv
    obtain ⟨fu, rfl⟩ : ∃ f, fu = f + 1 := ⟨fu - 1, by omega⟩
    obtain rfl : i = n := by omega
    rw [fr_told_24, if_pos (nI_le (Nat.le_refl _) (by omega)), tv, Nat.mul_zero, Nat.add_zero]
  | succ r ih =>
    intro fu i s v t h1 hf hv
    obtain ⟨fu, rfl⟩ : ∃ f, fu = f + 1 := ⟨fu - 1, by omega⟩
    have hm : v % l.length < l.length := Nat.mod_lt _ h0
    rw [fr_told_24, if_neg (nI_ge (show i < n by omega) (by omega)), h.1, gm, if_neg (nI_ne0 h0 (by omega)), rem_n hv h0 (by omega), Option.bind_some, gr_n (show v % l.length < 7 by omega) (by decide), Option.bind_some, h.2 _ hm, lb, gd_n hv h0 (by omega), Option.bind_some, lb, nI_1, nI_1, show (10 : Int32) = nI 10 from rfl, pk_mul, pk_mul, nI_add, ih fu (i + 1) _ (v / l.length) _ (by omega) (by omega) (Nat.lt_of_le_of_lt (Nat.div_le_self _ _) hv), tv, tv_e]
theorem told_x {l : List Nat} {w : St} {n v : Nat} (h : WH l w) (hl : l.length ≤ 7) (hn : n < 1000) (hv : v < l.length ^ n) (hv2 : v < 2 ^ 31) : fr_told (nI v) (nI n) w = some (nI (tv l n v), w) := by
  unfold fr_told
  rw [h.1]
  rcases Nat.eq_zero_or_pos l.length with h0 | h0
  · rw [h0, if_pos (show nI 0 ≤ 0 by decide)]
    cases n with
    | zero => rfl
    | succ n => rw [h0, Nat.zero_pow (by omega)] at hv; omega
  · rw [if_neg (nI_nle h0 (by omega)), if_pos (nI_pos' hv2), show (1 : Int32) = nI 1 from rfl, show (0 : Int32) = nI 0 from rfl, told24 h h0 hl hn n 4096 0 0 v 1 (by omega) (by omega) hv2, Nat.zero_add, Nat.one_mul]
theorem w7_get (v : Nat) : w7.getD (v % 7) 0 = v % 7 := by
  have : v % 7 < 7 := Nat.mod_lt _ (by omega)
  generalize v % 7 = u at this
  rcases (show u = 0 ∨ u = 1 ∨ u = 2 ∨ u = 3 ∨ u = 4 ∨ u = 5 ∨ u = 6 by omega) with rfl | rfl | rfl | rfl | rfl | rfl | rfl <;> rfl
theorem rowOf10 {n : Nat} (hn : n < 1000) : ∀ (r fu i s v t : Nat), i + r = n → r < fu → v < 2 ^ 31 → fm_rowOf_10 fu (nI n) (nI v) (nI s) (nI t) (nI i) = some (nI (s + t * tv w7 r v)) := by
  intro r
  induction r with
  | zero =>
    intro fu i s v t h1 hf hv
    obtain ⟨fu, rfl⟩ : ∃ f, fu = f + 1 := ⟨fu - 1, by omega⟩
    obtain rfl : i = n := by omega
    rw [fm_rowOf_10, if_pos (nI_le (Nat.le_refl _) (by omega)), tv, Nat.mul_zero, Nat.add_zero]
  | succ r ih =>
    intro fu i s v t h1 hf hv
    obtain ⟨fu, rfl⟩ : ∃ f, fu = f + 1 := ⟨fu - 1, by omega⟩
    rw [fm_rowOf_10, if_neg (nI_ge (show i < n by omega) (by omega)), show ir (nI v) (7 : Int32) = nI (v % 7) from rem_n (d := 7) hv (by decide) (by decide), show nI v / (7 : Int32) = nI (v / 7) from pk_div (d := 7) hv (by decide) (by decide), lb, lb, lb, nI_1, nI_1, show (10 : Int32) = nI 10 from rfl, pk_mul, pk_mul, nI_add, ih fu (i + 1) _ (v / 7) _ (by omega) (by omega) (by omega), tv, show w7.length = 7 from rfl, w7_get, tv_e]
theorem rowOf_m {n v : Nat} (hn : n < 1000) (hv : v < 2 ^ 31) : fm_rowOf (nI v) (nI n) = some (nI (tv w7 n v)) := by
  unfold fm_rowOf
  rw [show (1 : Int32) = nI 1 from rfl, show (0 : Int32) = nI 0 from rfl, rowOf10 hn n 4096 0 0 v 1 (by omega) (by omega) hv, Nat.zero_add, Nat.one_mul]
theorem sevens_n : ∀ n, n < 5 → fm_sevens (nI n) = some (nI (7 ^ n)) := by decide +kernel
theorem tv_lt {l : List Nat} (hl : ∀ j, l.getD j 0 < 7) : ∀ n v, tv l n v < 10 ^ n := by
  intro n
  induction n with
  | zero => intro v; exact Nat.one_pos
  | succ n ih =>
    intro v
    have := ih (v / l.length)
    have := hl (v % l.length)
    rw [tv, Nat.pow_succ]
    omega
theorem wl_get {B : Nat} (hB : B < 128) (j : Nat) : (wl B).getD j 0 < 7 := by
  rcases Nat.lt_or_ge j 7 with h | h
  · exact (wl_ok B hB).2 j h
  · have := (wl_ok B hB).1
    simp [List.getElem?_eq_none (show (wl B).length ≤ j by omega)]
theorem w7_lt (j : Nat) : w7.getD j 0 < 7 := by
  rcases Nat.lt_or_ge j 7 with h | h
  · rcases (show j = 0 ∨ j = 1 ∨ j = 2 ∨ j = 3 ∨ j = 4 ∨ j = 5 ∨ j = 6 by omega) with rfl | rfl | rfl | rfl | rfl | rfl | rfl <;> decide
  · simp [w7, List.getElem?_eq_none (show [0, 1, 2, 3, 4, 5, 6].length ≤ j by simpa using h)]
theorem tv_all (w : List Nat) (n : Nat) : (List.range (w.length ^ n)).map (tv w n) = RV w n := by
  rcases Nat.eq_zero_or_pos w.length with h | h
  · obtain rfl : w = [] := List.length_eq_zero_iff.mp h
    cases n with
    | zero => rfl
    | succ n =>
      rw [show ([] : List Nat).length = 0 from rfl, Nat.zero_pow (by omega), RV]
      simp
  · exact tv_rv w h n
/-- what the row comes to, if it is told to its end -/
def EV (B : Nat) (kd sn : Nat → Nat) (a : TK) (n R : Nat) : Option Nat := match (PL B kd sn a n R).1 with
  | none => some (PL B kd sn a n R).2.1
  | some _ => none
theorem pl_bit {B : Nat} {kd sn : Nat → Nat} : ∀ (ds : List Nat) (i : Nat) (a : TK), (pl B kd sn i a ds).1 = none → ∀ d, d ∈ ds → B.testBit (d - 1) = true := by
  intro ds
  induction ds with
  | nil => intro i a h d hd; cases hd
  | cons e ds ih =>
    intro i a h d hd
    rw [pl] at h
    split at h
    · rename_i ho
      rcases List.mem_cons.mp hd with q | q
      · subst q
        unfold ok at ho
        simp only [Bool.and_eq_true] at ho
        exact ho.2.1
      · exact ih _ _ h d q
    · cases h
theorem ev_ib {B : Nat} {kd sn : Nat → Nat} {a : TK} {n R q : Nat} (hn : n < 5) (h : EV B kd sn a n R = some q) : ib B n R = true := by
  have h1 : (PL B kd sn a n R).1 = none := by
    unfold EV at h
    cases e : (PL B kd sn a n R).1 with
    | none => rfl
    | some z => rw [e] at h; cases h
  have h2 := pl_bit _ _ _ h1
  rcases (show n = 0 ∨ n = 1 ∨ n = 2 ∨ n = 3 ∨ n = 4 by omega) with rfl | rfl | rfl | rfl | rfl <;> simp [dl] at h2 <;> simp [ib, Nat.div_div_eq_div_mul, h2]
theorem ev_no {B : Nat} {kd sn : Nat → Nat} {a : TK} {n R : Nat} (hn : n < 5) (h : ib B n R = false) : EV B kd sn a n R = none := by
  cases e : EV B kd sn a n R with
  | none => rfl
  | some q => rw [ev_ib hn e] at h; cases h
theorem fold_eq {β : Type} {B n : Nat} (st : β → Nat → β) (h : ∀ s R, ib B n R = false → st s R = s) (s : β) : (RV w7 n).foldl st s = (RV (wl B) n).foldl st s := by
  rw [← rv_ib, List.foldl_filter]
  congr 1
  funext s R
  cases e : ib B n R with
  | true => rfl
  | false => exact h s R e
