/-! the reader of the text -/
def fitB (ch : Nat → Nat) (i : Nat) : Bool := if i = 0 then decide (ch 0 = 73) else if i = 1 then (decide (48 ≤ ch 1) && decide (ch 1 ≤ 57)) else if i < 32 then (if (i - 2) % 5 = 0 then decide (ch i = 80) else if (i - 2) % 5 = 1 ∨ (i - 2) % 5 = 3 then (decide (48 ≤ ch i) && decide (ch i ≤ 57)) else (decide (48 ≤ ch i) && decide (ch i ≤ 51))) else false
theorem fits_x : ∀ i, i < 40 → ∀ c, c < 256 → fx_fits (nI i) (nI c) = some (b2 (fitB (fun _ => c) i)) := by decide +kernel
theorem fitB_e (ch : Nat → Nat) (i : Nat) : fitB ch i = fitB (fun _ => ch i) i := by
  unfold fitB
  by_cases h0 : i = 0
  · subst h0; rfl
  · rw [if_neg h0, if_neg h0]
    by_cases h1 : i = 1
    · subst h1; rfl
    · rw [if_neg h1, if_neg h1]
/-- the first place, from i on, that does not fit -/
def ff (n : Nat) (ch : Nat → Nat) : Nat → Nat → Int32
  | 0, _ => if n < 2 then nI n else (if (n - 2) % 5 = 0 then -9 else nI n)
  | r + 1, i => if fitB ch i then ff n ch r (i + 1) else nI i
theorem ff_x {n : Nat} {ch : Nat → Nat} {x m : St} (hT : RT n ch x m) : ∀ (r fu i : Nat), i + r = n → r < fu → fx_firstFault_2 fu (nI i) x = some (ff n ch r i, x) := by
  obtain ⟨hn, x1, m9, hc⟩ := hT
  intro r
  induction r with
  | zero =>
    intro fu i h1 hf
    obtain ⟨fu, rfl⟩ : ∃ f, fu = f + 1 := ⟨fu - 1, by omega⟩
    obtain rfl : i = n := by omega
    rw [fx_firstFault_2, x1, if_pos (nI_le (Nat.le_refl _) (by omega))]
    unfold fx_firstFault_40 fx_firstFault_63 fx_firstFault_64 ff
    rw [x1]
    by_cases h2 : i < 2
    · rw [if_pos (show nI i < (2 : Int32) from nI_lt (b := 2) h2 (by decide)), if_pos rfl, if_pos h2]
    · rw [if_neg (show ¬ nI i < (2 : Int32) from nI_nlt (b := 2) (by omega) (by omega)), if_neg h2, show nI i - (2 : Int32) = nI (i - 2) from by rw [show (2 : Int32) = nI 2 from rfl, nS (by omega)], show ir (nI (i - 2)) (5 : Int32) = nI ((i - 2) % 5) from rem_n (d := 5) (by omega) (by decide) (by decide)]
      by_cases h5 : (i - 2) % 5 = 0
      · rw [if_pos h5, if_pos (by rw [h5]; rfl), if_neg (show ¬ (1 : Int32) = 0 by decide)]
      · rw [if_neg h5, if_neg (fun (q : nI ((i - 2) % 5) = (0 : Int32)) => h5 ((nI_eq (b := 0) (by omega) (by decide)).mp q)), if_pos rfl]
  | succ r ih =>
    intro fu i h1 hf
    obtain ⟨fu, rfl⟩ : ∃ f, fu = f + 1 := ⟨fu - 1, by omega⟩
    obtain ⟨c1, c2, -⟩ := hc i (by omega)
    rw [fx_firstFault_2, x1, if_neg (nI_ge (show i < n by omega) (by omega)), if_neg (show ¬ (40 : Int32) ≤ nI i from nI_ge (b := 40) (by omega) (by decide)), gr_n (show i < 40 by omega) (by decide), Option.bind_some, c2, fits_x i (by omega) _ c1, Option.bind_some, ← fitB_e, ff]
    cases fitB ch i with
    | false => rw [if_pos (show b2 false = 0 from rfl), if_neg (show ¬ false = true by decide)]
    | true => rw [if_neg (show ¬ b2 true = 0 by decide), if_pos rfl, nI_1, ih fu (i + 1) (by omega) (by omega)]
/-- the reading: at A, people k, fault none -/
def RD (n : Nat) (ch : Nat → Nat) (m : St) : Prop := n ≤ 40 ∧ m.1 0 9 = nI n ∧ ∀ j, j < n → ch j < 256 ∧ m.1 5 j = nI (ch j)
theorem RD.fr {n : Nat} {ch : Nat → Nat} {m m' : St} (h : RD n ch m) (a : m'.1 0 9 = m.1 0 9) (b : m'.1 5 = m.1 5) : RD n ch m' := by
  unfold RD at h ⊢
  rw [a, b]
  exact h
theorem sub48 : ∀ c, c < 256 → ∀ L, L = 9 ∨ L = 3 → fm_in (nI c - 48).toInt64 0 (nI L).toInt64 = some (b2 (decide (48 ≤ c) && decide (c ≤ 48 + L))) := by
  intro c hc L hL
  by_cases h : 48 ≤ c
  · rw [show nI c - (48 : Int32) = nI (c - 48) from by rw [show (48 : Int32) = nI 48 from rfl, nS h], decide_eq_true h, Bool.true_and]
    by_cases h2 : c ≤ 48 + L
    · rw [decide_eq_true h2, in_t (a := (nI (c - 48)).toInt64) (b := 0) (c := (nI L).toInt64) (lo := 0) (hi := nI L) (x := nI (c - 48)) rfl rfl rfl (nI_pos' (by omega)) (nI_le (by omega) (by omega))]; rfl
    · rw [decide_eq_false h2, in_f (a := (nI (c - 48)).toInt64) (b := 0) (c := (nI L).toInt64) (lo := 0) (hi := nI L) (x := nI (c - 48)) rfl rfl rfl (Or.inr (nI_lt (by omega) (by omega)))]; rfl
  · rw [decide_eq_false h, Bool.false_and, in_f (a := (nI c - 48).toInt64) (b := 0) (c := (nI L).toInt64) (lo := 0) (hi := nI L) (x := nI c - 48) rfl rfl rfl (Or.inl ((show ∀ c, c < 48 → nI c - 48 < 0 by decide +kernel) c (by omega)))]; rfl
theorem m9_in (L : Nat) (hL : L = 9 ∨ L = 3) : fm_in ((-9 : Int32)).toInt64 0 (nI L).toInt64 = some 0 := in_f (x := -9) (lo := 0) (hi := nI L) rfl rfl rfl (Or.inl (by decide))
theorem fig_ok {n A L : Nat} {ch : Nat → Nat} {m : St} (h : RD n ch m) (hL : L = 9 ∨ L = 3) (hA : A < n) (h10 : m.1 0 10 = nI A) (h11 : m.1 0 11 = -9) (hc : 48 ≤ ch A) (hd : ch A ≤ 48 + L) : fm_figure (nI L) m = some (nI (ch A - 48), wr m 0 10 (nI (A + 1))) := by
  obtain ⟨hn, m9, hch⟩ := h
  obtain ⟨c1, c2⟩ := hch A hA
  unfold fm_figure fm_figure_37
  rw [h11, if_pos rfl, m9, h10, if_neg (nI_ge hA (by omega)), gr_n (show A < 40 by omega) (by decide), Option.bind_some, c2, sub48 _ c1 L hL, Option.bind_some, decide_eq_true hc, decide_eq_true hd, if_neg (show ¬ b2 (true && true) = 0 by decide), nI_1, show nI (ch A) - (48 : Int32) = nI (ch A - 48) from by rw [show (48 : Int32) = nI 48 from rfl, nS hc]]
theorem fig_bad {n A L : Nat} {ch : Nat → Nat} {m : St} (h : RD n ch m) (hL : L = 9 ∨ L = 3) (hA : A ≤ n) (h10 : m.1 0 10 = nI A) (h11 : m.1 0 11 = -9) (hb : A < n → (decide (48 ≤ ch A) && decide (ch A ≤ 48 + L)) = false) : fm_figure (nI L) m = some (0, wr m 0 11 (nI A)) := by
  obtain ⟨hn, m9, hch⟩ := h
  unfold fm_figure fm_figure_35 fm_figure_37 fm_figure_70
  rw [h11, if_pos rfl, if_pos rfl, m9, h10]
  rcases Nat.lt_or_ge A n with q | q
  · obtain ⟨c1, c2⟩ := hch A q
    rw [if_neg (nI_ge q (by omega)), gr_n (show A < 40 by omega) (by decide), Option.bind_some, c2, sub48 _ c1 L hL, hb q]
    rfl
  · rw [if_pos (nI_le q (by omega)), m9_in L hL]
    rfl
theorem fig_err {L f : Nat} {m : St} (hL : L = 9 ∨ L = 3) (hf : f < 100) (h11 : m.1 0 11 = nI f) : fm_figure (nI L) m = some (0, wr m 0 11 (nI f)) := by
  unfold fm_figure fm_figure_35 fm_figure_37 fm_figure_70
  rw [h11, if_neg (n9 (by omega)), if_neg (n9 (by omega)), m9_in L hL]
  rfl
