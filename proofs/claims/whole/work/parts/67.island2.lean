def gd9 (L c : Nat) : Bool := decide (48 ≤ c) && decide (c ≤ 48 + L)
def nx9 (n : Nat) (ch : Nat → Nat) (e : Option Nat) (pos L : Nat) : Option Nat := match e with
  | some f => some f
  | none => if pos < n ∧ gd9 L (ch pos) = true then none else some pos
def FS (n : Nat) (ch : Nat → Nat) (m : St) (k pos : Nat) (e : Option Nat) : Prop := RD n ch m ∧ m.1 0 6 = nI k ∧ match e with
  | none => m.1 0 11 = -9 ∧ m.1 0 10 = nI pos ∧ pos ≤ n
  | some f => m.1 0 11 = nI f ∧ f < 100
/-- reading alone moved -/
def GF (m m' : St) : Prop := SN m m' ∧ m'.2 = m.2 ∧ m'.1 0 7 = m.1 0 7 ∧ m'.1 5 = m.1 5
theorem GF.rf {m : St} : GF m m := ⟨SN.rf, rfl, rfl, rfl⟩
theorem GF.tr {a b c : St} (h : GF a b) (g : GF b c) : GF a c := ⟨h.1.tr g.1, g.2.1.trans h.2.1, g.2.2.1.trans h.2.2.1, g.2.2.2.trans h.2.2.2⟩
theorem gf_w {m : St} {j : Nat} {v : Int32} (h : j = 6 ∨ j = 10 ∨ j = 11) : GF m (wr m 0 j v) := ⟨⟨fun d a => wr_ne _ _ _ (by omega), fun i a => by rw [wr_ne _ _ _ (by omega)], fun i a => wr_off _ _ _ (by omega)⟩, rfl, wr_off _ _ _ (by omega), wr_ne _ _ _ (by omega)⟩
theorem gf_4 {m : St} {j : Nat} {v : Int32} : GF m (wr m 4 j v) := ⟨SN.wr (by omega), rfl, by rw [wr_ne _ _ _ (by omega)], wr_ne _ _ _ (by omega)⟩
theorem figw {n k pos L idx : Nat} {ch : Nat → Nat} {e : Option Nat} {m : St} (hL : L = 9 ∨ L = 3) (hi : idx < 24) (h : FS n ch m k pos e) : ∃ v m1 m', fm_figure (nI L) m = some (v, m1) ∧ gu m1 4 24 (nI idx) v = some m' ∧ FS n ch m' k (pos + 1) (nx9 n ch e pos L) ∧ GF m m' ∧ (nx9 n ch e pos L = none → m'.1 4 idx = nI (ch pos - 48)) ∧ ∀ j, j ≠ idx → m'.1 4 j = m.1 4 j := by
  obtain ⟨hR, h6, he⟩ := h
  have fr : ∀ (i : Nat) (v u : Int32), i = 10 ∨ i = 11 → RD n ch (wr (wr m 0 i v) 4 idx u) := fun i v u hi => hR.fr (by rw [wr_ne _ _ _ (by omega), wr_off _ _ _ (by omega)]) (by rw [wr_ne _ _ _ (by omega), wr_ne _ _ _ (by omega)])
  cases e with
  | some f =>
    obtain ⟨e1, e2⟩ : m.1 0 11 = nI f ∧ f < 100 := he
    refine ⟨0, _, _, fig_err hL e2 e1, gu_n hi (by decide), ⟨fr 11 _ _ (by omega), ?_, ?_⟩, (gf_w (by omega)).tr gf_4, fun q => (by cases q), fun j hj => ?_⟩
    · rw [wr_ne _ _ _ (by omega), wr_off _ _ _ (by omega)]; exact h6
    · exact ⟨by rw [wr_ne _ _ _ (by omega), wr_same], e2⟩
    · rw [wr_off _ _ _ hj, wr_ne _ _ _ (by omega)]
  | none =>
    obtain ⟨e1, e2, e3⟩ : m.1 0 11 = -9 ∧ m.1 0 10 = nI pos ∧ pos ≤ n := he
    have hn := hR.1
    by_cases hg : pos < n ∧ gd9 L (ch pos) = true
    · have hx : nx9 n ch none pos L = none := if_pos hg
      have hg2 := hg.2
      unfold gd9 at hg2
      rw [Bool.and_eq_true, decide_eq_true_eq, decide_eq_true_eq] at hg2
      rw [hx]
      refine ⟨_, _, _, fig_ok hR hL hg.1 e2 e1 hg2.1 hg2.2, gu_n hi (by decide), ⟨fr 10 _ _ (by omega), ?_, ?_, ?_, ?_⟩, (gf_w (by omega)).tr gf_4, fun _ => wr_same _ _ _ _, fun j hj => ?_⟩
      · rw [wr_ne _ _ _ (by omega), wr_off _ _ _ (by omega)]; exact h6
      · rw [wr_ne _ _ _ (by omega), wr_off _ _ _ (by omega)]; exact e1
      · rw [wr_ne _ _ _ (by omega), wr_same]
      · omega
      · rw [wr_off _ _ _ hj, wr_ne _ _ _ (by omega)]
    · have hx : nx9 n ch none pos L = some pos := if_neg hg
      rw [hx]
      refine ⟨_, _, _, fig_bad hR hL e3 e2 e1 (fun q => ?_), gu_n hi (by decide), ⟨fr 11 _ _ (by omega), ?_, ?_⟩, (gf_w (by omega)).tr gf_4, fun q => (by cases q), fun j hj => ?_⟩
      · cases hb : gd9 L (ch pos) with
        | true => exact absurd ⟨q, hb⟩ hg
        | false => exact hb
      · rw [wr_ne _ _ _ (by omega), wr_off _ _ _ (by omega)]; exact h6
      · exact ⟨by rw [wr_ne _ _ _ (by omega), wr_same], by omega⟩
      · rw [wr_off _ _ _ hj, wr_ne _ _ _ (by omega)]
def FF (n : Nat) (ch : Nat → Nat) (i : Nat) : Int32 := ff n ch (n - i) i
theorem FF_s {n i : Nat} {ch : Nat → Nat} (h : i < n) : FF n ch i = if fitB ch i then FF n ch (i + 1) else nI i := by
  unfold FF
  rw [show n - i = (n - (i + 1)) + 1 by omega, ff]
theorem FF_n {n : Nat} {ch : Nat → Nat} : FF n ch n = if n < 2 then nI n else (if (n - 2) % 5 = 0 then -9 else nI n) := by
  unfold FF
  rw [Nat.sub_self]
  rfl
theorem fit_f {ch : Nat → Nat} {k t : Nat} (hk : k < 6) (ht : t < 4) : fitB ch (2 + 5 * k + 1 + t) = gd9 (if t % 2 = 0 then 9 else 3) (ch (2 + 5 * k + 1 + t)) := by
  unfold fitB
  rw [if_neg (by omega), if_neg (by omega), if_pos (by omega), if_neg (by omega)]
  have hm : (2 + 5 * k + 1 + t - 2) % 5 = t + 1 := by omega
  rw [hm]
  by_cases h : t % 2 = 0
  · rw [if_pos (by omega), if_pos h]; rfl
  · rw [if_neg (by omega), if_neg h]; rfl
theorem FF_f {n : Nat} {ch : Nat → Nat} {k t L : Nat} (hk : k < 6) (ht : t < 4) (hL : L = if t % 2 = 0 then 9 else 3) (hp : 2 + 5 * k + 1 + t ≤ n) : FF n ch (2 + 5 * k + 1 + t) = match nx9 n ch none (2 + 5 * k + 1 + t) L with
    | none => FF n ch (2 + 5 * k + 1 + t + 1)
    | some f => nI f := by
  have hf := fit_f (ch := ch) hk ht
  rw [← hL] at hf
  unfold nx9
  rcases Nat.lt_or_ge (2 + 5 * k + 1 + t) n with q | q
  · rw [FF_s q, hf]
    cases hb : gd9 L (ch (2 + 5 * k + 1 + t)) with
    | true => simp [q]
    | false => simp
  · obtain rfl : n = 2 + 5 * k + 1 + t := by omega
    rw [FF_n, if_neg (by omega), if_neg (by omega)]
    simp
