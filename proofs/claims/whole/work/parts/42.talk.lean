/-! talks: what a saying makes of one, on either side -/
def mk (s : Nat) (o : Option Nat) : Nat := match o with
  | none => s
  | some c => if c / 10 = 0 then c % 10 else if c / 10 = 1 then (s + c % 10) % 10 else if c / 10 = 2 then 9 - s else s
def sy (c : Nat) (o : Option Nat) : Option Nat := if c / 10 = 3 then o else some c
def rp (k s : Nat) (o : Option Nat) : Nat := match k with
  | 0 => s
  | k + 1 => rp k (mk s o) o
/-- p speaks c, done k times -/
def ut (a : TK) (p c k : Nat) : TK := (rp k a.1 (sy c a.2.2.1), nI p, sy c a.2.2.1, upd a.2.2.2 p (a.2.2.2 p + 1))
/-- p speaks as its kind is -/
def wk (kd sn : Nat → Nat) (a : TK) (p : Nat) : TK := ut a p (sn p) (if kd p = 2 then 2 else 1)
def my (kd : Nat → Nat) (a : TK) (p : Nat) : Bool := if kd p = 1 then (decide (a.2.1 ≠ -9) && decide (a.2.1 ≠ nI p)) else if kd p = 3 then decide (a.2.2.2 p = 0) else true
theorem mk_lt {s : Nat} {o : Option Nat} (h : s < 10) : mk s o < 10 := by
  unfold mk
  split
  · exact h
  · repeat' split
    all_goals omega
theorem rp_lt {k : Nat} : ∀ {s : Nat} {o : Option Nat}, s < 10 → rp k s o < 10 := by
  induction k with
  | zero => exact fun h => h
  | succ k ih => exact fun h => ih (mk_lt h)
theorem sy_lt {c : Nat} {o : Option Nat} (hc : c < 40) (ho : ∀ z, o = some z → z < 30) : ∀ z, sy c o = some z → z < 30 := by
  intro z hz
  unfold sy at hz
  split at hz
  · exact ho z hz
  · cases hz; omega
theorem ut_ok {a : TK} {p c k : Nat} (ha : TI a) (hc : c < 40) : TI (ut a p c k) := ⟨rp_lt ha.1, sy_lt hc ha.2⟩
theorem made_x : ∀ s, s < 10 → ∀ c, c < 40 → ft_made (nI s) (nI c) = some (nI (mk s (some c))) := by decide +kernel
theorem made_o {s : Nat} {o : Option Nat} (hs : s < 10) (ho : ∀ z, o = some z → z < 30) : ft_made (nI s) (cd o) = some (nI (mk s o)) := by
  cases o with
  | none => rfl
  | some c => exact made_x s hs c (by have := ho c rfl; omega)
/-- only the talk at t moved -/
def FT (t : Nat) (w w' : St) : Prop := (∀ d, d ≠ t → d ≠ t + 1 → w'.1 d = w.1 d) ∧ w'.2 = w.2
theorem FT.rf {t : Nat} {w : St} : FT t w w := ⟨fun _ _ _ => rfl, rfl⟩
theorem FT.tr {t : Nat} {w w' w'' : St} (h : FT t w w') (h2 : FT t w' w'') : FT t w w'' := ⟨fun d h1 h3 => (h2.1 d h1 h3).trans (h.1 d h1 h3), h2.2.trans h.2⟩
theorem FT.wr0 {t j : Nat} {v : Int32} {w : St} : FT t w (wr w t j v) := ⟨fun d h1 _ => wr_ne w j v h1, rfl⟩
theorem FT.wr1 {t j : Nat} {v : Int32} {w : St} : FT t w (wr w (t + 1) j v) := ⟨fun d _ h2 => wr_ne w j v h2, rfl⟩
theorem wr_same (w : St) (k i : Nat) (v : Int32) : (wr w k i v).1 k i = v := by rw [wr_at]; simp [upd]
theorem wr_off (w : St) (k : Nat) {i j : Nat} (v : Int32) (h : j ≠ i) : (wr w k i v).1 k j = w.1 k j := by rw [wr_at]; simp [upd, h]
theorem ne_s (t : Nat) : t ≠ t + 1 := by omega
theorem ne_s' (t : Nat) : t + 1 ≠ t := by omega
theorem utter16 (t p n : Nat) (hp : p < 7) (o : Option Nat) (ho : ∀ z, o = some z → z < 30) : ∀ (r fu i s : Nat) (w : St), i + r = n → n < 1000 → r < fu → s < 10 → w.1 t 0 = nI s → w.1 t 2 = cd o → ∃ w', ft_utter_16 fu t (nI p) (nI n) (nI i) w = some w' ∧ FT t w w' ∧ w'.1 t 0 = nI (rp r s o) ∧ w'.1 t 1 = nI p ∧ w'.1 t 2 = cd o ∧ w'.1 (t + 1) p = w.1 (t + 1) p + 1 ∧ ∀ j, j ≠ p → w'.1 (t + 1) j = w.1 (t + 1) j := by
  intro r
  induction r with
  | zero =>
    intro fu i s w h1 hn hf hs h0 h2
    obtain ⟨fu, rfl⟩ : ∃ f, fu = f + 1 := ⟨fu - 1, by omega⟩
    obtain rfl : i = n := by omega
    rw [ft_utter_16, if_pos (nI_le (Nat.le_refl i) (by omega)), if_neg (nI_pos (by omega)), if_neg (show ¬ (7 : Int32) ≤ nI p from nI_ge (b := 7) hp (by decide)), gr_n hp (by omega)]
    simp only [Option.bind_some]
    rw [gu_n hp (by omega)]
    refine ⟨_, rfl, FT.wr0.tr FT.wr1, ?_, ?_, ?_, ?_, ?_⟩
    · rw [wr_ne _ _ _ (ne_s t), wr_off _ _ _ (by omega), h0]; rfl
    · rw [wr_ne _ _ _ (ne_s t), wr_same]
    · rw [wr_ne _ _ _ (ne_s t), wr_off _ _ _ (by omega), h2]
    · rw [wr_same, wr_ne _ _ _ (ne_s' t)]
    · intro j hj
      rw [wr_off _ _ _ hj, wr_ne _ _ _ (ne_s' t)]
  | succ r ih =>
    intro fu i s w h1 hn hf hs h0 h2
    obtain ⟨fu, rfl⟩ : ∃ f, fu = f + 1 := ⟨fu - 1, by omega⟩
    rw [ft_utter_16, if_neg (nI_ge (show i < n by omega) (by omega)), h0, h2, made_o hs ho]
    simp only [Option.bind_some]
    rw [nI_1]
    obtain ⟨w', e1, e2, e3, e4, e5, e6, e7⟩ := ih fu (i + 1) (mk s o) (wr w t 0 (nI (mk s o))) (by omega) hn (by omega) (mk_lt hs) (wr_same _ _ _ _) (by rw [wr_off _ _ _ (by omega), h2])
    refine ⟨w', e1, FT.wr0.tr e2, e3, e4, e5, ?_, ?_⟩
    · rw [e6, wr_ne _ _ _ (ne_s' t)]
    · intro j hj
      rw [e7 j hj, wr_ne _ _ _ (ne_s' t)]
theorem utter_x {t p c n : Nat} {a : TK} {w : St} (hp : p < 7) (hc : c < 40) (hn : n < 1000) (ha : TI a) (hX : XT t a w) : ∃ w', ft_utter t (nI p) (nI c) (nI n) w = some w' ∧ FT t w w' ∧ XT t (ut a p c n) w' := by
  obtain ⟨x0, x1, x2, x3⟩ := hX
  have hd : nI c / (10 : Int32) = nI (c / 10) := pk_div (a := c) (d := 10) (by omega) (by omega) (by omega)
  have ht : ∀ (w1 w' : St), w1.1 (t + 1) = w.1 (t + 1) → w'.1 (t + 1) p = w1.1 (t + 1) p + 1 → (∀ j, j ≠ p → w'.1 (t + 1) j = w1.1 (t + 1) j) → ∀ j, j < 6 → w'.1 (t + 1) j = upd a.2.2.2 p (a.2.2.2 p + 1) j := by
    intro w1 w' h0 h1 h2 j hj
    by_cases hjp : j = p
    · subst hjp
      rw [h1, h0, x3 j hj]
      simp [upd]
    · rw [h2 j hjp, h0, x3 j hj]
      simp [upd, hjp]
  unfold ft_utter ft_utter_13
  rw [hd]
  by_cases h3 : c / 10 = 3
  · rw [h3, if_pos (show nI 3 = (3 : Int32) from rfl)]
    obtain ⟨w', e1, e2, e3, e4, e5, e6, e7⟩ := utter16 t p n hp a.2.2.1 ha.2 n 4096 0 a.1 w (by omega) hn (by omega) ha.1 x0 x2
    exact ⟨w', e1, e2, by simpa [ut, sy, h3] using e3, e4, by simpa [ut, sy, h3] using e5, ht w w' rfl e6 e7⟩
  · rw [if_neg (fun (h : nI (c / 10) = (3 : Int32)) => h3 ((nI_eq (b := 3) (by omega) (by decide)).mp h))]
    obtain ⟨w', e1, e2, e3, e4, e5, e6, e7⟩ := utter16 t p n hp (some c) (fun z hz => by cases hz; omega) n 4096 0 a.1 (wr w t 2 (nI c)) (by omega) hn (by omega) ha.1 (by rw [wr_off _ _ _ (by omega), x0]) (wr_same _ _ _ _)
    exact ⟨w', e1, FT.wr0.tr e2, by simpa [ut, sy, h3] using e3, e4, by simpa [ut, sy, h3] using e5, ht _ w' (wr_ne _ _ _ (ne_s' t)) e6 e7⟩
/-- kinds, and the sentences of those of B -/
def KX (kd : Nat → Nat) (w : St) : Prop := ∀ j, j < 7 → kd j ≤ 3 ∧ w.1 3 j = nI (kd j)
def SX (B : Nat) (sn : Nat → Nat) (w : St) : Prop := ∀ j, j < 7 → B.testBit j = true → sn j < 40 ∧ (if j = 6 then w.1 0 15 else w.1 16 j) = nI (sn j)
theorem sent_x {B p : Nat} {sn : Nat → Nat} {w : St} (hp : p < 7) (hb : B.testBit p = true) (hS : SX B sn w) : fx_sentenceOf (nI p) w = some (nI (sn p), w) := by
  obtain ⟨-, h⟩ := hS p hp hb
  unfold fx_sentenceOf
  by_cases h6 : p = 6
  · subst h6
    rw [if_pos rfl] at h
    rw [if_pos (show nI 6 = (6 : Int32) from rfl), h]
  · rw [if_neg h6] at h
    rw [if_neg (fun (z : nI p = (6 : Int32)) => h6 ((nI_eq (b := 6) (by omega) (by decide)).mp z)), if_neg (nI_pos (by omega)), if_neg (show ¬ (6 : Int32) ≤ nI p from nI_ge (b := 6) (show p < 6 by omega) (by decide)), gr_n (show p < 6 by omega) (by omega), h]
    rfl
theorem speak_x {t p B : Nat} {kd sn : Nat → Nat} {a : TK} {w : St} (hp : p < 7) (hb : B.testBit p = true) (hK : KX kd w) (hS : SX B sn w) (ha : TI a) (hX : XT t a w) : ∃ w', fx_speak t (nI p) w = some w' ∧ FT t w w' ∧ XT t (wk kd sn a p) w' ∧ TI (wk kd sn a p) := by
  have hc := (hS p hp hb).1
  obtain ⟨k3, hk⟩ := hK p hp
  unfold fx_speak fx_speak_24 fx_speak_25 fx_speak_42
  rw [if_neg (nI_pos (by omega)), if_neg (show ¬ (7 : Int32) ≤ nI p from nI_ge (b := 7) hp (by decide)), gr_n hp (by omega), hk]
  simp only [Option.bind_some]
  rw [sent_x hp hb hS]
  simp only [Option.bind_some]
  unfold wk
  by_cases h2 : kd p = 2
  · rw [h2, if_pos (show nI 2 = (2 : Int32) from rfl), if_neg (by decide), if_pos rfl]
    obtain ⟨w', e1, e2, e3⟩ := utter_x (n := 2) hp hc (by omega) ha hX
    exact ⟨w', by rw [show (2 : Int32) = nI 2 from rfl, e1]; rfl, e2, e3, ut_ok ha hc⟩
  · rw [if_neg (fun (z : nI (kd p) = (2 : Int32)) => h2 ((nI_eq (b := 2) (by omega) (by decide)).mp z)), if_pos trivial, if_neg h2]
    obtain ⟨w', e1, e2, e3⟩ := utter_x (n := 1) hp hc (by omega) ha hX
    exact ⟨w', by rw [show (1 : Int32) = nI 1 from rfl, e1]; rfl, e2, e3, ut_ok ha hc⟩
def b2 (b : Bool) : Int32 := if b then 1 else 0
theorem may_x {t p B : Nat} {kd : Nat → Nat} {a : TK} {w : St} (hp : p < 7) (hB : B < 128) (hK : KX kd w) (h6 : kd 6 = 0) (hX : XT t a w) : fx_maySpeak t (nI B) (nI p) w = some (b2 (B.testBit p && my kd a p), w) := by
  obtain ⟨k3, hk⟩ := hK p hp
  obtain ⟨-, x1, -, x3⟩ := hX
  unfold fx_maySpeak
  rw [if_neg (nI_pos (by omega)), if_neg (show ¬ (7 : Int32) ≤ nI p from nI_ge (b := 7) hp (by decide)), has_x (by omega) (by omega)]
  simp only [Option.bind_some]
  cases hb : B.testBit p with
  | false => simp [b2]
  | true =>
    simp only [Bool.true_and, if_true]
    rw [if_neg (by decide), gr_n hp (by omega), hk]
    simp only [Option.bind_some]
    unfold my
    by_cases h1 : kd p = 1
    · rw [h1, if_pos (show nI 1 = (1 : Int32) from rfl), if_pos rfl, x1]
      by_cases q1 : a.2.1 = -9
      · simp [q1, b2]
      · by_cases q2 : a.2.1 = nI p
        · rw [if_neg q1, if_pos q2]
          simp [q2, b2]
        · rw [if_neg q1, if_neg q2]
          simp [q1, q2, b2]
    · rw [if_neg (fun (z : nI (kd p) = (1 : Int32)) => h1 ((nI_eq (b := 1) (by omega) (by decide)).mp z)), if_neg h1]
      by_cases h3 : kd p = 3
      · have hp6 : p < 6 := by
          rcases Nat.lt_or_ge p 6 with q | q
          · exact q
          · obtain rfl : p = 6 := by omega
            omega
        rw [h3, if_pos (show nI 3 = (3 : Int32) from rfl), if_pos rfl, gr_n hp (by omega), x3 p hp6]
        simp only [Option.bind_some]
        by_cases q : a.2.2.2 p = 0 <;> simp [q, b2]
      · rw [if_neg (fun (z : nI (kd p) = (3 : Int32)) => h3 ((nI_eq (b := 3) (by omega) (by decide)).mp z)), if_neg h3]
        simp [b2]
theorem may_out {t : Nat} {B p : Int32} {w : St} (h : p < 0 ∨ nI 7 ≤ p) : fx_maySpeak t B p w = some (0, w) := by
  unfold fx_maySpeak
  by_cases h0 : p < 0
  · rw [if_pos h0]
  · rw [if_neg h0, if_pos (show (7 : Int32) ≤ p from h.resolve_left h0)]
