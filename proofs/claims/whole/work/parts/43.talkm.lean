/-! the same talks on the side of the reference -/
def so (a : TK) (c : Nat) : TK := (mk a.1 (sy c a.2.2.1), a.2.1, sy c a.2.2.1, a.2.2.2)
/-- cell 3 moved alone, and there only where a talk of base b lies -/
def FL (b : Nat) (w w' : St) : Prop := (∀ d, d ≠ 3 → w'.1 d = w.1 d) ∧ (∀ j, j < b + 15 ∨ b + 26 ≤ j → w'.1 3 j = w.1 3 j) ∧ w'.2 = w.2
theorem FL.rf {b : Nat} {w : St} : FL b w w := ⟨fun _ _ => rfl, fun _ _ => rfl, rfl⟩
theorem FL.tr {b : Nat} {w w' w'' : St} (h : FL b w w') (h2 : FL b w' w'') : FL b w w'' := ⟨fun d q => (h2.1 d q).trans (h.1 d q), fun j q => (h2.2.1 j q).trans (h.2.1 j q), h2.2.2.trans h.2.2⟩
theorem FL.wr {b j : Nat} {v : Int32} {w : St} (h : b + 15 ≤ j) (h2 : j < b + 26) : FL b w (wr w 3 j v) := ⟨fun d q => wr_ne w j v q, fun i q => wr_off w 3 v (by omega), rfl⟩
def KM (kd : Nat → Nat) (w : St) : Prop := ∀ j, j < 7 → kd j ≤ 3 ∧ w.1 2 j = nI (kd j)
def SM (b B : Nat) (sn : Nat → Nat) (w : St) : Prop := ∀ j, j < 7 → B.testBit j = true → sn j < 40 ∧ w.1 3 (b + 1 + j) = nI (sn j / 10) ∧ w.1 3 (b + 8 + j) = nI (sn j % 10)
theorem made_m : ∀ s, s < 10 → ∀ c, c < 30 → fm_made (nI s) (nI (c / 10)) (nI (c % 10)) = some (nI (mk s (some c))) := by decide +kernel
theorem ad (a k : Nat) (v : Int32) (h : v = nI k) : nI a + v = nI (a + k) := by subst h; exact nI_add a k
theorem n9 {n : Nat} (h : n < 2 ^ 31) : ¬ nI n = (-9 : Int32) := fun q => nI_pos h (by rw [q]; decide)
theorem speakOn58 {b s : Nat} {o : Option Nat} {w : St} (hb : b ≤ 27) (hs : s < 10) (ho : ∀ z, o = some z → z < 30) (h : w.1 3 (b + 22) = nI s) (hm : MS 3 b o w) : ∃ w', fm_speakOn_58 (nI b) w = some w' ∧ FL b w w' ∧ w'.1 3 (b + 22) = nI (mk s o) ∧ ∀ j, j ≠ b + 22 → w'.1 3 j = w.1 3 j := by
  unfold fm_speakOn_58
  rw [ad b 24 24 rfl, ad b 22 22 rfl, ad b 25 25 rfl, gr_n (show b + 24 < 54 by omega) (by decide), gr_n (show b + 22 < 54 by omega) (by decide), gr_n (show b + 25 < 54 by omega) (by decide)]
  simp only [Option.bind_some]
  cases o with
  | none =>
    rw [if_pos (show w.1 3 (b + 24) = -9 from hm)]
    exact ⟨w, rfl, FL.rf, h, fun _ _ => rfl⟩
  | some c =>
    obtain ⟨m1, m2⟩ : w.1 3 (b + 24) = nI (c / 10) ∧ w.1 3 (b + 25) = nI (c % 10) := hm
    have hc := ho c rfl
    rw [m1, m2, h, if_neg (n9 (by omega)), made_m s hs c hc]
    simp only [Option.bind_some]
    rw [gu_n (show b + 22 < 54 by omega) (by decide)]
    exact ⟨_, rfl, FL.wr (by omega) (by omega), wr_same _ _ _ _, fun j hj => wr_off _ _ _ hj⟩
theorem speakOn_m {L : Int32} {b p c B : Nat} {sn : Nat → Nat} {a : TK} {w : St} (hL : (27 : Int32) * L = nI b) (hb : b ≤ 27) (hp : p < 7) (hB : B.testBit p = true) (hS : SM b B sn w) (hc : c = sn p) (ha : TI a) (hM : MT 3 b a w) : ∃ w', fm_speakOn L (nI p) w = some w' ∧ FL b w w' ∧ MT 3 b (so a c) w' := by
  subst hc
  obtain ⟨m0, m1, m2, m3⟩ := hM
  obtain ⟨hc, s1, s2⟩ := hS p hp hB
  unfold fm_speakOn
  dsimp only [lb]
  rw [hL, ad b 1 1 rfl, nI_add, gr_n (show b + 1 + p < 54 by omega) (by decide), s1]
  simp only [Option.bind_some]
  by_cases h3 : sn p / 10 = 3
  · rw [h3, if_pos (show nI 3 = (3 : Int32) from rfl)]
    obtain ⟨w', e1, e2, e3, e4⟩ := speakOn58 hb ha.1 ha.2 m0 m2
    have hsy : sy (sn p) a.2.2.1 = a.2.2.1 := if_pos h3
    refine ⟨w', e1, e2, ?_, ?_, ?_, ?_⟩
    · rw [e3]; show _ = nI (mk a.1 (sy (sn p) a.2.2.1)); rw [hsy]
    · rw [e4 _ (by omega)]; exact m1
    · show MS 3 b (sy (sn p) a.2.2.1) w'
      rw [hsy]
      cases h : a.2.2.1 with
      | none => rw [h] at m2; exact (e4 _ (by omega)).trans m2
      | some z => rw [h] at m2; exact ⟨(e4 _ (by omega)).trans m2.1, (e4 _ (by omega)).trans m2.2⟩
    · intro j hj
      rw [e4 _ (by omega)]
      exact m3 j hj
  · rw [if_neg (fun (z : nI (sn p / 10) = (3 : Int32)) => h3 ((nI_eq (b := 3) (by omega) (by decide)).mp z)), ad b 24 24 rfl, gu_n (show b + 24 < 54 by omega) (by decide)]
    simp only [Option.bind_some]
    rw [ad b 8 8 rfl, nI_add, gr_n (show b + 8 + p < 54 by omega) (by decide), wr_off _ _ _ (by omega), s2]
    simp only [Option.bind_some]
    rw [ad b 25 25 rfl, gu_n (show b + 25 < 54 by omega) (by decide)]
    simp only [Option.bind_some]
    have hsy : sy (sn p) a.2.2.1 = some (sn p) := if_neg h3
    obtain ⟨w', e1, e2, e3, e4⟩ := speakOn58 (o := some (sn p)) (w := wr (wr w 3 (b + 24) (nI (sn p / 10))) 3 (b + 25) (nI (sn p % 10))) hb ha.1 (fun z hz => by cases hz; omega) (by rw [wr_off _ _ _ (by omega), wr_off _ _ _ (by omega)]; exact m0) ⟨by rw [wr_off _ _ _ (by omega), wr_same], wr_same _ _ _ _⟩
    refine ⟨w', e1, ((FL.wr (by omega) (by omega)).tr (FL.wr (by omega) (by omega))).tr e2, ?_, ?_, ?_, ?_⟩
    · rw [e3]; show _ = nI (mk a.1 (sy (sn p) a.2.2.1)); rw [hsy]
    · rw [e4 _ (by omega), wr_off _ _ _ (by omega), wr_off _ _ _ (by omega)]; exact m1
    · show MS 3 b (sy (sn p) a.2.2.1) w'
      rw [hsy]
      exact ⟨by rw [e4 _ (by omega), wr_off _ _ _ (by omega), wr_same], by rw [e4 _ (by omega), wr_same]⟩
    · intro j hj
      rw [e4 _ (by omega), wr_off _ _ _ (by omega), wr_off _ _ _ (by omega)]
      exact m3 j hj
theorem so_ok {a : TK} {c : Nat} (ha : TI a) (hc : c < 40) : TI (so a c) := ⟨mk_lt ha.1, sy_lt hc ha.2⟩
theorem sy_2 (c : Nat) (o : Option Nat) : sy c (sy c o) = sy c o := by
  unfold sy
  by_cases h : c / 10 = 3
  · simp [h]
  · simp [h]
theorem SM.fl {b B b' : Nat} {sn : Nat → Nat} {w w' : St} (h : SM b B sn w) (hf : FL b' w w') (hbb : b' = b ∨ b = 27 ∧ b' = 0 ∨ b = 0 ∧ b' = 27) : SM b B sn w' := by
  intro j hj hB
  obtain ⟨h1, h2, h3⟩ := h j hj hB
  exact ⟨h1, by rw [hf.2.1 _ (by omega)]; exact h2, by rw [hf.2.1 _ (by omega)]; exact h3⟩
theorem sayOn22 {L : Int32} {b p : Nat} {a : TK} {w : St} (hL : (27 : Int32) * L = nI b) (hb : b ≤ 27) (hp : p < 7) (hM : MT 3 b a w) : ∃ w', fm_sayOn_22 L (nI p) w = some w' ∧ FL b w w' ∧ MT 3 b (a.1, nI p, a.2.2.1, upd a.2.2.2 p (a.2.2.2 p + 1)) w' := by
  obtain ⟨m0, m1, m2, m3⟩ := hM
  unfold fm_sayOn_22
  rw [hL, ad b 15 15 rfl, nI_add, gr_n (show b + 15 + p < 54 by omega) (by decide)]
  simp only [Option.bind_some]
  rw [gu_n (show b + 15 + p < 54 by omega) (by decide)]
  simp only [Option.bind_some]
  rw [ad b 23 23 rfl, gu_n (show b + 23 < 54 by omega) (by decide)]
  refine ⟨_, rfl, (FL.wr (by omega) (by omega)).tr (FL.wr (by omega) (by omega)), ?_, ?_, ?_, ?_⟩
  · rw [wr_off _ _ _ (by omega), wr_off _ _ _ (by omega)]; exact m0
  · exact wr_same _ _ _ _
  · show MS 3 b a.2.2.1 _
    cases h : a.2.2.1 with
    | none => rw [h] at m2; show _ = _; rw [wr_off _ _ _ (by omega), wr_off _ _ _ (by omega)]; exact m2
    | some z => rw [h] at m2; exact ⟨by rw [wr_off _ _ _ (by omega), wr_off _ _ _ (by omega)]; exact m2.1, by rw [wr_off _ _ _ (by omega), wr_off _ _ _ (by omega)]; exact m2.2⟩
  · intro j hj
    show _ = upd a.2.2.2 p (a.2.2.2 p + 1) j
    rw [wr_off _ _ _ (by omega)]
    by_cases hjp : j = p
    · subst hjp
      rw [wr_same, m3 j hj]
      simp [upd]
    · rw [wr_off _ _ _ (by omega), m3 j hj]
      simp [upd, hjp]
theorem sayOn_m {L : Int32} {b p B : Nat} {kd sn : Nat → Nat} {a : TK} {w : St} (hL : (27 : Int32) * L = nI b) (hbb : b = 0 ∨ b = 27) (hp : p < 7) (hB : B.testBit p = true) (hK : KM kd w) (hS : SM b B sn w) (ha : TI a) (hM : MT 3 b a w) : ∃ w', fm_sayOn L (nI p) w = some w' ∧ FL b w w' ∧ MT 3 b (wk kd sn a p) w' ∧ TI (wk kd sn a p) := by
  have hb : b ≤ 27 := by omega
  have hc := (hS p hp hB).1
  obtain ⟨k3, hk⟩ := hK p hp
  obtain ⟨w1, e1, f1, g1⟩ := speakOn_m hL hb hp hB hS rfl ha hM
  unfold fm_sayOn
  rw [e1]
  simp only [Option.bind_some]
  rw [gr_n hp (by decide), f1.1 2 (by decide), hk]
  simp only [Option.bind_some]
  unfold wk
  by_cases h2 : kd p = 2
  · rw [h2, if_pos (show nI 2 = (2 : Int32) from rfl), if_pos rfl]
    obtain ⟨w2, e2, f2, g2⟩ := speakOn_m hL hb hp hB (hS.fl f1 (Or.inl rfl)) rfl (so_ok ha hc) g1
    obtain ⟨w3, e3, f3, g3⟩ := sayOn22 hL hb hp g2
    rw [e2]
    simp only [Option.bind_some]
    refine ⟨w3, e3, (f1.tr f2).tr f3, ?_, ut_ok ha hc⟩
    have : (ut a p (sn p) 2 : TK) = ((so (so a (sn p)) (sn p)).1, nI p, (so (so a (sn p)) (sn p)).2.2.1, upd (so (so a (sn p)) (sn p)).2.2.2 p ((so (so a (sn p)) (sn p)).2.2.2 p + 1)) := by
      simp only [ut, so, rp, sy_2]
    rw [this]
    exact g3
  · rw [if_neg (fun (z : nI (kd p) = (2 : Int32)) => h2 ((nI_eq (b := 2) (by omega) (by decide)).mp z)), if_neg h2]
    obtain ⟨w3, e3, f3, g3⟩ := sayOn22 hL hb hp g1
    exact ⟨w3, e3, f1.tr f3, g3, ut_ok ha hc⟩
theorem may_m {L : Int32} {b p B : Nat} {kd : Nat → Nat} {a : TK} {w : St} (hL : (27 : Int32) * L = nI b) (hbb : b = 0 ∨ b = 27) (hp : p < 7) (hB : B < 128) (hw : w.1 3 b = nI B) (hK : KM kd w) (h6 : kd 6 = 0) (hM : MT 3 b a w) : fm_may L (nI p) w = some (b2 (B.testBit p && my kd a p), w) := by
  obtain ⟨k3, hk⟩ := hK p hp
  obtain ⟨-, m1, -, m3⟩ := hM
  unfold fm_may fm_may_51 fm_may_52
  dsimp only [lb]
  rw [hL, gr_n (show b < 54 by omega) (by decide), hw]
  simp only [Option.bind_some]
  rw [has_m (by omega) (by omega)]
  simp only [Option.bind_some]
  cases hb : B.testBit p with
  | false => simp [b2]
  | true =>
    simp only [Bool.true_and, if_true]
    rw [if_neg (by decide), ad b 23 23 rfl, gr_n (show b + 23 < 54 by omega) (by decide), m1, ad b 15 15 rfl, nI_add, gr_n (show b + 15 + p < 54 by omega) (by decide), gr_n hp (by decide), hk]
    simp only [Option.bind_some]
    unfold my
    by_cases h1 : kd p = 1
    · rw [h1, if_pos rfl]
      by_cases q1 : a.2.1 = -9
      · rw [if_pos q1, if_pos (show nI 1 = (1 : Int32) from rfl)]
        simp [q1, b2, gz]
      · by_cases q2 : a.2.1 = nI p
        · rw [if_neg q1, if_pos q2, if_pos (show nI 1 = (1 : Int32) from rfl)]
          simp [q2, b2, gz]
        · rw [if_neg q1, if_neg q2, if_pos (show nI 1 = (1 : Int32) from rfl)]
          simp [q1, q2, b2, gz]
    · have n1 : ¬ nI (kd p) = (1 : Int32) := fun z => h1 ((nI_eq (b := 1) (by omega) (by decide)).mp z)
      rw [if_neg n1, if_neg n1, ite_self, ite_self, if_neg h1]
      by_cases h3 : kd p = 3
      · have hp6 : p < 6 := by
          rcases Nat.lt_or_ge p 6 with q | q
          · exact q
          · obtain rfl : p = 6 := by omega
            omega
        rw [h3, if_pos (show nI 3 = (3 : Int32) from rfl), if_pos rfl, m3 p hp6]
        by_cases q : a.2.2.2 p = 0 <;> simp [q, b2]
      · rw [if_neg (fun (z : nI (kd p) = (3 : Int32)) => h3 ((nI_eq (b := 3) (by omega) (by decide)).mp z)), if_neg h3]
        simp [b2]
