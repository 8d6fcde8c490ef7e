/-! what no call leaves behind, and the trial talk -/
def SW (x x' : St) : Prop := (∀ d, d ≠ 0 → (d < 7 ∨ 13 ≤ d) → x'.1 d = x.1 d) ∧ ∀ j, j ≠ 15 → x'.1 0 j = x.1 0 j
def SN (m m' : St) : Prop := (∀ d, (d = 1 ∨ d = 2 ∨ d = 5 ∨ d = 6 ∨ 10 ≤ d) → m'.1 d = m.1 d) ∧ (∀ j, j < 27 → m'.1 3 j = m.1 3 j) ∧ ∀ j, (j = 0 ∨ j = 1 ∨ j = 9 ∨ j = 12 ∨ j = 13) → m'.1 0 j = m.1 0 j
theorem SW.rf {x : St} : SW x x := ⟨fun _ _ _ => rfl, fun _ _ => rfl⟩
theorem SN.rf {x : St} : SN x x := ⟨fun _ _ => rfl, fun _ _ => rfl, fun _ _ => rfl⟩
theorem SW.tr {x x' x'' : St} (h : SW x x') (g : SW x' x'') : SW x x'' := ⟨fun d a b => (g.1 d a b).trans (h.1 d a b), fun j a => (g.2 j a).trans (h.2 j a)⟩
theorem SN.tr {x x' x'' : St} (h : SN x x') (g : SN x' x'') : SN x x'' := ⟨fun d a => (g.1 d a).trans (h.1 d a), fun j a => (g.2.1 j a).trans (h.2.1 j a), fun j a => (g.2.2 j a).trans (h.2.2 j a)⟩
theorem FT.sw {x x' : St} (h : FT 11 x x') : SW x x' := ⟨fun d _ b => h.1 d (by omega) (by omega), fun j _ => by rw [h.1 0 (by omega) (by omega)]⟩
/-- the trial alone moved -/
def TF (m m' : St) : Prop := (∀ d, d ≠ 3 → m'.1 d = m.1 d) ∧ (∀ j, j < 27 → m'.1 3 j = m.1 3 j) ∧ m'.2 = m.2
theorem TF.rf {m : St} : TF m m := ⟨fun _ _ => rfl, fun _ _ => rfl, rfl⟩
theorem TF.tr {x x' x'' : St} (h : TF x x') (g : TF x' x'') : TF x x'' := ⟨fun d a => (g.1 d a).trans (h.1 d a), fun j a => (g.2.1 j a).trans (h.2.1 j a), g.2.2.trans h.2.2⟩
theorem TF.sn {m m' : St} (h : TF m m') : SN m m' := ⟨fun d _ => h.1 d (by omega), h.2.1, fun j _ => by rw [h.1 0 (by omega)]⟩
theorem FL.tf {m m' : St} (h : FL 27 m m') : TF m m' := ⟨h.1, fun j _ => h.2.1 j (by omega), h.2.2⟩
theorem SW.wr {x : St} {c j : Nat} {v : Int32} (h : 7 ≤ c ∧ c < 13) : SW x (wr x c j v) := ⟨fun d _ b => wr_ne _ _ _ (by omega), fun i _ => by rw [wr_ne _ _ _ (by omega)]⟩
theorem SN.wr {x : St} {c j : Nat} {v : Int32} (h : c = 4 ∨ c = 7 ∨ c = 8 ∨ c = 9) : SN x (wr x c j v) := ⟨fun d b => wr_ne _ _ _ (by omega), fun i _ => by rw [wr_ne _ _ _ (by omega)], fun i _ => by rw [wr_ne _ _ _ (by omega)]⟩
theorem RR.scr {x m x' m' : St} (h : RR x m) (f : SW x x') (g : SN m m') (hz : x'.2 = m'.2) : RR x' m' := by
  obtain ⟨n, P, mk, ch, hm, kd, D, ⟨h1, h2, h3, h4, h5⟩, hX, hM, hI⟩ := h.rb
  exact ⟨n, P, mk, ch, hm, kd, D, h1.fr (f.2 1 (by omega)) (f.1 1 (by omega) (by omega)) (g.2.2 9 (by omega)) (g.1 5 (by omega)), h2.fr (f.2 3 (by omega)) (f.2 2 (by omega)) (f.1 2 (by omega) (by omega)) (f.1 3 (by omega) (by omega)) (g.2.2 0 (by omega)) (g.2.2 1 (by omega)) (g.1 1 (by omega)) (g.1 2 (by omega)), hX.fr (fun c a b => f.1 c (by omega) (by omega)), hM.fr (fun j a => g.2.1 _ (by omega)), hI, h3.fr (fun d a => f.1 d (by omega) (by omega)) (g.1 10 (by omega)) (g.1 11 (by omega)), h4.fr (fun d a b => f.1 d (by omega) (by omega)) (f.2 8 (by omega)) (f.2 9 (by omega)) (g.1 6 (by omega)) (g.2.2 12 (by omega)) (g.2.2 13 (by omega)), hz⟩
theorem SX.fr {B : Nat} {S : Nat → Nat} {x x' : St} (h : SX B S x) (a : x'.1 16 = x.1 16) (b : x'.1 0 15 = x.1 0 15) : SX B S x' := by
  unfold SX at h ⊢
  rw [a, b]
  exact h
theorem all_bit {P j : Nat} : (2 ^ P - 1).testBit j = decide (j < P) := Nat.testBit_two_pow_sub_one P j
theorem bit63 {P j : Nat} (hb : (2 ^ P - 1).testBit j = true) : j < P := by
  rw [all_bit, decide_eq_true_eq] at hb
  exact hb
theorem bit63' {P j : Nat} (h : j < P) : (2 ^ P - 1).testBit j = true := by rw [all_bit, decide_eq_true_eq]; exact h
theorem SX.of6 {P : Nat} {D : DT} {x : St} (hP : P ≤ 6) (hI : DI P D) (hX : XD 13 D x) : SX (2 ^ P - 1) D.2.2.1 x := by
  intro j hj hb
  have h6 := bit63 hb
  have h40 := hI.2.1 j h6
  rw [if_neg (show ¬ j = 6 by omega)]
  exact ⟨h40, hX.2.2.1 j (by omega) h40⟩
theorem trial_x {D : DT} {x : St} (hX : XD 13 D x) : ∃ x', ft_become 11 14 x = some x' ∧ FT 11 x x' ∧ XT 11 D.2.2.2 x' := by
  obtain ⟨x', e1, f1, g0, g1, g2, g3⟩ := become_t (t := 11) (s := 14) (w := x) (by omega) (by omega) (by omega)
  exact ⟨x', e1, f1, hX.2.2.2.to g0 g1 g2 g3⟩
theorem trial_m {P B : Nat} {D : DT} {m : St} (hP : P ≤ 6) (hI : DI P D) (hM : MD 3 0 D m) : ∃ m', fm_layTrial (nI B) m = some m' ∧ TF m m' ∧ m'.1 3 27 = nI B ∧ MT 3 27 D.2.2.2 m' ∧ SM 27 (2 ^ P - 1) D.2.2.1 m' ∧ m'.1 3 34 = m.1 0 15 ∧ m'.1 3 41 = m.1 0 16 := by
  obtain ⟨m', e1, f1, f2, f3, g1, g2, g3, g4, g5⟩ := layTrial_m (B := B) hM.2.2.2
  refine ⟨m', e1, ⟨f1, f3, f2⟩, g1, g2, fun j hj hb => ?_, g4, g5⟩
  have h6 := bit63 hb
  have h40 := hI.2.1 j h6
  rw [(g3 j (by omega)).1, (g3 j (by omega)).2]
  exact ⟨h40, hM.2.2.1 j (by omega) h40⟩
def QT (P : Nat) (S : Nat → Nat) (x m : St) : Prop := ∃ a a2 : TK, XT 11 a x ∧ MT 3 27 a2 m ∧ a2.1 = a.1 ∧ a2.2.2.1 = a.2.2.1 ∧ TI a ∧ SX (2 ^ P - 1) S x ∧ SM 27 (2 ^ P - 1) S m
theorem QT.one {P : Nat} {S : Nat → Nat} {x m : St} {p : Nat} (h : QT P S x m) (hP : P ≤ 6) (hp : p < P) : ∃ x' m', fx_sentenceOf (nI p) x = some (nI (S p), x) ∧ ft_utter 11 (nI p) (nI (S p)) 1 x = some x' ∧ fm_speakOn 1 (nI p) m = some m' ∧ QT P S x' m' ∧ FT 11 x x' ∧ FL 27 m m' := by
  obtain ⟨a, a2, h1, h2, h3, h4, h5, h6, h7⟩ := h
  have hb := bit63' hp
  have hc := (h6 p (by omega) hb).1
  have hT2 : TI a2 := ⟨by rw [h3]; exact h5.1, by rw [h4]; exact h5.2⟩
  obtain ⟨x', e1, f1, g1⟩ := utter_x (p := p) (n := 1) (by omega) hc (by omega) h5 h1
  obtain ⟨m', e2, f2, g2⟩ := speakOn_m (L := 1) (b := 27) (by decide) (by omega) (show p < 7 by omega) hb h7 rfl hT2 h2
  refine ⟨x', m', sent_x (by omega) hb h6, e1, e2, ⟨_, _, g1, g2, ?_, ?_, ut_ok h5 hc, h6.fr (f1.1 16 (by omega) (by omega)) (by rw [f1.1 0 (by omega) (by omega)]), h7.fl f2 (Or.inl rfl)⟩, f1, f2⟩
  · show mk a2.1 (sy (S p) a2.2.2.1) = mk a.1 (sy (S p) a.2.2.1)
    rw [h3, h4]
  · show sy (S p) a2.2.2.1 = sy (S p) a.2.2.1
    rw [h4]
theorem QT.sense {P : Nat} {S : Nat → Nat} {x m : St} (h : QT P S x m) : ∃ v, v < 10 ∧ x.1 11 0 = nI v ∧ m.1 3 49 = nI v := by
  obtain ⟨a, a2, h1, h2, h3, h4, h5, -⟩ := h
  exact ⟨a.1, h5.1, h1.1, by rw [← h3]; exact h2.1⟩
theorem QT.start {P B : Nat} {D : DT} {x m x0 m0 : St} (hP : P ≤ 6) (hI : DI P D) (hX : XD 13 D x) (hM : MD 3 0 D m) : ∃ x' m', ft_become 11 14 x = some x' ∧ fm_layTrial (nI B) m = some m' ∧ FT 11 x x' ∧ TF m m' ∧ QT P D.2.2.1 x' m' := by
  obtain ⟨x', e1, f1, g1⟩ := trial_x hX
  obtain ⟨m', e2, f2, g2, g3, g4, -⟩ := trial_m (B := B) hP hI hM
  exact ⟨x', m', e1, e2, f1, f2, _, _, g1, g3, rfl, rfl, hI.2.2, (SX.of6 hP hI hX).fr (f1.1 16 (by omega) (by omega)) (by rw [f1.1 0 (by omega) (by omega)]), g4⟩
theorem isSense_n : ∀ v, v < 10 → fx_isSense (nI v) = some 1 := by decide +kernel
theorem isSense_e (a : Int32) : (fx_isSense a = some 0 ∧ fm_in a.toInt64 0 9 = some 0) ∨ ∃ v, v < 10 ∧ a = nI v ∧ fx_isSense a = some 1 ∧ fm_in a.toInt64 0 9 = some 1 := by
  by_cases h0 : a < 0
  · left
    unfold fx_isSense
    rw [if_pos h0]
    exact ⟨rfl, in_f (lo := 0) (hi := 9) rfl rfl rfl (Or.inl h0)⟩
  by_cases h9 : a ≤ 9
  · obtain ⟨v, hv, rfl⟩ := nI_of2 (M := 9) (n := 9) rfl h0 h9
    exact Or.inr ⟨v, by omega, rfl, isSense_n v (by omega), in_t (lo := 0) (hi := 9) rfl rfl rfl (by rw [le_lt]; exact h0) h9⟩
  · left
    unfold fx_isSense
    have h10 : (10 : Int32) ≤ a := by
      rw [Int32.le_iff_toInt_le] at h9 ⊢
      rw [show (9 : Int32).toInt = 9 from rfl] at h9
      rw [show (10 : Int32).toInt = 10 from rfl]
      omega
    rw [if_neg h0, if_pos h10]
    exact ⟨rfl, in_f (lo := 0) (hi := 9) rfl rfl rfl (Or.inr (by rw [lt_le]; exact h9))⟩
/-! quarrel -/
def u1 (v : Int32) : Nat := if v = -9 then 1 else 0
def un (s : Nat → Int32) : Nat := u1 (s 0) + u1 (s 1) + u1 (s 2) + u1 (s 3) + u1 (s 4) + u1 (s 5) + u1 (s 6) + u1 (s 7) + u1 (s 8) + u1 (s 9)
theorem un_up {s : Nat → Int32} {v : Nat} {t : Int32} (hv : v < 10) (h : s v = -9) (ht : ¬ t = -9) : un (upd s v t) + 1 = un s := by
  have h1 : u1 (s v) = 1 := if_pos h
  have h0 : u1 t = 0 := if_neg ht
  rcases (show v = 0 ∨ v = 1 ∨ v = 2 ∨ v = 3 ∨ v = 4 ∨ v = 5 ∨ v = 6 ∨ v = 7 ∨ v = 8 ∨ v = 9 by omega) with rfl | rfl | rfl | rfl | rfl | rfl | rfl | rfl | rfl | rfl <;> simp only [un, upd, h0, if_true, if_false, reduceIte, Nat.reduceEqDiff] <;> omega
theorem quar {P : Nat} {S : Nat → Nat} {p q : Nat} (hP : P ≤ 6) (hp : p < P) (hq : q < P) (c : Int32) : ∀ (r fu i : Nat) (s : Nat → Int32) (x m : St), i + r = 11 → r < fu → i + un s = 10 → (∀ j, j < 10 → x.1 7 j = s j ∧ m.1 7 j = s j) → QT P S x m → ∃ v x' m', fx_quarrel_71 fu (nI p) (nI q) c (nI i) x = some (v, x') ∧ fm_quarrel_64 fu (nI p) (nI q) c (nI i) m = some (v, m') ∧ SW x x' ∧ SN m m' ∧ x'.2 = x.2 ∧ m'.2 = m.2 := by
  intro r
  induction r with
  | zero => intro fu i s x m h1 h2 h3; omega
  | succ r ih =>
    intro fu i s x m h1 hf h3 hs hQ
    obtain ⟨fu, rfl⟩ : ∃ f, fu = f + 1 := ⟨fu - 1, by omega⟩
    obtain ⟨v, hv, x11, m49⟩ := hQ.sense
    rw [fx_quarrel_71, fm_quarrel_64, if_neg (show ¬ (10 : Int32) < nI i from nI_nlt (a := 10) (b := i) (by omega) (by decide)), show (49 : Int32) = nI 49 from rfl, gr_n (show 49 < 54 by omega) (by decide), m49]
    simp only [Option.bind_some, lb]
    rw [x11, isSense_n v hv, gr_n hv (by decide), gr_n hv (by decide), (hs v hv).1, (hs v hv).2]
    simp only [Option.bind_some]
    rw [if_neg (show ¬ (1 : Int32) = 0 by decide)]
    by_cases h9 : s v = -9
    · rw [if_pos h9, if_pos h9, gu_n hv (by decide), gu_n hv (by decide)]
      simp only [Option.bind_some]
      have hQ1 : QT P S (wr x 7 v (nI i)) (wr m 7 v (nI i)) := by
        obtain ⟨a, a2, q1, q2, q3, q4, q5, q6, q7⟩ := hQ
        exact ⟨a, a2, q1.fr (wr_ne _ _ _ (by omega)) (wr_ne _ _ _ (by omega)), q2.to (fun j _ _ => by rw [wr_ne _ _ _ (by omega)]), q3, q4, q5, q6.fr (wr_ne _ _ _ (by omega)) (by rw [wr_ne _ _ _ (by omega)]), fun j a b => by rw [wr_ne _ _ _ (show 3 ≠ 7 by omega)]; exact q7 j a b⟩
      obtain ⟨x1, m1, e1, e2, e3, hQ2, f1, g1⟩ := hQ1.one hP hp
      obtain ⟨x2, m2, d1, d2, d3, hQ3, f2, g2⟩ := hQ2.one hP hq
      rw [e1, e3]
      simp only [Option.bind_some]
      rw [e2, d3]
      simp only [Option.bind_some]
      rw [d1]
      simp only [Option.bind_some]
      rw [d2]
      simp only [Option.bind_some]
      rw [nI_1]
      have hnn : ¬ nI i = (-9 : Int32) := n9 (by omega)
      have hu := un_up (t := nI i) hv h9 hnn
      obtain ⟨v', x', m', k1, k2, k3, k4, k5, k6⟩ := ih fu (i + 1) (upd s v (nI i)) x2 m2 (by omega) (by omega) (by omega) (fun j hj => by
        rw [f2.1 7 (by omega) (by omega), f1.1 7 (by omega) (by omega), g2.1 7 (by omega), g1.1 7 (by omega), wr_at, wr_at]
        unfold upd
        split
        · exact ⟨rfl, rfl⟩
        · exact hs j hj) hQ3
      exact ⟨v', x', m', k1, k2, ((SW.wr (by omega)).tr (f1.sw.tr f2.sw)).tr k3, ((SN.wr (by omega)).tr (g1.tf.sn.tr g2.tf.sn)).tr k4, k5.trans (f2.2.trans f1.2), k6.trans (g2.2.2.trans g1.2.2)⟩
    · rw [if_neg h9, if_neg h9]
      by_cases hc : c = 0
      · rw [if_pos hc, if_pos hc]
        exact ⟨_, _, _, rfl, rfl, SW.rf, SN.rf, rfl, rfl⟩
      · rw [if_neg hc, if_neg hc]
        exact ⟨_, _, _, rfl, rfl, SW.rf, SN.rf, rfl, rfl⟩
