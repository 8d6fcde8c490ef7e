/-! a trial in which those of B may speak: on either side -/
def TX (B : Nat) (kd sn : Nat → Nat) (a : TK) (x : St) : Prop := XT 11 a x ∧ TI a ∧ KX kd x ∧ kd 6 = 0 ∧ SX B sn x ∧ B < 128
def TM (B : Nat) (kd sn : Nat → Nat) (a : TK) (m : St) : Prop := MT 3 27 a m ∧ TI a ∧ KM kd m ∧ kd 6 = 0 ∧ SM 27 B sn m ∧ B < 128 ∧ m.1 3 27 = nI B
section TXM
variable {B : Nat} {kd sn : Nat → Nat} {a : TK} {x m x' m' : St}
theorem TX.may (h : TX B kd sn a x) {p : Nat} (hp : p < 7) : fx_maySpeak 11 (nI B) (nI p) x = some (b2 (B.testBit p && my kd a p), x) := may_x hp h.2.2.2.2.2 h.2.2.1 h.2.2.2.1 h.1
theorem TM.may (h : TM B kd sn a m) {p : Nat} (hp : p < 7) : fm_may 1 (nI p) m = some (b2 (B.testBit p && my kd a p), m) := may_m (L := 1) (b := 27) (by decide) (Or.inr rfl) hp h.2.2.2.2.2.1 h.2.2.2.2.2.2 h.2.2.1 h.2.2.2.1 h.1
theorem TX.say (h : TX B kd sn a x) {p : Nat} (hp : p < 7) (hb : B.testBit p = true) : ∃ x', fx_speak 11 (nI p) x = some x' ∧ FT 11 x x' ∧ TX B kd sn (wk kd sn a p) x' := by
  obtain ⟨h1, h2, h3, h4, h5, h6⟩ := h
  obtain ⟨x', e, f, g, i⟩ := speak_x hp hb h3 h5 h2 h1
  refine ⟨x', e, f, g, i, ?_, h4, h5.fr (f.1 16 (by omega) (by omega)) (by rw [f.1 0 (by omega) (by omega)]), h6⟩
  intro j hj
  rw [f.1 3 (by omega) (by omega)]
  exact h3 j hj
theorem TM.say (h : TM B kd sn a m) {p : Nat} (hp : p < 7) (hb : B.testBit p = true) : ∃ m', fm_sayOn 1 (nI p) m = some m' ∧ FL 27 m m' ∧ TM B kd sn (wk kd sn a p) m' := by
  obtain ⟨h1, h2, h3, h4, h5, h6, h7⟩ := h
  obtain ⟨m', e, f, g, i⟩ := sayOn_m (L := 1) (b := 27) (by decide) (Or.inr rfl) hp hb h3 h5 h2 h1
  refine ⟨m', e, f, g, i, ?_, h4, h5.fl f (Or.inl rfl), h6, ?_⟩
  · intro j hj
    rw [f.1 2 (by omega)]
    exact h3 j hj
  · rw [f.2.1 27 (by omega)]; exact h7
end TXM
theorem SX.sub {B C : Nat} {S : Nat → Nat} {x : St} (h : SX C S x) (hs : ∀ j, j < 7 → B.testBit j = true → C.testBit j = true) : SX B S x := fun j hj hb => h j hj (hs j hj hb)
theorem SM.sub {b B C : Nat} {S : Nat → Nat} {x : St} (h : SM b C S x) (hs : ∀ j, j < 7 → B.testBit j = true → C.testBit j = true) : SM b B S x := fun j hj hb => h j hj (hs j hj hb)
theorem sub63 {B P : Nat} (h : B < 2 ^ P) : ∀ j, j < 7 → B.testBit j = true → (2 ^ P - 1).testBit j = true := fun j _ hb => bit63' (bit_P h hb)
theorem sub63_old {B : Nat} (h : B < 64) : ∀ j, j < 7 → B.testBit j = true → j < 6 := by
  intro j hj hb
  rcases Nat.lt_or_ge j 6 with q | q
  · exact q
  · rw [Nat.testBit_lt_two_pow (x := B) (i := j) (Nat.lt_of_lt_of_le h (Nat.pow_le_pow_right (n := 2) (show 0 < 2 by decide) q))] at hb
    cases hb
theorem TX.start {n P mk : Nat} {ch hm kd : Nat → Nat} {D : DT} {x m : St} (hB : RB n P mk ch hm kd x m) (hX : XD 13 D x) (hI : DI P D) {B : Nat} (h64 : B < 2 ^ P) : ∃ x', ft_become 11 14 x = some x' ∧ FT 11 x x' ∧ TX B kd D.2.2.1 D.2.2.2 x' := by
  obtain ⟨x', e, f, g⟩ := trial_x hX
  refine ⟨x', e, f, g, hI.2.2, ?_, hB.2.1.k6, ((SX.of6 hB.2.1.1 hI hX).sub (sub63 h64)).fr (f.1 16 (by omega) (by omega)) (by rw [f.1 0 (by omega) (by omega)]), (by have := p_le hB.2.1.1; omega)⟩
  intro j hj
  rw [f.1 3 (by omega) (by omega)]
  exact hB.2.1.kx j hj
theorem TM.start {n P mk : Nat} {ch hm kd : Nat → Nat} {D : DT} {x m : St} (hB : RB n P mk ch hm kd x m) (hM : MD 3 0 D m) (hI : DI P D) {B : Nat} (h64 : B < 2 ^ P) : ∃ m', fm_layTrial (nI B) m = some m' ∧ TF m m' ∧ TM B kd D.2.2.1 D.2.2.2 m' := by
  obtain ⟨m', e, f, g1, g2, g3, -⟩ := trial_m (B := B) hB.2.1.1 hI hM
  refine ⟨m', e, f, g2, hI.2.2, ?_, hB.2.1.k6, g3.sub (sub63 h64), (by have := p_le hB.2.1.1; omega), g1⟩
  intro j hj
  rw [f.1 2 (by omega)]
  exact hB.2.1.km j hj
theorem isP {m : St} {P p : Nat} (h : m.1 0 0 = nI P) (hP : P ≤ 6) (hp : p < 100) : fm_isPerson (nI p) m = some (b2 (decide (p < P)), m) := by
  unfold fm_isPerson
  rw [h]
  by_cases q : p < P
  · obtain ⟨k, rfl⟩ : ∃ k, P = k + 1 := ⟨P - 1, by omega⟩
    rw [nI_pred, in_t (a := (nI p).toInt64) (b := 0) (c := (nI k).toInt64) (lo := 0) (hi := nI k) rfl rfl rfl (nI_pos' (by omega)) (nI_le (by omega) (by omega))]
    simp [q, b2, gz]
  · rw [in_f (a := (nI p).toInt64) (b := 0) (c := (nI P - 1).toInt64) (x := nI p) (lo := 0) (hi := nI P - 1) rfl rfl rfl (Or.inr (by
      rcases Nat.eq_zero_or_pos P with r | r
      · subst r
        rw [Int32.lt_iff_toInt_lt, nI_toInt (by omega), show (nI 0 - 1).toInt = -1 by decide]
        omega
      · obtain ⟨k, rfl⟩ : ∃ k, P = k + 1 := ⟨P - 1, by omega⟩
        rw [nI_pred]
        exact nI_lt (by omega) (by omega)))]
    simp [q, b2, gz]
theorem TX.wz {B : Nat} {kd sn : Nat → Nat} {a : TK} {x : St} (h : TX B kd sn a x) (v : Int64) : TX B kd sn a (wz x v) := by
  unfold TX XT KX SX at h ⊢
  exact h
theorem TM.wz {B : Nat} {kd sn : Nat → Nat} {a : TK} {x : St} (h : TM B kd sn a x) (v : Int64) : TM B kd sn a (wz x v) := by
  unfold TM MT MS KM SM at h ⊢
  exact h
def nxt (s : Int64) : Int64 := (s * (6364136223846793005 : Int64)) + (1442695040888963407 : Int64)
theorem nights_l {B P N : Nat} {kd sn : Nat → Nat} (hP : P ≤ 6) (hBP : B < 2 ^ P) (hN : N ≤ 30) : ∀ (r fu i : Nat) (acc : Int32) (a : TK) (x m : St), i + r = N → r < fu → TX B kd sn a x → TM B kd sn a m → x.1 13 1 = nI B → m.1 0 0 = nI P → x.2 = m.2 → ∃ v x' m', fx_nights_32 fu (nI N) acc (nI i) x = some (v, x') ∧ fm_nights_29 fu (nI N) acc (nI i) m = some (v, m') ∧ SW x x' ∧ SN m m' ∧ x'.2 = m'.2 := by
  intro r
  induction r with
  | zero =>
    intro fu i acc a x m h1 hf hX hM hb hp hz
    obtain ⟨fu, rfl⟩ : ∃ f, fu = f + 1 := ⟨fu - 1, by omega⟩
    obtain rfl : i = N := by omega
    rw [fx_nights_32, fm_nights_29, if_pos (nI_le (Nat.le_refl _) (by omega)), if_pos (nI_le (Nat.le_refl _) (by omega))]
    exact ⟨_, _, _, rfl, rfl, SW.rf, SN.rf, hz⟩
  | succ r ih =>
    intro fu i acc a x m h1 hf hX hM hb hp hz
    obtain ⟨fu, rfl⟩ : ∃ f, fu = f + 1 := ⟨fu - 1, by omega⟩
    have step : ∀ (a1 : TK) (x1 m1 : St), TX B kd sn a1 x1 → TM B kd sn a1 m1 → SW x x1 → SN m m1 → x1.1 13 1 = nI B → m1.1 0 0 = nI P → x1.2 = m1.2 → ∃ v x' m', fx_nights_97 (fx_nights_32 fu) (nI N) acc (nI i) x1 = some (v, x') ∧ fm_nights_90 (fm_nights_29 fu) (nI N) acc (nI i) m1 = some (v, m') ∧ SW x x' ∧ SN m m' ∧ x'.2 = m'.2 := by
      intro a1 x1 m1 t1 t2 t3 t4 t5 t6 t7
      obtain ⟨v, x', m', k1, k2, k3, k4, k5⟩ := ih fu (i + 1) (acc + nI a1.1) a1 x1 m1 (by omega) (by omega) t1 t2 t5 t6 t7
      refine ⟨v, x', m', ?_, ?_, t3.tr k3, t4.tr k4, k5⟩
      · unfold fx_nights_97
        rw [t1.1.1, lb, nI_1]
        exact k1
      · unfold fm_nights_90
        rw [show (49 : Int32) = nI 49 from rfl, gr_n (show 49 < 54 by omega) (by decide), show m1.1 3 49 = _ from t2.1.1, Option.bind_some, lb, nI_1]
        exact k2
    obtain ⟨p, hp6, hpe⟩ := six (nxt x.2)
    have hx1 : TX B kd sn a (wz x (nxt x.2)) := hX.wz _
    have hm1 : TM B kd sn a (wz m (nxt m.2)) := hM.wz _
    have fx1 : SW x (wz x (nxt x.2)) := ⟨fun _ _ _ => rfl, fun _ _ => rfl⟩
    have fm1 : SN m (wz m (nxt m.2)) := ⟨fun _ _ => rfl, fun _ _ => rfl, fun _ _ => rfl⟩
    have hz1 : (wz x (nxt x.2)).2 = (wz m (nxt m.2)).2 := by show nxt x.2 = nxt m.2; rw [hz]
    have hpm : (lr (lush ((wz m (nxt m.2)).2) 33) 6).toInt32 = nI p := by show (lr (lush (nxt m.2) 33) 6).toInt32 = nI p; rw [← hz]; exact hpe
    have hpx : (lr (lush ((wz x (nxt x.2)).2) 33) 6).toInt32 = nI p := hpe
    have hb1 : (wz x (nxt x.2)).1 13 1 = nI B := hb
    have hp1 : (wz m (nxt m.2)).1 0 0 = nI P := hp
    have ex : x.2 * (6364136223846793005 : Int64) + (1442695040888963407 : Int64) = nxt x.2 := rfl
    have em : m.2 * (6364136223846793005 : Int64) + (1442695040888963407 : Int64) = nxt m.2 := rfl
    rw [fx_nights_32, fm_nights_29, if_neg (nI_ge (show i < N by omega) (by omega)), if_neg (nI_ge (show i < N by omega) (by omega)), ex, em, hpx, hpm, lb, lb, hb1, hx1.may (by omega), isP hp1 hP (by omega), Option.bind_some, Option.bind_some]
    by_cases hpP : p < P
    · rw [decide_eq_true hpP, if_neg (show ¬ b2 true = 0 by decide), hm1.may (by omega), Option.bind_some]
      cases hc : (B.testBit p && my kd a p) with
      | false =>
        rw [if_pos (show b2 false = 0 from rfl), if_pos (show b2 false = 0 from rfl)]
        exact step a _ _ hx1 hm1 fx1 fm1 hb1 hp1 hz1
      | true =>
        rw [if_neg (show ¬ b2 true = 0 by decide), if_neg (show ¬ b2 true = 0 by decide)]
        have hbt : B.testBit p = true := by
          cases h : B.testBit p with
          | true => rfl
          | false => rw [h] at hc; cases hc
        obtain ⟨x2, u1, u2, u3⟩ := hx1.say (show p < 7 by omega) hbt
        obtain ⟨m2, v1, v2, v3⟩ := hm1.say (show p < 7 by omega) hbt
        rw [u1, v1, Option.bind_some, Option.bind_some]
        exact step _ x2 m2 u3 v3 (fx1.tr u2.sw) (fm1.tr v2.tf.sn) (by rw [u2.1 13 (by omega) (by omega)]; exact hb1) (by rw [v2.1 0 (by omega)]; exact hp1) (u2.2.trans (hz1.trans v2.2.2.symm))
    · have hbf : B.testBit p = false := Nat.testBit_lt_two_pow (Nat.lt_of_lt_of_le hBP (Nat.pow_le_pow_right (by decide) (by omega)))
      rw [decide_eq_false hpP, hbf, Bool.false_and, if_pos (show b2 false = 0 from rfl), if_pos (show b2 false = 0 from rfl)]
      exact step a _ _ hx1 hm1 fx1 fm1 hb1 hp1 hz1
theorem in_ab {lo hi : Nat} (a : Int32) (L H : Int32) (b c : Int64) (hb : b = L.toInt64) (hc : c = H.toInt64) (hL : L = nI lo) (hH : H = nI hi) (h : hi < 2 ^ 31) (hl : lo < 2 ^ 31) : (¬ (L ≤ a ∧ a ≤ H) ∧ fm_in a.toInt64 b c = some 0) ∨ ∃ v, lo ≤ v ∧ v ≤ hi ∧ a = nI v ∧ fm_in a.toInt64 b c = some 1 := by
  by_cases h1 : L ≤ a
  · by_cases h2 : a ≤ H
    · right
      have h0 : ¬ a < 0 := by
        subst hL
        rw [Int32.lt_iff_toInt_lt, show (0 : Int32).toInt = 0 from rfl]
        rw [Int32.le_iff_toInt_le, nI_toInt hl] at h1
        omega
      obtain ⟨v, hv, rfl⟩ := nI_of h0
      refine ⟨v, ?_, ?_, rfl, in_t (lo := L) (hi := H) rfl hb hc h1 h2⟩
      · subst hL; exact (nI_leI hl hv).mp h1
      · subst hH; exact (nI_leI hv h).mp h2
    · exact Or.inl ⟨fun q => h2 q.2, in_f (lo := L) (hi := H) rfl hb hc (Or.inr (by rw [lt_le]; exact h2))⟩
  · exact Or.inl ⟨fun q => h1 q.1, in_f (lo := L) (hi := H) rfl hb hc (Or.inl (by rw [lt_le]; exact h1))⟩
theorem ca_nights {x m : St} (h : RR x m) (a : Int32) : CA (fx_nights a x) (fm_nights a m) := by
  have hR := h
  obtain ⟨n, P, mk, ch, hm, kd, D, hB, hX, hM, hI⟩ := h.rb
  have hP6 := hB.2.1.1
  unfold fx_nights fm_nights
  rcases in_ab (lo := 1) (hi := 30) a 1 30 1 30 rfl rfl rfl rfl (by decide) (by decide) with ⟨h1, h2⟩ | ⟨v, v1, v2, rfl, h2⟩
  · rw [h2]
    by_cases q : a < 1
    · rw [if_pos q]; exact ⟨_, _, _, rfl, rfl, hR⟩
    · rw [if_neg q, if_neg (fun z => h1 ⟨by rw [le_lt]; exact q, z⟩)]; exact ⟨_, _, _, rfl, rfl, hR⟩
  rw [h2, if_neg (show ¬ nI v < (1 : Int32) from nI_nlt (b := 1) v1 (by omega)), if_pos (show nI v ≤ (30 : Int32) from nI_le (b := 30) v2 (by decide)), Option.bind_some, if_neg (show ¬ (1 : Int32) = 0 by decide)]
  have h64 : D.1 < 64 := Nat.lt_of_lt_of_le hI.1 (p_le hP6)
  obtain ⟨x1, e1, f1, g1⟩ := TX.start hB hX hI hI.1
  obtain ⟨m1, e2, f2, g2⟩ := TM.start hB hM hI hI.1
  rw [e1, show (0 : Int32) = nI 0 from rfl, gr_n (show 0 < 54 by omega) (by decide), show m.1 3 0 = _ from hM.1, Option.bind_some, Option.bind_some, e2, Option.bind_some]
  obtain ⟨r, x', m', k1, k2, k3, k4, k5⟩ := nights_l hP6 hI.1 v2 v 4096 0 (nI 0) D.2.2.2 x1 m1 (by omega) (by omega) g1 g2 (by rw [f1.1 13 (by omega) (by omega)]; exact hX.1) (by rw [f2.1 0 (by omega)]; exact hB.2.1.2.2.2.1) (f1.2.trans (hB.2.2.2.2.trans f2.2.2.symm))
  exact ⟨r, x', m', k1, k2, hR.scr (f1.sw.tr k3) (f2.sn.tr k4) k5⟩
