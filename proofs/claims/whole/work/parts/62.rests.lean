/-! rests -/
theorem QT.wr8 {P : Nat} {S : Nat → Nat} {x m : St} {u w : Nat} {v v2 : Int32} (h : QT P S x m) : QT P S (wr x 8 u v) (wr m 9 w v2) := by
  obtain ⟨a, a2, q1, q2, q3, q4, q5, q6, q7⟩ := h
  exact ⟨a, a2, q1.fr (wr_ne _ _ _ (by omega)) (wr_ne _ _ _ (by omega)), q2.to (fun j _ _ => by rw [wr_ne _ _ _ (by omega)]), q3, q4, q5, q6.fr (wr_ne _ _ _ (by omega)) (by rw [wr_ne _ _ _ (by omega)]), fun j a b => by rw [wr_ne _ _ _ (show 3 ≠ 9 by omega)]; exact q7 j a b⟩
theorem in28 {P : Nat} {S : Nat → Nat} {p u : Nat} (hP : P ≤ 6) (hp : p < P) (q : Int32) (hu : u < 16) (k2 k3 : Int32 → Int32 → Int32 → St → Option St) : ∀ (r fu i : Nat) (x m : St), i + r = u / 4 → r < fu → QT P S x m → ∃ x' m', fx_playOutcomes_28 k2 fu (nI p) q (nI u) (nI i) x = fx_playOutcomes_59 k2 4096 (nI p) q (nI u) (nI 0) x' ∧ fm_laySenses_21 k3 fu (nI p) q (nI u) (nI i) m = fm_laySenses_44 k3 4096 (nI p) q (nI u) (nI 0) m' ∧ QT P S x' m' ∧ FT 11 x x' ∧ FL 27 m m' := by
  intro r
  induction r with
  | zero =>
    intro fu i x m h1 hf hQ
    obtain ⟨fu, rfl⟩ : ∃ f, fu = f + 1 := ⟨fu - 1, by omega⟩
    rw [fx_playOutcomes_28, fm_laySenses_21, show nI u / (4 : Int32) = nI (u / 4) from pk_div (d := 4) (by omega) (by decide) (by decide), if_pos (nI_le (show u / 4 ≤ i by omega) (by omega)), if_pos (nI_le (show u / 4 ≤ i by omega) (by omega)), show (0 : Int32) = nI 0 from rfl]
    exact ⟨x, m, rfl, rfl, hQ, FT.rf, FL.rf⟩
  | succ r ih =>
    intro fu i x m h1 hf hQ
    obtain ⟨fu, rfl⟩ : ∃ f, fu = f + 1 := ⟨fu - 1, by omega⟩
    obtain ⟨x1, m1, e1, e2, e3, hQ1, f1, g1⟩ := hQ.one hP hp
    rw [fx_playOutcomes_28, fm_laySenses_21, show nI u / (4 : Int32) = nI (u / 4) from pk_div (d := 4) (by omega) (by decide) (by decide), if_neg (nI_ge (show i < u / 4 by omega) (by omega)), if_neg (nI_ge (show i < u / 4 by omega) (by omega)), e1, e3, Option.bind_some, Option.bind_some, e2, Option.bind_some, nI_1]
    obtain ⟨x', m', k1, k2, k3, k4, k5⟩ := ih fu (i + 1) x1 m1 (by omega) (by omega) hQ1
    exact ⟨x', m', k1, k2, k3, f1.tr k4, g1.tr k5⟩
theorem in59 {P : Nat} {S : Nat → Nat} {q u : Nat} (hP : P ≤ 6) (hq : q < P) (p : Int32) (hu : u < 16) (k2 k3 : Int32 → Int32 → Int32 → St → Option St) : ∀ (r fu i : Nat) (x m : St), i + r = u % 4 → r < fu → QT P S x m → ∃ x' m' v, v < 10 ∧ fx_playOutcomes_59 k2 fu p (nI q) (nI u) (nI i) x = k2 p (nI q) (nI (u + 1)) (wr x' 8 u (nI v)) ∧ fm_laySenses_44 k3 fu p (nI q) (nI u) (nI i) m = k3 p (nI q) (nI (u + 1)) (wr m' 9 u (nI v)) ∧ FT 11 x x' ∧ FL 27 m m' := by
  intro r
  induction r with
  | zero =>
    intro fu i x m h1 hf hQ
    obtain ⟨fu, rfl⟩ : ∃ f, fu = f + 1 := ⟨fu - 1, by omega⟩
    obtain ⟨v, hv, x11, m49⟩ := hQ.sense
    rw [fx_playOutcomes_59, fm_laySenses_44, show ir (nI u) (4 : Int32) = nI (u % 4) from rem_n (d := 4) (by omega) (by decide) (by decide), if_pos (nI_le (show u % 4 ≤ i by omega) (by omega)), if_pos (nI_le (show u % 4 ≤ i by omega) (by omega)), show (49 : Int32) = nI 49 from rfl, gr_n (show 49 < 54 by omega) (by decide), Option.bind_some, gu_n hu (by decide), gu_n hu (by decide), Option.bind_some, Option.bind_some, x11, m49, nI_1]
    exact ⟨x, m, v, hv, rfl, rfl, FT.rf, FL.rf⟩
  | succ r ih =>
    intro fu i x m h1 hf hQ
    obtain ⟨fu, rfl⟩ : ∃ f, fu = f + 1 := ⟨fu - 1, by omega⟩
    obtain ⟨x1, m1, e1, e2, e3, hQ1, f1, g1⟩ := hQ.one hP hq
    rw [fx_playOutcomes_59, fm_laySenses_44, show ir (nI u) (4 : Int32) = nI (u % 4) from rem_n (d := 4) (by omega) (by decide) (by decide), if_neg (nI_ge (show i < u % 4 by omega) (by omega)), if_neg (nI_ge (show i < u % 4 by omega) (by omega)), e1, e3, Option.bind_some, Option.bind_some, e2, Option.bind_some, nI_1]
    obtain ⟨x', m', v, k0, k1, k2, k3, k4⟩ := ih fu (i + 1) x1 m1 (by omega) (by omega) hQ1
    exact ⟨x', m', v, k0, k1, k2, f1.tr k3, g1.tr k4⟩
def OS (o : Nat → Nat) (n : Nat) (x m : St) : Prop := ∀ j, j < n → o j < 10 ∧ x.1 8 j = nI (o j) ∧ m.1 9 j = nI (o j)
theorem outs {P : Nat} {D : DT} {x0 m0 : St} {p q : Nat} (hP : P ≤ 6) (hp : p < P) (hq : q < P) (hI : DI P D) (hX : XD 13 D x0) (hM : MD 3 0 D m0) : ∀ (r fu u : Nat) (o : Nat → Nat) (x m : St), u + r = 16 → r < fu → SW x0 x → SN m0 m → x.2 = m.2 → OS o u x m → ∃ x' m' o', fx_playOutcomes_2 fu (nI p) (nI q) (nI u) x = some x' ∧ fm_laySenses_2 fu (nI p) (nI q) (nI u) m = some m' ∧ OS o' 16 x' m' ∧ SW x0 x' ∧ SN m0 m' ∧ x'.2 = m'.2 := by
  intro r
  induction r with
  | zero =>
    intro fu u o x m h1 hf hF hG hz hO
    obtain ⟨fu, rfl⟩ : ∃ f, fu = f + 1 := ⟨fu - 1, by omega⟩
    obtain rfl : u = 16 := by omega
    rw [fx_playOutcomes_2, fm_laySenses_2, if_pos (show (16 : Int32) ≤ nI 16 by decide), if_pos (show (16 : Int32) ≤ nI 16 by decide)]
    exact ⟨x, m, o, rfl, rfl, hO, hF, hG, hz⟩
  | succ r ih =>
    intro fu u o x m h1 hf hF hG hz hO
    obtain ⟨fu, rfl⟩ : ∃ f, fu = f + 1 := ⟨fu - 1, by omega⟩
    have hn : ¬ (16 : Int32) ≤ nI u := nI_ge (b := 16) (by omega) (by decide)
    have hX1 : XD 13 D x := hX.fr (fun c a b => hF.1 c (by omega) (by omega))
    have hM1 : MD 3 0 D m := hM.fr (fun j a => hG.2.1 _ (by omega))
    obtain ⟨x1, m1, e1, e2, f1, g1, hQ⟩ := QT.start (P := P) (B := D.1) (x0 := x) (m0 := m) hP hI hX1 hM1
    obtain ⟨x2, m2, d1, d2, hQ2, f2, g2⟩ := in28 (S := D.2.2.1) (u := u) hP hp (nI q) (by omega) (fx_playOutcomes_2 fu) (fm_laySenses_2 fu) (u / 4) 4096 0 x1 m1 (by omega) (by omega) hQ
    obtain ⟨x3, m3, v, hv, c1, c2, f3, g3⟩ := in59 (S := D.2.2.1) (u := u) hP hq (nI p) (by omega) (fx_playOutcomes_2 fu) (fm_laySenses_2 fu) (u % 4) 4096 0 x2 m2 (by omega) (by omega) hQ2
    have hm0 : m.1 3 0 = nI D.1 := hM1.1
    rw [fx_playOutcomes_2, fm_laySenses_2, if_neg hn, if_neg hn, e1, Option.bind_some, show (0 : Int32) = nI 0 from rfl, gr_n (show 0 < 54 by omega) (by decide), hm0, Option.bind_some, e2, Option.bind_some, d1, d2, c1, c2]
    have f13 : FT 11 x x3 := (f1.tr f2).tr f3
    have g13 : TF m m3 := (g1.tr g2.tf).tr g3.tf
    obtain ⟨x', m', o', k1, k2, k3, k4, k5, k6⟩ := ih fu (u + 1) (fun j => if j = u then v else o j) (wr x3 8 u (nI v)) (wr m3 9 u (nI v)) (by omega) (by omega) ((hF.tr f13.sw).tr (SW.wr (by omega))) ((hG.tr g13.sn).tr (SN.wr (by omega))) (f13.2.trans (hz.trans g13.2.2.symm)) (fun j hj => by
      dsimp only
      by_cases h : j = u
      · subst h
        rw [if_pos rfl, wr_same, wr_same]
        exact ⟨hv, rfl, rfl⟩
      · rw [if_neg h, wr_off _ _ _ h, wr_off _ _ _ h, f13.1 8 (by omega) (by omega), g13.1 9 (by omega)]
        exact hO j (by omega))
    exact ⟨x', m', o', k1, k2, k3, k4, k5, k6⟩
def dd (a b : Nat) : Nat := a - b + (b - a)
theorem dd_le {a b : Nat} (ha : a < 10) (hb : b < 10) : dd a b < 10 := by unfold dd; omega
theorem apart_x {o : Nat → Nat} {x m : St} (hO : OS o 16 x m) {i j w : Nat} (hi : i < 4) (hj : j < 4) (hw : w < 10) : fx_apart (nI i) (nI j) (nI w) x = some (nI (dd (o (4 * i + j)) w), x) := by
  obtain ⟨h1, h2, -⟩ := hO (4 * i + j) (by omega)
  unfold fx_apart
  rw [show nI i * (4 : Int32) + nI j = nI (4 * i + j) from by rw [show (4 : Int32) = nI 4 from rfl, pk_mul, nI_add, Nat.mul_comm], lb, if_neg (nI_pos (by omega)), if_neg (show ¬ (16 : Int32) ≤ nI (4 * i + j) from nI_ge (b := 16) (by omega) (by decide)), gr_n (show 4 * i + j < 16 by omega) (by decide), Option.bind_some, h2, (far_e _ h1 _ hw).1]
  rfl
theorem apart_m {a b : Nat} (ha : a < 10) (hb : b < 10) : fm_apart (nI a) (nI b) = some (nI (dd a b)) := by
  unfold fm_apart
  have := (far_e a ha b hb).2
  rw [show dd a b = a - b + (b - a) from rfl, ← this]
  split <;> rfl
def Rk (o : Nat → Nat) (i j w1 w2 k : Nat) : Bool := !decide (dd (o (4 * k + j)) w1 + k < dd (o (4 * i + j)) w1 + i) && !decide (dd (o (4 * i + k)) w2 + k < dd (o (4 * i + j)) w2 + j)
def Ra (o : Nat → Nat) (i j w1 w2 : Nat) : Nat → Nat → Bool
  | 0, _ => true
  | r + 1, k => Rk o i j w1 w2 k && Ra o i j w1 w2 r (k + 1)
theorem isRest_x {o : Nat → Nat} {x m : St} (hO : OS o 16 x m) {i j w1 w2 : Nat} (hi : i < 4) (hj : j < 4) (h1 : w1 < 10) (h2 : w2 < 10) : ∀ (r fu k : Nat), k + r = 4 → r < fu → fx_isRest_3 fu (nI i) (nI j) (nI w1) (nI w2) (nI k) x = some (b2 (Ra o i j w1 w2 r k), x) := by
  intro r
  induction r with
  | zero =>
    intro fu k hk hf
    obtain ⟨fu, rfl⟩ : ∃ f, fu = f + 1 := ⟨fu - 1, by omega⟩
    obtain rfl : k = 4 := by omega
    rw [fx_isRest_3, if_pos (show (4 : Int32) ≤ nI 4 by decide)]
    rfl
  | succ r ih =>
    intro fu k hk hf
    obtain ⟨fu, rfl⟩ : ∃ f, fu = f + 1 := ⟨fu - 1, by omega⟩
    have hk4 : k < 4 := by omega
    have a1 := dd_le (hO (4 * k + j) (by omega)).1 h1
    have a2 := dd_le (hO (4 * i + j) (by omega)).1 h1
    have a3 := dd_le (hO (4 * i + k) (by omega)).1 h2
    have a4 := dd_le (hO (4 * i + j) (by omega)).1 h2
    rw [fx_isRest_3, if_neg (show ¬ (4 : Int32) ≤ nI k from nI_ge (b := 4) hk4 (by decide)), apart_x hO hk4 hj h1, Option.bind_some, apart_x hO hi hj h1, Option.bind_some, apart_x hO hi hk4 h2, Option.bind_some, apart_x hO hi hj h2, Option.bind_some, nI_add, nI_add, nI_add, nI_add, nI_1, Ra]
    unfold Rk
    by_cases c1 : dd (o (4 * k + j)) w1 + k < dd (o (4 * i + j)) w1 + i
    · rw [if_pos (nI_lt c1 (by omega)), decide_eq_true c1]
      rfl
    · rw [if_neg (nI_nlt (by omega) (by omega)), decide_eq_false c1]
      by_cases c2 : dd (o (4 * i + k)) w2 + k < dd (o (4 * i + j)) w2 + j
      · rw [if_neg (nI_ge c2 (by omega)), decide_eq_true c2]
        rfl
      · rw [if_pos (nI_le (by omega) (by omega)), decide_eq_false c2, ih fu (k + 1) (by omega) (by omega)]
        rfl
theorem isRest_m {o : Nat → Nat} {x m : St} (hO : OS o 16 x m) {i j w1 w2 : Nat} (hi : i < 4) (hj : j < 4) (h1 : w1 < 10) (h2 : w2 < 10) : ∀ (r fu k : Nat) (f : Bool), k + r = 4 → r < fu → fm_isRest_6 fu (nI (4 * i + j)) (nI w1) (nI w2) (b2 f) (nI k) m = some (b2 (f && Ra o i j w1 w2 r k), m) := by
  intro r
  induction r with
  | zero =>
    intro fu k f hk hf
    obtain ⟨fu, rfl⟩ : ∃ f, fu = f + 1 := ⟨fu - 1, by omega⟩
    obtain rfl : k = 4 := by omega
    rw [fm_isRest_6, if_pos (show (4 : Int32) ≤ nI 4 by decide)]
    cases f <;> rfl
  | succ r ih =>
    intro fu k f hk hf
    obtain ⟨fu, rfl⟩ : ∃ f, fu = f + 1 := ⟨fu - 1, by omega⟩
    have hk4 : k < 4 := by omega
    have b1 := (hO (4 * k + j) (by omega))
    have b3 := (hO (4 * i + k) (by omega))
    have b4 := (hO (4 * i + j) (by omega))
    have a1 := dd_le b1.1 h1
    have a2 := dd_le b4.1 h1
    have a3 := dd_le b3.1 h2
    have a4 := dd_le b4.1 h2
    have er : ir (nI (4 * i + j)) (4 : Int32) = nI j := by
      rw [show ir (nI (4 * i + j)) (4 : Int32) = nI ((4 * i + j) % 4) from rem_n (d := 4) (by omega) (by decide) (by decide)]
      congr 1; omega
    have ed : nI (4 * i + j) / (4 : Int32) = nI i := by
      rw [show nI (4 * i + j) / (4 : Int32) = nI ((4 * i + j) / 4) from pk_div (d := 4) (by omega) (by decide) (by decide)]
      congr 1; omega
    have e1 : (4 : Int32) * nI k + nI j = nI (4 * k + j) := by rw [show (4 : Int32) = nI 4 from rfl, pk_mul, nI_add]
    have e2 : nI (4 * i + j) - nI j + nI k = nI (4 * i + k) := by rw [nS (by omega), nI_add]; congr 1; omega
    rw [fm_isRest_6, if_neg (show ¬ (4 : Int32) ≤ nI k from nI_ge (b := 4) hk4 (by decide))]
    unfold fm_isRest_58 fm_isRest_59 fm_isRest_107 fm_isRest_108
    rw [er, ed, e1, e2, gr_n (show 4 * k + j < 16 by omega) (by decide), gr_n (show 4 * i + j < 16 by omega) (by decide), gr_n (show 4 * i + k < 16 by omega) (by decide), b1.2.2, b3.2.2, b4.2.2, nI_1, Ra, if_pos (show (0 : Int32) = 0 from rfl), Option.bind_some, apart_m b1.1 h1, Option.bind_some, Option.bind_some, apart_m b4.1 h1, Option.bind_some, if_neg (show ¬ (1 : Int32) = 0 by decide), Option.bind_some, apart_m b3.1 h2, Option.bind_some, Option.bind_some, apart_m b4.1 h2, Option.bind_some, nI_add, nI_add, nI_add, nI_add]
    unfold Rk
    cases f with
    | false =>
      rw [if_pos (show b2 false = 0 from rfl)]
      exact ih fu (k + 1) false (by omega) (by omega)
    | true =>
      rw [if_neg (show ¬ b2 true = 0 by decide)]
      by_cases c1 : dd (o (4 * k + j)) w1 + k < dd (o (4 * i + j)) w1 + i
      · rw [if_pos (nI_lt c1 (by omega)), decide_eq_true c1]
        exact ih fu (k + 1) false (by omega) (by omega)
      · rw [if_neg (nI_nlt (by omega) (by omega)), decide_eq_false c1]
        by_cases c2 : dd (o (4 * i + k)) w2 + k < dd (o (4 * i + j)) w2 + j
        · rw [if_pos (nI_lt c2 (by omega)), decide_eq_true c2]
          exact ih fu (k + 1) false (by omega) (by omega)
        · rw [if_neg (nI_nlt (by omega) (by omega)), decide_eq_false c2]
          exact ih fu (k + 1) true (by omega) (by omega)
