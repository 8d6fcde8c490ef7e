/-! what is held alike, carried over changes elsewhere -/
theorem RT.fr {n : Nat} {ch : Nat → Nat} {x m x' m' : St} (h : RT n ch x m) (a : x'.1 0 1 = x.1 0 1) (b : x'.1 1 = x.1 1) (c : m'.1 0 9 = m.1 0 9) (d : m'.1 5 = m.1 5) : RT n ch x' m' := by
  unfold RT at h ⊢
  rw [a, b, c, d]
  exact h
theorem RP.fr {P mk : Nat} {hm kd : Nat → Nat} {x m x' m' : St} (h : RP P mk hm kd x m) (a : x'.1 0 3 = x.1 0 3) (a2 : x'.1 0 2 = x.1 0 2) (b : x'.1 2 = x.1 2) (b2 : x'.1 3 = x.1 3) (c : m'.1 0 0 = m.1 0 0) (c2 : m'.1 0 1 = m.1 0 1) (d : m'.1 1 = m.1 1) (d2 : m'.1 2 = m.1 2) : RP P mk hm kd x' m' := by
  unfold RP at h ⊢
  rw [a, a2, b, b2, c, c2, d, d2]
  exact h
theorem MD.fr {k b : Nat} {D : DT} {w w' : St} (h : MD k b D w) (hc : ∀ j, j < 27 → w'.1 k (b + j) = w.1 k (b + j)) : MD k b D w' := h.to hc
theorem RK.fr {P : Nat} {x m x' m' : St} (h : RK P x m) (a : ∀ d, (d = 6 ∨ 73 ≤ d) → x'.1 d = x.1 d) (b : m'.1 10 = m.1 10) (c : m'.1 11 = m.1 11) : RK P x' m' := by
  intro s hs
  rw [a 6 (Or.inl rfl), b]
  rcases h s hs with q | ⟨q1, q2, D, q3, q4, q5⟩
  · exact Or.inl q
  · exact Or.inr ⟨q1, q2, D, q3.fr (fun c h1 h2 => a c (by omega)), q4.fr (fun j _ => by rw [c]), q5⟩
theorem RA.fr {P : Nat} {x m x' m' : St} (h : RA P x m) (a : ∀ d, 17 ≤ d → d < 73 → x'.1 d = x.1 d) (a2 : x'.1 0 8 = x.1 0 8) (a3 : x'.1 0 9 = x.1 0 9) (b : m'.1 6 = m.1 6) (b2 : m'.1 0 12 = m.1 0 12) (b3 : m'.1 0 13 = m.1 0 13) : RA P x' m' := by
  obtain ⟨p, f, nx, h1, h2, h3, h4, h5, h6, h7, h8⟩ := h
  refine ⟨p, f, nx, h1, h2, h3, a3.trans h4, b2.trans h5, a2.trans h6, b3.trans h7, fun j hj => ?_⟩
  obtain ⟨D, q1, q2, q3⟩ := h8 j hj
  exact ⟨D, q1.fr (fun c h1 h2 => a c (by omega) (by omega)), q2.fr (fun j _ => by rw [b]), q3⟩
theorem ring {P : Nat} {D : DT} {x m : St} (hA : RA P x m) (hX : XD 13 D x) (hM : MD 3 0 D m) (hI : DI P D) : ∃ x' m', fx_remember x = some x' ∧ fm_keepAct m = some m' ∧ RA P x' m' ∧ (∀ d, d ≠ 0 → (d < 17 ∨ 73 ≤ d) → x'.1 d = x.1 d) ∧ (∀ j, j ≠ 8 → j ≠ 9 → x'.1 0 j = x.1 0 j) ∧ x'.2 = x.2 ∧ (∀ d, d ≠ 0 → d ≠ 6 → m'.1 d = m.1 d) ∧ (∀ j, j ≠ 12 → j ≠ 13 → m'.1 0 j = m.1 0 j) ∧ m'.2 = m.2 := by
  obtain ⟨a, f, nx, ha, hf, hnx, x9, m12, x8, m13, hE⟩ := hA
  obtain ⟨x1, e1, f1, g1⟩ := become_d (d := 17 + 4 * ((f + a) % 14)) (e := 13) (w := x) (by omega) hX
  obtain ⟨m1, e2, f2, f3, g2, g3⟩ := keepAct2 nx hnx 27 4096 0 m (by omega) (by omega) m13
  have hq : (f + a) % 14 < 14 := Nat.mod_lt _ (by omega)
  have u1 : fx_remember x = fx_remember_39 x1 := by
    unfold fx_remember
    dsimp only [lb]
    rw [x8, x9, nI_add, show ir (nI (f + a)) 14 = nI ((f + a) % 14) from rem_n (d := 14) (by omega) (by decide) (by decide), if_neg (nI_pos (by omega)), if_neg (show ¬ (14 : Int32) ≤ nI ((f + a) % 14) from nI_ge (b := 14) hq (by decide)), gq_n hq (by decide)]
    simp only [Option.bind_some]
    rw [e1]
    rfl
  have n12 : m1.1 0 12 = nI a := by rw [f2 0 (by omega)]; exact m12
  have n13 : m1.1 0 13 = nI nx := by rw [f2 0 (by omega)]; exact m13
  have i13 : ir (nI nx + 1) 14 = nI ((nx + 1) % 14) := by rw [nI_1]; exact rem_n (d := 14) (by omega) (by decide) (by decide)
  have y9 : x1.1 0 9 = nI a := by rw [f1.1 0 (by omega)]; exact x9
  have y8 : x1.1 0 8 = nI f := by rw [f1.1 0 (by omega)]; exact x8
  have oldX : ∀ (x' : St) (j : Nat), j < 14 → (f + j) % 14 ≠ (f + a) % 14 → (∀ d, d ≠ 0 → x'.1 d = x1.1 d) → ∀ D', XD (17 + 4 * ((f + j) % 14)) D' x → XD (17 + 4 * ((f + j) % 14)) D' x' := fun x' j hj hne hx D' h => h.fr (fun c h1 h2 => by rw [hx c (by omega), f1.1 c (by omega)])
  have oldM : ∀ (m' : St) (k : Nat), k < 14 → k ≠ nx → (∀ d, d ≠ 0 → m'.1 d = m1.1 d) → ∀ D', MD 6 (27 * k) D' m → MD 6 (27 * k) D' m' := fun m' k hk hne hx D' h => h.fr (fun j h1 => by rw [hx 6 (by omega), g3 _ (by omega)])
  have newM : ∀ m' : St, (∀ d, d ≠ 0 → m'.1 d = m1.1 d) → MD 6 (27 * nx) D m' := fun m' hx => hM.to (fun j hj => by rw [hx 6 (by omega), g2 j (by omega) hj, Nat.zero_add])
  unfold fm_keepAct
  rw [u1, show (0 : Int32) = nI 0 from rfl, e2, fm_keepAct_2, if_pos (show (27 : Int32) ≤ nI 27 by decide), n13, i13, wr_off _ _ _ (by omega), n12]
  unfold fx_remember_39 fm_keepAct_68
  rw [y9, y8]
  by_cases h14 : a = 14
  · subst h14
    rw [if_pos (show (14 : Int32) ≤ nI 14 by decide), if_pos (show (14 : Int32) ≤ nI 14 by decide)]
    have i8 : ir (nI f + 1) 14 = nI ((f + 1) % 14) := by rw [nI_1]; exact rem_n (d := 14) (by omega) (by decide) (by decide)
    rw [i8]
    refine ⟨_, _, rfl, rfl, ⟨14, (f + 1) % 14, (nx + 1) % 14, by omega, by omega, by omega, ?_, ?_, ?_, ?_, fun j hj => ?_⟩, fun d q1 q2 => ?_, fun j q1 q2 => ?_, ?_, fun d q1 q2 => ?_, fun j q1 q2 => ?_, ?_⟩
    · rw [wr_off _ _ _ (by omega)]; exact y9
    · rw [wr_same]; rfl
    · rw [wr_same]
    · rw [wr_off _ _ _ (by omega), wr_same]
    · have hx : ∀ d, d ≠ 0 → (wr x1 0 8 (nI ((f + 1) % 14))).1 d = x1.1 d := fun d q => wr_ne _ _ _ q
      have hm : ∀ d, d ≠ 0 → (wr (wr m1 0 13 (nI ((nx + 1) % 14))) 0 12 14).1 d = m1.1 d := fun d q => (wr_ne _ _ _ q).trans (wr_ne _ _ _ q)
      by_cases hj13 : j = 13
      · subst hj13
        refine ⟨D, ?_, ?_, hI⟩
        · rw [show ((f + 1) % 14 + 13) % 14 = (f + 14) % 14 by omega]
          exact g1.fr (fun c h1 h2 => hx c (by omega))
        · rw [show ((nx + 1) % 14 + 14 - 14 + 13) % 14 = nx by omega]
          exact newM _ hm
      · obtain ⟨D', q1, q2, q3⟩ := hE (j + 1) (by omega)
        refine ⟨D', ?_, ?_, q3⟩
        · rw [show ((f + 1) % 14 + j) % 14 = (f + (j + 1)) % 14 by omega]
          exact oldX _ (j + 1) (by omega) (by omega) hx D' q1
        · rw [show ((nx + 1) % 14 + 14 - 14 + j) % 14 = (nx + 14 - 14 + (j + 1)) % 14 by omega]
          exact oldM _ _ (Nat.mod_lt _ (by omega)) (by omega) hm D' q2
    · rw [wr_ne _ _ _ q1, f1.1 d (by omega)]
    · rw [wr_off _ _ _ q1, f1.1 0 (by omega)]
    · exact f1.2
    · rw [wr_ne _ _ _ q1, wr_ne _ _ _ q1, f2 d q2]
    · rw [wr_off _ _ _ q1, wr_off _ _ _ q2, f2 0 (by omega)]
    · exact f3
  · have hl : a < 14 := by omega
    rw [if_neg (show ¬ (14 : Int32) ≤ nI a from nI_ge (b := 14) hl (by decide)), if_neg (show ¬ (14 : Int32) ≤ nI a from nI_ge (b := 14) hl (by decide)), nI_1]
    refine ⟨_, _, rfl, rfl, ⟨a + 1, f, (nx + 1) % 14, by omega, hf, by omega, ?_, ?_, ?_, ?_, fun j hj => ?_⟩, fun d q1 q2 => ?_, fun j q1 q2 => ?_, ?_, fun d q1 q2 => ?_, fun j q1 q2 => ?_, ?_⟩
    · rw [wr_same]
    · rw [wr_same]
    · rw [wr_off _ _ _ (by omega)]; exact y8
    · rw [wr_off _ _ _ (by omega), wr_same]
    · have hx : ∀ d, d ≠ 0 → (wr x1 0 9 (nI (a + 1))).1 d = x1.1 d := fun d q => wr_ne _ _ _ q
      have hm : ∀ d, d ≠ 0 → (wr (wr m1 0 13 (nI ((nx + 1) % 14))) 0 12 (nI (a + 1))).1 d = m1.1 d := fun d q => (wr_ne _ _ _ q).trans (wr_ne _ _ _ q)
      by_cases hja : j = a
      · subst hja
        refine ⟨D, g1.fr (fun c h1 h2 => hx c (by omega)), ?_, hI⟩
        rw [show ((nx + 1) % 14 + 14 - (j + 1) + j) % 14 = nx by omega]
        exact newM _ hm
      · obtain ⟨D', q1, q2, q3⟩ := hE j (by omega)
        refine ⟨D', oldX _ j (by omega) (by omega) hx D' q1, ?_, q3⟩
        rw [show ((nx + 1) % 14 + 14 - (a + 1) + j) % 14 = (nx + 14 - a + j) % 14 by omega]
        exact oldM _ _ (Nat.mod_lt _ (by omega)) (by omega) hm D' q2
    · rw [wr_ne _ _ _ q1, f1.1 d (by omega)]
    · rw [wr_off _ _ _ q2, f1.1 0 (by omega)]
    · exact f1.2
    · rw [wr_ne _ _ _ q1, wr_ne _ _ _ q1, f2 d q2]
    · rw [wr_off _ _ _ q1, wr_off _ _ _ q2, f2 0 (by omega)]
    · exact f3
theorem pers {P mk : Nat} {hm kd : Nat → Nat} {x m : St} (h : RP P mk hm kd x m) (a : Int32) : (∃ p, p < P ∧ a = nI p ∧ fx_isThere a x = some (1, x) ∧ fm_isPerson a m = some (1, m)) ∨ (fx_isThere a x = some (0, x) ∧ fm_isPerson a m = some (0, m)) := by
  obtain ⟨hP, -, hx, hm, -⟩ := h
  unfold fx_isThere fm_isPerson
  rw [hx, hm]
  have hp1 : (nI P - 1).toInt = (P : Int) - 1 := by
    rcases Nat.eq_zero_or_pos P with q | q
    · subst q; decide
    · obtain ⟨k, rfl⟩ : ∃ k, P = k + 1 := ⟨P - 1, by omega⟩
      rw [nI_pred, nI_toInt (by omega)]; omega
  rcases arg3 a P (by omega) with q | q | ⟨p, q, rfl⟩
  · right
    rw [if_pos q, in_f (a := a.toInt64) (b := 0) (c := (nI P - 1).toInt64) (lo := 0) (x := a) (hi := nI P - 1) rfl rfl rfl (Or.inl q)]
    exact ⟨rfl, rfl⟩
  · right
    have q0 : ¬ a < 0 := by
      rw [Int32.lt_iff_toInt_lt]
      rw [Int32.le_iff_toInt_le, nI_toInt (by omega)] at q
      rw [show (0 : Int32).toInt = 0 from rfl]
      omega
    rw [if_neg q0, if_pos q, in_f (a := a.toInt64) (b := 0) (c := (nI P - 1).toInt64) (lo := 0) (x := a) (hi := nI P - 1) rfl rfl rfl (Or.inr (by rw [Int32.lt_iff_toInt_lt, hp1]; rw [Int32.le_iff_toInt_le, nI_toInt (by omega)] at q; omega))]
    exact ⟨rfl, rfl⟩
  · left
    refine ⟨p, q, rfl, ?_, ?_⟩
    · rw [if_neg (nI_pos (by omega)), if_neg (nI_ge q (by omega)), if_neg (show ¬ (6 : Int32) ≤ nI p from nI_ge (b := 6) (by omega) (by decide))]
    · rw [in_t (a := (nI p).toInt64) (b := 0) (c := (nI P - 1).toInt64) (lo := 0) (x := nI p) (hi := nI P - 1) rfl rfl rfl (nI_pos' (by omega)) (by rw [Int32.le_iff_toInt_le, hp1, nI_toInt (by omega)]; omega)]
      rfl
