/-! a new island -/
theorem isle72 (w : St) : fx_island_72 4096 0 w = some (w.1 0 3, wr (wr w 6 0 0) 6 1 0) := by
  rw [show (4096 : Nat) = 4095 + 1 from rfl, fx_island_72, if_neg (show ¬ (2 : Int32) ≤ 0 by decide), show (0 : Int32) = nI 0 from rfl, gu_n (show 0 < 2 by omega) (by decide), Option.bind_some, nI_1, show (4095 : Nat) = 4094 + 1 from rfl, fx_island_72, if_neg (show ¬ (2 : Int32) ≤ nI (0 + 1) by decide), gu_n (show 0 + 1 < 2 by omega) (by decide), Option.bind_some, nI_1, show (4094 : Nat) = 4093 + 1 from rfl, fx_island_72, if_pos (show (2 : Int32) ≤ nI (0 + 1 + 1) by decide)]
  rw [wr_ne _ _ _ (show 0 ≠ 6 by omega), wr_ne _ _ _ (show 0 ≠ 6 by omega)]
  rfl
/-- a day begun -/
theorem begin_x (w : St) : ∃ w', fd_begin 13 w = some w' ∧ (∀ d, d ≠ 13 → d ≠ 14 → d ≠ 15 → w'.1 d = w.1 d) ∧ w'.2 = w.2 ∧ w'.1 13 1 = 0 ∧ w'.1 13 2 = 0 ∧ w'.1 14 0 = 0 ∧ w'.1 14 1 = -9 ∧ w'.1 14 2 = -9 ∧ ∀ j, j < 7 → w'.1 15 j = 0 := by
  obtain ⟨w1, h1, h2, h3, h4, -⟩ := begin19 14 7 4096 0 (wr (wr (wr w 14 0 0) 14 1 (-9)) 14 2 (-9)) (by omega) (by omega)
  unfold fd_begin ft_begin
  have h1' : ft_begin_19 4096 14 0 (wr (wr (wr w 14 0 0) 14 1 (-9)) 14 2 (-9)) = some w1 := h1
  rw [show (13 : Nat) + 1 = 14 from rfl, h1', Option.bind_some]
  refine ⟨_, rfl, fun d a b c => ?_, h3, ?_, ?_, ?_, ?_, ?_, fun j hj => ?_⟩
  · rw [wr_ne _ _ _ a, wr_ne _ _ _ a, h2 d (by omega), wr_ne _ _ _ b, wr_ne _ _ _ b, wr_ne _ _ _ b]
  · rw [wr_off _ _ _ (by omega), wr_same]
  · rw [wr_same]
  · rw [wr_ne _ _ _ (by omega), wr_ne _ _ _ (by omega), h2 14 (by omega), wr_off _ _ _ (by omega), wr_off _ _ _ (by omega), wr_same]
  · rw [wr_ne _ _ _ (by omega), wr_ne _ _ _ (by omega), h2 14 (by omega), wr_off _ _ _ (by omega), wr_same]
  · rw [wr_ne _ _ _ (by omega), wr_ne _ _ _ (by omega), h2 14 (by omega), wr_same]
  · rw [wr_ne _ _ _ (by omega), wr_ne _ _ _ (by omega), h4 j (by omega) hj]
theorem isle_x {n K mk : Nat} {ch : Nat → Nat} {x : St} (hK : K ≤ 6) (hn : n = 2 + 5 * K) (hF : FF n ch 0 = -9) (hmk : mk ≤ 9) (hc : 48 ≤ ch 1) (hmk2 : mk = ch 1 - 48) (ht : ∀ j, j < n → x.1 1 j = nI (ch j)) (h1 : x.1 0 1 = nI n) (hf : fx_firstFault x = some (-9, x)) : ∃ x', fx_island x = some (nI K, x') ∧ x'.2 = x.2 ∧ x'.1 1 = x.1 1 ∧ x'.1 0 1 = nI n ∧ x'.1 0 2 = nI mk ∧ x'.1 0 3 = nI K ∧ x'.1 0 8 = 0 ∧ x'.1 0 9 = 0 ∧ x'.1 6 0 = 0 ∧ x'.1 6 1 = 0 ∧ x'.1 13 1 = nI (am mk (tH ch) K) ∧ x'.1 13 2 = 0 ∧ x'.1 14 0 = 0 ∧ x'.1 14 1 = -9 ∧ x'.1 14 2 = -9 ∧ (∀ j, j < 7 → x'.1 15 j = 0) ∧ (∀ j, K ≤ j → x'.1 2 j = x.1 2 j ∧ x'.1 3 j = x.1 3 j) ∧ ∀ j, j < K → x'.1 2 j = nI (tH ch j) ∧ x'.1 3 j = nI (tK ch j) ∧ x'.1 16 j = nI (tS ch j) := by
  unfold fx_island
  rw [hf, Option.bind_some, if_pos rfl, show (1 : Int32) = nI 1 from rfl, figIn (show n ≤ 40 by omega) (show 1 < n by omega) ht hc, Option.bind_some]
  have e1 : (((wr x 0 2 (nI (ch 1 - 48))).1 0 1) - (2 : Int32)) / 5 = nI K := by
    rw [wr_off _ _ _ (by omega), h1, show (2 : Int32) = nI 2 from rfl, nS (by omega), show nI (n - 2) / (5 : Int32) = nI ((n - 2) / 5) from pk_div (d := 5) (by omega) (by decide) (by decide), show (n - 2) / 5 = K by omega]
  rw [e1, ← hmk2]
  obtain ⟨w2, b1, b2, b3, b4, b5, b6, b7, b8, b9⟩ := begin_x (wr (wr x 0 2 (nI mk)) 0 3 (nI K))
  rw [b1, Option.bind_some]
  have z : ∀ d, d ≠ 0 → d ≠ 13 → d ≠ 14 → d ≠ 15 → w2.1 d = x.1 d := fun d a b c e => by rw [b2 d b c e, wr_ne _ _ _ a, wr_ne _ _ _ a]
  have z0 : w2.1 0 = (wr (wr x 0 2 (nI mk)) 0 3 (nI K)).1 0 := b2 0 (by omega) (by omega) (by omega)
  obtain ⟨w3, s1, s2, s3, s4, s5, s6, s7⟩ := settle42 hK hn hF hmk K 4096 0 w2 (by omega) (by omega) (fun j hj => by rw [z 1 (by omega) (by omega) (by omega) (by omega)]; exact ht j hj) (by rw [z0, wr_same]) (by rw [z0, wr_off _ _ _ (by omega), wr_same]) (by rw [b4]; rfl)
  have y0 : w3.1 0 = w2.1 0 := s2 0 (by omega) (by omega) (by omega) (by omega)
  rw [show fx_island_42 4096 0 w2 = fx_island_42 1 (nI K) w3 from s1, show (1 : Nat) = 0 + 1 from rfl, fx_island_42, y0, z0, wr_same, if_pos (nI_le (Nat.le_refl K) (by omega))]
  unfold fx_forgetActs
  rw [Option.bind_some, isle72]
  obtain ⟨w4, hw4⟩ : ∃ w4, w4 = wr (wr (wr (wr w3 0 8 0) 0 9 0) 6 0 0) 6 1 0 := ⟨_, rfl⟩
  have k0 : ∀ j, j ≠ 8 → j ≠ 9 → w4.1 0 j = w3.1 0 j := fun j a b => by rw [hw4, wr_ne _ _ _ (by omega), wr_ne _ _ _ (by omega), wr_off _ _ _ b, wr_off _ _ _ a]
  have kd : ∀ d, d ≠ 0 → d ≠ 6 → w4.1 d = w3.1 d := fun d a b => by rw [hw4, wr_ne _ _ _ b, wr_ne _ _ _ b, wr_ne _ _ _ a, wr_ne _ _ _ a]
  rw [← hw4]
  refine ⟨w4, ?_, ?_, ?_, ?_, ?_, ?_, ?_, ?_, ?_, ?_, ?_, ?_, ?_, ?_, ?_, fun j hj => ?_, fun j hj => ?_, fun j hj => ?_⟩
  · rw [wr_off _ _ _ (by omega), wr_off _ _ _ (by omega), y0, z0, wr_same]
  · rw [hw4]; exact s3.trans b3
  · rw [kd 1 (by omega) (by omega), s2 1 (by omega) (by omega) (by omega) (by omega), z 1 (by omega) (by omega) (by omega) (by omega)]
  · rw [k0 _ (by omega) (by omega), y0, z0, wr_off _ _ _ (by omega), wr_off _ _ _ (by omega), h1]
  · rw [k0 _ (by omega) (by omega), y0, z0, wr_off _ _ _ (by omega), wr_same]
  · rw [k0 _ (by omega) (by omega), y0, z0, wr_same]
  · rw [hw4, wr_ne _ _ _ (by omega), wr_ne _ _ _ (by omega), wr_off _ _ _ (by omega), wr_same]
  · rw [hw4, wr_ne _ _ _ (by omega), wr_ne _ _ _ (by omega), wr_same]
  · rw [hw4, wr_off _ _ _ (by omega), wr_same]
  · rw [hw4, wr_same]
  · rw [kd 13 (by omega) (by omega)]; exact s5
  · rw [kd 13 (by omega) (by omega), s4 2 (by omega)]; exact b5
  · rw [kd 14 (by omega) (by omega), s2 14 (by omega) (by omega) (by omega) (by omega)]; exact b6
  · rw [kd 14 (by omega) (by omega), s2 14 (by omega) (by omega) (by omega) (by omega)]; exact b7
  · rw [kd 14 (by omega) (by omega), s2 14 (by omega) (by omega) (by omega) (by omega)]; exact b8
  · rw [kd 15 (by omega) (by omega), s2 15 (by omega) (by omega) (by omega) (by omega)]; exact b9 j hj
  · rw [kd 2 (by omega) (by omega), kd 3 (by omega) (by omega)]
    obtain ⟨q1, q2, -⟩ := s6 j (Or.inr hj)
    exact ⟨by rw [q1, z 2 (by omega) (by omega) (by omega) (by omega)], by rw [q2, z 3 (by omega) (by omega) (by omega) (by omega)]⟩
  · rw [kd 2 (by omega) (by omega), kd 3 (by omega) (by omega), kd 16 (by omega) (by omega)]
    exact s7 j (by omega) hj
theorem isle_m {n K mk : Nat} {ch : Nat → Nat} {m m1 : St} (hK : K ≤ 6) (hn : n = 2 + 5 * K) (hF : FF n ch 0 = -9) (hmk : mk ≤ 9) (hr : fm_readText m = some (-9, m1)) (h7 : m1.1 0 7 = nI mk) (h6 : m1.1 0 6 = nI K) (ht : ∀ j, j < 4 * K → m1.1 4 j = nI (tab ch j)) : ∃ m', fm_island m = some (nI K, m') ∧ m'.2 = m1.2 ∧ m'.1 5 = m1.1 5 ∧ m'.1 6 = m1.1 6 ∧ m'.1 11 = m1.1 11 ∧ m'.1 0 9 = m1.1 0 9 ∧ m'.1 0 13 = m1.1 0 13 ∧ m'.1 0 12 = 0 ∧ m'.1 0 0 = nI K ∧ m'.1 0 1 = nI mk ∧ m'.1 10 0 = 0 ∧ m'.1 10 1 = 0 ∧ m'.1 3 0 = nI (am mk (tH ch) K) ∧ m'.1 3 26 = 0 ∧ m'.1 3 22 = 0 ∧ m'.1 3 23 = -9 ∧ m'.1 3 24 = -9 ∧ (∀ j, j < 6 → m'.1 3 (15 + j) = 0) ∧ (∀ j, K ≤ j → m'.1 1 j = m1.1 1 j ∧ m'.1 2 j = m1.1 2 j) ∧ ∀ j, j < K → m'.1 1 j = nI (tH ch j) ∧ m'.1 2 j = nI (tK ch j) ∧ m'.1 3 (1 + j) = nI (tS ch j / 10) ∧ m'.1 3 (8 + j) = nI (tS ch j % 10) := by
  unfold fm_island
  rw [hr, Option.bind_some, if_pos rfl]
  have e7 : (wr m1 0 0 (m1.1 0 6)).1 0 7 = nI mk := by rw [wr_off _ _ _ (by omega), h7]
  rw [show (wr (-9, m1).2 0 0 ((-9, m1).2.1 0 6)).1 0 7 = nI mk from e7, show (-9, m1).2.1 0 6 = nI K from h6]
  obtain ⟨w2, z1, z2, z3, z4, z5⟩ := zero30 27 4096 0 (wr (wr m1 0 0 (nI K)) 0 1 (nI mk)) (by omega) (by omega)
  have z1' : fm_island_30 4096 0 (wr (wr m1 0 0 (nI K)) 0 1 (nI mk)) = fm_island_30 1 (nI 27) w2 := z1
  rw [show wr (-9, m1).2 0 0 (nI K) = wr m1 0 0 (nI K) from rfl, z1', show (1 : Nat) = 0 + 1 from rfl, fm_island_30, if_pos (show (27 : Int32) ≤ nI 27 by decide), show (23 : Int32) = nI 23 from rfl, show (24 : Int32) = nI 24 from rfl, gu_n (show 23 < 54 by omega) (by decide), Option.bind_some, gu_n (show 24 < 54 by omega) (by decide), Option.bind_some]
  obtain ⟨w3, hw3⟩ : ∃ w3, w3 = wr (wr w2 3 23 (-9)) 3 24 (-9) := ⟨_, rfl⟩
  have k3 : ∀ d, d ≠ 3 → w3.1 d = (wr (wr m1 0 0 (nI K)) 0 1 (nI mk)).1 d := fun d a => by rw [hw3, wr_ne _ _ _ a, wr_ne _ _ _ a, z2 d a]
  have k30 : ∀ j, j < 27 → j ≠ 23 → j ≠ 24 → w3.1 3 j = 0 := fun j a b c => by rw [hw3, wr_off _ _ _ c, wr_off _ _ _ b, z4 j (by omega) a]
  rw [← hw3]
  obtain ⟨w4, s1, s2, s3, s4, s5, s6, -, s8⟩ := settle69 hK hn hF hmk K 4096 0 w3 (by omega) (by omega) (fun j hj => by rw [k3 4 (by omega), wr_ne _ _ _ (by omega), wr_ne _ _ _ (by omega)]; exact ht j hj) (by rw [k3 0 (by omega), wr_off _ _ _ (by omega), wr_same]) (by rw [k3 0 (by omega), wr_same]) (by rw [k30 0 (by omega) (by omega) (by omega)]; rfl)
  have y0 : w4.1 0 = (wr (wr m1 0 0 (nI K)) 0 1 (nI mk)).1 0 := by rw [s2 0 (by omega) (by omega) (by omega), k3 0 (by omega)]
  have yd : ∀ d, d ≠ 0 → d ≠ 1 → d ≠ 2 → d ≠ 3 → w4.1 d = m1.1 d := fun d a b c e => by rw [s2 d b c e, k3 d e, wr_ne _ _ _ a, wr_ne _ _ _ a]
  rw [show fm_island_69 4096 0 w3 = fm_island_69 1 (nI K) w4 from s1, show (1 : Nat) = 0 + 1 from rfl, fm_island_69, y0, wr_off _ _ _ (show 0 ≠ 1 by omega), wr_same, if_pos (nI_le (Nat.le_refl K) (by omega)), show (1 : Int32) = nI 1 from rfl, show gu (wr w4 0 12 0) 10 2 0 0 = some (wr (wr w4 0 12 0) 10 0 0) from gu_n (k := 0) (show 0 < 2 by omega) (by decide), Option.bind_some, gu_n (show 1 < 2 by omega) (by decide), Option.bind_some]
  obtain ⟨w5, hw5⟩ : ∃ w5, w5 = wr (wr (wr w4 0 12 0) 10 0 0) 10 1 0 := ⟨_, rfl⟩
  have j0 : ∀ j, j ≠ 12 → w5.1 0 j = w4.1 0 j := fun j a => by rw [hw5, wr_ne _ _ _ (by omega), wr_ne _ _ _ (by omega), wr_off _ _ _ a]
  have jd : ∀ d, d ≠ 0 → d ≠ 10 → w5.1 d = w4.1 d := fun d a b => by rw [hw5, wr_ne _ _ _ b, wr_ne _ _ _ b, wr_ne _ _ _ a]
  rw [← hw5]
  have hK0 : w5.1 0 0 = nI K := by rw [j0 0 (by omega), y0, wr_off _ _ _ (by omega), wr_same]
  refine ⟨w5, by rw [hK0], ?_, ?_, ?_, ?_, ?_, ?_, ?_, hK0, ?_, ?_, ?_, ?_, ?_, ?_, ?_, ?_, fun j hj => ?_, fun j hj => ?_, fun j hj => ?_⟩
  · rw [hw5]; exact s3.trans (show w3.2 = m1.2 by rw [hw3]; exact z3)
  · rw [jd 5 (by omega) (by omega), yd 5 (by omega) (by omega) (by omega) (by omega)]
  · rw [jd 6 (by omega) (by omega), yd 6 (by omega) (by omega) (by omega) (by omega)]
  · rw [jd 11 (by omega) (by omega), yd 11 (by omega) (by omega) (by omega) (by omega)]
  · rw [j0 9 (by omega), y0, wr_off _ _ _ (by omega), wr_off _ _ _ (by omega)]
  · rw [j0 13 (by omega), y0, wr_off _ _ _ (by omega), wr_off _ _ _ (by omega)]
  · rw [hw5, wr_ne _ _ _ (by omega), wr_ne _ _ _ (by omega), wr_same]
  · rw [j0 1 (by omega), y0, wr_same]
  · rw [hw5, wr_off _ _ _ (by omega), wr_same]
  · rw [hw5, wr_same]
  · rw [jd 3 (by omega) (by omega)]; exact s4
  · rw [jd 3 (by omega) (by omega), s5 26 (by omega), k30 26 (by omega) (by omega) (by omega)]
  · rw [jd 3 (by omega) (by omega), s5 22 (by omega), k30 22 (by omega) (by omega) (by omega)]
  · rw [jd 3 (by omega) (by omega), s5 23 (by omega), hw3, wr_off _ _ _ (by omega), wr_same]
  · rw [jd 3 (by omega) (by omega), s5 24 (by omega), hw3, wr_same]
  · rw [jd 3 (by omega) (by omega), s5 _ (by omega), k30 _ (by omega) (by omega) (by omega)]
  · rw [jd 1 (by omega) (by omega), jd 2 (by omega) (by omega)]
    obtain ⟨q1, q2⟩ := s6 j (Or.inr hj)
    exact ⟨by rw [q1, k3 1 (by omega), wr_ne _ _ _ (by omega), wr_ne _ _ _ (by omega)], by rw [q2, k3 2 (by omega), wr_ne _ _ _ (by omega), wr_ne _ _ _ (by omega)]⟩
  · rw [jd 1 (by omega) (by omega), jd 2 (by omega) (by omega), jd 3 (by omega) (by omega)]
    exact s8 j (by omega) hj
theorem ca_island {x m : St} (h : RR x m) : CA (fx_island x) (fm_island m) := by
  obtain ⟨n, P, mk, ch, hm, kd, D, hB, hX, hM, hI⟩ := h.rb
  obtain ⟨v, m1, e1, e2, e3, e4, e5⟩ := read_m hB.1.rd
  obtain ⟨⟨hn, x1, m9, hc⟩, ⟨hP, hmk, p3, p4, p5, p6, p7, p8, p9⟩, hK, hA, hz⟩ := hB
  have hf := read_x (show RT n ch x m from ⟨hn, x1, m9, hc⟩)
  rcases (show ¬ FF n ch 0 = -9 ∨ FF n ch 0 = -9 from (Classical.em _).symm) with hF | hF
  · refine ⟨-3, x, m1, ?_, ?_, h.scr SW.rf e3 (hz.trans e4.symm)⟩
    · unfold fx_island
      rw [hf, Option.bind_some, if_neg hF]
    · unfold fm_island
      rw [e1, Option.bind_some, if_neg (by rw [e2]; exact hF)]
  obtain ⟨⟨c1, c2⟩, m7, K, hK6, hnK, m6, ht⟩ := e5 (e2.trans hF)
  obtain ⟨x', X0, X1, X2, X3, X4, X5, X6, X7, X8, X9, Xa, Xb, Xc, Xd, Xe, Xf, Xg, Xh⟩ := isle_x (mk := ch 1 - 48) hK6 hnK hF (by omega) c1 rfl (fun j hj => (hc j hj).2.1) x1 (by rw [hf, hF])
  obtain ⟨m', M0, M1, M2, M3, M4, M5, M6, M7, M8, M9, Ma, Mb, Mc, Md, Me, Mf, Mg, Mh, Mi, Mj⟩ := isle_m (mk := ch 1 - 48) hK6 hnK hF (by omega) (by rw [e1, e2, hF]) m7 m6 ht
  have d0 : ∀ j, j < K → tH ch j ≤ 9 := fun j hj => by
    have := (dig_ok (t := 0) hK6 hnK hj (by omega) hF).2
    unfold tH
    simp only [Nat.zero_mod, if_true, Nat.add_zero] at this
    omega
  have d3 : ∀ j, j < K → tK ch j ≤ 3 := fun j hj => by
    have := (dig_ok (t := 3) hK6 hnK hj (by omega) hF).2
    rw [if_neg (by decide)] at this
    unfold tK
    omega
  have dS : ∀ j, j < K → tS ch j < 40 := fun j hj => by
    have a := (dig_ok (t := 1) hK6 hnK hj (by omega) hF).2
    have b := (dig_ok (t := 2) hK6 hnK hj (by omega) hF).2
    rw [if_neg (by decide)] at a
    rw [if_pos (by decide)] at b
    unfold tS
    omega
  refine ⟨nI K, x', m', X0, M0, n, K, ch 1 - 48, ch, fun j => if j < K then tH ch j else hm j, fun j => if j < K then tK ch j else kd j, (am (ch 1 - 48) (tH ch) K, 0, fun j => if j < K then tS ch j else 40, 0, -9, none, fun _ => 0), ⟨hn, X3, ?_, fun j hj => ?_⟩, ⟨hK6, by omega, X5, M8, X4, M9, fun j hj => ?_, fun j hj => ?_, ?_⟩, ⟨Xa, Xb, fun j hj q => ?_, Xc, Xd, Xe, fun j hj => Xf j (by omega)⟩, ⟨Mc, Md, fun j hj q => ?_, Me, Mf, Mg, fun j hj => ?_⟩, ⟨am_lt K, fun j hj => ?_, by show (0 : Nat) < 10; omega, fun c q => by cases q⟩, fun s hs => Or.inl ?_, ?_, ?_⟩
  · rw [M5, e3.2.2 9 (by omega), m9]
  · obtain ⟨a, b, c⟩ := hc j hj
    exact ⟨a, by rw [X2]; exact b, by rw [M2, e3.1 5 (by omega)]; exact c⟩
  · by_cases q : j < K
    · simp only [if_pos q]
      exact ⟨d0 j q, (Xh j q).1, (Mj j q).1⟩
    · simp only [if_neg q]
      obtain ⟨a, b, c⟩ := p7 j hj
      exact ⟨a, by rw [(Xg j (by omega)).1]; exact b, by rw [(Mi j (by omega)).1, e3.1 1 (by omega)]; exact c⟩
  · by_cases q : j < K
    · simp only [if_pos q]
      exact ⟨d3 j q, (Xh j q).2.1, (Mj j q).2.1⟩
    · simp only [if_neg q]
      obtain ⟨a, b, c⟩ := p8 j hj
      exact ⟨a, by rw [(Xg j (by omega)).2]; exact b, by rw [(Mi j (by omega)).2, e3.1 2 (by omega)]; exact c⟩
  · dsimp only
    rw [if_neg (by omega)]
    exact p9
  · dsimp only at q ⊢
    by_cases k : j < K
    · rw [if_pos k]
      exact (Xh j k).2.2
    · rw [if_neg k] at q; omega
  · dsimp only at q ⊢
    by_cases k : j < K
    · rw [if_pos k, Nat.zero_add]
      rw [Nat.zero_add]
      exact (Mj j k).2.2
    · rw [if_neg k] at q; omega
  · rw [Nat.zero_add]
    exact Mh j hj
  · dsimp only
    rw [if_pos hj]
    exact dS j hj
  · rcases (show s = 0 ∨ s = 1 by omega) with rfl | rfl
    · exact ⟨X8, Ma⟩
    · exact ⟨X9, Mb⟩
  · obtain ⟨a, f, nx, a1, a2, a3, a4, a5, a6, a7, -⟩ := hA
    exact ⟨0, 0, nx, by omega, by omega, a3, X7, M7, X6, by rw [M6, e3.2.2 13 (by omega)]; exact a7, fun j hj => absurd hj (by omega)⟩
  · rw [X1, hz, ← e4, M1]
