/-! fetch, send, say, name, undo, keep, again -/
theorem two_lt {p : Nat} (h : p < 6) : 2 ^ p < 64 := Nat.lt_of_lt_of_le (Nat.pow_lt_pow_right (a := 2) (by decide) h) (by decide)
theorem p_le {P : Nat} (h : P ≤ 6) : 2 ^ P ≤ 64 := Nat.le_trans (Nat.pow_le_pow_right (n := 2) (by decide) h) (by decide)
theorem sb_le (a b : Nat) : sb a b ≤ a := Nat.and_le_left
section AT
variable {D : DT} {x x' m m' : St}
theorem XD.at13 {A : Nat} {H : Int32} (h : XD 13 D x) (h1 : x'.1 13 1 = nI A) (h2 : x'.1 13 2 = H) (h3 : ∀ c, 14 ≤ c → c < 17 → x'.1 c = x.1 c) : XD 13 (A, H, D.2.2) x' := by
  obtain ⟨x1, x2, x3, x4⟩ := h
  exact ⟨h1, h2, fun j hj h40 => by rw [h3 _ (by omega) (by omega)]; exact x3 j hj h40, x4.fr (h3 _ (by omega) (by omega)) (h3 _ (by omega) (by omega))⟩
theorem MD.at3 {A : Nat} {H : Int32} (h : MD 3 0 D m) (h1 : m'.1 3 0 = nI A) (h2 : m'.1 3 26 = H) (h3 : ∀ j, 1 ≤ j → j < 26 → m'.1 3 j = m.1 3 j) : MD 3 0 (A, H, D.2.2) m' := by
  obtain ⟨x1, x2, x3, x4⟩ := h
  exact ⟨h1, h2, fun j hj h40 => by rw [h3 _ (by omega) (by omega), h3 _ (by omega) (by omega)]; exact x3 j hj h40, x4.to (fun j q1 q2 => h3 _ (by omega) (by omega))⟩
end AT
theorem FX.wr {x : St} {c j : Nat} {v : Int32} (h : 13 ≤ c ∧ c < 17) : FX x (wr x c j v) := ⟨fun d q => wr_ne _ _ _ (by omega), rfl⟩
theorem FX.tr {x x' x'' : St} (h : FX x x') (h2 : FX x' x'') : FX x x'' := ⟨fun d q => (h2.1 d q).trans (h.1 d q), h2.2.trans h.2⟩
theorem FX.rf {x : St} : FX x x := ⟨fun _ _ => rfl, rfl⟩
theorem F3.wr {x : St} {j : Nat} {v : Int32} : F3 x (wr x 3 j v) := ⟨fun d q => wr_ne _ _ _ q, rfl⟩
theorem F3.tr {x x' x'' : St} (h : F3 x x') (h2 : F3 x' x'') : F3 x x'' := ⟨fun d q => (h2.1 d q).trans (h.1 d q), h2.2.trans h.2⟩
theorem FT.fx {x x' : St} (h : FT 14 x x') : FX x x' := ⟨fun d q => h.1 d (by omega) (by omega), h.2⟩
theorem FL.f3 {b : Nat} {x x' : St} (h : FL b x x') : F3 x x' := ⟨h.1, h.2.2⟩
theorem ca_fetch {x m : St} (h : RR x m) (a : Int32) : CA (fx_fetch a x) (fm_fetch a m) := by
  have hR := h
  obtain ⟨n, P, mk, ch, hm, kd, D, hB, hX, hM, hI⟩ := h.rb
  have hP6 := hB.2.1.1
  have hlt : D.1 < 64 := Nat.lt_of_lt_of_le hI.1 (p_le hP6)
  unfold fx_fetch fm_fetch
  rcases pers hB.2.1 a with ⟨p, hp, rfl, e1, e2⟩ | ⟨e1, e2⟩
  · rw [e1, e2]
    simp only [Option.bind_some]
    rw [if_neg (show ¬ (1 : Int32) = 0 by decide), if_neg (show ¬ (1 : Int32) = 0 by decide), hX.1, show (0 : Int32) = nI 0 from rfl, gr_n (show 0 < 54 by omega) (by decide), hM.1, has_x (by omega) (by omega)]
    simp only [Option.bind_some]
    rw [has_m (by omega) (by omega)]
    simp only [Option.bind_some]
    cases hb : D.1.testBit p with
    | true => exact ⟨_, _, _, rfl, rfl, hR⟩
    | false =>
      rw [if_neg (show ¬ false = true by decide), if_pos (show (0 : Int32) = nI 0 from rfl), if_pos (show (0 : Int32) = nI 0 from rfl)]
      obtain ⟨x1, m1, e1, e2, hB1, hX1, hM1⟩ := hB.act hX hM hI
      have b1 := bit_1 (show p < 31 by omega)
      rw [e1, e2]
      simp only [Option.bind_some]
      rw [gr_n (show 0 < 54 by omega) (by decide), hM1.1, hX1.1, b1, nO]
      simp only [Option.bind_some]
      rw [nO, gu_n (show 0 < 54 by omega) (by decide)]
      simp only [Option.bind_some]
      have fa : FX x1 (wr x1 13 1 (nI (D.1 ||| 2 ^ p))) := FX.wr (by omega)
      have ga : F3 m1 (wr m1 3 0 (nI (D.1 ||| 2 ^ p))) := F3.wr
      have hB2 := hB1.fr fa ga
      rw [show (26 : Int32) = nI 26 from rfl, gr_n (show 26 < 54 by omega) (by decide), far_x hB2.2.1 hp, far_m hB2.2.1 hp]
      simp only [Option.bind_some]
      rw [gu_n (show 26 < 54 by omega) (by decide), wr_off _ _ _ (show 2 ≠ 1 by omega), wr_off _ _ _ (show 26 ≠ 0 by omega), hX1.2.1, show m1.1 3 26 = D.2.1 from hM1.2.1]
      simp only [Option.bind_some]
      rw [gr_n (show 26 < 54 by omega) (by decide), wr_same, wr_same]
      refine ⟨_, _, _, rfl, rfl, (hB2.fr (x' := wr (wr x1 13 1 (nI (D.1 ||| 2 ^ p))) 13 2 (D.2.1 + nI (hm p - mk + (mk - hm p)))) (m' := wr (wr m1 3 0 (nI (D.1 ||| 2 ^ p))) 3 26 (D.2.1 + nI (hm p - mk + (mk - hm p)))) (FX.wr (by omega)) F3.wr).rr (hX1.at13 (A := D.1 ||| 2 ^ p) (H := D.2.1 + nI (hm p - mk + (mk - hm p))) (by rw [wr_off _ _ _ (by omega), wr_same]) (by rw [wr_same]) (fun c q1 q2 => by rw [wr_ne _ _ _ (by omega), wr_ne _ _ _ (by omega)])) (hM1.at3 (by rw [wr_off _ _ _ (by omega), wr_same]) (by rw [wr_same]) (fun j q1 q2 => by rw [wr_off _ _ _ (by omega), wr_off _ _ _ (by omega)])) ⟨Nat.or_lt_two_pow hI.1 (Nat.pow_lt_pow_right (by decide) hp), hI.2⟩⟩
  · rw [e1, e2]
    exact ⟨_, _, _, rfl, rfl, hR⟩
theorem ca_send {x m : St} (h : RR x m) (a : Int32) : CA (fx_send a x) (fm_send a m) := by
  have hR := h
  obtain ⟨n, P, mk, ch, hm, kd, D, hB, hX, hM, hI⟩ := h.rb
  have hP6 := hB.2.1.1
  have hlt : D.1 < 64 := Nat.lt_of_lt_of_le hI.1 (p_le hP6)
  unfold fx_send fm_send
  rcases pers hB.2.1 a with ⟨p, hp, rfl, e1, e2⟩ | ⟨e1, e2⟩
  · rw [e1, e2]
    simp only [Option.bind_some]
    rw [if_neg (show ¬ (1 : Int32) = 0 by decide), if_neg (show ¬ (1 : Int32) = 0 by decide), hX.1, show (0 : Int32) = nI 0 from rfl, gr_n (show 0 < 54 by omega) (by decide), hM.1, has_x (by omega) (by omega)]
    simp only [Option.bind_some]
    rw [has_m (by omega) (by omega)]
    simp only [Option.bind_some]
    cases hb : D.1.testBit p with
    | false => exact ⟨_, _, _, rfl, rfl, hR⟩
    | true =>
      obtain ⟨-, hmk, -, -, h3, h4, h5, -⟩ := hB.2.1
      rw [if_pos rfl, if_neg (show ¬ (1 : Int32) = nI 0 by decide), if_neg (show ¬ (1 : Int32) = nI 0 by decide), gr_n (show p < 7 by omega) (by decide), gr_n (show p < 6 by omega) (by decide), (h5 p (by omega)).2.1, (h5 p (by omega)).2.2, h3, h4]
      simp only [Option.bind_some]
      by_cases hq : nI (hm p) = nI mk
      · rw [if_pos hq, if_pos hq]
        exact ⟨_, _, _, rfl, rfl, hR⟩
      rw [if_neg hq, if_neg hq]
      obtain ⟨x1, m1, e1, e2, hB1, hX1, hM1⟩ := hB.act hX hM hI
      have b1 := bit_1 (show p < 31 by omega)
      have hsl : sb D.1 (2 ^ p) < 1024 := by have := sb_le D.1 (2 ^ p); omega
      rw [e1, e2]
      simp only [Option.bind_some]
      rw [gr_n (show 0 < 54 by omega) (by decide), hM1.1, hX1.1, b1, n_sb (by omega)]
      simp only [Option.bind_some]
      rw [n_sb (by omega), gu_n (show 0 < 54 by omega) (by decide), wr_same, pc_x _ hsl]
      simp only [Option.bind_some]
      rw [gr_n (show 0 < 54 by omega) (by decide), wr_same]
      simp only [Option.bind_some]
      rw [pc_m _ hsl]
      refine ⟨_, _, _, rfl, rfl, (hB1.fr (x' := wr x1 13 1 (nI (sb D.1 (2 ^ p)))) (m' := wr m1 3 0 (nI (sb D.1 (2 ^ p)))) (FX.wr (by omega)) F3.wr).rr (hX1.at13 (A := sb D.1 (2 ^ p)) (H := D.2.1) (by rw [wr_same]) (by rw [wr_off _ _ _ (by omega)]; exact hX1.2.1) (fun c q1 q2 => by rw [wr_ne _ _ _ (by omega)])) (hM1.at3 (by rw [wr_same]) (by rw [wr_off _ _ _ (by omega)]; exact hM1.2.1) (fun j q1 q2 => by rw [wr_off _ _ _ (by omega)])) ⟨Nat.lt_of_le_of_lt (sb_le _ _) hI.1, hI.2⟩⟩
  · rw [e1, e2]
    exact ⟨_, _, _, rfl, rfl, hR⟩
theorem bit_P {B P j : Nat} (h : B < 2 ^ P) (hb : B.testBit j = true) : j < P := by
  rcases Nat.lt_or_ge j P with q | q
  · exact q
  · rw [Nat.testBit_lt_two_pow (Nat.lt_of_lt_of_le h (Nat.pow_le_pow_right (n := 2) (by decide) q))] at hb
    cases hb
theorem SX.of {P n mk : Nat} {ch hm kd : Nat → Nat} {D : DT} {x : St} (hP : P ≤ 6) (hI : DI P D) (hX : XD 13 D x) : SX D.1 D.2.2.1 x := by
  intro j hj hb
  have hlt : D.1 < 64 := Nat.lt_of_lt_of_le hI.1 (p_le hP)
  have h6 : j < 6 := by
    rcases Nat.lt_or_ge j 6 with q | q
    · exact q
    · obtain rfl : j = 6 := by omega
      rw [Nat.testBit_lt_two_pow (by exact hlt)] at hb
      cases hb
  rw [if_neg (show ¬ j = 6 by omega)]
  have h40 := hI.2.1 j (bit_P hI.1 hb)
  exact ⟨h40, hX.2.2.1 j h6 h40⟩
theorem SM.of {P n mk : Nat} {ch hm kd : Nat → Nat} {D : DT} {m : St} (hP : P ≤ 6) (hI : DI P D) (hM : MD 3 0 D m) : SM 0 D.1 D.2.2.1 m := by
  intro j hj hb
  have hlt : D.1 < 64 := Nat.lt_of_lt_of_le hI.1 (p_le hP)
  have h6 : j < 6 := by
    rcases Nat.lt_or_ge j 6 with q | q
    · exact q
    · obtain rfl : j = 6 := by omega
      rw [Nat.testBit_lt_two_pow (by exact hlt)] at hb
      cases hb
  have h40 := hI.2.1 j (bit_P hI.1 hb)
  exact ⟨h40, hM.2.2.1 j h6 h40⟩
theorem RP.kx {P mk : Nat} {hm kd : Nat → Nat} {x m : St} (h : RP P mk hm kd x m) : KX kd x := fun j hj => ⟨(h.2.2.2.2.2.2.2.1 j hj).1, (h.2.2.2.2.2.2.2.1 j hj).2.1⟩
theorem RP.km {P mk : Nat} {hm kd : Nat → Nat} {x m : St} (h : RP P mk hm kd x m) : KM kd m := fun j hj => ⟨(h.2.2.2.2.2.2.2.1 j hj).1, (h.2.2.2.2.2.2.2.1 j hj).2.2⟩
theorem RP.k6 {P mk : Nat} {hm kd : Nat → Nat} {x m : St} (h : RP P mk hm kd x m) : kd 6 = 0 := h.2.2.2.2.2.2.2.2
theorem may_xm {n P mk : Nat} {ch hm kd : Nat → Nat} {D : DT} {x m : St} (hB : RB n P mk ch hm kd x m) (hX : XD 13 D x) (hM : MD 3 0 D m) (hI : DI P D) {p : Nat} (hp : p < P) : fx_maySpeak 14 (x.1 13 1) (nI p) x = some (b2 (D.1.testBit p && my kd D.2.2.2 p), x) ∧ fm_may 0 (nI p) m = some (b2 (D.1.testBit p && my kd D.2.2.2 p), m) := by
  have hP6 := hB.2.1.1
  have hlt : D.1 < 64 := Nat.lt_of_lt_of_le hI.1 (p_le hP6)
  rw [hX.1]
  exact ⟨may_x (by omega) (by omega) hB.2.1.kx hB.2.1.k6 hX.2.2.2, may_m (L := 0) (b := 0) (by decide) (Or.inl rfl) (by omega) (by omega) hM.1 hB.2.1.km hB.2.1.k6 hM.2.2.2⟩
theorem ca_say {x m : St} (h : RR x m) (a : Int32) : CA (fx_say a x) (fm_say a m) := by
  have hR := h
  obtain ⟨n, P, mk, ch, hm, kd, D, hB, hX, hM, hI⟩ := h.rb
  have hP6 := hB.2.1.1
  unfold fx_say fm_say
  rcases pers hB.2.1 a with ⟨p, hp, rfl, e1, e2⟩ | ⟨e1, e2⟩
  · obtain ⟨y1, y2⟩ := may_xm hB hX hM hI hp
    rw [e1, e2]
    simp only [Option.bind_some]
    rw [if_neg (show ¬ (1 : Int32) = 0 by decide), if_neg (show ¬ (1 : Int32) = 0 by decide), y1, y2]
    simp only [Option.bind_some]
    cases hb : D.1.testBit p with
    | false => exact ⟨_, _, _, rfl, rfl, hR⟩
    | true =>
      cases hb2 : my kd D.2.2.2 p with
      | false => exact ⟨_, _, _, rfl, rfl, hR⟩
      | true =>
        rw [if_neg (show ¬ b2 (true && true) = 0 by decide), if_neg (show ¬ b2 (true && true) = 0 by decide)]
        obtain ⟨x1, m1, e1, e2, hB1, hX1, hM1⟩ := hB.act hX hM hI
        rw [e1, e2]
        simp only [Option.bind_some]
        obtain ⟨x2, u1, u2, u3, u4⟩ := speak_x (t := 14) (p := p) (by omega) hb hB1.2.1.kx (SX.of (n := n) (mk := mk) (ch := ch) (hm := hm) (kd := kd) hP6 hI hX1) hI.2.2 hX1.2.2.2
        obtain ⟨m2, v1, v2, v3, v4⟩ := sayOn_m (L := 0) (b := 0) (p := p) (by decide) (Or.inl rfl) (by omega) hb hB1.2.1.km (SM.of (n := n) (mk := mk) (ch := ch) (hm := hm) (kd := kd) hP6 hI hM1) hI.2.2 hM1.2.2.2
        rw [u1, v1]
        simp only [Option.bind_some]
        have hh : m2.1 3 26 = D.2.1 := by rw [v2.2.1 26 (by omega)]; exact hM1.2.1
        have hx : x2.1 13 2 = D.2.1 := by rw [u2.1 13 (by omega) (by omega)]; exact hX1.2.1
        rw [show (26 : Int32) = nI 26 from rfl, show (22 : Int32) = nI 22 from rfl, gr_n (show 26 < 54 by omega) (by decide), hh, hx]
        simp only [Option.bind_some]
        rw [gu_n (show 26 < 54 by omega) (by decide)]
        simp only [Option.bind_some]
        rw [gr_n (show 22 < 54 by omega) (by decide), wr_off _ _ _ (show 22 ≠ 26 by omega), wr_ne _ _ _ (show 14 ≠ 13 by omega), u3.1, show m2.1 3 22 = _ from v3.1]
        refine ⟨_, _, _, rfl, rfl, (hB1.fr (x' := wr x2 13 2 (D.2.1 + 1)) (m' := wr m2 3 26 (D.2.1 + 1)) (u2.fx.tr (FX.wr (by omega))) (v2.f3.tr F3.wr)).rr (D := (D.1, D.2.1 + 1, D.2.2.1, wk kd D.2.2.1 D.2.2.2 p)) ⟨?_, wr_same _ _ _ _, fun j hj h40 => ?_, ?_⟩ ⟨?_, wr_same _ _ _ _, fun j hj h40 => ?_, ?_⟩ ⟨hI.1, hI.2.1, v4⟩⟩
        · rw [wr_off _ _ _ (by omega), u2.1 13 (by omega) (by omega)]; exact hX1.1
        · rw [wr_ne _ _ _ (by omega), u2.1 16 (by omega) (by omega)]; exact hX1.2.2.1 j hj h40
        · exact u3.fr (wr_ne _ _ _ (by omega)) (wr_ne _ _ _ (by omega))
        · rw [wr_off _ _ _ (by omega), v2.2.1 0 (by omega)]; exact hM1.1
        · rw [wr_off _ _ _ (by omega), v2.2.1 _ (by omega), wr_off _ _ _ (by omega), v2.2.1 _ (by omega)]; exact hM1.2.2.1 j hj h40
        · exact v3.to (fun j q1 q2 => wr_off _ _ _ (by omega))
  · rw [e1, e2]
    exact ⟨_, _, _, rfl, rfl, hR⟩
