/-! the acts: both sides alike -/
def RB (n P mk : Nat) (ch hm kd : Nat → Nat) (x m : St) : Prop := RT n ch x m ∧ RP P mk hm kd x m ∧ RK P x m ∧ RA P x m ∧ x.2 = m.2
/-- today moved alone -/
def FX (x x' : St) : Prop := (∀ d, d < 13 ∨ 17 ≤ d → x'.1 d = x.1 d) ∧ x'.2 = x.2
def F3 (m m' : St) : Prop := (∀ d, d ≠ 3 → m'.1 d = m.1 d) ∧ m'.2 = m.2
section RBs
variable {n P mk : Nat} {ch hm kd : Nat → Nat} {D : DT} {x m x' m' : St}
theorem RB.fr (h : RB n P mk ch hm kd x m) (f : FX x x') (g : F3 m m') : RB n P mk ch hm kd x' m' := by
  obtain ⟨h1, h2, h3, h4, h5⟩ := h
  have fx : ∀ d, d < 13 ∨ 17 ≤ d → x'.1 d = x.1 d := f.1
  have gm : ∀ d, d ≠ 3 → m'.1 d = m.1 d := g.1
  exact ⟨h1.fr (by rw [fx 0 (by omega)]) (fx 1 (by omega)) (by rw [gm 0 (by omega)]) (gm 5 (by omega)), h2.fr (by rw [fx 0 (by omega)]) (by rw [fx 0 (by omega)]) (fx 2 (by omega)) (fx 3 (by omega)) (by rw [gm 0 (by omega)]) (by rw [gm 0 (by omega)]) (gm 1 (by omega)) (gm 2 (by omega)), h3.fr (fun d q => fx d (by omega)) (gm 10 (by omega)) (gm 11 (by omega)), h4.fr (fun d q1 q2 => fx d (by omega)) (by rw [fx 0 (by omega)]) (by rw [fx 0 (by omega)]) (gm 6 (by omega)) (by rw [gm 0 (by omega)]) (by rw [gm 0 (by omega)]), (f.2.trans h5).trans g.2.symm⟩
theorem RB.rr (h : RB n P mk ch hm kd x m) (hX : XD 13 D x) (hM : MD 3 0 D m) (hI : DI P D) : RR x m := ⟨n, P, mk, ch, hm, kd, D, h.1, h.2.1, hX, hM, hI, h.2.2.1, h.2.2.2.1, h.2.2.2.2⟩
theorem RB.act (h : RB n P mk ch hm kd x m) (hX : XD 13 D x) (hM : MD 3 0 D m) (hI : DI P D) : ∃ x1 m1, fx_remember x = some x1 ∧ fm_keepAct m = some m1 ∧ RB n P mk ch hm kd x1 m1 ∧ XD 13 D x1 ∧ MD 3 0 D m1 := by
  obtain ⟨h1, h2, h3, h4, h5⟩ := h
  obtain ⟨x1, m1, e1, e2, r, a1, a2, a3, b1, b2, b3⟩ := ring h4 hX hM hI
  refine ⟨x1, m1, e1, e2, ⟨h1.fr (a2 1 (by omega) (by omega)) (a1 1 (by omega) (by omega)) (b2 9 (by omega) (by omega)) (b1 5 (by omega) (by omega)), h2.fr (a2 3 (by omega) (by omega)) (a2 2 (by omega) (by omega)) (a1 2 (by omega) (by omega)) (a1 3 (by omega) (by omega)) (b2 0 (by omega) (by omega)) (b2 1 (by omega) (by omega)) (b1 1 (by omega) (by omega)) (b1 2 (by omega) (by omega)), h3.fr (fun d q => a1 d (by omega) (by omega)) (b1 10 (by omega) (by omega)) (b1 11 (by omega) (by omega)), r, (a3.trans h5).trans b3.symm⟩, hX.fr (fun c q1 q2 => a1 c (by omega) (by omega)), hM.fr (fun j _ => by rw [b1 3 (by omega) (by omega)])⟩
end RBs
theorem RR.rb {x m : St} (h : RR x m) : ∃ (n P mk : Nat) (ch hm kd : Nat → Nat) (D : DT), RB n P mk ch hm kd x m ∧ XD 13 D x ∧ MD 3 0 D m ∧ DI P D := by
  obtain ⟨n, P, mk, ch, hm, kd, D, hT, hP, hX, hM, hI, hK, hA, hz⟩ := h
  exact ⟨n, P, mk, ch, hm, kd, D, ⟨hT, hP, hK, hA, hz⟩, hX, hM, hI⟩
theorem i2c_n : ∀ c, c < 256 → i2c (nI c) = nI c := by decide +kernel
theorem ca_write {x m : St} (h : RR x m) (a : Int32) : CA (fx_write a x) (fm_write a m) := by
  have hR := h
  obtain ⟨n, P, mk, ch, hm, kd, D, ⟨⟨hn, x1, m9, hc⟩, hP, hK, hA, hz⟩, hX, hM, hI⟩ := h.rb
  unfold fx_write fm_write
  by_cases h0 : a < 0
  · rw [if_pos h0, in_f (a := a.toInt64) (b := 0) (c := 255) (lo := 0) (hi := 255) rfl rfl rfl (Or.inl h0)]
    exact ⟨_, _, _, rfl, rfl, hR⟩
  rw [if_neg h0]
  by_cases h1 : a ≤ 255
  · rw [if_pos h1, in_t (a := a.toInt64) (b := 0) (c := 255) (lo := 0) (hi := 255) rfl rfl rfl (by rw [le_lt]; exact h0) h1]
    obtain ⟨c, hc2, rfl⟩ := nI_of2 (M := 255) (n := 255) rfl h0 h1
    simp only [Option.bind_some]
    rw [x1, m9, if_neg (nI_pos (by omega)), if_neg (show ¬ (1 : Int32) = 0 by decide)]
    by_cases hn40 : n = 40
    · subst hn40
      rw [if_neg (show ¬ nI 40 < (40 : Int32) by decide), if_pos (show nI 40 = (40 : Int32) from rfl)]
      exact ⟨_, _, _, rfl, rfl, hR⟩
    · rw [if_pos (show nI n < (40 : Int32) from nI_lt (b := 40) (by omega) (by decide)), if_neg (fun (q : nI n = (40 : Int32)) => hn40 ((nI_eq (b := 40) (by omega) (by decide)).mp q)), gu_n (show n < 40 by omega) (by decide), gu_n (show n < 40 by omega) (by decide)]
      simp only [Option.bind_some]
      have e1 : (wr x 1 n (i2c (nI c))).1 0 1 + 1 = nI (n + 1) := by rw [wr_ne _ _ _ (by omega), x1, nI_1]
      have e2 : (wr m 5 n (nI c)).1 0 9 + 1 = nI (n + 1) := by rw [wr_ne _ _ _ (by omega), m9, nI_1]
      rw [e1, e2]
      refine ⟨nI (n + 1), wr (wr x 1 n (i2c (nI c))) 0 1 (nI (n + 1)), wr (wr m 5 n (nI c)) 0 9 (nI (n + 1)), by rw [wr_same], by rw [wr_same], n + 1, P, mk, fun j => if j = n then c else ch j, hm, kd, D, ⟨by omega, wr_same _ _ _ _, wr_same _ _ _ _, fun j hj => ?_⟩, ?_, ?_, ?_, hI, ?_, ?_, hz⟩
      · rw [wr_ne _ _ _ (show (1 : Nat) ≠ 0 by omega), wr_ne _ _ _ (show (5 : Nat) ≠ 0 by omega)]
        by_cases hj2 : j = n
        · subst hj2
          rw [wr_same, wr_same, i2c_n c (by omega)]
          dsimp only
          rw [if_pos rfl]
          exact ⟨by omega, rfl, rfl⟩
        · rw [wr_off _ _ _ hj2, wr_off _ _ _ hj2]
          dsimp only
          rw [if_neg hj2]
          exact hc j (by omega)
      · exact hP.fr (by rw [wr_off _ _ _ (by omega), wr_ne _ _ _ (by omega)]) (by rw [wr_off _ _ _ (by omega), wr_ne _ _ _ (by omega)]) (by rw [wr_ne _ _ _ (by omega), wr_ne _ _ _ (by omega)]) (by rw [wr_ne _ _ _ (by omega), wr_ne _ _ _ (by omega)]) (by rw [wr_off _ _ _ (by omega), wr_ne _ _ _ (by omega)]) (by rw [wr_off _ _ _ (by omega), wr_ne _ _ _ (by omega)]) (by rw [wr_ne _ _ _ (by omega), wr_ne _ _ _ (by omega)]) (by rw [wr_ne _ _ _ (by omega), wr_ne _ _ _ (by omega)])
      · exact hX.fr (fun c q1 q2 => by rw [wr_ne _ _ _ (by omega), wr_ne _ _ _ (by omega)])
      · exact hM.fr (fun j _ => by rw [wr_ne _ _ _ (by omega), wr_ne _ _ _ (by omega)])
      · exact hK.fr (fun d q => by rw [wr_ne _ _ _ (by omega), wr_ne _ _ _ (by omega)]) (by rw [wr_ne _ _ _ (by omega), wr_ne _ _ _ (by omega)]) (by rw [wr_ne _ _ _ (by omega), wr_ne _ _ _ (by omega)])
      · exact hA.fr (fun d q1 q2 => by rw [wr_ne _ _ _ (by omega), wr_ne _ _ _ (by omega)]) (by rw [wr_off _ _ _ (by omega), wr_ne _ _ _ (by omega)]) (by rw [wr_off _ _ _ (by omega), wr_ne _ _ _ (by omega)]) (by rw [wr_ne _ _ _ (by omega), wr_ne _ _ _ (by omega)]) (by rw [wr_off _ _ _ (by omega), wr_ne _ _ _ (by omega)]) (by rw [wr_off _ _ _ (by omega), wr_ne _ _ _ (by omega)])
  · rw [if_neg h1, in_f (a := a.toInt64) (b := 0) (c := 255) (lo := 0) (hi := 255) rfl rfl rfl (Or.inr (by rw [lt_le]; exact h1))]
    exact ⟨_, _, _, rfl, rfl, hR⟩
theorem ca_wipe {x m : St} (h : RR x m) : CA (fx_wipe x) (fm_wipe m) := by
  obtain ⟨n, P, mk, ch, hm, kd, D, ⟨⟨hn, x1, m9, hc⟩, hP, hK, hA, hz⟩, hX, hM, hI⟩ := h.rb
  unfold fx_wipe fm_wipe
  dsimp only [lb]
  rw [x1, m9]
  refine ⟨nI n, _, _, rfl, rfl, 0, P, mk, ch, hm, kd, D, ⟨by omega, wr_same _ _ _ _, wr_same _ _ _ _, fun j hj => absurd hj (by omega)⟩, ?_, ?_, ?_, hI, ?_, ?_, hz⟩
  · exact hP.fr (by rw [wr_off _ _ _ (by omega)]) (by rw [wr_off _ _ _ (by omega)]) (by rw [wr_ne _ _ _ (by omega)]) (by rw [wr_ne _ _ _ (by omega)]) (by rw [wr_off _ _ _ (by omega)]) (by rw [wr_off _ _ _ (by omega)]) (by rw [wr_ne _ _ _ (by omega)]) (by rw [wr_ne _ _ _ (by omega)])
  · exact hX.fr (fun c q1 q2 => by rw [wr_ne _ _ _ (by omega)])
  · exact hM.fr (fun j _ => by rw [wr_ne _ _ _ (by omega)])
  · exact hK.fr (fun d q => by rw [wr_ne _ _ _ (by omega)]) (by rw [wr_ne _ _ _ (by omega)]) (by rw [wr_ne _ _ _ (by omega)])
  · exact hA.fr (fun d q1 q2 => by rw [wr_ne _ _ _ (by omega)]) (by rw [wr_off _ _ _ (by omega)]) (by rw [wr_off _ _ _ (by omega)]) (by rw [wr_ne _ _ _ (by omega)]) (by rw [wr_off _ _ _ (by omega)]) (by rw [wr_off _ _ _ (by omega)])
theorem ca_seed {x m : St} (h : RR x m) (a : Int64) : CA (fx_seed a x) (fm_seed a m) := by
  obtain ⟨n, P, mk, ch, hm, kd, D, ⟨hT, hP, hK, hA, hz⟩, hX, hM, hI⟩ := h.rb
  unfold fx_seed fm_seed
  dsimp only [lb]
  rw [hz]
  exact ⟨m.2, _, _, rfl, rfl, n, P, mk, ch, hm, kd, D, hT, hP, hX, hM, hI, hK, hA, rfl⟩
theorem far_e : ∀ a, a < 10 → ∀ b, b < 10 → iabs (nI a - nI b) = nI (a - b + (b - a)) ∧ (if nI b ≤ nI a then nI a - nI b else nI b - nI a) = nI (a - b + (b - a)) := by decide +kernel
theorem far_x {P mk : Nat} {hm kd : Nat → Nat} {x m : St} (h : RP P mk hm kd x m) {p : Nat} (hp : p < P) : fx_hoursFrom (nI p) x = some (nI (hm p - mk + (mk - hm p)), x) := by
  obtain ⟨hP, hmk, h1, h2, h3, h4, h5, -⟩ := h
  unfold fx_hoursFrom fx_isThere
  rw [if_neg (nI_pos (by omega)), h1, if_neg (nI_ge hp (by omega)), if_neg (show ¬ (6 : Int32) ≤ nI p from nI_ge (b := 6) (by omega) (by decide))]
  simp only [Option.bind_some]
  rw [if_neg (show ¬ (1 : Int32) = 0 by decide), gr_n (show p < 7 by omega) (by decide), (h5 p (by omega)).2.1, h3]
  simp only [Option.bind_some]
  rw [(far_e _ (by have := (h5 p (by omega)).1; omega) _ (by omega)).1]
theorem far_m {P mk : Nat} {hm kd : Nat → Nat} {x m : St} (h : RP P mk hm kd x m) {p : Nat} (hp : p < P) : fm_far (nI p) m = some (nI (hm p - mk + (mk - hm p)), m) := by
  obtain ⟨hP, hmk, h1, h2, h3, h4, h5, -⟩ := h
  have h9 := (h5 p (by omega)).1
  unfold fm_far
  rw [gr_n (show p < 6 by omega) (by decide), (h5 p (by omega)).2.2, h4]
  simp only [Option.bind_some]
  have := (far_e (hm p) (by omega) mk (by omega)).2
  rw [← this]
  split <;> rfl
