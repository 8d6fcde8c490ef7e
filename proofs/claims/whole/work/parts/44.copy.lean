/-! talks and days taken over -/
theorem become26 (t s : Nat) (h : s + 1 ≠ t + 1) : ∀ (r fu i : Nat) (w : St), i + r = 7 → r < fu → ∃ w', ft_become_26 fu t s (nI i) w = some w' ∧ (∀ d, d ≠ t + 1 → w'.1 d = w.1 d) ∧ w'.2 = w.2 ∧ (∀ j, i ≤ j → j < 7 → w'.1 (t + 1) j = w.1 (s + 1) j) ∧ ∀ j, j < i → w'.1 (t + 1) j = w.1 (t + 1) j := by
  intro r
  induction r with
  | zero =>
    intro fu i w h1 hf
    obtain ⟨fu, rfl⟩ : ∃ f, fu = f + 1 := ⟨fu - 1, by omega⟩
    obtain rfl : i = 7 := by omega
    rw [ft_become_26, if_pos (show (7 : Int32) ≤ nI 7 by decide)]
    exact ⟨w, rfl, fun _ _ => rfl, rfl, fun j q1 q2 => absurd q2 (by omega), fun _ _ => rfl⟩
  | succ r ih =>
    intro fu i w h1 hf
    obtain ⟨fu, rfl⟩ : ∃ f, fu = f + 1 := ⟨fu - 1, by omega⟩
    have hn : ¬ (7 : Int32) ≤ nI i := nI_ge (b := 7) (show i < 7 by omega) (by decide)
    rw [ft_become_26, if_neg hn, if_neg hn, gr_n (show i < 7 by omega) (by decide)]
    simp only [Option.bind_some]
    rw [gu_n (show i < 7 by omega) (by decide)]
    simp only [Option.bind_some]
    rw [nI_1]
    obtain ⟨w', e1, e2, e3, e4, e5⟩ := ih fu (i + 1) (wr w (t + 1) i (w.1 (s + 1) i)) (by omega) (by omega)
    refine ⟨w', e1, fun d hd => (e2 d hd).trans (wr_ne _ _ _ hd), e3, fun j q1 q2 => ?_, fun j q => ?_⟩
    · rcases Nat.lt_or_ge i j with q | q
      · rw [e4 j (by omega) q2, wr_ne _ _ _ h]
      · obtain rfl : j = i := by omega
        rw [e5 j (by omega), wr_same]
    · rw [e5 j (by omega), wr_off _ _ _ (by omega)]
theorem become_t {t s : Nat} {w : St} (h1 : s ≠ t) (h2 : s ≠ t + 1) (h3 : s + 1 ≠ t) : ∃ w', ft_become t s w = some w' ∧ FT t w w' ∧ w'.1 t 0 = w.1 s 0 ∧ w'.1 t 1 = w.1 s 1 ∧ w'.1 t 2 = w.1 s 2 ∧ ∀ j, j < 7 → w'.1 (t + 1) j = w.1 (s + 1) j := by
  unfold ft_become
  obtain ⟨w', e1, e2, e3, e4, e5⟩ := become26 t s (by omega) 7 4096 0 (wr (wr (wr w t 0 (w.1 s 0)) t 1 ((wr w t 0 (w.1 s 0)).1 s 1)) t 2 ((wr (wr w t 0 (w.1 s 0)) t 1 ((wr w t 0 (w.1 s 0)).1 s 1)).1 s 2)) (by omega) (by omega)
  refine ⟨w', e1, ⟨fun d q1 q2 => ?_, e3⟩, ?_, ?_, ?_, fun j q => ?_⟩
  · rw [e2 d q2, wr_ne _ _ _ q1, wr_ne _ _ _ q1, wr_ne _ _ _ q1]
  · rw [e2 t (by omega), wr_off _ _ _ (by omega), wr_off _ _ _ (by omega), wr_same]
  · rw [e2 t (by omega), wr_off _ _ _ (by omega), wr_same, wr_ne _ _ _ h1]
  · rw [e2 t (by omega), wr_same, wr_ne _ _ _ h1, wr_ne _ _ _ h1]
  · rw [e4 j (by omega) q, wr_ne _ _ _ h3, wr_ne _ _ _ h3, wr_ne _ _ _ h3]
theorem XT.to {t s : Nat} {a : TK} {w w' : St} (h : XT s a w) (h0 : w'.1 t 0 = w.1 s 0) (h1 : w'.1 t 1 = w.1 s 1) (h2 : w'.1 t 2 = w.1 s 2) (h3 : ∀ j, j < 7 → w'.1 (t + 1) j = w.1 (s + 1) j) : XT t a w' := ⟨h0.trans h.1, h1.trans h.2.1, h2.trans h.2.2.1, fun j hj => (h3 j (by omega)).trans (h.2.2.2 j hj)⟩
theorem becomeD29 (t s : Nat) (h : s + 3 ≠ t + 3) : ∀ (r fu i : Nat) (w : St), i + r = 6 → r < fu → ∃ w', fd_become_29 fu t s (nI i) w = some w' ∧ (∀ d, d ≠ t + 3 → w'.1 d = w.1 d) ∧ w'.2 = w.2 ∧ (∀ j, i ≤ j → j < 6 → w'.1 (t + 3) j = w.1 (s + 3) j) ∧ ∀ j, j < i → w'.1 (t + 3) j = w.1 (t + 3) j := by
  intro r
  induction r with
  | zero =>
    intro fu i w h1 hf
    obtain ⟨fu, rfl⟩ : ∃ f, fu = f + 1 := ⟨fu - 1, by omega⟩
    obtain rfl : i = 6 := by omega
    rw [fd_become_29, if_pos (show (6 : Int32) ≤ nI 6 by decide)]
    exact ⟨w, rfl, fun _ _ => rfl, rfl, fun j q1 q2 => absurd q2 (by omega), fun _ _ => rfl⟩
  | succ r ih =>
    intro fu i w h1 hf
    obtain ⟨fu, rfl⟩ : ∃ f, fu = f + 1 := ⟨fu - 1, by omega⟩
    have hn : ¬ (6 : Int32) ≤ nI i := nI_ge (b := 6) (show i < 6 by omega) (by decide)
    rw [fd_become_29, if_neg hn, if_neg hn, gr_n (show i < 6 by omega) (by decide)]
    simp only [Option.bind_some]
    rw [gu_n (show i < 6 by omega) (by decide)]
    simp only [Option.bind_some]
    rw [nI_1]
    obtain ⟨w', e1, e2, e3, e4, e5⟩ := ih fu (i + 1) (wr w (t + 3) i (w.1 (s + 3) i)) (by omega) (by omega)
    refine ⟨w', e1, fun d hd => (e2 d hd).trans (wr_ne _ _ _ hd), e3, fun j q1 q2 => ?_, fun j q => ?_⟩
    · rcases Nat.lt_or_ge i j with q | q
      · rw [e4 j (by omega) q2, wr_ne _ _ _ h]
      · obtain rfl : j = i := by omega
        rw [e5 j (by omega), wr_same]
    · rw [e5 j (by omega), wr_off _ _ _ (by omega)]
/-- only the day at d moved -/
def FD (d : Nat) (w w' : St) : Prop := (∀ c, c < d ∨ d + 4 ≤ c → w'.1 c = w.1 c) ∧ w'.2 = w.2
theorem become_d {d e : Nat} {D : DT} {w : St} (h : d + 4 ≤ e ∨ e + 4 ≤ d) (hX : XD e D w) : ∃ w', fd_become d e w = some w' ∧ FD d w w' ∧ XD d D w' := by
  obtain ⟨x1, x2, x3, x4⟩ := hX
  unfold fd_become
  obtain ⟨w1, e1, f1, g0, g1, g2, g3⟩ := become_t (t := d + 1) (s := e + 1) (w := w) (by omega) (by omega) (by omega)
  rw [e1]
  simp only [Option.bind_some]
  obtain ⟨w', e2, e3, e4, e5, e6⟩ := becomeD29 d e (by omega) 6 4096 0 (wr (wr w1 d 1 (w1.1 e 1)) d 2 ((wr w1 d 1 (w1.1 e 1)).1 e 2)) (by omega) (by omega)
  have hw : ∀ c, c ≠ d → c ≠ d + 3 → w'.1 c = w1.1 c := fun c q1 q2 => by rw [e3 c q2, wr_ne _ _ _ q1, wr_ne _ _ _ q1]
  have he : ∀ c, (c < d + 1 ∨ d + 3 ≤ c) → w1.1 c = w.1 c := fun c q => f1.1 c (by omega) (by omega)
  refine ⟨w', e2, ⟨fun c q => by rw [hw c (by omega) (by omega), he c (by omega)], e4.trans f1.2⟩, ?_, ?_, ?_, ?_⟩
  · rw [e3 d (by omega), wr_off _ _ _ (by omega), wr_same, he e (by omega)]; exact x1
  · rw [e3 d (by omega), wr_same, wr_ne _ _ _ (by omega), he e (by omega)]; exact x2
  · intro j hj h40
    rw [e5 j (by omega) hj, wr_ne _ _ _ (by omega), wr_ne _ _ _ (by omega), he _ (by omega)]
    exact x3 j hj h40
  · refine x4.to ?_ ?_ ?_ (fun j hj => ?_)
    · rw [hw _ (by omega) (by omega)]; exact g0
    · rw [hw _ (by omega) (by omega)]; exact g1
    · rw [hw _ (by omega) (by omega)]; exact g2
    · rw [hw _ (by omega) (by omega)]; exact g3 j hj
theorem XD.fr {d : Nat} {D : DT} {w w' : St} (h : XD d D w) (hf : ∀ c, d ≤ c → c < d + 4 → w'.1 c = w.1 c) : XD d D w' := by
  obtain ⟨x1, x2, x3, x4, x5, x6, x7⟩ := h
  refine ⟨?_, ?_, ?_, ?_, ?_, ?_, ?_⟩
  · rw [hf d (by omega) (by omega)]; exact x1
  · rw [hf d (by omega) (by omega)]; exact x2
  · intro j hj h40; rw [hf _ (by omega) (by omega)]; exact x3 j hj h40
  · rw [hf _ (by omega) (by omega)]; exact x4
  · rw [hf _ (by omega) (by omega)]; exact x5
  · rw [hf _ (by omega) (by omega)]; exact x6
  · intro j hj; rw [hf _ (by omega) (by omega)]; exact x7 j hj
theorem XT.fr {t : Nat} {a : TK} {w w' : St} (h : XT t a w) (h0 : w'.1 t = w.1 t) (h1 : w'.1 (t + 1) = w.1 (t + 1)) : XT t a w' := by
  unfold XT at h ⊢
  rw [h0, h1]
  exact h
theorem MT.to {k l b c : Nat} {a : TK} {w w' : St} (h : MT k b a w) (hc : ∀ j, 15 ≤ j → j < 26 → w'.1 l (c + j) = w.1 k (b + j)) : MT l c a w' := by
  obtain ⟨m0, m1, m2, m3⟩ := h
  refine ⟨?_, ?_, ?_, ?_⟩
  · rw [hc 22 (by omega) (by omega)]; exact m0
  · rw [hc 23 (by omega) (by omega)]; exact m1
  · unfold MS at m2 ⊢
    cases h : a.2.2.1 with
    | none => rw [h] at m2; show w'.1 l (c + 24) = -9; rw [hc 24 (by omega) (by omega)]; exact m2
    | some z => rw [h] at m2; show w'.1 l (c + 24) = _ ∧ w'.1 l (c + 25) = _; rw [hc 24 (by omega) (by omega), hc 25 (by omega) (by omega)]; exact m2
  · intro j hj
    rw [Nat.add_assoc, hc (15 + j) (by omega) (by omega), ← Nat.add_assoc]
    exact m3 j hj
theorem MD.to {k l b c : Nat} {D : DT} {w w' : St} (h : MD k b D w) (hc : ∀ j, j < 27 → w'.1 l (c + j) = w.1 k (b + j)) : MD l c D w' := by
  obtain ⟨m1, m2, m3, m4⟩ := h
  refine ⟨?_, ?_, ?_, m4.to (fun j _ q => hc j (by omega))⟩
  · have := hc 0 (by omega); rw [Nat.add_zero, Nat.add_zero] at this; rw [this]; exact m1
  · rw [hc 26 (by omega)]; exact m2
  · intro j hj h40
    rw [Nat.add_assoc, hc (1 + j) (by omega), Nat.add_assoc, hc (8 + j) (by omega), ← Nat.add_assoc, ← Nat.add_assoc]
    exact m3 j hj h40
theorem keepAct2 (c : Nat) (hc : c < 14) : ∀ (r fu i : Nat) (w : St), i + r = 27 → r < fu → w.1 0 13 = nI c → ∃ w', fm_keepAct_2 fu (nI i) w = fm_keepAct_2 1 (nI 27) w' ∧ (∀ d, d ≠ 6 → w'.1 d = w.1 d) ∧ w'.2 = w.2 ∧ (∀ j, i ≤ j → j < 27 → w'.1 6 (27 * c + j) = w.1 3 j) ∧ ∀ k, k < 27 * c + i ∨ 27 * c + 27 ≤ k → w'.1 6 k = w.1 6 k := by
  intro r
  induction r with
  | zero =>
    intro fu i w h1 hf h0
    obtain ⟨fu, rfl⟩ : ∃ f, fu = f + 1 := ⟨fu - 1, by omega⟩
    obtain rfl : i = 27 := by omega
    refine ⟨w, ?_, fun _ _ => rfl, rfl, fun j q1 q2 => absurd q2 (by omega), fun _ _ => rfl⟩
    rw [fm_keepAct_2, fm_keepAct_2, if_pos (show (27 : Int32) ≤ nI 27 by decide), if_pos (show (27 : Int32) ≤ nI 27 by decide)]
  | succ r ih =>
    intro fu i w h1 hf h0
    obtain ⟨fu, rfl⟩ : ∃ f, fu = f + 1 := ⟨fu - 1, by omega⟩
    have hn : ¬ (27 : Int32) ≤ nI i := nI_ge (b := 27) (show i < 27 by omega) (by decide)
    rw [fm_keepAct_2, if_neg hn, gr_n (show i < 54 by omega) (by decide)]
    simp only [Option.bind_some]
    rw [h0, show (27 : Int32) * nI c + nI i = nI (27 * c + i) from by rw [show (27 : Int32) = nI 27 from rfl, pk_mul, nI_add], gu_n (show 27 * c + i < 378 by omega) (by decide)]
    simp only [Option.bind_some]
    rw [nI_1]
    obtain ⟨w', e1, e2, e3, e4, e5⟩ := ih fu (i + 1) (wr w 6 (27 * c + i) (w.1 3 i)) (by omega) (by omega) (by rw [wr_ne _ _ _ (by omega)]; exact h0)
    refine ⟨w', e1, fun d hd => (e2 d hd).trans (wr_ne _ _ _ hd), e3, fun j q1 q2 => ?_, fun k q => ?_⟩
    · rcases Nat.lt_or_ge i j with q | q
      · rw [e4 j (by omega) q2, wr_ne _ _ _ (by omega)]
      · obtain rfl : j = i := by omega
        rw [e5 _ (by omega), wr_same]
    · rw [e5 k (by omega), wr_off _ _ _ (by omega)]
theorem m27 (c i : Nat) : (27 : Int32) * nI c + nI i = nI (27 * c + i) := by rw [show (27 : Int32) = nI 27 from rfl, pk_mul, nI_add]
theorem undo36 (c : Nat) (hc : c < 14) : ∀ (r fu i : Nat) (w : St), i + r = 27 → r < fu → w.1 0 13 = nI c → ∃ w', fm_undo_36 fu (nI i) w = fm_undo_36 1 (nI 27) w' ∧ (∀ d, d ≠ 3 → w'.1 d = w.1 d) ∧ w'.2 = w.2 ∧ (∀ j, i ≤ j → j < 27 → w'.1 3 j = w.1 6 (27 * c + j)) ∧ ∀ k, k < i ∨ 27 ≤ k → w'.1 3 k = w.1 3 k := by
  intro r
  induction r with
  | zero =>
    intro fu i w h1 hf h0
    obtain ⟨fu, rfl⟩ : ∃ f, fu = f + 1 := ⟨fu - 1, by omega⟩
    obtain rfl : i = 27 := by omega
    refine ⟨w, ?_, fun _ _ => rfl, rfl, fun j q1 q2 => absurd q2 (by omega), fun _ _ => rfl⟩
    rw [fm_undo_36, fm_undo_36, if_pos (show (27 : Int32) ≤ nI 27 by decide), if_pos (show (27 : Int32) ≤ nI 27 by decide)]
  | succ r ih =>
    intro fu i w h1 hf h0
    obtain ⟨fu, rfl⟩ : ∃ f, fu = f + 1 := ⟨fu - 1, by omega⟩
    have hn : ¬ (27 : Int32) ≤ nI i := nI_ge (b := 27) (show i < 27 by omega) (by decide)
    rw [fm_undo_36, if_neg hn, h0, m27, gr_n (show 27 * c + i < 378 by omega) (by decide)]
    simp only [Option.bind_some]
    rw [gu_n (show i < 54 by omega) (by decide)]
    simp only [Option.bind_some]
    rw [nI_1]
    obtain ⟨w', e1, e2, e3, e4, e5⟩ := ih fu (i + 1) (wr w 3 i (w.1 6 (27 * c + i))) (by omega) (by omega) (by rw [wr_ne _ _ _ (by omega)]; exact h0)
    refine ⟨w', e1, fun d hd => (e2 d hd).trans (wr_ne _ _ _ hd), e3, fun j q1 q2 => ?_, fun k q => ?_⟩
    · rcases Nat.lt_or_ge i j with q | q
      · rw [e4 j (by omega) q2, wr_ne _ _ _ (by omega)]
      · obtain rfl : j = i := by omega
        rw [e5 _ (by omega), wr_same]
    · rw [e5 k (by omega), wr_off _ _ _ (by omega)]
theorem layTrial2 (v : Int32) : ∀ (r fu i : Nat) (w : St), i + r = 27 → r < fu → ∃ w', fm_layTrial_2 fu v (nI i) w = fm_layTrial_2 1 v (nI 27) w' ∧ (∀ d, d ≠ 3 → w'.1 d = w.1 d) ∧ w'.2 = w.2 ∧ (∀ j, i ≤ j → j < 27 → w'.1 3 (27 + j) = w.1 3 j) ∧ ∀ k, k < 27 + i ∨ 54 ≤ k → w'.1 3 k = w.1 3 k := by
  intro r
  induction r with
  | zero =>
    intro fu i w h1 hf
    obtain ⟨fu, rfl⟩ : ∃ f, fu = f + 1 := ⟨fu - 1, by omega⟩
    obtain rfl : i = 27 := by omega
    refine ⟨w, ?_, fun _ _ => rfl, rfl, fun j q1 q2 => absurd q2 (by omega), fun _ _ => rfl⟩
    rw [fm_layTrial_2, fm_layTrial_2, if_pos (show (27 : Int32) ≤ nI 27 by decide), if_pos (show (27 : Int32) ≤ nI 27 by decide)]
  | succ r ih =>
    intro fu i w h1 hf
    obtain ⟨fu, rfl⟩ : ∃ f, fu = f + 1 := ⟨fu - 1, by omega⟩
    have hn : ¬ (27 : Int32) ≤ nI i := nI_ge (b := 27) (show i < 27 by omega) (by decide)
    rw [fm_layTrial_2, if_neg hn, gr_n (show i < 54 by omega) (by decide)]
    simp only [Option.bind_some]
    rw [show (27 : Int32) + nI i = nI (27 + i) from nI_add 27 i, gu_n (show 27 + i < 54 by omega) (by decide)]
    simp only [Option.bind_some]
    rw [nI_1]
    obtain ⟨w', e1, e2, e3, e4, e5⟩ := ih fu (i + 1) (wr w 3 (27 + i) (w.1 3 i)) (by omega) (by omega)
    refine ⟨w', e1, fun d hd => (e2 d hd).trans (wr_ne _ _ _ hd), e3, fun j q1 q2 => ?_, fun k q => ?_⟩
    · rcases Nat.lt_or_ge i j with q | q
      · rw [e4 j (by omega) q2, wr_off _ _ _ (by omega)]
      · obtain rfl : j = i := by omega
        rw [e5 _ (by omega), wr_same]
    · rw [e5 k (by omega), wr_off _ _ _ (by omega)]
theorem keep21 (c : Nat) (hc : c < 2) : ∀ (r fu i : Nat) (w : St), i + r = 27 → r < fu → ∃ w', fm_keep_21 fu (nI c) (nI i) w = fm_keep_21 1 (nI c) (nI 27) w' ∧ (∀ d, d ≠ 11 → w'.1 d = w.1 d) ∧ w'.2 = w.2 ∧ (∀ j, i ≤ j → j < 27 → w'.1 11 (27 * c + j) = w.1 3 j) ∧ ∀ k, k < 27 * c + i ∨ 27 * c + 27 ≤ k → w'.1 11 k = w.1 11 k := by
  intro r
  induction r with
  | zero =>
    intro fu i w h1 hf
    obtain ⟨fu, rfl⟩ : ∃ f, fu = f + 1 := ⟨fu - 1, by omega⟩
    obtain rfl : i = 27 := by omega
    refine ⟨w, ?_, fun _ _ => rfl, rfl, fun j q1 q2 => absurd q2 (by omega), fun _ _ => rfl⟩
    rw [fm_keep_21, fm_keep_21, if_pos (show (27 : Int32) ≤ nI 27 by decide), if_pos (show (27 : Int32) ≤ nI 27 by decide)]
  | succ r ih =>
    intro fu i w h1 hf
    obtain ⟨fu, rfl⟩ : ∃ f, fu = f + 1 := ⟨fu - 1, by omega⟩
    have hn : ¬ (27 : Int32) ≤ nI i := nI_ge (b := 27) (show i < 27 by omega) (by decide)
    rw [fm_keep_21, if_neg hn, gr_n (show i < 54 by omega) (by decide)]
    simp only [Option.bind_some]
    rw [m27, gu_n (show 27 * c + i < 54 by omega) (by decide)]
    simp only [Option.bind_some]
    rw [nI_1]
    obtain ⟨w', e1, e2, e3, e4, e5⟩ := ih fu (i + 1) (wr w 11 (27 * c + i) (w.1 3 i)) (by omega) (by omega)
    refine ⟨w', e1, fun d hd => (e2 d hd).trans (wr_ne _ _ _ hd), e3, fun j q1 q2 => ?_, fun k q => ?_⟩
    · rcases Nat.lt_or_ge i j with q | q
      · rw [e4 j (by omega) q2, wr_ne _ _ _ (by omega)]
      · obtain rfl : j = i := by omega
        rw [e5 _ (by omega), wr_same]
    · rw [e5 k (by omega), wr_off _ _ _ (by omega)]
theorem again26 (c : Nat) (hc : c < 2) : ∀ (r fu i : Nat) (w : St), i + r = 27 → r < fu → ∃ w', fm_again_26 fu (nI c) (nI i) w = fm_again_26 1 (nI c) (nI 27) w' ∧ (∀ d, d ≠ 3 → w'.1 d = w.1 d) ∧ w'.2 = w.2 ∧ (∀ j, i ≤ j → j < 27 → w'.1 3 j = w.1 11 (27 * c + j)) ∧ ∀ k, k < i ∨ 27 ≤ k → w'.1 3 k = w.1 3 k := by
  intro r
  induction r with
  | zero =>
    intro fu i w h1 hf
    obtain ⟨fu, rfl⟩ : ∃ f, fu = f + 1 := ⟨fu - 1, by omega⟩
    obtain rfl : i = 27 := by omega
    refine ⟨w, ?_, fun _ _ => rfl, rfl, fun j q1 q2 => absurd q2 (by omega), fun _ _ => rfl⟩
    rw [fm_again_26, fm_again_26, if_pos (show (27 : Int32) ≤ nI 27 by decide), if_pos (show (27 : Int32) ≤ nI 27 by decide)]
  | succ r ih =>
    intro fu i w h1 hf
    obtain ⟨fu, rfl⟩ : ∃ f, fu = f + 1 := ⟨fu - 1, by omega⟩
    have hn : ¬ (27 : Int32) ≤ nI i := nI_ge (b := 27) (show i < 27 by omega) (by decide)
    rw [fm_again_26, if_neg hn, m27, gr_n (show 27 * c + i < 54 by omega) (by decide)]
    simp only [Option.bind_some]
    rw [gu_n (show i < 54 by omega) (by decide)]
    simp only [Option.bind_some]
    rw [nI_1]
    obtain ⟨w', e1, e2, e3, e4, e5⟩ := ih fu (i + 1) (wr w 3 i (w.1 11 (27 * c + i))) (by omega) (by omega)
    refine ⟨w', e1, fun d hd => (e2 d hd).trans (wr_ne _ _ _ hd), e3, fun j q1 q2 => ?_, fun k q => ?_⟩
    · rcases Nat.lt_or_ge i j with q | q
      · rw [e4 j (by omega) q2, wr_ne _ _ _ (by omega)]
      · obtain rfl : j = i := by omega
        rw [e5 _ (by omega), wr_same]
    · rw [e5 k (by omega), wr_off _ _ _ (by omega)]
/-- the trial as the talk, with B there and one that is not of the island -/
theorem layTrial_m {B : Nat} {a : TK} {w : St} (hM : MT 3 0 a w) : ∃ w', fm_layTrial (nI B) w = some w' ∧ (∀ d, d ≠ 3 → w'.1 d = w.1 d) ∧ w'.2 = w.2 ∧ (∀ j, j < 27 → w'.1 3 j = w.1 3 j) ∧ w'.1 3 27 = nI B ∧ MT 3 27 a w' ∧ (∀ j, j < 6 → w'.1 3 (27 + 1 + j) = w.1 3 (0 + 1 + j) ∧ w'.1 3 (27 + 8 + j) = w.1 3 (0 + 8 + j)) ∧ w'.1 3 34 = w.1 0 15 ∧ w'.1 3 41 = w.1 0 16 := by
  obtain ⟨w1, e1, e2, e3, e4, e5⟩ := layTrial2 (nI B) 27 4096 0 w (by omega) (by omega)
  unfold fm_layTrial
  rw [show (0 : Int32) = nI 0 from rfl, e1, fm_layTrial_2, if_pos (show (27 : Int32) ≤ nI 27 by decide), show (27 : Int32) = nI 27 from rfl, show (34 : Int32) = nI 34 from rfl, show (41 : Int32) = nI 41 from rfl, show (48 : Int32) = nI 48 from rfl, gu_n (show 27 < 54 by omega) (by decide)]
  simp only [Option.bind_some]
  rw [gu_n (show 34 < 54 by omega) (by decide)]
  simp only [Option.bind_some]
  rw [gu_n (show 41 < 54 by omega) (by decide)]
  simp only [Option.bind_some]
  rw [gu_n (show 48 < 54 by omega) (by decide)]
  simp only [Option.bind_some]
  refine ⟨_, rfl, fun d hd => ?_, e3, fun j hj => ?_, ?_, ?_, fun j hj => ?_, ?_, ?_⟩
  · rw [wr_ne _ _ _ hd, wr_ne _ _ _ hd, wr_ne _ _ _ hd, wr_ne _ _ _ hd, e2 d hd]
  · rw [wr_off _ _ _ (by omega), wr_off _ _ _ (by omega), wr_off _ _ _ (by omega), wr_off _ _ _ (by omega), e5 j (by omega)]
  · rw [wr_off _ _ _ (by omega), wr_off _ _ _ (by omega), wr_off _ _ _ (by omega), wr_same]
  · obtain ⟨m0, m1, m2, m3⟩ := hM
    have hq : ∀ j, 22 ≤ j → j < 27 → ∀ v1 v2 v3 v4, (wr (wr (wr (wr w1 3 27 v1) 3 34 v2) 3 41 v3) 3 48 v4).1 3 (27 + j) = w.1 3 (0 + j) := by
      intro j h1 h2 v1 v2 v3 v4
      rw [wr_off _ _ _ (by omega), wr_off _ _ _ (by omega), wr_off _ _ _ (by omega), wr_off _ _ _ (by omega), e4 j (by omega) (by omega), Nat.zero_add]
    have hr : ∀ j, j < 6 → ∀ v1 v2 v3 v4, (wr (wr (wr (wr w1 3 27 v1) 3 34 v2) 3 41 v3) 3 48 v4).1 3 (27 + 15 + j) = w.1 3 (0 + 15 + j) := by
      intro j h2 v1 v2 v3 v4
      rw [wr_off _ _ _ (by omega), wr_off _ _ _ (by omega), wr_off _ _ _ (by omega), wr_off _ _ _ (by omega), Nat.add_assoc, e4 (15 + j) (by omega) (by omega), Nat.zero_add]
    refine ⟨(hq 22 (by omega) (by omega) _ _ _ _).trans m0, (hq 23 (by omega) (by omega) _ _ _ _).trans m1, ?_, fun j hj => (hr j hj _ _ _ _).trans (m3 j hj)⟩
    unfold MS at m2 ⊢
    cases h : a.2.2.1 with
    | none => rw [h] at m2; exact (hq 24 (by omega) (by omega) _ _ _ _).trans m2
    | some z => rw [h] at m2; exact ⟨(hq 24 (by omega) (by omega) _ _ _ _).trans m2.1, (hq 25 (by omega) (by omega) _ _ _ _).trans m2.2⟩
  · constructor
    · rw [wr_off _ _ _ (by omega), wr_off _ _ _ (by omega), wr_off _ _ _ (by omega), wr_off _ _ _ (by omega), Nat.add_assoc, e4 (1 + j) (by omega) (by omega), Nat.zero_add]
    · rw [wr_off _ _ _ (by omega), wr_off _ _ _ (by omega), wr_off _ _ _ (by omega), wr_off _ _ _ (by omega), Nat.add_assoc, e4 (8 + j) (by omega) (by omega), Nat.zero_add]
  · rw [wr_off _ _ _ (by omega), wr_off _ _ _ (by omega), wr_same, wr_ne _ _ _ (by omega), e2 0 (by omega)]
  · rw [wr_off _ _ _ (by omega), wr_same, wr_ne _ _ _ (by omega), wr_ne _ _ _ (by omega), e2 0 (by omega)]
