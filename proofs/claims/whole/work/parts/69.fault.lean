theorem rd51 {n : Nat} {ch : Nat → Nat} : ∀ (r fu k : Nat) (m : St), k + r = 6 → r + 2 < fu → FS n ch m k (2 + 5 * k) none → (∀ j, j < 4 * k → m.1 4 j = nI (tab ch j)) → ∃ v m', fm_readText_51 fu m = some (v, m') ∧ v = FF n ch (2 + 5 * k) ∧ GF m m' ∧ (v = -9 → ∃ K, K ≤ 6 ∧ n = 2 + 5 * K ∧ m'.1 0 6 = nI K ∧ ∀ j, j < 4 * K → m'.1 4 j = nI (tab ch j)) := by
  intro r
  induction r with
  | zero =>
    intro fu k m h1 hf hS ht
    obtain ⟨fu, rfl⟩ : ∃ f, fu = f + 2 := ⟨fu - 2, by omega⟩
    obtain rfl : k = 6 := by omega
    obtain ⟨hR, h6, h11, h10, hp⟩ := hS
    have hn := hR.1
    rw [fm_readText_51, h11, if_pos rfl, hR.2.1, h10]
    rcases Nat.lt_or_ge (2 + 5 * 6) n with q | q
    · obtain ⟨c1, c2⟩ := hR.2.2 (2 + 5 * 6) q
      have e : ∀ (w : St), w = wr m 0 11 (nI (2 + 5 * 6)) → fm_readText_51 (fu + 1) w = some (nI (2 + 5 * 6), w) := by
        intro w hw
        subst hw
        rw [fm_readText_51, wr_same, if_neg (n9 (by omega))]
        unfold fm_readText_200
        rw [wr_same]
      rw [if_neg (nI_ge q (by omega)), gr_n (show 2 + 5 * 6 < 40 by omega) (by decide), Option.bind_some, h6, if_pos (show (6 : Int32) ≤ nI 6 by decide), ite_self]
      unfold fm_readText_189
      rw [h10, e _ rfl]
      refine ⟨_, _, rfl, ?_, gf_w (by omega), fun z => absurd z (n9 (by omega))⟩
      rw [FF_s q]
      rfl
    · rw [if_pos (nI_le q (by omega))]
      unfold fm_readText_200
      rw [h11]
      obtain rfl : n = 2 + 5 * 6 := by omega
      exact ⟨_, _, rfl, by rw [FF_n]; rfl, GF.rf, fun _ => ⟨6, by omega, rfl, h6, ht⟩⟩
  | succ r ih =>
    intro fu k m h1 hf hS ht
    obtain ⟨fu, rfl⟩ : ∃ f, fu = f + 2 := ⟨fu - 2, by omega⟩
    have hk : k < 6 := by omega
    obtain ⟨hR, h6, h11, h10, hp⟩ := hS
    have hn := hR.1
    have e : ∀ (w : St) (f : Nat), f < 100 → w.1 0 11 = nI f → fm_readText_51 (fu + 1) w = some (nI f, w) := by
      intro w f hf hw
      rw [fm_readText_51, hw, if_neg (n9 (by omega))]
      unfold fm_readText_200
      rw [hw]
    rw [fm_readText_51, h11, if_pos rfl, hR.2.1, h10]
    rcases Nat.lt_or_ge (2 + 5 * k) n with q | q
    · obtain ⟨c1, c2⟩ := hR.2.2 (2 + 5 * k) q
      have hfit : fitB ch (2 + 5 * k) = decide (ch (2 + 5 * k) = 80) := by
        unfold fitB
        rw [if_neg (by omega), if_neg (by omega), if_pos (by omega), if_pos (by omega)]
      rw [if_neg (nI_ge q (by omega)), gr_n (show 2 + 5 * k < 40 by omega) (by decide), Option.bind_some, h6, if_neg (show ¬ (6 : Int32) ≤ nI k from nI_ge (b := 6) hk (by decide)), c2, FF_s q, hfit]
      by_cases h80 : ch (2 + 5 * k) = 80
      · rw [if_pos (by rw [h80]; rfl), decide_eq_true h80, if_pos rfl, wr_off _ _ _ (show 6 ≠ 10 by omega), h6, nI_1]
        have hS1 : FS n ch (wr m 0 10 (nI (2 + 5 * k + 1))) k (2 + 5 * k + 1) none := ⟨hR.fr (wr_off _ _ _ (by omega)) (wr_ne _ _ _ (by omega)), by rw [wr_off _ _ _ (by omega)]; exact h6, by rw [wr_off _ _ _ (by omega)]; exact h11, wr_same _ _ _ _, q⟩
        obtain ⟨m1, ee, z1, z2, z3, z4⟩ := four hk hS1 (fun j hj => by rw [wr_ne _ _ _ (by omega)]; exact ht j hj) (fun w175 => fm_readText_51 (fu + 1) (wr w175 0 6 ((w175.1 0 6) + (1 : Int32))))
        rw [z1, z2.2.1, nI_1]
        have hg : GF m (wr m1 0 6 (nI (k + 1))) := ((gf_w (by omega)).tr z3).tr (gf_w (by omega))
        cases ee with
        | some f =>
          have z4 : FF n ch (2 + 5 * k + 1) = nI f := z4
          rw [e _ f z2.2.2.2 (by rw [wr_off _ _ _ (by omega)]; exact z2.2.2.1), z4]
          exact ⟨_, _, rfl, rfl, hg, fun z => absurd z (n9 (by have := z2.2.2.2; omega))⟩
        | none =>
          obtain ⟨z5, z6⟩ : FF n ch (2 + 5 * k + 1) = FF n ch (2 + 5 * k + 1 + 4) ∧ ∀ j, j < 4 * (k + 1) → m1.1 4 j = nI (tab ch j) := z4
          have hS2 : FS n ch (wr m1 0 6 (nI (k + 1))) (k + 1) (2 + 5 * (k + 1)) none := by
            obtain ⟨y1, y2, y3, y4, y5⟩ := z2
            refine ⟨y1.fr (wr_off _ _ _ (by omega)) (wr_ne _ _ _ (by omega)), wr_same _ _ _ _, by rw [wr_off _ _ _ (by omega)]; exact y3, ?_, by omega⟩
            rw [wr_off _ _ _ (by omega), y4]
            congr 1
          obtain ⟨v, m', k1, k2, k3, k4⟩ := ih (fu + 1) (k + 1) _ (by omega) (by omega) hS2 (fun j hj => by rw [wr_ne _ _ _ (by omega)]; exact z6 j hj)
          exact ⟨v, m', k1, by rw [k2, z5, show 2 + 5 * (k + 1) = 2 + 5 * k + 1 + 4 by omega], hg.tr k3, k4⟩
      · rw [if_neg (fun (z : nI (ch (2 + 5 * k)) = (80 : Int32)) => h80 ((nI_eq (b := 80) (by omega) (by decide)).mp z)), decide_eq_false h80, if_neg (show ¬ false = true by decide)]
        unfold fm_readText_189
        rw [h10, e _ (2 + 5 * k) (by omega) (wr_same _ _ _ _)]
        exact ⟨_, _, rfl, rfl, gf_w (by omega), fun z => absurd z (n9 (by omega))⟩
    · rw [if_pos (nI_le q (by omega))]
      unfold fm_readText_200
      rw [h11]
      obtain rfl : n = 2 + 5 * k := by omega
      exact ⟨_, _, rfl, by rw [FF_n, if_neg (by omega), if_pos (by omega)], GF.rf, fun _ => ⟨k, by omega, rfl, h6, ht⟩⟩
theorem read_m {n : Nat} {ch : Nat → Nat} {m : St} (hR : RD n ch m) : ∃ v m', fm_readText m = some (v, m') ∧ v = FF n ch 0 ∧ SN m m' ∧ m'.2 = m.2 ∧ (v = -9 → (48 ≤ ch 1 ∧ ch 1 ≤ 57) ∧ m'.1 0 7 = nI (ch 1 - 48) ∧ ∃ K, K ≤ 6 ∧ n = 2 + 5 * K ∧ m'.1 0 6 = nI K ∧ ∀ j, j < 4 * K → m'.1 4 j = nI (tab ch j)) := by
  obtain ⟨w, hw⟩ : ∃ w, w = wr (wr (wr m 0 10 0) 0 11 (-9)) 0 6 0 := ⟨_, rfl⟩
  have hG : GF m w := by rw [hw]; exact ((gf_w (by omega)).tr (gf_w (by omega))).tr (gf_w (by omega))
  have hRw : RD n ch w := hR.fr (hG.1.2.2 9 (by omega)) hG.2.2.2
  have hn := hR.1
  unfold fm_readText
  rw [← hw, hRw.2.1]
  rcases Nat.eq_zero_or_pos n with h0 | h0
  · subst h0
    rw [if_pos (show nI 0 = 0 from rfl)]
    exact ⟨_, _, rfl, by rw [FF_n]; rfl, hG.1, hG.2.1, fun z => absurd z (by decide)⟩
  obtain ⟨c1, c2⟩ := hRw.2.2 0 h0
  rw [if_neg (nI_ne0 h0 (by omega)), show (0 : Int32) = nI 0 from rfl, gr_n (show 0 < 40 by omega) (by decide), Option.bind_some, c2, FF_s h0]
  by_cases h73 : ch 0 = 73
  · have f0 : fitB ch 0 = true := decide_eq_true h73
    rw [if_pos (show nI (ch 0) = (73 : Int32) by rw [h73]; rfl), f0, if_pos rfl, show (9 : Int32) = nI 9 from rfl]
    have hR1 : RD n ch (wr w 0 10 1) := hRw.fr (wr_off _ _ _ (by omega)) (wr_ne _ _ _ (by omega))
    have h10 : (wr w 0 10 1).1 0 10 = nI 1 := wr_same _ _ _ _
    have h11 : (wr w 0 10 1).1 0 11 = -9 := by rw [wr_off _ _ _ (by omega), hw, wr_off _ _ _ (by omega), wr_same]
    have h6 : (wr w 0 10 1).1 0 6 = nI 0 := by rw [wr_off _ _ _ (by omega), hw, wr_same]; rfl
    have hS : SN m (wr w 0 10 1) := hG.1.tr (gf_w (by omega)).1
    have fit1 : fitB ch 1 = gd9 9 (ch 1) := rfl
    have s7 : ∀ (a : St) (v : Int32), SN a (wr a 0 7 v) := fun a v => ⟨fun d z => wr_ne _ _ _ (by omega), fun j z => by rw [wr_ne _ _ _ (by omega)], fun j z => wr_off _ _ _ (by omega)⟩
    by_cases hg : 1 < n ∧ gd9 9 (ch 1) = true
    · have hg2 := hg.2
      unfold gd9 at hg2
      rw [Bool.and_eq_true, decide_eq_true_eq, decide_eq_true_eq] at hg2
      rw [fig_ok hR1 (Or.inl rfl) hg.1 h10 h11 hg2.1 hg2.2, Option.bind_some, FF_s hg.1, fit1, hg.2, if_pos rfl]
      obtain ⟨v, m', k1, k2, k3, k4⟩ := rd51 (n := n) (ch := ch) 6 4096 0 (wr (wr (wr w 0 10 1) 0 10 (nI (1 + 1))) 0 7 (nI (ch 1 - 48))) (by omega) (by omega) ⟨hR1.fr (by rw [wr_off _ _ _ (by omega), wr_off _ _ _ (by omega)]) (by rw [wr_ne _ _ _ (by omega), wr_ne _ _ _ (by omega)]), by rw [wr_off _ _ _ (by omega), wr_off _ _ _ (by omega)]; exact h6, by rw [wr_off _ _ _ (by omega), wr_off _ _ _ (by omega)]; exact h11, by rw [wr_off _ _ _ (by omega), wr_same], hg.1⟩ (fun j hj => absurd hj (by omega))
      refine ⟨v, m', k1, k2, ((hS.tr (gf_w (by omega)).1).tr (s7 _ _)).tr k3.1, k3.2.1.trans hG.2.1, fun z => ⟨hg2, ?_, k4 z⟩⟩
      rw [k3.2.2.1, wr_same]
    · rw [fig_bad hR1 (Or.inl rfl) h0 h10 h11 (fun q => by
        cases hb : gd9 9 (ch 1) with
        | true => exact absurd ⟨q, hb⟩ hg
        | false => exact hb), Option.bind_some]
      have hFF : FF n ch 1 = nI 1 := by
        rcases Nat.lt_or_ge 1 n with q | q
        · rw [FF_s q, fit1]
          cases hb : gd9 9 (ch 1) with
          | true => exact absurd ⟨q, hb⟩ hg
          | false => rfl
        · obtain rfl : n = 1 := by omega
          rw [FF_n]; rfl
      have e51 : ∀ w : St, w.1 0 11 = nI 1 → fm_readText_51 4096 w = some (nI 1, w) := by
        intro w hw
        rw [show (4096 : Nat) = 4095 + 1 from rfl, fm_readText_51, hw, if_neg (n9 (by omega))]
        unfold fm_readText_200
        rw [hw]
      rw [e51 _ (by rw [wr_off _ _ _ (by omega), wr_same])]
      exact ⟨_, _, rfl, hFF.symm, (hS.tr (gf_w (by omega)).1).tr (s7 _ _), hG.2.1, fun z => absurd z (n9 (by omega))⟩
  · have f0 : fitB ch 0 = false := decide_eq_false h73
    rw [if_neg (fun (z : nI (ch 0) = (73 : Int32)) => h73 ((nI_eq (b := 73) (by omega) (by decide)).mp z)), f0, if_neg (show ¬ false = true by decide)]
    exact ⟨_, _, rfl, rfl, hG.1, hG.2.1, fun z => absurd z (n9 (by omega))⟩
theorem read_x {n : Nat} {ch : Nat → Nat} {x m : St} (hT : RT n ch x m) : fx_firstFault x = some (FF n ch 0, x) := by
  unfold fx_firstFault
  rw [show (0 : Int32) = nI 0 from rfl, ff_x hT n 4096 0 (by omega) (by have := hT.1; omega)]
  rfl
theorem RT.rd {n : Nat} {ch : Nat → Nat} {x m : St} (hT : RT n ch x m) : RD n ch m := ⟨hT.1, hT.2.2.1, fun j hj => ⟨(hT.2.2.2 j hj).1, (hT.2.2.2 j hj).2.2⟩⟩
theorem ca_fault {x m : St} (h : RR x m) : CA (fx_fault x) (fm_fault m) := by
  obtain ⟨n, P, mk, ch, hm, kd, D, hB, hX, hM, hI⟩ := h.rb
  obtain ⟨v, m', e1, e2, e3, e4, -⟩ := read_m hB.1.rd
  unfold fx_fault fm_fault
  rw [read_x hB.1, e1, Option.bind_some, Option.bind_some, e2]
  exact ⟨_, _, _, rfl, rfl, h.scr SW.rf e3 (hB.2.2.2.2.trans e4.symm)⟩
