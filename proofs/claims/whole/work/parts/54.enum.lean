theorem pow10 : ∀ k, k < 6 → fx_power 10 (nI k) = some (nI (10 ^ k)) := by decide +kernel
theorem cd_9 (o : Option Nat) (h : ∀ i, o = some i → i < 1000) : (cd o = -9) ↔ o = none := by
  cases o with
  | none => exact ⟨fun _ => rfl, fun _ => rfl⟩
  | some i => exact ⟨fun q => absurd q (n9 (by have := h i rfl; omega)), fun q => by cases q⟩
theorem pl_lt {B : Nat} {kd sn : Nat → Nat} : ∀ (ds : List Nat) (i : Nat) (a : TK) (z : Nat), (pl B kd sn i a ds).1 = some z → z < i + ds.length := by
  intro ds
  induction ds with
  | nil => intro i a z h; cases h
  | cons d ds ih =>
    intro i a z h
    rw [pl] at h
    split at h
    · have := ih (i + 1) _ z h
      rw [List.length_cons]
      omega
    · cases h
      rw [List.length_cons]
      omega
theorem dl_len (n R : Nat) : ∀ r i, (dl n R i r).length = r := by
  intro r
  induction r with
  | zero => intro i; rfl
  | succ r ih => intro i; rw [dl, List.length_cons, ih]
theorem PL_9 {B n R : Nat} {kd sn : Nat → Nat} {a : TK} (hn : n < 1000) : (cd (PL B kd sn a n R).1 = -9) ↔ (PL B kd sn a n R).1 = none := cd_9 _ (fun i h => by
  have := pl_lt _ _ _ _ h
  rw [dl_len] at this
  omega)
theorem ca_comesTo {x m : St} (h : RR x m) (a b c : Int32) : CA (fx_comesTo a b c x) (fm_comesTo a b c m) := by
  have hR := h
  obtain ⟨n, P, mk, ch, hm, kd, D, hB, hX, hM, hI⟩ := h.rb
  have hP6 := hB.2.1.1
  have h64 : D.1 < 64 := Nat.lt_of_lt_of_le hI.1 (p_le hP6)
  unfold fx_comesTo fm_comesTo
  rcases in_ab (lo := 1) (hi := 5) a 1 5 1 5 rfl rfl rfl rfl (by decide) (by decide) with ⟨h1, h2⟩ | ⟨k, v1, v2, rfl, h2⟩
  · rw [h2]
    by_cases q : a < 1
    · rw [if_pos q]; exact ⟨_, _, _, rfl, rfl, hR⟩
    · by_cases q2 : 5 < a
      · rw [if_neg q, if_pos q2]; exact ⟨_, _, _, rfl, rfl, hR⟩
      · exact absurd ⟨by rw [le_lt]; exact q, by rw [le_lt]; exact q2⟩ h1
  rw [h2, Option.bind_some, if_neg (show ¬ nI k < (1 : Int32) from nI_nlt (b := 1) v1 (by omega)), if_neg (show ¬ (5 : Int32) < nI k from nI_nlt (a := 5) v2 (by decide)), if_neg (show ¬ (1 : Int32) = 0 by decide), tenTo_n k (by omega), Option.bind_some, pow10 k (by omega), Option.bind_some]
  have hk := ten_lt (show k < 6 by omega)
  have hk0 : 0 < 10 ^ k := Nat.pow_pos (by decide)
  have hs : nI (10 ^ k) - (1 : Int32) = nI (10 ^ k - 1) := by rw [show (1 : Int32) = nI 1 from rfl, nS hk0]
  rw [hs]
  rcases in_ab (lo := 0) (hi := 10 ^ k - 1) b 0 (nI (10 ^ k - 1)) 0 (nI (10 ^ k - 1)).toInt64 rfl rfl rfl rfl (by omega) (by decide) with ⟨h3, h4⟩ | ⟨R, -, r2, rfl, h4⟩
  · rw [h4]
    by_cases q : b < 0
    · rw [if_pos q]; exact ⟨_, _, _, rfl, rfl, hR⟩
    · by_cases q2 : nI (10 ^ k) ≤ b
      · rw [if_neg q, if_pos q2]; exact ⟨_, _, _, rfl, rfl, hR⟩
      · obtain ⟨v, hv, rfl⟩ := nI_of q
        rw [nI_leI hk hv] at q2
        exact absurd ⟨nI_pos' hv, nI_le (by omega) (by omega)⟩ h3
  rw [h4, Option.bind_some, if_neg (nI_pos (show R < 2 ^ 31 by omega)), if_neg (nI_ge (show R < 10 ^ k by omega) hk), if_neg (show ¬ (1 : Int32) = 0 by decide)]
  rcases in_ab (lo := 0) (hi := 1) c 0 1 0 1 rfl rfl rfl rfl (by decide) (by decide) with ⟨h5, h6⟩ | ⟨z, -, z2, rfl, h6⟩
  · rw [h6]
    by_cases q : c < 0
    · rw [if_pos q]; exact ⟨_, _, _, rfl, rfl, hR⟩
    · rw [if_neg q, if_neg (fun z => h5 ⟨by rw [le_lt]; exact q, z⟩)]; exact ⟨_, _, _, rfl, rfl, hR⟩
  rw [h6, Option.bind_some, if_neg (nI_pos (show z < 2 ^ 31 by omega)), if_pos (show nI z ≤ (1 : Int32) from nI_le (b := 1) z2 (by decide)), if_neg (show ¬ (1 : Int32) = 0 by decide), hX.1, show (0 : Int32) = nI 0 from rfl, gr_n (show 0 < 54 by omega) (by decide), show m.1 3 0 = _ from hM.1, Option.bind_some]
  obtain ⟨x', k1, k2, k3, -⟩ := play_x (n := k) (R := R) (BX.of hB hX hI hI.1) (by omega) (by omega)
  obtain ⟨m', l1, l2, l3⟩ := play_m (n := k) (R := R) (BM.of hB hM hI hI.1) (by omega) (by omega)
  rw [k1, l1, Option.bind_some, Option.bind_some, lb, lb]
  have hR' : RR x' m' := hR.scr k2.sw l2.sn (k2.2.trans (hB.2.2.2.2.trans l2.2.2.symm))
  by_cases hz : nI z = 1
  · rw [if_pos hz, if_pos hz]
    exact ⟨_, _, _, rfl, rfl, hR'⟩
  rw [if_neg hz, if_neg hz]
  by_cases h9 : cd (PL D.1 kd D.2.2.1 D.2.2.2 k R).1 = -9
  · rw [if_pos h9, if_pos h9, show (49 : Int32) = nI 49 from rfl, gr_n (show 49 < 54 by omega) (by decide), l3, k3]
    exact ⟨_, _, _, rfl, rfl, hR'⟩
  · rw [if_neg h9, if_neg h9]
    exact ⟨_, _, _, rfl, rfl, hR'⟩
/-! all rows over some numbers, in order -/
def tv (w : List Nat) : Nat → Nat → Nat
  | 0, _ => 0
  | n + 1, i => 10 * tv w n (i / w.length) + (w.getD (i % w.length) 0 + 1)
def RV (w : List Nat) : Nat → List Nat
  | 0 => [0]
  | n + 1 => (RV w n).flatMap (fun v => w.map (fun p => 10 * v + (p + 1)))
theorem range_mul {β : Type} (f : Nat → β) (k : Nat) : ∀ a, (List.range (a * k)).map f = (List.range a).flatMap (fun i => (List.range k).map (fun j => f (i * k + j))) := by
  intro a
  induction a with
  | zero => simp
  | succ a ih =>
    rw [Nat.succ_mul, List.range_add, List.map_append, ih, List.range_succ, List.flatMap_append, List.map_map]
    simp [Function.comp_def]
theorem map_getD {β : Type} (g : Nat → β) (w : List Nat) : (List.range w.length).map (fun j => g (w.getD j 0)) = w.map g := by
  apply List.ext_getElem
  · simp
  · intro i h1 h2
    simp at h1 h2 ⊢
    simp [h1]
theorem tv_rv (w : List Nat) (hw : 0 < w.length) : ∀ n, (List.range (w.length ^ n)).map (tv w n) = RV w n := by
  intro n
  induction n with
  | zero => rfl
  | succ n ih =>
    rw [Nat.pow_succ, range_mul, RV, ← ih, List.flatMap_map]
    congr 1
    funext i
    rw [← map_getD (fun p => 10 * tv w n i + (p + 1)) w]
    apply List.map_congr_left
    intro j hj
    rw [List.mem_range] at hj
    show 10 * tv w n ((i * w.length + j) / w.length) + (w.getD ((i * w.length + j) % w.length) 0 + 1) = _
    rw [Nat.mul_comm i, Nat.mul_add_div hw, Nat.div_eq_of_lt hj, Nat.add_zero, Nat.mul_add_mod, Nat.mod_eq_of_lt hj]
/-- those of B in order -/
def wl (B : Nat) : List Nat := (List.range 7).filter (fun p => B.testBit p)
def w7 : List Nat := [0, 1, 2, 3, 4, 5, 6]
/-- none but those of B in the row -/
def ib (B : Nat) : Nat → Nat → Bool
  | 0, _ => true
  | n + 1, v => ib B n (v / 10) && B.testBit (v % 10 - 1)
theorem flat_if {α β : Type} (p : α → Bool) (g : α → List β) : ∀ l : List α, l.flatMap (fun a => if p a then g a else []) = (l.filter p).flatMap g := by
  intro l
  induction l with
  | nil => rfl
  | cons a l ih =>
    rw [List.flatMap_cons, ih, List.filter_cons]
    cases p a <;> rfl
theorem rv_ib (B : Nat) : ∀ n, (RV w7 n).filter (ib B n) = RV (wl B) n := by
  intro n
  induction n with
  | zero => rfl
  | succ n ih =>
    rw [RV, RV, ← ih, ← flat_if, List.filter_flatMap]
    congr 1
    funext v
    have h : ∀ p, p < 7 → ib B (n + 1) (10 * v + (p + 1)) = (ib B n v && B.testBit p) := by
      intro p hp
      rw [ib, show (10 * v + (p + 1)) / 10 = v by omega, show (10 * v + (p + 1)) % 10 - 1 = p by omega]
    rw [List.filter_map]
    have e : w7.filter (ib B (n + 1) ∘ fun p => 10 * v + (p + 1)) = w7.filter (fun p => ib B n v && B.testBit p) := by
      apply List.filter_congr
      intro p hp
      exact h p (by simp [w7] at hp; omega)
    rw [e]
    cases ib B n v with
    | false => simp
    | true => simp only [Bool.true_and]; rfl
