/-! plain facts of small numbers -/
theorem nA (a b : Nat) : nI a &&& nI b = nI (a &&& b) := by
  apply Int32.toBitVec_inj.1
  show BitVec.ofNat 32 a &&& BitVec.ofNat 32 b = BitVec.ofNat 32 (a &&& b)
  apply BitVec.eq_of_getLsbD_eq
  intro i hi
  simp [hi]
theorem nO (a b : Nat) : nI a ||| nI b = nI (a ||| b) := by
  apply Int32.toBitVec_inj.1
  show BitVec.ofNat 32 a ||| BitVec.ofNat 32 b = BitVec.ofNat 32 (a ||| b)
  apply BitVec.eq_of_getLsbD_eq
  intro i hi
  simp [hi]
theorem nXo (a b : Nat) : nI a ^^^ nI b = nI (a ^^^ b) := by
  apply Int32.toBitVec_inj.1
  show BitVec.ofNat 32 a ^^^ BitVec.ofNat 32 b = BitVec.ofNat 32 (a ^^^ b)
  apply BitVec.eq_of_getLsbD_eq
  intro i hi
  simp [hi]
theorem s_31 : ∀ n, n < 32 → ((nI n &&& 31).toBitVec.smod 32).toNat = n := by decide +kernel
theorem has_e {b p : Nat} (hb : b < 2 ^ 31) (hp : p < 31) : ((nI b >>> (nI p &&& 31)) &&& (1 : Int32)) = nI (b / 2 ^ p % 2) := by
  rw [pk_shrN hb _ p (s_31 p (by omega))]
  exact pk_andN (k := 1) (m := 1) (Nat.lt_of_le_of_lt (Nat.div_le_self _ _) (by omega)) rfl
theorem has_x {b p : Nat} (hb : b < 2 ^ 31) (hp : p < 31) : fx_has (nI b) (nI p) = some (if b.testBit p then 1 else 0) := by
  unfold fx_has
  rw [has_e hb hp, Nat.testBit_eq_decide_div_mod_eq]
  rcases Nat.mod_two_eq_zero_or_one (b / 2 ^ p) with h | h <;> rw [h] <;> rfl
theorem has_m {b p : Nat} (hb : b < 2 ^ 31) (hp : p < 31) : fm_has (nI b) (nI p) = some (if b.testBit p then 1 else 0) := has_x hb hp
theorem bit_1 {p : Nat} (hp : p < 31) : (1 : Int32) <<< (nI p &&& 31) = nI (2 ^ p) := by
  have h2 : 2 ^ p < 2 ^ 31 := Nat.pow_lt_pow_right (by decide) hp
  have := pk_shlN (n := 1) (nI p &&& 31) p (s_31 p (by omega)) (by omega)
  rw [Nat.one_mul] at this
  exact this
/-- a without b -/
def sb (a b : Nat) : Nat := a &&& (127 ^^^ b)
theorem sb_bit {a b : Nat} (ha : a < 128) (i : Nat) : (sb a b).testBit i = (a.testBit i && !b.testBit i) := by
  unfold sb
  rw [Nat.testBit_and, Nat.testBit_xor]
  by_cases hi : i < 7
  · have : (127 : Nat).testBit i = true := by
      rcases (show i = 0 ∨ i = 1 ∨ i = 2 ∨ i = 3 ∨ i = 4 ∨ i = 5 ∨ i = 6 by omega) with rfl | rfl | rfl | rfl | rfl | rfl | rfl <;> rfl
    rw [this]
    simp
  · rw [Nat.testBit_lt_two_pow (x := a) (i := i) (Nat.lt_of_lt_of_le ha (Nat.pow_le_pow_right (n := 2) (by decide) (show 7 ≤ i by omega)))]
    simp
theorem n_sb {a b : Nat} (ha : a < 128) : nI a &&& (nI b ^^^ (-1 : Int32)) = nI (sb a b) := by
  rw [show (-1 : Int32) = nI 4294967295 from rfl, nXo, nA]
  congr 1
  apply Nat.eq_of_testBit_eq
  intro i
  rw [sb_bit ha, Nat.testBit_and, Nat.testBit_xor]
  by_cases hi : i < 7
  · have : (4294967295 : Nat).testBit i = true := by
      rcases (show i = 0 ∨ i = 1 ∨ i = 2 ∨ i = 3 ∨ i = 4 ∨ i = 5 ∨ i = 6 by omega) with rfl | rfl | rfl | rfl | rfl | rfl | rfl <;> decide +kernel
    rw [this]
    simp
  · rw [Nat.testBit_lt_two_pow (x := a) (i := i) (Nat.lt_of_lt_of_le ha (Nat.pow_le_pow_right (n := 2) (by decide) (show 7 ≤ i by omega)))]
    simp
def pc (a : Nat) : Nat := a % 2 + a / 2 % 2 + a / 4 % 2 + a / 8 % 2 + a / 16 % 2 + a / 32 % 2 + a / 64 % 2 + a / 128 % 2 + a / 256 % 2 + a / 512 % 2
theorem pc_le (a : Nat) : pc a ≤ 10 := by unfold pc; omega
theorem pc_x : ∀ a, a < 1024 → fj_bitCount (nI a) = some (nI (pc a)) := by decide +kernel
theorem pc_m : ∀ a, a < 1024 → fm_ones (nI a) = some (nI (pc a)) := by decide +kernel
theorem gr_n {f : Nat → Int32} {n k : Nat} (h : k < n) (hn : n < 2 ^ 31) : gr f n (nI k) = some (f k) := by
  unfold gr
  rw [if_pos, nI_clamp (by omega)]
  simp only [axb, nI_toInt (show k < 2 ^ 31 by omega), Bool.and_eq_true, decide_eq_true_eq]
  omega
theorem gu_n {w : St} {c n k : Nat} {v : Int32} (h : k < n) (hn : n < 2 ^ 31) : gu w c n (nI k) v = some (wr w c k v) := by
  unfold gu
  rw [if_pos, nI_clamp (by omega)]
  simp only [axb, nI_toInt (show k < 2 ^ 31 by omega), Bool.and_eq_true, decide_eq_true_eq]
  omega
theorem gq_n {n k : Nat} (h : k < n) (hn : n < 2 ^ 31) : gq n (nI k) = some k := by
  unfold gq
  rw [if_pos, nI_clamp (by omega)]
  simp only [axb, nI_toInt (show k < 2 ^ 31 by omega), Bool.and_eq_true, decide_eq_true_eq]
  omega
theorem wide_le (a b : Int32) : a.toInt64 ≤ b.toInt64 ↔ a ≤ b := by rw [Int64.le_iff_toInt_le, Int32.le_iff_toInt_le, Int32.toInt_toInt64, Int32.toInt_toInt64]
theorem wide_lt (a b : Int32) : a.toInt64 < b.toInt64 ↔ a < b := by rw [Int64.lt_iff_toInt_lt, Int32.lt_iff_toInt_lt, Int32.toInt_toInt64, Int32.toInt_toInt64]
theorem cmp_lt (x y : Int64) : lg_cmp x y < 0 ↔ x < y := by
  unfold lg_cmp
  simp only [gt_iff_lt, Int64.lt_iff_toInt_lt, ← Int64.toInt_inj]
  repeat' split
  · constructor
    · intro h; exact absurd h (by decide)
    · intro h; omega
  · constructor
    · intro h; exact absurd h (by decide)
    · intro h; omega
  · constructor
    · intro _; omega
    · intro _; decide
theorem cmp_gt (x y : Int64) : 0 < lg_cmp x y ↔ y < x := by
  unfold lg_cmp
  simp only [gt_iff_lt, Int64.lt_iff_toInt_lt, ← Int64.toInt_inj]
  repeat' split
  · constructor
    · intro _; omega
    · intro _; decide
  · constructor
    · intro h; exact absurd h (by decide)
    · intro h; omega
  · constructor
    · intro h; exact absurd h (by decide)
    · intro h; omega
theorem in_t {x lo hi : Int32} {a b c : Int64} (ha : a = x.toInt64) (hb : b = lo.toInt64) (hc : c = hi.toInt64) (h1 : lo ≤ x) (h2 : x ≤ hi) : fm_in a b c = some 1 := by
  subst ha hb hc
  unfold fm_in
  rw [if_neg (fun h => absurd ((wide_lt _ _).mp ((cmp_lt _ _).mp h)) (by rw [Int32.lt_iff_toInt_lt]; rw [Int32.le_iff_toInt_le] at h1; omega)), if_neg (fun h => absurd ((wide_lt _ _).mp ((cmp_gt _ _).mp h)) (by rw [Int32.lt_iff_toInt_lt]; rw [Int32.le_iff_toInt_le] at h2; omega))]
theorem in_f {x lo hi : Int32} {a b c : Int64} (ha : a = x.toInt64) (hb : b = lo.toInt64) (hc : c = hi.toInt64) (h : x < lo ∨ hi < x) : fm_in a b c = some 0 := by
  subst ha hb hc
  unfold fm_in
  by_cases h1 : x < lo
  · rw [if_pos ((cmp_lt _ _).mpr ((wide_lt _ _).mpr h1))]
  · rw [if_neg (fun h2 => h1 ((wide_lt _ _).mp ((cmp_lt _ _).mp h2)))]
    rcases h with h | h
    · exact absurd h h1
    · rw [if_pos ((cmp_gt _ _).mpr ((wide_lt _ _).mpr h))]
theorem rem_n {a d : Nat} (ha : a < 2 ^ 31) (h0 : 0 < d) (hd : d < 2 ^ 31) : ir (nI a) (nI d) = nI (a % d) := pk_rem ha h0 hd
/-- an argument: below, above, or a place -/
theorem arg3 (x : Int32) (n : Nat) (hn : n < 2 ^ 31) : x < 0 ∨ nI n ≤ x ∨ ∃ j : Nat, j < n ∧ x = nI j := pk_ix x hn
theorem lt_le {a b : Int32} : a < b ↔ ¬ b ≤ a := by rw [Int32.lt_iff_toInt_lt, Int32.le_iff_toInt_le]; omega
theorem le_lt {a b : Int32} : a ≤ b ↔ ¬ b < a := by rw [Int32.lt_iff_toInt_lt, Int32.le_iff_toInt_le]; omega
