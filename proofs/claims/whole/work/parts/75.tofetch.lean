/-! the least of some by a key -/
def MN (K : Nat → Nat) (S : Nat → Prop) (s : Option Nat) : Prop := (∀ a, s = some a → S a ∧ a < 128) ∧ ∀ b, S b → ∃ a, s = some a ∧ K a ≤ K b
def pick (K : Nat → Nat) (s : Option Nat) (i : Nat) : Option Nat := match s with
  | none => some i
  | some a => if K i < K a then some i else some a
theorem MN.cong {K : Nat → Nat} {S S' : Nat → Prop} {s : Option Nat} (h : MN K S s) (g : ∀ b, S b ↔ S' b) : MN K S' s := ⟨fun a q => ⟨(g a).mp (h.1 a q).1, (h.1 a q).2⟩, fun b q => h.2 b ((g b).mpr q)⟩
theorem MN.add {K : Nat → Nat} {S S' : Nat → Prop} {s : Option Nat} {i : Nat} (h : MN K S s) (g : ∀ b, S' b ↔ S b ∨ b = i) (hi : i < 128) : MN K S' (pick K s i) := by
  cases s with
  | none =>
    refine ⟨fun a q => ?_, fun b q => ?_⟩
    · have q : some i = some a := q
      cases q
      exact ⟨(g i).mpr (Or.inr rfl), hi⟩
    · refine ⟨i, rfl, ?_⟩
      rcases (g b).mp q with z | rfl
      · obtain ⟨a, z1, -⟩ := h.2 b z
        cases z1
      · exact Nat.le_refl _
  | some c =>
    have hc := h.1 c rfl
    unfold pick
    by_cases hK : K i < K c
    · simp only [if_pos hK]
      refine ⟨fun a q => ?_, fun b q => ⟨i, rfl, ?_⟩⟩
      · cases q
        exact ⟨(g i).mpr (Or.inr rfl), hi⟩
      · rcases (g b).mp q with z | rfl
        · obtain ⟨a, z1, z2⟩ := h.2 b z
          cases z1
          omega
        · exact Nat.le_refl _
    · simp only [if_neg hK]
      refine ⟨fun a q => ?_, fun b q => ⟨c, rfl, ?_⟩⟩
      · cases q
        exact ⟨(g c).mpr (Or.inl hc.1), hc.2⟩
      · rcases (g b).mp q with z | rfl
        · obtain ⟨a, z1, z2⟩ := h.2 b z
          cases z1
          exact z2
        · omega
theorem MN.one {K : Nat → Nat} {S T : Nat → Prop} {s t : Option Nat} (hK : ∀ a b, a < 128 → b < 128 → K a = K b → a = b) (h : MN K S s) (g : MN K T t) (sub : ∀ a, S a → T a) (dom : ∀ a, T a → ∃ b, S b ∧ K b ≤ K a) : s = t := by
  cases s with
  | none =>
    cases t with
    | none => rfl
    | some b =>
      obtain ⟨c, c1, -⟩ := dom b (g.1 b rfl).1
      obtain ⟨a, a1, -⟩ := h.2 c c1
      cases a1
  | some a =>
    obtain ⟨ha, ha2⟩ := h.1 a rfl
    obtain ⟨b, rfl, b2⟩ := g.2 a (sub a ha)
    obtain ⟨c, c1, c2⟩ := dom b (g.1 b rfl).1
    obtain ⟨d, d1, d2⟩ := h.2 c c1
    cases d1
    rw [hK a b ha2 (g.1 b rfl).2 (by omega)]
/-! the hours for some -/
def hs (ds : Nat → Nat) (A : Nat) : Nat → Nat → Nat → Nat
  | 0, _, s => s
  | r + 1, i, s => hs ds A r (i + 1) (if A.testBit i then s + ds i else s)
theorem hs_mono {ds : Nat → Nat} {A B : Nat} (h : sbs A B) : ∀ (r i s t : Nat), s ≤ t → hs ds A r i s ≤ hs ds B r i t := by
  intro r
  induction r with
  | zero => exact fun i s t q => q
  | succ r ih =>
    intro i s t q
    rw [hs, hs]
    refine ih _ _ _ ?_
    cases hA : A.testBit i with
    | true => rw [h i hA, if_pos rfl, if_pos rfl]; omega
    | false =>
      rw [if_neg (show ¬ false = true by decide)]
      split <;> omega
theorem hs_le {ds : Nat → Nat} {A : Nat} : ∀ (r i s : Nat), (∀ j, j < i + r → ds j ≤ 9) → hs ds A r i s ≤ s + 9 * r := by
  intro r
  induction r with
  | zero => exact fun i s _ => Nat.le_refl _
  | succ r ih =>
    intro i s h
    rw [hs]
    have h1 := h i (by omega)
    have := ih (i + 1) (if A.testBit i then s + ds i else s) (fun j hj => h j (by omega))
    have h2 : (if A.testBit i then s + ds i else s) ≤ s + 9 := by split <;> omega
    omega
/-- how far each lives off -/
def dsf (mk : Nat) (hm : Nat → Nat) (j : Nat) : Nat := hm j - mk + (mk - hm j)
/-- hours, ones, the set -/
def HS (mk : Nat) (hm : Nat → Nat) (P A : Nat) : Nat := hs (dsf mk hm) A P 0 0
def KY (mk : Nat) (hm : Nat → Nat) (P A : Nat) : Nat := HS mk hm P A * 16384 + pc A * 1024 + A
theorem KY_inj {mk P : Nat} {hm : Nat → Nat} : ∀ a b, a < 128 → b < 128 → KY mk hm P a = KY mk hm P b → a = b := by
  intro a b ha hb h
  unfold KY at h
  omega
theorem KY_lt {mk P : Nat} {hm : Nat → Nat} {a b : Nat} (ha : a < 128) (hb : b < 128) : KY mk hm P a < KY mk hm P b ↔ HS mk hm P a < HS mk hm P b ∨ (HS mk hm P a = HS mk hm P b ∧ (pc a < pc b ∨ (pc a = pc b ∧ a < b))) := by
  have h1 := pc_le a
  have h2 := pc_le b
  unfold KY
  omega
theorem HS_64 {P mk : Nat} {hm kd : Nat → Nat} {x m : St} (h : RP P mk hm kd x m) (A : Nat) : HS mk hm P A < 64 := by
  obtain ⟨hP, hmk, -, -, -, -, h5, -⟩ := h
  have := hs_le (ds := dsf mk hm) (A := A) P 0 0 (fun j hj => by
    have := (h5 j (by omega)).1
    unfold dsf
    omega)
  unfold HS
  omega
theorem hoursFor4 {P mk : Nat} {hm kd : Nat → Nat} {x m : St} (h : RP P mk hm kd x m) {A : Nat} (hA : A < 128) : ∀ (r fu i s : Nat), i + r = P → r < fu → fx_hoursFor_4 fu (nI A) (nI s) (nI i) x = some (nI (hs (dsf mk hm) A r i s), x) := by
  have hP := h.1
  have x3 : x.1 0 3 = nI P := h.2.2.1
  intro r
  induction r with
  | zero =>
    intro fu i s h1 hf
    obtain ⟨fu, rfl⟩ : ∃ f, fu = f + 1 := ⟨fu - 1, by omega⟩
    rw [fx_hoursFor_4, x3, if_pos (nI_le (show P ≤ i by omega) (by omega))]
    rfl
  | succ r ih =>
    intro fu i s h1 hf
    obtain ⟨fu, rfl⟩ : ∃ f, fu = f + 1 := ⟨fu - 1, by omega⟩
    rw [fx_hoursFor_4, x3, if_neg (nI_ge (show i < P by omega) (by omega)), has_x (by omega) (by omega), Option.bind_some, hs]
    unfold fx_hoursFor_28
    cases hb : A.testBit i with
    | false =>
      rw [if_neg (show ¬ false = true by decide), if_pos rfl, nI_1, if_neg (show ¬ false = true by decide)]
      exact ih fu (i + 1) s (by omega) (by omega)
    | true =>
      rw [if_pos rfl, if_neg (show ¬ (1 : Int32) = 0 by decide), far_x h (show i < P by omega), Option.bind_some, lb, nI_add, nI_1, if_pos rfl]
      exact ih fu (i + 1) _ (by omega) (by omega)
theorem hoursFor_x {P mk : Nat} {hm kd : Nat → Nat} {x m : St} (h : RP P mk hm kd x m) {A : Nat} (hA : A < 128) : fx_hoursFor (nI A) x = some (nI (HS mk hm P A), x) := hoursFor4 h hA P 4096 0 0 (by omega) (by have := h.1; omega)
theorem hoursOf4 {P mk : Nat} {hm kd : Nat → Nat} {x m : St} (h : RP P mk hm kd x m) {A : Nat} (hA : A < 128) : ∀ (r fu i s : Nat), i + r = P → r < fu → fm_hoursOf_4 fu (nI A) (nI s) (nI i) m = some (nI (hs (dsf mk hm) A r i s), m) := by
  have hP := h.1
  have m0 : m.1 0 0 = nI P := h.2.2.2.1
  intro r
  induction r with
  | zero =>
    intro fu i s h1 hf
    obtain ⟨fu, rfl⟩ : ∃ f, fu = f + 1 := ⟨fu - 1, by omega⟩
    rw [fm_hoursOf_4, m0, if_pos (nI_le (show P ≤ i by omega) (by omega))]
    rfl
  | succ r ih =>
    intro fu i s h1 hf
    obtain ⟨fu, rfl⟩ : ∃ f, fu = f + 1 := ⟨fu - 1, by omega⟩
    rw [fm_hoursOf_4, m0, if_neg (nI_ge (show i < P by omega) (by omega)), has_m (by omega) (by omega), Option.bind_some, hs]
    unfold fm_hoursOf_30
    cases hb : A.testBit i with
    | false =>
      rw [if_neg (show ¬ false = true by decide), if_pos rfl, nI_1, if_neg (show ¬ false = true by decide), lb, show nI s + (0 : Int32) = nI s from nI_add s 0]
      exact ih fu (i + 1) s (by omega) (by omega)
    | true =>
      rw [if_pos rfl, if_neg (show ¬ (1 : Int32) = 0 by decide), far_m h (show i < P by omega), Option.bind_some, lb, nI_add, nI_1, if_pos rfl]
      exact ih fu (i + 1) _ (by omega) (by omega)
theorem hoursOf_m {P mk : Nat} {hm kd : Nat → Nat} {x m : St} (h : RP P mk hm kd x m) {A : Nat} (hA : A < 128) : fm_hoursOf (nI A) m = some (nI (HS mk hm P A), m) := hoursOf4 h hA P 4096 0 0 (by omega) (by have := h.1; omega)
theorem cmp_n {u v : Nat} (hu : u < 2 ^ 31) (hv : v < 2 ^ 31) : fj_compare (nI u) (nI v) = some (if u < v then -1 else if u = v then 0 else 1) := by
  unfold fj_compare
  rcases Nat.lt_trichotomy u v with h | h | h
  · rw [if_neg (nI_ge h hv), if_pos h]
  · subst h
    rw [if_pos (nI_le (Nat.le_refl _) hu), if_pos rfl, if_neg (by omega), if_pos rfl]
  · rw [if_pos (nI_le (by omega) hu), if_neg (fun q => by have := (nI_eq hu hv).mp q; omega), if_neg (by omega), if_neg (by omega)]
theorem cheaper_x {P mk : Nat} {hm kd : Nat → Nat} {x m : St} (h : RP P mk hm kd x m) {a b : Nat} (ha : a < 128) (hb : b < 128) : fx_isCheaper (nI a) (nI b) x = some (if KY mk hm P a < KY mk hm P b then 1 else 0, x) := by
  have ha6 := HS_64 h a
  have hb6 := HS_64 h b
  have p1 := pc_le a
  have p2 := pc_le b
  have hK := KY_lt (mk := mk) (hm := hm) (P := P) ha hb
  unfold fx_isCheaper
  rw [hoursFor_x h ha, Option.bind_some, hoursFor_x h hb, Option.bind_some, cmp_n (by omega) (by omega), Option.bind_some, pc_x a (by omega), pc_x b (by omega)]
  rcases Nat.lt_trichotomy (HS mk hm P a) (HS mk hm P b) with q | q | q
  · rw [if_pos q, if_neg (show ¬ (-1 : Int32) = 0 by decide), if_neg (show ¬ (0 : Int32) ≤ -1 by decide), if_pos (hK.mpr (Or.inl q))]
  · rw [if_neg (show ¬ HS mk hm P a < HS mk hm P b by omega), if_pos q, if_pos rfl, Option.bind_some, Option.bind_some, cmp_n (by omega) (by omega), Option.bind_some]
    rcases Nat.lt_trichotomy (pc a) (pc b) with r | r | r
    · rw [if_pos r, if_neg (show ¬ (-1 : Int32) = 0 by decide), if_neg (show ¬ (0 : Int32) ≤ -1 by decide), if_pos (hK.mpr (Or.inr ⟨q, Or.inl r⟩))]
    · rw [if_neg (show ¬ pc a < pc b by omega), if_pos r, if_pos rfl]
      by_cases z : a < b
      · rw [if_neg (nI_ge z (by omega)), if_pos (hK.mpr (Or.inr ⟨q, Or.inr ⟨r, z⟩⟩))]
      · rw [if_pos (nI_le (by omega) (by omega)), if_neg (fun k => by have := hK.mp k; omega)]
    · rw [if_neg (show ¬ pc a < pc b by omega), if_neg (show ¬ pc a = pc b by omega), if_neg (show ¬ (1 : Int32) = 0 by decide), if_pos (show (0 : Int32) ≤ 1 by decide), if_neg (fun k => by have := hK.mp k; omega)]
  · rw [if_neg (show ¬ HS mk hm P a < HS mk hm P b by omega), if_neg (show ¬ HS mk hm P a = HS mk hm P b by omega), if_neg (show ¬ (1 : Int32) = 0 by decide), if_pos (show (0 : Int32) ≤ 1 by decide), if_neg (fun k => by have := hK.mp k; omega)]
