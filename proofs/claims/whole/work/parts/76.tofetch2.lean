/-! who is to be fetched -/
/-- the set, or its hours -/
def fE (mk : Nat) (hm : Nat → Nat) (P : Nat) (c : Int32) (s : Option Nat) : Int32 := match s with
  | none => -9
  | some a => if c = 0 then nI a else nI (HS mk hm P a)
theorem cd_s (a : Nat) : cd (some a) = nI a := rfl
theorem RP.ftx {P mk : Nat} {hm kd : Nat → Nat} {x x' m : St} (h : RP P mk hm kd x m) (f : FT 11 x x') : RP P mk hm kd x' m := h.fr (by rw [f.1 0 (by omega) (by omega)]) (by rw [f.1 0 (by omega) (by omega)]) (f.1 2 (by omega) (by omega)) (f.1 3 (by omega) (by omega)) rfl rfl rfl rfl
theorem RP.tgm {P mk : Nat} {hm kd : Nat → Nat} {x m m' : St} (h : RP P mk hm kd x m) (f : TG m m') : RP P mk hm kd x m' := h.fr rfl rfl rfl rfl (f.2.2.1 0 (by omega)) (f.2.2.1 1 (by omega)) (f.1 1 (by omega) (by omega)) (f.1 2 (by omega) (by omega))
theorem every_x {P mk : Nat} {hm kd : Nat → Nat} {x m : St} (h : RP P mk hm kd x m) : fx_everybody x = some (nI (2 ^ P - 1), x) := by
  have hP := h.1
  unfold fx_everybody
  rw [h.2.2.1, bit_1 (by omega), show (1 : Int32) = nI 1 from rfl, nS Nat.one_le_two_pow]
/-- the away of a row told by all -/
def AR (E at' : Nat) (kd sn : Nat → Nat) (a : TK) (q n : Nat) (L : List Nat) (A : Nat) : Prop := ∃ R, R ∈ L ∧ EV E kd sn a n R = some q ∧ A = sb (wi n 0 R) at'
theorem best16 {P mk at' n q : Nat} {hm kd sn : Nat → Nat} {a : TK} {m0 : St} (hn : n < 5) (hq : q < 10) : ∀ (r fu i : Nat) (s : Option Nat) (S : Nat → Prop) (x : St), i + r = (wl (2 ^ P - 1)).length ^ n → r < fu → MN (KY mk hm P) S s → BX (2 ^ P - 1) kd sn a x → WH (wl (2 ^ P - 1)) x → x.1 13 1 = nI at' → RP P mk hm kd x m0 → ∃ s' x', fx_bestFetch_16 fu (nI n) (nI q) (cd s) (nI ((wl (2 ^ P - 1)).length ^ n)) (nI i) x = some (cd s', x') ∧ MN (KY mk hm P) (fun A => S A ∨ AR (2 ^ P - 1) at' kd sn a q n ((List.range' i r).map (tv (wl (2 ^ P - 1)) n)) A) s' ∧ FT 11 x x' := by
  intro r
  induction r with
  | zero =>
    intro fu i s S x h1 hf hS hX hW h13 hR
    obtain ⟨fu, rfl⟩ : ∃ f, fu = f + 1 := ⟨fu - 1, by omega⟩
    have := len_pow hX.2.2.2.2.2 hn
    rw [fx_bestFetch_16, if_pos (nI_le (show (wl (2 ^ P - 1)).length ^ n ≤ i by omega) (by omega))]
    refine ⟨s, x, rfl, hS.cong (fun b => ⟨Or.inl, fun z => ?_⟩), FT.rf⟩
    rcases z with z | ⟨R, z, -⟩
    · exact z
    · cases z
  | succ r ih =>
    intro fu i s S x h1 hf hS hX hW h13 hR
    obtain ⟨fu, rfl⟩ : ∃ f, fu = f + 1 := ⟨fu - 1, by omega⟩
    have hB := hX.2.2.2.2.2
    have hlp := len_pow hB hn
    have hg := gdp_tv (wl_get hB) n i
    have h31 := tv_31 (wl_get hB) hn i
    have hw := wi_lt n 0 _ hg (show 0 < 128 by decide)
    have hA : sb (wi n 0 (tv (wl (2 ^ P - 1)) n i)) at' < 128 := Nat.lt_of_le_of_lt (sb_le _ _) hw
    rw [fx_bestFetch_16, if_neg (nI_ge (show i < (wl (2 ^ P - 1)).length ^ n by omega) (by omega)), told_x hW (wl_ok _ hB).1 (by omega) (by omega) (by omega), Option.bind_some, lb, every_x hR, Option.bind_some]
    obtain ⟨x1, k1, k2⟩ := isTold_x (n := n) (R := tv (wl (2 ^ P - 1)) n i) hX (by omega) h31 hq
    rw [k1, Option.bind_some, speakers_x hn h31 hg]
    have h131 : x1.1 13 1 = nI at' := by rw [k2.1 13 (by omega) (by omega)]; exact h13
    have go : ∀ (s2 : Option Nat), MN (KY mk hm P) (fun A => S A ∨ (EV (2 ^ P - 1) kd sn a n (tv (wl (2 ^ P - 1)) n i) = some q ∧ A = sb (wi n 0 (tv (wl (2 ^ P - 1)) n i)) at')) s2 → ∃ s' x', fx_bestFetch_16 fu (nI n) (nI q) (cd s2) (nI ((wl (2 ^ P - 1)).length ^ n)) (nI (i + 1)) x1 = some (cd s', x') ∧ MN (KY mk hm P) (fun A => S A ∨ AR (2 ^ P - 1) at' kd sn a q n ((List.range' i (r + 1)).map (tv (wl (2 ^ P - 1)) n)) A) s' ∧ FT 11 x x' := by
      intro s2 h2
      obtain ⟨s', x', l1, l2, l3⟩ := ih fu (i + 1) s2 _ x1 (by omega) (by omega) h2 (hX.ft k2) (hW.ft k2) h131 (hR.ftx k2)
      refine ⟨s', x', l1, l2.cong (fun b => ?_), k2.tr l3⟩
      rw [List.range'_succ, List.map_cons]
      constructor
      · rintro ((z | ⟨z1, z2⟩) | ⟨R, z1, z2⟩)
        · exact Or.inl z
        · exact Or.inr ⟨_, List.mem_cons_self, z1, z2⟩
        · exact Or.inr ⟨R, List.mem_cons_of_mem _ z1, z2⟩
      · rintro (z | ⟨R, z1, z2⟩)
        · exact Or.inl (Or.inl z)
        · rcases List.mem_cons.mp z1 with rfl | z1
          · exact Or.inl (Or.inr z2)
          · exact Or.inr ⟨R, z1, z2⟩
    by_cases he : EV (2 ^ P - 1) kd sn a n (tv (wl (2 ^ P - 1)) n i) = some q
    · have hS2 := MN.add (S' := fun A => S A ∨ (EV (2 ^ P - 1) kd sn a n (tv (wl (2 ^ P - 1)) n i) = some q ∧ A = sb (wi n 0 (tv (wl (2 ^ P - 1)) n i)) at')) hS (fun b => ⟨fun z => z.imp id And.right, fun z => z.imp id (fun e => ⟨he, e⟩)⟩) hA
      rw [if_pos he, if_neg (show ¬ (1 : Int32) = 0 by decide), Option.bind_some, lb, h131, n_sb hw]
      unfold fx_bestFetch_86 fx_bestFetch_90
      rw [nI_1]
      cases s with
      | none =>
        rw [if_pos (show cd none = -9 from rfl)]
        exact go _ hS2
      | some b =>
        have hb := (hS.1 b rfl).2
        rw [cd_s, if_neg (n9 (by omega)), cheaper_x (hR.ftx k2) hA hb, Option.bind_some]
        unfold pick at hS2
        by_cases hK : KY mk hm P (sb (wi n 0 (tv (wl (2 ^ P - 1)) n i)) at') < KY mk hm P b
        · simp only [if_pos hK] at hS2
          rw [if_pos hK, if_neg (show ¬ (1 : Int32) = 0 by decide)]
          exact go _ hS2
        · simp only [if_neg hK] at hS2
          rw [if_neg hK, if_pos rfl]
          exact go _ hS2
    · rw [if_neg he, if_pos rfl]
      unfold fx_bestFetch_90
      rw [nI_1]
      exact go s (hS.cong (fun b => ⟨Or.inl, fun z => z.resolve_right (fun e => he e.1)⟩))
theorem toFetch27 {P mk at' q : Nat} {hm kd sn : Nat → Nat} {a : TK} {m0 : St} (hq : q < 10) (c : Int32) : ∀ (r fu n : Nat) (s : Option Nat) (S : Nat → Prop) (x : St), n + r = 5 → r < fu → MN (KY mk hm P) S s → BX (2 ^ P - 1) kd sn a x → WH (wl (2 ^ P - 1)) x → x.1 13 1 = nI at' → RP P mk hm kd x m0 → ∃ s' x', fx_toFetch_27 fu (nI q) c (cd s) (nI n) x = some (fE mk hm P c s', x') ∧ MN (KY mk hm P) (fun A => S A ∨ ∃ k, n ≤ k ∧ k < 5 ∧ AR (2 ^ P - 1) at' kd sn a q k (RV (wl (2 ^ P - 1)) k) A) s' ∧ FT 11 x x' := by
  intro r
  induction r with
  | zero =>
    intro fu n s S x h1 hf hS hX hW h13 hR
    obtain ⟨fu, rfl⟩ : ∃ f, fu = f + 1 := ⟨fu - 1, by omega⟩
    rw [fx_toFetch_27, if_pos (show (4 : Int32) < nI n from nI_lt (a := 4) (by omega) (by omega))]
    refine ⟨s, x, ?_, hS.cong (fun b => ⟨Or.inl, fun z => z.resolve_right (fun ⟨k, k1, k2, _⟩ => by omega)⟩), FT.rf⟩
    cases s with
    | none => rw [if_pos (show cd none = -9 from rfl)]; rfl
    | some b =>
      have hb := (hS.1 b rfl).2
      rw [cd_s, if_neg (n9 (by omega)), hoursFor_x hR hb, Option.bind_some]
      unfold fE
      by_cases hc : c = 0
      · simp only [if_pos hc]
      · simp only [if_neg hc]
  | succ r ih =>
    intro fu n s S x h1 hf hS hX hW h13 hR
    obtain ⟨fu, rfl⟩ : ∃ f, fu = f + 1 := ⟨fu - 1, by omega⟩
    have hB := hX.2.2.2.2.2
    have hlp := len_pow hB (show n < 5 by omega)
    rw [fx_toFetch_27, if_neg (show ¬ (4 : Int32) < nI n from nI_nlt (a := 4) (b := n) (by omega) (by decide))]
    unfold fx_bestFetch
    rw [many_x hW (wl_ok _ hB).1 (by omega), Option.bind_some, lb, show (0 : Int32) = nI 0 from rfl]
    obtain ⟨s1, x1, k1, k2, k3⟩ := best16 (mk := mk) (hm := hm) (at' := at') (show n < 5 by omega) hq _ 4096 0 s S x (Nat.zero_add _) (by omega) hS hX hW h13 hR
    rw [rg_x] at k2
    rw [k1, Option.bind_some, lb, nI_1]
    obtain ⟨s', x', l1, l2, l3⟩ := ih fu (n + 1) s1 _ x1 (by omega) (by omega) k2 (hX.ft k3) (hW.ft k3) (by rw [k3.1 13 (by omega) (by omega)]; exact h13) (hR.ftx k3)
    refine ⟨s', x', l1, l2.cong (fun b => ?_), k3.tr l3⟩
    constructor
    · rintro ((z | z) | ⟨k, z1, z2, z3⟩)
      · exact Or.inl z
      · exact Or.inr ⟨n, Nat.le_refl _, by omega, z⟩
      · exact Or.inr ⟨k, by omega, z2, z3⟩
    · rintro (z | ⟨k, z1, z2, z3⟩)
      · exact Or.inl (Or.inl z)
      · by_cases e : k = n
        · subst e; exact Or.inl (Or.inr z3)
        · exact Or.inr ⟨k, by omega, z2, z3⟩
theorem fo_none {B : Nat} {kd sn : Nat → Nat} {a : TK} {n q : Nat} : ∀ L : List Nat, L.foldl (fo B kd sn a n q) none = none → ∀ R, R ∈ L → ¬ EV B kd sn a n R = some q := by
  intro L
  induction L with
  | nil => intro _ R h; cases h
  | cons r L ih =>
    intro h R hR
    rw [List.foldl_cons] at h
    by_cases he : EV B kd sn a n r = some q
    · rw [show fo B kd sn a n q none r = some r from if_pos he, fo_some] at h
      cases h
    · rw [show fo B kd sn a n q none r = none from if_neg he] at h
      rcases List.mem_cons.mp hR with rfl | z
      · exact he
      · exact ih h R z
theorem FE_9 {B : Nat} {kd sn : Nat → Nat} {a : TK} {q : Nat} : ∀ (r n : Nat), n + r = 5 → (¬ FE B kd sn a q true r n = -9 ↔ ∃ k, n ≤ k ∧ k < 5 ∧ ∃ R, R ∈ RV (wl B) k ∧ EV B kd sn a k R = some q) := by
  intro r
  induction r with
  | zero =>
    intro n h1
    exact ⟨fun z => absurd rfl z, fun ⟨k, k1, k2, _⟩ => by omega⟩
  | succ r ih =>
    intro n h1
    rw [FE]
    cases hL : LR B kd sn a q n with
    | none =>
      have hno := fo_none _ hL
      show ¬ FE B kd sn a q true r (n + 1) = -9 ↔ _
      rw [ih (n + 1) (by omega)]
      constructor
      · rintro ⟨k, k1, k2, k3⟩
        exact ⟨k, by omega, k2, k3⟩
      · rintro ⟨k, k1, k2, R, k3, k4⟩
        by_cases e : k = n
        · subst e; exact absurd k4 (hno R k3)
        · exact ⟨k, by omega, k2, R, k3, k4⟩
    | some R =>
      obtain ⟨m1, m2⟩ := fo_mem _ hL
      refine ⟨fun _ => ⟨n, Nat.le_refl _, by omega, R, m1, m2⟩, fun _ => ?_⟩
      show ¬ (if true = true then nI n else nI R) = -9
      rw [if_pos rfl]
      exact n9 (by omega)
/-- fetched, they can tell it -/
def TE (P at' : Nat) (kd sn : Nat → Nat) (a : TK) (q A : Nat) : Prop := A < 2 ^ P ∧ A &&& at' = 0 ∧ ¬ FE (at' ||| A) kd sn a q true 5 0 = -9
theorem hd_e : ∀ u, u < 64 → ∀ v, v < 64 → ((decide (0 < nI u - nI v) == decide (v < u)) && (decide (nI u - nI v = 0) == decide (u = v))) = true := by decide +kernel
theorem hd_1 {u v : Nat} (hu : u < 64) (hv : v < 64) : (0 < nI u - nI v ↔ v < u) ∧ (nI u - nI v = 0 ↔ u = v) := by
  have := hd_e u hu v hv
  rw [Bool.and_eq_true, beq_iff_eq, beq_iff_eq, decide_eq_decide, decide_eq_decide] at this
  exact this
theorem step49 {P mk : Nat} {hm kd : Nat → Nat} {x m : St} (k : Int32 → Int32 → Int32 → Int32 → St → Option (Int32 × St)) (q c : Int32) {s : Option Nat} {i : Nat} (h : RP P mk hm kd x m) (hi : i < 128) (hs : ∀ a, s = some a → a < i) (d : Prop) [Decidable d] : fm_toFetch_49 k q c (cd s) (nI i) (if d then 1 else 0) m = if d ∧ pick (KY mk hm P) s i = some i then fm_toFetch_102 k q c (cd s) (nI i) m else fm_toFetch_106 k q c (cd s) (nI i) m := by
  unfold fm_toFetch_49
  have f73 : ∀ s0, fm_toFetch_73 k q c (cd s) (nI i) (if d then 1 else 0) s0 m = if d then (if 0 < s0 then (fm_toFetch_102 k q c (cd s) (nI i) m) else (if s0 = 0 then ((fm_ones (nI i)).bind fun v92 => (fm_ones (cd s)).bind fun v96 => if v96 ≤ v92 then (fm_toFetch_106 k q c (cd s) (nI i) m) else (fm_toFetch_102 k q c (cd s) (nI i) m)) else (fm_toFetch_106 k q c (cd s) (nI i) m))) else fm_toFetch_106 k q c (cd s) (nI i) m := by
    intro s0
    unfold fm_toFetch_73
    by_cases hd : d
    · rw [if_pos hd, if_neg (show ¬ (1 : Int32) = 0 by decide), if_pos hd]
    · rw [if_neg hd, if_pos rfl, if_neg hd]
  cases s with
  | none =>
    rw [if_pos (show cd none = -9 from rfl), f73]
    by_cases hd : d
    · rw [if_pos hd, if_pos (show (0 : Int32) < 1 by decide), if_pos ⟨hd, rfl⟩]
    · rw [if_neg hd, if_neg (fun z => hd z.1)]
  | some b =>
    have hb := hs b rfl
    have u1 := HS_64 h b
    have u2 := HS_64 h i
    have p1 := pc_le b
    have p2 := pc_le i
    have hK := KY_lt (mk := mk) (hm := hm) (P := P) hi (show b < 128 by omega)
    have hp : pick (KY mk hm P) (some b) i = some i ↔ KY mk hm P i < KY mk hm P b := by
      unfold pick
      by_cases z : KY mk hm P i < KY mk hm P b
      · simp only [if_pos z]; exact ⟨fun _ => z, fun _ => trivial⟩
      · simp only [if_neg z]
        exact ⟨fun e => by have := Option.some.inj e; omega, fun e => absurd e z⟩
    obtain ⟨g1, g2⟩ := hd_1 u1 u2
    rw [cd_s, if_neg (n9 (show b < 2 ^ 31 by omega)), hoursOf_m h (by omega), Option.bind_some, hoursOf_m h hi, Option.bind_some]
    have f73' := f73 (nI (HS mk hm P b) - nI (HS mk hm P i))
    rw [cd_s] at f73'
    rw [f73']
    by_cases hd : d
    · rw [if_pos hd]
      by_cases c1 : HS mk hm P i < HS mk hm P b
      · rw [if_pos (g1.mpr c1), if_pos ⟨hd, hp.mpr (hK.mpr (Or.inl c1))⟩]
      · rw [if_neg (fun z => c1 (g1.mp z))]
        by_cases c2 : HS mk hm P b = HS mk hm P i
        · rw [if_pos (g2.mpr c2), pc_m i (by omega), pc_m b (by omega), Option.bind_some, Option.bind_some]
          by_cases c3 : pc b ≤ pc i
          · rw [if_pos (nI_le c3 (by omega)), if_neg (fun z => by have := hK.mp (hp.mp z.2); omega)]
          · rw [if_neg (nI_ge (show pc i < pc b by omega) (by omega)), if_pos ⟨hd, hp.mpr (hK.mpr (Or.inr ⟨c2.symm, Or.inl (by omega)⟩))⟩]
        · rw [if_neg (fun z => c2 (g2.mp z)), if_neg (fun z => by have := hK.mp (hp.mp z.2); omega)]
    · rw [if_neg hd, if_neg (fun z => hd z.1)]
theorem toFetch21 {P mk at' q : Nat} {hm kd sn : Nat → Nat} {a : TK} {x : St} (hq : q < 10) (hat : at' < 2 ^ P) (c : Int32) : ∀ (r fu i : Nat) (s : Option Nat) (m : St), i + r = 2 ^ P → r < fu → MN (KY mk hm P) (fun A => TE P at' kd sn a q A ∧ A < i) s → (∀ B, B < 2 ^ P → BM B kd sn a m) → m.1 3 0 = nI at' → RP P mk hm kd x m → ∃ s' m', fm_toFetch_21 fu (nI q) c (cd s) (nI i) m = some (fE mk hm P c s', m') ∧ MN (KY mk hm P) (TE P at' kd sn a q) s' ∧ TG m m' := by
  intro r
  induction r with
  | zero =>
    intro fu i s m h1 hf hS hM h3 hR
    obtain ⟨fu, rfl⟩ : ∃ f, fu = f + 1 := ⟨fu - 1, by omega⟩
    have hP := hR.1
    have h64 := p_le hP
    rw [fm_toFetch_21, hR.2.2.2.1, bit_1 (by omega), if_pos (nI_le (show 2 ^ P ≤ i by omega) (by omega))]
    refine ⟨s, m, ?_, hS.cong (fun b => ⟨And.left, fun z => ⟨z, by have := z.1; omega⟩⟩), TG.rf⟩
    cases s with
    | none => rw [if_pos (show cd none = -9 from rfl)]; rfl
    | some b =>
      have hb := (hS.1 b rfl).2
      rw [cd_s, if_neg (n9 (show b < 2 ^ 31 by omega)), hoursOf_m hR hb, Option.bind_some]
      unfold fE
      by_cases hc : c = 0
      · simp only [if_pos hc]
      · simp only [if_neg hc]
  | succ r ih =>
    intro fu i s m h1 hf hS hM h3 hR
    obtain ⟨fu, rfl⟩ : ∃ f, fu = f + 1 := ⟨fu - 1, by omega⟩
    have hP := hR.1
    have h64 := p_le hP
    have hi : i < 2 ^ P := by omega
    have g30 : ∀ m : St, m.1 3 0 = nI at' → gr (m.1 3) 54 0 = some (nI at') := fun m h => by rw [show (0 : Int32) = nI 0 from rfl, gr_n (show 0 < 54 by omega) (by decide), h]
    rw [fm_toFetch_21, hR.2.2.2.1, bit_1 (by omega), if_neg (nI_ge (show i < 2 ^ P by omega) (by omega)), g30 m h3, Option.bind_some, nA]
    have hle : i &&& at' ≤ i := Nat.and_le_left
    have e49 : (if nI (i &&& at') = 0 then fm_toFetch_49 (fm_toFetch_21 fu) (nI q) c (cd s) (nI i) 1 m else fm_toFetch_49 (fm_toFetch_21 fu) (nI q) c (cd s) (nI i) 0 m) = fm_toFetch_49 (fm_toFetch_21 fu) (nI q) c (cd s) (nI i) (if i &&& at' = 0 then 1 else 0) m := by
      by_cases z : i &&& at' = 0
      · rw [if_pos (by rw [z]; rfl), if_pos z]
      · rw [if_neg (fun (k : nI (i &&& at') = (0 : Int32)) => z ((nI_eq (b := 0) (by omega) (by decide)).mp k)), if_neg z]
    rw [e49, step49 (fm_toFetch_21 fu) (nI q) c hR (by omega) (fun b e => (hS.1 b e).1.2) (i &&& at' = 0)]
    have skip : ∀ m1 : St, TG m m1 → (TE P at' kd sn a q i → ∃ b, s = some b ∧ KY mk hm P b ≤ KY mk hm P i) → ∃ s' m', fm_toFetch_21 fu (nI q) c (cd s) (nI (i + 1)) m1 = some (fE mk hm P c s', m') ∧ MN (KY mk hm P) (TE P at' kd sn a q) s' ∧ TG m m' := by
      intro m1 f1 hno
      obtain ⟨s', m', l1, l2, l3⟩ := ih fu (i + 1) s m1 (by omega) (by omega) ⟨fun b e => ⟨⟨(hS.1 b e).1.1, by have := (hS.1 b e).1.2; omega⟩, (hS.1 b e).2⟩, fun b e => by
        by_cases z : b = i
        · subst z; exact hno e.1
        · exact hS.2 b ⟨e.1, by have := e.2; omega⟩⟩ (fun B hB => (hM B hB).tg f1) (by rw [f1.2.1 0 (by omega)]; exact h3) (hR.tgm f1)
      exact ⟨s', m', l1, l2, f1.tr l3⟩
    by_cases hd : i &&& at' = 0 ∧ pick (KY mk hm P) s i = some i
    · rw [if_pos hd]
      unfold fm_toFetch_102 fm_toFetch_107
      have hor : at' ||| i < 2 ^ P := Nat.or_lt_two_pow hat hi
      rw [if_neg (show ¬ (1 : Int32) = 0 by decide), g30 m h3, Option.bind_some, nO]
      obtain ⟨m1, l1, -, l3⟩ := layFewest_m hq (hM _ hor)
      rw [l1, Option.bind_some]
      unfold fm_toFetch_138 fm_toFetch_139
      rw [nI_1]
      by_cases hF : FE (at' ||| i) kd sn a q true 5 0 = -9
      · rw [if_pos hF]
        exact skip m1 l3 (fun z => absurd hF z.2.2)
      · rw [if_neg hF]
        have hS2 := MN.add (S' := fun A => TE P at' kd sn a q A ∧ A < i + 1) hS (fun b => ⟨fun z => by
          by_cases e : b = i
          · exact Or.inr e
          · exact Or.inl ⟨z.1, by have := z.2; omega⟩, fun z => by
          rcases z with z | rfl
          · exact ⟨z.1, by have := z.2; omega⟩
          · exact ⟨⟨hi, hd.1, hF⟩, by omega⟩⟩) (show i < 128 by omega)
        rw [hd.2] at hS2
        obtain ⟨s', m', y1, y2, y3⟩ := ih fu (i + 1) (some i) m1 (by omega) (by omega) hS2 (fun B hB => (hM B hB).tg l3) (by rw [l3.2.1 0 (by omega)]; exact h3) (hR.tgm l3)
        exact ⟨s', m', y1, y2, l3.tr y3⟩
    · rw [if_neg hd]
      unfold fm_toFetch_106 fm_toFetch_107 fm_toFetch_138 fm_toFetch_139
      rw [if_pos rfl, nI_1]
      refine skip m TG.rf (fun z => ?_)
      cases s with
      | none => exact absurd ⟨z.2.1, rfl⟩ hd
      | some b =>
        refine ⟨b, rfl, ?_⟩
        by_cases k : KY mk hm P i < KY mk hm P b
        · exact absurd ⟨z.2.1, by unfold pick; simp only [if_pos k]⟩ hd
        · omega
theorem sb0_sbs {a b : Nat} (ha : a < 128) (h : sb a b = 0) : sbs a b := by
  intro i hi
  have := sb_bit (b := b) ha i
  rw [h, Nat.zero_testBit, hi, Bool.true_and] at this
  cases hb : b.testBit i with
  | true => rfl
  | false => rw [hb] at this; cases this
theorem sbs_sb0 {a b : Nat} (ha : a < 128) (h : sbs a b) : sb a b = 0 := by
  apply Nat.eq_of_testBit_eq
  intro i
  rw [sb_bit ha, Nat.zero_testBit]
  cases hA : a.testBit i with
  | false => rfl
  | true => rw [h i hA]; rfl
theorem sbs_le {a b : Nat} (h : sbs a b) : a ≤ b := by
  have e : a &&& b = a := by
    apply Nat.eq_of_testBit_eq
    intro i
    rw [Nat.testBit_and]
    cases hA : a.testBit i with
    | false => rfl
    | true => rw [h i hA]; rfl
  rw [← e]
  exact Nat.and_le_right
theorem pl_dn {B C : Nat} {kd sn : Nat → Nat} : ∀ (ds : List Nat) (i : Nat) (a : TK), (∀ d, d ∈ ds → B.testBit (d - 1) = true) → (pl C kd sn i a ds).1 = none → pl B kd sn i a ds = pl C kd sn i a ds := by
  intro ds
  induction ds with
  | nil => intro i a _ _; rfl
  | cons d ds ih =>
    intro i a hb h
    rw [pl] at h ⊢
    rw [pl]
    cases ho : ok C kd a d with
    | false => rw [ho] at h; cases h
    | true =>
      have ho2 : ok B kd a d = true := by
        unfold ok at ho ⊢
        simp only [Bool.and_eq_true] at ho ⊢
        exact ⟨ho.1, hb d List.mem_cons_self, ho.2.2⟩
      rw [ho, if_pos rfl] at h
      rw [ho2, if_pos rfl, if_pos rfl]
      exact ih _ _ (fun e he => hb e (List.mem_cons_of_mem _ he)) h
theorem EV.dn {B C : Nat} {kd sn : Nat → Nat} {a : TK} {n R q : Nat} (hn : n < 5) (hi : ib B n R = true) (h : EV C kd sn a n R = some q) : EV B kd sn a n R = some q := by
  have h1 : (PL C kd sn a n R).1 = none := by
    unfold EV at h
    cases e : (PL C kd sn a n R).1 with
    | none => rfl
    | some z => rw [e] at h; cases h
  have h0 : ∀ d, d ∈ dl n R 0 n → B.testBit (d - 1) = true := by
    rcases (show n = 0 ∨ n = 1 ∨ n = 2 ∨ n = 3 ∨ n = 4 by omega) with rfl | rfl | rfl | rfl | rfl <;> simp [ib, Nat.div_div_eq_div_mul] at hi <;> simp [dl, hi]
  have h2 : PL B kd sn a n R = PL C kd sn a n R := pl_dn _ _ _ h0 h1
  unfold EV at h ⊢
  rw [h2]
  exact h
theorem rv_mem {B n R : Nat} : R ∈ RV (wl B) n ↔ R ∈ RV w7 n ∧ ib B n R = true := by rw [← rv_ib, List.mem_filter]
theorem rv_gdp {n R : Nat} (h : R ∈ RV w7 n) : gdp n R := by
  rw [← tv_all] at h
  obtain ⟨i, -, rfl⟩ := List.mem_map.mp h
  exact gdp_tv w7_lt n i
theorem away_sub {P at' q A : Nat} {kd sn : Nat → Nat} {a : TK} (hP : P ≤ 6) (hat : at' < 2 ^ P) (h : ∃ k, k < 5 ∧ AR (2 ^ P - 1) at' kd sn a q k (RV (wl (2 ^ P - 1)) k) A) : TE P at' kd sn a q A := by
  obtain ⟨k, hk, R, h1, h2, rfl⟩ := h
  have h64 := p_le hP
  have hE : 2 ^ P - 1 < 128 := by omega
  have hg := rv_gdp (rv_mem.mp h1).1
  have hw := wi_lt k 0 R hg (by decide)
  have hz : sb 0 (2 ^ P - 1) = 0 := Nat.le_zero.mp (sb_le 0 _)
  have hWE : sbs (wi k 0 R) (2 ^ P - 1) := sb0_sbs hw ((wi_ib hE k 0 R hg (by decide)).mpr ⟨hz, (rv_mem.mp h1).2⟩)
  have hAW : sbs (sb (wi k 0 R) at') (wi k 0 R) := fun i hi => by
    rw [sb_bit hw, Bool.and_eq_true] at hi
    exact hi.1
  have hA : sb (wi k 0 R) at' < 2 ^ P := by
    have := sbs_le (fun i hi => hWE i (hAW i hi))
    have := Nat.one_le_two_pow (n := P)
    omega
  have hor : at' ||| sb (wi k 0 R) at' < 128 := by
    have := Nat.or_lt_two_pow hat hA
    omega
  have hi : ib (at' ||| sb (wi k 0 R) at') k R = true := ((wi_ib hor k 0 R hg (by decide)).mp (sbs_sb0 hw (fun i hi => by
    rw [Nat.testBit_or, sb_bit hw, hi, Bool.true_and]
    cases at'.testBit i <;> rfl))).2
  refine ⟨hA, ?_, (FE_9 5 0 rfl).mpr ⟨k, Nat.zero_le _, hk, R, rv_mem.mpr ⟨(rv_mem.mp h1).1, hi⟩, EV.dn hk hi h2⟩⟩
  apply Nat.eq_of_testBit_eq
  intro i
  rw [Nat.testBit_and, sb_bit hw, Nat.zero_testBit]
  cases (wi k 0 R).testBit i <;> cases at'.testBit i <;> rfl
theorem away_dom {P mk at' q A : Nat} {hm kd sn : Nat → Nat} {a : TK} (hP : P ≤ 6) (hat : at' < 2 ^ P) (h : TE P at' kd sn a q A) : ∃ b, (∃ k, k < 5 ∧ AR (2 ^ P - 1) at' kd sn a q k (RV (wl (2 ^ P - 1)) k) b) ∧ KY mk hm P b ≤ KY mk hm P A := by
  obtain ⟨hA, -, hF⟩ := h
  obtain ⟨k, -, hk, R, h1, h2⟩ := (FE_9 5 0 rfl).mp hF
  have h64 := p_le hP
  have hor : at' ||| A < 2 ^ P := Nat.or_lt_two_pow hat hA
  have hsE : sbs (at' ||| A) (2 ^ P - 1) := fun i hi => bit63' (bit_P hor hi)
  have hEV := EV.mono hsE h2
  have hg := rv_gdp (rv_mem.mp h1).1
  have hw := wi_lt k 0 R hg (by decide)
  have hz : sb 0 (at' ||| A) = 0 := Nat.le_zero.mp (sb_le 0 _)
  have hW : sbs (wi k 0 R) (at' ||| A) := sb0_sbs hw ((wi_ib (by omega) k 0 R hg (by decide)).mpr ⟨hz, (rv_mem.mp h1).2⟩)
  refine ⟨sb (wi k 0 R) at', ⟨k, hk, R, rv_mem.mpr ⟨(rv_mem.mp h1).1, ev_ib hk hEV⟩, hEV, rfl⟩, ?_⟩
  have hs : sbs (sb (wi k 0 R) at') A := fun i hi => by
    rw [sb_bit hw, Bool.and_eq_true] at hi
    have h3 := hW i hi.1
    rw [Nat.testBit_or] at h3
    cases hb : at'.testBit i with
    | true => rw [hb] at hi; exact absurd hi.2 (by decide)
    | false => rw [hb, Bool.false_or] at h3; exact h3
  have e1 : HS mk hm P (sb (wi k 0 R) at') ≤ HS mk hm P A := hs_mono hs P 0 0 0 (Nat.le_refl _)
  have e2 := pc_mono hs
  have e3 := sbs_le hs
  unfold KY
  omega
theorem ca_toFetch {x m : St} (h : RR x m) (b c : Int32) : CA (fx_toFetch b c x) (fm_toFetch b c m) := by
  have hR := h
  obtain ⟨n, P, mk, ch, hm, kd, D, hB, hX, hM, hI⟩ := h.rb
  have hP6 := hB.2.1.1
  have h64 := p_le hP6
  have hat := hI.1
  unfold fx_toFetch fm_toFetch
  rcases isSense_e b with ⟨h1, h2⟩ | ⟨q, hq, rfl, h1, h2⟩
  · rw [h1, h2]
    exact ⟨_, _, _, rfl, rfl, hR⟩
  have h0 : 0 < 2 ^ P := Nat.pow_pos (by decide)
  obtain ⟨x1, e1, hW, f1⟩ := by_x (show 2 ^ P - 1 < 128 by omega) x
  have mn0 : ∀ S : Nat → Prop, (∀ a, ¬ S a) → MN (KY mk hm P) S none := fun S hs => ⟨fun a e => (by cases e), fun b e => absurd e (hs b)⟩
  have hRP1 : RP P mk hm kd x1 m := hB.2.1.fr (by rw [f1.1 0 (by omega) (by omega)]) (by rw [f1.1 0 (by omega) (by omega)]) (f1.1 2 (by omega) (by omega)) (f1.1 3 (by omega) (by omega)) rfl rfl rfl rfl
  obtain ⟨s, x', k1, k2, k3⟩ := toFetch27 (mk := mk) (hm := hm) (P := P) (at' := D.1) (m0 := m) hq c 5 4096 0 none (fun _ => False) x1 (by omega) (by omega) (mn0 _ (fun _ z => z)) ((BX.of hB hX hI (show 2 ^ P - 1 < 2 ^ P by omega)).fw f1) hW (by rw [f1.1 13 (by omega) (by omega)]; exact hX.1) hRP1
  obtain ⟨t, m', l1, l2, l3⟩ := toFetch21 (mk := mk) (hm := hm) (P := P) (at' := D.1) (x := x) hq hat c (2 ^ P) 4096 0 none m (by omega) (by omega) (mn0 _ (fun a z => absurd z.2 (Nat.not_lt_zero _))) (fun B hBB => BM.of hB hM hI hBB) hM.1 hB.2.1
  have k2' : MN (KY mk hm P) (fun A => ∃ k, k < 5 ∧ AR (2 ^ P - 1) D.1 kd D.2.2.1 D.2.2.2 q k (RV (wl (2 ^ P - 1)) k) A) s := k2.cong (fun b => ⟨fun z => by
    rcases z with z | ⟨k, z1, z2, z3⟩
    · exact z.elim
    · exact ⟨k, z2, z3⟩, fun ⟨k, z2, z3⟩ => Or.inr ⟨k, Nat.zero_le _, z2, z3⟩⟩)
  obtain rfl : s = t := MN.one KY_inj k2' l2 (fun a z => away_sub hP6 hat z) (fun a z => away_dom hP6 hat z)
  rw [h1, h2, Option.bind_some, Option.bind_some, if_neg (show ¬ (1 : Int32) = 0 by decide), if_neg (show ¬ (1 : Int32) = 0 by decide), every_x hB.2.1, Option.bind_some, e1, Option.bind_some, show (-9 : Int32) = cd none from rfl, show (0 : Int32) = nI 0 from rfl, k1, l1]
  exact ⟨_, x', m', rfl, rfl, hR.scr (f1.fq.sw.tr k3.sw) l3.sn (k3.2.trans (f1.2.trans (hB.2.2.2.2.trans l3.2.2.2.symm)))⟩
