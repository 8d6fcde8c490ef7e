/-! what both worlds hold alike: the text, the people, today, what was kept, the row of acts, the seed -/
/-- a talk: the sense, who spoke last, what was said last that is no echo, how often each spoke -/
abbrev TK : Type := Nat × Int32 × Option Nat × (Nat → Int32)
/-- a day: who is there, the hour, the sentences, the talk -/
abbrev DT : Type := Nat × Int32 × (Nat → Nat) × TK
def cd (o : Option Nat) : Int32 := match o with
  | none => -9
  | some c => nI c
def XT (t : Nat) (a : TK) (w : St) : Prop := w.1 t 0 = nI a.1 ∧ w.1 t 1 = a.2.1 ∧ w.1 t 2 = cd a.2.2.1 ∧ ∀ j, j < 6 → w.1 (t + 1) j = a.2.2.2 j
def MS (k b : Nat) (o : Option Nat) (w : St) : Prop := match o with
  | none => w.1 k (b + 24) = -9
  | some c => w.1 k (b + 24) = nI (c / 10) ∧ w.1 k (b + 25) = nI (c % 10)
def MT (k b : Nat) (a : TK) (w : St) : Prop := w.1 k (b + 22) = nI a.1 ∧ w.1 k (b + 23) = a.2.1 ∧ MS k b a.2.2.1 w ∧ ∀ j, j < 6 → w.1 k (b + 15 + j) = a.2.2.2 j
def TI (a : TK) : Prop := a.1 < 10 ∧ ∀ c, a.2.2.1 = some c → c < 30
def XD (d : Nat) (D : DT) (w : St) : Prop := w.1 d 1 = nI D.1 ∧ w.1 d 2 = D.2.1 ∧ (∀ j, j < 6 → D.2.2.1 j < 40 → w.1 (d + 3) j = nI (D.2.2.1 j)) ∧ XT (d + 1) D.2.2.2 w
def MD (k b : Nat) (D : DT) (w : St) : Prop := w.1 k b = nI D.1 ∧ w.1 k (b + 26) = D.2.1 ∧ (∀ j, j < 6 → D.2.2.1 j < 40 → w.1 k (b + 1 + j) = nI (D.2.2.1 j / 10) ∧ w.1 k (b + 8 + j) = nI (D.2.2.1 j % 10)) ∧ MT k b D.2.2.2 w
def DI (P : Nat) (D : DT) : Prop := D.1 < 2 ^ P ∧ (∀ j, j < P → D.2.2.1 j < 40) ∧ TI D.2.2.2
def RT (n : Nat) (ch : Nat → Nat) (x m : St) : Prop := n ≤ 40 ∧ x.1 0 1 = nI n ∧ m.1 0 9 = nI n ∧ ∀ j, j < n → ch j < 256 ∧ x.1 1 j = nI (ch j) ∧ m.1 5 j = nI (ch j)
def RP (P mk : Nat) (hm kd : Nat → Nat) (x m : St) : Prop := P ≤ 6 ∧ mk ≤ 9 ∧ x.1 0 3 = nI P ∧ m.1 0 0 = nI P ∧ x.1 0 2 = nI mk ∧ m.1 0 1 = nI mk ∧ (∀ j, j < 6 → hm j ≤ 9 ∧ x.1 2 j = nI (hm j) ∧ m.1 1 j = nI (hm j)) ∧ (∀ j, j < 7 → kd j ≤ 3 ∧ x.1 3 j = nI (kd j) ∧ m.1 2 j = nI (kd j)) ∧ kd 6 = 0
def RK (P : Nat) (x m : St) : Prop := ∀ s, s < 2 → (x.1 6 s = 0 ∧ m.1 10 s = 0) ∨ (x.1 6 s = 1 ∧ m.1 10 s = 1 ∧ ∃ D, XD (73 + 4 * s) D x ∧ MD 11 (27 * s) D m ∧ DI P D)
def RA (P : Nat) (x m : St) : Prop := ∃ a f nx : Nat, a ≤ 14 ∧ f < 14 ∧ nx < 14 ∧ x.1 0 9 = nI a ∧ m.1 0 12 = nI a ∧ x.1 0 8 = nI f ∧ m.1 0 13 = nI nx ∧ ∀ j, j < a → ∃ D, XD (17 + 4 * ((f + j) % 14)) D x ∧ MD 6 (27 * ((nx + 14 - a + j) % 14)) D m ∧ DI P D
def RR (x m : St) : Prop := ∃ (n P mk : Nat) (ch hm kd : Nat → Nat) (D : DT), RT n ch x m ∧ RP P mk hm kd x m ∧ XD 13 D x ∧ MD 3 0 D m ∧ DI P D ∧ RK P x m ∧ RA P x m ∧ x.2 = m.2
/-- both answer, alike, and the worlds hold alike again -/
def CA {α : Type} (f g : Option (α × St)) : Prop := ∃ (r : α) (x m : St), f = some (r, x) ∧ g = some (r, m) ∧ RR x m
theorem rr_0 : RR w0X w0M := by
  refine ⟨0, 0, 0, fun _ => 0, fun _ => 0, fun _ => 0, (0, 0, fun _ => 0, 0, -9, none, fun _ => 0), ?_, ?_, ?_, ?_, ?_, ?_, ?_, rfl⟩
  · exact ⟨by omega, rfl, rfl, fun j hj => by omega⟩
  · exact ⟨by omega, by omega, rfl, rfl, rfl, rfl, fun j hj => ⟨Nat.zero_le _, rfl, rfl⟩, fun j hj => ⟨Nat.zero_le _, rfl, rfl⟩, rfl⟩
  · refine ⟨rfl, rfl, fun j hj _ => rfl, rfl, rfl, rfl, fun j hj => rfl⟩
  · refine ⟨rfl, rfl, fun j hj _ => ?_, rfl, rfl, rfl, fun j hj => ?_⟩
    · rcases (show j = 0 ∨ j = 1 ∨ j = 2 ∨ j = 3 ∨ j = 4 ∨ j = 5 by omega) with rfl | rfl | rfl | rfl | rfl | rfl <;> exact ⟨rfl, rfl⟩
    · rcases (show j = 0 ∨ j = 1 ∨ j = 2 ∨ j = 3 ∨ j = 4 ∨ j = 5 by omega) with rfl | rfl | rfl | rfl | rfl | rfl <;> rfl
  · exact ⟨by decide, fun j hj => (show 0 < 40 by omega), by decide, fun c h => by cases h⟩
  · exact fun s hs => Or.inl ⟨rfl, rfl⟩
  · exact ⟨0, 0, 0, by omega, by omega, by omega, rfl, rfl, rfl, rfl, fun j hj => by omega⟩
