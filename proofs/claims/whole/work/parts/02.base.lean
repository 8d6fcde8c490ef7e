/-! The worlds of both sides: a row of numbers a cell, laid out once for all; every method moves the whole world of its side. -/
/-- the values of a world: for each cell its numbers, and one long -/
abbrev St : Type := (Nat → Nat → Int32) × Int64
def wr (w : St) (k i : Nat) (v : Int32) : St := (va_up w.1 k (upd (w.1 k) i v), w.2)
def wz (w : St) (v : Int64) : St := (w.1, v)
def axb (i : Int32) (n : Nat) : Bool := decide (0 ≤ i.toInt) && decide (i.toInt < (n : Int))
def gr (f : Nat → Int32) (n : Nat) (i : Int32) : Option Int32 := if axb i n = true then some (f i.toNatClampNeg) else none
def gu (w : St) (k n : Nat) (i v : Int32) : Option St := if axb i n = true then some (wr w k i.toNatClampNeg v) else none
def gq (n : Nat) (i : Int32) : Option Nat := if axb i n = true then some i.toNatClampNeg else none
def ir (x y : Int32) : Int32 := x - x / y * y
def lr (x y : Int64) : Int64 := x - x / y * y
def gd (x y : Int32) : Option Int32 := if y = 0 then none else some (x / y)
def gm (x y : Int32) : Option Int32 := if y = 0 then none else some (ir x y)
def ush (x y : Int32) : Int32 := (x.toUInt32 >>> (y.toUInt32 &&& Int32.toUInt32 31)).toInt32
def lush (x : Int64) (y : Int32) : Int64 := (x.toUInt64 >>> (y.toInt64.toUInt64 &&& Int64.toUInt64 63)).toInt64
def lshl (x : Int64) (y : Int32) : Int64 := x <<< (y.toInt64 &&& 63)
def i2c (x : Int32) : Int32 := (x.toUInt32 % 65536).toInt32
def iabs (x : Int32) : Int32 := if 0 ≤ x then x else 0 - x
def gz (v : Int32) : Option Int32 := if v = 0 ∨ v = 1 then some v else none
def lb {α : Type} {β : Type} (a : α) (f : α → β) : β := f a
theorem lb_e {α β : Type} {a : α} {f : α → β} {r : β} (h : lb a f = r) {v : α} (e : v = a) : f v = r := by rw [e]; exact h
theorem if_t {p : Prop} [Decidable p] {α : Type} {a b r : α} (h : (if p then a else b) = r) (hp : p) : a = r := by rw [if_pos hp] at h; exact h
theorem if_f {p : Prop} [Decidable p] {α : Type} {a b r : α} (h : (if p then a else b) = r) (hp : ¬ p) : b = r := by rw [if_neg hp] at h; exact h
theorem bd_e {α β : Type} {a : Option α} {f : α → Option β} {r : β} (h : a.bind f = some r) : ∃ v, a = some v ∧ f v = some r := Option.bind_eq_some_iff.mp h
theorem no_n {α : Type} {r : α} {P : Prop} (h : (none : Option α) = some r) : P := by cases h
theorem axb_in {i : Int32} {n : Nat} (h : axb i n = true) : vp_in i n := by
  simp only [axb, Bool.and_eq_true, decide_eq_true_eq] at h
  exact vp_in_iff.mpr h
theorem gr_e {f : Nat → Int32} {n : Nat} {i v : Int32} (h : gr f n i = some v) : vp_in i n ∧ f i.toNatClampNeg = v := by
  unfold gr at h
  split at h
  · rename_i hi
    exact ⟨axb_in hi, Option.some.inj h⟩
  · cases h
theorem gu_e {w w2 : St} {k n : Nat} {i v : Int32} (h : gu w k n i v = some w2) : vp_in i n ∧ wr w k i.toNatClampNeg v = w2 := by
  unfold gu at h
  split at h
  · rename_i hi
    exact ⟨axb_in hi, Option.some.inj h⟩
  · cases h
theorem gq_e {n : Nat} {i : Int32} {q : Nat} (h : gq n i = some q) : vp_in i n ∧ i.toNatClampNeg = q := by
  unfold gq at h
  split at h
  · rename_i hi
    exact ⟨axb_in hi, Option.some.inj h⟩
  · cases h
theorem gq_lt {n : Nat} {i : Int32} {q : Nat} (h : gq n i = some q) : q < n := by
  obtain ⟨h1, rfl⟩ := gq_e h
  exact Nat.not_le.mp fun z => h1 (Or.inr z)
theorem gz_e {v r : Int32} (h : gz v = some r) : v = r ∧ narrow .boolean (.int v) = .int v := by
  unfold gz at h
  split at h
  · rename_i hi
    refine ⟨Option.some.inj h, ?_⟩
    rcases hi with rfl | rfl <;> rfl
  · cases h
theorem gd_e {x y v : Int32} (h : gd x y = some v) : ¬ y = 0 ∧ x / y = v := by
  unfold gd at h
  split at h
  · cases h
  · exact ⟨by assumption, Option.some.inj h⟩
theorem gm_e {x y v : Int32} (h : gm x y = some v) : ¬ y = 0 ∧ x - x / y * y = v := by
  unfold gm at h
  split at h
  · cases h
  · exact ⟨by assumption, Option.some.inj h⟩
theorem wr_at (w : St) (k i : Nat) (v : Int32) : (wr w k i v).1 k = upd (w.1 k) i v := by simp [wr, va_up]
theorem wr_ne (w : St) {k d : Nat} (i : Nat) (v : Int32) (h : d ≠ k) : (wr w k i v).1 d = w.1 d := by simp [wr, va_up, h]
theorem wr_2 (w : St) (k i : Nat) (v : Int32) : (wr w k i v).2 = w.2 := rfl
/-- all cells of a side -/
def gl (L : Nat → Nat) (N : Nat) (cf : Nat → va_E) : va_W := (List.range N).map (fun k => (L k, cf k))
def gj (L : Nat → Nat) (N : Nat) : Prop := ∀ a b, a < N → b < N → L a = L b → a = b
def gA (L : Nat → Nat) (N : Nat) : Nat → Prop := fun q => ∃ k, k < N ∧ L k = q
theorem gl_at {L : Nat → Nat} {N : Nat} {cf : Nat → va_E} {k : Nat} {e : va_E} (hk : k < N) (he : cf k = e) : (gl L N cf)[k]? = some (L k, e) := by
  simp [gl, hk, he]
theorem gl_of {L : Nat → Nat} {N : Nat} {cf : Nat → va_E} {k : Nat} {q : Nat × va_E} (h : (gl L N cf)[k]? = some q) : k < N ∧ q = (L k, cf k) := by
  simp only [gl, List.getElem?_map, Option.map_eq_some_iff] at h
  obtain ⟨a, h1, h2⟩ := h
  have h3 : k < N := by
    have := (List.getElem?_eq_some_iff.mp h1).1
    simpa using this
  rw [List.getElem?_range h3] at h1
  cases h1
  exact ⟨h3, h2.symm⟩
theorem gl_set {L : Nat → Nat} {N : Nat} {cf cf' : Nat → va_E} {k : Nat} {e : va_E} (hk : k < N) (h1 : cf' k = e) (h2 : ∀ d, d ≠ k → cf' d = cf d) : (gl L N cf).set k (L k, e) = gl L N cf' := by
  apply List.ext_getElem?
  intro i
  rw [List.getElem?_set]
  by_cases hi : k = i
  · subst hi
    rw [if_pos rfl, if_pos (by simp [gl, hk]), gl_at hk h1]
  · rw [if_neg hi]
    simp only [gl, List.getElem?_map]
    cases h : (List.range N)[i]? with
    | none => rfl
    | some z =>
      have hz : z = i := by
        have h3 := (List.getElem?_eq_some_iff.mp h).1
        have h4 : i < N := by simpa using h3
        rw [List.getElem?_range h4] at h
        exact (Option.some.inj h).symm
      subst hz
      simp [h2 z (Ne.symm hi)]
theorem gl_D {L : Nat → Nat} {N : Nat} {cf : Nat → va_E} (hj : gj L N) : va_D (gA L N) (gl L N cf) := by
  refine ⟨fun i j x y hi hj' hxy => ?_, fun k q hk => ?_⟩
  · obtain ⟨h1, rfl⟩ := gl_of hi
    obtain ⟨h2, rfl⟩ := gl_of hj'
    exact hj _ _ h1 h2 hxy
  · obtain ⟨h1, rfl⟩ := gl_of hk
    exact ⟨k, h1, rfl⟩
/-- a world at a method's start; what else a side needs to know is X -/
def gP (D : va_G) (L : Nat → Nat) (N : Nat) (cf : Nat → va_E) (tys : List (ClassId × FieldType)) (X : State → Prop) : State → Prop := fun U => va_P D vwCl (gl L N cf) U.heap ∧ va_K D vwCl tys U ∧ X U
def gX (L : Nat → Nat) (N : Nat) (X : State → Prop) : Prop := (∀ (U : State) (g : JFrame) (mk : MethodId) (a : Array Value), X U → X (U.calling g mk a)) ∧ ∀ (s U : State) (H : Heap) (locs : List Loc), X s → va_S (gA L N) s.heap H locs → U.heap = H → s.WarmedH U.vm → X U
def qI (D : va_G) (L : Nat → Nat) (N : Nat) (cg : St → Nat → va_E) (r : Int32) (w2 : St) : Array Value → State → Outcome → State → Prop := va_Qi (fun (r2 : Int32) (u : St) => r2 = r ∧ u = w2) (fun u t => va_P D vwCl (gl L N (cg u)) t.heap) (gA L N)
def qL (D : va_G) (L : Nat → Nat) (N : Nat) (cg : St → Nat → va_E) (r : Int64) (w2 : St) : Array Value → State → Outcome → State → Prop := va_Ql (fun (r2 : Int64) (u : St) => r2 = r ∧ u = w2) (fun u t => va_P D vwCl (gl L N (cg u)) t.heap) (gA L N)
def qV (D : va_G) (L : Nat → Nat) (N : Nat) (cg : St → Nat → va_E) (w2 : St) : Array Value → State → Outcome → State → Prop := va_Qv (fun (u : St) => u = w2) (fun u t => va_P D vwCl (gl L N (cg u)) t.heap) (gA L N)
def qS (r : Int32) : Array Value → State → Outcome → State → Prop := vp_Si (fun r2 => r2 = r)
/-- what holds all through a method's body -/
def gC (cc : ByteArray) (nL : Nat) (ret : Option FieldType) (Ts : List Cond) (own : String) (p : Program) (s : State) (m : MethodId) (args : Array Value) (meth : Method) (c : Code) : Prop :=
  p.tables.exec = Jvm.exec ∧ c.code = cc ∧ meth.sig.returnType = ret ∧ c.maxLocals = nL ∧ s.vm.findClass own = some m.cls ∧ (∀ w ∈ Ts, w.before args s = true) ∧ meth.locks = false
theorem g_met {l : Launch} {y : MethodName} {ws ws' : List Cond} {cc : ByteArray} {nL : Nat} {ret : Option FieldType} {rm : Room} {av : List Value} {P : State → Prop} {Qc : Array Value → State → Outcome → State → Prop} {A : Addr → Prop}
    (hy : plainName y.cls = true) (hw : ws = Cond.code y cc nL ret :: ws') (hn : (lg_sl av).length ≤ nL)
    (body : ∀ (p : Program) (e : Env) (s : State) (m : MethodId) (below : List Frame) (meth : Method) (c : Code) (ls : Array Slot), gC cc nL ret ws y.cls p s m av.toArray meth c → P s → lv_has ls nL (lv_args 0 av) →
      W p l e rm s m av.toArray below meth c s.heap [] 0 0 (MQ below Qc av.toArray s 0 0 A) (F0 m 0 ls [])) : Met l y ws rm (va_Pc av P) Qc 0 0 A := by
  refine Met.ofW (cc := cc) (maxL := nL) (ret := ret) hy hw ?_
  intro p e s m args below meth c s₁ B hml hv
  obtain ⟨rfl, hP⟩ := hv
  have hl := lv_entry av hn
  rw [lg_entry_eq]
  exact body p e s m below meth c _ ⟨B.exec, B.bytes, B.returns, hml, findClass_of_methodNamed B.named, atoms_spec (ws := ws) B.pre, B.notSynchronized⟩ hP hl
section ZZ
variable {p : Program} {l : Launch} {e : Env} {R : Room} {s : State} {m : MethodId} {args : Array Value} {below : List Frame} {meth : Method} {c : Code} {H : Heap} {locs : List Loc} {cells slots : Nat} {Q : State → Prop}
variable {cc : ByteArray} {pc : Nat} {ls : Array Slot} {rest st0 : List Value} {D : va_G} {tys : List (ClassId × FieldType)} {L : Nat → Nat} {N : Nat} {cf : Nat → va_E} {cg : St → Nat → va_E} {H0 : Heap} {w w2 : St} {X : State → Prop}
theorem z_get (hx : p.tables.exec = Jvm.exec) (hb : c.code = cc) {own C : String} {T : u_T} {M ci index : Nat} {Ts : List Cond} (hts : ∀ w ∈ Ts, w.before args s = true) (hin : ∀ w ∈ u_ws C T M, w ∈ Ts) (hown : s.vm.findClass own = some m.cls) (hK : va_K D vwCl tys s) (hw : va_P D vwCl (gl L N cf) H) {k : Nat} (hk : k < N) {fs : List Value} (he : cf k = .inr (ci, fs)) (hc : vwCl[ci]? = some (C, T, M)) (j : Nat) (hj : j < M) (hlink : (Cond.fieldLink own index (T j).1 (T j).2.1 (T j).2.2.1).before args s = true) {v : Value} (hv : fs[j]? = some v) (hdg : decode cc pc = .ok (.getfield index, 3))
    (kk : W p l e R s m args below meth c H locs cells slots Q (F0 m (pc + 3) ls (v :: rest))) : W p l e R s m args below meth c H locs cells slots Q (F0 m pc ls (.ref (L k) :: rest)) :=
  va_get hx hb hts hin hown hK hw k (gl_at hk he) hc j hj hlink (fun _ h => h) hv hdg kk
theorem z_getN (hx : p.tables.exec = Jvm.exec) (hb : c.code = cc) {own C host : String} {T : u_T} {M ci index : Nat} {Ts : List Cond} (hts : ∀ w ∈ Ts, w.before args s = true) (hin : ∀ w ∈ u_ws C T M, w ∈ Ts) (hown : s.vm.findClass own = some m.cls) (hK : va_K D vwCl tys s) (hw : va_P D vwCl (gl L N cf) H) {k : Nat} (hk : k < N) {fs : List Value} (he : cf k = .inr (ci, fs)) (hc : vwCl[ci]? = some (C, T, M)) (j : Nat) (hj : j < M) (hlink : va_Nw (.fieldLinkNest own index (T j).1 (T j).2.1 (T j).2.2.1 host) s) {v : Value} (hv : fs[j]? = some v) (hdg : decode cc pc = .ok (.getfield index, 3))
    (kk : W p l e R s m args below meth c H locs cells slots Q (F0 m (pc + 3) ls (v :: rest))) : W p l e R s m args below meth c H locs cells slots Q (F0 m pc ls (.ref (L k) :: rest)) :=
  va_getN hx hb hts hin hown hK hw k (gl_at hk he) hc j hj (va_Nw.use rfl hlink) (fun _ h => h) hv hdg kk
theorem z_puti (hx : p.tables.exec = Jvm.exec) (hb : c.code = cc) {own C : String} {T : u_T} {M ci index : Nat} {Ts : List Cond} (hts : ∀ w ∈ Ts, w.before args s = true) (hin : ∀ w ∈ u_ws C T M, w ∈ Ts) (ty0 : Nat → FieldType) (hty : ∀ k, k < M → parseFieldDescriptor (T k).2.2.1 = some (ty0 k)) (hnm : ∀ a, a < M → ∀ b, b < M → a ≠ b → (T a).2.1 ≠ (T b).2.1) (hown : s.vm.findClass own = some m.cls) (hK : va_K D vwCl tys s) (hJ : gj L N) (hw : va_P D vwCl (gl L N (cg w)) H) (hS : va_S (gA L N) H0 H locs) {k : Nat} (hk : k < N)
    (hne : ∀ (w : St) (j : Nat) (v : Int32) (d : Nat), d ≠ k → cg (wr w k j v) d = cg w d) {fs : (Nat → Int32) → Int64 → List Value} (he : ∀ w : St, cg w k = .inr (ci, fs (w.1 k) w.2)) (hc : vwCl[ci]? = some (C, T, M)) (j : Nat) (hj : j < M) (hlink : (Cond.fieldLink own index (T j).1 (T j).2.1 (T j).2.2.1).before args s = true) (hfin : (T j).2.2.2 = false) (hd : parseFieldDescriptor (T j).2.2.1 = some .int) {v : Int32} (hset : ∀ (f : Nat → Int32) (z : Int64), j < (fs f z).length ∧ fs (upd f j v) z = (fs f z).set j (.int v))
    (hdg : decode cc pc = .ok (.putfield index, 3)) (kk : ∀ (H1 : Heap) (locs1 : List Loc), va_P D vwCl (gl L N (cg (wr w k j v))) H1 → va_S (gA L N) H0 H1 locs1 → W p l e R s m args below meth c H1 locs1 cells slots Q (F0 m (pc + 3) ls rest)) : W p l e R s m args below meth c H locs cells slots Q (F0 m pc ls (.int v :: .ref (L k) :: rest)) := by
  refine va_put (v := .int v) (ty := .int) hx hb hts hin ty0 hty hnm hown hK hw (gl_D hJ) hS k (gl_at hk (he w)) hc j hj hlink (fun _ h => h) hfin hd rfl rfl (hset _ _).1 hdg (fun H1 locs1 hP _ hS1 => ?_)
  rw [gl_set (cf' := cg (wr w k j v)) hk (by rw [he, wr_at, wr_2, (hset _ _).2]) (fun d hd => hne w j v d hd)] at hP
  exact kk H1 locs1 hP hS1
theorem z_putiN (hx : p.tables.exec = Jvm.exec) (hb : c.code = cc) {own C host : String} {T : u_T} {M ci index : Nat} {Ts : List Cond} (hts : ∀ w ∈ Ts, w.before args s = true) (hin : ∀ w ∈ u_ws C T M, w ∈ Ts) (ty0 : Nat → FieldType) (hty : ∀ k, k < M → parseFieldDescriptor (T k).2.2.1 = some (ty0 k)) (hnm : ∀ a, a < M → ∀ b, b < M → a ≠ b → (T a).2.1 ≠ (T b).2.1) (hown : s.vm.findClass own = some m.cls) (hK : va_K D vwCl tys s) (hJ : gj L N) (hw : va_P D vwCl (gl L N (cg w)) H) (hS : va_S (gA L N) H0 H locs) {k : Nat} (hk : k < N)
    (hne : ∀ (w : St) (j : Nat) (v : Int32) (d : Nat), d ≠ k → cg (wr w k j v) d = cg w d) {fs : (Nat → Int32) → Int64 → List Value} (he : ∀ w : St, cg w k = .inr (ci, fs (w.1 k) w.2)) (hc : vwCl[ci]? = some (C, T, M)) (j : Nat) (hj : j < M) (hlink : va_Nw (.fieldLinkNest own index (T j).1 (T j).2.1 (T j).2.2.1 host) s) (hfin : (T j).2.2.2 = false) (hd : parseFieldDescriptor (T j).2.2.1 = some .int) {v : Int32} (hset : ∀ (f : Nat → Int32) (z : Int64), j < (fs f z).length ∧ fs (upd f j v) z = (fs f z).set j (.int v))
    (hdg : decode cc pc = .ok (.putfield index, 3)) (kk : ∀ (H1 : Heap) (locs1 : List Loc), va_P D vwCl (gl L N (cg (wr w k j v))) H1 → va_S (gA L N) H0 H1 locs1 → W p l e R s m args below meth c H1 locs1 cells slots Q (F0 m (pc + 3) ls rest)) : W p l e R s m args below meth c H locs cells slots Q (F0 m pc ls (.int v :: .ref (L k) :: rest)) := by
  refine va_putN (v := .int v) (ty := .int) hx hb hts hin ty0 hty hnm hown hK hw (gl_D hJ) hS k (gl_at hk (he w)) hc j hj (va_Nw.use rfl hlink) (fun _ h => h) hfin hd rfl rfl (hset _ _).1 hdg (fun H1 locs1 hP _ hS1 => ?_)
  rw [gl_set (cf' := cg (wr w k j v)) hk (by rw [he, wr_at, wr_2, (hset _ _).2]) (fun d hd => hne w j v d hd)] at hP
  exact kk H1 locs1 hP hS1
theorem z_putl (hx : p.tables.exec = Jvm.exec) (hb : c.code = cc) {own C : String} {T : u_T} {M ci index : Nat} {Ts : List Cond} (hts : ∀ w ∈ Ts, w.before args s = true) (hin : ∀ w ∈ u_ws C T M, w ∈ Ts) (ty0 : Nat → FieldType) (hty : ∀ k, k < M → parseFieldDescriptor (T k).2.2.1 = some (ty0 k)) (hnm : ∀ a, a < M → ∀ b, b < M → a ≠ b → (T a).2.1 ≠ (T b).2.1) (hown : s.vm.findClass own = some m.cls) (hK : va_K D vwCl tys s) (hJ : gj L N) (hw : va_P D vwCl (gl L N (cg w)) H) (hS : va_S (gA L N) H0 H locs) {k : Nat} (hk : k < N)
    (hne : ∀ (w : St) (v : Int64) (d : Nat), d ≠ k → cg (wz w v) d = cg w d) {fs : (Nat → Int32) → Int64 → List Value} (he : ∀ w : St, cg w k = .inr (ci, fs (w.1 k) w.2)) (hc : vwCl[ci]? = some (C, T, M)) (j : Nat) (hj : j < M) (hlink : (Cond.fieldLink own index (T j).1 (T j).2.1 (T j).2.2.1).before args s = true) (hfin : (T j).2.2.2 = false) (hd : parseFieldDescriptor (T j).2.2.1 = some .long) {v : Int64} (hset : ∀ (f : Nat → Int32) (z : Int64), j < (fs f z).length ∧ fs f v = (fs f z).set j (.long v))
    (hdg : decode cc pc = .ok (.putfield index, 3)) (kk : ∀ (H1 : Heap) (locs1 : List Loc), va_P D vwCl (gl L N (cg (wz w v))) H1 → va_S (gA L N) H0 H1 locs1 → W p l e R s m args below meth c H1 locs1 cells slots Q (F0 m (pc + 3) ls rest)) : W p l e R s m args below meth c H locs cells slots Q (F0 m pc ls (.long v :: .ref (L k) :: rest)) := by
  refine va_put (v := .long v) (ty := .long) hx hb hts hin ty0 hty hnm hown hK hw (gl_D hJ) hS k (gl_at hk (he w)) hc j hj hlink (fun _ h => h) hfin hd rfl rfl (hset _ _).1 hdg (fun H1 locs1 hP _ hS1 => ?_)
  rw [gl_set (cf' := cg (wz w v)) hk (by rw [he]; show Sum.inr (ci, fs (w.1 k) v) = _; rw [(hset _ w.2).2]) (fun d hd => hne w v d hd)] at hP
  exact kk H1 locs1 hP hS1
theorem z_iald (hx : p.tables.exec = Jvm.exec) (hb : c.code = cc) (hK : va_K D vwCl tys s) (hw : va_P D vwCl (gl L N cf) H) (t0 : Nat) {k : Nat} (hk : k < N) {cA : ClassId} {n : Nat} {f : Nat → Int32} (he : cf k = .inl (cA, n, .inl f)) (ht : tys[t0]? = some (cA, .int)) {i v : Int32} (hv : gr f n i = some v) (hdg : decode cc pc = .ok (.iaload, 1))
    (kk : W p l e R s m args below meth c H locs cells slots Q (F0 m (pc + 1) ls (.int v :: rest))) : W p l e R s m args below meth c H locs cells slots Q (F0 m pc ls (.int i :: .ref (L k) :: rest)) := by
  obtain ⟨h1, rfl⟩ := gr_e hv
  exact va_iald hx hb hK hw k t0 (gl_at hk he) ht h1 hdg kk
theorem z_zald (hx : p.tables.exec = Jvm.exec) (hb : c.code = cc) (hK : va_K D vwCl tys s) (hw : va_P D vwCl (gl L N cf) H) (t0 : Nat) {k : Nat} (hk : k < N) {cA : ClassId} {n : Nat} {f : Nat → Int32} (he : cf k = .inl (cA, n, .inl f)) (ht : tys[t0]? = some (cA, .boolean)) {i v : Int32} (hv : gr f n i = some v) (hdg : decode cc pc = .ok (.baload, 1))
    (kk : W p l e R s m args below meth c H locs cells slots Q (F0 m (pc + 1) ls (.int v :: rest))) : W p l e R s m args below meth c H locs cells slots Q (F0 m pc ls (.int i :: .ref (L k) :: rest)) := by
  obtain ⟨h1, rfl⟩ := gr_e hv
  exact va_zald hx hb hK hw k t0 (gl_at hk he) ht h1 hdg kk
theorem z_cald (hx : p.tables.exec = Jvm.exec) (hb : c.code = cc) (hK : va_K D vwCl tys s) (hw : va_P D vwCl (gl L N cf) H) (t0 : Nat) {k : Nat} (hk : k < N) {cA : ClassId} {n : Nat} {f : Nat → Int32} (he : cf k = .inl (cA, n, .inl f)) (ht : tys[t0]? = some (cA, .char)) {i v : Int32} (hv : gr f n i = some v) (hdg : decode cc pc = .ok (.caload, 1))
    (kk : W p l e R s m args below meth c H locs cells slots Q (F0 m (pc + 1) ls (.int v :: rest))) : W p l e R s m args below meth c H locs cells slots Q (F0 m pc ls (.int i :: .ref (L k) :: rest)) := by
  obtain ⟨h1, rfl⟩ := gr_e hv
  exact va_cald hx hb hK hw k t0 (gl_at hk he) ht h1 hdg kk
theorem z_aald (hx : p.tables.exec = Jvm.exec) (hb : c.code = cc) (hK : va_K D vwCl tys s) (hw : va_P D vwCl (gl L N cf) H) (t0 : Nat) {k : Nat} (hk : k < N) {cA : ClassId} {C : String} {n b : Nat} (he : cf k = .inl (cA, n, .inr (.inr (.inr (.inr (fun i => some (L (b + 4 * i)))))))) (ht : tys[t0]? = some (cA, .object C)) {i : Int32} {q : Nat} (hv : gq n i = some q) (hdg : decode cc pc = .ok (.aaload, 1))
    (kk : W p l e R s m args below meth c H locs cells slots Q (F0 m (pc + 1) ls (.ref (L (b + 4 * q)) :: rest))) : W p l e R s m args below meth c H locs cells slots Q (F0 m pc ls (.int i :: .ref (L k) :: rest)) := by
  obtain ⟨h1, rfl⟩ := gq_e hv
  exact va_aldq hx hb hK hw k t0 (gl_at hk he) ht h1 hdg kk
theorem z_alen (hx : p.tables.exec = Jvm.exec) (hb : c.code = cc) (hK : va_K D vwCl tys s) (hw : va_P D vwCl (gl L N cf) H) (t0 : Nat) {k : Nat} (hk : k < N) {cA : ClassId} {a : vp_A} (he : cf k = .inl (cA, a)) {ty : FieldType} (ht : tys[t0]? = some (cA, ty)) {v : Int32} (hv : Int32.ofNat a.1 = v) (hdg : decode cc pc = .ok (.arraylength, 1))
    (kk : W p l e R s m args below meth c H locs cells slots Q (F0 m (pc + 1) ls (.int v :: rest))) : W p l e R s m args below meth c H locs cells slots Q (F0 m pc ls (.ref (L k) :: rest)) :=
  va_alen hx hb hK hw k t0 (gl_at hk he) ht hv hdg kk
theorem z_iast (hx : p.tables.exec = Jvm.exec) (hb : c.code = cc) (hK : va_K D vwCl tys s) (hJ : gj L N) (hw : va_P D vwCl (gl L N (cg w)) H) (hS : va_S (gA L N) H0 H locs) (t0 : Nat) {k : Nat} (hk : k < N) (hne : ∀ (w : St) (j : Nat) (v : Int32) (d : Nat), d ≠ k → cg (wr w k j v) d = cg w d) {cA : ClassId} {n : Nat} (he : ∀ w : St, cg w k = .inl (cA, n, .inl (w.1 k))) (ht : tys[t0]? = some (cA, .int)) {i x : Int32} (hv : gu w k n i x = some w2) (hdg : decode cc pc = .ok (.iastore, 1))
    (kk : ∀ (H1 : Heap) (locs1 : List Loc), va_P D vwCl (gl L N (cg w2)) H1 → va_S (gA L N) H0 H1 locs1 → W p l e R s m args below meth c H1 locs1 cells slots Q (F0 m (pc + 1) ls rest)) : W p l e R s m args below meth c H locs cells slots Q (F0 m pc ls (.int x :: .int i :: .ref (L k) :: rest)) := by
  obtain ⟨h1, rfl⟩ := gu_e hv
  refine va_iast hx hb hK hw (gl_D hJ) hS k t0 (gl_at hk (he w)) ht h1 hdg (fun H1 locs1 hP _ hS1 => ?_)
  rw [gl_set (cf' := cg (wr w k i.toNatClampNeg x)) hk (by rw [he, wr_at]) (fun d hd => hne w _ x d hd)] at hP
  exact kk H1 locs1 hP hS1
theorem z_zast (hx : p.tables.exec = Jvm.exec) (hb : c.code = cc) (hK : va_K D vwCl tys s) (hJ : gj L N) (hw : va_P D vwCl (gl L N (cg w)) H) (hS : va_S (gA L N) H0 H locs) (t0 : Nat) {k : Nat} (hk : k < N) (hne : ∀ (w : St) (j : Nat) (v : Int32) (d : Nat), d ≠ k → cg (wr w k j v) d = cg w d) {cA : ClassId} {n : Nat} (he : ∀ w : St, cg w k = .inl (cA, n, .inl (w.1 k))) (ht : tys[t0]? = some (cA, .boolean)) {i x : Int32} (hn : vp_nar .boolean x = x) (hv : gu w k n i x = some w2) (hdg : decode cc pc = .ok (.bastore, 1))
    (kk : ∀ (H1 : Heap) (locs1 : List Loc), va_P D vwCl (gl L N (cg w2)) H1 → va_S (gA L N) H0 H1 locs1 → W p l e R s m args below meth c H1 locs1 cells slots Q (F0 m (pc + 1) ls rest)) : W p l e R s m args below meth c H locs cells slots Q (F0 m pc ls (.int x :: .int i :: .ref (L k) :: rest)) := by
  obtain ⟨h1, rfl⟩ := gu_e hv
  refine va_zast hx hb hK hw (gl_D hJ) hS k t0 (gl_at hk (he w)) ht h1 hdg (fun H1 locs1 hP _ hS1 => ?_)
  rw [hn, gl_set (cf' := cg (wr w k i.toNatClampNeg x)) hk (by rw [he, wr_at]) (fun d hd => hne w _ x d hd)] at hP
  exact kk H1 locs1 hP hS1
theorem z_cast (hx : p.tables.exec = Jvm.exec) (hb : c.code = cc) (hK : va_K D vwCl tys s) (hJ : gj L N) (hw : va_P D vwCl (gl L N (cg w)) H) (hS : va_S (gA L N) H0 H locs) (t0 : Nat) {k : Nat} (hk : k < N) (hne : ∀ (w : St) (j : Nat) (v : Int32) (d : Nat), d ≠ k → cg (wr w k j v) d = cg w d) {cA : ClassId} {n : Nat} (he : ∀ w : St, cg w k = .inl (cA, n, .inl (w.1 k))) (ht : tys[t0]? = some (cA, .char)) {i x : Int32} (hn : vp_nar .char x = x) (hv : gu w k n i x = some w2) (hdg : decode cc pc = .ok (.castore, 1))
    (kk : ∀ (H1 : Heap) (locs1 : List Loc), va_P D vwCl (gl L N (cg w2)) H1 → va_S (gA L N) H0 H1 locs1 → W p l e R s m args below meth c H1 locs1 cells slots Q (F0 m (pc + 1) ls rest)) : W p l e R s m args below meth c H locs cells slots Q (F0 m pc ls (.int x :: .int i :: .ref (L k) :: rest)) := by
  obtain ⟨h1, rfl⟩ := gu_e hv
  refine va_cast hx hb hK hw (gl_D hJ) hS k t0 (gl_at hk (he w)) ht h1 hdg (fun H1 locs1 hP _ hS1 => ?_)
  rw [hn, gl_set (cf' := cg (wr w k i.toNatClampNeg x)) hk (by rw [he, wr_at]) (fun d hd => hne w _ x d hd)] at hP
  exact kk H1 locs1 hP hS1
theorem z_calli {r : Int32} {av : Array Value} (hr : va_Run p l e R s m args below meth c H locs cells slots 0 0 (F0 m pc ls st0) rest (qI D L N cg r w2 av) (gA L N)) (hS : va_S (gA L N) H0 H locs)
    (kk : ∀ (H1 : Heap) (locs1 : List Loc), va_P D vwCl (gl L N (cg w2)) H1 → va_S (gA L N) H0 H1 locs1 → W p l e R s m args below meth c H1 locs1 cells slots Q (F0 m (pc + 3) ls (.int r :: rest))) : W p l e R s m args below meth c H locs cells slots Q (F0 m pc ls st0) :=
  va_calli hr hS (fun _ _ h => h) (fun _ h => h) (fun r2 u t H1 locs1 ht _ hp hB _ _ hS1 => by
    obtain ⟨rfl, rfl⟩ := hp
    rw [ht] at hB
    exact kk H1 locs1 hB hS1)
theorem z_calll {r : Int64} {av : Array Value} (hr : va_Run p l e R s m args below meth c H locs cells slots 0 0 (F0 m pc ls st0) rest (qL D L N cg r w2 av) (gA L N)) (hS : va_S (gA L N) H0 H locs)
    (kk : ∀ (H1 : Heap) (locs1 : List Loc), va_P D vwCl (gl L N (cg w2)) H1 → va_S (gA L N) H0 H1 locs1 → W p l e R s m args below meth c H1 locs1 cells slots Q (F0 m (pc + 3) ls (.long r :: rest))) : W p l e R s m args below meth c H locs cells slots Q (F0 m pc ls st0) :=
  va_calll hr hS (fun _ _ h => h) (fun _ h => h) (fun r2 u t H1 locs1 ht _ hp hB _ _ hS1 => by
    obtain ⟨rfl, rfl⟩ := hp
    rw [ht] at hB
    exact kk H1 locs1 hB hS1)
theorem z_callv {av : Array Value} (hr : va_Run p l e R s m args below meth c H locs cells slots 0 0 (F0 m pc ls st0) rest (qV D L N cg w2 av) (gA L N)) (hS : va_S (gA L N) H0 H locs)
    (kk : ∀ (H1 : Heap) (locs1 : List Loc), va_P D vwCl (gl L N (cg w2)) H1 → va_S (gA L N) H0 H1 locs1 → W p l e R s m args below meth c H1 locs1 cells slots Q (F0 m (pc + 3) ls rest)) : W p l e R s m args below meth c H locs cells slots Q (F0 m pc ls st0) :=
  va_callv hr hS (fun _ _ h => h) (fun _ h => h) (fun u t H1 locs1 ht _ hp hB _ _ hS1 => by
    subst hp
    rw [ht] at hB
    exact kk H1 locs1 hB hS1)
theorem z_run {mc ms : Nat} {g : JFrame} {Qa : State → Outcome → State → Prop} {free : Addr → Prop} (h : va_Run p l e R s m args below meth c H locs cells slots mc ms g rest Qa free) : CallRun p l e R s m args below meth c H locs cells slots mc ms g rest Qa free := by
  intro T hT X
  obtain ⟨v, st₀, t, T', L, h0, X', hL, e1, -, hq, st⟩ := h T hT X
  exact ⟨v, st₀, t, T', L, h0, X', hL, e1, hq, st⟩
theorem z_calls {r : Int32} {av : Array Value} (hr : va_Run p l e R s m args below meth c H locs cells slots 0 0 (F0 m pc ls st0) rest (qS r av) (fun _ => False))
    (kk : W p l e R s m args below meth c H locs cells slots Q (F0 m (pc + 3) ls (.int r :: rest))) : W p l e R s m args below meth c H locs cells slots Q (F0 m pc ls st0) :=
  vp_callSi (z_run hr) (fun r2 hp => by subst hp; exact kk)
theorem z_blind {av : List Value} (hX : gX L N X) : FrameBlind (va_Pc av (gP D L N cf tys X)) := fun a U g mk h => ⟨h.1, h.2.1, va_K.moved (u := U) (U := U.calling g mk a) (Vm.Alike.refl U.vm) h.2.2.1, hX.1 U g mk a h.2.2.2⟩
theorem z_pre {av : List Value} (hX : gX L N X) (hK : va_K D vwCl tys s) (hE : X s) (hw : va_P D vwCl (gl L N cf) H) (hS : va_S (gA L N) s.heap H locs) : ∀ U : State, U.heap = H → s.WarmedH U.vm → va_Pc av (gP D L N cf tys X) av.toArray U := fun U hU hW => ⟨rfl, by rw [hU]; exact hw, va_K.moved hW.alike hK, hX.2 s U H locs hE hS hU hW⟩
theorem z_preV {C : String} {T : u_T} {M ci k : Nat} {fs : List Value} {As : List Value} (hX : gX L N X) (hK : va_K D vwCl tys s) (hE : X s) (hw : va_P D vwCl (gl L N cf) H) (hS : va_S (gA L N) s.heap H locs) (hk : k < N) (he : cf k = .inr (ci, fs)) (hc : vwCl[ci]? = some (C, T, M)) : PreV s H C (L k) (va_Pc (.ref (L k) :: As) (gP D L N cf tys X)) As :=
  ⟨z_blind hX, va_recv hK hw hc (gl_at hk he), z_pre hX hK hE hw hS⟩
theorem z_preS {As : List Value} (hX : gX L N X) (hK : va_K D vwCl tys s) (hE : X s) (hw : va_P D vwCl (gl L N cf) H) (hS : va_S (gA L N) s.heap H locs) : PreS s H (va_Pc As (gP D L N cf tys X)) As :=
  ⟨z_blind hX, z_pre hX hK hE hw hS⟩
theorem z_preT {As : List Value} : PreS s H (va_Pc As (fun _ => True)) As := ⟨fun _ _ _ _ h => h, fun _ _ _ => ⟨rfl, trivial⟩⟩
theorem z_iret (hx : p.tables.exec = Jvm.exec) (hb : c.code = cc) (hr : meth.sig.returnType = some .int) (hlk : meth.locks = false) {v r : Int32} (hw : va_P D vwCl (gl L N (cg w)) H) (hS : va_S (gA L N) s.heap H locs) (hf : some (v, w) = some (r, w2)) (hdg : decode cc pc = .ok (.ireturn, 1)) : W p l e R s m args below meth c H locs 0 0 (MQ below (qI D L N cg r w2) args s 0 0 (gA L N)) (F0 m pc ls [.int v]) := by
  cases hf
  exact W.iret hx hb hr (fun t ht _ => ⟨⟨v, w, rfl, ⟨rfl, rfl⟩, by show va_P D vwCl _ t.heap; rw [ht]; exact hw⟩, hS.F ht⟩) hS.2.2 hdg hlk
theorem z_zret (hx : p.tables.exec = Jvm.exec) (hb : c.code = cc) (hr : meth.sig.returnType = some .boolean) (hlk : meth.locks = false) {v r : Int32} (hn : narrow .boolean (.int v) = .int v) (hw : va_P D vwCl (gl L N (cg w)) H) (hS : va_S (gA L N) s.heap H locs) (hf : some (v, w) = some (r, w2)) (hdg : decode cc pc = .ok (.ireturn, 1)) : W p l e R s m args below meth c H locs 0 0 (MQ below (qI D L N cg r w2) args s 0 0 (gA L N)) (F0 m pc ls [.int v]) := by
  cases hf
  exact W.zret hx hb hr hn (fun t ht _ => ⟨⟨v, w, rfl, ⟨rfl, rfl⟩, by show va_P D vwCl _ t.heap; rw [ht]; exact hw⟩, hS.F ht⟩) hS.2.2 hdg hlk
theorem z_lret (hx : p.tables.exec = Jvm.exec) (hb : c.code = cc) (hr : meth.sig.returnType = some .long) (hlk : meth.locks = false) {v r : Int64} (hw : va_P D vwCl (gl L N (cg w)) H) (hS : va_S (gA L N) s.heap H locs) (hf : some (v, w) = some (r, w2)) (hdg : decode cc pc = .ok (.lreturn, 1)) : W p l e R s m args below meth c H locs 0 0 (MQ below (qL D L N cg r w2) args s 0 0 (gA L N)) (F0 m pc ls [.long v]) := by
  cases hf
  exact W.lret hx hb hr (fun t ht _ => ⟨⟨v, w, rfl, ⟨rfl, rfl⟩, by show va_P D vwCl _ t.heap; rw [ht]; exact hw⟩, hS.F ht⟩) hS.2.2 hdg hlk
theorem z_vret (hx : p.tables.exec = Jvm.exec) (hb : c.code = cc) (hr : meth.sig.returnType = none) (hlk : meth.locks = false) (hw : va_P D vwCl (gl L N (cg w)) H) (hS : va_S (gA L N) s.heap H locs) (hf : some w = some w2) (hdg : decode cc pc = .ok (.return_, 1)) : W p l e R s m args below meth c H locs 0 0 (MQ below (qV D L N cg w2) args s 0 0 (gA L N)) (F0 m pc ls []) := by
  cases hf
  exact W.vret hx hb hr (fun t ht _ => ⟨⟨w, rfl, rfl, by show va_P D vwCl _ t.heap; rw [ht]; exact hw⟩, hS.F ht⟩) hS.2.2 hdg hlk
theorem z_sret (hx : p.tables.exec = Jvm.exec) (hb : c.code = cc) (hr : meth.sig.returnType = some .int) (hlk : meth.locks = false) {v r : Int32} (hf : some v = some r) (hdg : decode cc pc = .ok (.ireturn, 1)) : W p l e R s m args below meth c s.heap [] 0 0 (MQ below (qS r) args s 0 0 (fun _ => False)) (F0 m pc ls [.int v]) := by
  cases hf
  exact W.iret hx hb hr (fun t ht _ => ⟨v, rfl, rfl, ht⟩) (fun _ h => by cases h) hdg hlk
theorem z_szret (hx : p.tables.exec = Jvm.exec) (hb : c.code = cc) (hr : meth.sig.returnType = some .boolean) (hlk : meth.locks = false) {v r : Int32} (hn : narrow .boolean (.int v) = .int v) (hf : some v = some r) (hdg : decode cc pc = .ok (.ireturn, 1)) : W p l e R s m args below meth c s.heap [] 0 0 (MQ below (qS r) args s 0 0 (fun _ => False)) (F0 m pc ls [.int v]) := by
  cases hf
  exact W.zret hx hb hr hn (fun t ht _ => ⟨v, rfl, rfl, ht⟩) (fun _ h => by cases h) hdg hlk
/-- a switch over 0 .. n-1, by what the number is -/
theorem z_out {x : Int32} {n : Nat} (hn : n < 100) (h : ∀ k, k < n → ¬ x = nI k) {hi : Int} (hh : hi = (n : Int) - 1) : x.toInt < 0 ∨ hi < x.toInt := by
  rcases Int.lt_or_le x.toInt 0 with q | q
  · exact Or.inl q
  · refine Or.inr ?_
    rcases Int.lt_or_le hi x.toInt with z | z
    · exact z
    · exfalso
      refine h x.toInt.toNat (by omega) ?_
      apply Int32.toInt_inj.mp
      rw [nI_toInt (by omega)]
      omega
end ZZ
