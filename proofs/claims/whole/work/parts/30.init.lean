/-! the makers -/
def eN (U : State) : Prop := (∀ q ∈ nwF, va_Nw (.fieldLinkNest q.1 q.2.1 q.2.2.1 q.2.2.2.1 q.2.2.2.2.1 q.2.2.2.2.2) U) ∧ ∀ q ∈ nwM, va_Nw (.methodLinkNest q.1 q.2.1 q.2.2.1 q.2.2.2) U
def iP (D : va_G) (K : Nat → ClassId) (ws : va_W) (U : State) : Prop := va_P D vwCl ws U.heap ∧ va_K D vwCl (tyG K) U ∧ va_D (fun _ => True) ws ∧ eN U ∧ va_AO RX0 U
theorem eN_call {U : State} (g : JFrame) (mk : MethodId) (a : Array Value) (h : eN U) : eN (U.calling g mk a) := ⟨fun q hq => va_Nw.same rfl (u := U) rfl (h.1 q hq), fun q hq => va_Nw.same rfl (u := U) rfl (h.2 q hq)⟩
theorem eN_warm {s U : State} (hW : s.WarmedH U.vm) (h : eN s) : eN U := ⟨fun q hq => va_Nw.warmF hW (h.1 q hq), fun q hq => va_Nw.warmM hW (h.2 q hq)⟩
theorem i_pre {D : va_G} {K : Nat → ClassId} {ws : va_W} {A : Nat → Prop} {s : State} {H : Heap} {h0 : Nat} (hP : va_P D vwCl ws H) (hD : va_D A ws) (hK : va_K D vwCl (tyG K) s) (hN : eN s) (hAO : va_AO RX0 s) : PreS s H (va_Pc [.ref h0] (fun U => U.heap.size = H.size ∧ iP D K ws U)) [.ref h0] :=
  ⟨fun a U g mk h => ⟨h.1, h.2.1, h.2.2.1, va_K.moved (u := U) (U := U.calling g mk a) (Vm.Alike.refl U.vm) h.2.2.2.1, h.2.2.2.2.1, eN_call g mk a h.2.2.2.2.2.1, va_AO.moved (u := U) (U := U.calling g mk a) (Vm.Alike.refl U.vm) h.2.2.2.2.2.2⟩, fun U hU hW => ⟨rfl, by rw [hU], by rw [hU]; exact hP, va_K.moved hW.alike hK, hD.weaken (fun _ _ _ _ => trivial), eN_warm hW hN, va_AO.moved hW.alike hAO⟩⟩
theorem kI_id {D : va_G} {K : Nat → ClassId} {s : State} {cA : ClassId} (hK : va_K D vwCl (tyG K ++ [(cA, .int)]) s) : K 0 = cA := Option.some.inj ((hK.2 0 (K 0, .int) rfl).2.symm.trans (hK.2 4 (cA, .int) rfl).2)
theorem kC_id {D : va_G} {K : Nat → ClassId} {s : State} {cA : ClassId} (hK : va_K D vwCl (tyG K ++ [(cA, .char)]) s) : K 1 = cA := Option.some.inj ((hK.2 1 (K 1, .char) rfl).2.symm.trans (hK.2 4 (cA, .char) rfl).2)
theorem kZ_id {D : va_G} {K : Nat → ClassId} {s : State} {cA : ClassId} (hK : va_K D vwCl (tyG K ++ [(cA, .boolean)]) s) : K 2 = cA := Option.some.inj ((hK.2 2 (K 2, .boolean) rfl).2.symm.trans (hK.2 4 (cA, .boolean) rfl).2)
theorem kD_id {D : va_G} {K : Nat → ClassId} {s : State} {cA : ClassId} (hK : va_K D vwCl (tyG K ++ [(cA, .object RX0)]) s) : K 3 = cA := by
  obtain ⟨_, _, -, -, -, h1⟩ := (hK.2 3 (K 3, .object RX0) rfl).2
  obtain ⟨_, _, -, -, -, h2⟩ := (hK.2 4 (cA, .object RX0) rfl).2
  exact Option.some.inj (h1.symm.trans h2)
def w0X : St := (fun k => match kX k with | 1 => (fun j => match j with | 1 => -9 | 2 => -9 | _ => 0) | _ => (fun _ => 0), 0)
def w0M : St := (fun k => match k with | 3 => upd (upd (fun _ => 0) 23 (-9)) 24 (-9) | _ => (fun _ => 0), 0)
def c0X (L : Nat → Nat) (K : Nat → ClassId) (fp fs : Nat → Option Nat) (k : Nat) : va_E := match kX k with
  | 7 => .inl (K 3, 14, .inr (.inr (.inr (.inr fp))))
  | 8 => .inl (K 3, 2, .inr (.inr (.inr (.inr fs))))
  | _ => cX L K w0X k

theorem dX2_init_0 : decode cX2_init 0 = .ok (.aload_n 0, 1) := by decide +kernel
theorem dX2_init_1 : decode cX2_init 1 = .ok (.invokespecial 3, 3) := by decide +kernel
theorem dX2_init_4 : decode cX2_init 4 = .ok (.aload_n 0, 1) := by decide +kernel
theorem dX2_init_5 : decode cX2_init 5 = .ok (.bipush (-9), 2) := by decide +kernel
theorem dX2_init_7 : decode cX2_init 7 = .ok (.putfield 9, 3) := by decide +kernel
theorem dX2_init_10 : decode cX2_init 10 = .ok (.aload_n 0, 1) := by decide +kernel
theorem dX2_init_11 : decode cX2_init 11 = .ok (.bipush (-9), 2) := by decide +kernel
theorem dX2_init_13 : decode cX2_init 13 = .ok (.putfield 15, 3) := by decide +kernel
theorem dX2_init_16 : decode cX2_init 16 = .ok (.aload_n 0, 1) := by decide +kernel
theorem dX2_init_17 : decode cX2_init 17 = .ok (.bipush 7, 2) := by decide +kernel
theorem dX2_init_19 : decode cX2_init 19 = .ok (.newarray .int, 2) := by decide +kernel
theorem dX2_init_21 : decode cX2_init 21 = .ok (.putfield 18, 3) := by decide +kernel
theorem dX2_init_24 : decode cX2_init 24 = .ok (.return_, 1) := by decide +kernel
set_option maxRecDepth 20000 in
theorem hiX2_init_X2 : ∀ w ∈ u_ws RX2 TX2 4, w ∈ wsX2_init := by decide +kernel
set_option maxHeartbeats 4000000 in
set_option maxRecDepth 100000 in
theorem kt_init (l : Launch) (D : va_G) (K : Nat → ClassId) (h0 sz : Nat) : Met l yX2_init wsX2_init ({ frames := 1, cells := 1, slots := 7, locals := 12 }) (va_Pc [.ref h0] (fun U => U.heap.size = sz ∧ iP D K [(h0, .inr (2, [.int 0, .int 0, .int 0, .null]))] U)) (va_Qv (fun _ : Nat => True) (fun u t => va_P D vwCl [(h0, .inr (2, [.int 0, .int (-9), .int (-9), .ref u])), (u, .inl (K 0, 7, .inl (fun _ => 0)))] t.heap ∧ va_D (va_A [(h0, .inr (2, [.int 0, .int 0, .int 0, .null]))] sz) [(h0, .inr (2, [.int 0, .int (-9), .int (-9), .ref u])), (u, .inl (K 0, 7, .inl (fun _ => 0)))]) (va_A [(h0, .inr (2, [.int 0, .int 0, .int 0, .null]))] sz)) 1 7 (va_A [(h0, .inr (2, [.int 0, .int 0, .int 0, .null]))] sz) := by
  refine Met.ofW (cc := cX2_init) (maxL := 1) (ret := none) (by decide) rfl ?_
  intro p e s m args below meth c s₁ B hml hv
  obtain ⟨rfl, hsz, hP, hK, hD0, hN, hAO⟩ := hv
  have hx := B.exec
  have hb := B.bytes
  have hr := B.returns
  have hts := atoms_spec (ws := wsX2_init) B.pre
  have hown : s.vm.findClass RX2 = some m.cls := findClass_of_methodNamed B.named
  have hlocks := B.notSynchronized
  have hin : meth.name = "<init>" := (name_of_methodNamed B.named B.method).1
  subst hsz
  have hD := hD0.self (sz := s.heap.size)
  generalize hAe : va_A [(h0, .inr (2, [.int 0, .int 0, .int 0, .null]))] s.heap.size = A at hD ⊢
  have hA : ∀ q : Nat, s.heap.size ≤ q → A q := fun q h => by rw [← hAe]; exact Or.inr h
  have hS : va_S A s.heap s.heap [] := va_S.rf
  have hP : va_P D vwCl [(h0, .inr (2, [.int 0, .int 0, .int 0, .null]))] s.heap := hP
  have hl := lv_entry ([.ref h0]) (n := 1) (Nat.le_of_ble_eq_true rfl)
  rw [lg_entry_eq]
  generalize (lg_sl ([.ref h0]) ++ List.replicate (1 - (lg_sl ([.ref h0])).length) Slot.unset).toArray = ls at hl ⊢
  have hl : lv_has ls 1 [(0, .ref h0)] := hl
  refine lv_aload_n hx hb dX2_init_0 rfl (lv_at hl 0 rfl) ?_
  refine W.objInit hx hb hown (hts (.methodLink RX2 3 objectInit) (by decide +kernel)) (hts (.instanceMethod objectInit) (by decide +kernel)) (hts (.code objectInit ⟨#[0xb1]⟩ 1 none) (by decide +kernel)) rfl (by rw [hml]; exact hl.1) rfl dX2_init_1 (Nat.le_of_ble_eq_true rfl) (Nat.le_of_ble_eq_true rfl) ?_
  refine W.eq (g2 := F0 m 4 ls []) rfl ?_
  refine lv_aload_n hx hb dX2_init_4 rfl (lv_at hl 0 rfl) ?_
  refine lv_bipush (v := (-9)) hx hb dX2_init_5 (by decide) ?_
  refine va_put (D := D) (ci := 2) (v := .int (-9)) (ty := .int) (C := RX2) (T := TX2) (N := 4) hx hb hts hiX2_init_X2 tyX2 tyX2_ok nmX2 hown hK hP hD hS 0 rfl rfl 1 (by decide) (hts (.fieldLink RX2 9 "OneSentence$Talk" "last" "I") (by decide +kernel)) (fun _ h9 => h9) rfl rfl rfl rfl (Nat.le_of_ble_eq_true rfl) dX2_init_7 (fun H locs hP hD hS => ?_)
  have hP : va_P D vwCl [(h0, .inr (2, [.int 0, .int (-9), .int 0, .null]))] H := hP
  have hD : va_D A [(h0, .inr (2, [.int 0, .int (-9), .int 0, .null]))] := hD
  refine lv_aload_n hx hb dX2_init_10 rfl (lv_at hl 0 rfl) ?_
  refine lv_bipush (v := (-9)) hx hb dX2_init_11 (by decide) ?_
  refine va_put (D := D) (ci := 2) (v := .int (-9)) (ty := .int) (C := RX2) (T := TX2) (N := 4) hx hb hts hiX2_init_X2 tyX2 tyX2_ok nmX2 hown hK hP hD hS 0 rfl rfl 2 (by decide) (hts (.fieldLink RX2 15 "OneSentence$Talk" "lastNoEcho" "I") (by decide +kernel)) (fun _ h9 => h9) rfl rfl rfl rfl (Nat.le_of_ble_eq_true rfl) dX2_init_13 (fun H locs hP hD hS => ?_)
  have hP : va_P D vwCl [(h0, .inr (2, [.int 0, .int (-9), .int (-9), .null]))] H := hP
  have hD : va_D A [(h0, .inr (2, [.int 0, .int (-9), .int (-9), .null]))] := hD
  refine lv_aload_n hx hb dX2_init_16 rfl (lv_at hl 0 rfl) ?_
  refine lv_bipush (v := 7) hx hb dX2_init_17 (by decide) ?_
  refine va_newa (atype := .int) (ty := .int) (a0 := (7, .inl (fun _ => 0))) (N' := 7) hx hb (hts (.arrayClass .int) (by decide +kernel)) rfl hK hP hD hS hA (fun _ => rfl) (by decide) (by decide) (by decide) (Nat.le_of_ble_eq_true rfl) (Nat.le_of_ble_eq_true rfl) dX2_init_19 (fun a19 cA H hK5 hP hD hS => ?_)
  obtain rfl := kI_id hK5
  have hP : va_P D vwCl [(h0, .inr (2, [.int 0, .int (-9), .int (-9), .null])), (a19, .inl (K 0, 7, .inl (fun _ => 0)))] H := hP
  have hD : va_D A [(h0, .inr (2, [.int 0, .int (-9), .int (-9), .null])), (a19, .inl (K 0, 7, .inl (fun _ => 0)))] := hD
  refine W.widen (k := 1) (n := 7) (by omega) (by omega) ?_
  refine va_putF (D := D) (ci := 2) (v := .ref a19) (ty := (.array .int)) (C := RX2) (T := TX2) (N := 4) hx hb hts hiX2_init_X2 tyX2 tyX2_ok nmX2 hown hK hP hD hS 0 rfl rfl 3 (by decide) (hts (.fieldLink RX2 18 "OneSentence$Talk" "times" "[I") (by decide +kernel)) (fun _ h9 => h9) rfl hin rfl rfl rfl rfl (Nat.le_of_ble_eq_true rfl) dX2_init_21 (fun H locs hP hD hS => ?_)
  have hP : va_P D vwCl [(h0, .inr (2, [.int 0, .int (-9), .int (-9), .ref a19])), (a19, .inl (K 0, 7, .inl (fun _ => 0)))] H := hP
  have hD : va_D A [(h0, .inr (2, [.int 0, .int (-9), .int (-9), .ref a19])), (a19, .inl (K 0, 7, .inl (fun _ => 0)))] := hD
  have hP9 := hP.sub (ws' := [(h0, .inr (2, [.int 0, .int (-9), .int (-9), .ref a19])), (a19, .inl (K 0, 7, .inl (fun _ => 0)))]) [0, 1] rfl
  have hD9 := hD.sub (ws' := [(h0, .inr (2, [.int 0, .int (-9), .int (-9), .ref a19])), (a19, .inl (K 0, 7, .inl (fun _ => 0)))]) [0, 1] (by decide) rfl
  exact W.vret hx hb hr (fun t ht hW => ⟨⟨a19, rfl, trivial, by rw [ht]; exact hP9, hD9⟩, hS.F ht⟩) hS.2.2 dX2_init_24
theorem dX1_init_0 : decode cX1_init 0 = .ok (.aload_n 0, 1) := by decide +kernel
theorem dX1_init_1 : decode cX1_init 1 = .ok (.invokespecial 3, 3) := by decide +kernel
theorem dX1_init_4 : decode cX1_init 4 = .ok (.aload_n 0, 1) := by decide +kernel
theorem dX1_init_5 : decode cX1_init 5 = .ok (.bipush 7, 2) := by decide +kernel
theorem dX1_init_7 : decode cX1_init 7 = .ok (.newarray .int, 2) := by decide +kernel
theorem dX1_init_9 : decode cX1_init 9 = .ok (.putfield 9, 3) := by decide +kernel
theorem dX1_init_12 : decode cX1_init 12 = .ok (.return_, 1) := by decide +kernel
set_option maxRecDepth 20000 in
theorem hiX1_init_X1 : ∀ w ∈ u_ws RX1 TX1 2, w ∈ wsX1_init := by decide +kernel
set_option maxHeartbeats 4000000 in
set_option maxRecDepth 100000 in
theorem kr_init (l : Launch) (D : va_G) (K : Nat → ClassId) (h0 sz : Nat) : Met l yX1_init wsX1_init ({ frames := 1, cells := 1, slots := 7, locals := 12 }) (va_Pc [.ref h0] (fun U => U.heap.size = sz ∧ iP D K [(h0, .inr (1, [.null, .int 0]))] U)) (va_Qv (fun _ : Nat => True) (fun u t => va_P D vwCl [(h0, .inr (1, [.ref u, .int 0])), (u, .inl (K 0, 7, .inl (fun _ => 0)))] t.heap ∧ va_D (va_A [(h0, .inr (1, [.null, .int 0]))] sz) [(h0, .inr (1, [.ref u, .int 0])), (u, .inl (K 0, 7, .inl (fun _ => 0)))]) (va_A [(h0, .inr (1, [.null, .int 0]))] sz)) 1 7 (va_A [(h0, .inr (1, [.null, .int 0]))] sz) := by
  refine Met.ofW (cc := cX1_init) (maxL := 1) (ret := none) (by decide) rfl ?_
  intro p e s m args below meth c s₁ B hml hv
  obtain ⟨rfl, hsz, hP, hK, hD0, hN, hAO⟩ := hv
  have hx := B.exec
  have hb := B.bytes
  have hr := B.returns
  have hts := atoms_spec (ws := wsX1_init) B.pre
  have hown : s.vm.findClass RX1 = some m.cls := findClass_of_methodNamed B.named
  have hlocks := B.notSynchronized
  have hin : meth.name = "<init>" := (name_of_methodNamed B.named B.method).1
  subst hsz
  have hD := hD0.self (sz := s.heap.size)
  generalize hAe : va_A [(h0, .inr (1, [.null, .int 0]))] s.heap.size = A at hD ⊢
  have hA : ∀ q : Nat, s.heap.size ≤ q → A q := fun q h => by rw [← hAe]; exact Or.inr h
  have hS : va_S A s.heap s.heap [] := va_S.rf
  have hP : va_P D vwCl [(h0, .inr (1, [.null, .int 0]))] s.heap := hP
  have hl := lv_entry ([.ref h0]) (n := 1) (Nat.le_of_ble_eq_true rfl)
  rw [lg_entry_eq]
  generalize (lg_sl ([.ref h0]) ++ List.replicate (1 - (lg_sl ([.ref h0])).length) Slot.unset).toArray = ls at hl ⊢
  have hl : lv_has ls 1 [(0, .ref h0)] := hl
  refine lv_aload_n hx hb dX1_init_0 rfl (lv_at hl 0 rfl) ?_
  refine W.objInit hx hb hown (hts (.methodLink RX1 3 objectInit) (by decide +kernel)) (hts (.instanceMethod objectInit) (by decide +kernel)) (hts (.code objectInit ⟨#[0xb1]⟩ 1 none) (by decide +kernel)) rfl (by rw [hml]; exact hl.1) rfl dX1_init_1 (Nat.le_of_ble_eq_true rfl) (Nat.le_of_ble_eq_true rfl) ?_
  refine W.eq (g2 := F0 m 4 ls []) rfl ?_
  refine lv_aload_n hx hb dX1_init_4 rfl (lv_at hl 0 rfl) ?_
  refine lv_bipush (v := 7) hx hb dX1_init_5 (by decide) ?_
  refine va_newa (atype := .int) (ty := .int) (a0 := (7, .inl (fun _ => 0))) (N' := 7) hx hb (hts (.arrayClass .int) (by decide +kernel)) rfl hK hP hD hS hA (fun _ => rfl) (by decide) (by decide) (by decide) (Nat.le_of_ble_eq_true rfl) (Nat.le_of_ble_eq_true rfl) dX1_init_7 (fun a7 cA H hK5 hP hD hS => ?_)
  obtain rfl := kI_id hK5
  have hP : va_P D vwCl [(h0, .inr (1, [.null, .int 0])), (a7, .inl (K 0, 7, .inl (fun _ => 0)))] H := hP
  have hD : va_D A [(h0, .inr (1, [.null, .int 0])), (a7, .inl (K 0, 7, .inl (fun _ => 0)))] := hD
  refine W.widen (k := 1) (n := 7) (by omega) (by omega) ?_
  refine va_putF (D := D) (ci := 1) (v := .ref a7) (ty := (.array .int)) (C := RX1) (T := TX1) (N := 2) hx hb hts hiX1_init_X1 tyX1 tyX1_ok nmX1 hown hK hP hD hS 0 rfl rfl 0 (by decide) (hts (.fieldLink RX1 9 "OneSentence$Rows" "who" "[I") (by decide +kernel)) (fun _ h9 => h9) rfl hin rfl rfl rfl rfl (Nat.le_of_ble_eq_true rfl) dX1_init_9 (fun H locs hP hD hS => ?_)
  have hP : va_P D vwCl [(h0, .inr (1, [.ref a7, .int 0])), (a7, .inl (K 0, 7, .inl (fun _ => 0)))] H := hP
  have hD : va_D A [(h0, .inr (1, [.ref a7, .int 0])), (a7, .inl (K 0, 7, .inl (fun _ => 0)))] := hD
  have hP9 := hP.sub (ws' := [(h0, .inr (1, [.ref a7, .int 0])), (a7, .inl (K 0, 7, .inl (fun _ => 0)))]) [0, 1] rfl
  have hD9 := hD.sub (ws' := [(h0, .inr (1, [.ref a7, .int 0])), (a7, .inl (K 0, 7, .inl (fun _ => 0)))]) [0, 1] (by decide) rfl
  exact W.vret hx hb hr (fun t ht hW => ⟨⟨a7, rfl, trivial, by rw [ht]; exact hP9, hD9⟩, hS.F ht⟩) hS.2.2 dX1_init_12
set_option maxRecDepth 20000 in
theorem ggX0_init_X2_init : GoodIn wsX0_init wsX2_init := goodIn_r _ [11, 12, 2, 3, 13, 14, 8, 15, 16, 17, 18, 19] (by decide +kernel) (by decide +kernel)
set_option maxRecDepth 20000 in
theorem gX0_init_X2_init_n11 : GoodIn wsX0_init (wsX2_init) := ggX0_init_X2_init
theorem dX0_init_0 : decode cX0_init 0 = .ok (.aload_n 0, 1) := by decide +kernel
theorem dX0_init_1 : decode cX0_init 1 = .ok (.invokespecial 3, 3) := by decide +kernel
theorem dX0_init_4 : decode cX0_init 4 = .ok (.aload_n 0, 1) := by decide +kernel
theorem dX0_init_5 : decode cX0_init 5 = .ok (.new 9, 3) := by decide +kernel
theorem dX0_init_8 : decode cX0_init 8 = .ok (.dup, 1) := by decide +kernel
theorem dX0_init_9 : decode cX0_init 9 = .ok (.invokespecial 11, 3) := by decide +kernel
theorem dX0_init_12 : decode cX0_init 12 = .ok (.putfield 12, 3) := by decide +kernel
theorem dX0_init_15 : decode cX0_init 15 = .ok (.aload_n 0, 1) := by decide +kernel
theorem dX0_init_16 : decode cX0_init 16 = .ok (.bipush 6, 2) := by decide +kernel
theorem dX0_init_18 : decode cX0_init 18 = .ok (.newarray .int, 2) := by decide +kernel
theorem dX0_init_20 : decode cX0_init 20 = .ok (.putfield 18, 3) := by decide +kernel
theorem dX0_init_23 : decode cX0_init 23 = .ok (.return_, 1) := by decide +kernel
set_option maxRecDepth 20000 in
theorem hiX0_init_X0 : ∀ w ∈ u_ws RX0 TX0 4, w ∈ wsX0_init := by decide +kernel
set_option maxRecDepth 20000 in
theorem hiX0_init_X2 : ∀ w ∈ u_ws RX2 TX2 4, w ∈ wsX0_init := by decide +kernel
set_option maxHeartbeats 4000000 in
set_option maxRecDepth 100000 in
theorem kd_init (l : Launch) (D : va_G) (K : Nat → ClassId) (h0 sz : Nat) : Met l yX0_init wsX0_init ({ frames := 2, cells := 3, slots := 17, locals := 32 }) (va_Pc [.ref h0] (fun U => U.heap.size = sz ∧ iP D K [(h0, .inr (0, [.null, .int 0, .int 0, .null]))] U)) (va_Qv (fun _ : Nat × Nat × Nat => True) (fun u t => va_P D vwCl [(h0, .inr (0, [.ref u.1, .int 0, .int 0, .ref u.2.2])), (u.1, .inr (2, [.int 0, .int (-9), .int (-9), .ref u.2.1])), (u.2.1, .inl (K 0, 7, .inl (fun _ => 0))), (u.2.2, .inl (K 0, 6, .inl (fun _ => 0)))] t.heap ∧ va_D (va_A [(h0, .inr (0, [.null, .int 0, .int 0, .null]))] sz) [(h0, .inr (0, [.ref u.1, .int 0, .int 0, .ref u.2.2])), (u.1, .inr (2, [.int 0, .int (-9), .int (-9), .ref u.2.1])), (u.2.1, .inl (K 0, 7, .inl (fun _ => 0))), (u.2.2, .inl (K 0, 6, .inl (fun _ => 0)))]) (va_A [(h0, .inr (0, [.null, .int 0, .int 0, .null]))] sz)) 3 17 (va_A [(h0, .inr (0, [.null, .int 0, .int 0, .null]))] sz) := by
  refine Met.ofW (cc := cX0_init) (maxL := 1) (ret := none) (by decide) rfl ?_
  intro p e s m args below meth c s₁ B hml hv
  obtain ⟨rfl, hsz, hP, hK, hD0, hN, hAO⟩ := hv
  have hx := B.exec
  have hb := B.bytes
  have hr := B.returns
  have hts := atoms_spec (ws := wsX0_init) B.pre
  have hown : s.vm.findClass RX0 = some m.cls := findClass_of_methodNamed B.named
  have hlocks := B.notSynchronized
  have hin : meth.name = "<init>" := (name_of_methodNamed B.named B.method).1
  subst hsz
  have hD := hD0.self (sz := s.heap.size)
  generalize hAe : va_A [(h0, .inr (0, [.null, .int 0, .int 0, .null]))] s.heap.size = A at hD ⊢
  have hA : ∀ q : Nat, s.heap.size ≤ q → A q := fun q h => by rw [← hAe]; exact Or.inr h
  have hS : va_S A s.heap s.heap [] := va_S.rf
  have hP : va_P D vwCl [(h0, .inr (0, [.null, .int 0, .int 0, .null]))] s.heap := hP
  have hl := lv_entry ([.ref h0]) (n := 1) (Nat.le_of_ble_eq_true rfl)
  rw [lg_entry_eq]
  generalize (lg_sl ([.ref h0]) ++ List.replicate (1 - (lg_sl ([.ref h0])).length) Slot.unset).toArray = ls at hl ⊢
  have hl : lv_has ls 1 [(0, .ref h0)] := hl
  refine lv_aload_n hx hb dX0_init_0 rfl (lv_at hl 0 rfl) ?_
  refine W.objInit hx hb hown (hts (.methodLink RX0 3 objectInit) (by decide +kernel)) (hts (.instanceMethod objectInit) (by decide +kernel)) (hts (.code objectInit ⟨#[0xb1]⟩ 1 none) (by decide +kernel)) rfl (by rw [hml]; exact hl.1) rfl dX0_init_1 (Nat.le_of_ble_eq_true rfl) (Nat.le_of_ble_eq_true rfl) ?_
  refine W.eq (g2 := F0 m 4 ls []) rfl ?_
  refine lv_aload_n hx hb dX0_init_4 rfl (lv_at hl 0 rfl) ?_
  refine va_new (ci := 2) (fs := [.int 0, .int 0, .int 0, .null]) (C := RX2) (T := TX2) (N := 4) hx hb hts hiX0_init_X2 tyX2 tyX2_ok hown (hts (.classLink RX0 9 RX2) (by decide +kernel)) (hts (.instantiable RX2 4) (by decide +kernel)) (hts (.initialized RX2) (by decide +kernel)) hK hP hD hS hA rfl (fun j hj => by rcases (show j = 0 ∨ j = 1 ∨ j = 2 ∨ j = 3 by omega) with rfl | rfl | rfl | rfl <;> rfl) (Nat.le_of_ble_eq_true rfl) (Nat.le_of_ble_eq_true rfl) dX0_init_5 (fun a5 H hP hD hS => ?_)
  have hP : va_P D vwCl [(h0, .inr (0, [.null, .int 0, .int 0, .null])), (a5, .inr (2, [.int 0, .int 0, .int 0, .null]))] H := hP
  have hD : va_D A [(h0, .inr (0, [.null, .int 0, .int 0, .null])), (a5, .inr (2, [.int 0, .int 0, .int 0, .null]))] := hD
  refine W.widen (k := 1) (n := 4) (by omega) (by omega) ?_
  refine lv_dup hx hb dX0_init_8 rfl ?_
  have hPc := hP.sub (ws' := [(a5, .inr (2, [.int 0, .int 0, .int 0, .null]))]) [1] rfl
  have hDc := hD.sub (ws' := [(a5, .inr (2, [.int 0, .int 0, .int 0, .null]))]) [1] (by decide) rfl
  have hFc := va_free (wc := [(a5, .inr (2, [.int 0, .int 0, .int 0, .null]))]) hD hS hA [1] rfl
  refine va_callv (va_runIN (As := []) (rest := [.ref a5, .ref h0]) ⟨hx, hb, hml, hown, hts⟩ (kt_init l D K a5 H.size) ⟨va_cnB 0 hts gX0_init_X2_init_n11 rfl rfl rfl (hN.2 (RX0, 11, yX2_init, "OneSentence") (by decide)) (hts (.initialized RX2) (by decide +kernel)) (by decide +kernel) ⟨Nat.le_of_ble_eq_true rfl, Nat.le_of_ble_eq_true rfl⟩, rfl, hts (.instanceMethod yX2_init) (by decide +kernel)⟩ (i_pre hPc hDc hK hN hAO) rfl rfl hl.1 rfl (lv_room (Nat.le_of_ble_eq_true rfl)) dX0_init_9 ⟨Nat.le_of_ble_eq_true rfl, Nat.le_of_ble_eq_true rfl⟩) hS (fun q _ h => hFc q h) hFc (fun u t H1 locs ht hvm _ hB hz1 hk1 hS => ?_)
  obtain ⟨a5_1, rfl⟩ : ∃ z, z = u := ⟨_, rfl⟩
  obtain ⟨hP1, hD1⟩ := hB
  rw [ht] at hP1
  obtain ⟨hP, hD⟩ := va_join (wr := [(h0, .inr (0, [.null, .int 0, .int 0, .null]))]) (w1 := [(a5, .inr (2, [.int 0, .int (-9), .int (-9), .ref a5_1])), (a5_1, .inl (K 0, 7, .inl (fun _ => 0)))]) hP hD [1] [0] rfl rfl (by decide) (by decide) hk1 hFc hP1 hD1
  generalize H1 = H at hP hS ⊢
  have hP : va_P D vwCl [(h0, .inr (0, [.null, .int 0, .int 0, .null])), (a5, .inr (2, [.int 0, .int (-9), .int (-9), .ref a5_1])), (a5_1, .inl (K 0, 7, .inl (fun _ => 0)))] H := hP
  have hD : va_D A [(h0, .inr (0, [.null, .int 0, .int 0, .null])), (a5, .inr (2, [.int 0, .int (-9), .int (-9), .ref a5_1])), (a5_1, .inl (K 0, 7, .inl (fun _ => 0)))] := hD
  refine W.widen (k := 2) (n := 11) (by omega) (by omega) ?_
  refine va_putF (D := D) (ci := 0) (v := .ref a5) (ty := (.object "OneSentence$Talk")) (C := RX0) (T := TX0) (N := 4) hx hb hts hiX0_init_X0 tyX0 tyX0_ok nmX0 hown hK hP hD hS 0 rfl rfl 0 (by decide) (hts (.fieldLink RX0 12 "OneSentence$Day" "talk" "LOneSentence$Talk;") (by decide +kernel)) (fun _ h9 => h9) rfl hin rfl rfl rfl rfl (Nat.le_of_ble_eq_true rfl) dX0_init_12 (fun H locs hP hD hS => ?_)
  have hP : va_P D vwCl [(h0, .inr (0, [.ref a5, .int 0, .int 0, .null])), (a5, .inr (2, [.int 0, .int (-9), .int (-9), .ref a5_1])), (a5_1, .inl (K 0, 7, .inl (fun _ => 0)))] H := hP
  have hD : va_D A [(h0, .inr (0, [.ref a5, .int 0, .int 0, .null])), (a5, .inr (2, [.int 0, .int (-9), .int (-9), .ref a5_1])), (a5_1, .inl (K 0, 7, .inl (fun _ => 0)))] := hD
  refine lv_aload_n hx hb dX0_init_15 rfl (lv_at hl 0 rfl) ?_
  refine lv_bipush (v := 6) hx hb dX0_init_16 (by decide) ?_
  refine va_newa (atype := .int) (ty := .int) (a0 := (6, .inl (fun _ => 0))) (N' := 6) hx hb (hts (.arrayClass .int) (by decide +kernel)) rfl hK hP hD hS hA (fun _ => rfl) (by decide) (by decide) (by decide) (Nat.le_of_ble_eq_true rfl) (Nat.le_of_ble_eq_true rfl) dX0_init_18 (fun a18 cA H hK5 hP hD hS => ?_)
  obtain rfl := kI_id hK5
  have hP : va_P D vwCl [(h0, .inr (0, [.ref a5, .int 0, .int 0, .null])), (a5, .inr (2, [.int 0, .int (-9), .int (-9), .ref a5_1])), (a5_1, .inl (K 0, 7, .inl (fun _ => 0))), (a18, .inl (K 0, 6, .inl (fun _ => 0)))] H := hP
  have hD : va_D A [(h0, .inr (0, [.ref a5, .int 0, .int 0, .null])), (a5, .inr (2, [.int 0, .int (-9), .int (-9), .ref a5_1])), (a5_1, .inl (K 0, 7, .inl (fun _ => 0))), (a18, .inl (K 0, 6, .inl (fun _ => 0)))] := hD
  refine W.widen (k := 3) (n := 17) (by omega) (by omega) ?_
  refine va_putF (D := D) (ci := 0) (v := .ref a18) (ty := (.array .int)) (C := RX0) (T := TX0) (N := 4) hx hb hts hiX0_init_X0 tyX0 tyX0_ok nmX0 hown hK hP hD hS 0 rfl rfl 3 (by decide) (hts (.fieldLink RX0 18 "OneSentence$Day" "sentence" "[I") (by decide +kernel)) (fun _ h9 => h9) rfl hin rfl rfl rfl rfl (Nat.le_of_ble_eq_true rfl) dX0_init_20 (fun H locs hP hD hS => ?_)
  have hP : va_P D vwCl [(h0, .inr (0, [.ref a5, .int 0, .int 0, .ref a18])), (a5, .inr (2, [.int 0, .int (-9), .int (-9), .ref a5_1])), (a5_1, .inl (K 0, 7, .inl (fun _ => 0))), (a18, .inl (K 0, 6, .inl (fun _ => 0)))] H := hP
  have hD : va_D A [(h0, .inr (0, [.ref a5, .int 0, .int 0, .ref a18])), (a5, .inr (2, [.int 0, .int (-9), .int (-9), .ref a5_1])), (a5_1, .inl (K 0, 7, .inl (fun _ => 0))), (a18, .inl (K 0, 6, .inl (fun _ => 0)))] := hD
  have hP9 := hP.sub (ws' := [(h0, .inr (0, [.ref a5, .int 0, .int 0, .ref a18])), (a5, .inr (2, [.int 0, .int (-9), .int (-9), .ref a5_1])), (a5_1, .inl (K 0, 7, .inl (fun _ => 0))), (a18, .inl (K 0, 6, .inl (fun _ => 0)))]) [0, 1, 2, 3] rfl
  have hD9 := hD.sub (ws' := [(h0, .inr (0, [.ref a5, .int 0, .int 0, .ref a18])), (a5, .inr (2, [.int 0, .int (-9), .int (-9), .ref a5_1])), (a5_1, .inl (K 0, 7, .inl (fun _ => 0))), (a18, .inl (K 0, 6, .inl (fun _ => 0)))]) [0, 1, 2, 3] (by decide) rfl
  exact W.vret hx hb hr (fun t ht hW => ⟨⟨(a5, a5_1, a18), rfl, trivial, by rw [ht]; exact hP9, hD9⟩, hS.F ht⟩) hS.2.2 dX0_init_23
theorem dX4_init_0 : decode cX4_init 0 = .ok (.aload_n 0, 1) := by decide +kernel
theorem dX4_init_1 : decode cX4_init 1 = .ok (.invokespecial 1, 3) := by decide +kernel
theorem dX4_init_4 : decode cX4_init 4 = .ok (.aload_n 0, 1) := by decide +kernel
theorem dX4_init_5 : decode cX4_init 5 = .ok (.bipush 6, 2) := by decide +kernel
theorem dX4_init_7 : decode cX4_init 7 = .ok (.newarray .int, 2) := by decide +kernel
theorem dX4_init_9 : decode cX4_init 9 = .ok (.putfield 7, 3) := by decide +kernel
theorem dX4_init_12 : decode cX4_init 12 = .ok (.aload_n 0, 1) := by decide +kernel
theorem dX4_init_13 : decode cX4_init 13 = .ok (.bipush 7, 2) := by decide +kernel
theorem dX4_init_15 : decode cX4_init 15 = .ok (.newarray .int, 2) := by decide +kernel
theorem dX4_init_17 : decode cX4_init 17 = .ok (.putfield 13, 3) := by decide +kernel
theorem dX4_init_20 : decode cX4_init 20 = .ok (.aload_n 0, 1) := by decide +kernel
theorem dX4_init_21 : decode cX4_init 21 = .ok (.bipush 54, 2) := by decide +kernel
theorem dX4_init_23 : decode cX4_init 23 = .ok (.newarray .int, 2) := by decide +kernel
theorem dX4_init_25 : decode cX4_init 25 = .ok (.putfield 16, 3) := by decide +kernel
theorem dX4_init_28 : decode cX4_init 28 = .ok (.aload_n 0, 1) := by decide +kernel
theorem dX4_init_29 : decode cX4_init 29 = .ok (.bipush 24, 2) := by decide +kernel
theorem dX4_init_31 : decode cX4_init 31 = .ok (.newarray .int, 2) := by decide +kernel
theorem dX4_init_33 : decode cX4_init 33 = .ok (.putfield 19, 3) := by decide +kernel
theorem dX4_init_36 : decode cX4_init 36 = .ok (.aload_n 0, 1) := by decide +kernel
theorem dX4_init_37 : decode cX4_init 37 = .ok (.bipush 40, 2) := by decide +kernel
theorem dX4_init_39 : decode cX4_init 39 = .ok (.newarray .int, 2) := by decide +kernel
theorem dX4_init_41 : decode cX4_init 41 = .ok (.putfield 22, 3) := by decide +kernel
theorem dX4_init_44 : decode cX4_init 44 = .ok (.aload_n 0, 1) := by decide +kernel
theorem dX4_init_45 : decode cX4_init 45 = .ok (.sipush 378, 3) := by decide +kernel
theorem dX4_init_48 : decode cX4_init 48 = .ok (.newarray .int, 2) := by decide +kernel
theorem dX4_init_50 : decode cX4_init 50 = .ok (.putfield 25, 3) := by decide +kernel
theorem dX4_init_53 : decode cX4_init 53 = .ok (.aload_n 0, 1) := by decide +kernel
theorem dX4_init_54 : decode cX4_init 54 = .ok (.bipush 10, 2) := by decide +kernel
theorem dX4_init_56 : decode cX4_init 56 = .ok (.newarray .int, 2) := by decide +kernel
theorem dX4_init_58 : decode cX4_init 58 = .ok (.putfield 28, 3) := by decide +kernel
theorem dX4_init_61 : decode cX4_init 61 = .ok (.aload_n 0, 1) := by decide +kernel
theorem dX4_init_62 : decode cX4_init 62 = .ok (.bipush 64, 2) := by decide +kernel
theorem dX4_init_64 : decode cX4_init 64 = .ok (.newarray .int, 2) := by decide +kernel
theorem dX4_init_66 : decode cX4_init 66 = .ok (.putfield 31, 3) := by decide +kernel
theorem dX4_init_69 : decode cX4_init 69 = .ok (.aload_n 0, 1) := by decide +kernel
theorem dX4_init_70 : decode cX4_init 70 = .ok (.bipush 16, 2) := by decide +kernel
theorem dX4_init_72 : decode cX4_init 72 = .ok (.newarray .int, 2) := by decide +kernel
theorem dX4_init_74 : decode cX4_init 74 = .ok (.putfield 34, 3) := by decide +kernel
theorem dX4_init_77 : decode cX4_init 77 = .ok (.aload_n 0, 1) := by decide +kernel
theorem dX4_init_78 : decode cX4_init 78 = .ok (.iconst 2, 1) := by decide +kernel
theorem dX4_init_79 : decode cX4_init 79 = .ok (.newarray .boolean, 2) := by decide +kernel
theorem dX4_init_81 : decode cX4_init 81 = .ok (.putfield 37, 3) := by decide +kernel
theorem dX4_init_84 : decode cX4_init 84 = .ok (.aload_n 0, 1) := by decide +kernel
theorem dX4_init_85 : decode cX4_init 85 = .ok (.bipush 54, 2) := by decide +kernel
theorem dX4_init_87 : decode cX4_init 87 = .ok (.newarray .int, 2) := by decide +kernel
theorem dX4_init_89 : decode cX4_init 89 = .ok (.putfield 41, 3) := by decide +kernel
theorem dX4_init_92 : decode cX4_init 92 = .ok (.aload_n 0, 1) := by decide +kernel
theorem dX4_init_93 : decode cX4_init 93 = .ok (.getfield 16, 3) := by decide +kernel
theorem dX4_init_96 : decode cX4_init 96 = .ok (.bipush 23, 2) := by decide +kernel
theorem dX4_init_98 : decode cX4_init 98 = .ok (.bipush (-9), 2) := by decide +kernel
theorem dX4_init_100 : decode cX4_init 100 = .ok (.iastore, 1) := by decide +kernel
theorem dX4_init_101 : decode cX4_init 101 = .ok (.aload_n 0, 1) := by decide +kernel
theorem dX4_init_102 : decode cX4_init 102 = .ok (.getfield 16, 3) := by decide +kernel
theorem dX4_init_105 : decode cX4_init 105 = .ok (.bipush 24, 2) := by decide +kernel
theorem dX4_init_107 : decode cX4_init 107 = .ok (.bipush (-9), 2) := by decide +kernel
theorem dX4_init_109 : decode cX4_init 109 = .ok (.iastore, 1) := by decide +kernel
theorem dX4_init_110 : decode cX4_init 110 = .ok (.return_, 1) := by decide +kernel
set_option maxRecDepth 20000 in
theorem hiX4_init_X4 : ∀ w ∈ u_ws RX4 TX4 24, w ∈ wsX4_init := by decide +kernel
set_option maxHeartbeats 4000000 in
set_option maxRecDepth 100000 in
theorem km_init (l : Launch) (D : va_G) (K : Nat → ClassId) (h0 sz : Nat) : Met l yX4_init wsX4_init ({ frames := 1, cells := 11, slots := 655, locals := 12 }) (va_Pc [.ref h0] (fun U => U.heap.size = sz ∧ iP D K [(h0, .inr (4, [.int 0, .int 0, .null, .null, .null, .null, .int 0, .int 0, .null, .int 0, .int 0, .int 0, .int 0, .int 0, .null, .int 0, .int 0, .int 0, .null, .null, .null, .long 0, .null, .null]))] U)) (va_Qv (fun L : Nat → Nat => L 0 = h0) (fun L t => va_P D vwCl (gl L 12 (cM L K w0M)) t.heap ∧ va_D (va_A [(h0, .inr (4, [.int 0, .int 0, .null, .null, .null, .null, .int 0, .int 0, .null, .int 0, .int 0, .int 0, .int 0, .int 0, .null, .int 0, .int 0, .int 0, .null, .null, .null, .long 0, .null, .null]))] sz) (gl L 12 (cM L K w0M))) (va_A [(h0, .inr (4, [.int 0, .int 0, .null, .null, .null, .null, .int 0, .int 0, .null, .int 0, .int 0, .int 0, .int 0, .int 0, .null, .int 0, .int 0, .int 0, .null, .null, .null, .long 0, .null, .null]))] sz)) 11 655 (va_A [(h0, .inr (4, [.int 0, .int 0, .null, .null, .null, .null, .int 0, .int 0, .null, .int 0, .int 0, .int 0, .int 0, .int 0, .null, .int 0, .int 0, .int 0, .null, .null, .null, .long 0, .null, .null]))] sz) := by
  refine Met.ofW (cc := cX4_init) (maxL := 1) (ret := none) (by decide) rfl ?_
  intro p e s m args below meth c s₁ B hml hv
  obtain ⟨rfl, hsz, hP, hK, hD0, hN, hAO⟩ := hv
  have hx := B.exec
  have hb := B.bytes
  have hr := B.returns
  have hts := atoms_spec (ws := wsX4_init) B.pre
  have hown : s.vm.findClass RX4 = some m.cls := findClass_of_methodNamed B.named
  have hlocks := B.notSynchronized
  have hin : meth.name = "<init>" := (name_of_methodNamed B.named B.method).1
  subst hsz
  have hD := hD0.self (sz := s.heap.size)
  generalize hAe : va_A [(h0, .inr (4, [.int 0, .int 0, .null, .null, .null, .null, .int 0, .int 0, .null, .int 0, .int 0, .int 0, .int 0, .int 0, .null, .int 0, .int 0, .int 0, .null, .null, .null, .long 0, .null, .null]))] s.heap.size = A at hD ⊢
  have hA : ∀ q : Nat, s.heap.size ≤ q → A q := fun q h => by rw [← hAe]; exact Or.inr h
  have hS : va_S A s.heap s.heap [] := va_S.rf
  have hP : va_P D vwCl [(h0, .inr (4, [.int 0, .int 0, .null, .null, .null, .null, .int 0, .int 0, .null, .int 0, .int 0, .int 0, .int 0, .int 0, .null, .int 0, .int 0, .int 0, .null, .null, .null, .long 0, .null, .null]))] s.heap := hP
  have hl := lv_entry ([.ref h0]) (n := 1) (Nat.le_of_ble_eq_true rfl)
  rw [lg_entry_eq]
  generalize (lg_sl ([.ref h0]) ++ List.replicate (1 - (lg_sl ([.ref h0])).length) Slot.unset).toArray = ls at hl ⊢
  have hl : lv_has ls 1 [(0, .ref h0)] := hl
  refine lv_aload_n hx hb dX4_init_0 rfl (lv_at hl 0 rfl) ?_
  refine W.objInit hx hb hown (hts (.methodLink RX4 1 objectInit) (by decide +kernel)) (hts (.instanceMethod objectInit) (by decide +kernel)) (hts (.code objectInit ⟨#[0xb1]⟩ 1 none) (by decide +kernel)) rfl (by rw [hml]; exact hl.1) rfl dX4_init_1 (Nat.le_of_ble_eq_true rfl) (Nat.le_of_ble_eq_true rfl) ?_
  refine W.eq (g2 := F0 m 4 ls []) rfl ?_
  refine lv_aload_n hx hb dX4_init_4 rfl (lv_at hl 0 rfl) ?_
  refine lv_bipush (v := 6) hx hb dX4_init_5 (by decide) ?_
  refine va_newa (atype := .int) (ty := .int) (a0 := (6, .inl (fun _ => 0))) (N' := 6) hx hb (hts (.arrayClass .int) (by decide +kernel)) rfl hK hP hD hS hA (fun _ => rfl) (by decide) (by decide) (by decide) (Nat.le_of_ble_eq_true rfl) (Nat.le_of_ble_eq_true rfl) dX4_init_7 (fun a7 cA H hK5 hP hD hS => ?_)
  obtain rfl := kI_id hK5
  have hP : va_P D vwCl [(h0, .inr (4, [.int 0, .int 0, .null, .null, .null, .null, .int 0, .int 0, .null, .int 0, .int 0, .int 0, .int 0, .int 0, .null, .int 0, .int 0, .int 0, .null, .null, .null, .long 0, .null, .null])), (a7, .inl (K 0, 6, .inl (fun _ => 0)))] H := hP
  have hD : va_D A [(h0, .inr (4, [.int 0, .int 0, .null, .null, .null, .null, .int 0, .int 0, .null, .int 0, .int 0, .int 0, .int 0, .int 0, .null, .int 0, .int 0, .int 0, .null, .null, .null, .long 0, .null, .null])), (a7, .inl (K 0, 6, .inl (fun _ => 0)))] := hD
  refine W.widen (k := 1) (n := 6) (by omega) (by omega) ?_
  refine va_putF (D := D) (ci := 4) (v := .ref a7) (ty := (.array .int)) (C := RX4) (T := TX4) (N := 24) hx hb hts hiX4_init_X4 tyX4 tyX4_ok nmX4 hown hK hP hD hS 0 rfl rfl 2 (by decide) (hts (.fieldLink RX4 7 "OneSentenceModel" "home" "[I") (by decide +kernel)) (fun _ h9 => h9) rfl hin rfl rfl rfl rfl (Nat.le_of_ble_eq_true rfl) dX4_init_9 (fun H locs hP hD hS => ?_)
  have hP : va_P D vwCl [(h0, .inr (4, [.int 0, .int 0, .ref a7, .null, .null, .null, .int 0, .int 0, .null, .int 0, .int 0, .int 0, .int 0, .int 0, .null, .int 0, .int 0, .int 0, .null, .null, .null, .long 0, .null, .null])), (a7, .inl (K 0, 6, .inl (fun _ => 0)))] H := hP
  have hD : va_D A [(h0, .inr (4, [.int 0, .int 0, .ref a7, .null, .null, .null, .int 0, .int 0, .null, .int 0, .int 0, .int 0, .int 0, .int 0, .null, .int 0, .int 0, .int 0, .null, .null, .null, .long 0, .null, .null])), (a7, .inl (K 0, 6, .inl (fun _ => 0)))] := hD
  refine lv_aload_n hx hb dX4_init_12 rfl (lv_at hl 0 rfl) ?_
  refine lv_bipush (v := 7) hx hb dX4_init_13 (by decide) ?_
  refine va_newa (atype := .int) (ty := .int) (a0 := (7, .inl (fun _ => 0))) (N' := 7) hx hb (hts (.arrayClass .int) (by decide +kernel)) rfl hK hP hD hS hA (fun _ => rfl) (by decide) (by decide) (by decide) (Nat.le_of_ble_eq_true rfl) (Nat.le_of_ble_eq_true rfl) dX4_init_15 (fun a15 cA H hK5 hP hD hS => ?_)
  obtain rfl := kI_id hK5
  have hP : va_P D vwCl [(h0, .inr (4, [.int 0, .int 0, .ref a7, .null, .null, .null, .int 0, .int 0, .null, .int 0, .int 0, .int 0, .int 0, .int 0, .null, .int 0, .int 0, .int 0, .null, .null, .null, .long 0, .null, .null])), (a7, .inl (K 0, 6, .inl (fun _ => 0))), (a15, .inl (K 0, 7, .inl (fun _ => 0)))] H := hP
  have hD : va_D A [(h0, .inr (4, [.int 0, .int 0, .ref a7, .null, .null, .null, .int 0, .int 0, .null, .int 0, .int 0, .int 0, .int 0, .int 0, .null, .int 0, .int 0, .int 0, .null, .null, .null, .long 0, .null, .null])), (a7, .inl (K 0, 6, .inl (fun _ => 0))), (a15, .inl (K 0, 7, .inl (fun _ => 0)))] := hD
  refine W.widen (k := 2) (n := 13) (by omega) (by omega) ?_
  refine va_putF (D := D) (ci := 4) (v := .ref a15) (ty := (.array .int)) (C := RX4) (T := TX4) (N := 24) hx hb hts hiX4_init_X4 tyX4 tyX4_ok nmX4 hown hK hP hD hS 0 rfl rfl 3 (by decide) (hts (.fieldLink RX4 13 "OneSentenceModel" "kind" "[I") (by decide +kernel)) (fun _ h9 => h9) rfl hin rfl rfl rfl rfl (Nat.le_of_ble_eq_true rfl) dX4_init_17 (fun H locs hP hD hS => ?_)
  have hP : va_P D vwCl [(h0, .inr (4, [.int 0, .int 0, .ref a7, .ref a15, .null, .null, .int 0, .int 0, .null, .int 0, .int 0, .int 0, .int 0, .int 0, .null, .int 0, .int 0, .int 0, .null, .null, .null, .long 0, .null, .null])), (a7, .inl (K 0, 6, .inl (fun _ => 0))), (a15, .inl (K 0, 7, .inl (fun _ => 0)))] H := hP
  have hD : va_D A [(h0, .inr (4, [.int 0, .int 0, .ref a7, .ref a15, .null, .null, .int 0, .int 0, .null, .int 0, .int 0, .int 0, .int 0, .int 0, .null, .int 0, .int 0, .int 0, .null, .null, .null, .long 0, .null, .null])), (a7, .inl (K 0, 6, .inl (fun _ => 0))), (a15, .inl (K 0, 7, .inl (fun _ => 0)))] := hD
  refine lv_aload_n hx hb dX4_init_20 rfl (lv_at hl 0 rfl) ?_
  refine lv_bipush (v := 54) hx hb dX4_init_21 (by decide) ?_
  refine va_newa (atype := .int) (ty := .int) (a0 := (54, .inl (fun _ => 0))) (N' := 54) hx hb (hts (.arrayClass .int) (by decide +kernel)) rfl hK hP hD hS hA (fun _ => rfl) (by decide) (by decide) (by decide) (Nat.le_of_ble_eq_true rfl) (Nat.le_of_ble_eq_true rfl) dX4_init_23 (fun a23 cA H hK5 hP hD hS => ?_)
  obtain rfl := kI_id hK5
  have hP : va_P D vwCl [(h0, .inr (4, [.int 0, .int 0, .ref a7, .ref a15, .null, .null, .int 0, .int 0, .null, .int 0, .int 0, .int 0, .int 0, .int 0, .null, .int 0, .int 0, .int 0, .null, .null, .null, .long 0, .null, .null])), (a7, .inl (K 0, 6, .inl (fun _ => 0))), (a15, .inl (K 0, 7, .inl (fun _ => 0))), (a23, .inl (K 0, 54, .inl (fun _ => 0)))] H := hP
  have hD : va_D A [(h0, .inr (4, [.int 0, .int 0, .ref a7, .ref a15, .null, .null, .int 0, .int 0, .null, .int 0, .int 0, .int 0, .int 0, .int 0, .null, .int 0, .int 0, .int 0, .null, .null, .null, .long 0, .null, .null])), (a7, .inl (K 0, 6, .inl (fun _ => 0))), (a15, .inl (K 0, 7, .inl (fun _ => 0))), (a23, .inl (K 0, 54, .inl (fun _ => 0)))] := hD
  refine W.widen (k := 3) (n := 67) (by omega) (by omega) ?_
  refine va_putF (D := D) (ci := 4) (v := .ref a23) (ty := (.array .int)) (C := RX4) (T := TX4) (N := 24) hx hb hts hiX4_init_X4 tyX4 tyX4_ok nmX4 hown hK hP hD hS 0 rfl rfl 4 (by decide) (hts (.fieldLink RX4 16 "OneSentenceModel" "now" "[I") (by decide +kernel)) (fun _ h9 => h9) rfl hin rfl rfl rfl rfl (Nat.le_of_ble_eq_true rfl) dX4_init_25 (fun H locs hP hD hS => ?_)
  have hP : va_P D vwCl [(h0, .inr (4, [.int 0, .int 0, .ref a7, .ref a15, .ref a23, .null, .int 0, .int 0, .null, .int 0, .int 0, .int 0, .int 0, .int 0, .null, .int 0, .int 0, .int 0, .null, .null, .null, .long 0, .null, .null])), (a7, .inl (K 0, 6, .inl (fun _ => 0))), (a15, .inl (K 0, 7, .inl (fun _ => 0))), (a23, .inl (K 0, 54, .inl (fun _ => 0)))] H := hP
  have hD : va_D A [(h0, .inr (4, [.int 0, .int 0, .ref a7, .ref a15, .ref a23, .null, .int 0, .int 0, .null, .int 0, .int 0, .int 0, .int 0, .int 0, .null, .int 0, .int 0, .int 0, .null, .null, .null, .long 0, .null, .null])), (a7, .inl (K 0, 6, .inl (fun _ => 0))), (a15, .inl (K 0, 7, .inl (fun _ => 0))), (a23, .inl (K 0, 54, .inl (fun _ => 0)))] := hD
  refine lv_aload_n hx hb dX4_init_28 rfl (lv_at hl 0 rfl) ?_
  refine lv_bipush (v := 24) hx hb dX4_init_29 (by decide) ?_
  refine va_newa (atype := .int) (ty := .int) (a0 := (24, .inl (fun _ => 0))) (N' := 24) hx hb (hts (.arrayClass .int) (by decide +kernel)) rfl hK hP hD hS hA (fun _ => rfl) (by decide) (by decide) (by decide) (Nat.le_of_ble_eq_true rfl) (Nat.le_of_ble_eq_true rfl) dX4_init_31 (fun a31 cA H hK5 hP hD hS => ?_)
  obtain rfl := kI_id hK5
  have hP : va_P D vwCl [(h0, .inr (4, [.int 0, .int 0, .ref a7, .ref a15, .ref a23, .null, .int 0, .int 0, .null, .int 0, .int 0, .int 0, .int 0, .int 0, .null, .int 0, .int 0, .int 0, .null, .null, .null, .long 0, .null, .null])), (a7, .inl (K 0, 6, .inl (fun _ => 0))), (a15, .inl (K 0, 7, .inl (fun _ => 0))), (a23, .inl (K 0, 54, .inl (fun _ => 0))), (a31, .inl (K 0, 24, .inl (fun _ => 0)))] H := hP
  have hD : va_D A [(h0, .inr (4, [.int 0, .int 0, .ref a7, .ref a15, .ref a23, .null, .int 0, .int 0, .null, .int 0, .int 0, .int 0, .int 0, .int 0, .null, .int 0, .int 0, .int 0, .null, .null, .null, .long 0, .null, .null])), (a7, .inl (K 0, 6, .inl (fun _ => 0))), (a15, .inl (K 0, 7, .inl (fun _ => 0))), (a23, .inl (K 0, 54, .inl (fun _ => 0))), (a31, .inl (K 0, 24, .inl (fun _ => 0)))] := hD
  refine W.widen (k := 4) (n := 91) (by omega) (by omega) ?_
  refine va_putF (D := D) (ci := 4) (v := .ref a31) (ty := (.array .int)) (C := RX4) (T := TX4) (N := 24) hx hb hts hiX4_init_X4 tyX4 tyX4_ok nmX4 hown hK hP hD hS 0 rfl rfl 5 (by decide) (hts (.fieldLink RX4 19 "OneSentenceModel" "readOf" "[I") (by decide +kernel)) (fun _ h9 => h9) rfl hin rfl rfl rfl rfl (Nat.le_of_ble_eq_true rfl) dX4_init_33 (fun H locs hP hD hS => ?_)
  have hP : va_P D vwCl [(h0, .inr (4, [.int 0, .int 0, .ref a7, .ref a15, .ref a23, .ref a31, .int 0, .int 0, .null, .int 0, .int 0, .int 0, .int 0, .int 0, .null, .int 0, .int 0, .int 0, .null, .null, .null, .long 0, .null, .null])), (a7, .inl (K 0, 6, .inl (fun _ => 0))), (a15, .inl (K 0, 7, .inl (fun _ => 0))), (a23, .inl (K 0, 54, .inl (fun _ => 0))), (a31, .inl (K 0, 24, .inl (fun _ => 0)))] H := hP
  have hD : va_D A [(h0, .inr (4, [.int 0, .int 0, .ref a7, .ref a15, .ref a23, .ref a31, .int 0, .int 0, .null, .int 0, .int 0, .int 0, .int 0, .int 0, .null, .int 0, .int 0, .int 0, .null, .null, .null, .long 0, .null, .null])), (a7, .inl (K 0, 6, .inl (fun _ => 0))), (a15, .inl (K 0, 7, .inl (fun _ => 0))), (a23, .inl (K 0, 54, .inl (fun _ => 0))), (a31, .inl (K 0, 24, .inl (fun _ => 0)))] := hD
  refine lv_aload_n hx hb dX4_init_36 rfl (lv_at hl 0 rfl) ?_
  refine lv_bipush (v := 40) hx hb dX4_init_37 (by decide) ?_
  refine va_newa (atype := .int) (ty := .int) (a0 := (40, .inl (fun _ => 0))) (N' := 40) hx hb (hts (.arrayClass .int) (by decide +kernel)) rfl hK hP hD hS hA (fun _ => rfl) (by decide) (by decide) (by decide) (Nat.le_of_ble_eq_true rfl) (Nat.le_of_ble_eq_true rfl) dX4_init_39 (fun a39 cA H hK5 hP hD hS => ?_)
  obtain rfl := kI_id hK5
  have hP : va_P D vwCl [(h0, .inr (4, [.int 0, .int 0, .ref a7, .ref a15, .ref a23, .ref a31, .int 0, .int 0, .null, .int 0, .int 0, .int 0, .int 0, .int 0, .null, .int 0, .int 0, .int 0, .null, .null, .null, .long 0, .null, .null])), (a7, .inl (K 0, 6, .inl (fun _ => 0))), (a15, .inl (K 0, 7, .inl (fun _ => 0))), (a23, .inl (K 0, 54, .inl (fun _ => 0))), (a31, .inl (K 0, 24, .inl (fun _ => 0))), (a39, .inl (K 0, 40, .inl (fun _ => 0)))] H := hP
  have hD : va_D A [(h0, .inr (4, [.int 0, .int 0, .ref a7, .ref a15, .ref a23, .ref a31, .int 0, .int 0, .null, .int 0, .int 0, .int 0, .int 0, .int 0, .null, .int 0, .int 0, .int 0, .null, .null, .null, .long 0, .null, .null])), (a7, .inl (K 0, 6, .inl (fun _ => 0))), (a15, .inl (K 0, 7, .inl (fun _ => 0))), (a23, .inl (K 0, 54, .inl (fun _ => 0))), (a31, .inl (K 0, 24, .inl (fun _ => 0))), (a39, .inl (K 0, 40, .inl (fun _ => 0)))] := hD
  refine W.widen (k := 5) (n := 131) (by omega) (by omega) ?_
  refine va_putF (D := D) (ci := 4) (v := .ref a39) (ty := (.array .int)) (C := RX4) (T := TX4) (N := 24) hx hb hts hiX4_init_X4 tyX4 tyX4_ok nmX4 hown hK hP hD hS 0 rfl rfl 8 (by decide) (hts (.fieldLink RX4 22 "OneSentenceModel" "text" "[I") (by decide +kernel)) (fun _ h9 => h9) rfl hin rfl rfl rfl rfl (Nat.le_of_ble_eq_true rfl) dX4_init_41 (fun H locs hP hD hS => ?_)
  have hP : va_P D vwCl [(h0, .inr (4, [.int 0, .int 0, .ref a7, .ref a15, .ref a23, .ref a31, .int 0, .int 0, .ref a39, .int 0, .int 0, .int 0, .int 0, .int 0, .null, .int 0, .int 0, .int 0, .null, .null, .null, .long 0, .null, .null])), (a7, .inl (K 0, 6, .inl (fun _ => 0))), (a15, .inl (K 0, 7, .inl (fun _ => 0))), (a23, .inl (K 0, 54, .inl (fun _ => 0))), (a31, .inl (K 0, 24, .inl (fun _ => 0))), (a39, .inl (K 0, 40, .inl (fun _ => 0)))] H := hP
  have hD : va_D A [(h0, .inr (4, [.int 0, .int 0, .ref a7, .ref a15, .ref a23, .ref a31, .int 0, .int 0, .ref a39, .int 0, .int 0, .int 0, .int 0, .int 0, .null, .int 0, .int 0, .int 0, .null, .null, .null, .long 0, .null, .null])), (a7, .inl (K 0, 6, .inl (fun _ => 0))), (a15, .inl (K 0, 7, .inl (fun _ => 0))), (a23, .inl (K 0, 54, .inl (fun _ => 0))), (a31, .inl (K 0, 24, .inl (fun _ => 0))), (a39, .inl (K 0, 40, .inl (fun _ => 0)))] := hD
  refine lv_aload_n hx hb dX4_init_44 rfl (lv_at hl 0 rfl) ?_
  refine lv_sipush (v := 378) hx hb dX4_init_45 (by decide) ?_
  refine va_newa (atype := .int) (ty := .int) (a0 := (378, .inl (fun _ => 0))) (N' := 378) hx hb (hts (.arrayClass .int) (by decide +kernel)) rfl hK hP hD hS hA (fun _ => rfl) (by decide) (by decide) (by decide) (Nat.le_of_ble_eq_true rfl) (Nat.le_of_ble_eq_true rfl) dX4_init_48 (fun a48 cA H hK5 hP hD hS => ?_)
  obtain rfl := kI_id hK5
  have hP : va_P D vwCl [(h0, .inr (4, [.int 0, .int 0, .ref a7, .ref a15, .ref a23, .ref a31, .int 0, .int 0, .ref a39, .int 0, .int 0, .int 0, .int 0, .int 0, .null, .int 0, .int 0, .int 0, .null, .null, .null, .long 0, .null, .null])), (a7, .inl (K 0, 6, .inl (fun _ => 0))), (a15, .inl (K 0, 7, .inl (fun _ => 0))), (a23, .inl (K 0, 54, .inl (fun _ => 0))), (a31, .inl (K 0, 24, .inl (fun _ => 0))), (a39, .inl (K 0, 40, .inl (fun _ => 0))), (a48, .inl (K 0, 378, .inl (fun _ => 0)))] H := hP
  have hD : va_D A [(h0, .inr (4, [.int 0, .int 0, .ref a7, .ref a15, .ref a23, .ref a31, .int 0, .int 0, .ref a39, .int 0, .int 0, .int 0, .int 0, .int 0, .null, .int 0, .int 0, .int 0, .null, .null, .null, .long 0, .null, .null])), (a7, .inl (K 0, 6, .inl (fun _ => 0))), (a15, .inl (K 0, 7, .inl (fun _ => 0))), (a23, .inl (K 0, 54, .inl (fun _ => 0))), (a31, .inl (K 0, 24, .inl (fun _ => 0))), (a39, .inl (K 0, 40, .inl (fun _ => 0))), (a48, .inl (K 0, 378, .inl (fun _ => 0)))] := hD
  refine W.widen (k := 6) (n := 509) (by omega) (by omega) ?_
  refine va_putF (D := D) (ci := 4) (v := .ref a48) (ty := (.array .int)) (C := RX4) (T := TX4) (N := 24) hx hb hts hiX4_init_X4 tyX4 tyX4_ok nmX4 hown hK hP hD hS 0 rfl rfl 14 (by decide) (hts (.fieldLink RX4 25 "OneSentenceModel" "row" "[I") (by decide +kernel)) (fun _ h9 => h9) rfl hin rfl rfl rfl rfl (Nat.le_of_ble_eq_true rfl) dX4_init_50 (fun H locs hP hD hS => ?_)
  have hP : va_P D vwCl [(h0, .inr (4, [.int 0, .int 0, .ref a7, .ref a15, .ref a23, .ref a31, .int 0, .int 0, .ref a39, .int 0, .int 0, .int 0, .int 0, .int 0, .ref a48, .int 0, .int 0, .int 0, .null, .null, .null, .long 0, .null, .null])), (a7, .inl (K 0, 6, .inl (fun _ => 0))), (a15, .inl (K 0, 7, .inl (fun _ => 0))), (a23, .inl (K 0, 54, .inl (fun _ => 0))), (a31, .inl (K 0, 24, .inl (fun _ => 0))), (a39, .inl (K 0, 40, .inl (fun _ => 0))), (a48, .inl (K 0, 378, .inl (fun _ => 0)))] H := hP
  have hD : va_D A [(h0, .inr (4, [.int 0, .int 0, .ref a7, .ref a15, .ref a23, .ref a31, .int 0, .int 0, .ref a39, .int 0, .int 0, .int 0, .int 0, .int 0, .ref a48, .int 0, .int 0, .int 0, .null, .null, .null, .long 0, .null, .null])), (a7, .inl (K 0, 6, .inl (fun _ => 0))), (a15, .inl (K 0, 7, .inl (fun _ => 0))), (a23, .inl (K 0, 54, .inl (fun _ => 0))), (a31, .inl (K 0, 24, .inl (fun _ => 0))), (a39, .inl (K 0, 40, .inl (fun _ => 0))), (a48, .inl (K 0, 378, .inl (fun _ => 0)))] := hD
  refine lv_aload_n hx hb dX4_init_53 rfl (lv_at hl 0 rfl) ?_
  refine lv_bipush (v := 10) hx hb dX4_init_54 (by decide) ?_
  refine va_newa (atype := .int) (ty := .int) (a0 := (10, .inl (fun _ => 0))) (N' := 10) hx hb (hts (.arrayClass .int) (by decide +kernel)) rfl hK hP hD hS hA (fun _ => rfl) (by decide) (by decide) (by decide) (Nat.le_of_ble_eq_true rfl) (Nat.le_of_ble_eq_true rfl) dX4_init_56 (fun a56 cA H hK5 hP hD hS => ?_)
  obtain rfl := kI_id hK5
  have hP : va_P D vwCl [(h0, .inr (4, [.int 0, .int 0, .ref a7, .ref a15, .ref a23, .ref a31, .int 0, .int 0, .ref a39, .int 0, .int 0, .int 0, .int 0, .int 0, .ref a48, .int 0, .int 0, .int 0, .null, .null, .null, .long 0, .null, .null])), (a7, .inl (K 0, 6, .inl (fun _ => 0))), (a15, .inl (K 0, 7, .inl (fun _ => 0))), (a23, .inl (K 0, 54, .inl (fun _ => 0))), (a31, .inl (K 0, 24, .inl (fun _ => 0))), (a39, .inl (K 0, 40, .inl (fun _ => 0))), (a48, .inl (K 0, 378, .inl (fun _ => 0))), (a56, .inl (K 0, 10, .inl (fun _ => 0)))] H := hP
  have hD : va_D A [(h0, .inr (4, [.int 0, .int 0, .ref a7, .ref a15, .ref a23, .ref a31, .int 0, .int 0, .ref a39, .int 0, .int 0, .int 0, .int 0, .int 0, .ref a48, .int 0, .int 0, .int 0, .null, .null, .null, .long 0, .null, .null])), (a7, .inl (K 0, 6, .inl (fun _ => 0))), (a15, .inl (K 0, 7, .inl (fun _ => 0))), (a23, .inl (K 0, 54, .inl (fun _ => 0))), (a31, .inl (K 0, 24, .inl (fun _ => 0))), (a39, .inl (K 0, 40, .inl (fun _ => 0))), (a48, .inl (K 0, 378, .inl (fun _ => 0))), (a56, .inl (K 0, 10, .inl (fun _ => 0)))] := hD
  refine W.widen (k := 7) (n := 519) (by omega) (by omega) ?_
  refine va_putF (D := D) (ci := 4) (v := .ref a56) (ty := (.array .int)) (C := RX4) (T := TX4) (N := 24) hx hb hts hiX4_init_X4 tyX4 tyX4_ok nmX4 hown hK hP hD hS 0 rfl rfl 18 (by decide) (hts (.fieldLink RX4 28 "OneSentenceModel" "metAt" "[I") (by decide +kernel)) (fun _ h9 => h9) rfl hin rfl rfl rfl rfl (Nat.le_of_ble_eq_true rfl) dX4_init_58 (fun H locs hP hD hS => ?_)
  have hP : va_P D vwCl [(h0, .inr (4, [.int 0, .int 0, .ref a7, .ref a15, .ref a23, .ref a31, .int 0, .int 0, .ref a39, .int 0, .int 0, .int 0, .int 0, .int 0, .ref a48, .int 0, .int 0, .int 0, .ref a56, .null, .null, .long 0, .null, .null])), (a7, .inl (K 0, 6, .inl (fun _ => 0))), (a15, .inl (K 0, 7, .inl (fun _ => 0))), (a23, .inl (K 0, 54, .inl (fun _ => 0))), (a31, .inl (K 0, 24, .inl (fun _ => 0))), (a39, .inl (K 0, 40, .inl (fun _ => 0))), (a48, .inl (K 0, 378, .inl (fun _ => 0))), (a56, .inl (K 0, 10, .inl (fun _ => 0)))] H := hP
  have hD : va_D A [(h0, .inr (4, [.int 0, .int 0, .ref a7, .ref a15, .ref a23, .ref a31, .int 0, .int 0, .ref a39, .int 0, .int 0, .int 0, .int 0, .int 0, .ref a48, .int 0, .int 0, .int 0, .ref a56, .null, .null, .long 0, .null, .null])), (a7, .inl (K 0, 6, .inl (fun _ => 0))), (a15, .inl (K 0, 7, .inl (fun _ => 0))), (a23, .inl (K 0, 54, .inl (fun _ => 0))), (a31, .inl (K 0, 24, .inl (fun _ => 0))), (a39, .inl (K 0, 40, .inl (fun _ => 0))), (a48, .inl (K 0, 378, .inl (fun _ => 0))), (a56, .inl (K 0, 10, .inl (fun _ => 0)))] := hD
  refine lv_aload_n hx hb dX4_init_61 rfl (lv_at hl 0 rfl) ?_
  refine lv_bipush (v := 64) hx hb dX4_init_62 (by decide) ?_
  refine va_newa (atype := .int) (ty := .int) (a0 := (64, .inl (fun _ => 0))) (N' := 64) hx hb (hts (.arrayClass .int) (by decide +kernel)) rfl hK hP hD hS hA (fun _ => rfl) (by decide) (by decide) (by decide) (Nat.le_of_ble_eq_true rfl) (Nat.le_of_ble_eq_true rfl) dX4_init_64 (fun a64 cA H hK5 hP hD hS => ?_)
  obtain rfl := kI_id hK5
  have hP : va_P D vwCl [(h0, .inr (4, [.int 0, .int 0, .ref a7, .ref a15, .ref a23, .ref a31, .int 0, .int 0, .ref a39, .int 0, .int 0, .int 0, .int 0, .int 0, .ref a48, .int 0, .int 0, .int 0, .ref a56, .null, .null, .long 0, .null, .null])), (a7, .inl (K 0, 6, .inl (fun _ => 0))), (a15, .inl (K 0, 7, .inl (fun _ => 0))), (a23, .inl (K 0, 54, .inl (fun _ => 0))), (a31, .inl (K 0, 24, .inl (fun _ => 0))), (a39, .inl (K 0, 40, .inl (fun _ => 0))), (a48, .inl (K 0, 378, .inl (fun _ => 0))), (a56, .inl (K 0, 10, .inl (fun _ => 0))), (a64, .inl (K 0, 64, .inl (fun _ => 0)))] H := hP
  have hD : va_D A [(h0, .inr (4, [.int 0, .int 0, .ref a7, .ref a15, .ref a23, .ref a31, .int 0, .int 0, .ref a39, .int 0, .int 0, .int 0, .int 0, .int 0, .ref a48, .int 0, .int 0, .int 0, .ref a56, .null, .null, .long 0, .null, .null])), (a7, .inl (K 0, 6, .inl (fun _ => 0))), (a15, .inl (K 0, 7, .inl (fun _ => 0))), (a23, .inl (K 0, 54, .inl (fun _ => 0))), (a31, .inl (K 0, 24, .inl (fun _ => 0))), (a39, .inl (K 0, 40, .inl (fun _ => 0))), (a48, .inl (K 0, 378, .inl (fun _ => 0))), (a56, .inl (K 0, 10, .inl (fun _ => 0))), (a64, .inl (K 0, 64, .inl (fun _ => 0)))] := hD
  refine W.widen (k := 8) (n := 583) (by omega) (by omega) ?_
  refine va_putF (D := D) (ci := 4) (v := .ref a64) (ty := (.array .int)) (C := RX4) (T := TX4) (N := 24) hx hb hts hiX4_init_X4 tyX4 tyX4_ok nmX4 hown hK hP hD hS 0 rfl rfl 19 (by decide) (hts (.fieldLink RX4 31 "OneSentenceModel" "manys" "[I") (by decide +kernel)) (fun _ h9 => h9) rfl hin rfl rfl rfl rfl (Nat.le_of_ble_eq_true rfl) dX4_init_66 (fun H locs hP hD hS => ?_)
  have hP : va_P D vwCl [(h0, .inr (4, [.int 0, .int 0, .ref a7, .ref a15, .ref a23, .ref a31, .int 0, .int 0, .ref a39, .int 0, .int 0, .int 0, .int 0, .int 0, .ref a48, .int 0, .int 0, .int 0, .ref a56, .ref a64, .null, .long 0, .null, .null])), (a7, .inl (K 0, 6, .inl (fun _ => 0))), (a15, .inl (K 0, 7, .inl (fun _ => 0))), (a23, .inl (K 0, 54, .inl (fun _ => 0))), (a31, .inl (K 0, 24, .inl (fun _ => 0))), (a39, .inl (K 0, 40, .inl (fun _ => 0))), (a48, .inl (K 0, 378, .inl (fun _ => 0))), (a56, .inl (K 0, 10, .inl (fun _ => 0))), (a64, .inl (K 0, 64, .inl (fun _ => 0)))] H := hP
  have hD : va_D A [(h0, .inr (4, [.int 0, .int 0, .ref a7, .ref a15, .ref a23, .ref a31, .int 0, .int 0, .ref a39, .int 0, .int 0, .int 0, .int 0, .int 0, .ref a48, .int 0, .int 0, .int 0, .ref a56, .ref a64, .null, .long 0, .null, .null])), (a7, .inl (K 0, 6, .inl (fun _ => 0))), (a15, .inl (K 0, 7, .inl (fun _ => 0))), (a23, .inl (K 0, 54, .inl (fun _ => 0))), (a31, .inl (K 0, 24, .inl (fun _ => 0))), (a39, .inl (K 0, 40, .inl (fun _ => 0))), (a48, .inl (K 0, 378, .inl (fun _ => 0))), (a56, .inl (K 0, 10, .inl (fun _ => 0))), (a64, .inl (K 0, 64, .inl (fun _ => 0)))] := hD
  refine lv_aload_n hx hb dX4_init_69 rfl (lv_at hl 0 rfl) ?_
  refine lv_bipush (v := 16) hx hb dX4_init_70 (by decide) ?_
  refine va_newa (atype := .int) (ty := .int) (a0 := (16, .inl (fun _ => 0))) (N' := 16) hx hb (hts (.arrayClass .int) (by decide +kernel)) rfl hK hP hD hS hA (fun _ => rfl) (by decide) (by decide) (by decide) (Nat.le_of_ble_eq_true rfl) (Nat.le_of_ble_eq_true rfl) dX4_init_72 (fun a72 cA H hK5 hP hD hS => ?_)
  obtain rfl := kI_id hK5
  have hP : va_P D vwCl [(h0, .inr (4, [.int 0, .int 0, .ref a7, .ref a15, .ref a23, .ref a31, .int 0, .int 0, .ref a39, .int 0, .int 0, .int 0, .int 0, .int 0, .ref a48, .int 0, .int 0, .int 0, .ref a56, .ref a64, .null, .long 0, .null, .null])), (a7, .inl (K 0, 6, .inl (fun _ => 0))), (a15, .inl (K 0, 7, .inl (fun _ => 0))), (a23, .inl (K 0, 54, .inl (fun _ => 0))), (a31, .inl (K 0, 24, .inl (fun _ => 0))), (a39, .inl (K 0, 40, .inl (fun _ => 0))), (a48, .inl (K 0, 378, .inl (fun _ => 0))), (a56, .inl (K 0, 10, .inl (fun _ => 0))), (a64, .inl (K 0, 64, .inl (fun _ => 0))), (a72, .inl (K 0, 16, .inl (fun _ => 0)))] H := hP
  have hD : va_D A [(h0, .inr (4, [.int 0, .int 0, .ref a7, .ref a15, .ref a23, .ref a31, .int 0, .int 0, .ref a39, .int 0, .int 0, .int 0, .int 0, .int 0, .ref a48, .int 0, .int 0, .int 0, .ref a56, .ref a64, .null, .long 0, .null, .null])), (a7, .inl (K 0, 6, .inl (fun _ => 0))), (a15, .inl (K 0, 7, .inl (fun _ => 0))), (a23, .inl (K 0, 54, .inl (fun _ => 0))), (a31, .inl (K 0, 24, .inl (fun _ => 0))), (a39, .inl (K 0, 40, .inl (fun _ => 0))), (a48, .inl (K 0, 378, .inl (fun _ => 0))), (a56, .inl (K 0, 10, .inl (fun _ => 0))), (a64, .inl (K 0, 64, .inl (fun _ => 0))), (a72, .inl (K 0, 16, .inl (fun _ => 0)))] := hD
  refine W.widen (k := 9) (n := 599) (by omega) (by omega) ?_
  refine va_putF (D := D) (ci := 4) (v := .ref a72) (ty := (.array .int)) (C := RX4) (T := TX4) (N := 24) hx hb hts hiX4_init_X4 tyX4 tyX4_ok nmX4 hown hK hP hD hS 0 rfl rfl 20 (by decide) (hts (.fieldLink RX4 34 "OneSentenceModel" "senses" "[I") (by decide +kernel)) (fun _ h9 => h9) rfl hin rfl rfl rfl rfl (Nat.le_of_ble_eq_true rfl) dX4_init_74 (fun H locs hP hD hS => ?_)
  have hP : va_P D vwCl [(h0, .inr (4, [.int 0, .int 0, .ref a7, .ref a15, .ref a23, .ref a31, .int 0, .int 0, .ref a39, .int 0, .int 0, .int 0, .int 0, .int 0, .ref a48, .int 0, .int 0, .int 0, .ref a56, .ref a64, .ref a72, .long 0, .null, .null])), (a7, .inl (K 0, 6, .inl (fun _ => 0))), (a15, .inl (K 0, 7, .inl (fun _ => 0))), (a23, .inl (K 0, 54, .inl (fun _ => 0))), (a31, .inl (K 0, 24, .inl (fun _ => 0))), (a39, .inl (K 0, 40, .inl (fun _ => 0))), (a48, .inl (K 0, 378, .inl (fun _ => 0))), (a56, .inl (K 0, 10, .inl (fun _ => 0))), (a64, .inl (K 0, 64, .inl (fun _ => 0))), (a72, .inl (K 0, 16, .inl (fun _ => 0)))] H := hP
  have hD : va_D A [(h0, .inr (4, [.int 0, .int 0, .ref a7, .ref a15, .ref a23, .ref a31, .int 0, .int 0, .ref a39, .int 0, .int 0, .int 0, .int 0, .int 0, .ref a48, .int 0, .int 0, .int 0, .ref a56, .ref a64, .ref a72, .long 0, .null, .null])), (a7, .inl (K 0, 6, .inl (fun _ => 0))), (a15, .inl (K 0, 7, .inl (fun _ => 0))), (a23, .inl (K 0, 54, .inl (fun _ => 0))), (a31, .inl (K 0, 24, .inl (fun _ => 0))), (a39, .inl (K 0, 40, .inl (fun _ => 0))), (a48, .inl (K 0, 378, .inl (fun _ => 0))), (a56, .inl (K 0, 10, .inl (fun _ => 0))), (a64, .inl (K 0, 64, .inl (fun _ => 0))), (a72, .inl (K 0, 16, .inl (fun _ => 0)))] := hD
  refine lv_aload_n hx hb dX4_init_77 rfl (lv_at hl 0 rfl) ?_
  refine lv_iconst (v := 2) hx hb dX4_init_78 (by decide) ?_
  refine va_newa (atype := .boolean) (ty := .boolean) (a0 := (2, .inl (fun _ => 0))) (N' := 2) hx hb (hts (.arrayClass .boolean) (by decide +kernel)) rfl hK hP hD hS hA (fun _ => rfl) (by decide) (by decide) (by decide) (Nat.le_of_ble_eq_true rfl) (Nat.le_of_ble_eq_true rfl) dX4_init_79 (fun a79 cA H hK5 hP hD hS => ?_)
  obtain rfl := kZ_id hK5
  have hP : va_P D vwCl [(h0, .inr (4, [.int 0, .int 0, .ref a7, .ref a15, .ref a23, .ref a31, .int 0, .int 0, .ref a39, .int 0, .int 0, .int 0, .int 0, .int 0, .ref a48, .int 0, .int 0, .int 0, .ref a56, .ref a64, .ref a72, .long 0, .null, .null])), (a7, .inl (K 0, 6, .inl (fun _ => 0))), (a15, .inl (K 0, 7, .inl (fun _ => 0))), (a23, .inl (K 0, 54, .inl (fun _ => 0))), (a31, .inl (K 0, 24, .inl (fun _ => 0))), (a39, .inl (K 0, 40, .inl (fun _ => 0))), (a48, .inl (K 0, 378, .inl (fun _ => 0))), (a56, .inl (K 0, 10, .inl (fun _ => 0))), (a64, .inl (K 0, 64, .inl (fun _ => 0))), (a72, .inl (K 0, 16, .inl (fun _ => 0))), (a79, .inl (K 2, 2, .inl (fun _ => 0)))] H := hP
  have hD : va_D A [(h0, .inr (4, [.int 0, .int 0, .ref a7, .ref a15, .ref a23, .ref a31, .int 0, .int 0, .ref a39, .int 0, .int 0, .int 0, .int 0, .int 0, .ref a48, .int 0, .int 0, .int 0, .ref a56, .ref a64, .ref a72, .long 0, .null, .null])), (a7, .inl (K 0, 6, .inl (fun _ => 0))), (a15, .inl (K 0, 7, .inl (fun _ => 0))), (a23, .inl (K 0, 54, .inl (fun _ => 0))), (a31, .inl (K 0, 24, .inl (fun _ => 0))), (a39, .inl (K 0, 40, .inl (fun _ => 0))), (a48, .inl (K 0, 378, .inl (fun _ => 0))), (a56, .inl (K 0, 10, .inl (fun _ => 0))), (a64, .inl (K 0, 64, .inl (fun _ => 0))), (a72, .inl (K 0, 16, .inl (fun _ => 0))), (a79, .inl (K 2, 2, .inl (fun _ => 0)))] := hD
  refine W.widen (k := 10) (n := 601) (by omega) (by omega) ?_
  refine va_putF (D := D) (ci := 4) (v := .ref a79) (ty := (.array .boolean)) (C := RX4) (T := TX4) (N := 24) hx hb hts hiX4_init_X4 tyX4 tyX4_ok nmX4 hown hK hP hD hS 0 rfl rfl 22 (by decide) (hts (.fieldLink RX4 37 "OneSentenceModel" "isKept" "[Z") (by decide +kernel)) (fun _ h9 => h9) rfl hin rfl rfl rfl rfl (Nat.le_of_ble_eq_true rfl) dX4_init_81 (fun H locs hP hD hS => ?_)
  have hP : va_P D vwCl [(h0, .inr (4, [.int 0, .int 0, .ref a7, .ref a15, .ref a23, .ref a31, .int 0, .int 0, .ref a39, .int 0, .int 0, .int 0, .int 0, .int 0, .ref a48, .int 0, .int 0, .int 0, .ref a56, .ref a64, .ref a72, .long 0, .ref a79, .null])), (a7, .inl (K 0, 6, .inl (fun _ => 0))), (a15, .inl (K 0, 7, .inl (fun _ => 0))), (a23, .inl (K 0, 54, .inl (fun _ => 0))), (a31, .inl (K 0, 24, .inl (fun _ => 0))), (a39, .inl (K 0, 40, .inl (fun _ => 0))), (a48, .inl (K 0, 378, .inl (fun _ => 0))), (a56, .inl (K 0, 10, .inl (fun _ => 0))), (a64, .inl (K 0, 64, .inl (fun _ => 0))), (a72, .inl (K 0, 16, .inl (fun _ => 0))), (a79, .inl (K 2, 2, .inl (fun _ => 0)))] H := hP
  have hD : va_D A [(h0, .inr (4, [.int 0, .int 0, .ref a7, .ref a15, .ref a23, .ref a31, .int 0, .int 0, .ref a39, .int 0, .int 0, .int 0, .int 0, .int 0, .ref a48, .int 0, .int 0, .int 0, .ref a56, .ref a64, .ref a72, .long 0, .ref a79, .null])), (a7, .inl (K 0, 6, .inl (fun _ => 0))), (a15, .inl (K 0, 7, .inl (fun _ => 0))), (a23, .inl (K 0, 54, .inl (fun _ => 0))), (a31, .inl (K 0, 24, .inl (fun _ => 0))), (a39, .inl (K 0, 40, .inl (fun _ => 0))), (a48, .inl (K 0, 378, .inl (fun _ => 0))), (a56, .inl (K 0, 10, .inl (fun _ => 0))), (a64, .inl (K 0, 64, .inl (fun _ => 0))), (a72, .inl (K 0, 16, .inl (fun _ => 0))), (a79, .inl (K 2, 2, .inl (fun _ => 0)))] := hD
  refine lv_aload_n hx hb dX4_init_84 rfl (lv_at hl 0 rfl) ?_
  refine lv_bipush (v := 54) hx hb dX4_init_85 (by decide) ?_
  refine va_newa (atype := .int) (ty := .int) (a0 := (54, .inl (fun _ => 0))) (N' := 54) hx hb (hts (.arrayClass .int) (by decide +kernel)) rfl hK hP hD hS hA (fun _ => rfl) (by decide) (by decide) (by decide) (Nat.le_of_ble_eq_true rfl) (Nat.le_of_ble_eq_true rfl) dX4_init_87 (fun a87 cA H hK5 hP hD hS => ?_)
  obtain rfl := kI_id hK5
  have hP : va_P D vwCl [(h0, .inr (4, [.int 0, .int 0, .ref a7, .ref a15, .ref a23, .ref a31, .int 0, .int 0, .ref a39, .int 0, .int 0, .int 0, .int 0, .int 0, .ref a48, .int 0, .int 0, .int 0, .ref a56, .ref a64, .ref a72, .long 0, .ref a79, .null])), (a7, .inl (K 0, 6, .inl (fun _ => 0))), (a15, .inl (K 0, 7, .inl (fun _ => 0))), (a23, .inl (K 0, 54, .inl (fun _ => 0))), (a31, .inl (K 0, 24, .inl (fun _ => 0))), (a39, .inl (K 0, 40, .inl (fun _ => 0))), (a48, .inl (K 0, 378, .inl (fun _ => 0))), (a56, .inl (K 0, 10, .inl (fun _ => 0))), (a64, .inl (K 0, 64, .inl (fun _ => 0))), (a72, .inl (K 0, 16, .inl (fun _ => 0))), (a79, .inl (K 2, 2, .inl (fun _ => 0))), (a87, .inl (K 0, 54, .inl (fun _ => 0)))] H := hP
  have hD : va_D A [(h0, .inr (4, [.int 0, .int 0, .ref a7, .ref a15, .ref a23, .ref a31, .int 0, .int 0, .ref a39, .int 0, .int 0, .int 0, .int 0, .int 0, .ref a48, .int 0, .int 0, .int 0, .ref a56, .ref a64, .ref a72, .long 0, .ref a79, .null])), (a7, .inl (K 0, 6, .inl (fun _ => 0))), (a15, .inl (K 0, 7, .inl (fun _ => 0))), (a23, .inl (K 0, 54, .inl (fun _ => 0))), (a31, .inl (K 0, 24, .inl (fun _ => 0))), (a39, .inl (K 0, 40, .inl (fun _ => 0))), (a48, .inl (K 0, 378, .inl (fun _ => 0))), (a56, .inl (K 0, 10, .inl (fun _ => 0))), (a64, .inl (K 0, 64, .inl (fun _ => 0))), (a72, .inl (K 0, 16, .inl (fun _ => 0))), (a79, .inl (K 2, 2, .inl (fun _ => 0))), (a87, .inl (K 0, 54, .inl (fun _ => 0)))] := hD
  refine W.widen (k := 11) (n := 655) (by omega) (by omega) ?_
  refine va_putF (D := D) (ci := 4) (v := .ref a87) (ty := (.array .int)) (C := RX4) (T := TX4) (N := 24) hx hb hts hiX4_init_X4 tyX4 tyX4_ok nmX4 hown hK hP hD hS 0 rfl rfl 23 (by decide) (hts (.fieldLink RX4 41 "OneSentenceModel" "kept" "[I") (by decide +kernel)) (fun _ h9 => h9) rfl hin rfl rfl rfl rfl (Nat.le_of_ble_eq_true rfl) dX4_init_89 (fun H locs hP hD hS => ?_)
  have hP : va_P D vwCl [(h0, .inr (4, [.int 0, .int 0, .ref a7, .ref a15, .ref a23, .ref a31, .int 0, .int 0, .ref a39, .int 0, .int 0, .int 0, .int 0, .int 0, .ref a48, .int 0, .int 0, .int 0, .ref a56, .ref a64, .ref a72, .long 0, .ref a79, .ref a87])), (a7, .inl (K 0, 6, .inl (fun _ => 0))), (a15, .inl (K 0, 7, .inl (fun _ => 0))), (a23, .inl (K 0, 54, .inl (fun _ => 0))), (a31, .inl (K 0, 24, .inl (fun _ => 0))), (a39, .inl (K 0, 40, .inl (fun _ => 0))), (a48, .inl (K 0, 378, .inl (fun _ => 0))), (a56, .inl (K 0, 10, .inl (fun _ => 0))), (a64, .inl (K 0, 64, .inl (fun _ => 0))), (a72, .inl (K 0, 16, .inl (fun _ => 0))), (a79, .inl (K 2, 2, .inl (fun _ => 0))), (a87, .inl (K 0, 54, .inl (fun _ => 0)))] H := hP
  have hD : va_D A [(h0, .inr (4, [.int 0, .int 0, .ref a7, .ref a15, .ref a23, .ref a31, .int 0, .int 0, .ref a39, .int 0, .int 0, .int 0, .int 0, .int 0, .ref a48, .int 0, .int 0, .int 0, .ref a56, .ref a64, .ref a72, .long 0, .ref a79, .ref a87])), (a7, .inl (K 0, 6, .inl (fun _ => 0))), (a15, .inl (K 0, 7, .inl (fun _ => 0))), (a23, .inl (K 0, 54, .inl (fun _ => 0))), (a31, .inl (K 0, 24, .inl (fun _ => 0))), (a39, .inl (K 0, 40, .inl (fun _ => 0))), (a48, .inl (K 0, 378, .inl (fun _ => 0))), (a56, .inl (K 0, 10, .inl (fun _ => 0))), (a64, .inl (K 0, 64, .inl (fun _ => 0))), (a72, .inl (K 0, 16, .inl (fun _ => 0))), (a79, .inl (K 2, 2, .inl (fun _ => 0))), (a87, .inl (K 0, 54, .inl (fun _ => 0)))] := hD
  refine lv_aload_n hx hb dX4_init_92 rfl (lv_at hl 0 rfl) ?_
  refine va_get (D := D) (ci := 4) (v := .ref a23) (C := RX4) (T := TX4) (N := 24) hx hb hts hiX4_init_X4 hown hK hP 0 rfl rfl 4 (by decide) (hts (.fieldLink RX4 16 "OneSentenceModel" "now" "[I") (by decide +kernel)) (fun _ h9 => h9) rfl dX4_init_93 ?_
  refine lv_bipush (v := 23) hx hb dX4_init_96 (by decide) ?_
  refine lv_bipush (v := (-9)) hx hb dX4_init_98 (by decide) ?_
  refine va_iast (i := 23) (x := (-9)) hx hb hK hP hD hS 3 0 rfl rfl (vp_in_nI (n := 23) (by decide) (by decide)) dX4_init_100 (fun H locs hP hD hS => ?_)
  have hP : va_P D vwCl [(h0, .inr (4, [.int 0, .int 0, .ref a7, .ref a15, .ref a23, .ref a31, .int 0, .int 0, .ref a39, .int 0, .int 0, .int 0, .int 0, .int 0, .ref a48, .int 0, .int 0, .int 0, .ref a56, .ref a64, .ref a72, .long 0, .ref a79, .ref a87])), (a7, .inl (K 0, 6, .inl (fun _ => 0))), (a15, .inl (K 0, 7, .inl (fun _ => 0))), (a23, .inl (K 0, 54, .inl (upd (fun _ => 0) 23 (-9)))), (a31, .inl (K 0, 24, .inl (fun _ => 0))), (a39, .inl (K 0, 40, .inl (fun _ => 0))), (a48, .inl (K 0, 378, .inl (fun _ => 0))), (a56, .inl (K 0, 10, .inl (fun _ => 0))), (a64, .inl (K 0, 64, .inl (fun _ => 0))), (a72, .inl (K 0, 16, .inl (fun _ => 0))), (a79, .inl (K 2, 2, .inl (fun _ => 0))), (a87, .inl (K 0, 54, .inl (fun _ => 0)))] H := hP
  have hD : va_D A [(h0, .inr (4, [.int 0, .int 0, .ref a7, .ref a15, .ref a23, .ref a31, .int 0, .int 0, .ref a39, .int 0, .int 0, .int 0, .int 0, .int 0, .ref a48, .int 0, .int 0, .int 0, .ref a56, .ref a64, .ref a72, .long 0, .ref a79, .ref a87])), (a7, .inl (K 0, 6, .inl (fun _ => 0))), (a15, .inl (K 0, 7, .inl (fun _ => 0))), (a23, .inl (K 0, 54, .inl (upd (fun _ => 0) 23 (-9)))), (a31, .inl (K 0, 24, .inl (fun _ => 0))), (a39, .inl (K 0, 40, .inl (fun _ => 0))), (a48, .inl (K 0, 378, .inl (fun _ => 0))), (a56, .inl (K 0, 10, .inl (fun _ => 0))), (a64, .inl (K 0, 64, .inl (fun _ => 0))), (a72, .inl (K 0, 16, .inl (fun _ => 0))), (a79, .inl (K 2, 2, .inl (fun _ => 0))), (a87, .inl (K 0, 54, .inl (fun _ => 0)))] := hD
  refine lv_aload_n hx hb dX4_init_101 rfl (lv_at hl 0 rfl) ?_
  refine va_get (D := D) (ci := 4) (v := .ref a23) (C := RX4) (T := TX4) (N := 24) hx hb hts hiX4_init_X4 hown hK hP 0 rfl rfl 4 (by decide) (hts (.fieldLink RX4 16 "OneSentenceModel" "now" "[I") (by decide +kernel)) (fun _ h9 => h9) rfl dX4_init_102 ?_
  refine lv_bipush (v := 24) hx hb dX4_init_105 (by decide) ?_
  refine lv_bipush (v := (-9)) hx hb dX4_init_107 (by decide) ?_
  refine va_iast (i := 24) (x := (-9)) hx hb hK hP hD hS 3 0 rfl rfl (vp_in_nI (n := 24) (by decide) (by decide)) dX4_init_109 (fun H locs hP hD hS => ?_)
  have hP : va_P D vwCl [(h0, .inr (4, [.int 0, .int 0, .ref a7, .ref a15, .ref a23, .ref a31, .int 0, .int 0, .ref a39, .int 0, .int 0, .int 0, .int 0, .int 0, .ref a48, .int 0, .int 0, .int 0, .ref a56, .ref a64, .ref a72, .long 0, .ref a79, .ref a87])), (a7, .inl (K 0, 6, .inl (fun _ => 0))), (a15, .inl (K 0, 7, .inl (fun _ => 0))), (a23, .inl (K 0, 54, .inl (upd (upd (fun _ => 0) 23 (-9)) 24 (-9)))), (a31, .inl (K 0, 24, .inl (fun _ => 0))), (a39, .inl (K 0, 40, .inl (fun _ => 0))), (a48, .inl (K 0, 378, .inl (fun _ => 0))), (a56, .inl (K 0, 10, .inl (fun _ => 0))), (a64, .inl (K 0, 64, .inl (fun _ => 0))), (a72, .inl (K 0, 16, .inl (fun _ => 0))), (a79, .inl (K 2, 2, .inl (fun _ => 0))), (a87, .inl (K 0, 54, .inl (fun _ => 0)))] H := hP
  have hD : va_D A [(h0, .inr (4, [.int 0, .int 0, .ref a7, .ref a15, .ref a23, .ref a31, .int 0, .int 0, .ref a39, .int 0, .int 0, .int 0, .int 0, .int 0, .ref a48, .int 0, .int 0, .int 0, .ref a56, .ref a64, .ref a72, .long 0, .ref a79, .ref a87])), (a7, .inl (K 0, 6, .inl (fun _ => 0))), (a15, .inl (K 0, 7, .inl (fun _ => 0))), (a23, .inl (K 0, 54, .inl (upd (upd (fun _ => 0) 23 (-9)) 24 (-9)))), (a31, .inl (K 0, 24, .inl (fun _ => 0))), (a39, .inl (K 0, 40, .inl (fun _ => 0))), (a48, .inl (K 0, 378, .inl (fun _ => 0))), (a56, .inl (K 0, 10, .inl (fun _ => 0))), (a64, .inl (K 0, 64, .inl (fun _ => 0))), (a72, .inl (K 0, 16, .inl (fun _ => 0))), (a79, .inl (K 2, 2, .inl (fun _ => 0))), (a87, .inl (K 0, 54, .inl (fun _ => 0)))] := hD
  obtain ⟨L, hL⟩ : ∃ L : Nat → Nat, L = (fun k : Nat => match k with | 0 => h0 | 1 => a7 | 2 => a15 | 3 => a23 | 4 => a31 | 5 => a39 | 6 => a48 | 7 => a56 | 8 => a64 | 9 => a72 | 10 => a79 | _ => a87) := ⟨_, rfl⟩
  have hP : va_P D vwCl (gl L 12 (cM L K w0M)) H := by
    subst hL
    exact hP.sub [0, 1, 2, 3, 4, 5, 6, 7, 8, 9, 10, 11] rfl
  have hD : va_D A (gl L 12 (cM L K w0M)) := by
    subst hL
    exact hD.sub [0, 1, 2, 3, 4, 5, 6, 7, 8, 9, 10, 11] (by decide) rfl
  have hL0 : L 0 = h0 := by rw [hL]; rfl
  exact W.vret hx hb hr (fun t ht hW => ⟨⟨L, rfl, hL0, by rw [ht]; exact hP, hD⟩, hS.F ht⟩) hS.2.2 dX4_init_110
set_option maxRecDepth 20000 in
theorem ggX3_init_X0_init : GoodIn wsX3_init wsX0_init := goodIn_r _ [28, 29, 2, 3, 30, 18, 19, 31, 6, 32, 33, 34, 35, 36, 37, 38, 65, 66, 67, 68, 61, 62, 63, 64] (by decide +kernel) (by decide +kernel)
set_option maxRecDepth 20000 in
theorem gX3_init_X0_init_n22 : GoodIn wsX3_init (wsX0_init) := ggX3_init_X0_init
set_option maxRecDepth 20000 in
theorem ggX3_init_X2_init : GoodIn wsX3_init wsX2_init := goodIn_r _ [34, 35, 2, 3, 36, 37, 6, 38, 65, 66, 67, 68] (by decide +kernel) (by decide +kernel)
set_option maxRecDepth 20000 in
theorem gX3_init_X2_init_n40 : GoodIn wsX3_init (wsX2_init) := ggX3_init_X2_init
set_option maxRecDepth 20000 in
theorem ggX3_init_X1_init : GoodIn wsX3_init wsX1_init := goodIn_r _ [40, 41, 2, 3, 6, 42, 69, 70] (by decide +kernel) (by decide +kernel)
set_option maxRecDepth 20000 in
theorem gX3_init_X1_init_n47 : GoodIn wsX3_init (wsX1_init) := ggX3_init_X1_init
theorem dX3_init_0 : decode cX3_init 0 = .ok (.aload_n 0, 1) := by decide +kernel
theorem dX3_init_1 : decode cX3_init 1 = .ok (.invokespecial 1, 3) := by decide +kernel
theorem dX3_init_4 : decode cX3_init 4 = .ok (.aload_n 0, 1) := by decide +kernel
theorem dX3_init_5 : decode cX3_init 5 = .ok (.bipush 40, 2) := by decide +kernel
theorem dX3_init_7 : decode cX3_init 7 = .ok (.newarray .char, 2) := by decide +kernel
theorem dX3_init_9 : decode cX3_init 9 = .ok (.putfield 9, 3) := by decide +kernel
theorem dX3_init_12 : decode cX3_init 12 = .ok (.aload_n 0, 1) := by decide +kernel
theorem dX3_init_13 : decode cX3_init 13 = .ok (.bipush 7, 2) := by decide +kernel
theorem dX3_init_15 : decode cX3_init 15 = .ok (.newarray .int, 2) := by decide +kernel
theorem dX3_init_17 : decode cX3_init 17 = .ok (.putfield 13, 3) := by decide +kernel
theorem dX3_init_20 : decode cX3_init 20 = .ok (.aload_n 0, 1) := by decide +kernel
theorem dX3_init_21 : decode cX3_init 21 = .ok (.bipush 7, 2) := by decide +kernel
theorem dX3_init_23 : decode cX3_init 23 = .ok (.newarray .int, 2) := by decide +kernel
theorem dX3_init_25 : decode cX3_init 25 = .ok (.putfield 17, 3) := by decide +kernel
theorem dX3_init_28 : decode cX3_init 28 = .ok (.aload_n 0, 1) := by decide +kernel
theorem dX3_init_29 : decode cX3_init 29 = .ok (.new 20, 3) := by decide +kernel
theorem dX3_init_32 : decode cX3_init 32 = .ok (.dup, 1) := by decide +kernel
theorem dX3_init_33 : decode cX3_init 33 = .ok (.invokespecial 22, 3) := by decide +kernel
theorem dX3_init_36 : decode cX3_init 36 = .ok (.putfield 23, 3) := by decide +kernel
theorem dX3_init_39 : decode cX3_init 39 = .ok (.aload_n 0, 1) := by decide +kernel
theorem dX3_init_40 : decode cX3_init 40 = .ok (.bipush 14, 2) := by decide +kernel
theorem dX3_init_42 : decode cX3_init 42 = .ok (.anewarray 20, 3) := by decide +kernel
theorem dX3_init_45 : decode cX3_init 45 = .ok (.putfield 27, 3) := by decide +kernel
theorem dX3_init_48 : decode cX3_init 48 = .ok (.aload_n 0, 1) := by decide +kernel
theorem dX3_init_49 : decode cX3_init 49 = .ok (.iconst 2, 1) := by decide +kernel
theorem dX3_init_50 : decode cX3_init 50 = .ok (.anewarray 20, 3) := by decide +kernel
theorem dX3_init_53 : decode cX3_init 53 = .ok (.putfield 31, 3) := by decide +kernel
theorem dX3_init_56 : decode cX3_init 56 = .ok (.aload_n 0, 1) := by decide +kernel
theorem dX3_init_57 : decode cX3_init 57 = .ok (.iconst 2, 1) := by decide +kernel
theorem dX3_init_58 : decode cX3_init 58 = .ok (.newarray .boolean, 2) := by decide +kernel
theorem dX3_init_60 : decode cX3_init 60 = .ok (.putfield 34, 3) := by decide +kernel
theorem dX3_init_63 : decode cX3_init 63 = .ok (.aload_n 0, 1) := by decide +kernel
theorem dX3_init_64 : decode cX3_init 64 = .ok (.new 38, 3) := by decide +kernel
theorem dX3_init_67 : decode cX3_init 67 = .ok (.dup, 1) := by decide +kernel
theorem dX3_init_68 : decode cX3_init 68 = .ok (.invokespecial 40, 3) := by decide +kernel
theorem dX3_init_71 : decode cX3_init 71 = .ok (.putfield 41, 3) := by decide +kernel
theorem dX3_init_74 : decode cX3_init 74 = .ok (.aload_n 0, 1) := by decide +kernel
theorem dX3_init_75 : decode cX3_init 75 = .ok (.new 45, 3) := by decide +kernel
theorem dX3_init_78 : decode cX3_init 78 = .ok (.dup, 1) := by decide +kernel
theorem dX3_init_79 : decode cX3_init 79 = .ok (.invokespecial 47, 3) := by decide +kernel
theorem dX3_init_82 : decode cX3_init 82 = .ok (.putfield 48, 3) := by decide +kernel
theorem dX3_init_85 : decode cX3_init 85 = .ok (.aload_n 0, 1) := by decide +kernel
theorem dX3_init_86 : decode cX3_init 86 = .ok (.bipush 10, 2) := by decide +kernel
theorem dX3_init_88 : decode cX3_init 88 = .ok (.newarray .int, 2) := by decide +kernel
theorem dX3_init_90 : decode cX3_init 90 = .ok (.putfield 52, 3) := by decide +kernel
theorem dX3_init_93 : decode cX3_init 93 = .ok (.aload_n 0, 1) := by decide +kernel
theorem dX3_init_94 : decode cX3_init 94 = .ok (.bipush 16, 2) := by decide +kernel
theorem dX3_init_96 : decode cX3_init 96 = .ok (.newarray .int, 2) := by decide +kernel
theorem dX3_init_98 : decode cX3_init 98 = .ok (.putfield 55, 3) := by decide +kernel
theorem dX3_init_101 : decode cX3_init 101 = .ok (.iconst 0, 1) := by decide +kernel
theorem dX3_init_102 : decode cX3_init 102 = .ok (.istore_n 1, 1) := by decide +kernel
theorem dX3_init_103 : decode cX3_init 103 = .ok (.iload_n 1, 1) := by decide +kernel
theorem dX3_init_104 : decode cX3_init 104 = .ok (.aload_n 0, 1) := by decide +kernel
theorem dX3_init_105 : decode cX3_init 105 = .ok (.getfield 27, 3) := by decide +kernel
theorem dX3_init_108 : decode cX3_init 108 = .ok (.arraylength, 1) := by decide +kernel
theorem dX3_init_109 : decode cX3_init 109 = .ok (.if_icmp .ge 22, 3) := by decide +kernel
theorem dX3_init_112 : decode cX3_init 112 = .ok (.aload_n 0, 1) := by decide +kernel
theorem dX3_init_113 : decode cX3_init 113 = .ok (.getfield 27, 3) := by decide +kernel
theorem dX3_init_116 : decode cX3_init 116 = .ok (.iload_n 1, 1) := by decide +kernel
theorem dX3_init_117 : decode cX3_init 117 = .ok (.new 20, 3) := by decide +kernel
theorem dX3_init_120 : decode cX3_init 120 = .ok (.dup, 1) := by decide +kernel
theorem dX3_init_121 : decode cX3_init 121 = .ok (.invokespecial 22, 3) := by decide +kernel
theorem dX3_init_124 : decode cX3_init 124 = .ok (.aastore, 1) := by decide +kernel
theorem dX3_init_125 : decode cX3_init 125 = .ok (.iinc 1 1, 3) := by decide +kernel
theorem dX3_init_128 : decode cX3_init 128 = .ok (.goto (-25), 3) := by decide +kernel
theorem dX3_init_131 : decode cX3_init 131 = .ok (.iconst 0, 1) := by decide +kernel
theorem dX3_init_132 : decode cX3_init 132 = .ok (.istore_n 1, 1) := by decide +kernel
theorem dX3_init_133 : decode cX3_init 133 = .ok (.iload_n 1, 1) := by decide +kernel
theorem dX3_init_134 : decode cX3_init 134 = .ok (.aload_n 0, 1) := by decide +kernel
theorem dX3_init_135 : decode cX3_init 135 = .ok (.getfield 31, 3) := by decide +kernel
theorem dX3_init_138 : decode cX3_init 138 = .ok (.arraylength, 1) := by decide +kernel
theorem dX3_init_139 : decode cX3_init 139 = .ok (.if_icmp .ge 22, 3) := by decide +kernel
theorem dX3_init_142 : decode cX3_init 142 = .ok (.aload_n 0, 1) := by decide +kernel
theorem dX3_init_143 : decode cX3_init 143 = .ok (.getfield 31, 3) := by decide +kernel
theorem dX3_init_146 : decode cX3_init 146 = .ok (.iload_n 1, 1) := by decide +kernel
theorem dX3_init_147 : decode cX3_init 147 = .ok (.new 20, 3) := by decide +kernel
theorem dX3_init_150 : decode cX3_init 150 = .ok (.dup, 1) := by decide +kernel
theorem dX3_init_151 : decode cX3_init 151 = .ok (.invokespecial 22, 3) := by decide +kernel
theorem dX3_init_154 : decode cX3_init 154 = .ok (.aastore, 1) := by decide +kernel
theorem dX3_init_155 : decode cX3_init 155 = .ok (.iinc 1 1, 3) := by decide +kernel
theorem dX3_init_158 : decode cX3_init 158 = .ok (.goto (-25), 3) := by decide +kernel
theorem dX3_init_161 : decode cX3_init 161 = .ok (.return_, 1) := by decide +kernel
set_option maxRecDepth 20000 in
theorem hiX3_init_X0 : ∀ w ∈ u_ws RX0 TX0 4, w ∈ wsX3_init := by decide +kernel
set_option maxRecDepth 20000 in
theorem hiX3_init_X1 : ∀ w ∈ u_ws RX1 TX1 2, w ∈ wsX3_init := by decide +kernel
set_option maxRecDepth 20000 in
theorem hiX3_init_X2 : ∀ w ∈ u_ws RX2 TX2 4, w ∈ wsX3_init := by decide +kernel
set_option maxRecDepth 20000 in
theorem hiX3_init_X3 : ∀ w ∈ u_ws RX3 TX3 18, w ∈ wsX3_init := by decide +kernel
theorem nd_of {l : List Nat} (h : l.Nodup) : va_nd l = true := by
  induction l with
  | nil => rfl
  | cons a l ih =>
    rw [List.nodup_cons] at h
    simp [va_nd, h.1, ih h.2]
theorem i_join {A0 : Nat → Prop} {D : va_G} {wr wc w1 : va_W} {H H1 : Heap} (hP : va_P D vwCl (wr ++ wc) H) (hD : va_D A0 (wr ++ wc)) (hk : ∀ q : Nat, q < H.size → ¬ va_A wc H.size q → H1[q]? = H[q]?) (hF : ∀ q, va_A wc H.size q → A0 q) (hP1 : va_P D vwCl w1 H1) (hD1 : va_D (va_A wc H.size) w1) : va_P D vwCl (wr ++ w1) H1 ∧ va_D A0 (wr ++ w1) := by
  refine va_join (wc := wc) (wr := wr) (w1 := w1) hP hD ((List.range wc.length).map (fun i => i + wr.length)) (List.range wr.length) ?_ ?_ (nd_of List.nodup_range) ?_ hk hF hP1 hD1
  · apply List.ext_getElem?
    intro i
    by_cases hi : i < wc.length
    · simp [hi, List.getElem?_append_right]
    · simp [hi]
  · apply List.ext_getElem?
    intro i
    by_cases hi : i < wr.length
    · simp [hi, List.getElem?_append_left hi]
    · simp [hi]
  · intro i hi hm
    simp only [List.mem_map, List.mem_range] at hi hm
    obtain ⟨a, -, h⟩ := hm
    omega
theorem gl_set2 {L L' : Nat → Nat} {N : Nat} {cf cf' : Nat → va_E} {k : Nat} {e : va_E} (hk : k < N) (hL : ∀ d, d < N → L' d = L d) (h1 : cf' k = e) (h2 : ∀ d, d < N → d ≠ k → cf' d = cf d) : (gl L N cf).set k (L k, e) = gl L' N cf' := by
  apply List.ext_getElem?
  intro i
  rw [List.getElem?_set]
  by_cases hi : k = i
  · subst hi
    rw [if_pos rfl, if_pos (by simp [gl, hk]), gl_at hk h1, hL k hk]
  · rw [if_neg hi]
    by_cases hN : i < N
    · rw [gl_at hN rfl, gl_at hN rfl, hL i hN, h2 i hN (Ne.symm hi)]
    · simp [gl, hN]
def upL (L : Nat → Nat) (M q q1 q2 q3 : Nat) : Nat → Nat := fun k => if k < M then L k else if k = M then q else if k = M + 1 then q1 else if k = M + 2 then q2 else q3
theorem kX_in : ∀ i, i < 17 → ∀ k, k < 17 + 4 * i → (kX k = 1 → k + 1 < 17 + 4 * i) ∧ (kX k = 2 → k + 3 < 17 + 4 * i) := by decide +kernel
theorem kX_new : ∀ i, i < 16 → kX (17 + 4 * i) = 2 ∧ kX (17 + 4 * i + 1) = 1 ∧ kX (17 + 4 * i + 2) = 4 ∧ kX (17 + 4 * i + 3) = 5 := by decide +kernel
theorem c0X_up {L : Nat → Nat} {K : Nat → ClassId} {i q q1 q2 q3 : Nat} {fp fs fp' fs' : Nat → Option Nat} (hi : i < 16) {k : Nat} (hk : k < 17 + 4 * i) (hp : kX k = 7 → fp' = fp) (hs : kX k = 8 → fs' = fs) : c0X (upL L (17 + 4 * i) q q1 q2 q3) K fp' fs' k = c0X L K fp fs k := by
  have hu : ∀ d, d < 17 + 4 * i → upL L (17 + 4 * i) q q1 q2 q3 d = L d := fun d hd => by simp [upL, hd]
  have h0 : ∀ d, d < 17 → upL L (17 + 4 * i) q q1 q2 q3 d = L d := fun d hd => hu d (by omega)
  obtain ⟨n1, n2⟩ := kX_in i (by omega) k hk
  unfold c0X cX
  split
  · rename_i h; rw [hp h]
  · rename_i h; rw [hs h]
  · split
    · simp only [fX0]
      rw [h0 1 (by omega), h0 2 (by omega), h0 3 (by omega), h0 13 (by omega), h0 4 (by omega), h0 5 (by omega), h0 6 (by omega), h0 11 (by omega), h0 9 (by omega), h0 7 (by omega), h0 8 (by omega)]
    · rename_i h; simp only [fX1]; rw [hu _ (n1 h)]
    · rename_i h; have h3 := n2 h; simp only [fX2]; rw [hu (k + 1) (by omega), hu _ h3]
    · simp only [fX3]; rw [h0 10 (by omega)]
    all_goals first | rfl | (exfalso; simp_all)
theorem gl_day {L : Nat → Nat} {K : Nat → ClassId} {i q q1 q2 q3 k : Nat} {fp fs fp' fs' : Nat → Option Nat} {e : va_E} (hi : i < 16) (hk : k = 4 ∨ k = 5) (hp : k = 5 → fp' = fp) (hs : k = 4 → fs' = fs) (he : c0X L K fp' fs' k = e) :
    ((gl L (17 + 4 * i) (c0X L K fp fs)) ++ ([(q, .inr (0, [.ref q1, .int 0, .int 0, .ref q3])), (q1, .inr (2, [.int 0, .int (-9), .int (-9), .ref q2])), (q2, .inl (K 0, 7, .inl (fun _ => 0))), (q3, .inl (K 0, 6, .inl (fun _ => 0)))] : va_W)).set k (L k, e)
      = gl (upL L (17 + 4 * i) q q1 q2 q3) (17 + 4 * (i + 1)) (c0X (upL L (17 + 4 * i) q q1 q2 q3) K fp' fs') := by
  have hk4 : k < 17 + 4 * i := by omega
  have hlen : (gl L (17 + 4 * i) (c0X L K fp fs)).length = 17 + 4 * i := by simp [gl]
  rw [List.set_append_left _ _ (by rw [hlen]; exact hk4)]
  have hk7 : ∀ d, d < 81 → kX d = 7 → d = 4 := by decide +kernel
  have hk8 : ∀ d, d < 81 → kX d = 8 → d = 5 := by decide +kernel
  rw [gl_set2 (L' := upL L (17 + 4 * i) q q1 q2 q3) (cf' := c0X (upL L (17 + 4 * i) q q1 q2 q3) K fp' fs') hk4 (fun d hd => by simp [upL, hd]) (by rw [← he]; exact c0X_up hi hk4 (fun _ => rfl) (fun _ => rfl)) (fun d hd hne => c0X_up hi hd (fun h => hp (by have := hk7 d (by omega) h; omega)) (fun h => hs (by have := hk8 d (by omega) h; omega)))]
  obtain ⟨g0, g1, g2, g3⟩ := kX_new i hi
  have u0 : upL L (17 + 4 * i) q q1 q2 q3 (17 + 4 * i) = q := by unfold upL; rw [if_neg (by omega), if_pos rfl]
  have u1 : upL L (17 + 4 * i) q q1 q2 q3 (17 + 4 * i + 1) = q1 := by unfold upL; rw [if_neg (by omega), if_neg (by omega), if_pos rfl]
  have u2 : upL L (17 + 4 * i) q q1 q2 q3 (17 + 4 * i + 2) = q2 := by unfold upL; rw [if_neg (by omega), if_neg (by omega), if_neg (by omega), if_pos rfl]
  have u3 : upL L (17 + 4 * i) q q1 q2 q3 (17 + 4 * i + 3) = q3 := by unfold upL; rw [if_neg (by omega), if_neg (by omega), if_neg (by omega), if_neg (by omega)]
  have e0 : c0X (upL L (17 + 4 * i) q q1 q2 q3) K fp' fs' (17 + 4 * i) = .inr (0, [.ref q1, .int 0, .int 0, .ref q3]) := by
    simp only [c0X, cX, g0, fX2, w0X, u1, u3]
  have e1 : c0X (upL L (17 + 4 * i) q q1 q2 q3) K fp' fs' (17 + 4 * i + 1) = .inr (2, [.int 0, .int (-9), .int (-9), .ref q2]) := by
    have z : c0X (upL L (17 + 4 * i) q q1 q2 q3) K fp' fs' (17 + 4 * i + 1) = cX (upL L (17 + 4 * i) q q1 q2 q3) K w0X (17 + 4 * i + 1) := by unfold c0X; rw [g1]; rfl
    rw [z, cX_a1 g1]
    simp only [fX1, w0X, g1]
    rw [show 17 + 4 * i + 1 + 1 = 17 + 4 * i + 2 from rfl, u2]
  have e2 : c0X (upL L (17 + 4 * i) q q1 q2 q3) K fp' fs' (17 + 4 * i + 2) = .inl (K 0, 7, .inl (fun _ => 0)) := by
    simp only [c0X, cX, g2, w0X]
  have e3 : c0X (upL L (17 + 4 * i) q q1 q2 q3) K fp' fs' (17 + 4 * i + 3) = .inl (K 0, 6, .inl (fun _ => 0)) := by
    simp only [c0X, cX, g3, w0X]
  rw [show 17 + 4 * (i + 1) = 17 + 4 * i + 1 + 1 + 1 + 1 by omega]
  simp only [gl, List.range_succ, List.map_append, List.map_cons, List.map_nil, List.append_assoc, List.cons_append, List.nil_append]
  rw [u0, u1, u2, u3, e0, e1, e2, e3]
theorem arrV_cong {cA : ClassId} {n : Nat} {f g : Nat → Value} (h : ∀ j, j < n → f j = g j) : arrV cA n f = arrV cA n g := by
  unfold arrV
  congr 2
  funext j
  exact h j.val j.isLt
theorem gl_fin {D : va_G} {L : Nat → Nat} {K : Nat → ClassId} {fp fs : Nat → Option Nat} {H : Heap} (h : va_P D vwCl (gl L 81 (c0X L K fp fs)) H) (hp : ∀ j, j < 14 → fp j = some (L (17 + 4 * j))) (hs : ∀ j, j < 2 → fs j = some (L (73 + 4 * j))) : va_P D vwCl (gl L 81 (cX L K w0X)) H := by
  intro k q hq
  obtain ⟨hk, rfl⟩ := gl_of hq
  have h1 := h k _ (gl_at hk rfl)
  have key : ∀ x : va_E, c0X L K fp fs k = x → va_at D vwCl (L k, x) H := fun x hx => by rw [← hx]; exact h1
  unfold c0X at key
  split at key
  · rename_i hk7
    have := key _ rfl
    rw [cX_a7 hk7]
    show H[L k]? = some (vp_cell _ _)
    rw [show H[L k]? = some (vp_cell (K 3) (14, .inr (.inr (.inr (.inr fp))))) from this, vp_cell_q, vp_cell_q]
    exact congrArg some (arrV_cong (fun j hj => by rw [hp j hj]))
  · rename_i hk8
    have := key _ rfl
    rw [cX_a8 hk8]
    show H[L k]? = some (vp_cell _ _)
    rw [show H[L k]? = some (vp_cell (K 3) (2, .inr (.inr (.inr (.inr fs))))) from this, vp_cell_q, vp_cell_q]
    exact congrArg some (arrV_cong (fun j hj => by rw [hs j hj]))
  · exact key _ rfl
theorem gl_finD {A : Nat → Prop} {L : Nat → Nat} {N : Nat} {cf cf' : Nat → va_E} (h : va_D A (gl L N cf)) : va_D A (gl L N cf') := by
  refine ⟨fun i j x y hi hj hxy => ?_, fun k q hk => ?_⟩
  · obtain ⟨h1, rfl⟩ := gl_of hi
    obtain ⟨h2, rfl⟩ := gl_of hj
    exact h.1 i j _ _ (gl_at h1 rfl) (gl_at h2 rfl) hxy
  · obtain ⟨h1, rfl⟩ := gl_of hk
    exact h.2 k (L k, cf k) (gl_at h1 rfl)
theorem gl_at0 {L : Nat → Nat} {N h0 : Nat} {cf : Nat → va_E} {e : va_E} (hL0 : L 0 = h0) (hN : 0 < N) (he : cf 0 = e) : (gl L N cf)[0]? = some (h0, e) := by rw [← hL0]; exact gl_at hN he
set_option maxHeartbeats 4000000 in
set_option maxRecDepth 100000 in
theorem kx_init (l : Launch) (D : va_G) (K : Nat → ClassId) (h0 sz : Nat) : Met l yX3_init wsX3_init ({ frames := 3, cells := 80, slots := 475, locals := 52 }) (va_Pc [.ref h0] (fun U => U.heap.size = sz ∧ iP D K [(h0, .inr (3, [.null, .int 0, .int 0, .int 0, .null, .null, .null, .null, .int 0, .int 0, .null, .null, .long 0, .null, .null, .int 0, .null, .null]))] U)) (va_Qv (fun L : Nat → Nat => L 0 = h0) (fun L t => va_P D vwCl (gl L 81 (cX L K w0X)) t.heap ∧ va_D (va_A [(h0, .inr (3, [.null, .int 0, .int 0, .int 0, .null, .null, .null, .null, .int 0, .int 0, .null, .null, .long 0, .null, .null, .int 0, .null, .null]))] sz) (gl L 81 (cX L K w0X))) (va_A [(h0, .inr (3, [.null, .int 0, .int 0, .int 0, .null, .null, .null, .null, .int 0, .int 0, .null, .null, .long 0, .null, .null, .int 0, .null, .null]))] sz)) 80 475 (va_A [(h0, .inr (3, [.null, .int 0, .int 0, .int 0, .null, .null, .null, .null, .int 0, .int 0, .null, .null, .long 0, .null, .null, .int 0, .null, .null]))] sz) := by
  refine Met.ofW (cc := cX3_init) (maxL := 2) (ret := none) (by decide) rfl ?_
  intro p e s m args below meth c s₁ B hml hv
  obtain ⟨rfl, hsz, hP, hK, hD0, hN, hAO⟩ := hv
  have hx := B.exec
  have hb := B.bytes
  have hr := B.returns
  have hts := atoms_spec (ws := wsX3_init) B.pre
  have hown : s.vm.findClass RX3 = some m.cls := findClass_of_methodNamed B.named
  have hlocks := B.notSynchronized
  have hin : meth.name = "<init>" := (name_of_methodNamed B.named B.method).1
  subst hsz
  have hD := hD0.self (sz := s.heap.size)
  generalize hAe : va_A [(h0, .inr (3, [.null, .int 0, .int 0, .int 0, .null, .null, .null, .null, .int 0, .int 0, .null, .null, .long 0, .null, .null, .int 0, .null, .null]))] s.heap.size = A at hD ⊢
  have hA : ∀ q : Nat, s.heap.size ≤ q → A q := fun q h => by rw [← hAe]; exact Or.inr h
  have hS : va_S A s.heap s.heap [] := va_S.rf
  have hP : va_P D vwCl [(h0, .inr (3, [.null, .int 0, .int 0, .int 0, .null, .null, .null, .null, .int 0, .int 0, .null, .null, .long 0, .null, .null, .int 0, .null, .null]))] s.heap := hP
  have hl := lv_entry ([.ref h0]) (n := 2) (Nat.le_of_ble_eq_true rfl)
  rw [lg_entry_eq]
  generalize (lg_sl ([.ref h0]) ++ List.replicate (2 - (lg_sl ([.ref h0])).length) Slot.unset).toArray = ls at hl ⊢
  have hl : lv_has ls 2 [(0, .ref h0)] := hl
  refine lv_aload_n hx hb dX3_init_0 rfl (lv_at hl 0 rfl) ?_
  refine W.objInit hx hb hown (hts (.methodLink RX3 1 objectInit) (by decide +kernel)) (hts (.instanceMethod objectInit) (by decide +kernel)) (hts (.code objectInit ⟨#[0xb1]⟩ 1 none) (by decide +kernel)) rfl (by rw [hml]; exact hl.1) rfl dX3_init_1 (Nat.le_of_ble_eq_true rfl) (Nat.le_of_ble_eq_true rfl) ?_
  refine W.eq (g2 := F0 m 4 ls []) rfl ?_
  refine lv_aload_n hx hb dX3_init_4 rfl (lv_at hl 0 rfl) ?_
  refine lv_bipush (v := 40) hx hb dX3_init_5 (by decide) ?_
  refine va_newa (atype := .char) (ty := .char) (a0 := (40, .inl (fun _ => 0))) (N' := 40) hx hb (hts (.arrayClass .char) (by decide +kernel)) rfl hK hP hD hS hA (fun _ => rfl) (by decide) (by decide) (by decide) (Nat.le_of_ble_eq_true rfl) (Nat.le_of_ble_eq_true rfl) dX3_init_7 (fun a7 cA H hK5 hP hD hS => ?_)
  obtain rfl := kC_id hK5
  have hP : va_P D vwCl [(h0, .inr (3, [.null, .int 0, .int 0, .int 0, .null, .null, .null, .null, .int 0, .int 0, .null, .null, .long 0, .null, .null, .int 0, .null, .null])), (a7, .inl (K 1, 40, .inl (fun _ => 0)))] H := hP
  have hD : va_D A [(h0, .inr (3, [.null, .int 0, .int 0, .int 0, .null, .null, .null, .null, .int 0, .int 0, .null, .null, .long 0, .null, .null, .int 0, .null, .null])), (a7, .inl (K 1, 40, .inl (fun _ => 0)))] := hD
  refine W.widen (k := 1) (n := 40) (by omega) (by omega) ?_
  refine va_putF (D := D) (ci := 3) (v := .ref a7) (ty := (.array .char)) (C := RX3) (T := TX3) (N := 18) hx hb hts hiX3_init_X3 tyX3 tyX3_ok nmX3 hown hK hP hD hS 0 rfl rfl 0 (by decide) (hts (.fieldLink RX3 9 "OneSentence" "text" "[C") (by decide +kernel)) (fun _ h9 => h9) rfl hin rfl rfl rfl rfl (Nat.le_of_ble_eq_true rfl) dX3_init_9 (fun H locs hP hD hS => ?_)
  have hP : va_P D vwCl [(h0, .inr (3, [.ref a7, .int 0, .int 0, .int 0, .null, .null, .null, .null, .int 0, .int 0, .null, .null, .long 0, .null, .null, .int 0, .null, .null])), (a7, .inl (K 1, 40, .inl (fun _ => 0)))] H := hP
  have hD : va_D A [(h0, .inr (3, [.ref a7, .int 0, .int 0, .int 0, .null, .null, .null, .null, .int 0, .int 0, .null, .null, .long 0, .null, .null, .int 0, .null, .null])), (a7, .inl (K 1, 40, .inl (fun _ => 0)))] := hD
  refine lv_aload_n hx hb dX3_init_12 rfl (lv_at hl 0 rfl) ?_
  refine lv_bipush (v := 7) hx hb dX3_init_13 (by decide) ?_
  refine va_newa (atype := .int) (ty := .int) (a0 := (7, .inl (fun _ => 0))) (N' := 7) hx hb (hts (.arrayClass .int) (by decide +kernel)) rfl hK hP hD hS hA (fun _ => rfl) (by decide) (by decide) (by decide) (Nat.le_of_ble_eq_true rfl) (Nat.le_of_ble_eq_true rfl) dX3_init_15 (fun a15 cA H hK5 hP hD hS => ?_)
  obtain rfl := kI_id hK5
  have hP : va_P D vwCl [(h0, .inr (3, [.ref a7, .int 0, .int 0, .int 0, .null, .null, .null, .null, .int 0, .int 0, .null, .null, .long 0, .null, .null, .int 0, .null, .null])), (a7, .inl (K 1, 40, .inl (fun _ => 0))), (a15, .inl (K 0, 7, .inl (fun _ => 0)))] H := hP
  have hD : va_D A [(h0, .inr (3, [.ref a7, .int 0, .int 0, .int 0, .null, .null, .null, .null, .int 0, .int 0, .null, .null, .long 0, .null, .null, .int 0, .null, .null])), (a7, .inl (K 1, 40, .inl (fun _ => 0))), (a15, .inl (K 0, 7, .inl (fun _ => 0)))] := hD
  refine W.widen (k := 2) (n := 47) (by omega) (by omega) ?_
  refine va_putF (D := D) (ci := 3) (v := .ref a15) (ty := (.array .int)) (C := RX3) (T := TX3) (N := 18) hx hb hts hiX3_init_X3 tyX3 tyX3_ok nmX3 hown hK hP hD hS 0 rfl rfl 4 (by decide) (hts (.fieldLink RX3 13 "OneSentence" "home" "[I") (by decide +kernel)) (fun _ h9 => h9) rfl hin rfl rfl rfl rfl (Nat.le_of_ble_eq_true rfl) dX3_init_17 (fun H locs hP hD hS => ?_)
  have hP : va_P D vwCl [(h0, .inr (3, [.ref a7, .int 0, .int 0, .int 0, .ref a15, .null, .null, .null, .int 0, .int 0, .null, .null, .long 0, .null, .null, .int 0, .null, .null])), (a7, .inl (K 1, 40, .inl (fun _ => 0))), (a15, .inl (K 0, 7, .inl (fun _ => 0)))] H := hP
  have hD : va_D A [(h0, .inr (3, [.ref a7, .int 0, .int 0, .int 0, .ref a15, .null, .null, .null, .int 0, .int 0, .null, .null, .long 0, .null, .null, .int 0, .null, .null])), (a7, .inl (K 1, 40, .inl (fun _ => 0))), (a15, .inl (K 0, 7, .inl (fun _ => 0)))] := hD
  refine lv_aload_n hx hb dX3_init_20 rfl (lv_at hl 0 rfl) ?_
  refine lv_bipush (v := 7) hx hb dX3_init_21 (by decide) ?_
  refine va_newa (atype := .int) (ty := .int) (a0 := (7, .inl (fun _ => 0))) (N' := 7) hx hb (hts (.arrayClass .int) (by decide +kernel)) rfl hK hP hD hS hA (fun _ => rfl) (by decide) (by decide) (by decide) (Nat.le_of_ble_eq_true rfl) (Nat.le_of_ble_eq_true rfl) dX3_init_23 (fun a23 cA H hK5 hP hD hS => ?_)
  obtain rfl := kI_id hK5
  have hP : va_P D vwCl [(h0, .inr (3, [.ref a7, .int 0, .int 0, .int 0, .ref a15, .null, .null, .null, .int 0, .int 0, .null, .null, .long 0, .null, .null, .int 0, .null, .null])), (a7, .inl (K 1, 40, .inl (fun _ => 0))), (a15, .inl (K 0, 7, .inl (fun _ => 0))), (a23, .inl (K 0, 7, .inl (fun _ => 0)))] H := hP
  have hD : va_D A [(h0, .inr (3, [.ref a7, .int 0, .int 0, .int 0, .ref a15, .null, .null, .null, .int 0, .int 0, .null, .null, .long 0, .null, .null, .int 0, .null, .null])), (a7, .inl (K 1, 40, .inl (fun _ => 0))), (a15, .inl (K 0, 7, .inl (fun _ => 0))), (a23, .inl (K 0, 7, .inl (fun _ => 0)))] := hD
  refine W.widen (k := 3) (n := 54) (by omega) (by omega) ?_
  refine va_putF (D := D) (ci := 3) (v := .ref a23) (ty := (.array .int)) (C := RX3) (T := TX3) (N := 18) hx hb hts hiX3_init_X3 tyX3 tyX3_ok nmX3 hown hK hP hD hS 0 rfl rfl 5 (by decide) (hts (.fieldLink RX3 17 "OneSentence" "kind" "[I") (by decide +kernel)) (fun _ h9 => h9) rfl hin rfl rfl rfl rfl (Nat.le_of_ble_eq_true rfl) dX3_init_25 (fun H locs hP hD hS => ?_)
  have hP : va_P D vwCl [(h0, .inr (3, [.ref a7, .int 0, .int 0, .int 0, .ref a15, .ref a23, .null, .null, .int 0, .int 0, .null, .null, .long 0, .null, .null, .int 0, .null, .null])), (a7, .inl (K 1, 40, .inl (fun _ => 0))), (a15, .inl (K 0, 7, .inl (fun _ => 0))), (a23, .inl (K 0, 7, .inl (fun _ => 0)))] H := hP
  have hD : va_D A [(h0, .inr (3, [.ref a7, .int 0, .int 0, .int 0, .ref a15, .ref a23, .null, .null, .int 0, .int 0, .null, .null, .long 0, .null, .null, .int 0, .null, .null])), (a7, .inl (K 1, 40, .inl (fun _ => 0))), (a15, .inl (K 0, 7, .inl (fun _ => 0))), (a23, .inl (K 0, 7, .inl (fun _ => 0)))] := hD
  refine lv_aload_n hx hb dX3_init_28 rfl (lv_at hl 0 rfl) ?_
  refine va_new (ci := 0) (fs := [.null, .int 0, .int 0, .null]) (C := RX0) (T := TX0) (N := 4) hx hb hts hiX3_init_X0 tyX0 tyX0_ok hown (hts (.classLink RX3 20 RX0) (by decide +kernel)) (hts (.instantiable RX0 4) (by decide +kernel)) (hts (.initialized RX0) (by decide +kernel)) hK hP hD hS hA rfl (fun j hj => by rcases (show j = 0 ∨ j = 1 ∨ j = 2 ∨ j = 3 by omega) with rfl | rfl | rfl | rfl <;> rfl) (Nat.le_of_ble_eq_true rfl) (Nat.le_of_ble_eq_true rfl) dX3_init_29 (fun a29 H hP hD hS => ?_)
  have hP : va_P D vwCl [(h0, .inr (3, [.ref a7, .int 0, .int 0, .int 0, .ref a15, .ref a23, .null, .null, .int 0, .int 0, .null, .null, .long 0, .null, .null, .int 0, .null, .null])), (a7, .inl (K 1, 40, .inl (fun _ => 0))), (a15, .inl (K 0, 7, .inl (fun _ => 0))), (a23, .inl (K 0, 7, .inl (fun _ => 0))), (a29, .inr (0, [.null, .int 0, .int 0, .null]))] H := hP
  have hD : va_D A [(h0, .inr (3, [.ref a7, .int 0, .int 0, .int 0, .ref a15, .ref a23, .null, .null, .int 0, .int 0, .null, .null, .long 0, .null, .null, .int 0, .null, .null])), (a7, .inl (K 1, 40, .inl (fun _ => 0))), (a15, .inl (K 0, 7, .inl (fun _ => 0))), (a23, .inl (K 0, 7, .inl (fun _ => 0))), (a29, .inr (0, [.null, .int 0, .int 0, .null]))] := hD
  refine W.widen (k := 4) (n := 58) (by omega) (by omega) ?_
  refine lv_dup hx hb dX3_init_32 rfl ?_
  have hPc := hP.sub (ws' := [(a29, .inr (0, [.null, .int 0, .int 0, .null]))]) [4] rfl
  have hDc := hD.sub (ws' := [(a29, .inr (0, [.null, .int 0, .int 0, .null]))]) [4] (by decide) rfl
  have hFc := va_free (wc := [(a29, .inr (0, [.null, .int 0, .int 0, .null]))]) hD hS hA [4] rfl
  refine va_callv (va_runIN (As := []) (rest := [.ref a29, .ref h0]) ⟨hx, hb, hml, hown, hts⟩ (kd_init l D K a29 H.size) ⟨va_cnB 0 hts gX3_init_X0_init_n22 rfl rfl rfl (hN.2 (RX3, 22, yX0_init, "OneSentence") (by decide)) (hts (.initialized RX0) (by decide +kernel)) (by decide +kernel) ⟨Nat.le_of_ble_eq_true rfl, Nat.le_of_ble_eq_true rfl⟩, rfl, hts (.instanceMethod yX0_init) (by decide +kernel)⟩ (i_pre hPc hDc hK hN hAO) rfl rfl hl.1 rfl (lv_room (Nat.le_of_ble_eq_true rfl)) dX3_init_33 ⟨Nat.le_of_ble_eq_true rfl, Nat.le_of_ble_eq_true rfl⟩) hS (fun q _ h => hFc q h) hFc (fun u t H1 locs ht hvm _ hB hz1 hk1 hS => ?_)
  obtain ⟨a29_1, a29_2, a29_3⟩ := u
  obtain ⟨hP1, hD1⟩ := hB
  rw [ht] at hP1
  obtain ⟨hP, hD⟩ := va_join (wr := [(h0, .inr (3, [.ref a7, .int 0, .int 0, .int 0, .ref a15, .ref a23, .null, .null, .int 0, .int 0, .null, .null, .long 0, .null, .null, .int 0, .null, .null])), (a7, .inl (K 1, 40, .inl (fun _ => 0))), (a15, .inl (K 0, 7, .inl (fun _ => 0))), (a23, .inl (K 0, 7, .inl (fun _ => 0)))]) (w1 := [(a29, .inr (0, [.ref a29_1, .int 0, .int 0, .ref a29_3])), (a29_1, .inr (2, [.int 0, .int (-9), .int (-9), .ref a29_2])), (a29_2, .inl (K 0, 7, .inl (fun _ => 0))), (a29_3, .inl (K 0, 6, .inl (fun _ => 0)))]) hP hD [4] [0, 1, 2, 3] rfl rfl (by decide) (by decide) hk1 hFc hP1 hD1
  generalize H1 = H at hP hS ⊢
  have hP : va_P D vwCl [(h0, .inr (3, [.ref a7, .int 0, .int 0, .int 0, .ref a15, .ref a23, .null, .null, .int 0, .int 0, .null, .null, .long 0, .null, .null, .int 0, .null, .null])), (a7, .inl (K 1, 40, .inl (fun _ => 0))), (a15, .inl (K 0, 7, .inl (fun _ => 0))), (a23, .inl (K 0, 7, .inl (fun _ => 0))), (a29, .inr (0, [.ref a29_1, .int 0, .int 0, .ref a29_3])), (a29_1, .inr (2, [.int 0, .int (-9), .int (-9), .ref a29_2])), (a29_2, .inl (K 0, 7, .inl (fun _ => 0))), (a29_3, .inl (K 0, 6, .inl (fun _ => 0)))] H := hP
  have hD : va_D A [(h0, .inr (3, [.ref a7, .int 0, .int 0, .int 0, .ref a15, .ref a23, .null, .null, .int 0, .int 0, .null, .null, .long 0, .null, .null, .int 0, .null, .null])), (a7, .inl (K 1, 40, .inl (fun _ => 0))), (a15, .inl (K 0, 7, .inl (fun _ => 0))), (a23, .inl (K 0, 7, .inl (fun _ => 0))), (a29, .inr (0, [.ref a29_1, .int 0, .int 0, .ref a29_3])), (a29_1, .inr (2, [.int 0, .int (-9), .int (-9), .ref a29_2])), (a29_2, .inl (K 0, 7, .inl (fun _ => 0))), (a29_3, .inl (K 0, 6, .inl (fun _ => 0)))] := hD
  refine W.widen (k := 7) (n := 75) (by omega) (by omega) ?_
  refine va_putF (D := D) (ci := 3) (v := .ref a29) (ty := (.object "OneSentence$Day")) (C := RX3) (T := TX3) (N := 18) hx hb hts hiX3_init_X3 tyX3 tyX3_ok nmX3 hown hK hP hD hS 0 rfl rfl 6 (by decide) (hts (.fieldLink RX3 23 "OneSentence" "today" "LOneSentence$Day;") (by decide +kernel)) (fun _ h9 => h9) rfl hin rfl rfl rfl rfl (Nat.le_of_ble_eq_true rfl) dX3_init_36 (fun H locs hP hD hS => ?_)
  have hP : va_P D vwCl [(h0, .inr (3, [.ref a7, .int 0, .int 0, .int 0, .ref a15, .ref a23, .ref a29, .null, .int 0, .int 0, .null, .null, .long 0, .null, .null, .int 0, .null, .null])), (a7, .inl (K 1, 40, .inl (fun _ => 0))), (a15, .inl (K 0, 7, .inl (fun _ => 0))), (a23, .inl (K 0, 7, .inl (fun _ => 0))), (a29, .inr (0, [.ref a29_1, .int 0, .int 0, .ref a29_3])), (a29_1, .inr (2, [.int 0, .int (-9), .int (-9), .ref a29_2])), (a29_2, .inl (K 0, 7, .inl (fun _ => 0))), (a29_3, .inl (K 0, 6, .inl (fun _ => 0)))] H := hP
  have hD : va_D A [(h0, .inr (3, [.ref a7, .int 0, .int 0, .int 0, .ref a15, .ref a23, .ref a29, .null, .int 0, .int 0, .null, .null, .long 0, .null, .null, .int 0, .null, .null])), (a7, .inl (K 1, 40, .inl (fun _ => 0))), (a15, .inl (K 0, 7, .inl (fun _ => 0))), (a23, .inl (K 0, 7, .inl (fun _ => 0))), (a29, .inr (0, [.ref a29_1, .int 0, .int 0, .ref a29_3])), (a29_1, .inr (2, [.int 0, .int (-9), .int (-9), .ref a29_2])), (a29_2, .inl (K 0, 7, .inl (fun _ => 0))), (a29_3, .inl (K 0, 6, .inl (fun _ => 0)))] := hD
  refine lv_aload_n hx hb dX3_init_39 rfl (lv_at hl 0 rfl) ?_
  refine lv_bipush (v := 14) hx hb dX3_init_40 (by decide) ?_
  refine va_newq (N' := 14) hx hb hown (hts (.classLink RX3 20 RX0) (by decide +kernel)) hAO hK hP hD hS hA (by decide) (by decide) (by decide) (Nat.le_of_ble_eq_true rfl) (Nat.le_of_ble_eq_true rfl) dX3_init_42 (fun a42 cA H hK5 hP hD hS => ?_)
  obtain rfl := kD_id hK5
  have hP : va_P D vwCl [(h0, .inr (3, [.ref a7, .int 0, .int 0, .int 0, .ref a15, .ref a23, .ref a29, .null, .int 0, .int 0, .null, .null, .long 0, .null, .null, .int 0, .null, .null])), (a7, .inl (K 1, 40, .inl (fun _ => 0))), (a15, .inl (K 0, 7, .inl (fun _ => 0))), (a23, .inl (K 0, 7, .inl (fun _ => 0))), (a29, .inr (0, [.ref a29_1, .int 0, .int 0, .ref a29_3])), (a29_1, .inr (2, [.int 0, .int (-9), .int (-9), .ref a29_2])), (a29_2, .inl (K 0, 7, .inl (fun _ => 0))), (a29_3, .inl (K 0, 6, .inl (fun _ => 0))), (a42, .inl (K 3, 14, .inr (.inr (.inr (.inr (fun _ => none))))))] H := hP
  have hD : va_D A [(h0, .inr (3, [.ref a7, .int 0, .int 0, .int 0, .ref a15, .ref a23, .ref a29, .null, .int 0, .int 0, .null, .null, .long 0, .null, .null, .int 0, .null, .null])), (a7, .inl (K 1, 40, .inl (fun _ => 0))), (a15, .inl (K 0, 7, .inl (fun _ => 0))), (a23, .inl (K 0, 7, .inl (fun _ => 0))), (a29, .inr (0, [.ref a29_1, .int 0, .int 0, .ref a29_3])), (a29_1, .inr (2, [.int 0, .int (-9), .int (-9), .ref a29_2])), (a29_2, .inl (K 0, 7, .inl (fun _ => 0))), (a29_3, .inl (K 0, 6, .inl (fun _ => 0))), (a42, .inl (K 3, 14, .inr (.inr (.inr (.inr (fun _ => none))))))] := hD
  refine W.widen (k := 8) (n := 89) (by omega) (by omega) ?_
  refine va_putF (D := D) (ci := 3) (v := .ref a42) (ty := (.array (.object "OneSentence$Day"))) (C := RX3) (T := TX3) (N := 18) hx hb hts hiX3_init_X3 tyX3 tyX3_ok nmX3 hown hK hP hD hS 0 rfl rfl 7 (by decide) (hts (.fieldLink RX3 27 "OneSentence" "past" "[LOneSentence$Day;") (by decide +kernel)) (fun _ h9 => h9) rfl hin rfl rfl rfl rfl (Nat.le_of_ble_eq_true rfl) dX3_init_45 (fun H locs hP hD hS => ?_)
  have hP : va_P D vwCl [(h0, .inr (3, [.ref a7, .int 0, .int 0, .int 0, .ref a15, .ref a23, .ref a29, .ref a42, .int 0, .int 0, .null, .null, .long 0, .null, .null, .int 0, .null, .null])), (a7, .inl (K 1, 40, .inl (fun _ => 0))), (a15, .inl (K 0, 7, .inl (fun _ => 0))), (a23, .inl (K 0, 7, .inl (fun _ => 0))), (a29, .inr (0, [.ref a29_1, .int 0, .int 0, .ref a29_3])), (a29_1, .inr (2, [.int 0, .int (-9), .int (-9), .ref a29_2])), (a29_2, .inl (K 0, 7, .inl (fun _ => 0))), (a29_3, .inl (K 0, 6, .inl (fun _ => 0))), (a42, .inl (K 3, 14, .inr (.inr (.inr (.inr (fun _ => none))))))] H := hP
  have hD : va_D A [(h0, .inr (3, [.ref a7, .int 0, .int 0, .int 0, .ref a15, .ref a23, .ref a29, .ref a42, .int 0, .int 0, .null, .null, .long 0, .null, .null, .int 0, .null, .null])), (a7, .inl (K 1, 40, .inl (fun _ => 0))), (a15, .inl (K 0, 7, .inl (fun _ => 0))), (a23, .inl (K 0, 7, .inl (fun _ => 0))), (a29, .inr (0, [.ref a29_1, .int 0, .int 0, .ref a29_3])), (a29_1, .inr (2, [.int 0, .int (-9), .int (-9), .ref a29_2])), (a29_2, .inl (K 0, 7, .inl (fun _ => 0))), (a29_3, .inl (K 0, 6, .inl (fun _ => 0))), (a42, .inl (K 3, 14, .inr (.inr (.inr (.inr (fun _ => none))))))] := hD
  refine lv_aload_n hx hb dX3_init_48 rfl (lv_at hl 0 rfl) ?_
  refine lv_iconst (v := 2) hx hb dX3_init_49 (by decide) ?_
  refine va_newq (N' := 2) hx hb hown (hts (.classLink RX3 20 RX0) (by decide +kernel)) hAO hK hP hD hS hA (by decide) (by decide) (by decide) (Nat.le_of_ble_eq_true rfl) (Nat.le_of_ble_eq_true rfl) dX3_init_50 (fun a50 cA H hK5 hP hD hS => ?_)
  obtain rfl := kD_id hK5
  have hP : va_P D vwCl [(h0, .inr (3, [.ref a7, .int 0, .int 0, .int 0, .ref a15, .ref a23, .ref a29, .ref a42, .int 0, .int 0, .null, .null, .long 0, .null, .null, .int 0, .null, .null])), (a7, .inl (K 1, 40, .inl (fun _ => 0))), (a15, .inl (K 0, 7, .inl (fun _ => 0))), (a23, .inl (K 0, 7, .inl (fun _ => 0))), (a29, .inr (0, [.ref a29_1, .int 0, .int 0, .ref a29_3])), (a29_1, .inr (2, [.int 0, .int (-9), .int (-9), .ref a29_2])), (a29_2, .inl (K 0, 7, .inl (fun _ => 0))), (a29_3, .inl (K 0, 6, .inl (fun _ => 0))), (a42, .inl (K 3, 14, .inr (.inr (.inr (.inr (fun _ => none)))))), (a50, .inl (K 3, 2, .inr (.inr (.inr (.inr (fun _ => none))))))] H := hP
  have hD : va_D A [(h0, .inr (3, [.ref a7, .int 0, .int 0, .int 0, .ref a15, .ref a23, .ref a29, .ref a42, .int 0, .int 0, .null, .null, .long 0, .null, .null, .int 0, .null, .null])), (a7, .inl (K 1, 40, .inl (fun _ => 0))), (a15, .inl (K 0, 7, .inl (fun _ => 0))), (a23, .inl (K 0, 7, .inl (fun _ => 0))), (a29, .inr (0, [.ref a29_1, .int 0, .int 0, .ref a29_3])), (a29_1, .inr (2, [.int 0, .int (-9), .int (-9), .ref a29_2])), (a29_2, .inl (K 0, 7, .inl (fun _ => 0))), (a29_3, .inl (K 0, 6, .inl (fun _ => 0))), (a42, .inl (K 3, 14, .inr (.inr (.inr (.inr (fun _ => none)))))), (a50, .inl (K 3, 2, .inr (.inr (.inr (.inr (fun _ => none))))))] := hD
  refine W.widen (k := 9) (n := 91) (by omega) (by omega) ?_
  refine va_putF (D := D) (ci := 3) (v := .ref a50) (ty := (.array (.object "OneSentence$Day"))) (C := RX3) (T := TX3) (N := 18) hx hb hts hiX3_init_X3 tyX3 tyX3_ok nmX3 hown hK hP hD hS 0 rfl rfl 10 (by decide) (hts (.fieldLink RX3 31 "OneSentence" "slots" "[LOneSentence$Day;") (by decide +kernel)) (fun _ h9 => h9) rfl hin rfl rfl rfl rfl (Nat.le_of_ble_eq_true rfl) dX3_init_53 (fun H locs hP hD hS => ?_)
  have hP : va_P D vwCl [(h0, .inr (3, [.ref a7, .int 0, .int 0, .int 0, .ref a15, .ref a23, .ref a29, .ref a42, .int 0, .int 0, .ref a50, .null, .long 0, .null, .null, .int 0, .null, .null])), (a7, .inl (K 1, 40, .inl (fun _ => 0))), (a15, .inl (K 0, 7, .inl (fun _ => 0))), (a23, .inl (K 0, 7, .inl (fun _ => 0))), (a29, .inr (0, [.ref a29_1, .int 0, .int 0, .ref a29_3])), (a29_1, .inr (2, [.int 0, .int (-9), .int (-9), .ref a29_2])), (a29_2, .inl (K 0, 7, .inl (fun _ => 0))), (a29_3, .inl (K 0, 6, .inl (fun _ => 0))), (a42, .inl (K 3, 14, .inr (.inr (.inr (.inr (fun _ => none)))))), (a50, .inl (K 3, 2, .inr (.inr (.inr (.inr (fun _ => none))))))] H := hP
  have hD : va_D A [(h0, .inr (3, [.ref a7, .int 0, .int 0, .int 0, .ref a15, .ref a23, .ref a29, .ref a42, .int 0, .int 0, .ref a50, .null, .long 0, .null, .null, .int 0, .null, .null])), (a7, .inl (K 1, 40, .inl (fun _ => 0))), (a15, .inl (K 0, 7, .inl (fun _ => 0))), (a23, .inl (K 0, 7, .inl (fun _ => 0))), (a29, .inr (0, [.ref a29_1, .int 0, .int 0, .ref a29_3])), (a29_1, .inr (2, [.int 0, .int (-9), .int (-9), .ref a29_2])), (a29_2, .inl (K 0, 7, .inl (fun _ => 0))), (a29_3, .inl (K 0, 6, .inl (fun _ => 0))), (a42, .inl (K 3, 14, .inr (.inr (.inr (.inr (fun _ => none)))))), (a50, .inl (K 3, 2, .inr (.inr (.inr (.inr (fun _ => none))))))] := hD
  refine lv_aload_n hx hb dX3_init_56 rfl (lv_at hl 0 rfl) ?_
  refine lv_iconst (v := 2) hx hb dX3_init_57 (by decide) ?_
  refine va_newa (atype := .boolean) (ty := .boolean) (a0 := (2, .inl (fun _ => 0))) (N' := 2) hx hb (hts (.arrayClass .boolean) (by decide +kernel)) rfl hK hP hD hS hA (fun _ => rfl) (by decide) (by decide) (by decide) (Nat.le_of_ble_eq_true rfl) (Nat.le_of_ble_eq_true rfl) dX3_init_58 (fun a58 cA H hK5 hP hD hS => ?_)
  obtain rfl := kZ_id hK5
  have hP : va_P D vwCl [(h0, .inr (3, [.ref a7, .int 0, .int 0, .int 0, .ref a15, .ref a23, .ref a29, .ref a42, .int 0, .int 0, .ref a50, .null, .long 0, .null, .null, .int 0, .null, .null])), (a7, .inl (K 1, 40, .inl (fun _ => 0))), (a15, .inl (K 0, 7, .inl (fun _ => 0))), (a23, .inl (K 0, 7, .inl (fun _ => 0))), (a29, .inr (0, [.ref a29_1, .int 0, .int 0, .ref a29_3])), (a29_1, .inr (2, [.int 0, .int (-9), .int (-9), .ref a29_2])), (a29_2, .inl (K 0, 7, .inl (fun _ => 0))), (a29_3, .inl (K 0, 6, .inl (fun _ => 0))), (a42, .inl (K 3, 14, .inr (.inr (.inr (.inr (fun _ => none)))))), (a50, .inl (K 3, 2, .inr (.inr (.inr (.inr (fun _ => none)))))), (a58, .inl (K 2, 2, .inl (fun _ => 0)))] H := hP
  have hD : va_D A [(h0, .inr (3, [.ref a7, .int 0, .int 0, .int 0, .ref a15, .ref a23, .ref a29, .ref a42, .int 0, .int 0, .ref a50, .null, .long 0, .null, .null, .int 0, .null, .null])), (a7, .inl (K 1, 40, .inl (fun _ => 0))), (a15, .inl (K 0, 7, .inl (fun _ => 0))), (a23, .inl (K 0, 7, .inl (fun _ => 0))), (a29, .inr (0, [.ref a29_1, .int 0, .int 0, .ref a29_3])), (a29_1, .inr (2, [.int 0, .int (-9), .int (-9), .ref a29_2])), (a29_2, .inl (K 0, 7, .inl (fun _ => 0))), (a29_3, .inl (K 0, 6, .inl (fun _ => 0))), (a42, .inl (K 3, 14, .inr (.inr (.inr (.inr (fun _ => none)))))), (a50, .inl (K 3, 2, .inr (.inr (.inr (.inr (fun _ => none)))))), (a58, .inl (K 2, 2, .inl (fun _ => 0)))] := hD
  refine W.widen (k := 10) (n := 93) (by omega) (by omega) ?_
  refine va_putF (D := D) (ci := 3) (v := .ref a58) (ty := (.array .boolean)) (C := RX3) (T := TX3) (N := 18) hx hb hts hiX3_init_X3 tyX3 tyX3_ok nmX3 hown hK hP hD hS 0 rfl rfl 11 (by decide) (hts (.fieldLink RX3 34 "OneSentence" "isKept" "[Z") (by decide +kernel)) (fun _ h9 => h9) rfl hin rfl rfl rfl rfl (Nat.le_of_ble_eq_true rfl) dX3_init_60 (fun H locs hP hD hS => ?_)
  have hP : va_P D vwCl [(h0, .inr (3, [.ref a7, .int 0, .int 0, .int 0, .ref a15, .ref a23, .ref a29, .ref a42, .int 0, .int 0, .ref a50, .ref a58, .long 0, .null, .null, .int 0, .null, .null])), (a7, .inl (K 1, 40, .inl (fun _ => 0))), (a15, .inl (K 0, 7, .inl (fun _ => 0))), (a23, .inl (K 0, 7, .inl (fun _ => 0))), (a29, .inr (0, [.ref a29_1, .int 0, .int 0, .ref a29_3])), (a29_1, .inr (2, [.int 0, .int (-9), .int (-9), .ref a29_2])), (a29_2, .inl (K 0, 7, .inl (fun _ => 0))), (a29_3, .inl (K 0, 6, .inl (fun _ => 0))), (a42, .inl (K 3, 14, .inr (.inr (.inr (.inr (fun _ => none)))))), (a50, .inl (K 3, 2, .inr (.inr (.inr (.inr (fun _ => none)))))), (a58, .inl (K 2, 2, .inl (fun _ => 0)))] H := hP
  have hD : va_D A [(h0, .inr (3, [.ref a7, .int 0, .int 0, .int 0, .ref a15, .ref a23, .ref a29, .ref a42, .int 0, .int 0, .ref a50, .ref a58, .long 0, .null, .null, .int 0, .null, .null])), (a7, .inl (K 1, 40, .inl (fun _ => 0))), (a15, .inl (K 0, 7, .inl (fun _ => 0))), (a23, .inl (K 0, 7, .inl (fun _ => 0))), (a29, .inr (0, [.ref a29_1, .int 0, .int 0, .ref a29_3])), (a29_1, .inr (2, [.int 0, .int (-9), .int (-9), .ref a29_2])), (a29_2, .inl (K 0, 7, .inl (fun _ => 0))), (a29_3, .inl (K 0, 6, .inl (fun _ => 0))), (a42, .inl (K 3, 14, .inr (.inr (.inr (.inr (fun _ => none)))))), (a50, .inl (K 3, 2, .inr (.inr (.inr (.inr (fun _ => none)))))), (a58, .inl (K 2, 2, .inl (fun _ => 0)))] := hD
  refine lv_aload_n hx hb dX3_init_63 rfl (lv_at hl 0 rfl) ?_
  refine va_new (ci := 2) (fs := [.int 0, .int 0, .int 0, .null]) (C := RX2) (T := TX2) (N := 4) hx hb hts hiX3_init_X2 tyX2 tyX2_ok hown (hts (.classLink RX3 38 RX2) (by decide +kernel)) (hts (.instantiable RX2 4) (by decide +kernel)) (hts (.initialized RX2) (by decide +kernel)) hK hP hD hS hA rfl (fun j hj => by rcases (show j = 0 ∨ j = 1 ∨ j = 2 ∨ j = 3 by omega) with rfl | rfl | rfl | rfl <;> rfl) (Nat.le_of_ble_eq_true rfl) (Nat.le_of_ble_eq_true rfl) dX3_init_64 (fun a64 H hP hD hS => ?_)
  have hP : va_P D vwCl [(h0, .inr (3, [.ref a7, .int 0, .int 0, .int 0, .ref a15, .ref a23, .ref a29, .ref a42, .int 0, .int 0, .ref a50, .ref a58, .long 0, .null, .null, .int 0, .null, .null])), (a7, .inl (K 1, 40, .inl (fun _ => 0))), (a15, .inl (K 0, 7, .inl (fun _ => 0))), (a23, .inl (K 0, 7, .inl (fun _ => 0))), (a29, .inr (0, [.ref a29_1, .int 0, .int 0, .ref a29_3])), (a29_1, .inr (2, [.int 0, .int (-9), .int (-9), .ref a29_2])), (a29_2, .inl (K 0, 7, .inl (fun _ => 0))), (a29_3, .inl (K 0, 6, .inl (fun _ => 0))), (a42, .inl (K 3, 14, .inr (.inr (.inr (.inr (fun _ => none)))))), (a50, .inl (K 3, 2, .inr (.inr (.inr (.inr (fun _ => none)))))), (a58, .inl (K 2, 2, .inl (fun _ => 0))), (a64, .inr (2, [.int 0, .int 0, .int 0, .null]))] H := hP
  have hD : va_D A [(h0, .inr (3, [.ref a7, .int 0, .int 0, .int 0, .ref a15, .ref a23, .ref a29, .ref a42, .int 0, .int 0, .ref a50, .ref a58, .long 0, .null, .null, .int 0, .null, .null])), (a7, .inl (K 1, 40, .inl (fun _ => 0))), (a15, .inl (K 0, 7, .inl (fun _ => 0))), (a23, .inl (K 0, 7, .inl (fun _ => 0))), (a29, .inr (0, [.ref a29_1, .int 0, .int 0, .ref a29_3])), (a29_1, .inr (2, [.int 0, .int (-9), .int (-9), .ref a29_2])), (a29_2, .inl (K 0, 7, .inl (fun _ => 0))), (a29_3, .inl (K 0, 6, .inl (fun _ => 0))), (a42, .inl (K 3, 14, .inr (.inr (.inr (.inr (fun _ => none)))))), (a50, .inl (K 3, 2, .inr (.inr (.inr (.inr (fun _ => none)))))), (a58, .inl (K 2, 2, .inl (fun _ => 0))), (a64, .inr (2, [.int 0, .int 0, .int 0, .null]))] := hD
  refine W.widen (k := 11) (n := 97) (by omega) (by omega) ?_
  refine lv_dup hx hb dX3_init_67 rfl ?_
  have hPc := hP.sub (ws' := [(a64, .inr (2, [.int 0, .int 0, .int 0, .null]))]) [11] rfl
  have hDc := hD.sub (ws' := [(a64, .inr (2, [.int 0, .int 0, .int 0, .null]))]) [11] (by decide) rfl
  have hFc := va_free (wc := [(a64, .inr (2, [.int 0, .int 0, .int 0, .null]))]) hD hS hA [11] rfl
  refine va_callv (va_runIN (As := []) (rest := [.ref a64, .ref h0]) ⟨hx, hb, hml, hown, hts⟩ (kt_init l D K a64 H.size) ⟨va_cnB 0 hts gX3_init_X2_init_n40 rfl rfl rfl (hN.2 (RX3, 40, yX2_init, "OneSentence") (by decide)) (hts (.initialized RX2) (by decide +kernel)) (by decide +kernel) ⟨Nat.le_of_ble_eq_true rfl, Nat.le_of_ble_eq_true rfl⟩, rfl, hts (.instanceMethod yX2_init) (by decide +kernel)⟩ (i_pre hPc hDc hK hN hAO) rfl rfl hl.1 rfl (lv_room (Nat.le_of_ble_eq_true rfl)) dX3_init_68 ⟨Nat.le_of_ble_eq_true rfl, Nat.le_of_ble_eq_true rfl⟩) hS (fun q _ h => hFc q h) hFc (fun u t H1 locs ht hvm _ hB hz1 hk1 hS => ?_)
  obtain ⟨a64_1, rfl⟩ : ∃ z, z = u := ⟨_, rfl⟩
  obtain ⟨hP1, hD1⟩ := hB
  rw [ht] at hP1
  obtain ⟨hP, hD⟩ := va_join (wr := [(h0, .inr (3, [.ref a7, .int 0, .int 0, .int 0, .ref a15, .ref a23, .ref a29, .ref a42, .int 0, .int 0, .ref a50, .ref a58, .long 0, .null, .null, .int 0, .null, .null])), (a7, .inl (K 1, 40, .inl (fun _ => 0))), (a15, .inl (K 0, 7, .inl (fun _ => 0))), (a23, .inl (K 0, 7, .inl (fun _ => 0))), (a29, .inr (0, [.ref a29_1, .int 0, .int 0, .ref a29_3])), (a29_1, .inr (2, [.int 0, .int (-9), .int (-9), .ref a29_2])), (a29_2, .inl (K 0, 7, .inl (fun _ => 0))), (a29_3, .inl (K 0, 6, .inl (fun _ => 0))), (a42, .inl (K 3, 14, .inr (.inr (.inr (.inr (fun _ => none)))))), (a50, .inl (K 3, 2, .inr (.inr (.inr (.inr (fun _ => none)))))), (a58, .inl (K 2, 2, .inl (fun _ => 0)))]) (w1 := [(a64, .inr (2, [.int 0, .int (-9), .int (-9), .ref a64_1])), (a64_1, .inl (K 0, 7, .inl (fun _ => 0)))]) hP hD [11] [0, 1, 2, 3, 4, 5, 6, 7, 8, 9, 10] rfl rfl (by decide) (by decide) hk1 hFc hP1 hD1
  generalize H1 = H at hP hS ⊢
  have hP : va_P D vwCl [(h0, .inr (3, [.ref a7, .int 0, .int 0, .int 0, .ref a15, .ref a23, .ref a29, .ref a42, .int 0, .int 0, .ref a50, .ref a58, .long 0, .null, .null, .int 0, .null, .null])), (a7, .inl (K 1, 40, .inl (fun _ => 0))), (a15, .inl (K 0, 7, .inl (fun _ => 0))), (a23, .inl (K 0, 7, .inl (fun _ => 0))), (a29, .inr (0, [.ref a29_1, .int 0, .int 0, .ref a29_3])), (a29_1, .inr (2, [.int 0, .int (-9), .int (-9), .ref a29_2])), (a29_2, .inl (K 0, 7, .inl (fun _ => 0))), (a29_3, .inl (K 0, 6, .inl (fun _ => 0))), (a42, .inl (K 3, 14, .inr (.inr (.inr (.inr (fun _ => none)))))), (a50, .inl (K 3, 2, .inr (.inr (.inr (.inr (fun _ => none)))))), (a58, .inl (K 2, 2, .inl (fun _ => 0))), (a64, .inr (2, [.int 0, .int (-9), .int (-9), .ref a64_1])), (a64_1, .inl (K 0, 7, .inl (fun _ => 0)))] H := hP
  have hD : va_D A [(h0, .inr (3, [.ref a7, .int 0, .int 0, .int 0, .ref a15, .ref a23, .ref a29, .ref a42, .int 0, .int 0, .ref a50, .ref a58, .long 0, .null, .null, .int 0, .null, .null])), (a7, .inl (K 1, 40, .inl (fun _ => 0))), (a15, .inl (K 0, 7, .inl (fun _ => 0))), (a23, .inl (K 0, 7, .inl (fun _ => 0))), (a29, .inr (0, [.ref a29_1, .int 0, .int 0, .ref a29_3])), (a29_1, .inr (2, [.int 0, .int (-9), .int (-9), .ref a29_2])), (a29_2, .inl (K 0, 7, .inl (fun _ => 0))), (a29_3, .inl (K 0, 6, .inl (fun _ => 0))), (a42, .inl (K 3, 14, .inr (.inr (.inr (.inr (fun _ => none)))))), (a50, .inl (K 3, 2, .inr (.inr (.inr (.inr (fun _ => none)))))), (a58, .inl (K 2, 2, .inl (fun _ => 0))), (a64, .inr (2, [.int 0, .int (-9), .int (-9), .ref a64_1])), (a64_1, .inl (K 0, 7, .inl (fun _ => 0)))] := hD
  refine W.widen (k := 12) (n := 104) (by omega) (by omega) ?_
  refine va_putF (D := D) (ci := 3) (v := .ref a64) (ty := (.object "OneSentence$Talk")) (C := RX3) (T := TX3) (N := 18) hx hb hts hiX3_init_X3 tyX3 tyX3_ok nmX3 hown hK hP hD hS 0 rfl rfl 13 (by decide) (hts (.fieldLink RX3 41 "OneSentence" "trial" "LOneSentence$Talk;") (by decide +kernel)) (fun _ h9 => h9) rfl hin rfl rfl rfl rfl (Nat.le_of_ble_eq_true rfl) dX3_init_71 (fun H locs hP hD hS => ?_)
  have hP : va_P D vwCl [(h0, .inr (3, [.ref a7, .int 0, .int 0, .int 0, .ref a15, .ref a23, .ref a29, .ref a42, .int 0, .int 0, .ref a50, .ref a58, .long 0, .ref a64, .null, .int 0, .null, .null])), (a7, .inl (K 1, 40, .inl (fun _ => 0))), (a15, .inl (K 0, 7, .inl (fun _ => 0))), (a23, .inl (K 0, 7, .inl (fun _ => 0))), (a29, .inr (0, [.ref a29_1, .int 0, .int 0, .ref a29_3])), (a29_1, .inr (2, [.int 0, .int (-9), .int (-9), .ref a29_2])), (a29_2, .inl (K 0, 7, .inl (fun _ => 0))), (a29_3, .inl (K 0, 6, .inl (fun _ => 0))), (a42, .inl (K 3, 14, .inr (.inr (.inr (.inr (fun _ => none)))))), (a50, .inl (K 3, 2, .inr (.inr (.inr (.inr (fun _ => none)))))), (a58, .inl (K 2, 2, .inl (fun _ => 0))), (a64, .inr (2, [.int 0, .int (-9), .int (-9), .ref a64_1])), (a64_1, .inl (K 0, 7, .inl (fun _ => 0)))] H := hP
  have hD : va_D A [(h0, .inr (3, [.ref a7, .int 0, .int 0, .int 0, .ref a15, .ref a23, .ref a29, .ref a42, .int 0, .int 0, .ref a50, .ref a58, .long 0, .ref a64, .null, .int 0, .null, .null])), (a7, .inl (K 1, 40, .inl (fun _ => 0))), (a15, .inl (K 0, 7, .inl (fun _ => 0))), (a23, .inl (K 0, 7, .inl (fun _ => 0))), (a29, .inr (0, [.ref a29_1, .int 0, .int 0, .ref a29_3])), (a29_1, .inr (2, [.int 0, .int (-9), .int (-9), .ref a29_2])), (a29_2, .inl (K 0, 7, .inl (fun _ => 0))), (a29_3, .inl (K 0, 6, .inl (fun _ => 0))), (a42, .inl (K 3, 14, .inr (.inr (.inr (.inr (fun _ => none)))))), (a50, .inl (K 3, 2, .inr (.inr (.inr (.inr (fun _ => none)))))), (a58, .inl (K 2, 2, .inl (fun _ => 0))), (a64, .inr (2, [.int 0, .int (-9), .int (-9), .ref a64_1])), (a64_1, .inl (K 0, 7, .inl (fun _ => 0)))] := hD
  refine lv_aload_n hx hb dX3_init_74 rfl (lv_at hl 0 rfl) ?_
  refine va_new (ci := 1) (fs := [.null, .int 0]) (C := RX1) (T := TX1) (N := 2) hx hb hts hiX3_init_X1 tyX1 tyX1_ok hown (hts (.classLink RX3 45 RX1) (by decide +kernel)) (hts (.instantiable RX1 2) (by decide +kernel)) (hts (.initialized RX1) (by decide +kernel)) hK hP hD hS hA rfl (fun j hj => by rcases (show j = 0 ∨ j = 1 by omega) with rfl | rfl <;> rfl) (Nat.le_of_ble_eq_true rfl) (Nat.le_of_ble_eq_true rfl) dX3_init_75 (fun a75 H hP hD hS => ?_)
  have hP : va_P D vwCl [(h0, .inr (3, [.ref a7, .int 0, .int 0, .int 0, .ref a15, .ref a23, .ref a29, .ref a42, .int 0, .int 0, .ref a50, .ref a58, .long 0, .ref a64, .null, .int 0, .null, .null])), (a7, .inl (K 1, 40, .inl (fun _ => 0))), (a15, .inl (K 0, 7, .inl (fun _ => 0))), (a23, .inl (K 0, 7, .inl (fun _ => 0))), (a29, .inr (0, [.ref a29_1, .int 0, .int 0, .ref a29_3])), (a29_1, .inr (2, [.int 0, .int (-9), .int (-9), .ref a29_2])), (a29_2, .inl (K 0, 7, .inl (fun _ => 0))), (a29_3, .inl (K 0, 6, .inl (fun _ => 0))), (a42, .inl (K 3, 14, .inr (.inr (.inr (.inr (fun _ => none)))))), (a50, .inl (K 3, 2, .inr (.inr (.inr (.inr (fun _ => none)))))), (a58, .inl (K 2, 2, .inl (fun _ => 0))), (a64, .inr (2, [.int 0, .int (-9), .int (-9), .ref a64_1])), (a64_1, .inl (K 0, 7, .inl (fun _ => 0))), (a75, .inr (1, [.null, .int 0]))] H := hP
  have hD : va_D A [(h0, .inr (3, [.ref a7, .int 0, .int 0, .int 0, .ref a15, .ref a23, .ref a29, .ref a42, .int 0, .int 0, .ref a50, .ref a58, .long 0, .ref a64, .null, .int 0, .null, .null])), (a7, .inl (K 1, 40, .inl (fun _ => 0))), (a15, .inl (K 0, 7, .inl (fun _ => 0))), (a23, .inl (K 0, 7, .inl (fun _ => 0))), (a29, .inr (0, [.ref a29_1, .int 0, .int 0, .ref a29_3])), (a29_1, .inr (2, [.int 0, .int (-9), .int (-9), .ref a29_2])), (a29_2, .inl (K 0, 7, .inl (fun _ => 0))), (a29_3, .inl (K 0, 6, .inl (fun _ => 0))), (a42, .inl (K 3, 14, .inr (.inr (.inr (.inr (fun _ => none)))))), (a50, .inl (K 3, 2, .inr (.inr (.inr (.inr (fun _ => none)))))), (a58, .inl (K 2, 2, .inl (fun _ => 0))), (a64, .inr (2, [.int 0, .int (-9), .int (-9), .ref a64_1])), (a64_1, .inl (K 0, 7, .inl (fun _ => 0))), (a75, .inr (1, [.null, .int 0]))] := hD
  refine W.widen (k := 13) (n := 106) (by omega) (by omega) ?_
  refine lv_dup hx hb dX3_init_78 rfl ?_
  have hPc := hP.sub (ws' := [(a75, .inr (1, [.null, .int 0]))]) [13] rfl
  have hDc := hD.sub (ws' := [(a75, .inr (1, [.null, .int 0]))]) [13] (by decide) rfl
  have hFc := va_free (wc := [(a75, .inr (1, [.null, .int 0]))]) hD hS hA [13] rfl
  refine va_callv (va_runIN (As := []) (rest := [.ref a75, .ref h0]) ⟨hx, hb, hml, hown, hts⟩ (kr_init l D K a75 H.size) ⟨va_cnB 0 hts gX3_init_X1_init_n47 rfl rfl rfl (hN.2 (RX3, 47, yX1_init, "OneSentence") (by decide)) (hts (.initialized RX1) (by decide +kernel)) (by decide +kernel) ⟨Nat.le_of_ble_eq_true rfl, Nat.le_of_ble_eq_true rfl⟩, rfl, hts (.instanceMethod yX1_init) (by decide +kernel)⟩ (i_pre hPc hDc hK hN hAO) rfl rfl hl.1 rfl (lv_room (Nat.le_of_ble_eq_true rfl)) dX3_init_79 ⟨Nat.le_of_ble_eq_true rfl, Nat.le_of_ble_eq_true rfl⟩) hS (fun q _ h => hFc q h) hFc (fun u t H1 locs ht hvm _ hB hz1 hk1 hS => ?_)
  obtain ⟨a75_1, rfl⟩ : ∃ z, z = u := ⟨_, rfl⟩
  obtain ⟨hP1, hD1⟩ := hB
  rw [ht] at hP1
  obtain ⟨hP, hD⟩ := va_join (wr := [(h0, .inr (3, [.ref a7, .int 0, .int 0, .int 0, .ref a15, .ref a23, .ref a29, .ref a42, .int 0, .int 0, .ref a50, .ref a58, .long 0, .ref a64, .null, .int 0, .null, .null])), (a7, .inl (K 1, 40, .inl (fun _ => 0))), (a15, .inl (K 0, 7, .inl (fun _ => 0))), (a23, .inl (K 0, 7, .inl (fun _ => 0))), (a29, .inr (0, [.ref a29_1, .int 0, .int 0, .ref a29_3])), (a29_1, .inr (2, [.int 0, .int (-9), .int (-9), .ref a29_2])), (a29_2, .inl (K 0, 7, .inl (fun _ => 0))), (a29_3, .inl (K 0, 6, .inl (fun _ => 0))), (a42, .inl (K 3, 14, .inr (.inr (.inr (.inr (fun _ => none)))))), (a50, .inl (K 3, 2, .inr (.inr (.inr (.inr (fun _ => none)))))), (a58, .inl (K 2, 2, .inl (fun _ => 0))), (a64, .inr (2, [.int 0, .int (-9), .int (-9), .ref a64_1])), (a64_1, .inl (K 0, 7, .inl (fun _ => 0)))]) (w1 := [(a75, .inr (1, [.ref a75_1, .int 0])), (a75_1, .inl (K 0, 7, .inl (fun _ => 0)))]) hP hD [13] [0, 1, 2, 3, 4, 5, 6, 7, 8, 9, 10, 11, 12] rfl rfl (by decide) (by decide) hk1 hFc hP1 hD1
  generalize H1 = H at hP hS ⊢
  have hP : va_P D vwCl [(h0, .inr (3, [.ref a7, .int 0, .int 0, .int 0, .ref a15, .ref a23, .ref a29, .ref a42, .int 0, .int 0, .ref a50, .ref a58, .long 0, .ref a64, .null, .int 0, .null, .null])), (a7, .inl (K 1, 40, .inl (fun _ => 0))), (a15, .inl (K 0, 7, .inl (fun _ => 0))), (a23, .inl (K 0, 7, .inl (fun _ => 0))), (a29, .inr (0, [.ref a29_1, .int 0, .int 0, .ref a29_3])), (a29_1, .inr (2, [.int 0, .int (-9), .int (-9), .ref a29_2])), (a29_2, .inl (K 0, 7, .inl (fun _ => 0))), (a29_3, .inl (K 0, 6, .inl (fun _ => 0))), (a42, .inl (K 3, 14, .inr (.inr (.inr (.inr (fun _ => none)))))), (a50, .inl (K 3, 2, .inr (.inr (.inr (.inr (fun _ => none)))))), (a58, .inl (K 2, 2, .inl (fun _ => 0))), (a64, .inr (2, [.int 0, .int (-9), .int (-9), .ref a64_1])), (a64_1, .inl (K 0, 7, .inl (fun _ => 0))), (a75, .inr (1, [.ref a75_1, .int 0])), (a75_1, .inl (K 0, 7, .inl (fun _ => 0)))] H := hP
  have hD : va_D A [(h0, .inr (3, [.ref a7, .int 0, .int 0, .int 0, .ref a15, .ref a23, .ref a29, .ref a42, .int 0, .int 0, .ref a50, .ref a58, .long 0, .ref a64, .null, .int 0, .null, .null])), (a7, .inl (K 1, 40, .inl (fun _ => 0))), (a15, .inl (K 0, 7, .inl (fun _ => 0))), (a23, .inl (K 0, 7, .inl (fun _ => 0))), (a29, .inr (0, [.ref a29_1, .int 0, .int 0, .ref a29_3])), (a29_1, .inr (2, [.int 0, .int (-9), .int (-9), .ref a29_2])), (a29_2, .inl (K 0, 7, .inl (fun _ => 0))), (a29_3, .inl (K 0, 6, .inl (fun _ => 0))), (a42, .inl (K 3, 14, .inr (.inr (.inr (.inr (fun _ => none)))))), (a50, .inl (K 3, 2, .inr (.inr (.inr (.inr (fun _ => none)))))), (a58, .inl (K 2, 2, .inl (fun _ => 0))), (a64, .inr (2, [.int 0, .int (-9), .int (-9), .ref a64_1])), (a64_1, .inl (K 0, 7, .inl (fun _ => 0))), (a75, .inr (1, [.ref a75_1, .int 0])), (a75_1, .inl (K 0, 7, .inl (fun _ => 0)))] := hD
  refine W.widen (k := 14) (n := 113) (by omega) (by omega) ?_
  refine va_putF (D := D) (ci := 3) (v := .ref a75) (ty := (.object "OneSentence$Rows")) (C := RX3) (T := TX3) (N := 18) hx hb hts hiX3_init_X3 tyX3 tyX3_ok nmX3 hown hK hP hD hS 0 rfl rfl 14 (by decide) (hts (.fieldLink RX3 48 "OneSentence" "rows" "LOneSentence$Rows;") (by decide +kernel)) (fun _ h9 => h9) rfl hin rfl rfl rfl rfl (Nat.le_of_ble_eq_true rfl) dX3_init_82 (fun H locs hP hD hS => ?_)
  have hP : va_P D vwCl [(h0, .inr (3, [.ref a7, .int 0, .int 0, .int 0, .ref a15, .ref a23, .ref a29, .ref a42, .int 0, .int 0, .ref a50, .ref a58, .long 0, .ref a64, .ref a75, .int 0, .null, .null])), (a7, .inl (K 1, 40, .inl (fun _ => 0))), (a15, .inl (K 0, 7, .inl (fun _ => 0))), (a23, .inl (K 0, 7, .inl (fun _ => 0))), (a29, .inr (0, [.ref a29_1, .int 0, .int 0, .ref a29_3])), (a29_1, .inr (2, [.int 0, .int (-9), .int (-9), .ref a29_2])), (a29_2, .inl (K 0, 7, .inl (fun _ => 0))), (a29_3, .inl (K 0, 6, .inl (fun _ => 0))), (a42, .inl (K 3, 14, .inr (.inr (.inr (.inr (fun _ => none)))))), (a50, .inl (K 3, 2, .inr (.inr (.inr (.inr (fun _ => none)))))), (a58, .inl (K 2, 2, .inl (fun _ => 0))), (a64, .inr (2, [.int 0, .int (-9), .int (-9), .ref a64_1])), (a64_1, .inl (K 0, 7, .inl (fun _ => 0))), (a75, .inr (1, [.ref a75_1, .int 0])), (a75_1, .inl (K 0, 7, .inl (fun _ => 0)))] H := hP
  have hD : va_D A [(h0, .inr (3, [.ref a7, .int 0, .int 0, .int 0, .ref a15, .ref a23, .ref a29, .ref a42, .int 0, .int 0, .ref a50, .ref a58, .long 0, .ref a64, .ref a75, .int 0, .null, .null])), (a7, .inl (K 1, 40, .inl (fun _ => 0))), (a15, .inl (K 0, 7, .inl (fun _ => 0))), (a23, .inl (K 0, 7, .inl (fun _ => 0))), (a29, .inr (0, [.ref a29_1, .int 0, .int 0, .ref a29_3])), (a29_1, .inr (2, [.int 0, .int (-9), .int (-9), .ref a29_2])), (a29_2, .inl (K 0, 7, .inl (fun _ => 0))), (a29_3, .inl (K 0, 6, .inl (fun _ => 0))), (a42, .inl (K 3, 14, .inr (.inr (.inr (.inr (fun _ => none)))))), (a50, .inl (K 3, 2, .inr (.inr (.inr (.inr (fun _ => none)))))), (a58, .inl (K 2, 2, .inl (fun _ => 0))), (a64, .inr (2, [.int 0, .int (-9), .int (-9), .ref a64_1])), (a64_1, .inl (K 0, 7, .inl (fun _ => 0))), (a75, .inr (1, [.ref a75_1, .int 0])), (a75_1, .inl (K 0, 7, .inl (fun _ => 0)))] := hD
  refine lv_aload_n hx hb dX3_init_85 rfl (lv_at hl 0 rfl) ?_
  refine lv_bipush (v := 10) hx hb dX3_init_86 (by decide) ?_
  refine va_newa (atype := .int) (ty := .int) (a0 := (10, .inl (fun _ => 0))) (N' := 10) hx hb (hts (.arrayClass .int) (by decide +kernel)) rfl hK hP hD hS hA (fun _ => rfl) (by decide) (by decide) (by decide) (Nat.le_of_ble_eq_true rfl) (Nat.le_of_ble_eq_true rfl) dX3_init_88 (fun a88 cA H hK5 hP hD hS => ?_)
  obtain rfl := kI_id hK5
  have hP : va_P D vwCl [(h0, .inr (3, [.ref a7, .int 0, .int 0, .int 0, .ref a15, .ref a23, .ref a29, .ref a42, .int 0, .int 0, .ref a50, .ref a58, .long 0, .ref a64, .ref a75, .int 0, .null, .null])), (a7, .inl (K 1, 40, .inl (fun _ => 0))), (a15, .inl (K 0, 7, .inl (fun _ => 0))), (a23, .inl (K 0, 7, .inl (fun _ => 0))), (a29, .inr (0, [.ref a29_1, .int 0, .int 0, .ref a29_3])), (a29_1, .inr (2, [.int 0, .int (-9), .int (-9), .ref a29_2])), (a29_2, .inl (K 0, 7, .inl (fun _ => 0))), (a29_3, .inl (K 0, 6, .inl (fun _ => 0))), (a42, .inl (K 3, 14, .inr (.inr (.inr (.inr (fun _ => none)))))), (a50, .inl (K 3, 2, .inr (.inr (.inr (.inr (fun _ => none)))))), (a58, .inl (K 2, 2, .inl (fun _ => 0))), (a64, .inr (2, [.int 0, .int (-9), .int (-9), .ref a64_1])), (a64_1, .inl (K 0, 7, .inl (fun _ => 0))), (a75, .inr (1, [.ref a75_1, .int 0])), (a75_1, .inl (K 0, 7, .inl (fun _ => 0))), (a88, .inl (K 0, 10, .inl (fun _ => 0)))] H := hP
  have hD : va_D A [(h0, .inr (3, [.ref a7, .int 0, .int 0, .int 0, .ref a15, .ref a23, .ref a29, .ref a42, .int 0, .int 0, .ref a50, .ref a58, .long 0, .ref a64, .ref a75, .int 0, .null, .null])), (a7, .inl (K 1, 40, .inl (fun _ => 0))), (a15, .inl (K 0, 7, .inl (fun _ => 0))), (a23, .inl (K 0, 7, .inl (fun _ => 0))), (a29, .inr (0, [.ref a29_1, .int 0, .int 0, .ref a29_3])), (a29_1, .inr (2, [.int 0, .int (-9), .int (-9), .ref a29_2])), (a29_2, .inl (K 0, 7, .inl (fun _ => 0))), (a29_3, .inl (K 0, 6, .inl (fun _ => 0))), (a42, .inl (K 3, 14, .inr (.inr (.inr (.inr (fun _ => none)))))), (a50, .inl (K 3, 2, .inr (.inr (.inr (.inr (fun _ => none)))))), (a58, .inl (K 2, 2, .inl (fun _ => 0))), (a64, .inr (2, [.int 0, .int (-9), .int (-9), .ref a64_1])), (a64_1, .inl (K 0, 7, .inl (fun _ => 0))), (a75, .inr (1, [.ref a75_1, .int 0])), (a75_1, .inl (K 0, 7, .inl (fun _ => 0))), (a88, .inl (K 0, 10, .inl (fun _ => 0)))] := hD
  refine W.widen (k := 15) (n := 123) (by omega) (by omega) ?_
  refine va_putF (D := D) (ci := 3) (v := .ref a88) (ty := (.array .int)) (C := RX3) (T := TX3) (N := 18) hx hb hts hiX3_init_X3 tyX3 tyX3_ok nmX3 hown hK hP hD hS 0 rfl rfl 16 (by decide) (hts (.fieldLink RX3 52 "OneSentence" "seenBehind" "[I") (by decide +kernel)) (fun _ h9 => h9) rfl hin rfl rfl rfl rfl (Nat.le_of_ble_eq_true rfl) dX3_init_90 (fun H locs hP hD hS => ?_)
  have hP : va_P D vwCl [(h0, .inr (3, [.ref a7, .int 0, .int 0, .int 0, .ref a15, .ref a23, .ref a29, .ref a42, .int 0, .int 0, .ref a50, .ref a58, .long 0, .ref a64, .ref a75, .int 0, .ref a88, .null])), (a7, .inl (K 1, 40, .inl (fun _ => 0))), (a15, .inl (K 0, 7, .inl (fun _ => 0))), (a23, .inl (K 0, 7, .inl (fun _ => 0))), (a29, .inr (0, [.ref a29_1, .int 0, .int 0, .ref a29_3])), (a29_1, .inr (2, [.int 0, .int (-9), .int (-9), .ref a29_2])), (a29_2, .inl (K 0, 7, .inl (fun _ => 0))), (a29_3, .inl (K 0, 6, .inl (fun _ => 0))), (a42, .inl (K 3, 14, .inr (.inr (.inr (.inr (fun _ => none)))))), (a50, .inl (K 3, 2, .inr (.inr (.inr (.inr (fun _ => none)))))), (a58, .inl (K 2, 2, .inl (fun _ => 0))), (a64, .inr (2, [.int 0, .int (-9), .int (-9), .ref a64_1])), (a64_1, .inl (K 0, 7, .inl (fun _ => 0))), (a75, .inr (1, [.ref a75_1, .int 0])), (a75_1, .inl (K 0, 7, .inl (fun _ => 0))), (a88, .inl (K 0, 10, .inl (fun _ => 0)))] H := hP
  have hD : va_D A [(h0, .inr (3, [.ref a7, .int 0, .int 0, .int 0, .ref a15, .ref a23, .ref a29, .ref a42, .int 0, .int 0, .ref a50, .ref a58, .long 0, .ref a64, .ref a75, .int 0, .ref a88, .null])), (a7, .inl (K 1, 40, .inl (fun _ => 0))), (a15, .inl (K 0, 7, .inl (fun _ => 0))), (a23, .inl (K 0, 7, .inl (fun _ => 0))), (a29, .inr (0, [.ref a29_1, .int 0, .int 0, .ref a29_3])), (a29_1, .inr (2, [.int 0, .int (-9), .int (-9), .ref a29_2])), (a29_2, .inl (K 0, 7, .inl (fun _ => 0))), (a29_3, .inl (K 0, 6, .inl (fun _ => 0))), (a42, .inl (K 3, 14, .inr (.inr (.inr (.inr (fun _ => none)))))), (a50, .inl (K 3, 2, .inr (.inr (.inr (.inr (fun _ => none)))))), (a58, .inl (K 2, 2, .inl (fun _ => 0))), (a64, .inr (2, [.int 0, .int (-9), .int (-9), .ref a64_1])), (a64_1, .inl (K 0, 7, .inl (fun _ => 0))), (a75, .inr (1, [.ref a75_1, .int 0])), (a75_1, .inl (K 0, 7, .inl (fun _ => 0))), (a88, .inl (K 0, 10, .inl (fun _ => 0)))] := hD
  refine lv_aload_n hx hb dX3_init_93 rfl (lv_at hl 0 rfl) ?_
  refine lv_bipush (v := 16) hx hb dX3_init_94 (by decide) ?_
  refine va_newa (atype := .int) (ty := .int) (a0 := (16, .inl (fun _ => 0))) (N' := 16) hx hb (hts (.arrayClass .int) (by decide +kernel)) rfl hK hP hD hS hA (fun _ => rfl) (by decide) (by decide) (by decide) (Nat.le_of_ble_eq_true rfl) (Nat.le_of_ble_eq_true rfl) dX3_init_96 (fun a96 cA H hK5 hP hD hS => ?_)
  obtain rfl := kI_id hK5
  have hP : va_P D vwCl [(h0, .inr (3, [.ref a7, .int 0, .int 0, .int 0, .ref a15, .ref a23, .ref a29, .ref a42, .int 0, .int 0, .ref a50, .ref a58, .long 0, .ref a64, .ref a75, .int 0, .ref a88, .null])), (a7, .inl (K 1, 40, .inl (fun _ => 0))), (a15, .inl (K 0, 7, .inl (fun _ => 0))), (a23, .inl (K 0, 7, .inl (fun _ => 0))), (a29, .inr (0, [.ref a29_1, .int 0, .int 0, .ref a29_3])), (a29_1, .inr (2, [.int 0, .int (-9), .int (-9), .ref a29_2])), (a29_2, .inl (K 0, 7, .inl (fun _ => 0))), (a29_3, .inl (K 0, 6, .inl (fun _ => 0))), (a42, .inl (K 3, 14, .inr (.inr (.inr (.inr (fun _ => none)))))), (a50, .inl (K 3, 2, .inr (.inr (.inr (.inr (fun _ => none)))))), (a58, .inl (K 2, 2, .inl (fun _ => 0))), (a64, .inr (2, [.int 0, .int (-9), .int (-9), .ref a64_1])), (a64_1, .inl (K 0, 7, .inl (fun _ => 0))), (a75, .inr (1, [.ref a75_1, .int 0])), (a75_1, .inl (K 0, 7, .inl (fun _ => 0))), (a88, .inl (K 0, 10, .inl (fun _ => 0))), (a96, .inl (K 0, 16, .inl (fun _ => 0)))] H := hP
  have hD : va_D A [(h0, .inr (3, [.ref a7, .int 0, .int 0, .int 0, .ref a15, .ref a23, .ref a29, .ref a42, .int 0, .int 0, .ref a50, .ref a58, .long 0, .ref a64, .ref a75, .int 0, .ref a88, .null])), (a7, .inl (K 1, 40, .inl (fun _ => 0))), (a15, .inl (K 0, 7, .inl (fun _ => 0))), (a23, .inl (K 0, 7, .inl (fun _ => 0))), (a29, .inr (0, [.ref a29_1, .int 0, .int 0, .ref a29_3])), (a29_1, .inr (2, [.int 0, .int (-9), .int (-9), .ref a29_2])), (a29_2, .inl (K 0, 7, .inl (fun _ => 0))), (a29_3, .inl (K 0, 6, .inl (fun _ => 0))), (a42, .inl (K 3, 14, .inr (.inr (.inr (.inr (fun _ => none)))))), (a50, .inl (K 3, 2, .inr (.inr (.inr (.inr (fun _ => none)))))), (a58, .inl (K 2, 2, .inl (fun _ => 0))), (a64, .inr (2, [.int 0, .int (-9), .int (-9), .ref a64_1])), (a64_1, .inl (K 0, 7, .inl (fun _ => 0))), (a75, .inr (1, [.ref a75_1, .int 0])), (a75_1, .inl (K 0, 7, .inl (fun _ => 0))), (a88, .inl (K 0, 10, .inl (fun _ => 0))), (a96, .inl (K 0, 16, .inl (fun _ => 0)))] := hD
  refine W.widen (k := 16) (n := 139) (by omega) (by omega) ?_
  refine va_putF (D := D) (ci := 3) (v := .ref a96) (ty := (.array .int)) (C := RX3) (T := TX3) (N := 18) hx hb hts hiX3_init_X3 tyX3 tyX3_ok nmX3 hown hK hP hD hS 0 rfl rfl 17 (by decide) (hts (.fieldLink RX3 55 "OneSentence" "outcomes" "[I") (by decide +kernel)) (fun _ h9 => h9) rfl hin rfl rfl rfl rfl (Nat.le_of_ble_eq_true rfl) dX3_init_98 (fun H locs hP hD hS => ?_)
  have hP : va_P D vwCl [(h0, .inr (3, [.ref a7, .int 0, .int 0, .int 0, .ref a15, .ref a23, .ref a29, .ref a42, .int 0, .int 0, .ref a50, .ref a58, .long 0, .ref a64, .ref a75, .int 0, .ref a88, .ref a96])), (a7, .inl (K 1, 40, .inl (fun _ => 0))), (a15, .inl (K 0, 7, .inl (fun _ => 0))), (a23, .inl (K 0, 7, .inl (fun _ => 0))), (a29, .inr (0, [.ref a29_1, .int 0, .int 0, .ref a29_3])), (a29_1, .inr (2, [.int 0, .int (-9), .int (-9), .ref a29_2])), (a29_2, .inl (K 0, 7, .inl (fun _ => 0))), (a29_3, .inl (K 0, 6, .inl (fun _ => 0))), (a42, .inl (K 3, 14, .inr (.inr (.inr (.inr (fun _ => none)))))), (a50, .inl (K 3, 2, .inr (.inr (.inr (.inr (fun _ => none)))))), (a58, .inl (K 2, 2, .inl (fun _ => 0))), (a64, .inr (2, [.int 0, .int (-9), .int (-9), .ref a64_1])), (a64_1, .inl (K 0, 7, .inl (fun _ => 0))), (a75, .inr (1, [.ref a75_1, .int 0])), (a75_1, .inl (K 0, 7, .inl (fun _ => 0))), (a88, .inl (K 0, 10, .inl (fun _ => 0))), (a96, .inl (K 0, 16, .inl (fun _ => 0)))] H := hP
  have hD : va_D A [(h0, .inr (3, [.ref a7, .int 0, .int 0, .int 0, .ref a15, .ref a23, .ref a29, .ref a42, .int 0, .int 0, .ref a50, .ref a58, .long 0, .ref a64, .ref a75, .int 0, .ref a88, .ref a96])), (a7, .inl (K 1, 40, .inl (fun _ => 0))), (a15, .inl (K 0, 7, .inl (fun _ => 0))), (a23, .inl (K 0, 7, .inl (fun _ => 0))), (a29, .inr (0, [.ref a29_1, .int 0, .int 0, .ref a29_3])), (a29_1, .inr (2, [.int 0, .int (-9), .int (-9), .ref a29_2])), (a29_2, .inl (K 0, 7, .inl (fun _ => 0))), (a29_3, .inl (K 0, 6, .inl (fun _ => 0))), (a42, .inl (K 3, 14, .inr (.inr (.inr (.inr (fun _ => none)))))), (a50, .inl (K 3, 2, .inr (.inr (.inr (.inr (fun _ => none)))))), (a58, .inl (K 2, 2, .inl (fun _ => 0))), (a64, .inr (2, [.int 0, .int (-9), .int (-9), .ref a64_1])), (a64_1, .inl (K 0, 7, .inl (fun _ => 0))), (a75, .inr (1, [.ref a75_1, .int 0])), (a75_1, .inl (K 0, 7, .inl (fun _ => 0))), (a88, .inl (K 0, 10, .inl (fun _ => 0))), (a96, .inl (K 0, 16, .inl (fun _ => 0)))] := hD
  obtain ⟨L, hL⟩ : ∃ L : Nat → Nat, L = (fun k : Nat => match k with | 0 => h0 | 1 => a7 | 2 => a15 | 3 => a23 | 4 => a42 | 5 => a50 | 6 => a58 | 7 => a88 | 8 => a96 | 9 => a75 | 10 => a75_1 | 11 => a64 | 12 => a64_1 | 13 => a29 | 14 => a29_1 | 15 => a29_2 | _ => a29_3) := ⟨_, rfl⟩
  have hP : va_P D vwCl (gl L 17 (c0X L K (fun _ => none) (fun _ => none))) H := by
    subst hL
    exact hP.sub [0, 1, 2, 3, 8, 9, 10, 15, 16, 13, 14, 11, 12, 4, 5, 6, 7] rfl
  have hD : va_D A (gl L 17 (c0X L K (fun _ => none) (fun _ => none))) := by
    subst hL
    exact hD.sub [0, 1, 2, 3, 8, 9, 10, 15, 16, 13, 14, 11, 12, 4, 5, 6, 7] (by decide) rfl
  have hL0 : L 0 = h0 := by rw [hL]; rfl
  clear hL
  obtain ⟨Q9, hQ9⟩ : ∃ Q9 : State → Prop, Q9 = MQ below (va_Qv (fun L : Nat → Nat => L 0 = h0) (fun L t => va_P D vwCl (gl L 81 (cX L K w0X)) t.heap ∧ va_D A (gl L 81 (cX L K w0X))) A) [Value.ref h0].toArray s 80 475 A := ⟨_, rfl⟩
  rw [← hQ9]
  have loop2 : ∀ (n i : Nat), i + n = 2 → ∀ (L : Nat → Nat) (fp fs : Nat → Option Nat) (H : Heap) (locs : List Loc) (ls : Array Slot), L 0 = h0 → (∀ j, j < 14 → fp j = some (L (17 + 4 * j))) → (∀ j, j < i → fs j = some (L (73 + 4 * j))) → va_P D vwCl (gl L (17 + 4 * (14 + i)) (c0X L K fp fs)) H → va_D A (gl L (17 + 4 * (14 + i)) (c0X L K fp fs)) → va_S A s.heap H locs → lv_has ls 2 [(0, .ref h0), (1, .int (nI i))] → W p l e { frames := 3, cells := 80, slots := 475, locals := 52 } s m [Value.ref h0].toArray below meth c H locs (16 + 4 * (14 + i)) (139 + 21 * (14 + i)) Q9 (F0 m 133 ls []) := by
    intro n
    induction n with
    | zero =>
      intro i hin2 L fp fs H locs ls hL0 hfp hf hP hD hS hl
      obtain rfl : i = 2 := by omega
      refine lv_iload_n hx hb dX3_init_133 rfl (lv_at hl 1 rfl) ?_
      refine lv_aload_n hx hb dX3_init_134 rfl (lv_at hl 0 rfl) ?_
      refine va_get (D := D) (ci := 3) (v := .ref (L 5)) (C := RX3) (T := TX3) (N := 18) hx hb hts hiX3_init_X3 hown hK hP 0 (gl_at0 hL0 (by omega) rfl) rfl 10 (by decide) (hts (.fieldLink RX3 31 "OneSentence" "slots" "[LOneSentence$Day;") (by decide +kernel)) (fun _ h9 => h9) rfl dX3_init_135 ?_
      refine va_alen hx hb hK hP 5 3 (gl_at (by omega) rfl) rfl (v := 2) rfl dX3_init_138 ?_
      refine lv_icmp_ge (tgt := 161) hx hb dX3_init_139 (by decide) (fun _ => ?_) (fun c9 => absurd (by decide) c9)
      refine W.widen (k := 80) (n := 475) (by omega) (by omega) ?_
      rw [hQ9]
      exact W.vret hx hb hr (fun t ht hW => ⟨⟨L, rfl, hL0, by show va_P D vwCl _ t.heap; rw [ht]; exact gl_fin hP hfp hf, gl_finD hD⟩, hS.F ht⟩) hS.2.2 dX3_init_161
    | succ n ih =>
      intro i hin2 L fp fs H locs ls hL0 hfp hf hP hD hS hl
      refine lv_iload_n hx hb dX3_init_133 rfl (lv_at hl 1 rfl) ?_
      refine lv_aload_n hx hb dX3_init_134 rfl (lv_at hl 0 rfl) ?_
      refine va_get (D := D) (ci := 3) (v := .ref (L 5)) (C := RX3) (T := TX3) (N := 18) hx hb hts hiX3_init_X3 hown hK hP 0 (gl_at0 hL0 (by omega) rfl) rfl 10 (by decide) (hts (.fieldLink RX3 31 "OneSentence" "slots" "[LOneSentence$Day;") (by decide +kernel)) (fun _ h9 => h9) rfl dX3_init_135 ?_
      refine va_alen hx hb hK hP 5 3 (gl_at (by omega) rfl) rfl (v := 2) rfl dX3_init_138 ?_
      refine lv_icmp_ge (tgt := 161) hx hb dX3_init_139 (by decide) (fun c9 => absurd c9 (nI_ge (by omega : i < 2) (by decide))) (fun _ => ?_)
      refine lv_aload_n hx hb dX3_init_142 rfl (lv_at hl 0 rfl) ?_
      refine va_get (D := D) (ci := 3) (v := .ref (L 5)) (C := RX3) (T := TX3) (N := 18) hx hb hts hiX3_init_X3 hown hK hP 0 (gl_at0 hL0 (by omega) rfl) rfl 10 (by decide) (hts (.fieldLink RX3 31 "OneSentence" "slots" "[LOneSentence$Day;") (by decide +kernel)) (fun _ h9 => h9) rfl dX3_init_143 ?_
      refine lv_iload_n hx hb dX3_init_146 rfl (lv_at hl 1 rfl) ?_
      refine va_new (ci := 0) (fs := [.null, .int 0, .int 0, .null]) (C := RX0) (T := TX0) (N := 4) hx hb hts hiX3_init_X0 tyX0 tyX0_ok hown (hts (.classLink RX3 20 RX0) (by decide +kernel)) (hts (.instantiable RX0 4) (by decide +kernel)) (hts (.initialized RX0) (by decide +kernel)) hK hP hD hS hA rfl (fun j hj => by rcases (show j = 0 ∨ j = 1 ∨ j = 2 ∨ j = 3 by omega) with rfl | rfl | rfl | rfl <;> rfl) (show _ ≤ 80 by omega) (show _ ≤ 475 by omega) dX3_init_147 (fun q H hP hD hS => ?_)
      refine lv_dup hx hb dX3_init_150 rfl ?_
      have hPc : va_P D vwCl [(q, .inr (0, [.null, .int 0, .int 0, .null]))] H := fun k x hx9 => hP ((17 + 4 * (14 + i)) + k) x (by rw [List.getElem?_append_right (by simp [gl])]; simpa [gl] using hx9)
      have hDc : va_D A [(q, .inr (0, [.null, .int 0, .int 0, .null]))] := ⟨fun i9 j9 x y h1 h2 _ => by (have z1 := (List.getElem?_eq_some_iff.mp h1).1; have z2 := (List.getElem?_eq_some_iff.mp h2).1; simp at z1 z2; omega), fun k x hx9 => hD.2 ((17 + 4 * (14 + i)) + k) x (by rw [List.getElem?_append_right (by simp [gl])]; simpa [gl] using hx9)⟩
      have hFc : ∀ z, va_A [(q, .inr (0, [.null, .int 0, .int 0, .null]))] H.size z → A z := by
        intro z hz
        rcases hz with ⟨k, e9, hz⟩ | hz
        · exact hDc.2 k _ hz
        · exact hA z (Nat.le_trans hS.1 hz)
      refine va_callv (va_runIN (As := []) (rest := [.ref q, .int (nI i), .ref (L 5)]) ⟨hx, hb, hml, hown, hts⟩ (kd_init l D K q H.size) ⟨va_cnB 0 hts gX3_init_X0_init_n22 rfl rfl rfl (hN.2 (RX3, 22, yX0_init, "OneSentence") (by decide)) (hts (.initialized RX0) (by decide +kernel)) (by decide +kernel) ⟨Nat.le_of_ble_eq_true rfl, Nat.le_of_ble_eq_true rfl⟩, rfl, hts (.instanceMethod yX0_init) (by decide +kernel)⟩ (i_pre hPc hDc hK hN hAO) rfl rfl hl.1 rfl (lv_room (Nat.le_of_ble_eq_true rfl)) dX3_init_151 ⟨show _ ≤ 80 by omega, show _ ≤ 475 by omega⟩) hS (fun z _ h => hFc z h) hFc (fun u t H1 locs ht hvm _ hB hz1 hk1 hS => ?_)
      obtain ⟨q1, q2, q3⟩ := u
      obtain ⟨hP1, hD1⟩ := hB
      rw [ht] at hP1
      dsimp only at hP1 hD1
      obtain ⟨hP, hD⟩ := i_join hP hD hk1 hFc hP1 hD1
      generalize H1 = H at hP hS ⊢
      have hlen : (gl L (17 + 4 * (14 + i)) (c0X L K fp fs)).length = (17 + 4 * (14 + i)) := by simp [gl]
      have hi31 : (nI i).toNatClampNeg = i := nI_clamp (by omega)
      refine va_astq (i := nI i) (r := (RX0, TX0, 4)) hx hb hK hP hD hS 5 3 (17 + 4 * (14 + i)) 0 (by rw [List.getElem?_append_left (by omega)]; exact gl_at (by omega) rfl) rfl (by rw [List.getElem?_append_right (by omega), hlen, Nat.sub_self]; rfl) rfl (vp_in_nI (by omega) (by decide)) dX3_init_154 (fun H locs hP hD hS => ?_)
      rw [hi31, gl_day (L := L) (K := K) (q := q) (q1 := q1) (q2 := q2) (q3 := q3) (i := 14 + i) (fp' := fp) (fs' := va_up fs i (some q)) (e := .inl (K 3, 2, .inr (.inr (.inr (.inr (va_up fs i (some q))))))) (by omega) (Or.inr rfl) (fun _ => rfl) (fun h => by omega) rfl] at hP hD
      refine lv_iinc (v := nI i + 1) (lv' := [(1, .int (nI i + 1)), (0, .ref h0)]) hx hb dX3_init_155 hl (k := 1) rfl rfl (by decide) rfl (fun ls hl => ?_)
      refine lv_goto (tgt := 133) hx hb dX3_init_158 (by decide) ?_
      rw [← nI_succ] at hl
      refine W.widen (k := 16 + 4 * (14 + (i + 1))) (n := 139 + 21 * (14 + (i + 1))) (by omega) (by omega) ?_
      rw [show 14 + i + 1 = 14 + (i + 1) by omega] at hP hD
      have hu : ∀ d, d < (17 + 4 * (14 + i)) → upL L (17 + 4 * (14 + i)) q q1 q2 q3 d = L d := fun d hd => by unfold upL; rw [if_pos hd]
      refine ih (i + 1) (by omega) (upL L (17 + 4 * (14 + i)) q q1 q2 q3) fp (va_up fs i (some q)) H locs ls (by rw [hu 0 (by omega)]; exact hL0) (fun j hj => by rw [hfp j hj, hu _ (by omega)]) (fun j hj => ?_) hP hD hS (lv_sub hl [1, 0] rfl)
      by_cases hj2 : j = i
      · subst hj2
        rw [show va_up fs j (some q) j = some q by simp [va_up], show upL L (17 + 4 * (14 + j)) q q1 q2 q3 (73 + 4 * j) = q by unfold upL; rw [if_neg (by omega), if_pos (by omega)]]
      · rw [show va_up fs i (some q) j = fs j by simp [va_up, hj2], hf j (by omega), hu _ (by omega)]
  have loop1 : ∀ (n i : Nat), i + n = 14 → ∀ (L : Nat → Nat) (fp fs : Nat → Option Nat) (H : Heap) (locs : List Loc) (ls : Array Slot), L 0 = h0 → (∀ j, j < i → fp j = some (L (17 + 4 * j))) → va_P D vwCl (gl L (17 + 4 * (0 + i)) (c0X L K fp (fun _ => none))) H → va_D A (gl L (17 + 4 * (0 + i)) (c0X L K fp (fun _ => none))) → va_S A s.heap H locs → lv_has ls 2 [(0, .ref h0), (1, .int (nI i))] → W p l e { frames := 3, cells := 80, slots := 475, locals := 52 } s m [Value.ref h0].toArray below meth c H locs (16 + 4 * (0 + i)) (139 + 21 * (0 + i)) Q9 (F0 m 103 ls []) := by
    intro n
    induction n with
    | zero =>
      intro i hin2 L fp fs H locs ls hL0 hf hP hD hS hl
      obtain rfl : i = 14 := by omega
      refine lv_iload_n hx hb dX3_init_103 rfl (lv_at hl 1 rfl) ?_
      refine lv_aload_n hx hb dX3_init_104 rfl (lv_at hl 0 rfl) ?_
      refine va_get (D := D) (ci := 3) (v := .ref (L 4)) (C := RX3) (T := TX3) (N := 18) hx hb hts hiX3_init_X3 hown hK hP 0 (gl_at0 hL0 (by omega) rfl) rfl 7 (by decide) (hts (.fieldLink RX3 27 "OneSentence" "past" "[LOneSentence$Day;") (by decide +kernel)) (fun _ h9 => h9) rfl dX3_init_105 ?_
      refine va_alen hx hb hK hP 4 3 (gl_at (by omega) rfl) rfl (v := 14) rfl dX3_init_108 ?_
      refine lv_icmp_ge (tgt := 131) hx hb dX3_init_109 (by decide) (fun _ => ?_) (fun c9 => absurd (by decide) c9)
      refine lv_iconst (v := 0) hx hb dX3_init_131 (by decide) ?_
      refine lv_istore_n (lv' := [(1, .int 0), (0, .ref h0)]) hx hb dX3_init_132 rfl hl (by decide) rfl (fun ls hl => ?_)
      exact loop2 2 0 rfl L fp (fun _ => none) H locs ls hL0 hf (fun j hj => by omega) hP hD hS (lv_sub hl [1, 0] rfl)
    | succ n ih =>
      intro i hin2 L fp fs H locs ls hL0 hf hP hD hS hl
      refine lv_iload_n hx hb dX3_init_103 rfl (lv_at hl 1 rfl) ?_
      refine lv_aload_n hx hb dX3_init_104 rfl (lv_at hl 0 rfl) ?_
      refine va_get (D := D) (ci := 3) (v := .ref (L 4)) (C := RX3) (T := TX3) (N := 18) hx hb hts hiX3_init_X3 hown hK hP 0 (gl_at0 hL0 (by omega) rfl) rfl 7 (by decide) (hts (.fieldLink RX3 27 "OneSentence" "past" "[LOneSentence$Day;") (by decide +kernel)) (fun _ h9 => h9) rfl dX3_init_105 ?_
      refine va_alen hx hb hK hP 4 3 (gl_at (by omega) rfl) rfl (v := 14) rfl dX3_init_108 ?_
      refine lv_icmp_ge (tgt := 131) hx hb dX3_init_109 (by decide) (fun c9 => absurd c9 (nI_ge (by omega : i < 14) (by decide))) (fun _ => ?_)
      refine lv_aload_n hx hb dX3_init_112 rfl (lv_at hl 0 rfl) ?_
      refine va_get (D := D) (ci := 3) (v := .ref (L 4)) (C := RX3) (T := TX3) (N := 18) hx hb hts hiX3_init_X3 hown hK hP 0 (gl_at0 hL0 (by omega) rfl) rfl 7 (by decide) (hts (.fieldLink RX3 27 "OneSentence" "past" "[LOneSentence$Day;") (by decide +kernel)) (fun _ h9 => h9) rfl dX3_init_113 ?_
      refine lv_iload_n hx hb dX3_init_116 rfl (lv_at hl 1 rfl) ?_
      refine va_new (ci := 0) (fs := [.null, .int 0, .int 0, .null]) (C := RX0) (T := TX0) (N := 4) hx hb hts hiX3_init_X0 tyX0 tyX0_ok hown (hts (.classLink RX3 20 RX0) (by decide +kernel)) (hts (.instantiable RX0 4) (by decide +kernel)) (hts (.initialized RX0) (by decide +kernel)) hK hP hD hS hA rfl (fun j hj => by rcases (show j = 0 ∨ j = 1 ∨ j = 2 ∨ j = 3 by omega) with rfl | rfl | rfl | rfl <;> rfl) (show _ ≤ 80 by omega) (show _ ≤ 475 by omega) dX3_init_117 (fun q H hP hD hS => ?_)
      refine lv_dup hx hb dX3_init_120 rfl ?_
      have hPc : va_P D vwCl [(q, .inr (0, [.null, .int 0, .int 0, .null]))] H := fun k x hx9 => hP ((17 + 4 * (0 + i)) + k) x (by rw [List.getElem?_append_right (by simp [gl])]; simpa [gl] using hx9)
      have hDc : va_D A [(q, .inr (0, [.null, .int 0, .int 0, .null]))] := ⟨fun i9 j9 x y h1 h2 _ => by (have z1 := (List.getElem?_eq_some_iff.mp h1).1; have z2 := (List.getElem?_eq_some_iff.mp h2).1; simp at z1 z2; omega), fun k x hx9 => hD.2 ((17 + 4 * (0 + i)) + k) x (by rw [List.getElem?_append_right (by simp [gl])]; simpa [gl] using hx9)⟩
      have hFc : ∀ z, va_A [(q, .inr (0, [.null, .int 0, .int 0, .null]))] H.size z → A z := by
        intro z hz
        rcases hz with ⟨k, e9, hz⟩ | hz
        · exact hDc.2 k _ hz
        · exact hA z (Nat.le_trans hS.1 hz)
      refine va_callv (va_runIN (As := []) (rest := [.ref q, .int (nI i), .ref (L 4)]) ⟨hx, hb, hml, hown, hts⟩ (kd_init l D K q H.size) ⟨va_cnB 0 hts gX3_init_X0_init_n22 rfl rfl rfl (hN.2 (RX3, 22, yX0_init, "OneSentence") (by decide)) (hts (.initialized RX0) (by decide +kernel)) (by decide +kernel) ⟨Nat.le_of_ble_eq_true rfl, Nat.le_of_ble_eq_true rfl⟩, rfl, hts (.instanceMethod yX0_init) (by decide +kernel)⟩ (i_pre hPc hDc hK hN hAO) rfl rfl hl.1 rfl (lv_room (Nat.le_of_ble_eq_true rfl)) dX3_init_121 ⟨show _ ≤ 80 by omega, show _ ≤ 475 by omega⟩) hS (fun z _ h => hFc z h) hFc (fun u t H1 locs ht hvm _ hB hz1 hk1 hS => ?_)
      obtain ⟨q1, q2, q3⟩ := u
      obtain ⟨hP1, hD1⟩ := hB
      rw [ht] at hP1
      dsimp only at hP1 hD1
      obtain ⟨hP, hD⟩ := i_join hP hD hk1 hFc hP1 hD1
      generalize H1 = H at hP hS ⊢
      have hlen : (gl L (17 + 4 * (0 + i)) (c0X L K fp (fun _ => none))).length = (17 + 4 * (0 + i)) := by simp [gl]
      have hi31 : (nI i).toNatClampNeg = i := nI_clamp (by omega)
      refine va_astq (i := nI i) (r := (RX0, TX0, 4)) hx hb hK hP hD hS 4 3 (17 + 4 * (0 + i)) 0 (by rw [List.getElem?_append_left (by omega)]; exact gl_at (by omega) rfl) rfl (by rw [List.getElem?_append_right (by omega), hlen, Nat.sub_self]; rfl) rfl (vp_in_nI (by omega) (by decide)) dX3_init_124 (fun H locs hP hD hS => ?_)
      rw [hi31, gl_day (L := L) (K := K) (q := q) (q1 := q1) (q2 := q2) (q3 := q3) (i := 0 + i) (fp' := va_up fp i (some q)) (fs' := (fun _ => none)) (e := .inl (K 3, 14, .inr (.inr (.inr (.inr (va_up fp i (some q))))))) (by omega) (Or.inl rfl) (fun h => by omega) (fun _ => rfl) rfl] at hP hD
      refine lv_iinc (v := nI i + 1) (lv' := [(1, .int (nI i + 1)), (0, .ref h0)]) hx hb dX3_init_125 hl (k := 1) rfl rfl (by decide) rfl (fun ls hl => ?_)
      refine lv_goto (tgt := 103) hx hb dX3_init_128 (by decide) ?_
      rw [← nI_succ] at hl
      refine W.widen (k := 16 + 4 * (0 + (i + 1))) (n := 139 + 21 * (0 + (i + 1))) (by omega) (by omega) ?_
      rw [show 0 + i + 1 = 0 + (i + 1) by omega] at hP hD
      have hu : ∀ d, d < (17 + 4 * (0 + i)) → upL L (17 + 4 * (0 + i)) q q1 q2 q3 d = L d := fun d hd => by unfold upL; rw [if_pos hd]
      refine ih (i + 1) (by omega) (upL L (17 + 4 * (0 + i)) q q1 q2 q3) (va_up fp i (some q)) fs H locs ls (by rw [hu 0 (by omega)]; exact hL0) (fun j hj => ?_) hP hD hS (lv_sub hl [1, 0] rfl)
      by_cases hj2 : j = i
      · subst hj2
        rw [show va_up fp j (some q) j = some q by simp [va_up], show upL L (17 + 4 * (0 + j)) q q1 q2 q3 (17 + 4 * j) = q by unfold upL; rw [if_neg (by omega), if_pos (by omega)]]
      · rw [show va_up fp i (some q) j = fp j by simp [va_up, hj2], hf j (by omega), hu _ (by omega)]
  refine lv_iconst (v := 0) hx hb dX3_init_101 (by decide) ?_
  refine lv_istore_n (lv' := [(1, .int 0), (0, .ref h0)]) hx hb dX3_init_102 rfl hl (by decide) rfl (fun ls hl => ?_)
  exact loop1 14 0 rfl L (fun _ => none) (fun _ => none) H locs ls hL0 (fun j hj => by omega) hP hD hS (lv_sub hl [1, 0] rfl)
