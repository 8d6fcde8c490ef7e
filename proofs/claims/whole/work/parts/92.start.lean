theorem in_nwF : ∀ q ∈ nwF, Cond.fieldLinkNest q.1 q.2.1 q.2.2.1 q.2.2.2.1 q.2.2.2.2.1 q.2.2.2.2.2 ∈ lw_tbl := fun q hq => in_ps (ws := nwF.map (fun q => Cond.fieldLinkNest q.1 q.2.1 q.2.2.1 q.2.2.2.1 q.2.2.2.2.1 q.2.2.2.2.2)) [94, 81, 98, 76, 78, 100, 96] (by decide +kernel) _ (List.mem_map.mpr ⟨q, hq, rfl⟩)
theorem in_nwM : ∀ q ∈ nwM, Cond.methodLinkNest q.1 q.2.1 q.2.2.1 q.2.2.2 ∈ lw_tbl := fun q hq => in_ps (ws := nwM.map (fun q => Cond.methodLinkNest q.1 q.2.1 q.2.2.1 q.2.2.2)) [251, 325, 334, 339, 314, 288, 65, 112, 115, 212, 71, 216, 255, 329, 338] (by decide +kernel) _ (List.mem_map.mpr ⟨q, hq, rfl⟩)
theorem s_orders {args : Array Value} {s : State} (hg : (Jvm.Cond.and given_1 narrow_1).before args s = true) (hl : (Cond.laysStatic "OneSentence" "ORDERS" "[I").before args s = true) (hi : (Cond.initialized "OneSentence").before args s = true) : ∃ t0 : Nat, va_Z "OneSentence" "ORDERS" "[I" (.ref t0) (lA s) s s.heap ∧ va_T .int t0 7 (fun j => .int (ordF j)) (lA s) s s.heap := by
  have hf := flat_of_before _ hg
  have hA : ∀ a : Nat, a < s.heap.size → ¬ lA s a := fun a ha h => by unfold lA at h; omega
  obtain ⟨t0, h1, h2⟩ := va_Tof (tm := .static "OneSentence" "ORDERS" "[I") (ty := .int) (N := 7) (f := fun j => .int (ordF j)) (A := lA s) (by decide) (hf _ (by decide +kernel)) (va_eqt (hf _ (by decide +kernel))) (fun j hj => by
    rcases (show j = 0 ∨ j = 1 ∨ j = 2 ∨ j = 3 ∨ j = 4 ∨ j = 5 ∨ j = 6 by omega) with rfl | rfl | rfl | rfl | rfl | rfl | rfl
    · exact va_eqt (t := .elem (.static "OneSentence" "ORDERS" "[I") (.int 0)) (z := 1) (hf _ (by decide +kernel))
    · exact va_eqt (t := .elem (.static "OneSentence" "ORDERS" "[I") (.int 1)) (z := 1) (hf _ (by decide +kernel))
    · exact va_eqt (t := .elem (.static "OneSentence" "ORDERS" "[I") (.int 2)) (z := 2) (hf _ (by decide +kernel))
    · exact va_eqt (t := .elem (.static "OneSentence" "ORDERS" "[I") (.int 3)) (z := 6) (hf _ (by decide +kernel))
    · exact va_eqt (t := .elem (.static "OneSentence" "ORDERS" "[I") (.int 4)) (z := 24) (hf _ (by decide +kernel))
    · exact va_eqt (t := .elem (.static "OneSentence" "ORDERS" "[I") (.int 5)) (z := 120) (hf _ (by decide +kernel))
    · exact va_eqt (t := .elem (.static "OneSentence" "ORDERS" "[I") (.int 6)) (z := 720) (hf _ (by decide +kernel))) hA
  exact ⟨t0, va_Zof hl hi h1 hA, h2⟩
theorem s_arr {args : Array Value} {s : State} {ty : FieldType} (h : (Cond.arrayClass ty).before args s = true) : ∃ cA : ClassId, ArrOfT s cA ty ∧ s.vm.findClass ("[" ++ ty.toString) = some cA := by
  obtain ⟨c, k, comp, h1, h2, h3⟩ := Cond.arrayClass_spec h
  exact ⟨c, fun n z => ⟨(fun k h => by cases h), k, h2, comp, h3⟩, h1⟩
theorem s_arrD {s : State} (h : va_AO RX0 s) : ∃ cA : ClassId, ArrOfT s cA (.object RX0) ∧ va_RA s cA (.object RX0) := by
  obtain ⟨comp, c, k, h1, h2, h3, h4, h5⟩ := Cond.arrayOver_spec h
  exact ⟨c, fun n z => ⟨(fun k h => by cases h), k, h3, comp, h4⟩, k, comp, h3, h4, h1, h5⟩
set_option maxHeartbeats 4000000 in
set_option maxRecDepth 100000 in
theorem whole_start {p : Program} {e : Env} {s : State} {m : MethodId} {below : List Frame} {meth : Method} {c : Code} (l : Launch) (hflags : l.flags = flags0) {b L : Nat} {xs : Nat → Int32} (hL : L ≤ 384) (C0 : lw_At p s m meth c b L xs) : W p l e room_1 s m #[Value.ref b] below meth c s.heap [] 0 0 (lw_Z below #[Value.ref b] s) (entryFrame m ([Value.ref b] : List Value).toArray 4) := by
  obtain ⟨hx, hb, hr, hml, hown, hts0, hX, hbl, hlocks, hgv⟩ := id C0
  have hts : ∀ w ∈ wsL_law, w.before #[Value.ref b] s = true := fun w h => hts0 w (wsL_law_in w h)
  have ht1 : ∀ w ∈ wsL_law_r1, w.before #[Value.ref b] s = true := fun w h => hts0 w (inwsL_law_r1 w h)
  have ht2 : ∀ w ∈ wsL_law_r2, w.before #[Value.ref b] s = true := fun w h => hts0 w (inwsL_law_r2 w h)
  have hA : ∀ q : Nat, s.heap.size ≤ q → lA s q := fun _ h => h
  obtain ⟨c0, i0, n0⟩ := u_known (C := RX0) (T := TX0) (N := 4) (n := 4) hts0 inwsX00 (ht1 (.instantiable RX0 4) (by decide +kernel))
  obtain ⟨c1, i1, n1⟩ := u_known (C := RX1) (T := TX1) (N := 2) (n := 2) hts0 inwsX10 (ht2 (.instantiable RX1 2) (by decide +kernel))
  obtain ⟨c2, i2, n2⟩ := u_known (C := RX2) (T := TX2) (N := 4) (n := 4) hts0 inwsX20 (ht2 (.instantiable RX2 4) (by decide +kernel))
  obtain ⟨c3, i3, n3⟩ := u_known (C := RX3) (T := TX3) (N := 18) (n := 18) hts0 inwsX30 (ht1 (.instantiable RX3 18) (by decide +kernel))
  obtain ⟨c4, i4, n4⟩ := u_known (C := RX4) (T := TX4) (N := 24) (n := 24) hts0 inwsX40 (ht1 (.instantiable RX4 24) (by decide +kernel))
  obtain ⟨dC, dI, hKc⟩ : ∃ (dC : Nat → ClassId) (dI : Nat → Nat → Nat), ∀ (k : Nat) (q : vw_C), vwCl[k]? = some q → u_Kn s q.1 q.2.1 q.2.2 (dC k) (dI k) := by
    refine ⟨fun k => match k with | 0 => c0 | 1 => c1 | 2 => c2 | 3 => c3 | _ => c4, fun k => match k with | 0 => i0 | 1 => i1 | 2 => i2 | 3 => i3 | _ => i4, ?_⟩
    intro k q hq
    match k, hq with
    | 0, hq => cases hq; exact n0
    | 1, hq => cases hq; exact n1
    | 2, hq => cases hq; exact n2
    | 3, hq => cases hq; exact n3
    | 4, hq => cases hq; exact n4
    | k + 5, hq => simp [vwCl] at hq
  have hAO : va_AO RX0 s := va_AO.of (A := #[Value.ref b]) (hts0 (.arrayOver (.object RX0)) (List.mem_of_getElem? (i := 110) (by decide +kernel)))
  obtain ⟨kI, aI, rI⟩ := s_arr (ht1 (.arrayClass .int) (by decide +kernel))
  obtain ⟨kC, aC, rC⟩ := s_arr (ht1 (.arrayClass .char) (by decide +kernel))
  obtain ⟨kZ, aZ, rZ⟩ := s_arr (ht2 (.arrayClass .boolean) (by decide +kernel))
  obtain ⟨kD, aD, rD⟩ := s_arrD hAO
  obtain ⟨K, hKK⟩ : ∃ K : Nat → ClassId, K = fun k => match k with | 0 => kI | 1 => kC | 2 => kZ | _ => kD := ⟨_, rfl⟩
  have hK : va_K (dC, dI) vwCl (tyG K) s := by
    refine ⟨hKc, fun k q hq => ?_⟩
    subst hKK
    match k, hq with
    | 0, hq => cases hq; exact ⟨aI, rI⟩
    | 1, hq => cases hq; exact ⟨aC, rC⟩
    | 2, hq => cases hq; exact ⟨aZ, rZ⟩
    | 3, hq => cases hq; exact ⟨aD, rD⟩
    | k + 4, hq => simp [tyG] at hq
  clear hKK
  generalize (dC, dI) = D at hK
  have hN : eN s := ⟨fun q hq => va_Nw.of rfl (hts0 _ (in_nwF q hq)), fun q hq => va_Nw.of rfl (hts0 _ (in_nwM q hq))⟩
  obtain ⟨t0, hZ, hT⟩ := s_orders hgv (hts0 _ (List.mem_of_getElem? (i := 411) (by decide +kernel))) (ht1 (.initialized RX3) (by decide +kernel))
  have hE : lE t0 s := ⟨hN, hZ, hT⟩
  have hS : va_S (lA s) s.heap s.heap [] := va_S.rf
  have hP : va_P D vwCl [] s.heap := fun k q h => by simp at h
  have hD : va_D (lA s) [] := ⟨fun i j p q h => by simp at h, fun k q h => by simp at h⟩
  have hl := lv_entry ([.ref b]) (n := 4) (Nat.le_of_ble_eq_true rfl)
  rw [lg_entry_eq]
  generalize (lg_sl ([.ref b]) ++ List.replicate (4 - (lg_sl ([.ref b])).length) Slot.unset).toArray = ls at hl ⊢
  have hl : lv_has ls 4 [(0, .ref b)] := hl
  refine va_new (ci := 3) (fs := [.null, .int 0, .int 0, .int 0, .null, .null, .null, .null, .int 0, .int 0, .null, .null, .long 0, .null, .null, .int 0, .null, .null]) (C := RX3) (T := TX3) (N := 18) hx hb hts0 inwsX30 tyX3 tyX3_ok hown (ht1 (.classLink RL 7 RX3) (by decide +kernel)) (ht1 (.instantiable RX3 18) (by decide +kernel)) (ht1 (.initialized RX3) (by decide +kernel)) hK hP hD hS hA rfl (fun j hj => by rcases (show j = 0 ∨ j = 1 ∨ j = 2 ∨ j = 3 ∨ j = 4 ∨ j = 5 ∨ j = 6 ∨ j = 7 ∨ j = 8 ∨ j = 9 ∨ j = 10 ∨ j = 11 ∨ j = 12 ∨ j = 13 ∨ j = 14 ∨ j = 15 ∨ j = 16 ∨ j = 17 by omega) with rfl | rfl | rfl | rfl | rfl | rfl | rfl | rfl | rfl | rfl | rfl | rfl | rfl | rfl | rfl | rfl | rfl | rfl <;> rfl) (Nat.le_of_ble_eq_true rfl) (Nat.le_of_ble_eq_true rfl) dL_law_0 (fun qx H hP hD hS => ?_)
  have hP : va_P D vwCl [(qx, .inr (3, [.null, .int 0, .int 0, .int 0, .null, .null, .null, .null, .int 0, .int 0, .null, .null, .long 0, .null, .null, .int 0, .null, .null]))] H := hP
  have hD : va_D (lA s) [(qx, .inr (3, [.null, .int 0, .int 0, .int 0, .null, .null, .null, .null, .int 0, .int 0, .null, .null, .long 0, .null, .null, .int 0, .null, .null]))] := hD
  refine W.widen (k := 1) (n := 18) (by omega) (by omega) ?_
  refine lv_dup hx hb dL_law_3 rfl ?_
  have hFc := va_free (wc := [(qx, .inr (3, [.null, .int 0, .int 0, .int 0, .null, .null, .null, .null, .int 0, .int 0, .null, .null, .long 0, .null, .null, .int 0, .null, .null]))]) hD hS hA [0] rfl
  refine va_callv (va_runI (As := []) (rest := [.ref qx]) ⟨hx, hb, hml, hown, hts⟩ (kx_init l D K qx H.size) (cwI 0 hts gL_law_X3_init rfl rfl rfl (ht1 (.initialized RX3) (by decide +kernel)) (ht1 (.methodLink RL 9 yX3_init) (by decide +kernel)) (ht1 (.instanceMethod yX3_init) (by decide +kernel)) rfl (by decide +kernel) ⟨Nat.le_of_ble_eq_true rfl, Nat.le_of_ble_eq_true rfl⟩) (i_pre hP hD hK hN hAO) rfl rfl hl.1 rfl (lv_room (Nat.le_of_ble_eq_true rfl)) dL_law_4 ⟨Nat.le_of_ble_eq_true rfl, Nat.le_of_ble_eq_true rfl⟩) hS (fun q _ h => hFc q h) hFc (fun Lx t H1 locs ht hvm hLx hB hz1 hk1 hS => ?_)
  obtain ⟨hP1, hD1⟩ := hB
  rw [ht] at hP1
  have hD2 := hD1.weaken (B := lA s) (fun _ q _ h => hFc q.1 h)
  clear hP hD hD1 hk1 ht
  generalize H1 = H at hP1 hS ⊢
  refine W.widen (k := 81) (n := 493) (by omega) (by omega) ?_
  refine lv_astore_n (lv' := [(1, .ref qx), (0, .ref b)]) hx hb dL_law_7 rfl hl (by decide) rfl (fun ls hl => ?_)
  refine va_new (ci := 4) (fs := [.int 0, .int 0, .null, .null, .null, .null, .int 0, .int 0, .null, .int 0, .int 0, .int 0, .int 0, .int 0, .null, .int 0, .int 0, .int 0, .null, .null, .null, .long 0, .null, .null]) (C := RX4) (T := TX4) (N := 24) hx hb hts0 inwsX40 tyX4 tyX4_ok hown (ht1 (.classLink RL 10 RX4) (by decide +kernel)) (ht1 (.instantiable RX4 24) (by decide +kernel)) (ht1 (.initialized RX4) (by decide +kernel)) hK hP1 hD2 hS hA rfl (fun j hj => by rcases (show j = 0 ∨ j = 1 ∨ j = 2 ∨ j = 3 ∨ j = 4 ∨ j = 5 ∨ j = 6 ∨ j = 7 ∨ j = 8 ∨ j = 9 ∨ j = 10 ∨ j = 11 ∨ j = 12 ∨ j = 13 ∨ j = 14 ∨ j = 15 ∨ j = 16 ∨ j = 17 ∨ j = 18 ∨ j = 19 ∨ j = 20 ∨ j = 21 ∨ j = 22 ∨ j = 23 by omega) with rfl | rfl | rfl | rfl | rfl | rfl | rfl | rfl | rfl | rfl | rfl | rfl | rfl | rfl | rfl | rfl | rfl | rfl | rfl | rfl | rfl | rfl | rfl | rfl <;> rfl) (Nat.le_of_ble_eq_true rfl) (Nat.le_of_ble_eq_true rfl) dL_law_8 (fun qm H hP hD hS => ?_)
  refine W.widen (k := 82) (n := 517) (by omega) (by omega) ?_
  refine lv_dup hx hb dL_law_11 rfl ?_
  have hPc : va_P D vwCl [(qm, .inr (4, [.int 0, .int 0, .null, .null, .null, .null, .int 0, .int 0, .null, .int 0, .int 0, .int 0, .int 0, .int 0, .null, .int 0, .int 0, .int 0, .null, .null, .null, .long 0, .null, .null]))] H := fun k x hx9 => hP (81 + k) x (by rw [List.getElem?_append_right (by simp [gl])]; simpa [gl] using hx9)
  have hDc : va_D (lA s) [(qm, .inr (4, [.int 0, .int 0, .null, .null, .null, .null, .int 0, .int 0, .null, .int 0, .int 0, .int 0, .int 0, .int 0, .null, .int 0, .int 0, .int 0, .null, .null, .null, .long 0, .null, .null]))] := ⟨fun i9 j9 x y h1 h2 _ => by (have z1 := (List.getElem?_eq_some_iff.mp h1).1; have z2 := (List.getElem?_eq_some_iff.mp h2).1; simp at z1 z2; omega), fun k x hx9 => hD.2 (81 + k) x (by rw [List.getElem?_append_right (by simp [gl])]; simpa [gl] using hx9)⟩
  have hFc : ∀ z, va_A [(qm, .inr (4, [.int 0, .int 0, .null, .null, .null, .null, .int 0, .int 0, .null, .int 0, .int 0, .int 0, .int 0, .int 0, .null, .int 0, .int 0, .int 0, .null, .null, .null, .long 0, .null, .null]))] H.size z → lA s z := by
    intro z hz
    rcases hz with ⟨k, e9, hz⟩ | hz
    · exact hDc.2 k _ hz
    · exact hA z (Nat.le_trans hS.1 hz)
  refine va_callv (va_runI (As := []) (rest := [.ref qm]) ⟨hx, hb, hml, hown, hts⟩ (km_init l D K qm H.size) (cwI 0 hts gL_law_X4_init rfl rfl rfl (ht1 (.initialized RX4) (by decide +kernel)) (hts0 (.methodLink RL 12 yX4_init) (by decide +kernel)) (hts0 (.instanceMethod yX4_init) (by decide +kernel)) rfl (by decide +kernel) ⟨Nat.le_of_ble_eq_true rfl, Nat.le_of_ble_eq_true rfl⟩) (i_pre hPc hDc hK hN hAO) rfl rfl hl.1 rfl (lv_room (Nat.le_of_ble_eq_true rfl)) dL_law_12 ⟨Nat.le_of_ble_eq_true rfl, Nat.le_of_ble_eq_true rfl⟩) hS (fun z _ h => hFc z h) hFc (fun Lm t H1 locs ht hvm hLm hB hz1 hk1 hS => ?_)
  obtain ⟨hP1, hD1⟩ := hB
  rw [ht] at hP1
  obtain ⟨hP, hD⟩ := i_join hP hD hk1 hFc hP1 hD1
  generalize H1 = H at hP hS ⊢
  refine W.widen (k := 93) (n := 1172) (by omega) (by omega) ?_
  refine lv_astore_n (lv' := [(2, .ref qm), (1, .ref qx), (0, .ref b)]) hx hb dL_law_15 rfl hl (by decide) rfl (fun ls hl => ?_)
  refine lv_iconst (v := 0) hx hb dL_law_16 (by decide) ?_
  refine lv_istore_n (lv' := [(3, .int 0), (2, .ref qm), (1, .ref qx), (0, .ref b)]) hx hb dL_law_17 rfl hl (by decide) rfl (fun ls hl => ?_)
  have hlen : (gl Lx 81 (cX Lx K w0X)).length = 81 := by simp [gl]
  have atX : ∀ a, a < 81 → (gl Lx 81 (cX Lx K w0X) ++ gl Lm 12 (cM Lm K w0M))[a]? = some (Lx a, cX Lx K w0X a) := fun a ha => by rw [List.getElem?_append_left (by omega)]; exact gl_at ha rfl
  have atM : ∀ a, a < 12 → (gl Lx 81 (cX Lx K w0X) ++ gl Lm 12 (cM Lm K w0M))[81 + a]? = some (Lm a, cM Lm K w0M a) := fun a ha => by rw [List.getElem?_append_right (by omega), hlen, Nat.add_sub_cancel_left]; exact gl_at ha rfl
  have F : lF Lx Lm s := by
    refine ⟨fun i j hi hj h => hD.1 i j _ _ (atX i hi) (atX j hj) h, fun i j hi hj h => ?_, fun i j hi hj h => ?_, fun i hi => hD.2 i _ (atX i hi), fun i hi => hD.2 _ _ (atM i hi)⟩
    · have := hD.1 _ _ _ _ (atM i hi) (atM j hj) h
      omega
    · have := hD.1 _ _ _ _ (atX i hi) (atM j hj) h
      omega
  have hW : lW D K Lx Lm s w0X w0M H locs := by
    refine ⟨fun k q hq => ?_, fun k q hq => ?_, hS⟩
    · obtain ⟨hk, rfl⟩ := gl_of hq
      exact hP k _ (atX k hk)
    · obtain ⟨hk, rfl⟩ := gl_of hq
      exact hP (81 + k) _ (atM k hk)
  have hl : lv_has ls 4 [(0, .ref b), (1, .ref (Lx 0)), (2, .ref (Lm 0)), (3, .int (nI 0))] := by
    rw [hLx, hLm]
    exact lv_sub hl [3, 2, 1, 0] rfl
  exact l_loop C0 F hK hE hL rfl (L + 1) 0 (by omega) w0X w0M H locs ls (Nat.zero_le _) rr_0 hW hl
