/-! the law: words, its cases, its loop -/
def lA (s : State) : Nat → Prop := fun q => s.heap.size ≤ q
def lE (t0 : Nat) (s : State) : Prop := eN s ∧ va_Z "OneSentence" "ORDERS" "[I" (.ref t0) (lA s) s s.heap ∧ va_T .int t0 7 (fun j => .int (ordF j)) (lA s) s s.heap
/-- the two sides' cells are apart, and new -/
def lF (Lx Lm : Nat → Nat) (s : State) : Prop := gj Lx 81 ∧ gj Lm 12 ∧ (∀ a b, a < 81 → b < 12 → Lx a ≠ Lm b) ∧ (∀ a, a < 81 → s.heap.size ≤ Lx a) ∧ (∀ b, b < 12 → s.heap.size ≤ Lm b)
def lW (D : va_G) (K : Nat → ClassId) (Lx Lm : Nat → Nat) (s : State) (wx wm : St) (H : Heap) (locs : List Loc) : Prop := va_P D vwCl (gl Lx 81 (cX Lx K wx)) H ∧ va_P D vwCl (gl Lm 12 (cM Lm K wm)) H ∧ va_S (lA s) s.heap H locs
section LW
variable {p : Program} {l : Launch} {e : Env} {R : Room} {s : State} {m : MethodId} {args : Array Value} {below : List Frame} {meth : Method} {c : Code} {H : Heap} {locs : List Loc} {cells slots : Nat} {Q : State → Prop}
variable {pc : Nat} {ls : Array Slot} {rest st0 : List Value} {D : va_G} {K : Nat → ClassId} {Lx Lm : Nat → Nat} {t0 : Nat} {wx wm w2 : St} {av : Array Value}
theorem l_preX {As : List Value} (F : lF Lx Lm s) (hK : va_K D vwCl (tyG K) s) (hE : lE t0 s) (hW : lW D K Lx Lm s wx wm H locs) : PreV s H RX3 (Lx 0) (va_Pc (.ref (Lx 0) :: As) (xP D Lx K t0 wx)) As := by
  have hsub : ∀ q, gA Lx 81 q → lA s q := fun q hq => by obtain ⟨k, hk, rfl⟩ := hq; exact F.2.2.2.1 k hk
  refine ⟨z_blind eX_ok, va_recv (ci := 3) (q := (RX3, TX3, 18)) hK hW.1 rfl (gl_at (by omega) (cX_a0 kc_0.1 wx)), fun U hU hw => ⟨rfl, by rw [hU]; exact hW.1, va_K.moved hw.alike hK, (eN_warm hw hE.1).1, (eN_warm hw hE.1).2, ?_, ?_⟩⟩
  · rw [hU]
    exact ((hE.2.1.moved hw.alike).kept hW.2.2.2.1).narrow hsub
  · rw [hU]
    exact ((hE.2.2.moved hw.alike).kept hW.2.2.2.1).narrow hsub
theorem l_preM {As : List Value} (hK : va_K D vwCl (tyG K) s) (hW : lW D K Lx Lm s wx wm H locs) : PreV s H RX4 (Lm 0) (va_Pc (.ref (Lm 0) :: As) (mP D Lm K wm)) As :=
  ⟨z_blind eM_ok, va_recv (ci := 4) (q := (RX4, TX4, 24)) hK hW.2.1 rfl (gl_at (by omega) rfl), fun U hU hw => ⟨rfl, by rw [hU]; exact hW.2.1, va_K.moved hw.alike hK, trivial⟩⟩
theorem l_keepM (F : lF Lx Lm s) {H1 : Heap} (hP : va_P D vwCl (gl Lm 12 (cM Lm K wm)) H) (hk : ∀ q : Nat, q < H.size → ¬ gA Lx 81 q → H1[q]? = H[q]?) : va_P D vwCl (gl Lm 12 (cM Lm K wm)) H1 := by
  refine hP.kept (fun k q hq => hk q.1 ((hP k q hq).lt) ?_)
  obtain ⟨hk2, rfl⟩ := gl_of hq
  rintro ⟨a, ha, h⟩
  exact F.2.2.1 a k ha hk2 h
theorem l_keepX (F : lF Lx Lm s) {H1 : Heap} (hP : va_P D vwCl (gl Lx 81 (cX Lx K wx)) H) (hk : ∀ q : Nat, q < H.size → ¬ gA Lm 12 q → H1[q]? = H[q]?) : va_P D vwCl (gl Lx 81 (cX Lx K wx)) H1 := by
  refine hP.kept (fun k q hq => hk q.1 ((hP k q hq).lt) ?_)
  obtain ⟨hk2, rfl⟩ := gl_of hq
  rintro ⟨a, ha, h⟩
  exact F.2.2.1 k a hk2 ha h.symm
theorem l_xi {r : Int32} (hr : va_Run p l e R s m args below meth c H locs cells slots 0 0 (F0 m pc ls st0) rest (qI D Lx 81 (cX Lx K) r w2 av) (gA Lx 81)) (F : lF Lx Lm s) (hW : lW D K Lx Lm s wx wm H locs)
    (kk : ∀ (H1 : Heap) (locs1 : List Loc), lW D K Lx Lm s w2 wm H1 locs1 → W p l e R s m args below meth c H1 locs1 cells slots Q (F0 m (pc + 3) ls (.int r :: rest))) : W p l e R s m args below meth c H locs cells slots Q (F0 m pc ls st0) :=
  va_calli hr hW.2.2 (fun q _ h => by obtain ⟨k, hk, rfl⟩ := h; exact F.2.2.2.1 k hk) (fun q h => by obtain ⟨k, hk, rfl⟩ := h; exact F.2.2.2.1 k hk) (fun r2 u t H1 locs1 ht _ hp hB _ hk1 hS1 => by
    obtain ⟨rfl, rfl⟩ := hp
    rw [ht] at hB
    exact kk H1 locs1 ⟨hB, l_keepM F hW.2.1 hk1, hS1⟩)
theorem l_xl {r : Int64} (hr : va_Run p l e R s m args below meth c H locs cells slots 0 0 (F0 m pc ls st0) rest (qL D Lx 81 (cX Lx K) r w2 av) (gA Lx 81)) (F : lF Lx Lm s) (hW : lW D K Lx Lm s wx wm H locs)
    (kk : ∀ (H1 : Heap) (locs1 : List Loc), lW D K Lx Lm s w2 wm H1 locs1 → W p l e R s m args below meth c H1 locs1 cells slots Q (F0 m (pc + 3) ls (.long r :: rest))) : W p l e R s m args below meth c H locs cells slots Q (F0 m pc ls st0) :=
  va_calll hr hW.2.2 (fun q _ h => by obtain ⟨k, hk, rfl⟩ := h; exact F.2.2.2.1 k hk) (fun q h => by obtain ⟨k, hk, rfl⟩ := h; exact F.2.2.2.1 k hk) (fun r2 u t H1 locs1 ht _ hp hB _ hk1 hS1 => by
    obtain ⟨rfl, rfl⟩ := hp
    rw [ht] at hB
    exact kk H1 locs1 ⟨hB, l_keepM F hW.2.1 hk1, hS1⟩)
theorem l_mi {r : Int32} (hr : va_Run p l e R s m args below meth c H locs cells slots 0 0 (F0 m pc ls st0) rest (qI D Lm 12 (cM Lm K) r w2 av) (gA Lm 12)) (F : lF Lx Lm s) (hW : lW D K Lx Lm s wx wm H locs)
    (kk : ∀ (H1 : Heap) (locs1 : List Loc), lW D K Lx Lm s wx w2 H1 locs1 → W p l e R s m args below meth c H1 locs1 cells slots Q (F0 m (pc + 3) ls (.int r :: rest))) : W p l e R s m args below meth c H locs cells slots Q (F0 m pc ls st0) :=
  va_calli hr hW.2.2 (fun q _ h => by obtain ⟨k, hk, rfl⟩ := h; exact F.2.2.2.2 k hk) (fun q h => by obtain ⟨k, hk, rfl⟩ := h; exact F.2.2.2.2 k hk) (fun r2 u t H1 locs1 ht _ hp hB _ hk1 hS1 => by
    obtain ⟨rfl, rfl⟩ := hp
    rw [ht] at hB
    exact kk H1 locs1 ⟨l_keepX F hW.1 hk1, hB, hS1⟩)
theorem l_ml {r : Int64} (hr : va_Run p l e R s m args below meth c H locs cells slots 0 0 (F0 m pc ls st0) rest (qL D Lm 12 (cM Lm K) r w2 av) (gA Lm 12)) (F : lF Lx Lm s) (hW : lW D K Lx Lm s wx wm H locs)
    (kk : ∀ (H1 : Heap) (locs1 : List Loc), lW D K Lx Lm s wx w2 H1 locs1 → W p l e R s m args below meth c H1 locs1 cells slots Q (F0 m (pc + 3) ls (.long r :: rest))) : W p l e R s m args below meth c H locs cells slots Q (F0 m pc ls st0) :=
  va_calll hr hW.2.2 (fun q _ h => by obtain ⟨k, hk, rfl⟩ := h; exact F.2.2.2.2 k hk) (fun q h => by obtain ⟨k, hk, rfl⟩ := h; exact F.2.2.2.2 k hk) (fun r2 u t H1 locs1 ht _ hp hB _ hk1 hS1 => by
    obtain ⟨rfl, rfl⟩ := hp
    rw [ht] at hB
    exact kk H1 locs1 ⟨l_keepX F hW.1 hk1, hB, hS1⟩)
end LW
theorem l_in {i k L : Nat} (h : i + 6 ≤ L) (hL : L ≤ 384) (hk : k < 6) : vp_in (nI i + nI k) L := by
  rw [nI_add]
  exact vp_in_nI (by omega) (by omega)
theorem l_in0 {i L : Nat} (h : i + 6 ≤ L) (hL : L ≤ 384) : vp_in (nI i) L := vp_in_nI (by omega) (by omega)
set_option maxHeartbeats 4000000 in
set_option maxRecDepth 100000 in
theorem l_c0 {p : Program} {l : Launch} {e : Env} {s : State} {m : MethodId} {below : List Frame} {meth : Method} {c : Code} {b L : Nat} {xs : Nat → Int32} {D : va_G} {K : Nat → ClassId} {Lx Lm : Nat → Nat} {t0 : Nat} {Q : State → Prop} (C0 : lw_At p s m meth c b L xs) (F : lF Lx Lm s) (hK : va_K D vwCl (tyG K) s) (hE : lE t0 s) (hL : L ≤ 384) {i : Nat} (hi : i + 6 ≤ L) (kk : ∀ (wx wm : St) (H : Heap) (locs : List Loc) (ls : Array Slot), RR wx wm → lW D K Lx Lm s wx wm H locs → lv_has ls 4 [(0, .ref b), (1, .ref (Lx 0)), (2, .ref (Lm 0)), (3, .int (nI i))] → W p l e room_1 s m #[Value.ref b] below meth c H locs 93 1172 Q (F0 m 1027 ls [])) : ∀ (wx wm : St) (H : Heap) (locs : List Loc) (ls : Array Slot), RR wx wm → lW D K Lx Lm s wx wm H locs → lv_has ls 4 [(0, .ref b), (1, .ref (Lx 0)), (2, .ref (Lm 0)), (3, .int (nI i))] → W p l e room_1 s m #[Value.ref b] below meth c H locs 93 1172 Q (F0 m 152 ls []) := by
  obtain ⟨hx, hb, hr, hml, hown, hts0, hX, hbl, hlocks, hgv⟩ := id C0
  have hts : ∀ w ∈ wsL_law, w.before #[Value.ref b] s = true := fun w h => hts0 w (wsL_law_in w h)
  have hbA : ¬ lA s b := Nat.not_le.mpr hbl
  intro wx wm H locs ls hR hW hl
  refine lv_aload_n hx hb dL_law_152 rfl (lv_at hl 1 rfl) ?_
  refine lv_aload_n hx hb dL_law_153 rfl (lv_at hl 0 rfl) ?_
  refine lv_iload_n hx hb dL_law_154 rfl (lv_at hl 3 rfl) ?_
  refine lv_iconst (v := 1) hx hb dL_law_155 (by decide) ?_
  refine lv_iadd hx hb dL_law_156 ?_
  refine va_sld hx hb hX hbl hbA hW.2.2 (l_in (k := 1) hi hL (by decide)) dL_law_157 ?_
  obtain ⟨r, wx2, wm2, h1, h2, hR⟩ := ca_write hR ((xs (nI i + 1).toNatClampNeg))
  refine l_xi (va_runV (As := [.int ((xs (nI i + 1).toNatClampNeg))]) (rest := []) ⟨hx, hb, hml, hown, hts⟩ (kx_write l (D := D) (K := K) (t0 := t0) F.1 ((xs (nI i + 1).toNatClampNeg)) wx h1) (cwV 1 hts gL_law_X3_write rfl rfl rfl (by decide +kernel) ⟨Nat.le_of_ble_eq_true rfl, Nat.le_of_ble_eq_true rfl⟩) (l_preX F hK hE hW) rfl rfl hl.1 rfl (lv_room (Nat.le_of_ble_eq_true rfl)) dL_law_158 ⟨Nat.le_of_ble_eq_true rfl, Nat.le_of_ble_eq_true rfl⟩) F hW (fun H locs hW => ?_)
  refine lv_aload_n hx hb dL_law_161 rfl (lv_at hl 2 rfl) ?_
  refine lv_aload_n hx hb dL_law_162 rfl (lv_at hl 0 rfl) ?_
  refine lv_iload_n hx hb dL_law_163 rfl (lv_at hl 3 rfl) ?_
  refine lv_iconst (v := 1) hx hb dL_law_164 (by decide) ?_
  refine lv_iadd hx hb dL_law_165 ?_
  refine va_sld hx hb hX hbl hbA hW.2.2 (l_in (k := 1) hi hL (by decide)) dL_law_166 ?_
  refine l_mi (va_runV (As := [.int ((xs (nI i + 1).toNatClampNeg))]) (rest := [.int r]) ⟨hx, hb, hml, hown, hts⟩ (km_write l (D := D) (K := K) F.2.1 ((xs (nI i + 1).toNatClampNeg)) wm h2) (cwV 1 hts gL_law_X4_write rfl rfl rfl (by decide +kernel) ⟨Nat.le_of_ble_eq_true rfl, Nat.le_of_ble_eq_true rfl⟩) (l_preM hK hW) rfl rfl hl.1 rfl (lv_room (Nat.le_of_ble_eq_true rfl)) dL_law_167 ⟨Nat.le_of_ble_eq_true rfl, Nat.le_of_ble_eq_true rfl⟩) F hW (fun H locs hW => ?_)
  refine lv_icmp_eq (tgt := 1027) hx hb dL_law_170 (by decide) (fun _ => ?_) (fun c9 => absurd rfl c9)
  exact kk _ _ _ _ _ hR hW hl
set_option maxHeartbeats 4000000 in
set_option maxRecDepth 100000 in
theorem l_c1 {p : Program} {l : Launch} {e : Env} {s : State} {m : MethodId} {below : List Frame} {meth : Method} {c : Code} {b L : Nat} {xs : Nat → Int32} {D : va_G} {K : Nat → ClassId} {Lx Lm : Nat → Nat} {t0 : Nat} {Q : State → Prop} (C0 : lw_At p s m meth c b L xs) (F : lF Lx Lm s) (hK : va_K D vwCl (tyG K) s) (hE : lE t0 s) (hL : L ≤ 384) {i : Nat} (hi : i + 6 ≤ L) (kk : ∀ (wx wm : St) (H : Heap) (locs : List Loc) (ls : Array Slot), RR wx wm → lW D K Lx Lm s wx wm H locs → lv_has ls 4 [(0, .ref b), (1, .ref (Lx 0)), (2, .ref (Lm 0)), (3, .int (nI i))] → W p l e room_1 s m #[Value.ref b] below meth c H locs 93 1172 Q (F0 m 1027 ls [])) : ∀ (wx wm : St) (H : Heap) (locs : List Loc) (ls : Array Slot), RR wx wm → lW D K Lx Lm s wx wm H locs → lv_has ls 4 [(0, .ref b), (1, .ref (Lx 0)), (2, .ref (Lm 0)), (3, .int (nI i))] → W p l e room_1 s m #[Value.ref b] below meth c H locs 93 1172 Q (F0 m 175 ls []) := by
  obtain ⟨hx, hb, hr, hml, hown, hts0, hX, hbl, hlocks, hgv⟩ := id C0
  have hts : ∀ w ∈ wsL_law, w.before #[Value.ref b] s = true := fun w h => hts0 w (wsL_law_in w h)
  have hbA : ¬ lA s b := Nat.not_le.mpr hbl
  intro wx wm H locs ls hR hW hl
  refine lv_aload_n hx hb dL_law_175 rfl (lv_at hl 1 rfl) ?_
  obtain ⟨r, wx2, wm2, h1, h2, hR⟩ := ca_wipe hR
  refine l_xi (va_runV (As := []) (rest := []) ⟨hx, hb, hml, hown, hts⟩ (kx_wipe l (D := D) (K := K) (t0 := t0) F.1  wx h1) (cwV 0 hts gL_law_X3_wipe rfl rfl rfl (by decide +kernel) ⟨Nat.le_of_ble_eq_true rfl, Nat.le_of_ble_eq_true rfl⟩) (l_preX F hK hE hW) rfl rfl hl.1 rfl (lv_room (Nat.le_of_ble_eq_true rfl)) dL_law_176 ⟨Nat.le_of_ble_eq_true rfl, Nat.le_of_ble_eq_true rfl⟩) F hW (fun H locs hW => ?_)
  refine lv_aload_n hx hb dL_law_179 rfl (lv_at hl 2 rfl) ?_
  refine l_mi (va_runV (As := []) (rest := [.int r]) ⟨hx, hb, hml, hown, hts⟩ (km_wipe l (D := D) (K := K) F.2.1  wm h2) (cwV 0 hts gL_law_X4_wipe rfl rfl rfl (by decide +kernel) ⟨Nat.le_of_ble_eq_true rfl, Nat.le_of_ble_eq_true rfl⟩) (l_preM hK hW) rfl rfl hl.1 rfl (lv_room (Nat.le_of_ble_eq_true rfl)) dL_law_180 ⟨Nat.le_of_ble_eq_true rfl, Nat.le_of_ble_eq_true rfl⟩) F hW (fun H locs hW => ?_)
  refine lv_icmp_eq (tgt := 1027) hx hb dL_law_183 (by decide) (fun _ => ?_) (fun c9 => absurd rfl c9)
  exact kk _ _ _ _ _ hR hW hl
set_option maxHeartbeats 4000000 in
set_option maxRecDepth 100000 in
theorem l_c2 {p : Program} {l : Launch} {e : Env} {s : State} {m : MethodId} {below : List Frame} {meth : Method} {c : Code} {b L : Nat} {xs : Nat → Int32} {D : va_G} {K : Nat → ClassId} {Lx Lm : Nat → Nat} {t0 : Nat} {Q : State → Prop} (C0 : lw_At p s m meth c b L xs) (F : lF Lx Lm s) (hK : va_K D vwCl (tyG K) s) (hE : lE t0 s) (hL : L ≤ 384) {i : Nat} (hi : i + 6 ≤ L) (kk : ∀ (wx wm : St) (H : Heap) (locs : List Loc) (ls : Array Slot), RR wx wm → lW D K Lx Lm s wx wm H locs → lv_has ls 4 [(0, .ref b), (1, .ref (Lx 0)), (2, .ref (Lm 0)), (3, .int (nI i))] → W p l e room_1 s m #[Value.ref b] below meth c H locs 93 1172 Q (F0 m 1027 ls [])) : ∀ (wx wm : St) (H : Heap) (locs : List Loc) (ls : Array Slot), RR wx wm → lW D K Lx Lm s wx wm H locs → lv_has ls 4 [(0, .ref b), (1, .ref (Lx 0)), (2, .ref (Lm 0)), (3, .int (nI i))] → W p l e room_1 s m #[Value.ref b] below meth c H locs 93 1172 Q (F0 m 188 ls []) := by
  obtain ⟨hx, hb, hr, hml, hown, hts0, hX, hbl, hlocks, hgv⟩ := id C0
  have hts : ∀ w ∈ wsL_law, w.before #[Value.ref b] s = true := fun w h => hts0 w (wsL_law_in w h)
  have hbA : ¬ lA s b := Nat.not_le.mpr hbl
  intro wx wm H locs ls hR hW hl
  refine lv_aload_n hx hb dL_law_188 rfl (lv_at hl 1 rfl) ?_
  obtain ⟨r, wx2, wm2, h1, h2, hR⟩ := ca_fault hR
  refine l_xi (va_runV (As := []) (rest := []) ⟨hx, hb, hml, hown, hts⟩ (kx_fault l (D := D) (K := K) (t0 := t0) F.1  wx h1) (cwV 0 hts gL_law_X3_fault rfl rfl rfl (by decide +kernel) ⟨Nat.le_of_ble_eq_true rfl, Nat.le_of_ble_eq_true rfl⟩) (l_preX F hK hE hW) rfl rfl hl.1 rfl (lv_room (Nat.le_of_ble_eq_true rfl)) dL_law_189 ⟨Nat.le_of_ble_eq_true rfl, Nat.le_of_ble_eq_true rfl⟩) F hW (fun H locs hW => ?_)
  refine lv_aload_n hx hb dL_law_192 rfl (lv_at hl 2 rfl) ?_
  refine l_mi (va_runV (As := []) (rest := [.int r]) ⟨hx, hb, hml, hown, hts⟩ (km_fault l (D := D) (K := K) F.2.1  wm h2) (cwV 0 hts gL_law_X4_fault rfl rfl rfl (by decide +kernel) ⟨Nat.le_of_ble_eq_true rfl, Nat.le_of_ble_eq_true rfl⟩) (l_preM hK hW) rfl rfl hl.1 rfl (lv_room (Nat.le_of_ble_eq_true rfl)) dL_law_193 ⟨Nat.le_of_ble_eq_true rfl, Nat.le_of_ble_eq_true rfl⟩) F hW (fun H locs hW => ?_)
  refine lv_icmp_eq (tgt := 1027) hx hb dL_law_196 (by decide) (fun _ => ?_) (fun c9 => absurd rfl c9)
  exact kk _ _ _ _ _ hR hW hl
set_option maxHeartbeats 4000000 in
set_option maxRecDepth 100000 in
theorem l_c3 {p : Program} {l : Launch} {e : Env} {s : State} {m : MethodId} {below : List Frame} {meth : Method} {c : Code} {b L : Nat} {xs : Nat → Int32} {D : va_G} {K : Nat → ClassId} {Lx Lm : Nat → Nat} {t0 : Nat} {Q : State → Prop} (C0 : lw_At p s m meth c b L xs) (F : lF Lx Lm s) (hK : va_K D vwCl (tyG K) s) (hE : lE t0 s) (hL : L ≤ 384) {i : Nat} (hi : i + 6 ≤ L) (kk : ∀ (wx wm : St) (H : Heap) (locs : List Loc) (ls : Array Slot), RR wx wm → lW D K Lx Lm s wx wm H locs → lv_has ls 4 [(0, .ref b), (1, .ref (Lx 0)), (2, .ref (Lm 0)), (3, .int (nI i))] → W p l e room_1 s m #[Value.ref b] below meth c H locs 93 1172 Q (F0 m 1027 ls [])) : ∀ (wx wm : St) (H : Heap) (locs : List Loc) (ls : Array Slot), RR wx wm → lW D K Lx Lm s wx wm H locs → lv_has ls 4 [(0, .ref b), (1, .ref (Lx 0)), (2, .ref (Lm 0)), (3, .int (nI i))] → W p l e room_1 s m #[Value.ref b] below meth c H locs 93 1172 Q (F0 m 201 ls []) := by
  obtain ⟨hx, hb, hr, hml, hown, hts0, hX, hbl, hlocks, hgv⟩ := id C0
  have hts : ∀ w ∈ wsL_law, w.before #[Value.ref b] s = true := fun w h => hts0 w (wsL_law_in w h)
  have hbA : ¬ lA s b := Nat.not_le.mpr hbl
  intro wx wm H locs ls hR hW hl
  refine lv_aload_n hx hb dL_law_201 rfl (lv_at hl 1 rfl) ?_
  obtain ⟨r, wx2, wm2, h1, h2, hR⟩ := ca_island hR
  refine l_xi (va_runV (As := []) (rest := []) ⟨hx, hb, hml, hown, hts⟩ (kx_island l (D := D) (K := K) (t0 := t0) F.1  wx h1) (cwV 0 hts gL_law_X3_island rfl rfl rfl (by decide +kernel) ⟨Nat.le_of_ble_eq_true rfl, Nat.le_of_ble_eq_true rfl⟩) (l_preX F hK hE hW) rfl rfl hl.1 rfl (lv_room (Nat.le_of_ble_eq_true rfl)) dL_law_202 ⟨Nat.le_of_ble_eq_true rfl, Nat.le_of_ble_eq_true rfl⟩) F hW (fun H locs hW => ?_)
  refine lv_aload_n hx hb dL_law_205 rfl (lv_at hl 2 rfl) ?_
  refine l_mi (va_runV (As := []) (rest := [.int r]) ⟨hx, hb, hml, hown, hts⟩ (km_island l (D := D) (K := K) F.2.1  wm h2) (cwV 0 hts gL_law_X4_island rfl rfl rfl (by decide +kernel) ⟨Nat.le_of_ble_eq_true rfl, Nat.le_of_ble_eq_true rfl⟩) (l_preM hK hW) rfl rfl hl.1 rfl (lv_room (Nat.le_of_ble_eq_true rfl)) dL_law_206 ⟨Nat.le_of_ble_eq_true rfl, Nat.le_of_ble_eq_true rfl⟩) F hW (fun H locs hW => ?_)
  refine lv_icmp_eq (tgt := 1027) hx hb dL_law_209 (by decide) (fun _ => ?_) (fun c9 => absurd rfl c9)
  exact kk _ _ _ _ _ hR hW hl
set_option maxHeartbeats 4000000 in
set_option maxRecDepth 100000 in
theorem l_c4 {p : Program} {l : Launch} {e : Env} {s : State} {m : MethodId} {below : List Frame} {meth : Method} {c : Code} {b L : Nat} {xs : Nat → Int32} {D : va_G} {K : Nat → ClassId} {Lx Lm : Nat → Nat} {t0 : Nat} {Q : State → Prop} (C0 : lw_At p s m meth c b L xs) (F : lF Lx Lm s) (hK : va_K D vwCl (tyG K) s) (hE : lE t0 s) (hL : L ≤ 384) {i : Nat} (hi : i + 6 ≤ L) (kk : ∀ (wx wm : St) (H : Heap) (locs : List Loc) (ls : Array Slot), RR wx wm → lW D K Lx Lm s wx wm H locs → lv_has ls 4 [(0, .ref b), (1, .ref (Lx 0)), (2, .ref (Lm 0)), (3, .int (nI i))] → W p l e room_1 s m #[Value.ref b] below meth c H locs 93 1172 Q (F0 m 1027 ls [])) : ∀ (wx wm : St) (H : Heap) (locs : List Loc) (ls : Array Slot), RR wx wm → lW D K Lx Lm s wx wm H locs → lv_has ls 4 [(0, .ref b), (1, .ref (Lx 0)), (2, .ref (Lm 0)), (3, .int (nI i))] → W p l e room_1 s m #[Value.ref b] below meth c H locs 93 1172 Q (F0 m 214 ls []) := by
  obtain ⟨hx, hb, hr, hml, hown, hts0, hX, hbl, hlocks, hgv⟩ := id C0
  have hts : ∀ w ∈ wsL_law, w.before #[Value.ref b] s = true := fun w h => hts0 w (wsL_law_in w h)
  have hbA : ¬ lA s b := Nat.not_le.mpr hbl
  intro wx wm H locs ls hR hW hl
  refine lv_aload_n hx hb dL_law_214 rfl (lv_at hl 1 rfl) ?_
  refine lv_aload_n hx hb dL_law_215 rfl (lv_at hl 0 rfl) ?_
  refine lv_iload_n hx hb dL_law_216 rfl (lv_at hl 3 rfl) ?_
  refine lv_iconst (v := 1) hx hb dL_law_217 (by decide) ?_
  refine lv_iadd hx hb dL_law_218 ?_
  refine va_sld hx hb hX hbl hbA hW.2.2 (l_in (k := 1) hi hL (by decide)) dL_law_219 ?_
  refine lv_aload_n hx hb dL_law_220 rfl (lv_at hl 0 rfl) ?_
  refine lv_iload_n hx hb dL_law_221 rfl (lv_at hl 3 rfl) ?_
  refine lv_iconst (v := 2) hx hb dL_law_222 (by decide) ?_
  refine lv_iadd hx hb dL_law_223 ?_
  refine va_sld hx hb hX hbl hbA hW.2.2 (l_in (k := 2) hi hL (by decide)) dL_law_224 ?_
  obtain ⟨r, wx2, wm2, h1, h2, hR⟩ := ca_person hR ((xs (nI i + 1).toNatClampNeg)) ((xs (nI i + 2).toNatClampNeg))
  refine l_xi (va_runV (As := [.int ((xs (nI i + 1).toNatClampNeg)), .int ((xs (nI i + 2).toNatClampNeg))]) (rest := []) ⟨hx, hb, hml, hown, hts⟩ (kx_person l (D := D) (K := K) (t0 := t0) F.1 ((xs (nI i + 1).toNatClampNeg)) ((xs (nI i + 2).toNatClampNeg)) wx h1) (cwV 2 hts gL_law_X3_person rfl rfl rfl (by decide +kernel) ⟨Nat.le_of_ble_eq_true rfl, Nat.le_of_ble_eq_true rfl⟩) (l_preX F hK hE hW) rfl rfl hl.1 rfl (lv_room (Nat.le_of_ble_eq_true rfl)) dL_law_225 ⟨Nat.le_of_ble_eq_true rfl, Nat.le_of_ble_eq_true rfl⟩) F hW (fun H locs hW => ?_)
  refine lv_aload_n hx hb dL_law_228 rfl (lv_at hl 2 rfl) ?_
  refine lv_aload_n hx hb dL_law_229 rfl (lv_at hl 0 rfl) ?_
  refine lv_iload_n hx hb dL_law_230 rfl (lv_at hl 3 rfl) ?_
  refine lv_iconst (v := 1) hx hb dL_law_231 (by decide) ?_
  refine lv_iadd hx hb dL_law_232 ?_
  refine va_sld hx hb hX hbl hbA hW.2.2 (l_in (k := 1) hi hL (by decide)) dL_law_233 ?_
  refine lv_aload_n hx hb dL_law_234 rfl (lv_at hl 0 rfl) ?_
  refine lv_iload_n hx hb dL_law_235 rfl (lv_at hl 3 rfl) ?_
  refine lv_iconst (v := 2) hx hb dL_law_236 (by decide) ?_
  refine lv_iadd hx hb dL_law_237 ?_
  refine va_sld hx hb hX hbl hbA hW.2.2 (l_in (k := 2) hi hL (by decide)) dL_law_238 ?_
  refine l_mi (va_runV (As := [.int ((xs (nI i + 1).toNatClampNeg)), .int ((xs (nI i + 2).toNatClampNeg))]) (rest := [.int r]) ⟨hx, hb, hml, hown, hts⟩ (km_person l (D := D) (K := K) F.2.1 ((xs (nI i + 1).toNatClampNeg)) ((xs (nI i + 2).toNatClampNeg)) wm h2) (cwV 2 hts gL_law_X4_person rfl rfl rfl (by decide +kernel) ⟨Nat.le_of_ble_eq_true rfl, Nat.le_of_ble_eq_true rfl⟩) (l_preM hK hW) rfl rfl hl.1 rfl (lv_room (Nat.le_of_ble_eq_true rfl)) dL_law_239 ⟨Nat.le_of_ble_eq_true rfl, Nat.le_of_ble_eq_true rfl⟩) F hW (fun H locs hW => ?_)
  refine lv_icmp_eq (tgt := 1027) hx hb dL_law_242 (by decide) (fun _ => ?_) (fun c9 => absurd rfl c9)
  exact kk _ _ _ _ _ hR hW hl
set_option maxHeartbeats 4000000 in
set_option maxRecDepth 100000 in
theorem l_c5 {p : Program} {l : Launch} {e : Env} {s : State} {m : MethodId} {below : List Frame} {meth : Method} {c : Code} {b L : Nat} {xs : Nat → Int32} {D : va_G} {K : Nat → ClassId} {Lx Lm : Nat → Nat} {t0 : Nat} {Q : State → Prop} (C0 : lw_At p s m meth c b L xs) (F : lF Lx Lm s) (hK : va_K D vwCl (tyG K) s) (hE : lE t0 s) (hL : L ≤ 384) {i : Nat} (hi : i + 6 ≤ L) (kk : ∀ (wx wm : St) (H : Heap) (locs : List Loc) (ls : Array Slot), RR wx wm → lW D K Lx Lm s wx wm H locs → lv_has ls 4 [(0, .ref b), (1, .ref (Lx 0)), (2, .ref (Lm 0)), (3, .int (nI i))] → W p l e room_1 s m #[Value.ref b] below meth c H locs 93 1172 Q (F0 m 1027 ls [])) : ∀ (wx wm : St) (H : Heap) (locs : List Loc) (ls : Array Slot), RR wx wm → lW D K Lx Lm s wx wm H locs → lv_has ls 4 [(0, .ref b), (1, .ref (Lx 0)), (2, .ref (Lm 0)), (3, .int (nI i))] → W p l e room_1 s m #[Value.ref b] below meth c H locs 93 1172 Q (F0 m 247 ls []) := by
  obtain ⟨hx, hb, hr, hml, hown, hts0, hX, hbl, hlocks, hgv⟩ := id C0
  have hts : ∀ w ∈ wsL_law, w.before #[Value.ref b] s = true := fun w h => hts0 w (wsL_law_in w h)
  have hbA : ¬ lA s b := Nat.not_le.mpr hbl
  intro wx wm H locs ls hR hW hl
  refine lv_aload_n hx hb dL_law_247 rfl (lv_at hl 1 rfl) ?_
  refine lv_aload_n hx hb dL_law_248 rfl (lv_at hl 0 rfl) ?_
  refine lv_iload_n hx hb dL_law_249 rfl (lv_at hl 3 rfl) ?_
  refine lv_iconst (v := 1) hx hb dL_law_250 (by decide) ?_
  refine lv_iadd hx hb dL_law_251 ?_
  refine va_sld hx hb hX hbl hbA hW.2.2 (l_in (k := 1) hi hL (by decide)) dL_law_252 ?_
  obtain ⟨r, wx2, wm2, h1, h2, hR⟩ := ca_fetch hR ((xs (nI i + 1).toNatClampNeg))
  refine l_xi (va_runV (As := [.int ((xs (nI i + 1).toNatClampNeg))]) (rest := []) ⟨hx, hb, hml, hown, hts⟩ (kx_fetch l (D := D) (K := K) (t0 := t0) F.1 ((xs (nI i + 1).toNatClampNeg)) wx h1) (cwV 1 hts gL_law_X3_fetch rfl rfl rfl (by decide +kernel) ⟨Nat.le_of_ble_eq_true rfl, Nat.le_of_ble_eq_true rfl⟩) (l_preX F hK hE hW) rfl rfl hl.1 rfl (lv_room (Nat.le_of_ble_eq_true rfl)) dL_law_253 ⟨Nat.le_of_ble_eq_true rfl, Nat.le_of_ble_eq_true rfl⟩) F hW (fun H locs hW => ?_)
  refine lv_aload_n hx hb dL_law_256 rfl (lv_at hl 2 rfl) ?_
  refine lv_aload_n hx hb dL_law_257 rfl (lv_at hl 0 rfl) ?_
  refine lv_iload_n hx hb dL_law_258 rfl (lv_at hl 3 rfl) ?_
  refine lv_iconst (v := 1) hx hb dL_law_259 (by decide) ?_
  refine lv_iadd hx hb dL_law_260 ?_
  refine va_sld hx hb hX hbl hbA hW.2.2 (l_in (k := 1) hi hL (by decide)) dL_law_261 ?_
  refine l_mi (va_runV (As := [.int ((xs (nI i + 1).toNatClampNeg))]) (rest := [.int r]) ⟨hx, hb, hml, hown, hts⟩ (km_fetch l (D := D) (K := K) F.2.1 ((xs (nI i + 1).toNatClampNeg)) wm h2) (cwV 1 hts gL_law_X4_fetch rfl rfl rfl (by decide +kernel) ⟨Nat.le_of_ble_eq_true rfl, Nat.le_of_ble_eq_true rfl⟩) (l_preM hK hW) rfl rfl hl.1 rfl (lv_room (Nat.le_of_ble_eq_true rfl)) dL_law_262 ⟨Nat.le_of_ble_eq_true rfl, Nat.le_of_ble_eq_true rfl⟩) F hW (fun H locs hW => ?_)
  refine lv_icmp_eq (tgt := 1027) hx hb dL_law_265 (by decide) (fun _ => ?_) (fun c9 => absurd rfl c9)
  exact kk _ _ _ _ _ hR hW hl
set_option maxHeartbeats 4000000 in
set_option maxRecDepth 100000 in
theorem l_c6 {p : Program} {l : Launch} {e : Env} {s : State} {m : MethodId} {below : List Frame} {meth : Method} {c : Code} {b L : Nat} {xs : Nat → Int32} {D : va_G} {K : Nat → ClassId} {Lx Lm : Nat → Nat} {t0 : Nat} {Q : State → Prop} (C0 : lw_At p s m meth c b L xs) (F : lF Lx Lm s) (hK : va_K D vwCl (tyG K) s) (hE : lE t0 s) (hL : L ≤ 384) {i : Nat} (hi : i + 6 ≤ L) (kk : ∀ (wx wm : St) (H : Heap) (locs : List Loc) (ls : Array Slot), RR wx wm → lW D K Lx Lm s wx wm H locs → lv_has ls 4 [(0, .ref b), (1, .ref (Lx 0)), (2, .ref (Lm 0)), (3, .int (nI i))] → W p l e room_1 s m #[Value.ref b] below meth c H locs 93 1172 Q (F0 m 1027 ls [])) : ∀ (wx wm : St) (H : Heap) (locs : List Loc) (ls : Array Slot), RR wx wm → lW D K Lx Lm s wx wm H locs → lv_has ls 4 [(0, .ref b), (1, .ref (Lx 0)), (2, .ref (Lm 0)), (3, .int (nI i))] → W p l e room_1 s m #[Value.ref b] below meth c H locs 93 1172 Q (F0 m 270 ls []) := by
  obtain ⟨hx, hb, hr, hml, hown, hts0, hX, hbl, hlocks, hgv⟩ := id C0
  have hts : ∀ w ∈ wsL_law, w.before #[Value.ref b] s = true := fun w h => hts0 w (wsL_law_in w h)
  have hbA : ¬ lA s b := Nat.not_le.mpr hbl
  intro wx wm H locs ls hR hW hl
  refine lv_aload_n hx hb dL_law_270 rfl (lv_at hl 1 rfl) ?_
  refine lv_aload_n hx hb dL_law_271 rfl (lv_at hl 0 rfl) ?_
  refine lv_iload_n hx hb dL_law_272 rfl (lv_at hl 3 rfl) ?_
  refine lv_iconst (v := 1) hx hb dL_law_273 (by decide) ?_
  refine lv_iadd hx hb dL_law_274 ?_
  refine va_sld hx hb hX hbl hbA hW.2.2 (l_in (k := 1) hi hL (by decide)) dL_law_275 ?_
  obtain ⟨r, wx2, wm2, h1, h2, hR⟩ := ca_send hR ((xs (nI i + 1).toNatClampNeg))
  refine l_xi (va_runV (As := [.int ((xs (nI i + 1).toNatClampNeg))]) (rest := []) ⟨hx, hb, hml, hown, hts⟩ (kx_send l (D := D) (K := K) (t0 := t0) F.1 ((xs (nI i + 1).toNatClampNeg)) wx h1) (cwV 1 hts gL_law_X3_send rfl rfl rfl (by decide +kernel) ⟨Nat.le_of_ble_eq_true rfl, Nat.le_of_ble_eq_true rfl⟩) (l_preX F hK hE hW) rfl rfl hl.1 rfl (lv_room (Nat.le_of_ble_eq_true rfl)) dL_law_276 ⟨Nat.le_of_ble_eq_true rfl, Nat.le_of_ble_eq_true rfl⟩) F hW (fun H locs hW => ?_)
  refine lv_aload_n hx hb dL_law_279 rfl (lv_at hl 2 rfl) ?_
  refine lv_aload_n hx hb dL_law_280 rfl (lv_at hl 0 rfl) ?_
  refine lv_iload_n hx hb dL_law_281 rfl (lv_at hl 3 rfl) ?_
  refine lv_iconst (v := 1) hx hb dL_law_282 (by decide) ?_
  refine lv_iadd hx hb dL_law_283 ?_
  refine va_sld hx hb hX hbl hbA hW.2.2 (l_in (k := 1) hi hL (by decide)) dL_law_284 ?_
  refine l_mi (va_runV (As := [.int ((xs (nI i + 1).toNatClampNeg))]) (rest := [.int r]) ⟨hx, hb, hml, hown, hts⟩ (km_send l (D := D) (K := K) F.2.1 ((xs (nI i + 1).toNatClampNeg)) wm h2) (cwV 1 hts gL_law_X4_send rfl rfl rfl (by decide +kernel) ⟨Nat.le_of_ble_eq_true rfl, Nat.le_of_ble_eq_true rfl⟩) (l_preM hK hW) rfl rfl hl.1 rfl (lv_room (Nat.le_of_ble_eq_true rfl)) dL_law_285 ⟨Nat.le_of_ble_eq_true rfl, Nat.le_of_ble_eq_true rfl⟩) F hW (fun H locs hW => ?_)
  refine lv_icmp_eq (tgt := 1027) hx hb dL_law_288 (by decide) (fun _ => ?_) (fun c9 => absurd rfl c9)
  exact kk _ _ _ _ _ hR hW hl
set_option maxHeartbeats 4000000 in
set_option maxRecDepth 100000 in
theorem l_c7 {p : Program} {l : Launch} {e : Env} {s : State} {m : MethodId} {below : List Frame} {meth : Method} {c : Code} {b L : Nat} {xs : Nat → Int32} {D : va_G} {K : Nat → ClassId} {Lx Lm : Nat → Nat} {t0 : Nat} {Q : State → Prop} (C0 : lw_At p s m meth c b L xs) (F : lF Lx Lm s) (hK : va_K D vwCl (tyG K) s) (hE : lE t0 s) (hL : L ≤ 384) {i : Nat} (hi : i + 6 ≤ L) (kk : ∀ (wx wm : St) (H : Heap) (locs : List Loc) (ls : Array Slot), RR wx wm → lW D K Lx Lm s wx wm H locs → lv_has ls 4 [(0, .ref b), (1, .ref (Lx 0)), (2, .ref (Lm 0)), (3, .int (nI i))] → W p l e room_1 s m #[Value.ref b] below meth c H locs 93 1172 Q (F0 m 1027 ls [])) : ∀ (wx wm : St) (H : Heap) (locs : List Loc) (ls : Array Slot), RR wx wm → lW D K Lx Lm s wx wm H locs → lv_has ls 4 [(0, .ref b), (1, .ref (Lx 0)), (2, .ref (Lm 0)), (3, .int (nI i))] → W p l e room_1 s m #[Value.ref b] below meth c H locs 93 1172 Q (F0 m 293 ls []) := by
  obtain ⟨hx, hb, hr, hml, hown, hts0, hX, hbl, hlocks, hgv⟩ := id C0
  have hts : ∀ w ∈ wsL_law, w.before #[Value.ref b] s = true := fun w h => hts0 w (wsL_law_in w h)
  have hbA : ¬ lA s b := Nat.not_le.mpr hbl
  intro wx wm H locs ls hR hW hl
  refine lv_aload_n hx hb dL_law_293 rfl (lv_at hl 1 rfl) ?_
  refine lv_aload_n hx hb dL_law_294 rfl (lv_at hl 0 rfl) ?_
  refine lv_iload_n hx hb dL_law_295 rfl (lv_at hl 3 rfl) ?_
  refine lv_iconst (v := 1) hx hb dL_law_296 (by decide) ?_
  refine lv_iadd hx hb dL_law_297 ?_
  refine va_sld hx hb hX hbl hbA hW.2.2 (l_in (k := 1) hi hL (by decide)) dL_law_298 ?_
  obtain ⟨r, wx2, wm2, h1, h2, hR⟩ := ca_say hR ((xs (nI i + 1).toNatClampNeg))
  refine l_xi (va_runV (As := [.int ((xs (nI i + 1).toNatClampNeg))]) (rest := []) ⟨hx, hb, hml, hown, hts⟩ (kx_say l (D := D) (K := K) (t0 := t0) F.1 ((xs (nI i + 1).toNatClampNeg)) wx h1) (cwV 1 hts gL_law_X3_say rfl rfl rfl (by decide +kernel) ⟨Nat.le_of_ble_eq_true rfl, Nat.le_of_ble_eq_true rfl⟩) (l_preX F hK hE hW) rfl rfl hl.1 rfl (lv_room (Nat.le_of_ble_eq_true rfl)) dL_law_299 ⟨Nat.le_of_ble_eq_true rfl, Nat.le_of_ble_eq_true rfl⟩) F hW (fun H locs hW => ?_)
  refine lv_aload_n hx hb dL_law_302 rfl (lv_at hl 2 rfl) ?_
  refine lv_aload_n hx hb dL_law_303 rfl (lv_at hl 0 rfl) ?_
  refine lv_iload_n hx hb dL_law_304 rfl (lv_at hl 3 rfl) ?_
  refine lv_iconst (v := 1) hx hb dL_law_305 (by decide) ?_
  refine lv_iadd hx hb dL_law_306 ?_
  refine va_sld hx hb hX hbl hbA hW.2.2 (l_in (k := 1) hi hL (by decide)) dL_law_307 ?_
  refine l_mi (va_runV (As := [.int ((xs (nI i + 1).toNatClampNeg))]) (rest := [.int r]) ⟨hx, hb, hml, hown, hts⟩ (km_say l (D := D) (K := K) F.2.1 ((xs (nI i + 1).toNatClampNeg)) wm h2) (cwV 1 hts gL_law_X4_say rfl rfl rfl (by decide +kernel) ⟨Nat.le_of_ble_eq_true rfl, Nat.le_of_ble_eq_true rfl⟩) (l_preM hK hW) rfl rfl hl.1 rfl (lv_room (Nat.le_of_ble_eq_true rfl)) dL_law_308 ⟨Nat.le_of_ble_eq_true rfl, Nat.le_of_ble_eq_true rfl⟩) F hW (fun H locs hW => ?_)
  refine lv_icmp_eq (tgt := 1027) hx hb dL_law_311 (by decide) (fun _ => ?_) (fun c9 => absurd rfl c9)
  exact kk _ _ _ _ _ hR hW hl
set_option maxHeartbeats 4000000 in
set_option maxRecDepth 100000 in
theorem l_c8 {p : Program} {l : Launch} {e : Env} {s : State} {m : MethodId} {below : List Frame} {meth : Method} {c : Code} {b L : Nat} {xs : Nat → Int32} {D : va_G} {K : Nat → ClassId} {Lx Lm : Nat → Nat} {t0 : Nat} {Q : State → Prop} (C0 : lw_At p s m meth c b L xs) (F : lF Lx Lm s) (hK : va_K D vwCl (tyG K) s) (hE : lE t0 s) (hL : L ≤ 384) {i : Nat} (hi : i + 6 ≤ L) (kk : ∀ (wx wm : St) (H : Heap) (locs : List Loc) (ls : Array Slot), RR wx wm → lW D K Lx Lm s wx wm H locs → lv_has ls 4 [(0, .ref b), (1, .ref (Lx 0)), (2, .ref (Lm 0)), (3, .int (nI i))] → W p l e room_1 s m #[Value.ref b] below meth c H locs 93 1172 Q (F0 m 1027 ls [])) : ∀ (wx wm : St) (H : Heap) (locs : List Loc) (ls : Array Slot), RR wx wm → lW D K Lx Lm s wx wm H locs → lv_has ls 4 [(0, .ref b), (1, .ref (Lx 0)), (2, .ref (Lm 0)), (3, .int (nI i))] → W p l e room_1 s m #[Value.ref b] below meth c H locs 93 1172 Q (F0 m 316 ls []) := by
  obtain ⟨hx, hb, hr, hml, hown, hts0, hX, hbl, hlocks, hgv⟩ := id C0
  have hts : ∀ w ∈ wsL_law, w.before #[Value.ref b] s = true := fun w h => hts0 w (wsL_law_in w h)
  have hbA : ¬ lA s b := Nat.not_le.mpr hbl
  intro wx wm H locs ls hR hW hl
  refine lv_aload_n hx hb dL_law_316 rfl (lv_at hl 1 rfl) ?_
  refine lv_aload_n hx hb dL_law_317 rfl (lv_at hl 0 rfl) ?_
  refine lv_iload_n hx hb dL_law_318 rfl (lv_at hl 3 rfl) ?_
  refine lv_iconst (v := 1) hx hb dL_law_319 (by decide) ?_
  refine lv_iadd hx hb dL_law_320 ?_
  refine va_sld hx hb hX hbl hbA hW.2.2 (l_in (k := 1) hi hL (by decide)) dL_law_321 ?_
  refine lv_aload_n hx hb dL_law_322 rfl (lv_at hl 0 rfl) ?_
  refine lv_iload_n hx hb dL_law_323 rfl (lv_at hl 3 rfl) ?_
  refine lv_iconst (v := 2) hx hb dL_law_324 (by decide) ?_
  refine lv_iadd hx hb dL_law_325 ?_
  refine va_sld hx hb hX hbl hbA hW.2.2 (l_in (k := 2) hi hL (by decide)) dL_law_326 ?_
  refine lv_aload_n hx hb dL_law_327 rfl (lv_at hl 0 rfl) ?_
  refine lv_iload_n hx hb dL_law_328 rfl (lv_at hl 3 rfl) ?_
  refine lv_iconst (v := 3) hx hb dL_law_329 (by decide) ?_
  refine lv_iadd hx hb dL_law_330 ?_
  refine va_sld hx hb hX hbl hbA hW.2.2 (l_in (k := 3) hi hL (by decide)) dL_law_331 ?_
  obtain ⟨r, wx2, wm2, h1, h2, hR⟩ := ca_name hR ((xs (nI i + 1).toNatClampNeg)) ((xs (nI i + 2).toNatClampNeg)) ((xs (nI i + 3).toNatClampNeg))
  refine l_xi (va_runV (As := [.int ((xs (nI i + 1).toNatClampNeg)), .int ((xs (nI i + 2).toNatClampNeg)), .int ((xs (nI i + 3).toNatClampNeg))]) (rest := []) ⟨hx, hb, hml, hown, hts⟩ (kx_name l (D := D) (K := K) (t0 := t0) F.1 ((xs (nI i + 1).toNatClampNeg)) ((xs (nI i + 2).toNatClampNeg)) ((xs (nI i + 3).toNatClampNeg)) wx h1) (cwV 3 hts gL_law_X3_name rfl rfl rfl (by decide +kernel) ⟨Nat.le_of_ble_eq_true rfl, Nat.le_of_ble_eq_true rfl⟩) (l_preX F hK hE hW) rfl rfl hl.1 rfl (lv_room (Nat.le_of_ble_eq_true rfl)) dL_law_332 ⟨Nat.le_of_ble_eq_true rfl, Nat.le_of_ble_eq_true rfl⟩) F hW (fun H locs hW => ?_)
  refine lv_aload_n hx hb dL_law_335 rfl (lv_at hl 2 rfl) ?_
  refine lv_aload_n hx hb dL_law_336 rfl (lv_at hl 0 rfl) ?_
  refine lv_iload_n hx hb dL_law_337 rfl (lv_at hl 3 rfl) ?_
  refine lv_iconst (v := 1) hx hb dL_law_338 (by decide) ?_
  refine lv_iadd hx hb dL_law_339 ?_
  refine va_sld hx hb hX hbl hbA hW.2.2 (l_in (k := 1) hi hL (by decide)) dL_law_340 ?_
  refine lv_aload_n hx hb dL_law_341 rfl (lv_at hl 0 rfl) ?_
  refine lv_iload_n hx hb dL_law_342 rfl (lv_at hl 3 rfl) ?_
  refine lv_iconst (v := 2) hx hb dL_law_343 (by decide) ?_
  refine lv_iadd hx hb dL_law_344 ?_
  refine va_sld hx hb hX hbl hbA hW.2.2 (l_in (k := 2) hi hL (by decide)) dL_law_345 ?_
  refine lv_aload_n hx hb dL_law_346 rfl (lv_at hl 0 rfl) ?_
  refine lv_iload_n hx hb dL_law_347 rfl (lv_at hl 3 rfl) ?_
  refine lv_iconst (v := 3) hx hb dL_law_348 (by decide) ?_
  refine lv_iadd hx hb dL_law_349 ?_
  refine va_sld hx hb hX hbl hbA hW.2.2 (l_in (k := 3) hi hL (by decide)) dL_law_350 ?_
  refine l_mi (va_runV (As := [.int ((xs (nI i + 1).toNatClampNeg)), .int ((xs (nI i + 2).toNatClampNeg)), .int ((xs (nI i + 3).toNatClampNeg))]) (rest := [.int r]) ⟨hx, hb, hml, hown, hts⟩ (km_name l (D := D) (K := K) F.2.1 ((xs (nI i + 1).toNatClampNeg)) ((xs (nI i + 2).toNatClampNeg)) ((xs (nI i + 3).toNatClampNeg)) wm h2) (cwV 3 hts gL_law_X4_name rfl rfl rfl (by decide +kernel) ⟨Nat.le_of_ble_eq_true rfl, Nat.le_of_ble_eq_true rfl⟩) (l_preM hK hW) rfl rfl hl.1 rfl (lv_room (Nat.le_of_ble_eq_true rfl)) dL_law_351 ⟨Nat.le_of_ble_eq_true rfl, Nat.le_of_ble_eq_true rfl⟩) F hW (fun H locs hW => ?_)
  refine lv_icmp_eq (tgt := 1027) hx hb dL_law_354 (by decide) (fun _ => ?_) (fun c9 => absurd rfl c9)
  exact kk _ _ _ _ _ hR hW hl
set_option maxHeartbeats 4000000 in
set_option maxRecDepth 100000 in
theorem l_c9 {p : Program} {l : Launch} {e : Env} {s : State} {m : MethodId} {below : List Frame} {meth : Method} {c : Code} {b L : Nat} {xs : Nat → Int32} {D : va_G} {K : Nat → ClassId} {Lx Lm : Nat → Nat} {t0 : Nat} {Q : State → Prop} (C0 : lw_At p s m meth c b L xs) (F : lF Lx Lm s) (hK : va_K D vwCl (tyG K) s) (hE : lE t0 s) (hL : L ≤ 384) {i : Nat} (hi : i + 6 ≤ L) (kk : ∀ (wx wm : St) (H : Heap) (locs : List Loc) (ls : Array Slot), RR wx wm → lW D K Lx Lm s wx wm H locs → lv_has ls 4 [(0, .ref b), (1, .ref (Lx 0)), (2, .ref (Lm 0)), (3, .int (nI i))] → W p l e room_1 s m #[Value.ref b] below meth c H locs 93 1172 Q (F0 m 1027 ls [])) : ∀ (wx wm : St) (H : Heap) (locs : List Loc) (ls : Array Slot), RR wx wm → lW D K Lx Lm s wx wm H locs → lv_has ls 4 [(0, .ref b), (1, .ref (Lx 0)), (2, .ref (Lm 0)), (3, .int (nI i))] → W p l e room_1 s m #[Value.ref b] below meth c H locs 93 1172 Q (F0 m 359 ls []) := by
  obtain ⟨hx, hb, hr, hml, hown, hts0, hX, hbl, hlocks, hgv⟩ := id C0
  have hts : ∀ w ∈ wsL_law, w.before #[Value.ref b] s = true := fun w h => hts0 w (wsL_law_in w h)
  have hbA : ¬ lA s b := Nat.not_le.mpr hbl
  intro wx wm H locs ls hR hW hl
  refine lv_aload_n hx hb dL_law_359 rfl (lv_at hl 1 rfl) ?_
  obtain ⟨r, wx2, wm2, h1, h2, hR⟩ := ca_undo hR
  refine l_xi (va_runV (As := []) (rest := []) ⟨hx, hb, hml, hown, hts⟩ (kx_undo l (D := D) (K := K) (t0 := t0) F.1  wx h1) (cwV 0 hts gL_law_X3_undo rfl rfl rfl (by decide +kernel) ⟨Nat.le_of_ble_eq_true rfl, Nat.le_of_ble_eq_true rfl⟩) (l_preX F hK hE hW) rfl rfl hl.1 rfl (lv_room (Nat.le_of_ble_eq_true rfl)) dL_law_360 ⟨Nat.le_of_ble_eq_true rfl, Nat.le_of_ble_eq_true rfl⟩) F hW (fun H locs hW => ?_)
  refine lv_aload_n hx hb dL_law_363 rfl (lv_at hl 2 rfl) ?_
  refine l_mi (va_runV (As := []) (rest := [.int r]) ⟨hx, hb, hml, hown, hts⟩ (km_undo l (D := D) (K := K) F.2.1  wm h2) (cwV 0 hts gL_law_X4_undo rfl rfl rfl (by decide +kernel) ⟨Nat.le_of_ble_eq_true rfl, Nat.le_of_ble_eq_true rfl⟩) (l_preM hK hW) rfl rfl hl.1 rfl (lv_room (Nat.le_of_ble_eq_true rfl)) dL_law_364 ⟨Nat.le_of_ble_eq_true rfl, Nat.le_of_ble_eq_true rfl⟩) F hW (fun H locs hW => ?_)
  refine lv_icmp_eq (tgt := 1027) hx hb dL_law_367 (by decide) (fun _ => ?_) (fun c9 => absurd rfl c9)
  exact kk _ _ _ _ _ hR hW hl
set_option maxHeartbeats 4000000 in
set_option maxRecDepth 100000 in
theorem l_c10 {p : Program} {l : Launch} {e : Env} {s : State} {m : MethodId} {below : List Frame} {meth : Method} {c : Code} {b L : Nat} {xs : Nat → Int32} {D : va_G} {K : Nat → ClassId} {Lx Lm : Nat → Nat} {t0 : Nat} {Q : State → Prop} (C0 : lw_At p s m meth c b L xs) (F : lF Lx Lm s) (hK : va_K D vwCl (tyG K) s) (hE : lE t0 s) (hL : L ≤ 384) {i : Nat} (hi : i + 6 ≤ L) (kk : ∀ (wx wm : St) (H : Heap) (locs : List Loc) (ls : Array Slot), RR wx wm → lW D K Lx Lm s wx wm H locs → lv_has ls 4 [(0, .ref b), (1, .ref (Lx 0)), (2, .ref (Lm 0)), (3, .int (nI i))] → W p l e room_1 s m #[Value.ref b] below meth c H locs 93 1172 Q (F0 m 1027 ls [])) : ∀ (wx wm : St) (H : Heap) (locs : List Loc) (ls : Array Slot), RR wx wm → lW D K Lx Lm s wx wm H locs → lv_has ls 4 [(0, .ref b), (1, .ref (Lx 0)), (2, .ref (Lm 0)), (3, .int (nI i))] → W p l e room_1 s m #[Value.ref b] below meth c H locs 93 1172 Q (F0 m 372 ls []) := by
  obtain ⟨hx, hb, hr, hml, hown, hts0, hX, hbl, hlocks, hgv⟩ := id C0
  have hts : ∀ w ∈ wsL_law, w.before #[Value.ref b] s = true := fun w h => hts0 w (wsL_law_in w h)
  have hbA : ¬ lA s b := Nat.not_le.mpr hbl
  intro wx wm H locs ls hR hW hl
  refine lv_aload_n hx hb dL_law_372 rfl (lv_at hl 1 rfl) ?_
  refine lv_aload_n hx hb dL_law_373 rfl (lv_at hl 0 rfl) ?_
  refine lv_iload_n hx hb dL_law_374 rfl (lv_at hl 3 rfl) ?_
  refine lv_iconst (v := 1) hx hb dL_law_375 (by decide) ?_
  refine lv_iadd hx hb dL_law_376 ?_
  refine va_sld hx hb hX hbl hbA hW.2.2 (l_in (k := 1) hi hL (by decide)) dL_law_377 ?_
  refine lv_aload_n hx hb dL_law_378 rfl (lv_at hl 0 rfl) ?_
  refine lv_iload_n hx hb dL_law_379 rfl (lv_at hl 3 rfl) ?_
  refine lv_iconst (v := 2) hx hb dL_law_380 (by decide) ?_
  refine lv_iadd hx hb dL_law_381 ?_
  refine va_sld hx hb hX hbl hbA hW.2.2 (l_in (k := 2) hi hL (by decide)) dL_law_382 ?_
  refine lv_aload_n hx hb dL_law_383 rfl (lv_at hl 0 rfl) ?_
  refine lv_iload_n hx hb dL_law_384 rfl (lv_at hl 3 rfl) ?_
  refine lv_iconst (v := 3) hx hb dL_law_385 (by decide) ?_
  refine lv_iadd hx hb dL_law_386 ?_
  refine va_sld hx hb hX hbl hbA hW.2.2 (l_in (k := 3) hi hL (by decide)) dL_law_387 ?_
  obtain ⟨r, wx2, wm2, h1, h2, hR⟩ := ca_comesTo hR ((xs (nI i + 1).toNatClampNeg)) ((xs (nI i + 2).toNatClampNeg)) ((xs (nI i + 3).toNatClampNeg))
  refine l_xi (va_runV (As := [.int ((xs (nI i + 1).toNatClampNeg)), .int ((xs (nI i + 2).toNatClampNeg)), .int ((xs (nI i + 3).toNatClampNeg))]) (rest := []) ⟨hx, hb, hml, hown, hts⟩ (kx_comesTo l (D := D) (K := K) (t0 := t0) F.1 ((xs (nI i + 1).toNatClampNeg)) ((xs (nI i + 2).toNatClampNeg)) ((xs (nI i + 3).toNatClampNeg)) wx h1) (cwV 3 hts gL_law_X3_comesTo rfl rfl rfl (by decide +kernel) ⟨Nat.le_of_ble_eq_true rfl, Nat.le_of_ble_eq_true rfl⟩) (l_preX F hK hE hW) rfl rfl hl.1 rfl (lv_room (Nat.le_of_ble_eq_true rfl)) dL_law_388 ⟨Nat.le_of_ble_eq_true rfl, Nat.le_of_ble_eq_true rfl⟩) F hW (fun H locs hW => ?_)
  refine lv_aload_n hx hb dL_law_391 rfl (lv_at hl 2 rfl) ?_
  refine lv_aload_n hx hb dL_law_392 rfl (lv_at hl 0 rfl) ?_
  refine lv_iload_n hx hb dL_law_393 rfl (lv_at hl 3 rfl) ?_
  refine lv_iconst (v := 1) hx hb dL_law_394 (by decide) ?_
  refine lv_iadd hx hb dL_law_395 ?_
  refine va_sld hx hb hX hbl hbA hW.2.2 (l_in (k := 1) hi hL (by decide)) dL_law_396 ?_
  refine lv_aload_n hx hb dL_law_397 rfl (lv_at hl 0 rfl) ?_
  refine lv_iload_n hx hb dL_law_398 rfl (lv_at hl 3 rfl) ?_
  refine lv_iconst (v := 2) hx hb dL_law_399 (by decide) ?_
  refine lv_iadd hx hb dL_law_400 ?_
  refine va_sld hx hb hX hbl hbA hW.2.2 (l_in (k := 2) hi hL (by decide)) dL_law_401 ?_
  refine lv_aload_n hx hb dL_law_402 rfl (lv_at hl 0 rfl) ?_
  refine lv_iload_n hx hb dL_law_403 rfl (lv_at hl 3 rfl) ?_
  refine lv_iconst (v := 3) hx hb dL_law_404 (by decide) ?_
  refine lv_iadd hx hb dL_law_405 ?_
  refine va_sld hx hb hX hbl hbA hW.2.2 (l_in (k := 3) hi hL (by decide)) dL_law_406 ?_
  refine l_mi (va_runV (As := [.int ((xs (nI i + 1).toNatClampNeg)), .int ((xs (nI i + 2).toNatClampNeg)), .int ((xs (nI i + 3).toNatClampNeg))]) (rest := [.int r]) ⟨hx, hb, hml, hown, hts⟩ (km_comesTo l (D := D) (K := K) F.2.1 ((xs (nI i + 1).toNatClampNeg)) ((xs (nI i + 2).toNatClampNeg)) ((xs (nI i + 3).toNatClampNeg)) wm h2) (cwV 3 hts gL_law_X4_comesTo rfl rfl rfl (by decide +kernel) ⟨Nat.le_of_ble_eq_true rfl, Nat.le_of_ble_eq_true rfl⟩) (l_preM hK hW) rfl rfl hl.1 rfl (lv_room (Nat.le_of_ble_eq_true rfl)) dL_law_407 ⟨Nat.le_of_ble_eq_true rfl, Nat.le_of_ble_eq_true rfl⟩) F hW (fun H locs hW => ?_)
  refine lv_icmp_eq (tgt := 1027) hx hb dL_law_410 (by decide) (fun _ => ?_) (fun c9 => absurd rfl c9)
  exact kk _ _ _ _ _ hR hW hl
set_option maxHeartbeats 4000000 in
set_option maxRecDepth 100000 in
theorem l_c11 {p : Program} {l : Launch} {e : Env} {s : State} {m : MethodId} {below : List Frame} {meth : Method} {c : Code} {b L : Nat} {xs : Nat → Int32} {D : va_G} {K : Nat → ClassId} {Lx Lm : Nat → Nat} {t0 : Nat} {Q : State → Prop} (C0 : lw_At p s m meth c b L xs) (F : lF Lx Lm s) (hK : va_K D vwCl (tyG K) s) (hE : lE t0 s) (hL : L ≤ 384) {i : Nat} (hi : i + 6 ≤ L) (kk : ∀ (wx wm : St) (H : Heap) (locs : List Loc) (ls : Array Slot), RR wx wm → lW D K Lx Lm s wx wm H locs → lv_has ls 4 [(0, .ref b), (1, .ref (Lx 0)), (2, .ref (Lm 0)), (3, .int (nI i))] → W p l e room_1 s m #[Value.ref b] below meth c H locs 93 1172 Q (F0 m 1027 ls [])) : ∀ (wx wm : St) (H : Heap) (locs : List Loc) (ls : Array Slot), RR wx wm → lW D K Lx Lm s wx wm H locs → lv_has ls 4 [(0, .ref b), (1, .ref (Lx 0)), (2, .ref (Lm 0)), (3, .int (nI i))] → W p l e room_1 s m #[Value.ref b] below meth c H locs 93 1172 Q (F0 m 415 ls []) := by
  obtain ⟨hx, hb, hr, hml, hown, hts0, hX, hbl, hlocks, hgv⟩ := id C0
  have hts : ∀ w ∈ wsL_law, w.before #[Value.ref b] s = true := fun w h => hts0 w (wsL_law_in w h)
  have hbA : ¬ lA s b := Nat.not_le.mpr hbl
  intro wx wm H locs ls hR hW hl
  refine lv_aload_n hx hb dL_law_415 rfl (lv_at hl 1 rfl) ?_
  refine lv_aload_n hx hb dL_law_416 rfl (lv_at hl 0 rfl) ?_
  refine lv_iload_n hx hb dL_law_417 rfl (lv_at hl 3 rfl) ?_
  refine lv_iconst (v := 1) hx hb dL_law_418 (by decide) ?_
  refine lv_iadd hx hb dL_law_419 ?_
  refine va_sld hx hb hX hbl hbA hW.2.2 (l_in (k := 1) hi hL (by decide)) dL_law_420 ?_
  refine lv_aload_n hx hb dL_law_421 rfl (lv_at hl 0 rfl) ?_
  refine lv_iload_n hx hb dL_law_422 rfl (lv_at hl 3 rfl) ?_
  refine lv_iconst (v := 2) hx hb dL_law_423 (by decide) ?_
  refine lv_iadd hx hb dL_law_424 ?_
  refine va_sld hx hb hX hbl hbA hW.2.2 (l_in (k := 2) hi hL (by decide)) dL_law_425 ?_
  refine lv_if_eq (tgt := 433) hx hb dL_law_426 (by decide) (fun c0 => ?_) (fun c0 => ?_)
  · refine lv_iconst (v := 0) hx hb dL_law_433 (by decide) ?_
    obtain ⟨r, wx2, wm2, h1, h2, hR⟩ := ca_fewest hR ((xs (nI i + 1).toNatClampNeg)) 0
    refine l_xi (va_runV (As := [.int ((xs (nI i + 1).toNatClampNeg)), .int 0]) (rest := []) ⟨hx, hb, hml, hown, hts⟩ (kx_fewest l (D := D) (K := K) (t0 := t0) F.1 ((xs (nI i + 1).toNatClampNeg)) 0 wx h1) (cwV 2 hts gL_law_X3_fewest rfl rfl rfl (by decide +kernel) ⟨Nat.le_of_ble_eq_true rfl, Nat.le_of_ble_eq_true rfl⟩) (l_preX F hK hE hW) rfl rfl hl.1 rfl (lv_room (Nat.le_of_ble_eq_true rfl)) dL_law_434 ⟨Nat.le_of_ble_eq_true rfl, Nat.le_of_ble_eq_true rfl⟩) F hW (fun H locs hW => ?_)
    refine lv_aload_n hx hb dL_law_437 rfl (lv_at hl 2 rfl) ?_
    refine lv_aload_n hx hb dL_law_438 rfl (lv_at hl 0 rfl) ?_
    refine lv_iload_n hx hb dL_law_439 rfl (lv_at hl 3 rfl) ?_
    refine lv_iconst (v := 1) hx hb dL_law_440 (by decide) ?_
    refine lv_iadd hx hb dL_law_441 ?_
    refine va_sld hx hb hX hbl hbA hW.2.2 (l_in (k := 1) hi hL (by decide)) dL_law_442 ?_
    refine lv_aload_n hx hb dL_law_443 rfl (lv_at hl 0 rfl) ?_
    refine lv_iload_n hx hb dL_law_444 rfl (lv_at hl 3 rfl) ?_
    refine lv_iconst (v := 2) hx hb dL_law_445 (by decide) ?_
    refine lv_iadd hx hb dL_law_446 ?_
    refine va_sld hx hb hX hbl hbA hW.2.2 (l_in (k := 2) hi hL (by decide)) dL_law_447 ?_
    refine lv_if_eq (tgt := 455) hx hb dL_law_448 (by decide) (fun _ => ?_) (fun c9 => absurd c0 c9)
    refine lv_iconst (v := 0) hx hb dL_law_455 (by decide) ?_
    refine l_mi (va_runV (As := [.int ((xs (nI i + 1).toNatClampNeg)), .int 0]) (rest := [.int r]) ⟨hx, hb, hml, hown, hts⟩ (km_fewest l (D := D) (K := K) F.2.1 ((xs (nI i + 1).toNatClampNeg)) 0 wm h2) (cwV 2 hts gL_law_X4_fewest rfl rfl rfl (by decide +kernel) ⟨Nat.le_of_ble_eq_true rfl, Nat.le_of_ble_eq_true rfl⟩) (l_preM hK hW) rfl rfl hl.1 rfl (lv_room (Nat.le_of_ble_eq_true rfl)) dL_law_456 ⟨Nat.le_of_ble_eq_true rfl, Nat.le_of_ble_eq_true rfl⟩) F hW (fun H locs hW => ?_)
    refine lv_icmp_eq (tgt := 1027) hx hb dL_law_459 (by decide) (fun _ => ?_) (fun c9 => absurd rfl c9)
    exact kk _ _ _ _ _ hR hW hl
  · refine lv_iconst (v := 1) hx hb dL_law_429 (by decide) ?_
    refine lv_goto (tgt := 434) hx hb dL_law_430 (by decide) ?_
    obtain ⟨r, wx2, wm2, h1, h2, hR⟩ := ca_fewest hR ((xs (nI i + 1).toNatClampNeg)) 1
    refine l_xi (va_runV (As := [.int ((xs (nI i + 1).toNatClampNeg)), .int 1]) (rest := []) ⟨hx, hb, hml, hown, hts⟩ (kx_fewest l (D := D) (K := K) (t0 := t0) F.1 ((xs (nI i + 1).toNatClampNeg)) 1 wx h1) (cwV 2 hts gL_law_X3_fewest rfl rfl rfl (by decide +kernel) ⟨Nat.le_of_ble_eq_true rfl, Nat.le_of_ble_eq_true rfl⟩) (l_preX F hK hE hW) rfl rfl hl.1 rfl (lv_room (Nat.le_of_ble_eq_true rfl)) dL_law_434 ⟨Nat.le_of_ble_eq_true rfl, Nat.le_of_ble_eq_true rfl⟩) F hW (fun H locs hW => ?_)
    refine lv_aload_n hx hb dL_law_437 rfl (lv_at hl 2 rfl) ?_
    refine lv_aload_n hx hb dL_law_438 rfl (lv_at hl 0 rfl) ?_
    refine lv_iload_n hx hb dL_law_439 rfl (lv_at hl 3 rfl) ?_
    refine lv_iconst (v := 1) hx hb dL_law_440 (by decide) ?_
    refine lv_iadd hx hb dL_law_441 ?_
    refine va_sld hx hb hX hbl hbA hW.2.2 (l_in (k := 1) hi hL (by decide)) dL_law_442 ?_
    refine lv_aload_n hx hb dL_law_443 rfl (lv_at hl 0 rfl) ?_
    refine lv_iload_n hx hb dL_law_444 rfl (lv_at hl 3 rfl) ?_
    refine lv_iconst (v := 2) hx hb dL_law_445 (by decide) ?_
    refine lv_iadd hx hb dL_law_446 ?_
    refine va_sld hx hb hX hbl hbA hW.2.2 (l_in (k := 2) hi hL (by decide)) dL_law_447 ?_
    refine lv_if_eq (tgt := 455) hx hb dL_law_448 (by decide) (fun c9 => absurd c9 c0) (fun _ => ?_)
    refine lv_iconst (v := 1) hx hb dL_law_451 (by decide) ?_
    refine lv_goto (tgt := 456) hx hb dL_law_452 (by decide) ?_
    refine l_mi (va_runV (As := [.int ((xs (nI i + 1).toNatClampNeg)), .int 1]) (rest := [.int r]) ⟨hx, hb, hml, hown, hts⟩ (km_fewest l (D := D) (K := K) F.2.1 ((xs (nI i + 1).toNatClampNeg)) 1 wm h2) (cwV 2 hts gL_law_X4_fewest rfl rfl rfl (by decide +kernel) ⟨Nat.le_of_ble_eq_true rfl, Nat.le_of_ble_eq_true rfl⟩) (l_preM hK hW) rfl rfl hl.1 rfl (lv_room (Nat.le_of_ble_eq_true rfl)) dL_law_456 ⟨Nat.le_of_ble_eq_true rfl, Nat.le_of_ble_eq_true rfl⟩) F hW (fun H locs hW => ?_)
    refine lv_icmp_eq (tgt := 1027) hx hb dL_law_459 (by decide) (fun _ => ?_) (fun c9 => absurd rfl c9)
    exact kk _ _ _ _ _ hR hW hl
set_option maxHeartbeats 4000000 in
set_option maxRecDepth 100000 in
theorem l_c12 {p : Program} {l : Launch} {e : Env} {s : State} {m : MethodId} {below : List Frame} {meth : Method} {c : Code} {b L : Nat} {xs : Nat → Int32} {D : va_G} {K : Nat → ClassId} {Lx Lm : Nat → Nat} {t0 : Nat} {Q : State → Prop} (C0 : lw_At p s m meth c b L xs) (F : lF Lx Lm s) (hK : va_K D vwCl (tyG K) s) (hE : lE t0 s) (hL : L ≤ 384) {i : Nat} (hi : i + 6 ≤ L) (kk : ∀ (wx wm : St) (H : Heap) (locs : List Loc) (ls : Array Slot), RR wx wm → lW D K Lx Lm s wx wm H locs → lv_has ls 4 [(0, .ref b), (1, .ref (Lx 0)), (2, .ref (Lm 0)), (3, .int (nI i))] → W p l e room_1 s m #[Value.ref b] below meth c H locs 93 1172 Q (F0 m 1027 ls [])) : ∀ (wx wm : St) (H : Heap) (locs : List Loc) (ls : Array Slot), RR wx wm → lW D K Lx Lm s wx wm H locs → lv_has ls 4 [(0, .ref b), (1, .ref (Lx 0)), (2, .ref (Lm 0)), (3, .int (nI i))] → W p l e room_1 s m #[Value.ref b] below meth c H locs 93 1172 Q (F0 m 464 ls []) := by
  obtain ⟨hx, hb, hr, hml, hown, hts0, hX, hbl, hlocks, hgv⟩ := id C0
  have hts : ∀ w ∈ wsL_law, w.before #[Value.ref b] s = true := fun w h => hts0 w (wsL_law_in w h)
  have hbA : ¬ lA s b := Nat.not_le.mpr hbl
  intro wx wm H locs ls hR hW hl
  refine lv_aload_n hx hb dL_law_464 rfl (lv_at hl 1 rfl) ?_
  refine lv_aload_n hx hb dL_law_465 rfl (lv_at hl 0 rfl) ?_
  refine lv_iload_n hx hb dL_law_466 rfl (lv_at hl 3 rfl) ?_
  refine lv_iconst (v := 1) hx hb dL_law_467 (by decide) ?_
  refine lv_iadd hx hb dL_law_468 ?_
  refine va_sld hx hb hX hbl hbA hW.2.2 (l_in (k := 1) hi hL (by decide)) dL_law_469 ?_
  obtain ⟨r, wx2, wm2, h1, h2, hR⟩ := ca_can hR ((xs (nI i + 1).toNatClampNeg))
  refine l_xi (va_runV (As := [.int ((xs (nI i + 1).toNatClampNeg))]) (rest := []) ⟨hx, hb, hml, hown, hts⟩ (kx_can l (D := D) (K := K) (t0 := t0) F.1 ((xs (nI i + 1).toNatClampNeg)) wx h1) (cwV 1 hts gL_law_X3_can rfl rfl rfl (by decide +kernel) ⟨Nat.le_of_ble_eq_true rfl, Nat.le_of_ble_eq_true rfl⟩) (l_preX F hK hE hW) rfl rfl hl.1 rfl (lv_room (Nat.le_of_ble_eq_true rfl)) dL_law_470 ⟨Nat.le_of_ble_eq_true rfl, Nat.le_of_ble_eq_true rfl⟩) F hW (fun H locs hW => ?_)
  refine lv_aload_n hx hb dL_law_473 rfl (lv_at hl 2 rfl) ?_
  refine lv_aload_n hx hb dL_law_474 rfl (lv_at hl 0 rfl) ?_
  refine lv_iload_n hx hb dL_law_475 rfl (lv_at hl 3 rfl) ?_
  refine lv_iconst (v := 1) hx hb dL_law_476 (by decide) ?_
  refine lv_iadd hx hb dL_law_477 ?_
  refine va_sld hx hb hX hbl hbA hW.2.2 (l_in (k := 1) hi hL (by decide)) dL_law_478 ?_
  refine l_mi (va_runV (As := [.int ((xs (nI i + 1).toNatClampNeg))]) (rest := [.int r]) ⟨hx, hb, hml, hown, hts⟩ (km_can l (D := D) (K := K) F.2.1 ((xs (nI i + 1).toNatClampNeg)) wm h2) (cwV 1 hts gL_law_X4_can rfl rfl rfl (by decide +kernel) ⟨Nat.le_of_ble_eq_true rfl, Nat.le_of_ble_eq_true rfl⟩) (l_preM hK hW) rfl rfl hl.1 rfl (lv_room (Nat.le_of_ble_eq_true rfl)) dL_law_479 ⟨Nat.le_of_ble_eq_true rfl, Nat.le_of_ble_eq_true rfl⟩) F hW (fun H locs hW => ?_)
  refine lv_icmp_eq (tgt := 1027) hx hb dL_law_482 (by decide) (fun _ => ?_) (fun c9 => absurd rfl c9)
  exact kk _ _ _ _ _ hR hW hl
set_option maxHeartbeats 4000000 in
set_option maxRecDepth 100000 in
theorem l_c13 {p : Program} {l : Launch} {e : Env} {s : State} {m : MethodId} {below : List Frame} {meth : Method} {c : Code} {b L : Nat} {xs : Nat → Int32} {D : va_G} {K : Nat → ClassId} {Lx Lm : Nat → Nat} {t0 : Nat} {Q : State → Prop} (C0 : lw_At p s m meth c b L xs) (F : lF Lx Lm s) (hK : va_K D vwCl (tyG K) s) (hE : lE t0 s) (hL : L ≤ 384) {i : Nat} (hi : i + 6 ≤ L) (kk : ∀ (wx wm : St) (H : Heap) (locs : List Loc) (ls : Array Slot), RR wx wm → lW D K Lx Lm s wx wm H locs → lv_has ls 4 [(0, .ref b), (1, .ref (Lx 0)), (2, .ref (Lm 0)), (3, .int (nI i))] → W p l e room_1 s m #[Value.ref b] below meth c H locs 93 1172 Q (F0 m 1027 ls [])) : ∀ (wx wm : St) (H : Heap) (locs : List Loc) (ls : Array Slot), RR wx wm → lW D K Lx Lm s wx wm H locs → lv_has ls 4 [(0, .ref b), (1, .ref (Lx 0)), (2, .ref (Lm 0)), (3, .int (nI i))] → W p l e room_1 s m #[Value.ref b] below meth c H locs 93 1172 Q (F0 m 487 ls []) := by
  obtain ⟨hx, hb, hr, hml, hown, hts0, hX, hbl, hlocks, hgv⟩ := id C0
  have hts : ∀ w ∈ wsL_law, w.before #[Value.ref b] s = true := fun w h => hts0 w (wsL_law_in w h)
  have hbA : ¬ lA s b := Nat.not_le.mpr hbl
  intro wx wm H locs ls hR hW hl
  refine lv_aload_n hx hb dL_law_487 rfl (lv_at hl 1 rfl) ?_
  refine lv_aload_n hx hb dL_law_488 rfl (lv_at hl 0 rfl) ?_
  refine lv_iload_n hx hb dL_law_489 rfl (lv_at hl 3 rfl) ?_
  refine lv_iconst (v := 1) hx hb dL_law_490 (by decide) ?_
  refine lv_iadd hx hb dL_law_491 ?_
  refine va_sld hx hb hX hbl hbA hW.2.2 (l_in (k := 1) hi hL (by decide)) dL_law_492 ?_
  refine lv_aload_n hx hb dL_law_493 rfl (lv_at hl 0 rfl) ?_
  refine lv_iload_n hx hb dL_law_494 rfl (lv_at hl 3 rfl) ?_
  refine lv_iconst (v := 2) hx hb dL_law_495 (by decide) ?_
  refine lv_iadd hx hb dL_law_496 ?_
  refine va_sld hx hb hX hbl hbA hW.2.2 (l_in (k := 2) hi hL (by decide)) dL_law_497 ?_
  refine lv_if_eq (tgt := 505) hx hb dL_law_498 (by decide) (fun c0 => ?_) (fun c0 => ?_)
  · refine lv_iconst (v := 0) hx hb dL_law_505 (by decide) ?_
    obtain ⟨r, wx2, wm2, h1, h2, hR⟩ := ca_toFetch hR ((xs (nI i + 1).toNatClampNeg)) 0
    refine l_xi (va_runV (As := [.int ((xs (nI i + 1).toNatClampNeg)), .int 0]) (rest := []) ⟨hx, hb, hml, hown, hts⟩ (kx_toFetch l (D := D) (K := K) (t0 := t0) F.1 ((xs (nI i + 1).toNatClampNeg)) 0 wx h1) (cwV 2 hts gL_law_X3_toFetch rfl rfl rfl (by decide +kernel) ⟨Nat.le_of_ble_eq_true rfl, Nat.le_of_ble_eq_true rfl⟩) (l_preX F hK hE hW) rfl rfl hl.1 rfl (lv_room (Nat.le_of_ble_eq_true rfl)) dL_law_506 ⟨Nat.le_of_ble_eq_true rfl, Nat.le_of_ble_eq_true rfl⟩) F hW (fun H locs hW => ?_)
    refine lv_aload_n hx hb dL_law_509 rfl (lv_at hl 2 rfl) ?_
    refine lv_aload_n hx hb dL_law_510 rfl (lv_at hl 0 rfl) ?_
    refine lv_iload_n hx hb dL_law_511 rfl (lv_at hl 3 rfl) ?_
    refine lv_iconst (v := 1) hx hb dL_law_512 (by decide) ?_
    refine lv_iadd hx hb dL_law_513 ?_
    refine va_sld hx hb hX hbl hbA hW.2.2 (l_in (k := 1) hi hL (by decide)) dL_law_514 ?_
    refine lv_aload_n hx hb dL_law_515 rfl (lv_at hl 0 rfl) ?_
    refine lv_iload_n hx hb dL_law_516 rfl (lv_at hl 3 rfl) ?_
    refine lv_iconst (v := 2) hx hb dL_law_517 (by decide) ?_
    refine lv_iadd hx hb dL_law_518 ?_
    refine va_sld hx hb hX hbl hbA hW.2.2 (l_in (k := 2) hi hL (by decide)) dL_law_519 ?_
    refine lv_if_eq (tgt := 527) hx hb dL_law_520 (by decide) (fun _ => ?_) (fun c9 => absurd c0 c9)
    refine lv_iconst (v := 0) hx hb dL_law_527 (by decide) ?_
    refine l_mi (va_runV (As := [.int ((xs (nI i + 1).toNatClampNeg)), .int 0]) (rest := [.int r]) ⟨hx, hb, hml, hown, hts⟩ (km_toFetch l (D := D) (K := K) F.2.1 ((xs (nI i + 1).toNatClampNeg)) 0 wm h2) (cwV 2 hts gL_law_X4_toFetch rfl rfl rfl (by decide +kernel) ⟨Nat.le_of_ble_eq_true rfl, Nat.le_of_ble_eq_true rfl⟩) (l_preM hK hW) rfl rfl hl.1 rfl (lv_room (Nat.le_of_ble_eq_true rfl)) dL_law_528 ⟨Nat.le_of_ble_eq_true rfl, Nat.le_of_ble_eq_true rfl⟩) F hW (fun H locs hW => ?_)
    refine lv_icmp_eq (tgt := 1027) hx hb dL_law_531 (by decide) (fun _ => ?_) (fun c9 => absurd rfl c9)
    exact kk _ _ _ _ _ hR hW hl
  · refine lv_iconst (v := 1) hx hb dL_law_501 (by decide) ?_
    refine lv_goto (tgt := 506) hx hb dL_law_502 (by decide) ?_
    obtain ⟨r, wx2, wm2, h1, h2, hR⟩ := ca_toFetch hR ((xs (nI i + 1).toNatClampNeg)) 1
    refine l_xi (va_runV (As := [.int ((xs (nI i + 1).toNatClampNeg)), .int 1]) (rest := []) ⟨hx, hb, hml, hown, hts⟩ (kx_toFetch l (D := D) (K := K) (t0 := t0) F.1 ((xs (nI i + 1).toNatClampNeg)) 1 wx h1) (cwV 2 hts gL_law_X3_toFetch rfl rfl rfl (by decide +kernel) ⟨Nat.le_of_ble_eq_true rfl, Nat.le_of_ble_eq_true rfl⟩) (l_preX F hK hE hW) rfl rfl hl.1 rfl (lv_room (Nat.le_of_ble_eq_true rfl)) dL_law_506 ⟨Nat.le_of_ble_eq_true rfl, Nat.le_of_ble_eq_true rfl⟩) F hW (fun H locs hW => ?_)
    refine lv_aload_n hx hb dL_law_509 rfl (lv_at hl 2 rfl) ?_
    refine lv_aload_n hx hb dL_law_510 rfl (lv_at hl 0 rfl) ?_
    refine lv_iload_n hx hb dL_law_511 rfl (lv_at hl 3 rfl) ?_
    refine lv_iconst (v := 1) hx hb dL_law_512 (by decide) ?_
    refine lv_iadd hx hb dL_law_513 ?_
    refine va_sld hx hb hX hbl hbA hW.2.2 (l_in (k := 1) hi hL (by decide)) dL_law_514 ?_
    refine lv_aload_n hx hb dL_law_515 rfl (lv_at hl 0 rfl) ?_
    refine lv_iload_n hx hb dL_law_516 rfl (lv_at hl 3 rfl) ?_
    refine lv_iconst (v := 2) hx hb dL_law_517 (by decide) ?_
    refine lv_iadd hx hb dL_law_518 ?_
    refine va_sld hx hb hX hbl hbA hW.2.2 (l_in (k := 2) hi hL (by decide)) dL_law_519 ?_
    refine lv_if_eq (tgt := 527) hx hb dL_law_520 (by decide) (fun c9 => absurd c9 c0) (fun _ => ?_)
    refine lv_iconst (v := 1) hx hb dL_law_523 (by decide) ?_
    refine lv_goto (tgt := 528) hx hb dL_law_524 (by decide) ?_
    refine l_mi (va_runV (As := [.int ((xs (nI i + 1).toNatClampNeg)), .int 1]) (rest := [.int r]) ⟨hx, hb, hml, hown, hts⟩ (km_toFetch l (D := D) (K := K) F.2.1 ((xs (nI i + 1).toNatClampNeg)) 1 wm h2) (cwV 2 hts gL_law_X4_toFetch rfl rfl rfl (by decide +kernel) ⟨Nat.le_of_ble_eq_true rfl, Nat.le_of_ble_eq_true rfl⟩) (l_preM hK hW) rfl rfl hl.1 rfl (lv_room (Nat.le_of_ble_eq_true rfl)) dL_law_528 ⟨Nat.le_of_ble_eq_true rfl, Nat.le_of_ble_eq_true rfl⟩) F hW (fun H locs hW => ?_)
    refine lv_icmp_eq (tgt := 1027) hx hb dL_law_531 (by decide) (fun _ => ?_) (fun c9 => absurd rfl c9)
    exact kk _ _ _ _ _ hR hW hl
set_option maxHeartbeats 4000000 in
set_option maxRecDepth 100000 in
theorem l_c14 {p : Program} {l : Launch} {e : Env} {s : State} {m : MethodId} {below : List Frame} {meth : Method} {c : Code} {b L : Nat} {xs : Nat → Int32} {D : va_G} {K : Nat → ClassId} {Lx Lm : Nat → Nat} {t0 : Nat} {Q : State → Prop} (C0 : lw_At p s m meth c b L xs) (F : lF Lx Lm s) (hK : va_K D vwCl (tyG K) s) (hE : lE t0 s) (hL : L ≤ 384) {i : Nat} (hi : i + 6 ≤ L) (kk : ∀ (wx wm : St) (H : Heap) (locs : List Loc) (ls : Array Slot), RR wx wm → lW D K Lx Lm s wx wm H locs → lv_has ls 4 [(0, .ref b), (1, .ref (Lx 0)), (2, .ref (Lm 0)), (3, .int (nI i))] → W p l e room_1 s m #[Value.ref b] below meth c H locs 93 1172 Q (F0 m 1027 ls [])) : ∀ (wx wm : St) (H : Heap) (locs : List Loc) (ls : Array Slot), RR wx wm → lW D K Lx Lm s wx wm H locs → lv_has ls 4 [(0, .ref b), (1, .ref (Lx 0)), (2, .ref (Lm 0)), (3, .int (nI i))] → W p l e room_1 s m #[Value.ref b] below meth c H locs 93 1172 Q (F0 m 536 ls []) := by
  obtain ⟨hx, hb, hr, hml, hown, hts0, hX, hbl, hlocks, hgv⟩ := id C0
  have hts : ∀ w ∈ wsL_law, w.before #[Value.ref b] s = true := fun w h => hts0 w (wsL_law_in w h)
  have hbA : ¬ lA s b := Nat.not_le.mpr hbl
  intro wx wm H locs ls hR hW hl
  refine lv_aload_n hx hb dL_law_536 rfl (lv_at hl 1 rfl) ?_
  obtain ⟨r, wx2, wm2, h1, h2, hR⟩ := ca_needed hR
  refine l_xi (va_runV (As := []) (rest := []) ⟨hx, hb, hml, hown, hts⟩ (kx_needed l (D := D) (K := K) (t0 := t0) F.1  wx h1) (cwV 0 hts gL_law_X3_needed rfl rfl rfl (by decide +kernel) ⟨Nat.le_of_ble_eq_true rfl, Nat.le_of_ble_eq_true rfl⟩) (l_preX F hK hE hW) rfl rfl hl.1 rfl (lv_room (Nat.le_of_ble_eq_true rfl)) dL_law_537 ⟨Nat.le_of_ble_eq_true rfl, Nat.le_of_ble_eq_true rfl⟩) F hW (fun H locs hW => ?_)
  refine lv_aload_n hx hb dL_law_540 rfl (lv_at hl 2 rfl) ?_
  refine l_mi (va_runV (As := []) (rest := [.int r]) ⟨hx, hb, hml, hown, hts⟩ (km_needed l (D := D) (K := K) F.2.1  wm h2) (cwV 0 hts gL_law_X4_needed rfl rfl rfl (by decide +kernel) ⟨Nat.le_of_ble_eq_true rfl, Nat.le_of_ble_eq_true rfl⟩) (l_preM hK hW) rfl rfl hl.1 rfl (lv_room (Nat.le_of_ble_eq_true rfl)) dL_law_541 ⟨Nat.le_of_ble_eq_true rfl, Nat.le_of_ble_eq_true rfl⟩) F hW (fun H locs hW => ?_)
  refine lv_icmp_eq (tgt := 1027) hx hb dL_law_544 (by decide) (fun _ => ?_) (fun c9 => absurd rfl c9)
  exact kk _ _ _ _ _ hR hW hl
set_option maxHeartbeats 4000000 in
set_option maxRecDepth 100000 in
theorem l_c15 {p : Program} {l : Launch} {e : Env} {s : State} {m : MethodId} {below : List Frame} {meth : Method} {c : Code} {b L : Nat} {xs : Nat → Int32} {D : va_G} {K : Nat → ClassId} {Lx Lm : Nat → Nat} {t0 : Nat} {Q : State → Prop} (C0 : lw_At p s m meth c b L xs) (F : lF Lx Lm s) (hK : va_K D vwCl (tyG K) s) (hE : lE t0 s) (hL : L ≤ 384) {i : Nat} (hi : i + 6 ≤ L) (kk : ∀ (wx wm : St) (H : Heap) (locs : List Loc) (ls : Array Slot), RR wx wm → lW D K Lx Lm s wx wm H locs → lv_has ls 4 [(0, .ref b), (1, .ref (Lx 0)), (2, .ref (Lm 0)), (3, .int (nI i))] → W p l e room_1 s m #[Value.ref b] below meth c H locs 93 1172 Q (F0 m 1027 ls [])) : ∀ (wx wm : St) (H : Heap) (locs : List Loc) (ls : Array Slot), RR wx wm → lW D K Lx Lm s wx wm H locs → lv_has ls 4 [(0, .ref b), (1, .ref (Lx 0)), (2, .ref (Lm 0)), (3, .int (nI i))] → W p l e room_1 s m #[Value.ref b] below meth c H locs 93 1172 Q (F0 m 549 ls []) := by
  obtain ⟨hx, hb, hr, hml, hown, hts0, hX, hbl, hlocks, hgv⟩ := id C0
  have hts : ∀ w ∈ wsL_law, w.before #[Value.ref b] s = true := fun w h => hts0 w (wsL_law_in w h)
  have hbA : ¬ lA s b := Nat.not_le.mpr hbl
  intro wx wm H locs ls hR hW hl
  refine lv_aload_n hx hb dL_law_549 rfl (lv_at hl 1 rfl) ?_
  refine lv_aload_n hx hb dL_law_550 rfl (lv_at hl 0 rfl) ?_
  refine lv_iload_n hx hb dL_law_551 rfl (lv_at hl 3 rfl) ?_
  refine lv_iconst (v := 1) hx hb dL_law_552 (by decide) ?_
  refine lv_iadd hx hb dL_law_553 ?_
  refine va_sld hx hb hX hbl hbA hW.2.2 (l_in (k := 1) hi hL (by decide)) dL_law_554 ?_
  refine lv_aload_n hx hb dL_law_555 rfl (lv_at hl 0 rfl) ?_
  refine lv_iload_n hx hb dL_law_556 rfl (lv_at hl 3 rfl) ?_
  refine lv_iconst (v := 2) hx hb dL_law_557 (by decide) ?_
  refine lv_iadd hx hb dL_law_558 ?_
  refine va_sld hx hb hX hbl hbA hW.2.2 (l_in (k := 2) hi hL (by decide)) dL_law_559 ?_
  refine lv_if_eq (tgt := 567) hx hb dL_law_560 (by decide) (fun c0 => ?_) (fun c0 => ?_)
  · refine lv_iconst (v := 0) hx hb dL_law_567 (by decide) ?_
    obtain ⟨r, wx2, wm2, h1, h2, hR⟩ := ca_naming hR ((xs (nI i + 1).toNatClampNeg)) 0
    refine l_xi (va_runV (As := [.int ((xs (nI i + 1).toNatClampNeg)), .int 0]) (rest := []) ⟨hx, hb, hml, hown, hts⟩ (kx_naming l (D := D) (K := K) (t0 := t0) F.1 ((xs (nI i + 1).toNatClampNeg)) 0 wx h1) (cwV 2 hts gL_law_X3_naming rfl rfl rfl (by decide +kernel) ⟨Nat.le_of_ble_eq_true rfl, Nat.le_of_ble_eq_true rfl⟩) (l_preX F hK hE hW) rfl rfl hl.1 rfl (lv_room (Nat.le_of_ble_eq_true rfl)) dL_law_568 ⟨Nat.le_of_ble_eq_true rfl, Nat.le_of_ble_eq_true rfl⟩) F hW (fun H locs hW => ?_)
    refine lv_aload_n hx hb dL_law_571 rfl (lv_at hl 2 rfl) ?_
    refine lv_aload_n hx hb dL_law_572 rfl (lv_at hl 0 rfl) ?_
    refine lv_iload_n hx hb dL_law_573 rfl (lv_at hl 3 rfl) ?_
    refine lv_iconst (v := 1) hx hb dL_law_574 (by decide) ?_
    refine lv_iadd hx hb dL_law_575 ?_
    refine va_sld hx hb hX hbl hbA hW.2.2 (l_in (k := 1) hi hL (by decide)) dL_law_576 ?_
    refine lv_aload_n hx hb dL_law_577 rfl (lv_at hl 0 rfl) ?_
    refine lv_iload_n hx hb dL_law_578 rfl (lv_at hl 3 rfl) ?_
    refine lv_iconst (v := 2) hx hb dL_law_579 (by decide) ?_
    refine lv_iadd hx hb dL_law_580 ?_
    refine va_sld hx hb hX hbl hbA hW.2.2 (l_in (k := 2) hi hL (by decide)) dL_law_581 ?_
    refine lv_if_eq (tgt := 589) hx hb dL_law_582 (by decide) (fun _ => ?_) (fun c9 => absurd c0 c9)
    refine lv_iconst (v := 0) hx hb dL_law_589 (by decide) ?_
    refine l_mi (va_runV (As := [.int ((xs (nI i + 1).toNatClampNeg)), .int 0]) (rest := [.int r]) ⟨hx, hb, hml, hown, hts⟩ (km_naming l (D := D) (K := K) F.2.1 ((xs (nI i + 1).toNatClampNeg)) 0 wm h2) (cwV 2 hts gL_law_X4_naming rfl rfl rfl (by decide +kernel) ⟨Nat.le_of_ble_eq_true rfl, Nat.le_of_ble_eq_true rfl⟩) (l_preM hK hW) rfl rfl hl.1 rfl (lv_room (Nat.le_of_ble_eq_true rfl)) dL_law_590 ⟨Nat.le_of_ble_eq_true rfl, Nat.le_of_ble_eq_true rfl⟩) F hW (fun H locs hW => ?_)
    refine lv_icmp_eq (tgt := 1027) hx hb dL_law_593 (by decide) (fun _ => ?_) (fun c9 => absurd rfl c9)
    exact kk _ _ _ _ _ hR hW hl
  · refine lv_iconst (v := 1) hx hb dL_law_563 (by decide) ?_
    refine lv_goto (tgt := 568) hx hb dL_law_564 (by decide) ?_
    obtain ⟨r, wx2, wm2, h1, h2, hR⟩ := ca_naming hR ((xs (nI i + 1).toNatClampNeg)) 1
    refine l_xi (va_runV (As := [.int ((xs (nI i + 1).toNatClampNeg)), .int 1]) (rest := []) ⟨hx, hb, hml, hown, hts⟩ (kx_naming l (D := D) (K := K) (t0 := t0) F.1 ((xs (nI i + 1).toNatClampNeg)) 1 wx h1) (cwV 2 hts gL_law_X3_naming rfl rfl rfl (by decide +kernel) ⟨Nat.le_of_ble_eq_true rfl, Nat.le_of_ble_eq_true rfl⟩) (l_preX F hK hE hW) rfl rfl hl.1 rfl (lv_room (Nat.le_of_ble_eq_true rfl)) dL_law_568 ⟨Nat.le_of_ble_eq_true rfl, Nat.le_of_ble_eq_true rfl⟩) F hW (fun H locs hW => ?_)
    refine lv_aload_n hx hb dL_law_571 rfl (lv_at hl 2 rfl) ?_
    refine lv_aload_n hx hb dL_law_572 rfl (lv_at hl 0 rfl) ?_
    refine lv_iload_n hx hb dL_law_573 rfl (lv_at hl 3 rfl) ?_
    refine lv_iconst (v := 1) hx hb dL_law_574 (by decide) ?_
    refine lv_iadd hx hb dL_law_575 ?_
    refine va_sld hx hb hX hbl hbA hW.2.2 (l_in (k := 1) hi hL (by decide)) dL_law_576 ?_
    refine lv_aload_n hx hb dL_law_577 rfl (lv_at hl 0 rfl) ?_
    refine lv_iload_n hx hb dL_law_578 rfl (lv_at hl 3 rfl) ?_
    refine lv_iconst (v := 2) hx hb dL_law_579 (by decide) ?_
    refine lv_iadd hx hb dL_law_580 ?_
    refine va_sld hx hb hX hbl hbA hW.2.2 (l_in (k := 2) hi hL (by decide)) dL_law_581 ?_
    refine lv_if_eq (tgt := 589) hx hb dL_law_582 (by decide) (fun c9 => absurd c9 c0) (fun _ => ?_)
    refine lv_iconst (v := 1) hx hb dL_law_585 (by decide) ?_
    refine lv_goto (tgt := 590) hx hb dL_law_586 (by decide) ?_
    refine l_mi (va_runV (As := [.int ((xs (nI i + 1).toNatClampNeg)), .int 1]) (rest := [.int r]) ⟨hx, hb, hml, hown, hts⟩ (km_naming l (D := D) (K := K) F.2.1 ((xs (nI i + 1).toNatClampNeg)) 1 wm h2) (cwV 2 hts gL_law_X4_naming rfl rfl rfl (by decide +kernel) ⟨Nat.le_of_ble_eq_true rfl, Nat.le_of_ble_eq_true rfl⟩) (l_preM hK hW) rfl rfl hl.1 rfl (lv_room (Nat.le_of_ble_eq_true rfl)) dL_law_590 ⟨Nat.le_of_ble_eq_true rfl, Nat.le_of_ble_eq_true rfl⟩) F hW (fun H locs hW => ?_)
    refine lv_icmp_eq (tgt := 1027) hx hb dL_law_593 (by decide) (fun _ => ?_) (fun c9 => absurd rfl c9)
    exact kk _ _ _ _ _ hR hW hl
set_option maxHeartbeats 4000000 in
set_option maxRecDepth 100000 in
theorem l_c16 {p : Program} {l : Launch} {e : Env} {s : State} {m : MethodId} {below : List Frame} {meth : Method} {c : Code} {b L : Nat} {xs : Nat → Int32} {D : va_G} {K : Nat → ClassId} {Lx Lm : Nat → Nat} {t0 : Nat} {Q : State → Prop} (C0 : lw_At p s m meth c b L xs) (F : lF Lx Lm s) (hK : va_K D vwCl (tyG K) s) (hE : lE t0 s) (hL : L ≤ 384) {i : Nat} (hi : i + 6 ≤ L) (kk : ∀ (wx wm : St) (H : Heap) (locs : List Loc) (ls : Array Slot), RR wx wm → lW D K Lx Lm s wx wm H locs → lv_has ls 4 [(0, .ref b), (1, .ref (Lx 0)), (2, .ref (Lm 0)), (3, .int (nI i))] → W p l e room_1 s m #[Value.ref b] below meth c H locs 93 1172 Q (F0 m 1027 ls [])) : ∀ (wx wm : St) (H : Heap) (locs : List Loc) (ls : Array Slot), RR wx wm → lW D K Lx Lm s wx wm H locs → lv_has ls 4 [(0, .ref b), (1, .ref (Lx 0)), (2, .ref (Lm 0)), (3, .int (nI i))] → W p l e room_1 s m #[Value.ref b] below meth c H locs 93 1172 Q (F0 m 598 ls []) := by
  obtain ⟨hx, hb, hr, hml, hown, hts0, hX, hbl, hlocks, hgv⟩ := id C0
  have hts : ∀ w ∈ wsL_law, w.before #[Value.ref b] s = true := fun w h => hts0 w (wsL_law_in w h)
  have hbA : ¬ lA s b := Nat.not_le.mpr hbl
  intro wx wm H locs ls hR hW hl
  refine lv_aload_n hx hb dL_law_598 rfl (lv_at hl 1 rfl) ?_
  refine lv_aload_n hx hb dL_law_599 rfl (lv_at hl 0 rfl) ?_
  refine lv_iload_n hx hb dL_law_600 rfl (lv_at hl 3 rfl) ?_
  refine lv_iconst (v := 1) hx hb dL_law_601 (by decide) ?_
  refine lv_iadd hx hb dL_law_602 ?_
  refine va_sld hx hb hX hbl hbA hW.2.2 (l_in (k := 1) hi hL (by decide)) dL_law_603 ?_
  refine lv_aload_n hx hb dL_law_604 rfl (lv_at hl 0 rfl) ?_
  refine lv_iload_n hx hb dL_law_605 rfl (lv_at hl 3 rfl) ?_
  refine lv_iconst (v := 2) hx hb dL_law_606 (by decide) ?_
  refine lv_iadd hx hb dL_law_607 ?_
  refine va_sld hx hb hX hbl hbA hW.2.2 (l_in (k := 2) hi hL (by decide)) dL_law_608 ?_
  refine lv_aload_n hx hb dL_law_609 rfl (lv_at hl 0 rfl) ?_
  refine lv_iload_n hx hb dL_law_610 rfl (lv_at hl 3 rfl) ?_
  refine lv_iconst (v := 3) hx hb dL_law_611 (by decide) ?_
  refine lv_iadd hx hb dL_law_612 ?_
  refine va_sld hx hb hX hbl hbA hW.2.2 (l_in (k := 3) hi hL (by decide)) dL_law_613 ?_
  obtain ⟨r, wx2, wm2, h1, h2, hR⟩ := ca_spoken hR ((xs (nI i + 1).toNatClampNeg)) ((xs (nI i + 2).toNatClampNeg)) ((xs (nI i + 3).toNatClampNeg))
  refine l_xi (va_runV (As := [.int ((xs (nI i + 1).toNatClampNeg)), .int ((xs (nI i + 2).toNatClampNeg)), .int ((xs (nI i + 3).toNatClampNeg))]) (rest := []) ⟨hx, hb, hml, hown, hts⟩ (kx_spoken l (D := D) (K := K) (t0 := t0) F.1 ((xs (nI i + 1).toNatClampNeg)) ((xs (nI i + 2).toNatClampNeg)) ((xs (nI i + 3).toNatClampNeg)) wx h1) (cwV 3 hts gL_law_X3_spoken rfl rfl rfl (by decide +kernel) ⟨Nat.le_of_ble_eq_true rfl, Nat.le_of_ble_eq_true rfl⟩) (l_preX F hK hE hW) rfl rfl hl.1 rfl (lv_room (Nat.le_of_ble_eq_true rfl)) dL_law_614 ⟨Nat.le_of_ble_eq_true rfl, Nat.le_of_ble_eq_true rfl⟩) F hW (fun H locs hW => ?_)
  refine lv_aload_n hx hb dL_law_617 rfl (lv_at hl 2 rfl) ?_
  refine lv_aload_n hx hb dL_law_618 rfl (lv_at hl 0 rfl) ?_
  refine lv_iload_n hx hb dL_law_619 rfl (lv_at hl 3 rfl) ?_
  refine lv_iconst (v := 1) hx hb dL_law_620 (by decide) ?_
  refine lv_iadd hx hb dL_law_621 ?_
  refine va_sld hx hb hX hbl hbA hW.2.2 (l_in (k := 1) hi hL (by decide)) dL_law_622 ?_
  refine lv_aload_n hx hb dL_law_623 rfl (lv_at hl 0 rfl) ?_
  refine lv_iload_n hx hb dL_law_624 rfl (lv_at hl 3 rfl) ?_
  refine lv_iconst (v := 2) hx hb dL_law_625 (by decide) ?_
  refine lv_iadd hx hb dL_law_626 ?_
  refine va_sld hx hb hX hbl hbA hW.2.2 (l_in (k := 2) hi hL (by decide)) dL_law_627 ?_
  refine lv_aload_n hx hb dL_law_628 rfl (lv_at hl 0 rfl) ?_
  refine lv_iload_n hx hb dL_law_629 rfl (lv_at hl 3 rfl) ?_
  refine lv_iconst (v := 3) hx hb dL_law_630 (by decide) ?_
  refine lv_iadd hx hb dL_law_631 ?_
  refine va_sld hx hb hX hbl hbA hW.2.2 (l_in (k := 3) hi hL (by decide)) dL_law_632 ?_
  refine l_mi (va_runV (As := [.int ((xs (nI i + 1).toNatClampNeg)), .int ((xs (nI i + 2).toNatClampNeg)), .int ((xs (nI i + 3).toNatClampNeg))]) (rest := [.int r]) ⟨hx, hb, hml, hown, hts⟩ (km_spoken l (D := D) (K := K) F.2.1 ((xs (nI i + 1).toNatClampNeg)) ((xs (nI i + 2).toNatClampNeg)) ((xs (nI i + 3).toNatClampNeg)) wm h2) (cwV 3 hts gL_law_X4_spoken rfl rfl rfl (by decide +kernel) ⟨Nat.le_of_ble_eq_true rfl, Nat.le_of_ble_eq_true rfl⟩) (l_preM hK hW) rfl rfl hl.1 rfl (lv_room (Nat.le_of_ble_eq_true rfl)) dL_law_633 ⟨Nat.le_of_ble_eq_true rfl, Nat.le_of_ble_eq_true rfl⟩) F hW (fun H locs hW => ?_)
  refine lv_icmp_eq (tgt := 1027) hx hb dL_law_636 (by decide) (fun _ => ?_) (fun c9 => absurd rfl c9)
  exact kk _ _ _ _ _ hR hW hl
set_option maxHeartbeats 4000000 in
set_option maxRecDepth 100000 in
theorem l_c17 {p : Program} {l : Launch} {e : Env} {s : State} {m : MethodId} {below : List Frame} {meth : Method} {c : Code} {b L : Nat} {xs : Nat → Int32} {D : va_G} {K : Nat → ClassId} {Lx Lm : Nat → Nat} {t0 : Nat} {Q : State → Prop} (C0 : lw_At p s m meth c b L xs) (F : lF Lx Lm s) (hK : va_K D vwCl (tyG K) s) (hE : lE t0 s) (hL : L ≤ 384) {i : Nat} (hi : i + 6 ≤ L) (kk : ∀ (wx wm : St) (H : Heap) (locs : List Loc) (ls : Array Slot), RR wx wm → lW D K Lx Lm s wx wm H locs → lv_has ls 4 [(0, .ref b), (1, .ref (Lx 0)), (2, .ref (Lm 0)), (3, .int (nI i))] → W p l e room_1 s m #[Value.ref b] below meth c H locs 93 1172 Q (F0 m 1027 ls [])) : ∀ (wx wm : St) (H : Heap) (locs : List Loc) (ls : Array Slot), RR wx wm → lW D K Lx Lm s wx wm H locs → lv_has ls 4 [(0, .ref b), (1, .ref (Lx 0)), (2, .ref (Lm 0)), (3, .int (nI i))] → W p l e room_1 s m #[Value.ref b] below meth c H locs 93 1172 Q (F0 m 641 ls []) := by
  obtain ⟨hx, hb, hr, hml, hown, hts0, hX, hbl, hlocks, hgv⟩ := id C0
  have hts : ∀ w ∈ wsL_law, w.before #[Value.ref b] s = true := fun w h => hts0 w (wsL_law_in w h)
  have hbA : ¬ lA s b := Nat.not_le.mpr hbl
  intro wx wm H locs ls hR hW hl
  refine lv_aload_n hx hb dL_law_641 rfl (lv_at hl 1 rfl) ?_
  refine lv_aload_n hx hb dL_law_642 rfl (lv_at hl 0 rfl) ?_
  refine lv_iload_n hx hb dL_law_643 rfl (lv_at hl 3 rfl) ?_
  refine lv_iconst (v := 1) hx hb dL_law_644 (by decide) ?_
  refine lv_iadd hx hb dL_law_645 ?_
  refine va_sld hx hb hX hbl hbA hW.2.2 (l_in (k := 1) hi hL (by decide)) dL_law_646 ?_
  refine lv_aload_n hx hb dL_law_647 rfl (lv_at hl 0 rfl) ?_
  refine lv_iload_n hx hb dL_law_648 rfl (lv_at hl 3 rfl) ?_
  refine lv_iconst (v := 2) hx hb dL_law_649 (by decide) ?_
  refine lv_iadd hx hb dL_law_650 ?_
  refine va_sld hx hb hX hbl hbA hW.2.2 (l_in (k := 2) hi hL (by decide)) dL_law_651 ?_
  refine lv_aload_n hx hb dL_law_652 rfl (lv_at hl 0 rfl) ?_
  refine lv_iload_n hx hb dL_law_653 rfl (lv_at hl 3 rfl) ?_
  refine lv_iconst (v := 3) hx hb dL_law_654 (by decide) ?_
  refine lv_iadd hx hb dL_law_655 ?_
  refine va_sld hx hb hX hbl hbA hW.2.2 (l_in (k := 3) hi hL (by decide)) dL_law_656 ?_
  refine lv_if_eq (tgt := 664) hx hb dL_law_657 (by decide) (fun c0 => ?_) (fun c0 => ?_)
  · refine lv_iconst (v := 0) hx hb dL_law_664 (by decide) ?_
    obtain ⟨r, wx2, wm2, h1, h2, hR⟩ := ca_quarrel hR ((xs (nI i + 1).toNatClampNeg)) ((xs (nI i + 2).toNatClampNeg)) 0
    refine l_xi (va_runV (As := [.int ((xs (nI i + 1).toNatClampNeg)), .int ((xs (nI i + 2).toNatClampNeg)), .int 0]) (rest := []) ⟨hx, hb, hml, hown, hts⟩ (kx_quarrel l (D := D) (K := K) (t0 := t0) F.1 ((xs (nI i + 1).toNatClampNeg)) ((xs (nI i + 2).toNatClampNeg)) 0 wx h1) (cwV 3 hts gL_law_X3_quarrel rfl rfl rfl (by decide +kernel) ⟨Nat.le_of_ble_eq_true rfl, Nat.le_of_ble_eq_true rfl⟩) (l_preX F hK hE hW) rfl rfl hl.1 rfl (lv_room (Nat.le_of_ble_eq_true rfl)) dL_law_665 ⟨Nat.le_of_ble_eq_true rfl, Nat.le_of_ble_eq_true rfl⟩) F hW (fun H locs hW => ?_)
    refine lv_aload_n hx hb dL_law_668 rfl (lv_at hl 2 rfl) ?_
    refine lv_aload_n hx hb dL_law_669 rfl (lv_at hl 0 rfl) ?_
    refine lv_iload_n hx hb dL_law_670 rfl (lv_at hl 3 rfl) ?_
    refine lv_iconst (v := 1) hx hb dL_law_671 (by decide) ?_
    refine lv_iadd hx hb dL_law_672 ?_
    refine va_sld hx hb hX hbl hbA hW.2.2 (l_in (k := 1) hi hL (by decide)) dL_law_673 ?_
    refine lv_aload_n hx hb dL_law_674 rfl (lv_at hl 0 rfl) ?_
    refine lv_iload_n hx hb dL_law_675 rfl (lv_at hl 3 rfl) ?_
    refine lv_iconst (v := 2) hx hb dL_law_676 (by decide) ?_
    refine lv_iadd hx hb dL_law_677 ?_
    refine va_sld hx hb hX hbl hbA hW.2.2 (l_in (k := 2) hi hL (by decide)) dL_law_678 ?_
    refine lv_aload_n hx hb dL_law_679 rfl (lv_at hl 0 rfl) ?_
    refine lv_iload_n hx hb dL_law_680 rfl (lv_at hl 3 rfl) ?_
    refine lv_iconst (v := 3) hx hb dL_law_681 (by decide) ?_
    refine lv_iadd hx hb dL_law_682 ?_
    refine va_sld hx hb hX hbl hbA hW.2.2 (l_in (k := 3) hi hL (by decide)) dL_law_683 ?_
    refine lv_if_eq (tgt := 691) hx hb dL_law_684 (by decide) (fun _ => ?_) (fun c9 => absurd c0 c9)
    refine lv_iconst (v := 0) hx hb dL_law_691 (by decide) ?_
    refine l_mi (va_runV (As := [.int ((xs (nI i + 1).toNatClampNeg)), .int ((xs (nI i + 2).toNatClampNeg)), .int 0]) (rest := [.int r]) ⟨hx, hb, hml, hown, hts⟩ (km_quarrel l (D := D) (K := K) F.2.1 ((xs (nI i + 1).toNatClampNeg)) ((xs (nI i + 2).toNatClampNeg)) 0 wm h2) (cwV 3 hts gL_law_X4_quarrel rfl rfl rfl (by decide +kernel) ⟨Nat.le_of_ble_eq_true rfl, Nat.le_of_ble_eq_true rfl⟩) (l_preM hK hW) rfl rfl hl.1 rfl (lv_room (Nat.le_of_ble_eq_true rfl)) dL_law_692 ⟨Nat.le_of_ble_eq_true rfl, Nat.le_of_ble_eq_true rfl⟩) F hW (fun H locs hW => ?_)
    refine lv_icmp_eq (tgt := 1027) hx hb dL_law_695 (by decide) (fun _ => ?_) (fun c9 => absurd rfl c9)
    exact kk _ _ _ _ _ hR hW hl
  · refine lv_iconst (v := 1) hx hb dL_law_660 (by decide) ?_
    refine lv_goto (tgt := 665) hx hb dL_law_661 (by decide) ?_
    obtain ⟨r, wx2, wm2, h1, h2, hR⟩ := ca_quarrel hR ((xs (nI i + 1).toNatClampNeg)) ((xs (nI i + 2).toNatClampNeg)) 1
    refine l_xi (va_runV (As := [.int ((xs (nI i + 1).toNatClampNeg)), .int ((xs (nI i + 2).toNatClampNeg)), .int 1]) (rest := []) ⟨hx, hb, hml, hown, hts⟩ (kx_quarrel l (D := D) (K := K) (t0 := t0) F.1 ((xs (nI i + 1).toNatClampNeg)) ((xs (nI i + 2).toNatClampNeg)) 1 wx h1) (cwV 3 hts gL_law_X3_quarrel rfl rfl rfl (by decide +kernel) ⟨Nat.le_of_ble_eq_true rfl, Nat.le_of_ble_eq_true rfl⟩) (l_preX F hK hE hW) rfl rfl hl.1 rfl (lv_room (Nat.le_of_ble_eq_true rfl)) dL_law_665 ⟨Nat.le_of_ble_eq_true rfl, Nat.le_of_ble_eq_true rfl⟩) F hW (fun H locs hW => ?_)
    refine lv_aload_n hx hb dL_law_668 rfl (lv_at hl 2 rfl) ?_
    refine lv_aload_n hx hb dL_law_669 rfl (lv_at hl 0 rfl) ?_
    refine lv_iload_n hx hb dL_law_670 rfl (lv_at hl 3 rfl) ?_
    refine lv_iconst (v := 1) hx hb dL_law_671 (by decide) ?_
    refine lv_iadd hx hb dL_law_672 ?_
    refine va_sld hx hb hX hbl hbA hW.2.2 (l_in (k := 1) hi hL (by decide)) dL_law_673 ?_
    refine lv_aload_n hx hb dL_law_674 rfl (lv_at hl 0 rfl) ?_
    refine lv_iload_n hx hb dL_law_675 rfl (lv_at hl 3 rfl) ?_
    refine lv_iconst (v := 2) hx hb dL_law_676 (by decide) ?_
    refine lv_iadd hx hb dL_law_677 ?_
    refine va_sld hx hb hX hbl hbA hW.2.2 (l_in (k := 2) hi hL (by decide)) dL_law_678 ?_
    refine lv_aload_n hx hb dL_law_679 rfl (lv_at hl 0 rfl) ?_
    refine lv_iload_n hx hb dL_law_680 rfl (lv_at hl 3 rfl) ?_
    refine lv_iconst (v := 3) hx hb dL_law_681 (by decide) ?_
    refine lv_iadd hx hb dL_law_682 ?_
    refine va_sld hx hb hX hbl hbA hW.2.2 (l_in (k := 3) hi hL (by decide)) dL_law_683 ?_
    refine lv_if_eq (tgt := 691) hx hb dL_law_684 (by decide) (fun c9 => absurd c9 c0) (fun _ => ?_)
    refine lv_iconst (v := 1) hx hb dL_law_687 (by decide) ?_
    refine lv_goto (tgt := 692) hx hb dL_law_688 (by decide) ?_
    refine l_mi (va_runV (As := [.int ((xs (nI i + 1).toNatClampNeg)), .int ((xs (nI i + 2).toNatClampNeg)), .int 1]) (rest := [.int r]) ⟨hx, hb, hml, hown, hts⟩ (km_quarrel l (D := D) (K := K) F.2.1 ((xs (nI i + 1).toNatClampNeg)) ((xs (nI i + 2).toNatClampNeg)) 1 wm h2) (cwV 3 hts gL_law_X4_quarrel rfl rfl rfl (by decide +kernel) ⟨Nat.le_of_ble_eq_true rfl, Nat.le_of_ble_eq_true rfl⟩) (l_preM hK hW) rfl rfl hl.1 rfl (lv_room (Nat.le_of_ble_eq_true rfl)) dL_law_692 ⟨Nat.le_of_ble_eq_true rfl, Nat.le_of_ble_eq_true rfl⟩) F hW (fun H locs hW => ?_)
    refine lv_icmp_eq (tgt := 1027) hx hb dL_law_695 (by decide) (fun _ => ?_) (fun c9 => absurd rfl c9)
    exact kk _ _ _ _ _ hR hW hl
set_option maxHeartbeats 4000000 in
set_option maxRecDepth 100000 in
theorem l_c18 {p : Program} {l : Launch} {e : Env} {s : State} {m : MethodId} {below : List Frame} {meth : Method} {c : Code} {b L : Nat} {xs : Nat → Int32} {D : va_G} {K : Nat → ClassId} {Lx Lm : Nat → Nat} {t0 : Nat} {Q : State → Prop} (C0 : lw_At p s m meth c b L xs) (F : lF Lx Lm s) (hK : va_K D vwCl (tyG K) s) (hE : lE t0 s) (hL : L ≤ 384) {i : Nat} (hi : i + 6 ≤ L) (kk : ∀ (wx wm : St) (H : Heap) (locs : List Loc) (ls : Array Slot), RR wx wm → lW D K Lx Lm s wx wm H locs → lv_has ls 4 [(0, .ref b), (1, .ref (Lx 0)), (2, .ref (Lm 0)), (3, .int (nI i))] → W p l e room_1 s m #[Value.ref b] below meth c H locs 93 1172 Q (F0 m 1027 ls [])) : ∀ (wx wm : St) (H : Heap) (locs : List Loc) (ls : Array Slot), RR wx wm → lW D K Lx Lm s wx wm H locs → lv_has ls 4 [(0, .ref b), (1, .ref (Lx 0)), (2, .ref (Lm 0)), (3, .int (nI i))] → W p l e room_1 s m #[Value.ref b] below meth c H locs 93 1172 Q (F0 m 700 ls []) := by
  obtain ⟨hx, hb, hr, hml, hown, hts0, hX, hbl, hlocks, hgv⟩ := id C0
  have hts : ∀ w ∈ wsL_law, w.before #[Value.ref b] s = true := fun w h => hts0 w (wsL_law_in w h)
  have hbA : ¬ lA s b := Nat.not_le.mpr hbl
  intro wx wm H locs ls hR hW hl
  refine lv_aload_n hx hb dL_law_700 rfl (lv_at hl 1 rfl) ?_
  refine lv_aload_n hx hb dL_law_701 rfl (lv_at hl 0 rfl) ?_
  refine lv_iload_n hx hb dL_law_702 rfl (lv_at hl 3 rfl) ?_
  refine lv_iconst (v := 1) hx hb dL_law_703 (by decide) ?_
  refine lv_iadd hx hb dL_law_704 ?_
  refine va_sld hx hb hX hbl hbA hW.2.2 (l_in (k := 1) hi hL (by decide)) dL_law_705 ?_
  refine lv_aload_n hx hb dL_law_706 rfl (lv_at hl 0 rfl) ?_
  refine lv_iload_n hx hb dL_law_707 rfl (lv_at hl 3 rfl) ?_
  refine lv_iconst (v := 2) hx hb dL_law_708 (by decide) ?_
  refine lv_iadd hx hb dL_law_709 ?_
  refine va_sld hx hb hX hbl hbA hW.2.2 (l_in (k := 2) hi hL (by decide)) dL_law_710 ?_
  refine lv_aload_n hx hb dL_law_711 rfl (lv_at hl 0 rfl) ?_
  refine lv_iload_n hx hb dL_law_712 rfl (lv_at hl 3 rfl) ?_
  refine lv_iconst (v := 3) hx hb dL_law_713 (by decide) ?_
  refine lv_iadd hx hb dL_law_714 ?_
  refine va_sld hx hb hX hbl hbA hW.2.2 (l_in (k := 3) hi hL (by decide)) dL_law_715 ?_
  refine lv_if_eq (tgt := 723) hx hb dL_law_716 (by decide) (fun c0 => ?_) (fun c0 => ?_)
  · refine lv_iconst (v := 0) hx hb dL_law_723 (by decide) ?_
    obtain ⟨r, wx2, wm2, h1, h2, hR⟩ := ca_share hR ((xs (nI i + 1).toNatClampNeg)) ((xs (nI i + 2).toNatClampNeg)) 0
    refine l_xi (va_runV (As := [.int ((xs (nI i + 1).toNatClampNeg)), .int ((xs (nI i + 2).toNatClampNeg)), .int 0]) (rest := []) ⟨hx, hb, hml, hown, hts⟩ (kx_share l (D := D) (K := K) (t0 := t0) F.1 ((xs (nI i + 1).toNatClampNeg)) ((xs (nI i + 2).toNatClampNeg)) 0 wx h1) (cwV 3 hts gL_law_X3_share rfl rfl rfl (by decide +kernel) ⟨Nat.le_of_ble_eq_true rfl, Nat.le_of_ble_eq_true rfl⟩) (l_preX F hK hE hW) rfl rfl hl.1 rfl (lv_room (Nat.le_of_ble_eq_true rfl)) dL_law_724 ⟨Nat.le_of_ble_eq_true rfl, Nat.le_of_ble_eq_true rfl⟩) F hW (fun H locs hW => ?_)
    refine lv_aload_n hx hb dL_law_727 rfl (lv_at hl 2 rfl) ?_
    refine lv_aload_n hx hb dL_law_728 rfl (lv_at hl 0 rfl) ?_
    refine lv_iload_n hx hb dL_law_729 rfl (lv_at hl 3 rfl) ?_
    refine lv_iconst (v := 1) hx hb dL_law_730 (by decide) ?_
    refine lv_iadd hx hb dL_law_731 ?_
    refine va_sld hx hb hX hbl hbA hW.2.2 (l_in (k := 1) hi hL (by decide)) dL_law_732 ?_
    refine lv_aload_n hx hb dL_law_733 rfl (lv_at hl 0 rfl) ?_
    refine lv_iload_n hx hb dL_law_734 rfl (lv_at hl 3 rfl) ?_
    refine lv_iconst (v := 2) hx hb dL_law_735 (by decide) ?_
    refine lv_iadd hx hb dL_law_736 ?_
    refine va_sld hx hb hX hbl hbA hW.2.2 (l_in (k := 2) hi hL (by decide)) dL_law_737 ?_
    refine lv_aload_n hx hb dL_law_738 rfl (lv_at hl 0 rfl) ?_
    refine lv_iload_n hx hb dL_law_739 rfl (lv_at hl 3 rfl) ?_
    refine lv_iconst (v := 3) hx hb dL_law_740 (by decide) ?_
    refine lv_iadd hx hb dL_law_741 ?_
    refine va_sld hx hb hX hbl hbA hW.2.2 (l_in (k := 3) hi hL (by decide)) dL_law_742 ?_
    refine lv_if_eq (tgt := 750) hx hb dL_law_743 (by decide) (fun _ => ?_) (fun c9 => absurd c0 c9)
    refine lv_iconst (v := 0) hx hb dL_law_750 (by decide) ?_
    refine l_mi (va_runV (As := [.int ((xs (nI i + 1).toNatClampNeg)), .int ((xs (nI i + 2).toNatClampNeg)), .int 0]) (rest := [.int r]) ⟨hx, hb, hml, hown, hts⟩ (km_share l (D := D) (K := K) F.2.1 ((xs (nI i + 1).toNatClampNeg)) ((xs (nI i + 2).toNatClampNeg)) 0 wm h2) (cwV 3 hts gL_law_X4_share rfl rfl rfl (by decide +kernel) ⟨Nat.le_of_ble_eq_true rfl, Nat.le_of_ble_eq_true rfl⟩) (l_preM hK hW) rfl rfl hl.1 rfl (lv_room (Nat.le_of_ble_eq_true rfl)) dL_law_751 ⟨Nat.le_of_ble_eq_true rfl, Nat.le_of_ble_eq_true rfl⟩) F hW (fun H locs hW => ?_)
    refine lv_icmp_eq (tgt := 1027) hx hb dL_law_754 (by decide) (fun _ => ?_) (fun c9 => absurd rfl c9)
    exact kk _ _ _ _ _ hR hW hl
  · refine lv_iconst (v := 1) hx hb dL_law_719 (by decide) ?_
    refine lv_goto (tgt := 724) hx hb dL_law_720 (by decide) ?_
    obtain ⟨r, wx2, wm2, h1, h2, hR⟩ := ca_share hR ((xs (nI i + 1).toNatClampNeg)) ((xs (nI i + 2).toNatClampNeg)) 1
    refine l_xi (va_runV (As := [.int ((xs (nI i + 1).toNatClampNeg)), .int ((xs (nI i + 2).toNatClampNeg)), .int 1]) (rest := []) ⟨hx, hb, hml, hown, hts⟩ (kx_share l (D := D) (K := K) (t0 := t0) F.1 ((xs (nI i + 1).toNatClampNeg)) ((xs (nI i + 2).toNatClampNeg)) 1 wx h1) (cwV 3 hts gL_law_X3_share rfl rfl rfl (by decide +kernel) ⟨Nat.le_of_ble_eq_true rfl, Nat.le_of_ble_eq_true rfl⟩) (l_preX F hK hE hW) rfl rfl hl.1 rfl (lv_room (Nat.le_of_ble_eq_true rfl)) dL_law_724 ⟨Nat.le_of_ble_eq_true rfl, Nat.le_of_ble_eq_true rfl⟩) F hW (fun H locs hW => ?_)
    refine lv_aload_n hx hb dL_law_727 rfl (lv_at hl 2 rfl) ?_
    refine lv_aload_n hx hb dL_law_728 rfl (lv_at hl 0 rfl) ?_
    refine lv_iload_n hx hb dL_law_729 rfl (lv_at hl 3 rfl) ?_
    refine lv_iconst (v := 1) hx hb dL_law_730 (by decide) ?_
    refine lv_iadd hx hb dL_law_731 ?_
    refine va_sld hx hb hX hbl hbA hW.2.2 (l_in (k := 1) hi hL (by decide)) dL_law_732 ?_
    refine lv_aload_n hx hb dL_law_733 rfl (lv_at hl 0 rfl) ?_
    refine lv_iload_n hx hb dL_law_734 rfl (lv_at hl 3 rfl) ?_
    refine lv_iconst (v := 2) hx hb dL_law_735 (by decide) ?_
    refine lv_iadd hx hb dL_law_736 ?_
    refine va_sld hx hb hX hbl hbA hW.2.2 (l_in (k := 2) hi hL (by decide)) dL_law_737 ?_
    refine lv_aload_n hx hb dL_law_738 rfl (lv_at hl 0 rfl) ?_
    refine lv_iload_n hx hb dL_law_739 rfl (lv_at hl 3 rfl) ?_
    refine lv_iconst (v := 3) hx hb dL_law_740 (by decide) ?_
    refine lv_iadd hx hb dL_law_741 ?_
    refine va_sld hx hb hX hbl hbA hW.2.2 (l_in (k := 3) hi hL (by decide)) dL_law_742 ?_
    refine lv_if_eq (tgt := 750) hx hb dL_law_743 (by decide) (fun c9 => absurd c9 c0) (fun _ => ?_)
    refine lv_iconst (v := 1) hx hb dL_law_746 (by decide) ?_
    refine lv_goto (tgt := 751) hx hb dL_law_747 (by decide) ?_
    refine l_mi (va_runV (As := [.int ((xs (nI i + 1).toNatClampNeg)), .int ((xs (nI i + 2).toNatClampNeg)), .int 1]) (rest := [.int r]) ⟨hx, hb, hml, hown, hts⟩ (km_share l (D := D) (K := K) F.2.1 ((xs (nI i + 1).toNatClampNeg)) ((xs (nI i + 2).toNatClampNeg)) 1 wm h2) (cwV 3 hts gL_law_X4_share rfl rfl rfl (by decide +kernel) ⟨Nat.le_of_ble_eq_true rfl, Nat.le_of_ble_eq_true rfl⟩) (l_preM hK hW) rfl rfl hl.1 rfl (lv_room (Nat.le_of_ble_eq_true rfl)) dL_law_751 ⟨Nat.le_of_ble_eq_true rfl, Nat.le_of_ble_eq_true rfl⟩) F hW (fun H locs hW => ?_)
    refine lv_icmp_eq (tgt := 1027) hx hb dL_law_754 (by decide) (fun _ => ?_) (fun c9 => absurd rfl c9)
    exact kk _ _ _ _ _ hR hW hl
set_option maxHeartbeats 4000000 in
set_option maxRecDepth 100000 in
theorem l_c19 {p : Program} {l : Launch} {e : Env} {s : State} {m : MethodId} {below : List Frame} {meth : Method} {c : Code} {b L : Nat} {xs : Nat → Int32} {D : va_G} {K : Nat → ClassId} {Lx Lm : Nat → Nat} {t0 : Nat} {Q : State → Prop} (C0 : lw_At p s m meth c b L xs) (F : lF Lx Lm s) (hK : va_K D vwCl (tyG K) s) (hE : lE t0 s) (hL : L ≤ 384) {i : Nat} (hi : i + 6 ≤ L) (kk : ∀ (wx wm : St) (H : Heap) (locs : List Loc) (ls : Array Slot), RR wx wm → lW D K Lx Lm s wx wm H locs → lv_has ls 4 [(0, .ref b), (1, .ref (Lx 0)), (2, .ref (Lm 0)), (3, .int (nI i))] → W p l e room_1 s m #[Value.ref b] below meth c H locs 93 1172 Q (F0 m 1027 ls [])) : ∀ (wx wm : St) (H : Heap) (locs : List Loc) (ls : Array Slot), RR wx wm → lW D K Lx Lm s wx wm H locs → lv_has ls 4 [(0, .ref b), (1, .ref (Lx 0)), (2, .ref (Lm 0)), (3, .int (nI i))] → W p l e room_1 s m #[Value.ref b] below meth c H locs 93 1172 Q (F0 m 759 ls []) := by
  obtain ⟨hx, hb, hr, hml, hown, hts0, hX, hbl, hlocks, hgv⟩ := id C0
  have hts : ∀ w ∈ wsL_law, w.before #[Value.ref b] s = true := fun w h => hts0 w (wsL_law_in w h)
  have hbA : ¬ lA s b := Nat.not_le.mpr hbl
  intro wx wm H locs ls hR hW hl
  refine lv_aload_n hx hb dL_law_759 rfl (lv_at hl 1 rfl) ?_
  refine lv_aload_n hx hb dL_law_760 rfl (lv_at hl 0 rfl) ?_
  refine lv_iload_n hx hb dL_law_761 rfl (lv_at hl 3 rfl) ?_
  refine lv_iconst (v := 1) hx hb dL_law_762 (by decide) ?_
  refine lv_iadd hx hb dL_law_763 ?_
  refine va_sld hx hb hX hbl hbA hW.2.2 (l_in (k := 1) hi hL (by decide)) dL_law_764 ?_
  refine lv_aload_n hx hb dL_law_765 rfl (lv_at hl 0 rfl) ?_
  refine lv_iload_n hx hb dL_law_766 rfl (lv_at hl 3 rfl) ?_
  refine lv_iconst (v := 2) hx hb dL_law_767 (by decide) ?_
  refine lv_iadd hx hb dL_law_768 ?_
  refine va_sld hx hb hX hbl hbA hW.2.2 (l_in (k := 2) hi hL (by decide)) dL_law_769 ?_
  refine lv_aload_n hx hb dL_law_770 rfl (lv_at hl 0 rfl) ?_
  refine lv_iload_n hx hb dL_law_771 rfl (lv_at hl 3 rfl) ?_
  refine lv_iconst (v := 3) hx hb dL_law_772 (by decide) ?_
  refine lv_iadd hx hb dL_law_773 ?_
  refine va_sld hx hb hX hbl hbA hW.2.2 (l_in (k := 3) hi hL (by decide)) dL_law_774 ?_
  refine lv_aload_n hx hb dL_law_775 rfl (lv_at hl 0 rfl) ?_
  refine lv_iload_n hx hb dL_law_776 rfl (lv_at hl 3 rfl) ?_
  refine lv_iconst (v := 4) hx hb dL_law_777 (by decide) ?_
  refine lv_iadd hx hb dL_law_778 ?_
  refine va_sld hx hb hX hbl hbA hW.2.2 (l_in (k := 4) hi hL (by decide)) dL_law_779 ?_
  refine lv_aload_n hx hb dL_law_780 rfl (lv_at hl 0 rfl) ?_
  refine lv_iload_n hx hb dL_law_781 rfl (lv_at hl 3 rfl) ?_
  refine lv_iconst (v := 5) hx hb dL_law_782 (by decide) ?_
  refine lv_iadd hx hb dL_law_783 ?_
  refine va_sld hx hb hX hbl hbA hW.2.2 (l_in (k := 5) hi hL (by decide)) dL_law_784 ?_
  obtain ⟨r, wx2, wm2, h1, h2, hR⟩ := ca_rests hR ((xs (nI i + 1).toNatClampNeg)) ((xs (nI i + 2).toNatClampNeg)) ((xs (nI i + 3).toNatClampNeg)) ((xs (nI i + 4).toNatClampNeg)) ((xs (nI i + 5).toNatClampNeg))
  refine l_xi (va_runV (As := [.int ((xs (nI i + 1).toNatClampNeg)), .int ((xs (nI i + 2).toNatClampNeg)), .int ((xs (nI i + 3).toNatClampNeg)), .int ((xs (nI i + 4).toNatClampNeg)), .int ((xs (nI i + 5).toNatClampNeg))]) (rest := []) ⟨hx, hb, hml, hown, hts⟩ (kx_rests l (D := D) (K := K) (t0 := t0) F.1 ((xs (nI i + 1).toNatClampNeg)) ((xs (nI i + 2).toNatClampNeg)) ((xs (nI i + 3).toNatClampNeg)) ((xs (nI i + 4).toNatClampNeg)) ((xs (nI i + 5).toNatClampNeg)) wx h1) (cwV 5 hts gL_law_X3_rests rfl rfl rfl (by decide +kernel) ⟨Nat.le_of_ble_eq_true rfl, Nat.le_of_ble_eq_true rfl⟩) (l_preX F hK hE hW) rfl rfl hl.1 rfl (lv_room (Nat.le_of_ble_eq_true rfl)) dL_law_785 ⟨Nat.le_of_ble_eq_true rfl, Nat.le_of_ble_eq_true rfl⟩) F hW (fun H locs hW => ?_)
  refine lv_aload_n hx hb dL_law_788 rfl (lv_at hl 2 rfl) ?_
  refine lv_aload_n hx hb dL_law_789 rfl (lv_at hl 0 rfl) ?_
  refine lv_iload_n hx hb dL_law_790 rfl (lv_at hl 3 rfl) ?_
  refine lv_iconst (v := 1) hx hb dL_law_791 (by decide) ?_
  refine lv_iadd hx hb dL_law_792 ?_
  refine va_sld hx hb hX hbl hbA hW.2.2 (l_in (k := 1) hi hL (by decide)) dL_law_793 ?_
  refine lv_aload_n hx hb dL_law_794 rfl (lv_at hl 0 rfl) ?_
  refine lv_iload_n hx hb dL_law_795 rfl (lv_at hl 3 rfl) ?_
  refine lv_iconst (v := 2) hx hb dL_law_796 (by decide) ?_
  refine lv_iadd hx hb dL_law_797 ?_
  refine va_sld hx hb hX hbl hbA hW.2.2 (l_in (k := 2) hi hL (by decide)) dL_law_798 ?_
  refine lv_aload_n hx hb dL_law_799 rfl (lv_at hl 0 rfl) ?_
  refine lv_iload_n hx hb dL_law_800 rfl (lv_at hl 3 rfl) ?_
  refine lv_iconst (v := 3) hx hb dL_law_801 (by decide) ?_
  refine lv_iadd hx hb dL_law_802 ?_
  refine va_sld hx hb hX hbl hbA hW.2.2 (l_in (k := 3) hi hL (by decide)) dL_law_803 ?_
  refine lv_aload_n hx hb dL_law_804 rfl (lv_at hl 0 rfl) ?_
  refine lv_iload_n hx hb dL_law_805 rfl (lv_at hl 3 rfl) ?_
  refine lv_iconst (v := 4) hx hb dL_law_806 (by decide) ?_
  refine lv_iadd hx hb dL_law_807 ?_
  refine va_sld hx hb hX hbl hbA hW.2.2 (l_in (k := 4) hi hL (by decide)) dL_law_808 ?_
  refine lv_aload_n hx hb dL_law_809 rfl (lv_at hl 0 rfl) ?_
  refine lv_iload_n hx hb dL_law_810 rfl (lv_at hl 3 rfl) ?_
  refine lv_iconst (v := 5) hx hb dL_law_811 (by decide) ?_
  refine lv_iadd hx hb dL_law_812 ?_
  refine va_sld hx hb hX hbl hbA hW.2.2 (l_in (k := 5) hi hL (by decide)) dL_law_813 ?_
  refine l_mi (va_runV (As := [.int ((xs (nI i + 1).toNatClampNeg)), .int ((xs (nI i + 2).toNatClampNeg)), .int ((xs (nI i + 3).toNatClampNeg)), .int ((xs (nI i + 4).toNatClampNeg)), .int ((xs (nI i + 5).toNatClampNeg))]) (rest := [.int r]) ⟨hx, hb, hml, hown, hts⟩ (km_rests l (D := D) (K := K) F.2.1 ((xs (nI i + 1).toNatClampNeg)) ((xs (nI i + 2).toNatClampNeg)) ((xs (nI i + 3).toNatClampNeg)) ((xs (nI i + 4).toNatClampNeg)) ((xs (nI i + 5).toNatClampNeg)) wm h2) (cwV 5 hts gL_law_X4_rests rfl rfl rfl (by decide +kernel) ⟨Nat.le_of_ble_eq_true rfl, Nat.le_of_ble_eq_true rfl⟩) (l_preM hK hW) rfl rfl hl.1 rfl (lv_room (Nat.le_of_ble_eq_true rfl)) dL_law_814 ⟨Nat.le_of_ble_eq_true rfl, Nat.le_of_ble_eq_true rfl⟩) F hW (fun H locs hW => ?_)
  refine lv_icmp_eq (tgt := 1027) hx hb dL_law_817 (by decide) (fun _ => ?_) (fun c9 => absurd rfl c9)
  exact kk _ _ _ _ _ hR hW hl
set_option maxHeartbeats 4000000 in
set_option maxRecDepth 100000 in
theorem l_c20 {p : Program} {l : Launch} {e : Env} {s : State} {m : MethodId} {below : List Frame} {meth : Method} {c : Code} {b L : Nat} {xs : Nat → Int32} {D : va_G} {K : Nat → ClassId} {Lx Lm : Nat → Nat} {t0 : Nat} {Q : State → Prop} (C0 : lw_At p s m meth c b L xs) (F : lF Lx Lm s) (hK : va_K D vwCl (tyG K) s) (hE : lE t0 s) (hL : L ≤ 384) {i : Nat} (hi : i + 6 ≤ L) (kk : ∀ (wx wm : St) (H : Heap) (locs : List Loc) (ls : Array Slot), RR wx wm → lW D K Lx Lm s wx wm H locs → lv_has ls 4 [(0, .ref b), (1, .ref (Lx 0)), (2, .ref (Lm 0)), (3, .int (nI i))] → W p l e room_1 s m #[Value.ref b] below meth c H locs 93 1172 Q (F0 m 1027 ls [])) : ∀ (wx wm : St) (H : Heap) (locs : List Loc) (ls : Array Slot), RR wx wm → lW D K Lx Lm s wx wm H locs → lv_has ls 4 [(0, .ref b), (1, .ref (Lx 0)), (2, .ref (Lm 0)), (3, .int (nI i))] → W p l e room_1 s m #[Value.ref b] below meth c H locs 93 1172 Q (F0 m 822 ls []) := by
  obtain ⟨hx, hb, hr, hml, hown, hts0, hX, hbl, hlocks, hgv⟩ := id C0
  have hts : ∀ w ∈ wsL_law, w.before #[Value.ref b] s = true := fun w h => hts0 w (wsL_law_in w h)
  have hbA : ¬ lA s b := Nat.not_le.mpr hbl
  intro wx wm H locs ls hR hW hl
  refine lv_aload_n hx hb dL_law_822 rfl (lv_at hl 1 rfl) ?_
  refine lv_aload_n hx hb dL_law_823 rfl (lv_at hl 0 rfl) ?_
  refine lv_iload_n hx hb dL_law_824 rfl (lv_at hl 3 rfl) ?_
  refine lv_iconst (v := 1) hx hb dL_law_825 (by decide) ?_
  refine lv_iadd hx hb dL_law_826 ?_
  refine va_sld hx hb hX hbl hbA hW.2.2 (l_in (k := 1) hi hL (by decide)) dL_law_827 ?_
  refine lv_aload_n hx hb dL_law_828 rfl (lv_at hl 0 rfl) ?_
  refine lv_iload_n hx hb dL_law_829 rfl (lv_at hl 3 rfl) ?_
  refine lv_iconst (v := 2) hx hb dL_law_830 (by decide) ?_
  refine lv_iadd hx hb dL_law_831 ?_
  refine va_sld hx hb hX hbl hbA hW.2.2 (l_in (k := 2) hi hL (by decide)) dL_law_832 ?_
  refine lv_aload_n hx hb dL_law_833 rfl (lv_at hl 0 rfl) ?_
  refine lv_iload_n hx hb dL_law_834 rfl (lv_at hl 3 rfl) ?_
  refine lv_iconst (v := 3) hx hb dL_law_835 (by decide) ?_
  refine lv_iadd hx hb dL_law_836 ?_
  refine va_sld hx hb hX hbl hbA hW.2.2 (l_in (k := 3) hi hL (by decide)) dL_law_837 ?_
  refine lv_if_eq (tgt := 845) hx hb dL_law_838 (by decide) (fun c0 => ?_) (fun c0 => ?_)
  · refine lv_iconst (v := 0) hx hb dL_law_845 (by decide) ?_
    obtain ⟨r, wx2, wm2, h1, h2, hR⟩ := ca_chance hR ((xs (nI i + 1).toNatClampNeg)) ((xs (nI i + 2).toNatClampNeg)) 0
    refine l_xi (va_runV (As := [.int ((xs (nI i + 1).toNatClampNeg)), .int ((xs (nI i + 2).toNatClampNeg)), .int 0]) (rest := []) ⟨hx, hb, hml, hown, hts⟩ (kx_chance l (D := D) (K := K) (t0 := t0) F.1 ((xs (nI i + 1).toNatClampNeg)) ((xs (nI i + 2).toNatClampNeg)) 0 wx h1) (cwV 3 hts gL_law_X3_chance rfl rfl rfl (by decide +kernel) ⟨Nat.le_of_ble_eq_true rfl, Nat.le_of_ble_eq_true rfl⟩) (l_preX F hK hE hW) rfl rfl hl.1 rfl (lv_room (Nat.le_of_ble_eq_true rfl)) dL_law_846 ⟨Nat.le_of_ble_eq_true rfl, Nat.le_of_ble_eq_true rfl⟩) F hW (fun H locs hW => ?_)
    refine lv_aload_n hx hb dL_law_849 rfl (lv_at hl 2 rfl) ?_
    refine lv_aload_n hx hb dL_law_850 rfl (lv_at hl 0 rfl) ?_
    refine lv_iload_n hx hb dL_law_851 rfl (lv_at hl 3 rfl) ?_
    refine lv_iconst (v := 1) hx hb dL_law_852 (by decide) ?_
    refine lv_iadd hx hb dL_law_853 ?_
    refine va_sld hx hb hX hbl hbA hW.2.2 (l_in (k := 1) hi hL (by decide)) dL_law_854 ?_
    refine lv_aload_n hx hb dL_law_855 rfl (lv_at hl 0 rfl) ?_
    refine lv_iload_n hx hb dL_law_856 rfl (lv_at hl 3 rfl) ?_
    refine lv_iconst (v := 2) hx hb dL_law_857 (by decide) ?_
    refine lv_iadd hx hb dL_law_858 ?_
    refine va_sld hx hb hX hbl hbA hW.2.2 (l_in (k := 2) hi hL (by decide)) dL_law_859 ?_
    refine lv_aload_n hx hb dL_law_860 rfl (lv_at hl 0 rfl) ?_
    refine lv_iload_n hx hb dL_law_861 rfl (lv_at hl 3 rfl) ?_
    refine lv_iconst (v := 3) hx hb dL_law_862 (by decide) ?_
    refine lv_iadd hx hb dL_law_863 ?_
    refine va_sld hx hb hX hbl hbA hW.2.2 (l_in (k := 3) hi hL (by decide)) dL_law_864 ?_
    refine lv_if_eq (tgt := 872) hx hb dL_law_865 (by decide) (fun _ => ?_) (fun c9 => absurd c0 c9)
    refine lv_iconst (v := 0) hx hb dL_law_872 (by decide) ?_
    refine l_mi (va_runV (As := [.int ((xs (nI i + 1).toNatClampNeg)), .int ((xs (nI i + 2).toNatClampNeg)), .int 0]) (rest := [.int r]) ⟨hx, hb, hml, hown, hts⟩ (km_chance l (D := D) (K := K) F.2.1 ((xs (nI i + 1).toNatClampNeg)) ((xs (nI i + 2).toNatClampNeg)) 0 wm h2) (cwV 3 hts gL_law_X4_chance rfl rfl rfl (by decide +kernel) ⟨Nat.le_of_ble_eq_true rfl, Nat.le_of_ble_eq_true rfl⟩) (l_preM hK hW) rfl rfl hl.1 rfl (lv_room (Nat.le_of_ble_eq_true rfl)) dL_law_873 ⟨Nat.le_of_ble_eq_true rfl, Nat.le_of_ble_eq_true rfl⟩) F hW (fun H locs hW => ?_)
    refine lv_icmp_eq (tgt := 1027) hx hb dL_law_876 (by decide) (fun _ => ?_) (fun c9 => absurd rfl c9)
    exact kk _ _ _ _ _ hR hW hl
  · refine lv_iconst (v := 1) hx hb dL_law_841 (by decide) ?_
    refine lv_goto (tgt := 846) hx hb dL_law_842 (by decide) ?_
    obtain ⟨r, wx2, wm2, h1, h2, hR⟩ := ca_chance hR ((xs (nI i + 1).toNatClampNeg)) ((xs (nI i + 2).toNatClampNeg)) 1
    refine l_xi (va_runV (As := [.int ((xs (nI i + 1).toNatClampNeg)), .int ((xs (nI i + 2).toNatClampNeg)), .int 1]) (rest := []) ⟨hx, hb, hml, hown, hts⟩ (kx_chance l (D := D) (K := K) (t0 := t0) F.1 ((xs (nI i + 1).toNatClampNeg)) ((xs (nI i + 2).toNatClampNeg)) 1 wx h1) (cwV 3 hts gL_law_X3_chance rfl rfl rfl (by decide +kernel) ⟨Nat.le_of_ble_eq_true rfl, Nat.le_of_ble_eq_true rfl⟩) (l_preX F hK hE hW) rfl rfl hl.1 rfl (lv_room (Nat.le_of_ble_eq_true rfl)) dL_law_846 ⟨Nat.le_of_ble_eq_true rfl, Nat.le_of_ble_eq_true rfl⟩) F hW (fun H locs hW => ?_)
    refine lv_aload_n hx hb dL_law_849 rfl (lv_at hl 2 rfl) ?_
    refine lv_aload_n hx hb dL_law_850 rfl (lv_at hl 0 rfl) ?_
    refine lv_iload_n hx hb dL_law_851 rfl (lv_at hl 3 rfl) ?_
    refine lv_iconst (v := 1) hx hb dL_law_852 (by decide) ?_
    refine lv_iadd hx hb dL_law_853 ?_
    refine va_sld hx hb hX hbl hbA hW.2.2 (l_in (k := 1) hi hL (by decide)) dL_law_854 ?_
    refine lv_aload_n hx hb dL_law_855 rfl (lv_at hl 0 rfl) ?_
    refine lv_iload_n hx hb dL_law_856 rfl (lv_at hl 3 rfl) ?_
    refine lv_iconst (v := 2) hx hb dL_law_857 (by decide) ?_
    refine lv_iadd hx hb dL_law_858 ?_
    refine va_sld hx hb hX hbl hbA hW.2.2 (l_in (k := 2) hi hL (by decide)) dL_law_859 ?_
    refine lv_aload_n hx hb dL_law_860 rfl (lv_at hl 0 rfl) ?_
    refine lv_iload_n hx hb dL_law_861 rfl (lv_at hl 3 rfl) ?_
    refine lv_iconst (v := 3) hx hb dL_law_862 (by decide) ?_
    refine lv_iadd hx hb dL_law_863 ?_
    refine va_sld hx hb hX hbl hbA hW.2.2 (l_in (k := 3) hi hL (by decide)) dL_law_864 ?_
    refine lv_if_eq (tgt := 872) hx hb dL_law_865 (by decide) (fun c9 => absurd c9 c0) (fun _ => ?_)
    refine lv_iconst (v := 1) hx hb dL_law_868 (by decide) ?_
    refine lv_goto (tgt := 873) hx hb dL_law_869 (by decide) ?_
    refine l_mi (va_runV (As := [.int ((xs (nI i + 1).toNatClampNeg)), .int ((xs (nI i + 2).toNatClampNeg)), .int 1]) (rest := [.int r]) ⟨hx, hb, hml, hown, hts⟩ (km_chance l (D := D) (K := K) F.2.1 ((xs (nI i + 1).toNatClampNeg)) ((xs (nI i + 2).toNatClampNeg)) 1 wm h2) (cwV 3 hts gL_law_X4_chance rfl rfl rfl (by decide +kernel) ⟨Nat.le_of_ble_eq_true rfl, Nat.le_of_ble_eq_true rfl⟩) (l_preM hK hW) rfl rfl hl.1 rfl (lv_room (Nat.le_of_ble_eq_true rfl)) dL_law_873 ⟨Nat.le_of_ble_eq_true rfl, Nat.le_of_ble_eq_true rfl⟩) F hW (fun H locs hW => ?_)
    refine lv_icmp_eq (tgt := 1027) hx hb dL_law_876 (by decide) (fun _ => ?_) (fun c9 => absurd rfl c9)
    exact kk _ _ _ _ _ hR hW hl
set_option maxHeartbeats 4000000 in
set_option maxRecDepth 100000 in
theorem l_c21 {p : Program} {l : Launch} {e : Env} {s : State} {m : MethodId} {below : List Frame} {meth : Method} {c : Code} {b L : Nat} {xs : Nat → Int32} {D : va_G} {K : Nat → ClassId} {Lx Lm : Nat → Nat} {t0 : Nat} {Q : State → Prop} (C0 : lw_At p s m meth c b L xs) (F : lF Lx Lm s) (hK : va_K D vwCl (tyG K) s) (hE : lE t0 s) (hL : L ≤ 384) {i : Nat} (hi : i + 6 ≤ L) (kk : ∀ (wx wm : St) (H : Heap) (locs : List Loc) (ls : Array Slot), RR wx wm → lW D K Lx Lm s wx wm H locs → lv_has ls 4 [(0, .ref b), (1, .ref (Lx 0)), (2, .ref (Lm 0)), (3, .int (nI i))] → W p l e room_1 s m #[Value.ref b] below meth c H locs 93 1172 Q (F0 m 1027 ls [])) : ∀ (wx wm : St) (H : Heap) (locs : List Loc) (ls : Array Slot), RR wx wm → lW D K Lx Lm s wx wm H locs → lv_has ls 4 [(0, .ref b), (1, .ref (Lx 0)), (2, .ref (Lm 0)), (3, .int (nI i))] → W p l e room_1 s m #[Value.ref b] below meth c H locs 93 1172 Q (F0 m 881 ls []) := by
  obtain ⟨hx, hb, hr, hml, hown, hts0, hX, hbl, hlocks, hgv⟩ := id C0
  have hts : ∀ w ∈ wsL_law, w.before #[Value.ref b] s = true := fun w h => hts0 w (wsL_law_in w h)
  have hbA : ¬ lA s b := Nat.not_le.mpr hbl
  intro wx wm H locs ls hR hW hl
  refine lv_aload_n hx hb dL_law_881 rfl (lv_at hl 1 rfl) ?_
  refine lv_aload_n hx hb dL_law_882 rfl (lv_at hl 0 rfl) ?_
  refine lv_iload_n hx hb dL_law_883 rfl (lv_at hl 3 rfl) ?_
  refine lv_iconst (v := 1) hx hb dL_law_884 (by decide) ?_
  refine lv_iadd hx hb dL_law_885 ?_
  refine va_sld hx hb hX hbl hbA hW.2.2 (l_in (k := 1) hi hL (by decide)) dL_law_886 ?_
  refine lv_i2l (v := (xs (nI i + 1).toNatClampNeg).toInt64) hx hb dL_law_887 rfl ?_
  refine lv_bipush (v := 32) hx hb dL_law_888 (by decide) ?_
  refine lv_lshl (v := lshl ((xs (nI i + 1).toNatClampNeg).toInt64) 32) hx hb dL_law_890 rfl ?_
  refine lv_aload_n hx hb dL_law_891 rfl (lv_at hl 0 rfl) ?_
  refine lv_iload_n hx hb dL_law_892 rfl (lv_at hl 3 rfl) ?_
  refine lv_iconst (v := 2) hx hb dL_law_893 (by decide) ?_
  refine lv_iadd hx hb dL_law_894 ?_
  refine va_sld hx hb hX hbl hbA hW.2.2 (l_in (k := 2) hi hL (by decide)) dL_law_895 ?_
  refine lv_i2l (v := (xs (nI i + 2).toNatClampNeg).toInt64) hx hb dL_law_896 rfl ?_
  refine lv_ldc2 (v := 4294967295) hx hb hown (hts (.constantLong RL 104 4294967295) (by decide +kernel)) dL_law_897 ?_
  refine lv_land hx hb dL_law_900 ?_
  refine lv_lor hx hb dL_law_901 ?_
  obtain ⟨r, wx2, wm2, h1, h2, hR⟩ := ca_seed hR (((lshl ((xs (nI i + 1).toNatClampNeg).toInt64) 32) ||| ((xs (nI i + 2).toNatClampNeg).toInt64 &&& 4294967295)))
  refine l_xl (va_runV (As := [.long (((lshl ((xs (nI i + 1).toNatClampNeg).toInt64) 32) ||| ((xs (nI i + 2).toNatClampNeg).toInt64 &&& 4294967295)))]) (rest := []) ⟨hx, hb, hml, hown, hts⟩ (kx_seed l (D := D) (K := K) (t0 := t0) F.1 (((lshl ((xs (nI i + 1).toNatClampNeg).toInt64) 32) ||| ((xs (nI i + 2).toNatClampNeg).toInt64 &&& 4294967295))) wx h1) (cwV 1 hts gL_law_X3_seed rfl rfl rfl (by decide +kernel) ⟨Nat.le_of_ble_eq_true rfl, Nat.le_of_ble_eq_true rfl⟩) (l_preX F hK hE hW) rfl rfl hl.1 rfl (lv_room (Nat.le_of_ble_eq_true rfl)) dL_law_902 ⟨Nat.le_of_ble_eq_true rfl, Nat.le_of_ble_eq_true rfl⟩) F hW (fun H locs hW => ?_)
  refine lv_aload_n hx hb dL_law_905 rfl (lv_at hl 2 rfl) ?_
  refine lv_aload_n hx hb dL_law_906 rfl (lv_at hl 0 rfl) ?_
  refine lv_iload_n hx hb dL_law_907 rfl (lv_at hl 3 rfl) ?_
  refine lv_iconst (v := 1) hx hb dL_law_908 (by decide) ?_
  refine lv_iadd hx hb dL_law_909 ?_
  refine va_sld hx hb hX hbl hbA hW.2.2 (l_in (k := 1) hi hL (by decide)) dL_law_910 ?_
  refine lv_i2l (v := (xs (nI i + 1).toNatClampNeg).toInt64) hx hb dL_law_911 rfl ?_
  refine lv_bipush (v := 32) hx hb dL_law_912 (by decide) ?_
  refine lv_lshl (v := lshl ((xs (nI i + 1).toNatClampNeg).toInt64) 32) hx hb dL_law_914 rfl ?_
  refine lv_aload_n hx hb dL_law_915 rfl (lv_at hl 0 rfl) ?_
  refine lv_iload_n hx hb dL_law_916 rfl (lv_at hl 3 rfl) ?_
  refine lv_iconst (v := 2) hx hb dL_law_917 (by decide) ?_
  refine lv_iadd hx hb dL_law_918 ?_
  refine va_sld hx hb hX hbl hbA hW.2.2 (l_in (k := 2) hi hL (by decide)) dL_law_919 ?_
  refine lv_i2l (v := (xs (nI i + 2).toNatClampNeg).toInt64) hx hb dL_law_920 rfl ?_
  refine lv_ldc2 (v := 4294967295) hx hb hown (hts (.constantLong RL 104 4294967295) (by decide +kernel)) dL_law_921 ?_
  refine lv_land hx hb dL_law_924 ?_
  refine lv_lor hx hb dL_law_925 ?_
  refine l_ml (va_runV (As := [.long (((lshl ((xs (nI i + 1).toNatClampNeg).toInt64) 32) ||| ((xs (nI i + 2).toNatClampNeg).toInt64 &&& 4294967295)))]) (rest := [.long r]) ⟨hx, hb, hml, hown, hts⟩ (km_seed l (D := D) (K := K) F.2.1 (((lshl ((xs (nI i + 1).toNatClampNeg).toInt64) 32) ||| ((xs (nI i + 2).toNatClampNeg).toInt64 &&& 4294967295))) wm h2) (cwV 1 hts gL_law_X4_seed rfl rfl rfl (by decide +kernel) ⟨Nat.le_of_ble_eq_true rfl, Nat.le_of_ble_eq_true rfl⟩) (l_preM hK hW) rfl rfl hl.1 rfl (lv_room (Nat.le_of_ble_eq_true rfl)) dL_law_926 ⟨Nat.le_of_ble_eq_true rfl, Nat.le_of_ble_eq_true rfl⟩) F hW (fun H locs hW => ?_)
  refine W.lcmp hx hb dL_law_929 ?_
  refine lv_if_eq (tgt := 1027) hx hb dL_law_930 (by decide) (fun _ => ?_) (fun c9 => absurd (by simp [lg_cmp]) c9)
  exact kk _ _ _ _ _ hR hW hl
set_option maxHeartbeats 4000000 in
set_option maxRecDepth 100000 in
theorem l_c22 {p : Program} {l : Launch} {e : Env} {s : State} {m : MethodId} {below : List Frame} {meth : Method} {c : Code} {b L : Nat} {xs : Nat → Int32} {D : va_G} {K : Nat → ClassId} {Lx Lm : Nat → Nat} {t0 : Nat} {Q : State → Prop} (C0 : lw_At p s m meth c b L xs) (F : lF Lx Lm s) (hK : va_K D vwCl (tyG K) s) (hE : lE t0 s) (hL : L ≤ 384) {i : Nat} (hi : i + 6 ≤ L) (kk : ∀ (wx wm : St) (H : Heap) (locs : List Loc) (ls : Array Slot), RR wx wm → lW D K Lx Lm s wx wm H locs → lv_has ls 4 [(0, .ref b), (1, .ref (Lx 0)), (2, .ref (Lm 0)), (3, .int (nI i))] → W p l e room_1 s m #[Value.ref b] below meth c H locs 93 1172 Q (F0 m 1027 ls [])) : ∀ (wx wm : St) (H : Heap) (locs : List Loc) (ls : Array Slot), RR wx wm → lW D K Lx Lm s wx wm H locs → lv_has ls 4 [(0, .ref b), (1, .ref (Lx 0)), (2, .ref (Lm 0)), (3, .int (nI i))] → W p l e room_1 s m #[Value.ref b] below meth c H locs 93 1172 Q (F0 m 935 ls []) := by
  obtain ⟨hx, hb, hr, hml, hown, hts0, hX, hbl, hlocks, hgv⟩ := id C0
  have hts : ∀ w ∈ wsL_law, w.before #[Value.ref b] s = true := fun w h => hts0 w (wsL_law_in w h)
  have hbA : ¬ lA s b := Nat.not_le.mpr hbl
  intro wx wm H locs ls hR hW hl
  refine lv_aload_n hx hb dL_law_935 rfl (lv_at hl 1 rfl) ?_
  refine lv_aload_n hx hb dL_law_936 rfl (lv_at hl 0 rfl) ?_
  refine lv_iload_n hx hb dL_law_937 rfl (lv_at hl 3 rfl) ?_
  refine lv_iconst (v := 1) hx hb dL_law_938 (by decide) ?_
  refine lv_iadd hx hb dL_law_939 ?_
  refine va_sld hx hb hX hbl hbA hW.2.2 (l_in (k := 1) hi hL (by decide)) dL_law_940 ?_
  obtain ⟨r, wx2, wm2, h1, h2, hR⟩ := ca_nights hR ((xs (nI i + 1).toNatClampNeg))
  refine l_xi (va_runV (As := [.int ((xs (nI i + 1).toNatClampNeg))]) (rest := []) ⟨hx, hb, hml, hown, hts⟩ (kx_nights l (D := D) (K := K) (t0 := t0) F.1 ((xs (nI i + 1).toNatClampNeg)) wx h1) (cwV 1 hts gL_law_X3_nights rfl rfl rfl (by decide +kernel) ⟨Nat.le_of_ble_eq_true rfl, Nat.le_of_ble_eq_true rfl⟩) (l_preX F hK hE hW) rfl rfl hl.1 rfl (lv_room (Nat.le_of_ble_eq_true rfl)) dL_law_941 ⟨Nat.le_of_ble_eq_true rfl, Nat.le_of_ble_eq_true rfl⟩) F hW (fun H locs hW => ?_)
  refine lv_aload_n hx hb dL_law_944 rfl (lv_at hl 2 rfl) ?_
  refine lv_aload_n hx hb dL_law_945 rfl (lv_at hl 0 rfl) ?_
  refine lv_iload_n hx hb dL_law_946 rfl (lv_at hl 3 rfl) ?_
  refine lv_iconst (v := 1) hx hb dL_law_947 (by decide) ?_
  refine lv_iadd hx hb dL_law_948 ?_
  refine va_sld hx hb hX hbl hbA hW.2.2 (l_in (k := 1) hi hL (by decide)) dL_law_949 ?_
  refine l_mi (va_runV (As := [.int ((xs (nI i + 1).toNatClampNeg))]) (rest := [.int r]) ⟨hx, hb, hml, hown, hts⟩ (km_nights l (D := D) (K := K) F.2.1 ((xs (nI i + 1).toNatClampNeg)) wm h2) (cwV 1 hts gL_law_X4_nights rfl rfl rfl (by decide +kernel) ⟨Nat.le_of_ble_eq_true rfl, Nat.le_of_ble_eq_true rfl⟩) (l_preM hK hW) rfl rfl hl.1 rfl (lv_room (Nat.le_of_ble_eq_true rfl)) dL_law_950 ⟨Nat.le_of_ble_eq_true rfl, Nat.le_of_ble_eq_true rfl⟩) F hW (fun H locs hW => ?_)
  refine lv_icmp_eq (tgt := 1027) hx hb dL_law_953 (by decide) (fun _ => ?_) (fun c9 => absurd rfl c9)
  exact kk _ _ _ _ _ hR hW hl
set_option maxHeartbeats 4000000 in
set_option maxRecDepth 100000 in
theorem l_c23 {p : Program} {l : Launch} {e : Env} {s : State} {m : MethodId} {below : List Frame} {meth : Method} {c : Code} {b L : Nat} {xs : Nat → Int32} {D : va_G} {K : Nat → ClassId} {Lx Lm : Nat → Nat} {t0 : Nat} {Q : State → Prop} (C0 : lw_At p s m meth c b L xs) (F : lF Lx Lm s) (hK : va_K D vwCl (tyG K) s) (hE : lE t0 s) (hL : L ≤ 384) {i : Nat} (hi : i + 6 ≤ L) (kk : ∀ (wx wm : St) (H : Heap) (locs : List Loc) (ls : Array Slot), RR wx wm → lW D K Lx Lm s wx wm H locs → lv_has ls 4 [(0, .ref b), (1, .ref (Lx 0)), (2, .ref (Lm 0)), (3, .int (nI i))] → W p l e room_1 s m #[Value.ref b] below meth c H locs 93 1172 Q (F0 m 1027 ls [])) : ∀ (wx wm : St) (H : Heap) (locs : List Loc) (ls : Array Slot), RR wx wm → lW D K Lx Lm s wx wm H locs → lv_has ls 4 [(0, .ref b), (1, .ref (Lx 0)), (2, .ref (Lm 0)), (3, .int (nI i))] → W p l e room_1 s m #[Value.ref b] below meth c H locs 93 1172 Q (F0 m 958 ls []) := by
  obtain ⟨hx, hb, hr, hml, hown, hts0, hX, hbl, hlocks, hgv⟩ := id C0
  have hts : ∀ w ∈ wsL_law, w.before #[Value.ref b] s = true := fun w h => hts0 w (wsL_law_in w h)
  have hbA : ¬ lA s b := Nat.not_le.mpr hbl
  intro wx wm H locs ls hR hW hl
  refine lv_aload_n hx hb dL_law_958 rfl (lv_at hl 1 rfl) ?_
  refine lv_aload_n hx hb dL_law_959 rfl (lv_at hl 0 rfl) ?_
  refine lv_iload_n hx hb dL_law_960 rfl (lv_at hl 3 rfl) ?_
  refine lv_iconst (v := 1) hx hb dL_law_961 (by decide) ?_
  refine lv_iadd hx hb dL_law_962 ?_
  refine va_sld hx hb hX hbl hbA hW.2.2 (l_in (k := 1) hi hL (by decide)) dL_law_963 ?_
  obtain ⟨r, wx2, wm2, h1, h2, hR⟩ := ca_keep hR ((xs (nI i + 1).toNatClampNeg))
  refine l_xi (va_runV (As := [.int ((xs (nI i + 1).toNatClampNeg))]) (rest := []) ⟨hx, hb, hml, hown, hts⟩ (kx_keep l (D := D) (K := K) (t0 := t0) F.1 ((xs (nI i + 1).toNatClampNeg)) wx h1) (cwV 1 hts gL_law_X3_keep rfl rfl rfl (by decide +kernel) ⟨Nat.le_of_ble_eq_true rfl, Nat.le_of_ble_eq_true rfl⟩) (l_preX F hK hE hW) rfl rfl hl.1 rfl (lv_room (Nat.le_of_ble_eq_true rfl)) dL_law_964 ⟨Nat.le_of_ble_eq_true rfl, Nat.le_of_ble_eq_true rfl⟩) F hW (fun H locs hW => ?_)
  refine lv_aload_n hx hb dL_law_967 rfl (lv_at hl 2 rfl) ?_
  refine lv_aload_n hx hb dL_law_968 rfl (lv_at hl 0 rfl) ?_
  refine lv_iload_n hx hb dL_law_969 rfl (lv_at hl 3 rfl) ?_
  refine lv_iconst (v := 1) hx hb dL_law_970 (by decide) ?_
  refine lv_iadd hx hb dL_law_971 ?_
  refine va_sld hx hb hX hbl hbA hW.2.2 (l_in (k := 1) hi hL (by decide)) dL_law_972 ?_
  refine l_mi (va_runV (As := [.int ((xs (nI i + 1).toNatClampNeg))]) (rest := [.int r]) ⟨hx, hb, hml, hown, hts⟩ (km_keep l (D := D) (K := K) F.2.1 ((xs (nI i + 1).toNatClampNeg)) wm h2) (cwV 1 hts gL_law_X4_keep rfl rfl rfl (by decide +kernel) ⟨Nat.le_of_ble_eq_true rfl, Nat.le_of_ble_eq_true rfl⟩) (l_preM hK hW) rfl rfl hl.1 rfl (lv_room (Nat.le_of_ble_eq_true rfl)) dL_law_973 ⟨Nat.le_of_ble_eq_true rfl, Nat.le_of_ble_eq_true rfl⟩) F hW (fun H locs hW => ?_)
  refine lv_icmp_eq (tgt := 1027) hx hb dL_law_976 (by decide) (fun _ => ?_) (fun c9 => absurd rfl c9)
  exact kk _ _ _ _ _ hR hW hl
set_option maxHeartbeats 4000000 in
set_option maxRecDepth 100000 in
theorem l_c24 {p : Program} {l : Launch} {e : Env} {s : State} {m : MethodId} {below : List Frame} {meth : Method} {c : Code} {b L : Nat} {xs : Nat → Int32} {D : va_G} {K : Nat → ClassId} {Lx Lm : Nat → Nat} {t0 : Nat} {Q : State → Prop} (C0 : lw_At p s m meth c b L xs) (F : lF Lx Lm s) (hK : va_K D vwCl (tyG K) s) (hE : lE t0 s) (hL : L ≤ 384) {i : Nat} (hi : i + 6 ≤ L) (kk : ∀ (wx wm : St) (H : Heap) (locs : List Loc) (ls : Array Slot), RR wx wm → lW D K Lx Lm s wx wm H locs → lv_has ls 4 [(0, .ref b), (1, .ref (Lx 0)), (2, .ref (Lm 0)), (3, .int (nI i))] → W p l e room_1 s m #[Value.ref b] below meth c H locs 93 1172 Q (F0 m 1027 ls [])) : ∀ (wx wm : St) (H : Heap) (locs : List Loc) (ls : Array Slot), RR wx wm → lW D K Lx Lm s wx wm H locs → lv_has ls 4 [(0, .ref b), (1, .ref (Lx 0)), (2, .ref (Lm 0)), (3, .int (nI i))] → W p l e room_1 s m #[Value.ref b] below meth c H locs 93 1172 Q (F0 m 981 ls []) := by
  obtain ⟨hx, hb, hr, hml, hown, hts0, hX, hbl, hlocks, hgv⟩ := id C0
  have hts : ∀ w ∈ wsL_law, w.before #[Value.ref b] s = true := fun w h => hts0 w (wsL_law_in w h)
  have hbA : ¬ lA s b := Nat.not_le.mpr hbl
  intro wx wm H locs ls hR hW hl
  refine lv_aload_n hx hb dL_law_981 rfl (lv_at hl 1 rfl) ?_
  refine lv_aload_n hx hb dL_law_982 rfl (lv_at hl 0 rfl) ?_
  refine lv_iload_n hx hb dL_law_983 rfl (lv_at hl 3 rfl) ?_
  refine lv_iconst (v := 1) hx hb dL_law_984 (by decide) ?_
  refine lv_iadd hx hb dL_law_985 ?_
  refine va_sld hx hb hX hbl hbA hW.2.2 (l_in (k := 1) hi hL (by decide)) dL_law_986 ?_
  obtain ⟨r, wx2, wm2, h1, h2, hR⟩ := ca_again hR ((xs (nI i + 1).toNatClampNeg))
  refine l_xi (va_runV (As := [.int ((xs (nI i + 1).toNatClampNeg))]) (rest := []) ⟨hx, hb, hml, hown, hts⟩ (kx_again l (D := D) (K := K) (t0 := t0) F.1 ((xs (nI i + 1).toNatClampNeg)) wx h1) (cwV 1 hts gL_law_X3_again rfl rfl rfl (by decide +kernel) ⟨Nat.le_of_ble_eq_true rfl, Nat.le_of_ble_eq_true rfl⟩) (l_preX F hK hE hW) rfl rfl hl.1 rfl (lv_room (Nat.le_of_ble_eq_true rfl)) dL_law_987 ⟨Nat.le_of_ble_eq_true rfl, Nat.le_of_ble_eq_true rfl⟩) F hW (fun H locs hW => ?_)
  refine lv_aload_n hx hb dL_law_990 rfl (lv_at hl 2 rfl) ?_
  refine lv_aload_n hx hb dL_law_991 rfl (lv_at hl 0 rfl) ?_
  refine lv_iload_n hx hb dL_law_992 rfl (lv_at hl 3 rfl) ?_
  refine lv_iconst (v := 1) hx hb dL_law_993 (by decide) ?_
  refine lv_iadd hx hb dL_law_994 ?_
  refine va_sld hx hb hX hbl hbA hW.2.2 (l_in (k := 1) hi hL (by decide)) dL_law_995 ?_
  refine l_mi (va_runV (As := [.int ((xs (nI i + 1).toNatClampNeg))]) (rest := [.int r]) ⟨hx, hb, hml, hown, hts⟩ (km_again l (D := D) (K := K) F.2.1 ((xs (nI i + 1).toNatClampNeg)) wm h2) (cwV 1 hts gL_law_X4_again rfl rfl rfl (by decide +kernel) ⟨Nat.le_of_ble_eq_true rfl, Nat.le_of_ble_eq_true rfl⟩) (l_preM hK hW) rfl rfl hl.1 rfl (lv_room (Nat.le_of_ble_eq_true rfl)) dL_law_996 ⟨Nat.le_of_ble_eq_true rfl, Nat.le_of_ble_eq_true rfl⟩) F hW (fun H locs hW => ?_)
  refine lv_icmp_eq (tgt := 1027) hx hb dL_law_999 (by decide) (fun _ => ?_) (fun c9 => absurd rfl c9)
  exact kk _ _ _ _ _ hR hW hl
set_option maxHeartbeats 4000000 in
set_option maxRecDepth 100000 in
theorem l_c25 {p : Program} {l : Launch} {e : Env} {s : State} {m : MethodId} {below : List Frame} {meth : Method} {c : Code} {b L : Nat} {xs : Nat → Int32} {D : va_G} {K : Nat → ClassId} {Lx Lm : Nat → Nat} {t0 : Nat} {Q : State → Prop} (C0 : lw_At p s m meth c b L xs) (F : lF Lx Lm s) (hK : va_K D vwCl (tyG K) s) (hE : lE t0 s) (hL : L ≤ 384) {i : Nat} (hi : i + 6 ≤ L) (kk : ∀ (wx wm : St) (H : Heap) (locs : List Loc) (ls : Array Slot), RR wx wm → lW D K Lx Lm s wx wm H locs → lv_has ls 4 [(0, .ref b), (1, .ref (Lx 0)), (2, .ref (Lm 0)), (3, .int (nI i))] → W p l e room_1 s m #[Value.ref b] below meth c H locs 93 1172 Q (F0 m 1027 ls [])) : ∀ (wx wm : St) (H : Heap) (locs : List Loc) (ls : Array Slot), RR wx wm → lW D K Lx Lm s wx wm H locs → lv_has ls 4 [(0, .ref b), (1, .ref (Lx 0)), (2, .ref (Lm 0)), (3, .int (nI i))] → W p l e room_1 s m #[Value.ref b] below meth c H locs 93 1172 Q (F0 m 1004 ls []) := by
  obtain ⟨hx, hb, hr, hml, hown, hts0, hX, hbl, hlocks, hgv⟩ := id C0
  have hts : ∀ w ∈ wsL_law, w.before #[Value.ref b] s = true := fun w h => hts0 w (wsL_law_in w h)
  have hbA : ¬ lA s b := Nat.not_le.mpr hbl
  intro wx wm H locs ls hR hW hl
  refine lv_aload_n hx hb dL_law_1004 rfl (lv_at hl 1 rfl) ?_
  refine lv_aload_n hx hb dL_law_1005 rfl (lv_at hl 0 rfl) ?_
  refine lv_iload_n hx hb dL_law_1006 rfl (lv_at hl 3 rfl) ?_
  refine lv_iconst (v := 1) hx hb dL_law_1007 (by decide) ?_
  refine lv_iadd hx hb dL_law_1008 ?_
  refine va_sld hx hb hX hbl hbA hW.2.2 (l_in (k := 1) hi hL (by decide)) dL_law_1009 ?_
  obtain ⟨r, wx2, wm2, h1, h2, hR⟩ := ca_count hR ((xs (nI i + 1).toNatClampNeg))
  refine l_xi (va_runV (As := [.int ((xs (nI i + 1).toNatClampNeg))]) (rest := []) ⟨hx, hb, hml, hown, hts⟩ (kx_count l (D := D) (K := K) (t0 := t0) F.1 ((xs (nI i + 1).toNatClampNeg)) wx h1) (cwV 1 hts gL_law_X3_count rfl rfl rfl (by decide +kernel) ⟨Nat.le_of_ble_eq_true rfl, Nat.le_of_ble_eq_true rfl⟩) (l_preX F hK hE hW) rfl rfl hl.1 rfl (lv_room (Nat.le_of_ble_eq_true rfl)) dL_law_1010 ⟨Nat.le_of_ble_eq_true rfl, Nat.le_of_ble_eq_true rfl⟩) F hW (fun H locs hW => ?_)
  refine lv_aload_n hx hb dL_law_1013 rfl (lv_at hl 2 rfl) ?_
  refine lv_aload_n hx hb dL_law_1014 rfl (lv_at hl 0 rfl) ?_
  refine lv_iload_n hx hb dL_law_1015 rfl (lv_at hl 3 rfl) ?_
  refine lv_iconst (v := 1) hx hb dL_law_1016 (by decide) ?_
  refine lv_iadd hx hb dL_law_1017 ?_
  refine va_sld hx hb hX hbl hbA hW.2.2 (l_in (k := 1) hi hL (by decide)) dL_law_1018 ?_
  refine l_mi (va_runV (As := [.int ((xs (nI i + 1).toNatClampNeg))]) (rest := [.int r]) ⟨hx, hb, hml, hown, hts⟩ (km_count l (D := D) (K := K) F.2.1 ((xs (nI i + 1).toNatClampNeg)) wm h2) (cwV 1 hts gL_law_X4_count rfl rfl rfl (by decide +kernel) ⟨Nat.le_of_ble_eq_true rfl, Nat.le_of_ble_eq_true rfl⟩) (l_preM hK hW) rfl rfl hl.1 rfl (lv_room (Nat.le_of_ble_eq_true rfl)) dL_law_1019 ⟨Nat.le_of_ble_eq_true rfl, Nat.le_of_ble_eq_true rfl⟩) F hW (fun H locs hW => ?_)
  refine lv_icmp_eq (tgt := 1027) hx hb dL_law_1022 (by decide) (fun _ => ?_) (fun c9 => absurd rfl c9)
  exact kk _ _ _ _ _ hR hW hl
