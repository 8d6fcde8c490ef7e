set_option maxRecDepth 20000 in
theorem ggX3_again_X0_become : GoodIn wsX3_again wsX0_become := goodIn_r _ [7, 8, 9, 10, 11, 12, 13, 14, 15, 16, 17, 18, 19, 45, 46, 47, 48, 49, 50, 51, 52] (by decide +kernel) (by decide +kernel)
set_option maxRecDepth 20000 in
theorem gX3_again_X0_become_n137 : GoodIn wsX3_again (wsX0_become) := ggX3_again_X0_become
set_option maxRecDepth 20000 in
theorem ggX3_again_X3_forgetActs : GoodIn wsX3_again wsX3_forgetActs := goodIn_r _ [24, 25, 26, 27, 28, 29, 30, 31, 32, 33, 34, 35, 36, 37, 38, 39, 40, 41, 42, 43, 44] (by decide +kernel) (by decide +kernel)
set_option maxRecDepth 20000 in
theorem gX3_again_X3_forgetActs : GoodIn wsX3_again (wsV RX3 83 RX3 yX3_forgetActs wsX3_forgetActs) := goodIn_app (goodIn_of _ (by decide +kernel)) ggX3_again_X3_forgetActs
theorem dX3_again_0 : decode cX3_again 0 = .ok (.iload_n 1, 1) := by decide +kernel
theorem dX3_again_1 : decode cX3_again 1 = .ok (.ifCond .lt 8, 3) := by decide +kernel
theorem dX3_again_4 : decode cX3_again 4 = .ok (.iload_n 1, 1) := by decide +kernel
theorem dX3_again_5 : decode cX3_again 5 = .ok (.iconst 2, 1) := by decide +kernel
theorem dX3_again_6 : decode cX3_again 6 = .ok (.if_icmp .lt 5, 3) := by decide +kernel
theorem dX3_again_9 : decode cX3_again 9 = .ok (.iconst (-1), 1) := by decide +kernel
theorem dX3_again_10 : decode cX3_again 10 = .ok (.ireturn, 1) := by decide +kernel
theorem dX3_again_11 : decode cX3_again 11 = .ok (.aload_n 0, 1) := by decide +kernel
theorem dX3_again_12 : decode cX3_again 12 = .ok (.getfield 34, 3) := by decide +kernel
theorem dX3_again_15 : decode cX3_again 15 = .ok (.iload_n 1, 1) := by decide +kernel
theorem dX3_again_16 : decode cX3_again 16 = .ok (.baload, 1) := by decide +kernel
theorem dX3_again_17 : decode cX3_again 17 = .ok (.ifCond .ne 6, 3) := by decide +kernel
theorem dX3_again_20 : decode cX3_again 20 = .ok (.bipush (-3), 2) := by decide +kernel
theorem dX3_again_22 : decode cX3_again 22 = .ok (.ireturn, 1) := by decide +kernel
theorem dX3_again_23 : decode cX3_again 23 = .ok (.aload_n 0, 1) := by decide +kernel
theorem dX3_again_24 : decode cX3_again 24 = .ok (.getfield 23, 3) := by decide +kernel
theorem dX3_again_27 : decode cX3_again 27 = .ok (.aload_n 0, 1) := by decide +kernel
theorem dX3_again_28 : decode cX3_again 28 = .ok (.getfield 31, 3) := by decide +kernel
theorem dX3_again_31 : decode cX3_again 31 = .ok (.iload_n 1, 1) := by decide +kernel
theorem dX3_again_32 : decode cX3_again 32 = .ok (.aaload, 1) := by decide +kernel
theorem dX3_again_33 : decode cX3_again 33 = .ok (.invokevirtual 137, 3) := by decide +kernel
theorem dX3_again_36 : decode cX3_again 36 = .ok (.aload_n 0, 1) := by decide +kernel
theorem dX3_again_37 : decode cX3_again 37 = .ok (.invokevirtual 83, 3) := by decide +kernel
theorem dX3_again_40 : decode cX3_again 40 = .ok (.aload_n 0, 1) := by decide +kernel
theorem dX3_again_41 : decode cX3_again 41 = .ok (.getfield 23, 3) := by decide +kernel
theorem dX3_again_44 : decode cX3_again 44 = .ok (.getfield 113, 3) := by decide +kernel
theorem dX3_again_47 : decode cX3_again 47 = .ok (.ireturn, 1) := by decide +kernel
set_option maxRecDepth 20000 in
theorem hiX3_again_X0 : ∀ w ∈ u_ws RX0 TX0 4, w ∈ wsX3_again := by decide +kernel
set_option maxRecDepth 20000 in
theorem hiX3_again_X3 : ∀ w ∈ u_ws RX3 TX3 18, w ∈ wsX3_again := by decide +kernel
set_option maxHeartbeats 4000000 in
set_option maxRecDepth 100000 in
theorem wx_again_0 {p : Program} {l : Launch} {e : Env} {s : State} {m : MethodId} {args : Array Value} {below : List Frame} {meth : Method} {c : Code} {D : va_G} {L : Nat → Nat} {K : Nat → ClassId} {t0 : Nat} (hJ : gj L 81) (C0 : gC cX3_again 2 (some .int) wsX3_again RX3 p s m args meth c) (hK : va_K D vwCl (tyG K) s) (hE : eX L t0 s) {w9 : St} {rs : Int32} : ∀ (x1 : Int32) (w : St) (H : Heap) (locs : List Loc) (ls : Array Slot), va_P D vwCl (gl L 81 (cX L K w)) H → va_S (gA L 81) s.heap H locs → lv_has ls 2 [(0, .ref (L 0)), (1, .int x1)] → fx_again x1 w = some (rs, w9) → W p l e { frames := 2, cells := 0, slots := 0, locals := 44 } s m args below meth c H locs 0 0 (MQ below (qI D L 81 (cX L K) rs w9) args s 0 0 (gA L 81)) (F0 m 0 ls []) := by
  obtain ⟨hx, hb, hr, hml, hown, hts, hlk⟩ := id C0
  intro x1 w H locs ls hw hS hl hf
  unfold fx_again at hf
  refine lv_iload_n hx hb dX3_again_0 rfl (lv_at hl 1 rfl) ?_
  refine lv_if_lt (tgt := 9) hx hb dX3_again_1 (by decide) (fun c1 => ?_) (fun c1 => ?_)
  · replace hf := if_t hf c1
    refine lv_iconst (v := (-1)) hx hb dX3_again_9 (by decide) ?_
    exact z_iret hx hb hr hlk hw hS hf dX3_again_10
  · replace hf := if_f hf c1
    refine lv_iload_n hx hb dX3_again_4 rfl (lv_at hl 1 rfl) ?_
    refine lv_iconst (v := 2) hx hb dX3_again_5 (by decide) ?_
    refine lv_icmp_lt (tgt := 11) hx hb dX3_again_6 (by decide) (fun c6 => ?_) (fun c6 => ?_)
    · replace hf := if_t hf c6
      refine lv_aload_n hx hb dX3_again_11 rfl (lv_at hl 0 rfl) ?_
      refine z_get (v := .ref (L 6)) hx hb hts hiX3_again_X3 hown hK hw (k := 0) kc_0.2 ((cX_a0 kc_0.1) _) rfl 11 (by decide) (hts (.fieldLink RX3 34 "OneSentence" "isKept" "[Z") (by decide +kernel)) rfl dX3_again_12 ?_
      refine lv_iload_n hx hb dX3_again_15 rfl (lv_at hl 1 rfl) ?_
      obtain ⟨v16, h16, hf⟩ := bd_e hf
      refine z_zald hx hb hK hw 2 (k := 6) kc_6.2 ((cX_a9 kc_6.1) _) rfl h16 dX3_again_16 ?_
      refine lv_if_ne (tgt := 23) hx hb dX3_again_17 (by decide) (fun c17 => ?_) (fun c17 => ?_)
      · replace hf := if_f hf c17
        refine lv_aload_n hx hb dX3_again_23 rfl (lv_at hl 0 rfl) ?_
        refine z_get (v := .ref (L 13)) hx hb hts hiX3_again_X3 hown hK hw (k := 0) kc_0.2 ((cX_a0 kc_0.1) _) rfl 6 (by decide) (hts (.fieldLink RX3 23 "OneSentence" "today" "LOneSentence$Day;") (by decide +kernel)) rfl dX3_again_24 ?_
        refine lv_aload_n hx hb dX3_again_27 rfl (lv_at hl 0 rfl) ?_
        refine z_get (v := .ref (L 5)) hx hb hts hiX3_again_X3 hown hK hw (k := 0) kc_0.2 ((cX_a0 kc_0.1) _) rfl 10 (by decide) (hts (.fieldLink RX3 31 "OneSentence" "slots" "[LOneSentence$Day;") (by decide +kernel)) rfl dX3_again_28 ?_
        refine lv_iload_n hx hb dX3_again_31 rfl (lv_at hl 1 rfl) ?_
        obtain ⟨q32, h32, hf⟩ := bd_e hf
        refine z_aald hx hb hK hw 3 (k := 5) kc_5.2 ((cX_a8 kc_5.1) _) rfl h32 dX3_again_32 ?_
        obtain ⟨w33, h33, hf⟩ := bd_e hf
        refine z_callv (va_runVN (As := [.ref (L (73 + 4 * q32))]) (rest := []) ⟨hx, hb, hml, hown, hts⟩ (kd_become l (D := D) (K := K) (t0 := t0) hJ 13 (73 + 4 * q32) w kc_13 (kX_slot (gq_lt h32)) h33) ⟨va_cnB 1 hts gX3_again_X0_become_n137 rfl rfl rfl (hE.2.1 (RX3, 137, yX0_become, "OneSentence") (by decide)) (hts (.initialized RX0) (by decide +kernel)) (by decide +kernel) ⟨Nat.le_of_ble_eq_true rfl, Nat.le_of_ble_eq_true rfl⟩, hts (.instanceMethod yX0_become) (by decide +kernel), hts (.selects RX0 yX0_become yX0_become) (by decide +kernel)⟩ (z_preV eX_ok hK hE hw hS kc_13.2 ((cX_a2 kc_13.1) _) (T := TX0) (M := 4) rfl) rfl rfl hl.1 rfl (lv_room (Nat.le_of_ble_eq_true rfl)) dX3_again_33 ⟨Nat.le_of_ble_eq_true rfl, Nat.le_of_ble_eq_true rfl⟩) hS (fun H locs hw hS => ?_)
        refine lv_aload_n hx hb dX3_again_36 rfl (lv_at hl 0 rfl) ?_
        obtain ⟨w37, h37, hf⟩ := bd_e hf
        refine z_callv (va_runV (As := []) (rest := []) ⟨hx, hb, hml, hown, hts⟩ (kx_forgetActs l (D := D) (K := K) (t0 := t0) hJ w33  h37) (cwV 0 hts gX3_again_X3_forgetActs rfl rfl rfl (by decide +kernel) ⟨Nat.le_of_ble_eq_true rfl, Nat.le_of_ble_eq_true rfl⟩) (z_preV eX_ok hK hE hw hS kc_0.2 ((cX_a0 kc_0.1) _) (T := TX3) (M := 18) rfl) rfl rfl hl.1 rfl (lv_room (Nat.le_of_ble_eq_true rfl)) dX3_again_37 ⟨Nat.le_of_ble_eq_true rfl, Nat.le_of_ble_eq_true rfl⟩) hS (fun H locs hw hS => ?_)
        refine lv_aload_n hx hb dX3_again_40 rfl (lv_at hl 0 rfl) ?_
        refine z_get (v := .ref (L 13)) hx hb hts hiX3_again_X3 hown hK hw (k := 0) kc_0.2 ((cX_a0 kc_0.1) _) rfl 6 (by decide) (hts (.fieldLink RX3 23 "OneSentence" "today" "LOneSentence$Day;") (by decide +kernel)) rfl dX3_again_41 ?_
        refine z_getN (v := .int (w37.1 13 2)) hx hb hts hiX3_again_X0 hown hK hw (k := 13) kc_13.2 ((cX_a2 kc_13.1) _) rfl 2 (by decide) (hE.1 (RX3, 113, "OneSentence$Day", "hour", "I", "OneSentence") (by decide)) rfl dX3_again_44 ?_
        exact z_iret hx hb hr hlk hw hS hf dX3_again_47
      · replace hf := if_t hf c17
        refine lv_bipush (v := (-3)) hx hb dX3_again_20 (by decide) ?_
        exact z_iret hx hb hr hlk hw hS hf dX3_again_22
    · replace hf := if_f hf c6
      refine lv_iconst (v := (-1)) hx hb dX3_again_9 (by decide) ?_
      exact z_iret hx hb hr hlk hw hS hf dX3_again_10
set_option maxHeartbeats 4000000 in
set_option maxRecDepth 100000 in
theorem kx_again (l : Launch) {D : va_G} {L : Nat → Nat} {K : Nat → ClassId} {t0 : Nat} (hJ : gj L 81) (x1 : Int32) (w : St) {w9 : St} {rs : Int32} (hf : fx_again x1 w = some (rs, w9)) : Met l yX3_again wsX3_again ({ frames := 2, cells := 0, slots := 0, locals := 44 }) (va_Pc [.ref (L 0), .int x1] (xP D L K t0 w)) (qI D L 81 (cX L K) rs w9) 0 0 (gA L 81) := by
  refine g_met (cc := cX3_again) (nL := 2) (ret := (some .int)) (by decide) rfl (Nat.le_of_ble_eq_true rfl) (fun p e s m below meth c ls C0 hP hl => ?_)
  exact wx_again_0 hJ C0 hP.2.1 hP.2.2 _ w _ _ ls hP.1 va_S.rf (lv_sub hl [0, 1] rfl) hf
set_option maxRecDepth 20000 in
theorem ggX3_whoMay_X3_maySpeak : GoodIn wsX3_whoMay wsX3_maySpeak := goodIn_r _ [7, 8, 9, 10, 6, 11, 12, 13, 14, 15, 16, 17, 18, 19, 20, 21, 22, 23, 24, 25, 26, 27, 28, 29, 34, 35, 36, 37] (by decide +kernel) (by decide +kernel)
set_option maxRecDepth 20000 in
theorem gX3_whoMay_X3_maySpeak : GoodIn wsX3_whoMay (wsV RX3 103 RX3 yX3_maySpeak wsX3_maySpeak) := goodIn_app (goodIn_of _ (by decide +kernel)) ggX3_whoMay_X3_maySpeak
theorem dX3_whoMay_0 : decode cX3_whoMay 0 = .ok (.iconst 0, 1) := by decide +kernel
theorem dX3_whoMay_1 : decode cX3_whoMay 1 = .ok (.istore_n 1, 1) := by decide +kernel
theorem dX3_whoMay_2 : decode cX3_whoMay 2 = .ok (.iconst 0, 1) := by decide +kernel
theorem dX3_whoMay_3 : decode cX3_whoMay 3 = .ok (.istore_n 2, 1) := by decide +kernel
theorem dX3_whoMay_4 : decode cX3_whoMay 4 = .ok (.iload_n 2, 1) := by decide +kernel
theorem dX3_whoMay_5 : decode cX3_whoMay 5 = .ok (.aload_n 0, 1) := by decide +kernel
theorem dX3_whoMay_6 : decode cX3_whoMay 6 = .ok (.getfield 73, 3) := by decide +kernel
theorem dX3_whoMay_9 : decode cX3_whoMay 9 = .ok (.if_icmp .ge 37, 3) := by decide +kernel
theorem dX3_whoMay_12 : decode cX3_whoMay 12 = .ok (.aload_n 0, 1) := by decide +kernel
theorem dX3_whoMay_13 : decode cX3_whoMay 13 = .ok (.aload_n 0, 1) := by decide +kernel
theorem dX3_whoMay_14 : decode cX3_whoMay 14 = .ok (.getfield 23, 3) := by decide +kernel
theorem dX3_whoMay_17 : decode cX3_whoMay 17 = .ok (.getfield 100, 3) := by decide +kernel
theorem dX3_whoMay_20 : decode cX3_whoMay 20 = .ok (.aload_n 0, 1) := by decide +kernel
theorem dX3_whoMay_21 : decode cX3_whoMay 21 = .ok (.getfield 23, 3) := by decide +kernel
theorem dX3_whoMay_24 : decode cX3_whoMay 24 = .ok (.getfield 93, 3) := by decide +kernel
theorem dX3_whoMay_27 : decode cX3_whoMay 27 = .ok (.iload_n 2, 1) := by decide +kernel
theorem dX3_whoMay_28 : decode cX3_whoMay 28 = .ok (.invokevirtual 103, 3) := by decide +kernel
theorem dX3_whoMay_31 : decode cX3_whoMay 31 = .ok (.ifCond .eq 9, 3) := by decide +kernel
theorem dX3_whoMay_34 : decode cX3_whoMay 34 = .ok (.iload_n 1, 1) := by decide +kernel
theorem dX3_whoMay_35 : decode cX3_whoMay 35 = .ok (.iconst 1, 1) := by decide +kernel
theorem dX3_whoMay_36 : decode cX3_whoMay 36 = .ok (.iload_n 2, 1) := by decide +kernel
theorem dX3_whoMay_37 : decode cX3_whoMay 37 = .ok (.ishl, 1) := by decide +kernel
theorem dX3_whoMay_38 : decode cX3_whoMay 38 = .ok (.ior, 1) := by decide +kernel
theorem dX3_whoMay_39 : decode cX3_whoMay 39 = .ok (.istore_n 1, 1) := by decide +kernel
theorem dX3_whoMay_40 : decode cX3_whoMay 40 = .ok (.iinc 2 1, 3) := by decide +kernel
theorem dX3_whoMay_43 : decode cX3_whoMay 43 = .ok (.goto (-39), 3) := by decide +kernel
theorem dX3_whoMay_46 : decode cX3_whoMay 46 = .ok (.iload_n 1, 1) := by decide +kernel
theorem dX3_whoMay_47 : decode cX3_whoMay 47 = .ok (.ireturn, 1) := by decide +kernel
set_option maxRecDepth 20000 in
theorem hiX3_whoMay_X0 : ∀ w ∈ u_ws RX0 TX0 4, w ∈ wsX3_whoMay := by decide +kernel
set_option maxRecDepth 20000 in
theorem hiX3_whoMay_X3 : ∀ w ∈ u_ws RX3 TX3 18, w ∈ wsX3_whoMay := by decide +kernel
set_option maxHeartbeats 4000000 in
set_option maxRecDepth 100000 in
theorem wx_whoMay_40 {p : Program} {l : Launch} {e : Env} {s : State} {m : MethodId} {args : Array Value} {below : List Frame} {meth : Method} {c : Code} {D : va_G} {L : Nat → Nat} {K : Nat → ClassId} {t0 : Nat} (hJ : gj L 81) (C0 : gC cX3_whoMay 3 (some .int) wsX3_whoMay RX3 p s m args meth c) (hK : va_K D vwCl (tyG K) s) (hE : eX L t0 s) {w9 : St} {rs : Int32} (k4 : Int32 → Int32 → St → Option (Int32 × St)) (i4 : ∀ (x1 : Int32) (x2 : Int32) (w : St) (H : Heap) (locs : List Loc) (ls : Array Slot), va_P D vwCl (gl L 81 (cX L K w)) H → va_S (gA L 81) s.heap H locs → lv_has ls 3 [(0, .ref (L 0)), (1, .int x1), (2, .int x2)] → k4 x1 x2 w = some (rs, w9) → W p l e { frames := 2, cells := 0, slots := 0, locals := 44 } s m args below meth c H locs 0 0 (MQ below (qI D L 81 (cX L K) rs w9) args s 0 0 (gA L 81)) (F0 m 4 ls [])) : ∀ (x1 : Int32) (x2 : Int32) (w : St) (H : Heap) (locs : List Loc) (ls : Array Slot), va_P D vwCl (gl L 81 (cX L K w)) H → va_S (gA L 81) s.heap H locs → lv_has ls 3 [(0, .ref (L 0)), (1, .int x1), (2, .int x2)] → fx_whoMay_40 k4 x1 x2 w = some (rs, w9) → W p l e { frames := 2, cells := 0, slots := 0, locals := 44 } s m args below meth c H locs 0 0 (MQ below (qI D L 81 (cX L K) rs w9) args s 0 0 (gA L 81)) (F0 m 40 ls []) := by
  obtain ⟨hx, hb, hr, hml, hown, hts, hlk⟩ := id C0
  intro x1 x2 w H locs ls hw hS hl hf
  unfold fx_whoMay_40 at hf
  refine lv_iinc (v := (x2 + 1)) (lv' := [(2, .int (x2 + 1)), (0, .ref (L 0)), (1, .int x1)]) hx hb dX3_whoMay_40 hl (k := 2) rfl rfl (by decide) rfl (fun ls hl => ?_)
  refine lv_goto (tgt := 4) hx hb dX3_whoMay_43 (by decide) ?_
  exact i4 _ _ _ _ _ _ hw hS (lv_sub hl [1, 2, 0] rfl) hf
set_option maxHeartbeats 4000000 in
set_option maxRecDepth 100000 in
theorem wx_whoMay_4 {p : Program} {l : Launch} {e : Env} {s : State} {m : MethodId} {args : Array Value} {below : List Frame} {meth : Method} {c : Code} {D : va_G} {L : Nat → Nat} {K : Nat → ClassId} {t0 : Nat} (hJ : gj L 81) (C0 : gC cX3_whoMay 3 (some .int) wsX3_whoMay RX3 p s m args meth c) (hK : va_K D vwCl (tyG K) s) (hE : eX L t0 s) {w9 : St} {rs : Int32} : ∀ (fu : Nat) (x1 : Int32) (x2 : Int32) (w : St) (H : Heap) (locs : List Loc) (ls : Array Slot), va_P D vwCl (gl L 81 (cX L K w)) H → va_S (gA L 81) s.heap H locs → lv_has ls 3 [(0, .ref (L 0)), (1, .int x1), (2, .int x2)] → fx_whoMay_4 fu x1 x2 w = some (rs, w9) → W p l e { frames := 2, cells := 0, slots := 0, locals := 44 } s m args below meth c H locs 0 0 (MQ below (qI D L 81 (cX L K) rs w9) args s 0 0 (gA L 81)) (F0 m 4 ls []) := by
  obtain ⟨hx, hb, hr, hml, hown, hts, hlk⟩ := id C0
  intro fu
  induction fu with
  | zero =>
    intro x1 x2 w H locs ls hw hS hl hf
    rw [fx_whoMay_4] at hf
    exact no_n hf
  | succ fu ih =>
    intro x1 x2 w H locs ls hw hS hl hf
    rw [fx_whoMay_4] at hf
    refine lv_iload_n hx hb dX3_whoMay_4 rfl (lv_at hl 2 rfl) ?_
    refine lv_aload_n hx hb dX3_whoMay_5 rfl (lv_at hl 0 rfl) ?_
    refine z_get (v := .int (w.1 0 3)) hx hb hts hiX3_whoMay_X3 hown hK hw (k := 0) kc_0.2 ((cX_a0 kc_0.1) _) rfl 3 (by decide) (hts (.fieldLink RX3 73 "OneSentence" "people" "I") (by decide +kernel)) rfl dX3_whoMay_6 ?_
    refine lv_icmp_ge (tgt := 46) hx hb dX3_whoMay_9 (by decide) (fun c9 => ?_) (fun c9 => ?_)
    · replace hf := if_t hf c9
      refine lv_iload_n hx hb dX3_whoMay_46 rfl (lv_at hl 1 rfl) ?_
      exact z_iret hx hb hr hlk hw hS hf dX3_whoMay_47
    · replace hf := if_f hf c9
      refine lv_aload_n hx hb dX3_whoMay_12 rfl (lv_at hl 0 rfl) ?_
      refine lv_aload_n hx hb dX3_whoMay_13 rfl (lv_at hl 0 rfl) ?_
      refine z_get (v := .ref (L 13)) hx hb hts hiX3_whoMay_X3 hown hK hw (k := 0) kc_0.2 ((cX_a0 kc_0.1) _) rfl 6 (by decide) (hts (.fieldLink RX3 23 "OneSentence" "today" "LOneSentence$Day;") (by decide +kernel)) rfl dX3_whoMay_14 ?_
      refine z_getN (v := .ref (L 14)) hx hb hts hiX3_whoMay_X0 hown hK hw (k := 13) kc_13.2 ((cX_a2 kc_13.1) _) rfl 0 (by decide) (hE.1 (RX3, 100, "OneSentence$Day", "talk", "LOneSentence$Talk;", "OneSentence") (by decide)) rfl dX3_whoMay_17 ?_
      refine lv_aload_n hx hb dX3_whoMay_20 rfl (lv_at hl 0 rfl) ?_
      refine z_get (v := .ref (L 13)) hx hb hts hiX3_whoMay_X3 hown hK hw (k := 0) kc_0.2 ((cX_a0 kc_0.1) _) rfl 6 (by decide) (hts (.fieldLink RX3 23 "OneSentence" "today" "LOneSentence$Day;") (by decide +kernel)) rfl dX3_whoMay_21 ?_
      refine z_getN (v := .int (w.1 13 1)) hx hb hts hiX3_whoMay_X0 hown hK hw (k := 13) kc_13.2 ((cX_a2 kc_13.1) _) rfl 1 (by decide) (hE.1 (RX3, 93, "OneSentence$Day", "at", "I", "OneSentence") (by decide)) rfl dX3_whoMay_24 ?_
      refine lv_iload_n hx hb dX3_whoMay_27 rfl (lv_at hl 2 rfl) ?_
      obtain ⟨q28, h28, hf⟩ := bd_e hf
      refine z_calli (va_runV (As := [.ref (L 14), .int (w.1 13 1), .int x2]) (rest := []) ⟨hx, hb, hml, hown, hts⟩ (kx_maySpeak l (D := D) (K := K) (t0 := t0) hJ 14 (w.1 13 1) x2 w kc_14 h28) (cwV 3 hts gX3_whoMay_X3_maySpeak rfl rfl rfl (by decide +kernel) ⟨Nat.le_of_ble_eq_true rfl, Nat.le_of_ble_eq_true rfl⟩) (z_preV eX_ok hK hE hw hS kc_0.2 ((cX_a0 kc_0.1) _) (T := TX3) (M := 18) rfl) rfl rfl hl.1 rfl (lv_room (Nat.le_of_ble_eq_true rfl)) dX3_whoMay_28 ⟨Nat.le_of_ble_eq_true rfl, Nat.le_of_ble_eq_true rfl⟩) hS (fun H locs hw hS => ?_)
      refine lv_if_eq (tgt := 40) hx hb dX3_whoMay_31 (by decide) (fun c31 => ?_) (fun c31 => ?_)
      · replace hf := if_t hf c31
        exact wx_whoMay_40 hJ C0 hK hE _ ih _ _ _ _ _ _ hw hS (lv_sub hl [0, 1, 2] rfl) hf
      · replace hf := if_f hf c31
        refine lv_iload_n hx hb dX3_whoMay_34 rfl (lv_at hl 1 rfl) ?_
        refine lv_iconst (v := 1) hx hb dX3_whoMay_35 (by decide) ?_
        refine lv_iload_n hx hb dX3_whoMay_36 rfl (lv_at hl 2 rfl) ?_
        refine lv_ishl hx hb dX3_whoMay_37 ?_
        refine lv_ior hx hb dX3_whoMay_38 ?_
        refine lv_topi (fun v39 e39 => ?_)
        replace hf := lb_e hf e39
        refine lv_istore_n (lv' := [(1, .int v39), (0, .ref (L 0)), (2, .int x2)]) hx hb dX3_whoMay_39 rfl hl (by decide) rfl (fun ls hl => ?_)
        exact wx_whoMay_40 hJ C0 hK hE _ ih _ _ _ _ _ _ hw hS (lv_sub hl [1, 0, 2] rfl) hf
set_option maxHeartbeats 4000000 in
set_option maxRecDepth 100000 in
theorem wx_whoMay_0 {p : Program} {l : Launch} {e : Env} {s : State} {m : MethodId} {args : Array Value} {below : List Frame} {meth : Method} {c : Code} {D : va_G} {L : Nat → Nat} {K : Nat → ClassId} {t0 : Nat} (hJ : gj L 81) (C0 : gC cX3_whoMay 3 (some .int) wsX3_whoMay RX3 p s m args meth c) (hK : va_K D vwCl (tyG K) s) (hE : eX L t0 s) {w9 : St} {rs : Int32} : ∀ (w : St) (H : Heap) (locs : List Loc) (ls : Array Slot), va_P D vwCl (gl L 81 (cX L K w)) H → va_S (gA L 81) s.heap H locs → lv_has ls 3 [(0, .ref (L 0))] → fx_whoMay w = some (rs, w9) → W p l e { frames := 2, cells := 0, slots := 0, locals := 44 } s m args below meth c H locs 0 0 (MQ below (qI D L 81 (cX L K) rs w9) args s 0 0 (gA L 81)) (F0 m 0 ls []) := by
  obtain ⟨hx, hb, hr, hml, hown, hts, hlk⟩ := id C0
  intro w H locs ls hw hS hl hf
  unfold fx_whoMay at hf
  refine lv_iconst (v := 0) hx hb dX3_whoMay_0 (by decide) ?_
  refine lv_istore_n (lv' := [(1, .int 0), (0, .ref (L 0))]) hx hb dX3_whoMay_1 rfl hl (by decide) rfl (fun ls hl => ?_)
  refine lv_iconst (v := 0) hx hb dX3_whoMay_2 (by decide) ?_
  refine lv_istore_n (lv' := [(2, .int 0), (1, .int 0), (0, .ref (L 0))]) hx hb dX3_whoMay_3 rfl hl (by decide) rfl (fun ls hl => ?_)
  exact wx_whoMay_4 hJ C0 hK hE _ _ _ _ _ _ _ hw hS (lv_sub hl [2, 1, 0] rfl) hf
set_option maxHeartbeats 4000000 in
set_option maxRecDepth 100000 in
theorem kx_whoMay (l : Launch) {D : va_G} {L : Nat → Nat} {K : Nat → ClassId} {t0 : Nat} (hJ : gj L 81) (w : St) {w9 : St} {rs : Int32} (hf : fx_whoMay w = some (rs, w9)) : Met l yX3_whoMay wsX3_whoMay ({ frames := 2, cells := 0, slots := 0, locals := 44 }) (va_Pc [.ref (L 0)] (xP D L K t0 w)) (qI D L 81 (cX L K) rs w9) 0 0 (gA L 81) := by
  refine g_met (cc := cX3_whoMay) (nL := 3) (ret := (some .int)) (by decide) rfl (Nat.le_of_ble_eq_true rfl) (fun p e s m below meth c ls C0 hP hl => ?_)
  exact wx_whoMay_0 hJ C0 hP.2.1 hP.2.2 w _ _ ls hP.1 va_S.rf (lv_sub hl [0] rfl) hf
set_option maxRecDepth 20000 in
theorem ggX3_count_X3_whoMay : GoodIn wsX3_count wsX3_whoMay := goodIn_r _ [10, 2, 4, 11, 12, 13, 9, 14, 15, 16, 17, 18, 19, 20, 21, 22, 23, 24, 25, 26, 27, 28, 29, 30, 31, 32, 33, 34, 35, 36, 37, 38, 39, 40, 41, 42, 43, 44] (by decide +kernel) (by decide +kernel)
set_option maxRecDepth 20000 in
theorem gX3_count_X3_whoMay : GoodIn wsX3_count (wsV RX3 226 RX3 yX3_whoMay wsX3_whoMay) := goodIn_app (goodIn_of _ (by decide +kernel)) ggX3_count_X3_whoMay
theorem dX3_count_0 : decode cX3_count 0 = .ok (.iload_n 1, 1) := by decide +kernel
theorem dX3_count_1 : decode cX3_count 1 = .ok (.tableswitch 114 0 8 #[51, 56, 61, 66, 77, 85, 93, 98, 109], 51) := by decide +kernel
theorem dX3_count_52 : decode cX3_count 52 = .ok (.aload_n 0, 1) := by decide +kernel
theorem dX3_count_53 : decode cX3_count 53 = .ok (.getfield 58, 3) := by decide +kernel
theorem dX3_count_56 : decode cX3_count 56 = .ok (.ireturn, 1) := by decide +kernel
theorem dX3_count_57 : decode cX3_count 57 = .ok (.aload_n 0, 1) := by decide +kernel
theorem dX3_count_58 : decode cX3_count 58 = .ok (.getfield 73, 3) := by decide +kernel
theorem dX3_count_61 : decode cX3_count 61 = .ok (.ireturn, 1) := by decide +kernel
theorem dX3_count_62 : decode cX3_count 62 = .ok (.aload_n 0, 1) := by decide +kernel
theorem dX3_count_63 : decode cX3_count 63 = .ok (.getfield 70, 3) := by decide +kernel
theorem dX3_count_66 : decode cX3_count 66 = .ok (.ireturn, 1) := by decide +kernel
theorem dX3_count_67 : decode cX3_count 67 = .ok (.aload_n 0, 1) := by decide +kernel
theorem dX3_count_68 : decode cX3_count 68 = .ok (.getfield 23, 3) := by decide +kernel
theorem dX3_count_71 : decode cX3_count 71 = .ok (.getfield 100, 3) := by decide +kernel
theorem dX3_count_74 : decode cX3_count 74 = .ok (.getfield 128, 3) := by decide +kernel
theorem dX3_count_77 : decode cX3_count 77 = .ok (.ireturn, 1) := by decide +kernel
theorem dX3_count_78 : decode cX3_count 78 = .ok (.aload_n 0, 1) := by decide +kernel
theorem dX3_count_79 : decode cX3_count 79 = .ok (.getfield 23, 3) := by decide +kernel
theorem dX3_count_82 : decode cX3_count 82 = .ok (.getfield 113, 3) := by decide +kernel
theorem dX3_count_85 : decode cX3_count 85 = .ok (.ireturn, 1) := by decide +kernel
theorem dX3_count_86 : decode cX3_count 86 = .ok (.aload_n 0, 1) := by decide +kernel
theorem dX3_count_87 : decode cX3_count 87 = .ok (.getfield 23, 3) := by decide +kernel
theorem dX3_count_90 : decode cX3_count 90 = .ok (.getfield 93, 3) := by decide +kernel
theorem dX3_count_93 : decode cX3_count 93 = .ok (.ireturn, 1) := by decide +kernel
theorem dX3_count_94 : decode cX3_count 94 = .ok (.aload_n 0, 1) := by decide +kernel
theorem dX3_count_95 : decode cX3_count 95 = .ok (.invokevirtual 226, 3) := by decide +kernel
theorem dX3_count_98 : decode cX3_count 98 = .ok (.ireturn, 1) := by decide +kernel
theorem dX3_count_99 : decode cX3_count 99 = .ok (.aload_n 0, 1) := by decide +kernel
theorem dX3_count_100 : decode cX3_count 100 = .ok (.getfield 23, 3) := by decide +kernel
theorem dX3_count_103 : decode cX3_count 103 = .ok (.getfield 100, 3) := by decide +kernel
theorem dX3_count_106 : decode cX3_count 106 = .ok (.getfield 229, 3) := by decide +kernel
theorem dX3_count_109 : decode cX3_count 109 = .ok (.ireturn, 1) := by decide +kernel
theorem dX3_count_110 : decode cX3_count 110 = .ok (.aload_n 0, 1) := by decide +kernel
theorem dX3_count_111 : decode cX3_count 111 = .ok (.getfield 131, 3) := by decide +kernel
theorem dX3_count_114 : decode cX3_count 114 = .ok (.ireturn, 1) := by decide +kernel
theorem dX3_count_115 : decode cX3_count 115 = .ok (.bipush (-2), 2) := by decide +kernel
theorem dX3_count_117 : decode cX3_count 117 = .ok (.ireturn, 1) := by decide +kernel
set_option maxRecDepth 20000 in
theorem hiX3_count_X0 : ∀ w ∈ u_ws RX0 TX0 4, w ∈ wsX3_count := by decide +kernel
set_option maxRecDepth 20000 in
theorem hiX3_count_X2 : ∀ w ∈ u_ws RX2 TX2 4, w ∈ wsX3_count := by decide +kernel
set_option maxRecDepth 20000 in
theorem hiX3_count_X3 : ∀ w ∈ u_ws RX3 TX3 18, w ∈ wsX3_count := by decide +kernel
set_option maxHeartbeats 4000000 in
set_option maxRecDepth 100000 in
theorem wx_count_0 {p : Program} {l : Launch} {e : Env} {s : State} {m : MethodId} {args : Array Value} {below : List Frame} {meth : Method} {c : Code} {D : va_G} {L : Nat → Nat} {K : Nat → ClassId} {t0 : Nat} (hJ : gj L 81) (C0 : gC cX3_count 2 (some .int) wsX3_count RX3 p s m args meth c) (hK : va_K D vwCl (tyG K) s) (hE : eX L t0 s) {w9 : St} {rs : Int32} : ∀ (x1 : Int32) (w : St) (H : Heap) (locs : List Loc) (ls : Array Slot), va_P D vwCl (gl L 81 (cX L K w)) H → va_S (gA L 81) s.heap H locs → lv_has ls 2 [(0, .ref (L 0)), (1, .int x1)] → fx_count x1 w = some (rs, w9) → W p l e { frames := 3, cells := 0, slots := 0, locals := 66 } s m args below meth c H locs 0 0 (MQ below (qI D L 81 (cX L K) rs w9) args s 0 0 (gA L 81)) (F0 m 0 ls []) := by
  obtain ⟨hx, hb, hr, hml, hown, hts, hlk⟩ := id C0
  intro x1 w H locs ls hw hS hl hf
  unfold fx_count at hf
  refine lv_iload_n hx hb dX3_count_0 rfl (lv_at hl 1 rfl) ?_
  by_cases c1_0 : x1 = 0
  · replace hf := if_t hf c1_0
    refine lv_tableIn (x := x1) (off := 51) (tgt := 52) hx hb dX3_count_1 (by rw [c1_0]; decide) (by rw [c1_0]; decide) (by rw [c1_0]; rfl) (by decide) ?_
    refine lv_aload_n hx hb dX3_count_52 rfl (lv_at hl 0 rfl) ?_
    refine z_get (v := .int (w.1 0 1)) hx hb hts hiX3_count_X3 hown hK hw (k := 0) kc_0.2 ((cX_a0 kc_0.1) _) rfl 1 (by decide) (hts (.fieldLink RX3 58 "OneSentence" "letters" "I") (by decide +kernel)) rfl dX3_count_53 ?_
    exact z_iret hx hb hr hlk hw hS hf dX3_count_56
  · replace hf := if_f hf c1_0
    by_cases c1_1 : x1 = 1
    · replace hf := if_t hf c1_1
      refine lv_tableIn (x := x1) (off := 56) (tgt := 57) hx hb dX3_count_1 (by rw [c1_1]; decide) (by rw [c1_1]; decide) (by rw [c1_1]; rfl) (by decide) ?_
      refine lv_aload_n hx hb dX3_count_57 rfl (lv_at hl 0 rfl) ?_
      refine z_get (v := .int (w.1 0 3)) hx hb hts hiX3_count_X3 hown hK hw (k := 0) kc_0.2 ((cX_a0 kc_0.1) _) rfl 3 (by decide) (hts (.fieldLink RX3 73 "OneSentence" "people" "I") (by decide +kernel)) rfl dX3_count_58 ?_
      exact z_iret hx hb hr hlk hw hS hf dX3_count_61
    · replace hf := if_f hf c1_1
      by_cases c1_2 : x1 = 2
      · replace hf := if_t hf c1_2
        refine lv_tableIn (x := x1) (off := 61) (tgt := 62) hx hb dX3_count_1 (by rw [c1_2]; decide) (by rw [c1_2]; decide) (by rw [c1_2]; rfl) (by decide) ?_
        refine lv_aload_n hx hb dX3_count_62 rfl (lv_at hl 0 rfl) ?_
        refine z_get (v := .int (w.1 0 2)) hx hb hts hiX3_count_X3 hown hK hw (k := 0) kc_0.2 ((cX_a0 kc_0.1) _) rfl 2 (by decide) (hts (.fieldLink RX3 70 "OneSentence" "market" "I") (by decide +kernel)) rfl dX3_count_63 ?_
        exact z_iret hx hb hr hlk hw hS hf dX3_count_66
      · replace hf := if_f hf c1_2
        by_cases c1_3 : x1 = 3
        · replace hf := if_t hf c1_3
          refine lv_tableIn (x := x1) (off := 66) (tgt := 67) hx hb dX3_count_1 (by rw [c1_3]; decide) (by rw [c1_3]; decide) (by rw [c1_3]; rfl) (by decide) ?_
          refine lv_aload_n hx hb dX3_count_67 rfl (lv_at hl 0 rfl) ?_
          refine z_get (v := .ref (L 13)) hx hb hts hiX3_count_X3 hown hK hw (k := 0) kc_0.2 ((cX_a0 kc_0.1) _) rfl 6 (by decide) (hts (.fieldLink RX3 23 "OneSentence" "today" "LOneSentence$Day;") (by decide +kernel)) rfl dX3_count_68 ?_
          refine z_getN (v := .ref (L 14)) hx hb hts hiX3_count_X0 hown hK hw (k := 13) kc_13.2 ((cX_a2 kc_13.1) _) rfl 0 (by decide) (hE.1 (RX3, 100, "OneSentence$Day", "talk", "LOneSentence$Talk;", "OneSentence") (by decide)) rfl dX3_count_71 ?_
          refine z_getN (v := .int (w.1 14 0)) hx hb hts hiX3_count_X2 hown hK hw (k := 14) kc_14.2 ((cX_a1 kc_14.1) _) rfl 0 (by decide) (hE.1 (RX3, 128, "OneSentence$Talk", "sense", "I", "OneSentence") (by decide)) rfl dX3_count_74 ?_
          exact z_iret hx hb hr hlk hw hS hf dX3_count_77
        · replace hf := if_f hf c1_3
          by_cases c1_4 : x1 = 4
          · replace hf := if_t hf c1_4
            refine lv_tableIn (x := x1) (off := 77) (tgt := 78) hx hb dX3_count_1 (by rw [c1_4]; decide) (by rw [c1_4]; decide) (by rw [c1_4]; rfl) (by decide) ?_
            refine lv_aload_n hx hb dX3_count_78 rfl (lv_at hl 0 rfl) ?_
            refine z_get (v := .ref (L 13)) hx hb hts hiX3_count_X3 hown hK hw (k := 0) kc_0.2 ((cX_a0 kc_0.1) _) rfl 6 (by decide) (hts (.fieldLink RX3 23 "OneSentence" "today" "LOneSentence$Day;") (by decide +kernel)) rfl dX3_count_79 ?_
            refine z_getN (v := .int (w.1 13 2)) hx hb hts hiX3_count_X0 hown hK hw (k := 13) kc_13.2 ((cX_a2 kc_13.1) _) rfl 2 (by decide) (hE.1 (RX3, 113, "OneSentence$Day", "hour", "I", "OneSentence") (by decide)) rfl dX3_count_82 ?_
            exact z_iret hx hb hr hlk hw hS hf dX3_count_85
          · replace hf := if_f hf c1_4
            by_cases c1_5 : x1 = 5
            · replace hf := if_t hf c1_5
              refine lv_tableIn (x := x1) (off := 85) (tgt := 86) hx hb dX3_count_1 (by rw [c1_5]; decide) (by rw [c1_5]; decide) (by rw [c1_5]; rfl) (by decide) ?_
              refine lv_aload_n hx hb dX3_count_86 rfl (lv_at hl 0 rfl) ?_
              refine z_get (v := .ref (L 13)) hx hb hts hiX3_count_X3 hown hK hw (k := 0) kc_0.2 ((cX_a0 kc_0.1) _) rfl 6 (by decide) (hts (.fieldLink RX3 23 "OneSentence" "today" "LOneSentence$Day;") (by decide +kernel)) rfl dX3_count_87 ?_
              refine z_getN (v := .int (w.1 13 1)) hx hb hts hiX3_count_X0 hown hK hw (k := 13) kc_13.2 ((cX_a2 kc_13.1) _) rfl 1 (by decide) (hE.1 (RX3, 93, "OneSentence$Day", "at", "I", "OneSentence") (by decide)) rfl dX3_count_90 ?_
              exact z_iret hx hb hr hlk hw hS hf dX3_count_93
            · replace hf := if_f hf c1_5
              by_cases c1_6 : x1 = 6
              · replace hf := if_t hf c1_6
                refine lv_tableIn (x := x1) (off := 93) (tgt := 94) hx hb dX3_count_1 (by rw [c1_6]; decide) (by rw [c1_6]; decide) (by rw [c1_6]; rfl) (by decide) ?_
                refine lv_aload_n hx hb dX3_count_94 rfl (lv_at hl 0 rfl) ?_
                obtain ⟨q95, h95, hf⟩ := bd_e hf
                refine z_calli (va_runV (As := []) (rest := []) ⟨hx, hb, hml, hown, hts⟩ (kx_whoMay l (D := D) (K := K) (t0 := t0) hJ w  h95) (cwV 0 hts gX3_count_X3_whoMay rfl rfl rfl (by decide +kernel) ⟨Nat.le_of_ble_eq_true rfl, Nat.le_of_ble_eq_true rfl⟩) (z_preV eX_ok hK hE hw hS kc_0.2 ((cX_a0 kc_0.1) _) (T := TX3) (M := 18) rfl) rfl rfl hl.1 rfl (lv_room (Nat.le_of_ble_eq_true rfl)) dX3_count_95 ⟨Nat.le_of_ble_eq_true rfl, Nat.le_of_ble_eq_true rfl⟩) hS (fun H locs hw hS => ?_)
                exact z_iret hx hb hr hlk hw hS hf dX3_count_98
              · replace hf := if_f hf c1_6
                by_cases c1_7 : x1 = 7
                · replace hf := if_t hf c1_7
                  refine lv_tableIn (x := x1) (off := 98) (tgt := 99) hx hb dX3_count_1 (by rw [c1_7]; decide) (by rw [c1_7]; decide) (by rw [c1_7]; rfl) (by decide) ?_
                  refine lv_aload_n hx hb dX3_count_99 rfl (lv_at hl 0 rfl) ?_
                  refine z_get (v := .ref (L 13)) hx hb hts hiX3_count_X3 hown hK hw (k := 0) kc_0.2 ((cX_a0 kc_0.1) _) rfl 6 (by decide) (hts (.fieldLink RX3 23 "OneSentence" "today" "LOneSentence$Day;") (by decide +kernel)) rfl dX3_count_100 ?_
                  refine z_getN (v := .ref (L 14)) hx hb hts hiX3_count_X0 hown hK hw (k := 13) kc_13.2 ((cX_a2 kc_13.1) _) rfl 0 (by decide) (hE.1 (RX3, 100, "OneSentence$Day", "talk", "LOneSentence$Talk;", "OneSentence") (by decide)) rfl dX3_count_103 ?_
                  refine z_getN (v := .int (w.1 14 1)) hx hb hts hiX3_count_X2 hown hK hw (k := 14) kc_14.2 ((cX_a1 kc_14.1) _) rfl 1 (by decide) (hE.1 (RX3, 229, "OneSentence$Talk", "last", "I", "OneSentence") (by decide)) rfl dX3_count_106 ?_
                  exact z_iret hx hb hr hlk hw hS hf dX3_count_109
                · replace hf := if_f hf c1_7
                  by_cases c1_8 : x1 = 8
                  · replace hf := if_t hf c1_8
                    refine lv_tableIn (x := x1) (off := 109) (tgt := 110) hx hb dX3_count_1 (by rw [c1_8]; decide) (by rw [c1_8]; decide) (by rw [c1_8]; rfl) (by decide) ?_
                    refine lv_aload_n hx hb dX3_count_110 rfl (lv_at hl 0 rfl) ?_
                    refine z_get (v := .int (w.1 0 9)) hx hb hts hiX3_count_X3 hown hK hw (k := 0) kc_0.2 ((cX_a0 kc_0.1) _) rfl 9 (by decide) (hts (.fieldLink RX3 131 "OneSentence" "acts" "I") (by decide +kernel)) rfl dX3_count_111 ?_
                    exact z_iret hx hb hr hlk hw hS hf dX3_count_114
                  · replace hf := if_f hf c1_8
                    have z1 : ∀ z, z < 9 → ¬ x1 = nI z := by
                      intro z hz
                      rcases (show z = 0 ∨ z = 1 ∨ z = 2 ∨ z = 3 ∨ z = 4 ∨ z = 5 ∨ z = 6 ∨ z = 7 ∨ z = 8 by omega) with rfl | rfl | rfl | rfl | rfl | rfl | rfl | rfl | rfl
                      · exact c1_0
                      · exact c1_1
                      · exact c1_2
                      · exact c1_3
                      · exact c1_4
                      · exact c1_5
                      · exact c1_6
                      · exact c1_7
                      · exact c1_8
                    refine lv_tableOut (x := x1) (tgt := 115) hx hb dX3_count_1 (z_out (by decide) z1 rfl) (by decide) ?_
                    refine lv_bipush (v := (-2)) hx hb dX3_count_115 (by decide) ?_
                    exact z_iret hx hb hr hlk hw hS hf dX3_count_117
set_option maxHeartbeats 4000000 in
set_option maxRecDepth 100000 in
theorem kx_count (l : Launch) {D : va_G} {L : Nat → Nat} {K : Nat → ClassId} {t0 : Nat} (hJ : gj L 81) (x1 : Int32) (w : St) {w9 : St} {rs : Int32} (hf : fx_count x1 w = some (rs, w9)) : Met l yX3_count wsX3_count ({ frames := 3, cells := 0, slots := 0, locals := 66 }) (va_Pc [.ref (L 0), .int x1] (xP D L K t0 w)) (qI D L 81 (cX L K) rs w9) 0 0 (gA L 81) := by
  refine g_met (cc := cX3_count) (nL := 2) (ret := (some .int)) (by decide) rfl (Nat.le_of_ble_eq_true rfl) (fun p e s m below meth c ls C0 hP hl => ?_)
  exact wx_count_0 hJ C0 hP.2.1 hP.2.2 _ w _ _ ls hP.1 va_S.rf (lv_sub hl [0, 1] rfl) hf
theorem dX4_in_0 : decode cX4_in 0 = .ok (.lload_n 0, 1) := by decide +kernel
theorem dX4_in_1 : decode cX4_in 1 = .ok (.lload_n 2, 1) := by decide +kernel
theorem dX4_in_2 : decode cX4_in 2 = .ok (.lcmp, 1) := by decide +kernel
theorem dX4_in_3 : decode cX4_in 3 = .ok (.ifCond .lt 14, 3) := by decide +kernel
theorem dX4_in_6 : decode cX4_in 6 = .ok (.lload_n 0, 1) := by decide +kernel
theorem dX4_in_7 : decode cX4_in 7 = .ok (.lload 4, 2) := by decide +kernel
theorem dX4_in_9 : decode cX4_in 9 = .ok (.lcmp, 1) := by decide +kernel
theorem dX4_in_10 : decode cX4_in 10 = .ok (.ifCond .gt 7, 3) := by decide +kernel
theorem dX4_in_13 : decode cX4_in 13 = .ok (.iconst 1, 1) := by decide +kernel
theorem dX4_in_14 : decode cX4_in 14 = .ok (.goto 4, 3) := by decide +kernel
theorem dX4_in_17 : decode cX4_in 17 = .ok (.iconst 0, 1) := by decide +kernel
theorem dX4_in_18 : decode cX4_in 18 = .ok (.ireturn, 1) := by decide +kernel
set_option maxHeartbeats 4000000 in
set_option maxRecDepth 100000 in
theorem wm_in_0 {p : Program} {l : Launch} {e : Env} {s : State} {m : MethodId} {args : Array Value} {below : List Frame} {meth : Method} {c : Code} (C0 : gC cX4_in 6 (some .boolean) wsX4_in RX4 p s m args meth c) {rs : Int32} : ∀ (x0 : Int64) (x2 : Int64) (x4 : Int64) (ls : Array Slot), lv_has ls 6 [(0, .long x0), (2, .long x2), (4, .long x4)] → fm_in x0 x2 x4 = some rs → W p l e { frames := 0, cells := 0, slots := 0, locals := 0 } s m args below meth c s.heap [] 0 0 (MQ below (qS rs) args s 0 0 (fun _ => False)) (F0 m 0 ls []) := by
  obtain ⟨hx, hb, hr, hml, hown, hts, hlk⟩ := id C0
  intro x0 x2 x4 ls hl hf
  unfold fm_in at hf
  refine lv_lload_n hx hb dX4_in_0 rfl (lv_at hl 0 rfl) ?_
  refine lv_lload_n hx hb dX4_in_1 rfl (lv_at hl 1 rfl) ?_
  refine W.lcmp hx hb dX4_in_2 ?_
  refine lv_if_lt (tgt := 17) hx hb dX4_in_3 (by decide) (fun c3 => ?_) (fun c3 => ?_)
  · replace hf := if_t hf c3
    refine lv_iconst (v := 0) hx hb dX4_in_17 (by decide) ?_
    exact z_szret hx hb hr hlk rfl hf dX4_in_18
  · replace hf := if_f hf c3
    refine lv_lload_n hx hb dX4_in_6 rfl (lv_at hl 0 rfl) ?_
    refine lv_lload hx hb dX4_in_7 (lv_at hl 2 rfl) ?_
    refine W.lcmp hx hb dX4_in_9 ?_
    refine lv_if_gt (tgt := 17) hx hb dX4_in_10 (by decide) (fun c10 => ?_) (fun c10 => ?_)
    · replace hf := if_t hf c10
      refine lv_iconst (v := 0) hx hb dX4_in_17 (by decide) ?_
      exact z_szret hx hb hr hlk rfl hf dX4_in_18
    · replace hf := if_f hf c10
      refine lv_iconst (v := 1) hx hb dX4_in_13 (by decide) ?_
      refine lv_goto (tgt := 18) hx hb dX4_in_14 (by decide) ?_
      exact z_szret hx hb hr hlk rfl hf dX4_in_18
set_option maxHeartbeats 4000000 in
set_option maxRecDepth 100000 in
theorem km_in (l : Launch) (x0 : Int64) (x2 : Int64) (x4 : Int64) {rs : Int32} (hf : fm_in x0 x2 x4 = some rs) : Met l yX4_in wsX4_in ({ frames := 0, cells := 0, slots := 0, locals := 0 }) (va_Pc [.long x0, .long x2, .long x4] (fun _ => True)) (qS rs) 0 0 (fun _ => False) := by
  refine g_met (cc := cX4_in) (nL := 6) (ret := (some .boolean)) (by decide) rfl (Nat.le_of_ble_eq_true rfl) (fun p e s m below meth c ls C0 _ hl => ?_)
  exact wm_in_0 C0 _ _ _ ls (lv_sub hl [0, 1, 2] rfl) hf
theorem dX4_has_0 : decode cX4_has 0 = .ok (.iload_n 0, 1) := by decide +kernel
theorem dX4_has_1 : decode cX4_has 1 = .ok (.iload_n 1, 1) := by decide +kernel
theorem dX4_has_2 : decode cX4_has 2 = .ok (.ishr, 1) := by decide +kernel
theorem dX4_has_3 : decode cX4_has 3 = .ok (.iconst 1, 1) := by decide +kernel
theorem dX4_has_4 : decode cX4_has 4 = .ok (.iand, 1) := by decide +kernel
theorem dX4_has_5 : decode cX4_has 5 = .ok (.iconst 1, 1) := by decide +kernel
theorem dX4_has_6 : decode cX4_has 6 = .ok (.if_icmp .ne 7, 3) := by decide +kernel
theorem dX4_has_9 : decode cX4_has 9 = .ok (.iconst 1, 1) := by decide +kernel
theorem dX4_has_10 : decode cX4_has 10 = .ok (.goto 4, 3) := by decide +kernel
theorem dX4_has_13 : decode cX4_has 13 = .ok (.iconst 0, 1) := by decide +kernel
theorem dX4_has_14 : decode cX4_has 14 = .ok (.ireturn, 1) := by decide +kernel
set_option maxHeartbeats 4000000 in
set_option maxRecDepth 100000 in
theorem wm_has_0 {p : Program} {l : Launch} {e : Env} {s : State} {m : MethodId} {args : Array Value} {below : List Frame} {meth : Method} {c : Code} (C0 : gC cX4_has 2 (some .boolean) wsX4_has RX4 p s m args meth c) {rs : Int32} : ∀ (x0 : Int32) (x1 : Int32) (ls : Array Slot), lv_has ls 2 [(0, .int x0), (1, .int x1)] → fm_has x0 x1 = some rs → W p l e { frames := 0, cells := 0, slots := 0, locals := 0 } s m args below meth c s.heap [] 0 0 (MQ below (qS rs) args s 0 0 (fun _ => False)) (F0 m 0 ls []) := by
  obtain ⟨hx, hb, hr, hml, hown, hts, hlk⟩ := id C0
  intro x0 x1 ls hl hf
  unfold fm_has at hf
  refine lv_iload_n hx hb dX4_has_0 rfl (lv_at hl 0 rfl) ?_
  refine lv_iload_n hx hb dX4_has_1 rfl (lv_at hl 1 rfl) ?_
  refine lv_ishr hx hb dX4_has_2 ?_
  refine lv_iconst (v := 1) hx hb dX4_has_3 (by decide) ?_
  refine lv_iand hx hb dX4_has_4 ?_
  refine lv_iconst (v := 1) hx hb dX4_has_5 (by decide) ?_
  refine lv_icmp_ne (tgt := 13) hx hb dX4_has_6 (by decide) (fun c6 => ?_) (fun c6 => ?_)
  · replace hf := if_f hf c6
    refine lv_iconst (v := 0) hx hb dX4_has_13 (by decide) ?_
    exact z_szret hx hb hr hlk rfl hf dX4_has_14
  · replace hf := if_t hf c6
    refine lv_iconst (v := 1) hx hb dX4_has_9 (by decide) ?_
    refine lv_goto (tgt := 14) hx hb dX4_has_10 (by decide) ?_
    exact z_szret hx hb hr hlk rfl hf dX4_has_14
set_option maxHeartbeats 4000000 in
set_option maxRecDepth 100000 in
theorem km_has (l : Launch) (x0 : Int32) (x1 : Int32) {rs : Int32} (hf : fm_has x0 x1 = some rs) : Met l yX4_has wsX4_has ({ frames := 0, cells := 0, slots := 0, locals := 0 }) (va_Pc [.int x0, .int x1] (fun _ => True)) (qS rs) 0 0 (fun _ => False) := by
  refine g_met (cc := cX4_has) (nL := 2) (ret := (some .boolean)) (by decide) rfl (Nat.le_of_ble_eq_true rfl) (fun p e s m below meth c ls C0 _ hl => ?_)
  exact wm_has_0 C0 _ _ ls (lv_sub hl [0, 1] rfl) hf
theorem dX4_ones_0 : decode cX4_ones 0 = .ok (.iconst 0, 1) := by decide +kernel
theorem dX4_ones_1 : decode cX4_ones 1 = .ok (.istore_n 1, 1) := by decide +kernel
theorem dX4_ones_2 : decode cX4_ones 2 = .ok (.iconst 0, 1) := by decide +kernel
theorem dX4_ones_3 : decode cX4_ones 3 = .ok (.istore_n 2, 1) := by decide +kernel
theorem dX4_ones_4 : decode cX4_ones 4 = .ok (.iload_n 2, 1) := by decide +kernel
theorem dX4_ones_5 : decode cX4_ones 5 = .ok (.bipush 10, 2) := by decide +kernel
theorem dX4_ones_7 : decode cX4_ones 7 = .ok (.if_icmp .ge 17, 3) := by decide +kernel
theorem dX4_ones_10 : decode cX4_ones 10 = .ok (.iload_n 1, 1) := by decide +kernel
theorem dX4_ones_11 : decode cX4_ones 11 = .ok (.iload_n 0, 1) := by decide +kernel
theorem dX4_ones_12 : decode cX4_ones 12 = .ok (.iload_n 2, 1) := by decide +kernel
theorem dX4_ones_13 : decode cX4_ones 13 = .ok (.ishr, 1) := by decide +kernel
theorem dX4_ones_14 : decode cX4_ones 14 = .ok (.iconst 1, 1) := by decide +kernel
theorem dX4_ones_15 : decode cX4_ones 15 = .ok (.iand, 1) := by decide +kernel
theorem dX4_ones_16 : decode cX4_ones 16 = .ok (.iadd, 1) := by decide +kernel
theorem dX4_ones_17 : decode cX4_ones 17 = .ok (.istore_n 1, 1) := by decide +kernel
theorem dX4_ones_18 : decode cX4_ones 18 = .ok (.iinc 2 1, 3) := by decide +kernel
theorem dX4_ones_21 : decode cX4_ones 21 = .ok (.goto (-17), 3) := by decide +kernel
theorem dX4_ones_24 : decode cX4_ones 24 = .ok (.iload_n 1, 1) := by decide +kernel
theorem dX4_ones_25 : decode cX4_ones 25 = .ok (.ireturn, 1) := by decide +kernel
set_option maxHeartbeats 4000000 in
set_option maxRecDepth 100000 in
theorem wm_ones_4 {p : Program} {l : Launch} {e : Env} {s : State} {m : MethodId} {args : Array Value} {below : List Frame} {meth : Method} {c : Code} (C0 : gC cX4_ones 3 (some .int) wsX4_ones RX4 p s m args meth c) {rs : Int32} : ∀ (fu : Nat) (x0 : Int32) (x1 : Int32) (x2 : Int32) (ls : Array Slot), lv_has ls 3 [(0, .int x0), (1, .int x1), (2, .int x2)] → fm_ones_4 fu x0 x1 x2 = some rs → W p l e { frames := 0, cells := 0, slots := 0, locals := 0 } s m args below meth c s.heap [] 0 0 (MQ below (qS rs) args s 0 0 (fun _ => False)) (F0 m 4 ls []) := by
  obtain ⟨hx, hb, hr, hml, hown, hts, hlk⟩ := id C0
  intro fu
  induction fu with
  | zero =>
    intro x0 x1 x2 ls hl hf
    rw [fm_ones_4] at hf
    exact no_n hf
  | succ fu ih =>
    intro x0 x1 x2 ls hl hf
    rw [fm_ones_4] at hf
    refine lv_iload_n hx hb dX4_ones_4 rfl (lv_at hl 2 rfl) ?_
    refine lv_bipush (v := 10) hx hb dX4_ones_5 (by decide) ?_
    refine lv_icmp_ge (tgt := 24) hx hb dX4_ones_7 (by decide) (fun c7 => ?_) (fun c7 => ?_)
    · replace hf := if_t hf c7
      refine lv_iload_n hx hb dX4_ones_24 rfl (lv_at hl 1 rfl) ?_
      exact z_sret hx hb hr hlk hf dX4_ones_25
    · replace hf := if_f hf c7
      refine lv_iload_n hx hb dX4_ones_10 rfl (lv_at hl 1 rfl) ?_
      refine lv_iload_n hx hb dX4_ones_11 rfl (lv_at hl 0 rfl) ?_
      refine lv_iload_n hx hb dX4_ones_12 rfl (lv_at hl 2 rfl) ?_
      refine lv_ishr hx hb dX4_ones_13 ?_
      refine lv_iconst (v := 1) hx hb dX4_ones_14 (by decide) ?_
      refine lv_iand hx hb dX4_ones_15 ?_
      refine lv_iadd hx hb dX4_ones_16 ?_
      refine lv_topi (fun v17 e17 => ?_)
      replace hf := lb_e hf e17
      refine lv_istore_n (lv' := [(1, .int v17), (0, .int x0), (2, .int x2)]) hx hb dX4_ones_17 rfl hl (by decide) rfl (fun ls hl => ?_)
      refine lv_iinc (v := (x2 + 1)) (lv' := [(2, .int (x2 + 1)), (1, .int v17), (0, .int x0)]) hx hb dX4_ones_18 hl (k := 2) rfl rfl (by decide) rfl (fun ls hl => ?_)
      refine lv_goto (tgt := 4) hx hb dX4_ones_21 (by decide) ?_
      exact ih _ _ _ _ (lv_sub hl [2, 1, 0] rfl) hf
set_option maxHeartbeats 4000000 in
set_option maxRecDepth 100000 in
theorem wm_ones_0 {p : Program} {l : Launch} {e : Env} {s : State} {m : MethodId} {args : Array Value} {below : List Frame} {meth : Method} {c : Code} (C0 : gC cX4_ones 3 (some .int) wsX4_ones RX4 p s m args meth c) {rs : Int32} : ∀ (x0 : Int32) (ls : Array Slot), lv_has ls 3 [(0, .int x0)] → fm_ones x0 = some rs → W p l e { frames := 0, cells := 0, slots := 0, locals := 0 } s m args below meth c s.heap [] 0 0 (MQ below (qS rs) args s 0 0 (fun _ => False)) (F0 m 0 ls []) := by
  obtain ⟨hx, hb, hr, hml, hown, hts, hlk⟩ := id C0
  intro x0 ls hl hf
  unfold fm_ones at hf
  refine lv_iconst (v := 0) hx hb dX4_ones_0 (by decide) ?_
  refine lv_istore_n (lv' := [(1, .int 0), (0, .int x0)]) hx hb dX4_ones_1 rfl hl (by decide) rfl (fun ls hl => ?_)
  refine lv_iconst (v := 0) hx hb dX4_ones_2 (by decide) ?_
  refine lv_istore_n (lv' := [(2, .int 0), (1, .int 0), (0, .int x0)]) hx hb dX4_ones_3 rfl hl (by decide) rfl (fun ls hl => ?_)
  exact wm_ones_4 C0 _ _ _ _ _ (lv_sub hl [2, 1, 0] rfl) hf
set_option maxHeartbeats 4000000 in
set_option maxRecDepth 100000 in
theorem km_ones (l : Launch) (x0 : Int32) {rs : Int32} (hf : fm_ones x0 = some rs) : Met l yX4_ones wsX4_ones ({ frames := 0, cells := 0, slots := 0, locals := 0 }) (va_Pc [.int x0] (fun _ => True)) (qS rs) 0 0 (fun _ => False) := by
  refine g_met (cc := cX4_ones) (nL := 3) (ret := (some .int)) (by decide) rfl (Nat.le_of_ble_eq_true rfl) (fun p e s m below meth c ls C0 _ hl => ?_)
  exact wm_ones_0 C0 _ ls (lv_sub hl [0] rfl) hf
set_option maxRecDepth 20000 in
theorem ggX4_write_X4_in : GoodIn wsX4_write wsX4_in := goodIn_r _ [7] (by decide +kernel) (by decide +kernel)
set_option maxRecDepth 20000 in
theorem gX4_write_X4_in : GoodIn wsX4_write (va_wsS RX4 46 yX4_in wsX4_in) := goodIn_app (goodIn_of _ (by decide +kernel)) ggX4_write_X4_in
theorem dX4_write_0 : decode cX4_write 0 = .ok (.iload_n 1, 1) := by decide +kernel
theorem dX4_write_1 : decode cX4_write 1 = .ok (.i2l, 1) := by decide +kernel
theorem dX4_write_2 : decode cX4_write 2 = .ok (.lconst 0, 1) := by decide +kernel
theorem dX4_write_3 : decode cX4_write 3 = .ok (.ldc2_w 44, 3) := by decide +kernel
theorem dX4_write_6 : decode cX4_write 6 = .ok (.invokestatic 46, 3) := by decide +kernel
theorem dX4_write_9 : decode cX4_write 9 = .ok (.ifCond .ne 6, 3) := by decide +kernel
theorem dX4_write_12 : decode cX4_write 12 = .ok (.bipush (-2), 2) := by decide +kernel
theorem dX4_write_14 : decode cX4_write 14 = .ok (.ireturn, 1) := by decide +kernel
theorem dX4_write_15 : decode cX4_write 15 = .ok (.aload_n 0, 1) := by decide +kernel
theorem dX4_write_16 : decode cX4_write 16 = .ok (.getfield 50, 3) := by decide +kernel
theorem dX4_write_19 : decode cX4_write 19 = .ok (.bipush 40, 2) := by decide +kernel
theorem dX4_write_21 : decode cX4_write 21 = .ok (.if_icmp .ne 6, 3) := by decide +kernel
theorem dX4_write_24 : decode cX4_write 24 = .ok (.bipush (-4), 2) := by decide +kernel
theorem dX4_write_26 : decode cX4_write 26 = .ok (.ireturn, 1) := by decide +kernel
theorem dX4_write_27 : decode cX4_write 27 = .ok (.aload_n 0, 1) := by decide +kernel
theorem dX4_write_28 : decode cX4_write 28 = .ok (.getfield 22, 3) := by decide +kernel
theorem dX4_write_31 : decode cX4_write 31 = .ok (.aload_n 0, 1) := by decide +kernel
theorem dX4_write_32 : decode cX4_write 32 = .ok (.getfield 50, 3) := by decide +kernel
theorem dX4_write_35 : decode cX4_write 35 = .ok (.iload_n 1, 1) := by decide +kernel
theorem dX4_write_36 : decode cX4_write 36 = .ok (.iastore, 1) := by decide +kernel
theorem dX4_write_37 : decode cX4_write 37 = .ok (.aload_n 0, 1) := by decide +kernel
theorem dX4_write_38 : decode cX4_write 38 = .ok (.dup, 1) := by decide +kernel
theorem dX4_write_39 : decode cX4_write 39 = .ok (.getfield 50, 3) := by decide +kernel
theorem dX4_write_42 : decode cX4_write 42 = .ok (.iconst 1, 1) := by decide +kernel
theorem dX4_write_43 : decode cX4_write 43 = .ok (.iadd, 1) := by decide +kernel
theorem dX4_write_44 : decode cX4_write 44 = .ok (.putfield 50, 3) := by decide +kernel
theorem dX4_write_47 : decode cX4_write 47 = .ok (.aload_n 0, 1) := by decide +kernel
theorem dX4_write_48 : decode cX4_write 48 = .ok (.getfield 50, 3) := by decide +kernel
theorem dX4_write_51 : decode cX4_write 51 = .ok (.ireturn, 1) := by decide +kernel
set_option maxRecDepth 20000 in
theorem hiX4_write_X4 : ∀ w ∈ u_ws RX4 TX4 24, w ∈ wsX4_write := by decide +kernel
set_option maxHeartbeats 4000000 in
set_option maxRecDepth 100000 in
theorem wm_write_0 {p : Program} {l : Launch} {e : Env} {s : State} {m : MethodId} {args : Array Value} {below : List Frame} {meth : Method} {c : Code} {D : va_G} {L : Nat → Nat} {K : Nat → ClassId} (hJ : gj L 12) (C0 : gC cX4_write 2 (some .int) wsX4_write RX4 p s m args meth c) (hK : va_K D vwCl (tyG K) s) (hE : eM s) {w9 : St} {rs : Int32} : ∀ (x1 : Int32) (w : St) (H : Heap) (locs : List Loc) (ls : Array Slot), va_P D vwCl (gl L 12 (cM L K w)) H → va_S (gA L 12) s.heap H locs → lv_has ls 2 [(0, .ref (L 0)), (1, .int x1)] → fm_write x1 w = some (rs, w9) → W p l e { frames := 1, cells := 0, slots := 0, locals := 25 } s m args below meth c H locs 0 0 (MQ below (qI D L 12 (cM L K) rs w9) args s 0 0 (gA L 12)) (F0 m 0 ls []) := by
  obtain ⟨hx, hb, hr, hml, hown, hts, hlk⟩ := id C0
  intro x1 w H locs ls hw hS hl hf
  unfold fm_write at hf
  refine lv_iload_n hx hb dX4_write_0 rfl (lv_at hl 1 rfl) ?_
  refine lv_i2l (v := x1.toInt64) hx hb dX4_write_1 rfl ?_
  refine lv_lconst (v := 0) hx hb dX4_write_2 (by decide) ?_
  refine lv_ldc2 (v := 255) hx hb hown (hts (.constantLong RX4 44 255) (by decide +kernel)) dX4_write_3 ?_
  obtain ⟨v6, h6, hf⟩ := bd_e hf
  refine z_calls (va_runS (As := [.long (x1.toInt64), .long 0, .long 255]) (rest := []) ⟨hx, hb, hml, hown, hts⟩ (km_in l (x1.toInt64) 0 255 h6) (va_cwS 3 hts gX4_write_X4_in rfl rfl rfl (by decide +kernel) ⟨Nat.le_of_ble_eq_true rfl, Nat.le_of_ble_eq_true rfl⟩) z_preT rfl rfl hl.1 rfl (lv_room (Nat.le_of_ble_eq_true rfl)) dX4_write_6 ⟨Nat.le_of_ble_eq_true rfl, Nat.le_of_ble_eq_true rfl⟩) ?_
  refine lv_if_ne (tgt := 15) hx hb dX4_write_9 (by decide) (fun c9 => ?_) (fun c9 => ?_)
  · replace hf := if_f hf c9
    refine lv_aload_n hx hb dX4_write_15 rfl (lv_at hl 0 rfl) ?_
    refine z_get (v := .int (w.1 0 9)) hx hb hts hiX4_write_X4 hown hK hw (k := 0) (by decide) ((fun w => rfl) _) rfl 9 (by decide) (hts (.fieldLink RX4 50 "OneSentenceModel" "length" "I") (by decide +kernel)) rfl dX4_write_16 ?_
    refine lv_bipush (v := 40) hx hb dX4_write_19 (by decide) ?_
    refine lv_icmp_ne (tgt := 27) hx hb dX4_write_21 (by decide) (fun c21 => ?_) (fun c21 => ?_)
    · replace hf := if_f hf c21
      refine lv_aload_n hx hb dX4_write_27 rfl (lv_at hl 0 rfl) ?_
      refine z_get (v := .ref (L 5)) hx hb hts hiX4_write_X4 hown hK hw (k := 0) (by decide) ((fun w => rfl) _) rfl 8 (by decide) (hts (.fieldLink RX4 22 "OneSentenceModel" "text" "[I") (by decide +kernel)) rfl dX4_write_28 ?_
      refine lv_aload_n hx hb dX4_write_31 rfl (lv_at hl 0 rfl) ?_
      refine z_get (v := .int (w.1 0 9)) hx hb hts hiX4_write_X4 hown hK hw (k := 0) (by decide) ((fun w => rfl) _) rfl 9 (by decide) (hts (.fieldLink RX4 50 "OneSentenceModel" "length" "I") (by decide +kernel)) rfl dX4_write_32 ?_
      refine lv_iload_n hx hb dX4_write_35 rfl (lv_at hl 1 rfl) ?_
      obtain ⟨w36, h36, hf⟩ := bd_e hf
      refine z_iast hx hb hK hJ hw hS 0 (k := 5) (by decide) cM_ne (fun w => rfl) rfl h36 dX4_write_36 (fun H locs hw hS => ?_)
      refine lv_aload_n hx hb dX4_write_37 rfl (lv_at hl 0 rfl) ?_
      refine lv_dup hx hb dX4_write_38 rfl ?_
      refine z_get (v := .int (w36.1 0 9)) hx hb hts hiX4_write_X4 hown hK hw (k := 0) (by decide) ((fun w => rfl) _) rfl 9 (by decide) (hts (.fieldLink RX4 50 "OneSentenceModel" "length" "I") (by decide +kernel)) rfl dX4_write_39 ?_
      refine lv_iconst (v := 1) hx hb dX4_write_42 (by decide) ?_
      refine lv_iadd hx hb dX4_write_43 ?_
      refine z_puti hx hb hts hiX4_write_X4 tyX4 tyX4_ok nmX4 hown hK hJ hw hS (k := 0) (by decide) cM_ne (fs := fM0 L) (fun w => rfl) rfl 9 (by decide) (hts (.fieldLink RX4 50 "OneSentenceModel" "length" "I") (by decide +kernel)) rfl rfl (fun _ _ => ⟨Nat.le_of_ble_eq_true rfl, rfl⟩) dX4_write_44 (fun H locs hw hS => ?_)
      refine lv_aload_n hx hb dX4_write_47 rfl (lv_at hl 0 rfl) ?_
      refine z_get (v := .int ((wr w36 0 9 ((w36.1 0 9) + (1 : Int32))).1 0 9)) hx hb hts hiX4_write_X4 hown hK hw (k := 0) (by decide) ((fun w => rfl) _) rfl 9 (by decide) (hts (.fieldLink RX4 50 "OneSentenceModel" "length" "I") (by decide +kernel)) rfl dX4_write_48 ?_
      exact z_iret hx hb hr hlk hw hS hf dX4_write_51
    · replace hf := if_t hf c21
      refine lv_bipush (v := (-4)) hx hb dX4_write_24 (by decide) ?_
      exact z_iret hx hb hr hlk hw hS hf dX4_write_26
  · replace hf := if_t hf c9
    refine lv_bipush (v := (-2)) hx hb dX4_write_12 (by decide) ?_
    exact z_iret hx hb hr hlk hw hS hf dX4_write_14
set_option maxHeartbeats 4000000 in
set_option maxRecDepth 100000 in
theorem km_write (l : Launch) {D : va_G} {L : Nat → Nat} {K : Nat → ClassId} (hJ : gj L 12) (x1 : Int32) (w : St) {w9 : St} {rs : Int32} (hf : fm_write x1 w = some (rs, w9)) : Met l yX4_write wsX4_write ({ frames := 1, cells := 0, slots := 0, locals := 25 }) (va_Pc [.ref (L 0), .int x1] (mP D L K w)) (qI D L 12 (cM L K) rs w9) 0 0 (gA L 12) := by
  refine g_met (cc := cX4_write) (nL := 2) (ret := (some .int)) (by decide) rfl (Nat.le_of_ble_eq_true rfl) (fun p e s m below meth c ls C0 hP hl => ?_)
  exact wm_write_0 hJ C0 hP.2.1 hP.2.2 _ w _ _ ls hP.1 va_S.rf (lv_sub hl [0, 1] rfl) hf
theorem dX4_wipe_0 : decode cX4_wipe 0 = .ok (.aload_n 0, 1) := by decide +kernel
theorem dX4_wipe_1 : decode cX4_wipe 1 = .ok (.getfield 50, 3) := by decide +kernel
theorem dX4_wipe_4 : decode cX4_wipe 4 = .ok (.istore_n 1, 1) := by decide +kernel
theorem dX4_wipe_5 : decode cX4_wipe 5 = .ok (.aload_n 0, 1) := by decide +kernel
theorem dX4_wipe_6 : decode cX4_wipe 6 = .ok (.iconst 0, 1) := by decide +kernel
theorem dX4_wipe_7 : decode cX4_wipe 7 = .ok (.putfield 50, 3) := by decide +kernel
theorem dX4_wipe_10 : decode cX4_wipe 10 = .ok (.iload_n 1, 1) := by decide +kernel
theorem dX4_wipe_11 : decode cX4_wipe 11 = .ok (.ireturn, 1) := by decide +kernel
set_option maxRecDepth 20000 in
theorem hiX4_wipe_X4 : ∀ w ∈ u_ws RX4 TX4 24, w ∈ wsX4_wipe := by decide +kernel
set_option maxHeartbeats 4000000 in
set_option maxRecDepth 100000 in
theorem wm_wipe_0 {p : Program} {l : Launch} {e : Env} {s : State} {m : MethodId} {args : Array Value} {below : List Frame} {meth : Method} {c : Code} {D : va_G} {L : Nat → Nat} {K : Nat → ClassId} (hJ : gj L 12) (C0 : gC cX4_wipe 2 (some .int) wsX4_wipe RX4 p s m args meth c) (hK : va_K D vwCl (tyG K) s) (hE : eM s) {w9 : St} {rs : Int32} : ∀ (w : St) (H : Heap) (locs : List Loc) (ls : Array Slot), va_P D vwCl (gl L 12 (cM L K w)) H → va_S (gA L 12) s.heap H locs → lv_has ls 2 [(0, .ref (L 0))] → fm_wipe w = some (rs, w9) → W p l e { frames := 0, cells := 0, slots := 0, locals := 0 } s m args below meth c H locs 0 0 (MQ below (qI D L 12 (cM L K) rs w9) args s 0 0 (gA L 12)) (F0 m 0 ls []) := by
  obtain ⟨hx, hb, hr, hml, hown, hts, hlk⟩ := id C0
  intro w H locs ls hw hS hl hf
  unfold fm_wipe at hf
  refine lv_aload_n hx hb dX4_wipe_0 rfl (lv_at hl 0 rfl) ?_
  refine z_get (v := .int (w.1 0 9)) hx hb hts hiX4_wipe_X4 hown hK hw (k := 0) (by decide) ((fun w => rfl) _) rfl 9 (by decide) (hts (.fieldLink RX4 50 "OneSentenceModel" "length" "I") (by decide +kernel)) rfl dX4_wipe_1 ?_
  refine lv_topi (fun v4 e4 => ?_)
  replace hf := lb_e hf e4
  refine lv_istore_n (lv' := [(1, .int v4), (0, .ref (L 0))]) hx hb dX4_wipe_4 rfl hl (by decide) rfl (fun ls hl => ?_)
  refine lv_aload_n hx hb dX4_wipe_5 rfl (lv_at hl 1 rfl) ?_
  refine lv_iconst (v := 0) hx hb dX4_wipe_6 (by decide) ?_
  refine z_puti hx hb hts hiX4_wipe_X4 tyX4 tyX4_ok nmX4 hown hK hJ hw hS (k := 0) (by decide) cM_ne (fs := fM0 L) (fun w => rfl) rfl 9 (by decide) (hts (.fieldLink RX4 50 "OneSentenceModel" "length" "I") (by decide +kernel)) rfl rfl (fun _ _ => ⟨Nat.le_of_ble_eq_true rfl, rfl⟩) dX4_wipe_7 (fun H locs hw hS => ?_)
  refine lv_iload_n hx hb dX4_wipe_10 rfl (lv_at hl 0 rfl) ?_
  exact z_iret hx hb hr hlk hw hS hf dX4_wipe_11
set_option maxHeartbeats 4000000 in
set_option maxRecDepth 100000 in
theorem km_wipe (l : Launch) {D : va_G} {L : Nat → Nat} {K : Nat → ClassId} (hJ : gj L 12) (w : St) {w9 : St} {rs : Int32} (hf : fm_wipe w = some (rs, w9)) : Met l yX4_wipe wsX4_wipe ({ frames := 0, cells := 0, slots := 0, locals := 0 }) (va_Pc [.ref (L 0)] (mP D L K w)) (qI D L 12 (cM L K) rs w9) 0 0 (gA L 12) := by
  refine g_met (cc := cX4_wipe) (nL := 2) (ret := (some .int)) (by decide) rfl (Nat.le_of_ble_eq_true rfl) (fun p e s m below meth c ls C0 hP hl => ?_)
  exact wm_wipe_0 hJ C0 hP.2.1 hP.2.2 w _ _ ls hP.1 va_S.rf (lv_sub hl [0] rfl) hf
set_option maxRecDepth 20000 in
theorem ggX4_figure_X4_in : GoodIn wsX4_figure wsX4_in := goodIn_r _ [8] (by decide +kernel) (by decide +kernel)
set_option maxRecDepth 20000 in
theorem gX4_figure_X4_in : GoodIn wsX4_figure (va_wsS RX4 46 yX4_in wsX4_in) := goodIn_app (goodIn_of _ (by decide +kernel)) ggX4_figure_X4_in
theorem dX4_figure_0 : decode cX4_figure 0 = .ok (.aload_n 0, 1) := by decide +kernel
theorem dX4_figure_1 : decode cX4_figure 1 = .ok (.getfield 54, 3) := by decide +kernel
theorem dX4_figure_4 : decode cX4_figure 4 = .ok (.bipush (-9), 2) := by decide +kernel
theorem dX4_figure_6 : decode cX4_figure 6 = .ok (.if_icmp .ne 29, 3) := by decide +kernel
theorem dX4_figure_9 : decode cX4_figure 9 = .ok (.aload_n 0, 1) := by decide +kernel
theorem dX4_figure_10 : decode cX4_figure 10 = .ok (.getfield 57, 3) := by decide +kernel
theorem dX4_figure_13 : decode cX4_figure 13 = .ok (.aload_n 0, 1) := by decide +kernel
theorem dX4_figure_14 : decode cX4_figure 14 = .ok (.getfield 50, 3) := by decide +kernel
theorem dX4_figure_17 : decode cX4_figure 17 = .ok (.if_icmp .ge 18, 3) := by decide +kernel
theorem dX4_figure_20 : decode cX4_figure 20 = .ok (.aload_n 0, 1) := by decide +kernel
theorem dX4_figure_21 : decode cX4_figure 21 = .ok (.getfield 22, 3) := by decide +kernel
theorem dX4_figure_24 : decode cX4_figure 24 = .ok (.aload_n 0, 1) := by decide +kernel
theorem dX4_figure_25 : decode cX4_figure 25 = .ok (.getfield 57, 3) := by decide +kernel
theorem dX4_figure_28 : decode cX4_figure 28 = .ok (.iaload, 1) := by decide +kernel
theorem dX4_figure_29 : decode cX4_figure 29 = .ok (.bipush 48, 2) := by decide +kernel
theorem dX4_figure_31 : decode cX4_figure 31 = .ok (.isub, 1) := by decide +kernel
theorem dX4_figure_32 : decode cX4_figure 32 = .ok (.goto 5, 3) := by decide +kernel
theorem dX4_figure_35 : decode cX4_figure 35 = .ok (.bipush (-9), 2) := by decide +kernel
theorem dX4_figure_37 : decode cX4_figure 37 = .ok (.istore_n 2, 1) := by decide +kernel
theorem dX4_figure_38 : decode cX4_figure 38 = .ok (.iload_n 2, 1) := by decide +kernel
theorem dX4_figure_39 : decode cX4_figure 39 = .ok (.i2l, 1) := by decide +kernel
theorem dX4_figure_40 : decode cX4_figure 40 = .ok (.lconst 0, 1) := by decide +kernel
theorem dX4_figure_41 : decode cX4_figure 41 = .ok (.iload_n 1, 1) := by decide +kernel
theorem dX4_figure_42 : decode cX4_figure 42 = .ok (.i2l, 1) := by decide +kernel
theorem dX4_figure_43 : decode cX4_figure 43 = .ok (.invokestatic 46, 3) := by decide +kernel
theorem dX4_figure_46 : decode cX4_figure 46 = .ok (.ifCond .ne 29, 3) := by decide +kernel
theorem dX4_figure_49 : decode cX4_figure 49 = .ok (.aload_n 0, 1) := by decide +kernel
theorem dX4_figure_50 : decode cX4_figure 50 = .ok (.aload_n 0, 1) := by decide +kernel
theorem dX4_figure_51 : decode cX4_figure 51 = .ok (.getfield 54, 3) := by decide +kernel
theorem dX4_figure_54 : decode cX4_figure 54 = .ok (.bipush (-9), 2) := by decide +kernel
theorem dX4_figure_56 : decode cX4_figure 56 = .ok (.if_icmp .ne 10, 3) := by decide +kernel
theorem dX4_figure_59 : decode cX4_figure 59 = .ok (.aload_n 0, 1) := by decide +kernel
theorem dX4_figure_60 : decode cX4_figure 60 = .ok (.getfield 57, 3) := by decide +kernel
theorem dX4_figure_63 : decode cX4_figure 63 = .ok (.goto 7, 3) := by decide +kernel
theorem dX4_figure_66 : decode cX4_figure 66 = .ok (.aload_n 0, 1) := by decide +kernel
theorem dX4_figure_67 : decode cX4_figure 67 = .ok (.getfield 54, 3) := by decide +kernel
theorem dX4_figure_70 : decode cX4_figure 70 = .ok (.putfield 54, 3) := by decide +kernel
theorem dX4_figure_73 : decode cX4_figure 73 = .ok (.iconst 0, 1) := by decide +kernel
theorem dX4_figure_74 : decode cX4_figure 74 = .ok (.ireturn, 1) := by decide +kernel
theorem dX4_figure_75 : decode cX4_figure 75 = .ok (.aload_n 0, 1) := by decide +kernel
theorem dX4_figure_76 : decode cX4_figure 76 = .ok (.dup, 1) := by decide +kernel
theorem dX4_figure_77 : decode cX4_figure 77 = .ok (.getfield 57, 3) := by decide +kernel
theorem dX4_figure_80 : decode cX4_figure 80 = .ok (.iconst 1, 1) := by decide +kernel
theorem dX4_figure_81 : decode cX4_figure 81 = .ok (.iadd, 1) := by decide +kernel
theorem dX4_figure_82 : decode cX4_figure 82 = .ok (.putfield 57, 3) := by decide +kernel
theorem dX4_figure_85 : decode cX4_figure 85 = .ok (.iload_n 2, 1) := by decide +kernel
theorem dX4_figure_86 : decode cX4_figure 86 = .ok (.ireturn, 1) := by decide +kernel
set_option maxRecDepth 20000 in
theorem hiX4_figure_X4 : ∀ w ∈ u_ws RX4 TX4 24, w ∈ wsX4_figure := by decide +kernel
set_option maxHeartbeats 4000000 in
set_option maxRecDepth 100000 in
theorem wm_figure_70 {p : Program} {l : Launch} {e : Env} {s : State} {m : MethodId} {args : Array Value} {below : List Frame} {meth : Method} {c : Code} {D : va_G} {L : Nat → Nat} {K : Nat → ClassId} (hJ : gj L 12) (C0 : gC cX4_figure 3 (some .int) wsX4_figure RX4 p s m args meth c) (hK : va_K D vwCl (tyG K) s) (hE : eM s) {w9 : St} {rs : Int32} : ∀ (s1 : Int32) (w : St) (H : Heap) (locs : List Loc) (ls : Array Slot), va_P D vwCl (gl L 12 (cM L K w)) H → va_S (gA L 12) s.heap H locs → lv_has ls 3 [] → fm_figure_70 s1 w = some (rs, w9) → W p l e { frames := 1, cells := 0, slots := 0, locals := 25 } s m args below meth c H locs 0 0 (MQ below (qI D L 12 (cM L K) rs w9) args s 0 0 (gA L 12)) (F0 m 70 ls [.int s1, .ref (L 0)]) := by
  obtain ⟨hx, hb, hr, hml, hown, hts, hlk⟩ := id C0
  intro s1 w H locs ls hw hS hl hf
  unfold fm_figure_70 at hf
  refine z_puti hx hb hts hiX4_figure_X4 tyX4 tyX4_ok nmX4 hown hK hJ hw hS (k := 0) (by decide) cM_ne (fs := fM0 L) (fun w => rfl) rfl 11 (by decide) (hts (.fieldLink RX4 54 "OneSentenceModel" "faultAt" "I") (by decide +kernel)) rfl rfl (fun _ _ => ⟨Nat.le_of_ble_eq_true rfl, rfl⟩) dX4_figure_70 (fun H locs hw hS => ?_)
  refine lv_iconst (v := 0) hx hb dX4_figure_73 (by decide) ?_
  exact z_iret hx hb hr hlk hw hS hf dX4_figure_74
set_option maxHeartbeats 4000000 in
set_option maxRecDepth 100000 in
theorem wm_figure_37 {p : Program} {l : Launch} {e : Env} {s : State} {m : MethodId} {args : Array Value} {below : List Frame} {meth : Method} {c : Code} {D : va_G} {L : Nat → Nat} {K : Nat → ClassId} (hJ : gj L 12) (C0 : gC cX4_figure 3 (some .int) wsX4_figure RX4 p s m args meth c) (hK : va_K D vwCl (tyG K) s) (hE : eM s) {w9 : St} {rs : Int32} : ∀ (x1 : Int32) (s0 : Int32) (w : St) (H : Heap) (locs : List Loc) (ls : Array Slot), va_P D vwCl (gl L 12 (cM L K w)) H → va_S (gA L 12) s.heap H locs → lv_has ls 3 [(0, .ref (L 0)), (1, .int x1)] → fm_figure_37 x1 s0 w = some (rs, w9) → W p l e { frames := 1, cells := 0, slots := 0, locals := 25 } s m args below meth c H locs 0 0 (MQ below (qI D L 12 (cM L K) rs w9) args s 0 0 (gA L 12)) (F0 m 37 ls [.int s0]) := by
  obtain ⟨hx, hb, hr, hml, hown, hts, hlk⟩ := id C0
  intro x1 s0 w H locs ls hw hS hl hf
  unfold fm_figure_37 at hf
  refine lv_istore_n (lv' := [(2, .int s0), (0, .ref (L 0)), (1, .int x1)]) hx hb dX4_figure_37 rfl hl (by decide) rfl (fun ls hl => ?_)
  refine lv_iload_n hx hb dX4_figure_38 rfl (lv_at hl 0 rfl) ?_
  refine lv_i2l (v := s0.toInt64) hx hb dX4_figure_39 rfl ?_
  refine lv_lconst (v := 0) hx hb dX4_figure_40 (by decide) ?_
  refine lv_iload_n hx hb dX4_figure_41 rfl (lv_at hl 2 rfl) ?_
  refine lv_i2l (v := x1.toInt64) hx hb dX4_figure_42 rfl ?_
  obtain ⟨v43, h43, hf⟩ := bd_e hf
  refine z_calls (va_runS (As := [.long (s0.toInt64), .long 0, .long (x1.toInt64)]) (rest := []) ⟨hx, hb, hml, hown, hts⟩ (km_in l (s0.toInt64) 0 (x1.toInt64) h43) (va_cwS 3 hts gX4_figure_X4_in rfl rfl rfl (by decide +kernel) ⟨Nat.le_of_ble_eq_true rfl, Nat.le_of_ble_eq_true rfl⟩) z_preT rfl rfl hl.1 rfl (lv_room (Nat.le_of_ble_eq_true rfl)) dX4_figure_43 ⟨Nat.le_of_ble_eq_true rfl, Nat.le_of_ble_eq_true rfl⟩) ?_
  refine lv_if_ne (tgt := 75) hx hb dX4_figure_46 (by decide) (fun c46 => ?_) (fun c46 => ?_)
  · replace hf := if_f hf c46
    refine lv_aload_n hx hb dX4_figure_75 rfl (lv_at hl 1 rfl) ?_
    refine lv_dup hx hb dX4_figure_76 rfl ?_
    refine z_get (v := .int (w.1 0 10)) hx hb hts hiX4_figure_X4 hown hK hw (k := 0) (by decide) ((fun w => rfl) _) rfl 10 (by decide) (hts (.fieldLink RX4 57 "OneSentenceModel" "at" "I") (by decide +kernel)) rfl dX4_figure_77 ?_
    refine lv_iconst (v := 1) hx hb dX4_figure_80 (by decide) ?_
    refine lv_iadd hx hb dX4_figure_81 ?_
    refine z_puti hx hb hts hiX4_figure_X4 tyX4 tyX4_ok nmX4 hown hK hJ hw hS (k := 0) (by decide) cM_ne (fs := fM0 L) (fun w => rfl) rfl 10 (by decide) (hts (.fieldLink RX4 57 "OneSentenceModel" "at" "I") (by decide +kernel)) rfl rfl (fun _ _ => ⟨Nat.le_of_ble_eq_true rfl, rfl⟩) dX4_figure_82 (fun H locs hw hS => ?_)
    refine lv_iload_n hx hb dX4_figure_85 rfl (lv_at hl 0 rfl) ?_
    exact z_iret hx hb hr hlk hw hS hf dX4_figure_86
  · replace hf := if_t hf c46
    refine lv_aload_n hx hb dX4_figure_49 rfl (lv_at hl 1 rfl) ?_
    refine lv_aload_n hx hb dX4_figure_50 rfl (lv_at hl 1 rfl) ?_
    refine z_get (v := .int (w.1 0 11)) hx hb hts hiX4_figure_X4 hown hK hw (k := 0) (by decide) ((fun w => rfl) _) rfl 11 (by decide) (hts (.fieldLink RX4 54 "OneSentenceModel" "faultAt" "I") (by decide +kernel)) rfl dX4_figure_51 ?_
    refine lv_bipush (v := (-9)) hx hb dX4_figure_54 (by decide) ?_
    refine lv_icmp_ne (tgt := 66) hx hb dX4_figure_56 (by decide) (fun c56 => ?_) (fun c56 => ?_)
    · replace hf := if_f hf c56
      refine lv_aload_n hx hb dX4_figure_66 rfl (lv_at hl 1 rfl) ?_
      refine z_get (v := .int (w.1 0 11)) hx hb hts hiX4_figure_X4 hown hK hw (k := 0) (by decide) ((fun w => rfl) _) rfl 11 (by decide) (hts (.fieldLink RX4 54 "OneSentenceModel" "faultAt" "I") (by decide +kernel)) rfl dX4_figure_67 ?_
      exact wm_figure_70 hJ C0 hK hE _ _ _ _ _ hw hS (lv_sub hl [] rfl) hf
    · replace hf := if_t hf c56
      refine lv_aload_n hx hb dX4_figure_59 rfl (lv_at hl 1 rfl) ?_
      refine z_get (v := .int (w.1 0 10)) hx hb hts hiX4_figure_X4 hown hK hw (k := 0) (by decide) ((fun w => rfl) _) rfl 10 (by decide) (hts (.fieldLink RX4 57 "OneSentenceModel" "at" "I") (by decide +kernel)) rfl dX4_figure_60 ?_
      refine lv_goto (tgt := 70) hx hb dX4_figure_63 (by decide) ?_
      exact wm_figure_70 hJ C0 hK hE _ _ _ _ _ hw hS (lv_sub hl [] rfl) hf
set_option maxHeartbeats 4000000 in
set_option maxRecDepth 100000 in
theorem wm_figure_35 {p : Program} {l : Launch} {e : Env} {s : State} {m : MethodId} {args : Array Value} {below : List Frame} {meth : Method} {c : Code} {D : va_G} {L : Nat → Nat} {K : Nat → ClassId} (hJ : gj L 12) (C0 : gC cX4_figure 3 (some .int) wsX4_figure RX4 p s m args meth c) (hK : va_K D vwCl (tyG K) s) (hE : eM s) {w9 : St} {rs : Int32} : ∀ (x1 : Int32) (w : St) (H : Heap) (locs : List Loc) (ls : Array Slot), va_P D vwCl (gl L 12 (cM L K w)) H → va_S (gA L 12) s.heap H locs → lv_has ls 3 [(0, .ref (L 0)), (1, .int x1)] → fm_figure_35 x1 w = some (rs, w9) → W p l e { frames := 1, cells := 0, slots := 0, locals := 25 } s m args below meth c H locs 0 0 (MQ below (qI D L 12 (cM L K) rs w9) args s 0 0 (gA L 12)) (F0 m 35 ls []) := by
  obtain ⟨hx, hb, hr, hml, hown, hts, hlk⟩ := id C0
  intro x1 w H locs ls hw hS hl hf
  unfold fm_figure_35 at hf
  refine lv_bipush (v := (-9)) hx hb dX4_figure_35 (by decide) ?_
  exact wm_figure_37 hJ C0 hK hE _ _ _ _ _ _ hw hS (lv_sub hl [0, 1] rfl) hf
set_option maxHeartbeats 4000000 in
set_option maxRecDepth 100000 in
theorem wm_figure_0 {p : Program} {l : Launch} {e : Env} {s : State} {m : MethodId} {args : Array Value} {below : List Frame} {meth : Method} {c : Code} {D : va_G} {L : Nat → Nat} {K : Nat → ClassId} (hJ : gj L 12) (C0 : gC cX4_figure 3 (some .int) wsX4_figure RX4 p s m args meth c) (hK : va_K D vwCl (tyG K) s) (hE : eM s) {w9 : St} {rs : Int32} : ∀ (x1 : Int32) (w : St) (H : Heap) (locs : List Loc) (ls : Array Slot), va_P D vwCl (gl L 12 (cM L K w)) H → va_S (gA L 12) s.heap H locs → lv_has ls 3 [(0, .ref (L 0)), (1, .int x1)] → fm_figure x1 w = some (rs, w9) → W p l e { frames := 1, cells := 0, slots := 0, locals := 25 } s m args below meth c H locs 0 0 (MQ below (qI D L 12 (cM L K) rs w9) args s 0 0 (gA L 12)) (F0 m 0 ls []) := by
  obtain ⟨hx, hb, hr, hml, hown, hts, hlk⟩ := id C0
  intro x1 w H locs ls hw hS hl hf
  unfold fm_figure at hf
  refine lv_aload_n hx hb dX4_figure_0 rfl (lv_at hl 0 rfl) ?_
  refine z_get (v := .int (w.1 0 11)) hx hb hts hiX4_figure_X4 hown hK hw (k := 0) (by decide) ((fun w => rfl) _) rfl 11 (by decide) (hts (.fieldLink RX4 54 "OneSentenceModel" "faultAt" "I") (by decide +kernel)) rfl dX4_figure_1 ?_
  refine lv_bipush (v := (-9)) hx hb dX4_figure_4 (by decide) ?_
  refine lv_icmp_ne (tgt := 35) hx hb dX4_figure_6 (by decide) (fun c6 => ?_) (fun c6 => ?_)
  · replace hf := if_f hf c6
    exact wm_figure_35 hJ C0 hK hE _ _ _ _ _ hw hS (lv_sub hl [0, 1] rfl) hf
  · replace hf := if_t hf c6
    refine lv_aload_n hx hb dX4_figure_9 rfl (lv_at hl 0 rfl) ?_
    refine z_get (v := .int (w.1 0 10)) hx hb hts hiX4_figure_X4 hown hK hw (k := 0) (by decide) ((fun w => rfl) _) rfl 10 (by decide) (hts (.fieldLink RX4 57 "OneSentenceModel" "at" "I") (by decide +kernel)) rfl dX4_figure_10 ?_
    refine lv_aload_n hx hb dX4_figure_13 rfl (lv_at hl 0 rfl) ?_
    refine z_get (v := .int (w.1 0 9)) hx hb hts hiX4_figure_X4 hown hK hw (k := 0) (by decide) ((fun w => rfl) _) rfl 9 (by decide) (hts (.fieldLink RX4 50 "OneSentenceModel" "length" "I") (by decide +kernel)) rfl dX4_figure_14 ?_
    refine lv_icmp_ge (tgt := 35) hx hb dX4_figure_17 (by decide) (fun c17 => ?_) (fun c17 => ?_)
    · replace hf := if_t hf c17
      exact wm_figure_35 hJ C0 hK hE _ _ _ _ _ hw hS (lv_sub hl [0, 1] rfl) hf
    · replace hf := if_f hf c17
      refine lv_aload_n hx hb dX4_figure_20 rfl (lv_at hl 0 rfl) ?_
      refine z_get (v := .ref (L 5)) hx hb hts hiX4_figure_X4 hown hK hw (k := 0) (by decide) ((fun w => rfl) _) rfl 8 (by decide) (hts (.fieldLink RX4 22 "OneSentenceModel" "text" "[I") (by decide +kernel)) rfl dX4_figure_21 ?_
      refine lv_aload_n hx hb dX4_figure_24 rfl (lv_at hl 0 rfl) ?_
      refine z_get (v := .int (w.1 0 10)) hx hb hts hiX4_figure_X4 hown hK hw (k := 0) (by decide) ((fun w => rfl) _) rfl 10 (by decide) (hts (.fieldLink RX4 57 "OneSentenceModel" "at" "I") (by decide +kernel)) rfl dX4_figure_25 ?_
      obtain ⟨v28, h28, hf⟩ := bd_e hf
      refine z_iald hx hb hK hw 0 (k := 5) (by decide) ((fun w => rfl) _) rfl h28 dX4_figure_28 ?_
      refine lv_bipush (v := 48) hx hb dX4_figure_29 (by decide) ?_
      refine lv_isub hx hb dX4_figure_31 ?_
      refine lv_goto (tgt := 37) hx hb dX4_figure_32 (by decide) ?_
      exact wm_figure_37 hJ C0 hK hE _ _ _ _ _ _ hw hS (lv_sub hl [0, 1] rfl) hf
set_option maxHeartbeats 4000000 in
set_option maxRecDepth 100000 in
theorem km_figure (l : Launch) {D : va_G} {L : Nat → Nat} {K : Nat → ClassId} (hJ : gj L 12) (x1 : Int32) (w : St) {w9 : St} {rs : Int32} (hf : fm_figure x1 w = some (rs, w9)) : Met l yX4_figure wsX4_figure ({ frames := 1, cells := 0, slots := 0, locals := 25 }) (va_Pc [.ref (L 0), .int x1] (mP D L K w)) (qI D L 12 (cM L K) rs w9) 0 0 (gA L 12) := by
  refine g_met (cc := cX4_figure) (nL := 3) (ret := (some .int)) (by decide) rfl (Nat.le_of_ble_eq_true rfl) (fun p e s m below meth c ls C0 hP hl => ?_)
  exact wm_figure_0 hJ C0 hP.2.1 hP.2.2 _ w _ _ ls hP.1 va_S.rf (lv_sub hl [0, 1] rfl) hf
set_option maxRecDepth 20000 in
theorem ggX4_readText_X4_figure : GoodIn wsX4_readText wsX4_figure := goodIn_r _ [12, 2, 1, 4, 5, 13, 14, 11, 15, 16, 17, 18, 19, 20, 21, 22, 23, 24, 25, 26, 27, 28, 29, 30, 31, 32, 33, 34, 35, 36, 37, 38, 39] (by decide +kernel) (by decide +kernel)
set_option maxRecDepth 20000 in
theorem gX4_readText_X4_figure : GoodIn wsX4_readText (wsV RX4 63 RX4 yX4_figure wsX4_figure) := goodIn_app (goodIn_of _ (by decide +kernel)) ggX4_readText_X4_figure
theorem dX4_readText_0 : decode cX4_readText 0 = .ok (.aload_n 0, 1) := by decide +kernel
theorem dX4_readText_1 : decode cX4_readText 1 = .ok (.iconst 0, 1) := by decide +kernel
theorem dX4_readText_2 : decode cX4_readText 2 = .ok (.putfield 57, 3) := by decide +kernel
theorem dX4_readText_5 : decode cX4_readText 5 = .ok (.aload_n 0, 1) := by decide +kernel
theorem dX4_readText_6 : decode cX4_readText 6 = .ok (.bipush (-9), 2) := by decide +kernel
theorem dX4_readText_8 : decode cX4_readText 8 = .ok (.putfield 54, 3) := by decide +kernel
theorem dX4_readText_11 : decode cX4_readText 11 = .ok (.aload_n 0, 1) := by decide +kernel
theorem dX4_readText_12 : decode cX4_readText 12 = .ok (.iconst 0, 1) := by decide +kernel
theorem dX4_readText_13 : decode cX4_readText 13 = .ok (.putfield 60, 3) := by decide +kernel
theorem dX4_readText_16 : decode cX4_readText 16 = .ok (.aload_n 0, 1) := by decide +kernel
theorem dX4_readText_17 : decode cX4_readText 17 = .ok (.getfield 50, 3) := by decide +kernel
theorem dX4_readText_20 : decode cX4_readText 20 = .ok (.ifCond .eq 14, 3) := by decide +kernel
theorem dX4_readText_23 : decode cX4_readText 23 = .ok (.aload_n 0, 1) := by decide +kernel
theorem dX4_readText_24 : decode cX4_readText 24 = .ok (.getfield 22, 3) := by decide +kernel
theorem dX4_readText_27 : decode cX4_readText 27 = .ok (.iconst 0, 1) := by decide +kernel
theorem dX4_readText_28 : decode cX4_readText 28 = .ok (.iaload, 1) := by decide +kernel
theorem dX4_readText_29 : decode cX4_readText 29 = .ok (.bipush 73, 2) := by decide +kernel
theorem dX4_readText_31 : decode cX4_readText 31 = .ok (.if_icmp .eq 5, 3) := by decide +kernel
theorem dX4_readText_34 : decode cX4_readText 34 = .ok (.iconst 0, 1) := by decide +kernel
theorem dX4_readText_35 : decode cX4_readText 35 = .ok (.ireturn, 1) := by decide +kernel
theorem dX4_readText_36 : decode cX4_readText 36 = .ok (.aload_n 0, 1) := by decide +kernel
theorem dX4_readText_37 : decode cX4_readText 37 = .ok (.iconst 1, 1) := by decide +kernel
theorem dX4_readText_38 : decode cX4_readText 38 = .ok (.putfield 57, 3) := by decide +kernel
theorem dX4_readText_41 : decode cX4_readText 41 = .ok (.aload_n 0, 1) := by decide +kernel
theorem dX4_readText_42 : decode cX4_readText 42 = .ok (.aload_n 0, 1) := by decide +kernel
theorem dX4_readText_43 : decode cX4_readText 43 = .ok (.bipush 9, 2) := by decide +kernel
theorem dX4_readText_45 : decode cX4_readText 45 = .ok (.invokevirtual 63, 3) := by decide +kernel
theorem dX4_readText_48 : decode cX4_readText 48 = .ok (.putfield 67, 3) := by decide +kernel
theorem dX4_readText_51 : decode cX4_readText 51 = .ok (.aload_n 0, 1) := by decide +kernel
theorem dX4_readText_52 : decode cX4_readText 52 = .ok (.getfield 54, 3) := by decide +kernel
theorem dX4_readText_55 : decode cX4_readText 55 = .ok (.bipush (-9), 2) := by decide +kernel
theorem dX4_readText_57 : decode cX4_readText 57 = .ok (.if_icmp .ne 143, 3) := by decide +kernel
theorem dX4_readText_60 : decode cX4_readText 60 = .ok (.aload_n 0, 1) := by decide +kernel
theorem dX4_readText_61 : decode cX4_readText 61 = .ok (.getfield 57, 3) := by decide +kernel
theorem dX4_readText_64 : decode cX4_readText 64 = .ok (.aload_n 0, 1) := by decide +kernel
theorem dX4_readText_65 : decode cX4_readText 65 = .ok (.getfield 50, 3) := by decide +kernel
theorem dX4_readText_68 : decode cX4_readText 68 = .ok (.if_icmp .ge 132, 3) := by decide +kernel
theorem dX4_readText_71 : decode cX4_readText 71 = .ok (.aload_n 0, 1) := by decide +kernel
theorem dX4_readText_72 : decode cX4_readText 72 = .ok (.getfield 22, 3) := by decide +kernel
theorem dX4_readText_75 : decode cX4_readText 75 = .ok (.aload_n 0, 1) := by decide +kernel
theorem dX4_readText_76 : decode cX4_readText 76 = .ok (.getfield 57, 3) := by decide +kernel
theorem dX4_readText_79 : decode cX4_readText 79 = .ok (.iaload, 1) := by decide +kernel
theorem dX4_readText_80 : decode cX4_readText 80 = .ok (.bipush 80, 2) := by decide +kernel
theorem dX4_readText_82 : decode cX4_readText 82 = .ok (.if_icmp .ne 107, 3) := by decide +kernel
theorem dX4_readText_85 : decode cX4_readText 85 = .ok (.aload_n 0, 1) := by decide +kernel
theorem dX4_readText_86 : decode cX4_readText 86 = .ok (.getfield 60, 3) := by decide +kernel
theorem dX4_readText_89 : decode cX4_readText 89 = .ok (.bipush 6, 2) := by decide +kernel
theorem dX4_readText_91 : decode cX4_readText 91 = .ok (.if_icmp .ge 98, 3) := by decide +kernel
theorem dX4_readText_94 : decode cX4_readText 94 = .ok (.aload_n 0, 1) := by decide +kernel
theorem dX4_readText_95 : decode cX4_readText 95 = .ok (.dup, 1) := by decide +kernel
theorem dX4_readText_96 : decode cX4_readText 96 = .ok (.getfield 57, 3) := by decide +kernel
theorem dX4_readText_99 : decode cX4_readText 99 = .ok (.iconst 1, 1) := by decide +kernel
theorem dX4_readText_100 : decode cX4_readText 100 = .ok (.iadd, 1) := by decide +kernel
theorem dX4_readText_101 : decode cX4_readText 101 = .ok (.putfield 57, 3) := by decide +kernel
theorem dX4_readText_104 : decode cX4_readText 104 = .ok (.aload_n 0, 1) := by decide +kernel
theorem dX4_readText_105 : decode cX4_readText 105 = .ok (.getfield 19, 3) := by decide +kernel
theorem dX4_readText_108 : decode cX4_readText 108 = .ok (.iconst 4, 1) := by decide +kernel
theorem dX4_readText_109 : decode cX4_readText 109 = .ok (.aload_n 0, 1) := by decide +kernel
theorem dX4_readText_110 : decode cX4_readText 110 = .ok (.getfield 60, 3) := by decide +kernel
theorem dX4_readText_113 : decode cX4_readText 113 = .ok (.imul, 1) := by decide +kernel
theorem dX4_readText_114 : decode cX4_readText 114 = .ok (.aload_n 0, 1) := by decide +kernel
theorem dX4_readText_115 : decode cX4_readText 115 = .ok (.bipush 9, 2) := by decide +kernel
theorem dX4_readText_117 : decode cX4_readText 117 = .ok (.invokevirtual 63, 3) := by decide +kernel
theorem dX4_readText_120 : decode cX4_readText 120 = .ok (.iastore, 1) := by decide +kernel
theorem dX4_readText_121 : decode cX4_readText 121 = .ok (.aload_n 0, 1) := by decide +kernel
theorem dX4_readText_122 : decode cX4_readText 122 = .ok (.getfield 19, 3) := by decide +kernel
theorem dX4_readText_125 : decode cX4_readText 125 = .ok (.iconst 4, 1) := by decide +kernel
theorem dX4_readText_126 : decode cX4_readText 126 = .ok (.aload_n 0, 1) := by decide +kernel
theorem dX4_readText_127 : decode cX4_readText 127 = .ok (.getfield 60, 3) := by decide +kernel
theorem dX4_readText_130 : decode cX4_readText 130 = .ok (.imul, 1) := by decide +kernel
theorem dX4_readText_131 : decode cX4_readText 131 = .ok (.iconst 1, 1) := by decide +kernel
theorem dX4_readText_132 : decode cX4_readText 132 = .ok (.iadd, 1) := by decide +kernel
theorem dX4_readText_133 : decode cX4_readText 133 = .ok (.aload_n 0, 1) := by decide +kernel
theorem dX4_readText_134 : decode cX4_readText 134 = .ok (.iconst 3, 1) := by decide +kernel
theorem dX4_readText_135 : decode cX4_readText 135 = .ok (.invokevirtual 63, 3) := by decide +kernel
theorem dX4_readText_138 : decode cX4_readText 138 = .ok (.iastore, 1) := by decide +kernel
theorem dX4_readText_139 : decode cX4_readText 139 = .ok (.aload_n 0, 1) := by decide +kernel
theorem dX4_readText_140 : decode cX4_readText 140 = .ok (.getfield 19, 3) := by decide +kernel
theorem dX4_readText_143 : decode cX4_readText 143 = .ok (.iconst 4, 1) := by decide +kernel
theorem dX4_readText_144 : decode cX4_readText 144 = .ok (.aload_n 0, 1) := by decide +kernel
theorem dX4_readText_145 : decode cX4_readText 145 = .ok (.getfield 60, 3) := by decide +kernel
theorem dX4_readText_148 : decode cX4_readText 148 = .ok (.imul, 1) := by decide +kernel
theorem dX4_readText_149 : decode cX4_readText 149 = .ok (.iconst 2, 1) := by decide +kernel
theorem dX4_readText_150 : decode cX4_readText 150 = .ok (.iadd, 1) := by decide +kernel
theorem dX4_readText_151 : decode cX4_readText 151 = .ok (.aload_n 0, 1) := by decide +kernel
theorem dX4_readText_152 : decode cX4_readText 152 = .ok (.bipush 9, 2) := by decide +kernel
theorem dX4_readText_154 : decode cX4_readText 154 = .ok (.invokevirtual 63, 3) := by decide +kernel
theorem dX4_readText_157 : decode cX4_readText 157 = .ok (.iastore, 1) := by decide +kernel
theorem dX4_readText_158 : decode cX4_readText 158 = .ok (.aload_n 0, 1) := by decide +kernel
theorem dX4_readText_159 : decode cX4_readText 159 = .ok (.getfield 19, 3) := by decide +kernel
theorem dX4_readText_162 : decode cX4_readText 162 = .ok (.iconst 4, 1) := by decide +kernel
theorem dX4_readText_163 : decode cX4_readText 163 = .ok (.aload_n 0, 1) := by decide +kernel
theorem dX4_readText_164 : decode cX4_readText 164 = .ok (.getfield 60, 3) := by decide +kernel
theorem dX4_readText_167 : decode cX4_readText 167 = .ok (.imul, 1) := by decide +kernel
theorem dX4_readText_168 : decode cX4_readText 168 = .ok (.iconst 3, 1) := by decide +kernel
theorem dX4_readText_169 : decode cX4_readText 169 = .ok (.iadd, 1) := by decide +kernel
theorem dX4_readText_170 : decode cX4_readText 170 = .ok (.aload_n 0, 1) := by decide +kernel
theorem dX4_readText_171 : decode cX4_readText 171 = .ok (.iconst 3, 1) := by decide +kernel
theorem dX4_readText_172 : decode cX4_readText 172 = .ok (.invokevirtual 63, 3) := by decide +kernel
theorem dX4_readText_175 : decode cX4_readText 175 = .ok (.iastore, 1) := by decide +kernel
theorem dX4_readText_176 : decode cX4_readText 176 = .ok (.aload_n 0, 1) := by decide +kernel
theorem dX4_readText_177 : decode cX4_readText 177 = .ok (.dup, 1) := by decide +kernel
theorem dX4_readText_178 : decode cX4_readText 178 = .ok (.getfield 60, 3) := by decide +kernel
theorem dX4_readText_181 : decode cX4_readText 181 = .ok (.iconst 1, 1) := by decide +kernel
theorem dX4_readText_182 : decode cX4_readText 182 = .ok (.iadd, 1) := by decide +kernel
theorem dX4_readText_183 : decode cX4_readText 183 = .ok (.putfield 60, 3) := by decide +kernel
theorem dX4_readText_186 : decode cX4_readText 186 = .ok (.goto (-135), 3) := by decide +kernel
theorem dX4_readText_189 : decode cX4_readText 189 = .ok (.aload_n 0, 1) := by decide +kernel
theorem dX4_readText_190 : decode cX4_readText 190 = .ok (.aload_n 0, 1) := by decide +kernel
theorem dX4_readText_191 : decode cX4_readText 191 = .ok (.getfield 57, 3) := by decide +kernel
theorem dX4_readText_194 : decode cX4_readText 194 = .ok (.putfield 54, 3) := by decide +kernel
theorem dX4_readText_197 : decode cX4_readText 197 = .ok (.goto (-146), 3) := by decide +kernel
theorem dX4_readText_200 : decode cX4_readText 200 = .ok (.aload_n 0, 1) := by decide +kernel
theorem dX4_readText_201 : decode cX4_readText 201 = .ok (.getfield 54, 3) := by decide +kernel
theorem dX4_readText_204 : decode cX4_readText 204 = .ok (.ireturn, 1) := by decide +kernel
set_option maxRecDepth 20000 in
theorem hiX4_readText_X4 : ∀ w ∈ u_ws RX4 TX4 24, w ∈ wsX4_readText := by decide +kernel
set_option maxHeartbeats 4000000 in
set_option maxRecDepth 100000 in
theorem wm_readText_200 {p : Program} {l : Launch} {e : Env} {s : State} {m : MethodId} {args : Array Value} {below : List Frame} {meth : Method} {c : Code} {D : va_G} {L : Nat → Nat} {K : Nat → ClassId} (hJ : gj L 12) (C0 : gC cX4_readText 1 (some .int) wsX4_readText RX4 p s m args meth c) (hK : va_K D vwCl (tyG K) s) (hE : eM s) {w9 : St} {rs : Int32} : ∀ (w : St) (H : Heap) (locs : List Loc) (ls : Array Slot), va_P D vwCl (gl L 12 (cM L K w)) H → va_S (gA L 12) s.heap H locs → lv_has ls 1 [(0, .ref (L 0))] → fm_readText_200 w = some (rs, w9) → W p l e { frames := 2, cells := 0, slots := 0, locals := 47 } s m args below meth c H locs 0 0 (MQ below (qI D L 12 (cM L K) rs w9) args s 0 0 (gA L 12)) (F0 m 200 ls []) := by
  obtain ⟨hx, hb, hr, hml, hown, hts, hlk⟩ := id C0
  intro w H locs ls hw hS hl hf
  unfold fm_readText_200 at hf
  refine lv_aload_n hx hb dX4_readText_200 rfl (lv_at hl 0 rfl) ?_
  refine z_get (v := .int (w.1 0 11)) hx hb hts hiX4_readText_X4 hown hK hw (k := 0) (by decide) ((fun w => rfl) _) rfl 11 (by decide) (hts (.fieldLink RX4 54 "OneSentenceModel" "faultAt" "I") (by decide +kernel)) rfl dX4_readText_201 ?_
  exact z_iret hx hb hr hlk hw hS hf dX4_readText_204
set_option maxHeartbeats 4000000 in
set_option maxRecDepth 100000 in
theorem wm_readText_189 {p : Program} {l : Launch} {e : Env} {s : State} {m : MethodId} {args : Array Value} {below : List Frame} {meth : Method} {c : Code} {D : va_G} {L : Nat → Nat} {K : Nat → ClassId} (hJ : gj L 12) (C0 : gC cX4_readText 1 (some .int) wsX4_readText RX4 p s m args meth c) (hK : va_K D vwCl (tyG K) s) (hE : eM s) {w9 : St} {rs : Int32} (k51 : St → Option (Int32 × St)) (i51 : ∀ (w : St) (H : Heap) (locs : List Loc) (ls : Array Slot), va_P D vwCl (gl L 12 (cM L K w)) H → va_S (gA L 12) s.heap H locs → lv_has ls 1 [(0, .ref (L 0))] → k51 w = some (rs, w9) → W p l e { frames := 2, cells := 0, slots := 0, locals := 47 } s m args below meth c H locs 0 0 (MQ below (qI D L 12 (cM L K) rs w9) args s 0 0 (gA L 12)) (F0 m 51 ls [])) : ∀ (w : St) (H : Heap) (locs : List Loc) (ls : Array Slot), va_P D vwCl (gl L 12 (cM L K w)) H → va_S (gA L 12) s.heap H locs → lv_has ls 1 [(0, .ref (L 0))] → fm_readText_189 k51 w = some (rs, w9) → W p l e { frames := 2, cells := 0, slots := 0, locals := 47 } s m args below meth c H locs 0 0 (MQ below (qI D L 12 (cM L K) rs w9) args s 0 0 (gA L 12)) (F0 m 189 ls []) := by
  obtain ⟨hx, hb, hr, hml, hown, hts, hlk⟩ := id C0
  intro w H locs ls hw hS hl hf
  unfold fm_readText_189 at hf
  refine lv_aload_n hx hb dX4_readText_189 rfl (lv_at hl 0 rfl) ?_
  refine lv_aload_n hx hb dX4_readText_190 rfl (lv_at hl 0 rfl) ?_
  refine z_get (v := .int (w.1 0 10)) hx hb hts hiX4_readText_X4 hown hK hw (k := 0) (by decide) ((fun w => rfl) _) rfl 10 (by decide) (hts (.fieldLink RX4 57 "OneSentenceModel" "at" "I") (by decide +kernel)) rfl dX4_readText_191 ?_
  refine z_puti hx hb hts hiX4_readText_X4 tyX4 tyX4_ok nmX4 hown hK hJ hw hS (k := 0) (by decide) cM_ne (fs := fM0 L) (fun w => rfl) rfl 11 (by decide) (hts (.fieldLink RX4 54 "OneSentenceModel" "faultAt" "I") (by decide +kernel)) rfl rfl (fun _ _ => ⟨Nat.le_of_ble_eq_true rfl, rfl⟩) dX4_readText_194 (fun H locs hw hS => ?_)
  refine lv_goto (tgt := 51) hx hb dX4_readText_197 (by decide) ?_
  exact i51 _ _ _ _ hw hS (lv_sub hl [0] rfl) hf
set_option maxHeartbeats 4000000 in
set_option maxRecDepth 100000 in
theorem wm_readText_51 {p : Program} {l : Launch} {e : Env} {s : State} {m : MethodId} {args : Array Value} {below : List Frame} {meth : Method} {c : Code} {D : va_G} {L : Nat → Nat} {K : Nat → ClassId} (hJ : gj L 12) (C0 : gC cX4_readText 1 (some .int) wsX4_readText RX4 p s m args meth c) (hK : va_K D vwCl (tyG K) s) (hE : eM s) {w9 : St} {rs : Int32} : ∀ (fu : Nat) (w : St) (H : Heap) (locs : List Loc) (ls : Array Slot), va_P D vwCl (gl L 12 (cM L K w)) H → va_S (gA L 12) s.heap H locs → lv_has ls 1 [(0, .ref (L 0))] → fm_readText_51 fu w = some (rs, w9) → W p l e { frames := 2, cells := 0, slots := 0, locals := 47 } s m args below meth c H locs 0 0 (MQ below (qI D L 12 (cM L K) rs w9) args s 0 0 (gA L 12)) (F0 m 51 ls []) := by
  obtain ⟨hx, hb, hr, hml, hown, hts, hlk⟩ := id C0
  intro fu
  induction fu with
  | zero =>
    intro w H locs ls hw hS hl hf
    rw [fm_readText_51] at hf
    exact no_n hf
  | succ fu ih =>
    intro w H locs ls hw hS hl hf
    rw [fm_readText_51] at hf
    refine lv_aload_n hx hb dX4_readText_51 rfl (lv_at hl 0 rfl) ?_
    refine z_get (v := .int (w.1 0 11)) hx hb hts hiX4_readText_X4 hown hK hw (k := 0) (by decide) ((fun w => rfl) _) rfl 11 (by decide) (hts (.fieldLink RX4 54 "OneSentenceModel" "faultAt" "I") (by decide +kernel)) rfl dX4_readText_52 ?_
    refine lv_bipush (v := (-9)) hx hb dX4_readText_55 (by decide) ?_
    refine lv_icmp_ne (tgt := 200) hx hb dX4_readText_57 (by decide) (fun c57 => ?_) (fun c57 => ?_)
    · replace hf := if_f hf c57
      exact wm_readText_200 hJ C0 hK hE _ _ _ _ hw hS (lv_sub hl [0] rfl) hf
    · replace hf := if_t hf c57
      refine lv_aload_n hx hb dX4_readText_60 rfl (lv_at hl 0 rfl) ?_
      refine z_get (v := .int (w.1 0 10)) hx hb hts hiX4_readText_X4 hown hK hw (k := 0) (by decide) ((fun w => rfl) _) rfl 10 (by decide) (hts (.fieldLink RX4 57 "OneSentenceModel" "at" "I") (by decide +kernel)) rfl dX4_readText_61 ?_
      refine lv_aload_n hx hb dX4_readText_64 rfl (lv_at hl 0 rfl) ?_
      refine z_get (v := .int (w.1 0 9)) hx hb hts hiX4_readText_X4 hown hK hw (k := 0) (by decide) ((fun w => rfl) _) rfl 9 (by decide) (hts (.fieldLink RX4 50 "OneSentenceModel" "length" "I") (by decide +kernel)) rfl dX4_readText_65 ?_
      refine lv_icmp_ge (tgt := 200) hx hb dX4_readText_68 (by decide) (fun c68 => ?_) (fun c68 => ?_)
      · replace hf := if_t hf c68
        exact wm_readText_200 hJ C0 hK hE _ _ _ _ hw hS (lv_sub hl [0] rfl) hf
      · replace hf := if_f hf c68
        refine lv_aload_n hx hb dX4_readText_71 rfl (lv_at hl 0 rfl) ?_
        refine z_get (v := .ref (L 5)) hx hb hts hiX4_readText_X4 hown hK hw (k := 0) (by decide) ((fun w => rfl) _) rfl 8 (by decide) (hts (.fieldLink RX4 22 "OneSentenceModel" "text" "[I") (by decide +kernel)) rfl dX4_readText_72 ?_
        refine lv_aload_n hx hb dX4_readText_75 rfl (lv_at hl 0 rfl) ?_
        refine z_get (v := .int (w.1 0 10)) hx hb hts hiX4_readText_X4 hown hK hw (k := 0) (by decide) ((fun w => rfl) _) rfl 10 (by decide) (hts (.fieldLink RX4 57 "OneSentenceModel" "at" "I") (by decide +kernel)) rfl dX4_readText_76 ?_
        obtain ⟨v79, h79, hf⟩ := bd_e hf
        refine z_iald hx hb hK hw 0 (k := 5) (by decide) ((fun w => rfl) _) rfl h79 dX4_readText_79 ?_
        refine lv_bipush (v := 80) hx hb dX4_readText_80 (by decide) ?_
        refine lv_icmp_ne (tgt := 189) hx hb dX4_readText_82 (by decide) (fun c82 => ?_) (fun c82 => ?_)
        · replace hf := if_f hf c82
          exact wm_readText_189 hJ C0 hK hE _ ih _ _ _ _ hw hS (lv_sub hl [0] rfl) hf
        · replace hf := if_t hf c82
          refine lv_aload_n hx hb dX4_readText_85 rfl (lv_at hl 0 rfl) ?_
          refine z_get (v := .int (w.1 0 6)) hx hb hts hiX4_readText_X4 hown hK hw (k := 0) (by decide) ((fun w => rfl) _) rfl 6 (by decide) (hts (.fieldLink RX4 60 "OneSentenceModel" "readPeople" "I") (by decide +kernel)) rfl dX4_readText_86 ?_
          refine lv_bipush (v := 6) hx hb dX4_readText_89 (by decide) ?_
          refine lv_icmp_ge (tgt := 189) hx hb dX4_readText_91 (by decide) (fun c91 => ?_) (fun c91 => ?_)
          · replace hf := if_t hf c91
            exact wm_readText_189 hJ C0 hK hE _ ih _ _ _ _ hw hS (lv_sub hl [0] rfl) hf
          · replace hf := if_f hf c91
            refine lv_aload_n hx hb dX4_readText_94 rfl (lv_at hl 0 rfl) ?_
            refine lv_dup hx hb dX4_readText_95 rfl ?_
            refine z_get (v := .int (w.1 0 10)) hx hb hts hiX4_readText_X4 hown hK hw (k := 0) (by decide) ((fun w => rfl) _) rfl 10 (by decide) (hts (.fieldLink RX4 57 "OneSentenceModel" "at" "I") (by decide +kernel)) rfl dX4_readText_96 ?_
            refine lv_iconst (v := 1) hx hb dX4_readText_99 (by decide) ?_
            refine lv_iadd hx hb dX4_readText_100 ?_
            refine z_puti hx hb hts hiX4_readText_X4 tyX4 tyX4_ok nmX4 hown hK hJ hw hS (k := 0) (by decide) cM_ne (fs := fM0 L) (fun w => rfl) rfl 10 (by decide) (hts (.fieldLink RX4 57 "OneSentenceModel" "at" "I") (by decide +kernel)) rfl rfl (fun _ _ => ⟨Nat.le_of_ble_eq_true rfl, rfl⟩) dX4_readText_101 (fun H locs hw hS => ?_)
            refine lv_aload_n hx hb dX4_readText_104 rfl (lv_at hl 0 rfl) ?_
            refine z_get (v := .ref (L 4)) hx hb hts hiX4_readText_X4 hown hK hw (k := 0) (by decide) ((fun w => rfl) _) rfl 5 (by decide) (hts (.fieldLink RX4 19 "OneSentenceModel" "readOf" "[I") (by decide +kernel)) rfl dX4_readText_105 ?_
            refine lv_iconst (v := 4) hx hb dX4_readText_108 (by decide) ?_
            refine lv_aload_n hx hb dX4_readText_109 rfl (lv_at hl 0 rfl) ?_
            refine z_get (v := .int ((wr w 0 10 ((w.1 0 10) + (1 : Int32))).1 0 6)) hx hb hts hiX4_readText_X4 hown hK hw (k := 0) (by decide) ((fun w => rfl) _) rfl 6 (by decide) (hts (.fieldLink RX4 60 "OneSentenceModel" "readPeople" "I") (by decide +kernel)) rfl dX4_readText_110 ?_
            refine lv_imul hx hb dX4_readText_113 ?_
            refine lv_aload_n hx hb dX4_readText_114 rfl (lv_at hl 0 rfl) ?_
            refine lv_bipush (v := 9) hx hb dX4_readText_115 (by decide) ?_
            obtain ⟨q117, h117, hf⟩ := bd_e hf
            refine z_calli (va_runV (As := [.int 9]) (rest := [.int ((4 : Int32) * ((wr w 0 10 ((w.1 0 10) + (1 : Int32))).1 0 6)), .ref (L 4)]) ⟨hx, hb, hml, hown, hts⟩ (km_figure l (D := D) (K := K) hJ 9 (wr w 0 10 ((w.1 0 10) + (1 : Int32)))  h117) (cwV 1 hts gX4_readText_X4_figure rfl rfl rfl (by decide +kernel) ⟨Nat.le_of_ble_eq_true rfl, Nat.le_of_ble_eq_true rfl⟩) (z_preV eM_ok hK hE hw hS (by decide) ((fun w => rfl) _) (T := TX4) (M := 24) rfl) rfl rfl hl.1 rfl (lv_room (Nat.le_of_ble_eq_true rfl)) dX4_readText_117 ⟨Nat.le_of_ble_eq_true rfl, Nat.le_of_ble_eq_true rfl⟩) hS (fun H locs hw hS => ?_)
            obtain ⟨w120, h120, hf⟩ := bd_e hf
            refine z_iast hx hb hK hJ hw hS 0 (k := 4) (by decide) cM_ne (fun w => rfl) rfl h120 dX4_readText_120 (fun H locs hw hS => ?_)
            refine lv_aload_n hx hb dX4_readText_121 rfl (lv_at hl 0 rfl) ?_
            refine z_get (v := .ref (L 4)) hx hb hts hiX4_readText_X4 hown hK hw (k := 0) (by decide) ((fun w => rfl) _) rfl 5 (by decide) (hts (.fieldLink RX4 19 "OneSentenceModel" "readOf" "[I") (by decide +kernel)) rfl dX4_readText_122 ?_
            refine lv_iconst (v := 4) hx hb dX4_readText_125 (by decide) ?_
            refine lv_aload_n hx hb dX4_readText_126 rfl (lv_at hl 0 rfl) ?_
            refine z_get (v := .int (w120.1 0 6)) hx hb hts hiX4_readText_X4 hown hK hw (k := 0) (by decide) ((fun w => rfl) _) rfl 6 (by decide) (hts (.fieldLink RX4 60 "OneSentenceModel" "readPeople" "I") (by decide +kernel)) rfl dX4_readText_127 ?_
            refine lv_imul hx hb dX4_readText_130 ?_
            refine lv_iconst (v := 1) hx hb dX4_readText_131 (by decide) ?_
            refine lv_iadd hx hb dX4_readText_132 ?_
            refine lv_aload_n hx hb dX4_readText_133 rfl (lv_at hl 0 rfl) ?_
            refine lv_iconst (v := 3) hx hb dX4_readText_134 (by decide) ?_
            obtain ⟨q135, h135, hf⟩ := bd_e hf
            refine z_calli (va_runV (As := [.int 3]) (rest := [.int (((4 : Int32) * (w120.1 0 6)) + (1 : Int32)), .ref (L 4)]) ⟨hx, hb, hml, hown, hts⟩ (km_figure l (D := D) (K := K) hJ 3 w120  h135) (cwV 1 hts gX4_readText_X4_figure rfl rfl rfl (by decide +kernel) ⟨Nat.le_of_ble_eq_true rfl, Nat.le_of_ble_eq_true rfl⟩) (z_preV eM_ok hK hE hw hS (by decide) ((fun w => rfl) _) (T := TX4) (M := 24) rfl) rfl rfl hl.1 rfl (lv_room (Nat.le_of_ble_eq_true rfl)) dX4_readText_135 ⟨Nat.le_of_ble_eq_true rfl, Nat.le_of_ble_eq_true rfl⟩) hS (fun H locs hw hS => ?_)
            obtain ⟨w138, h138, hf⟩ := bd_e hf
            refine z_iast hx hb hK hJ hw hS 0 (k := 4) (by decide) cM_ne (fun w => rfl) rfl h138 dX4_readText_138 (fun H locs hw hS => ?_)
            refine lv_aload_n hx hb dX4_readText_139 rfl (lv_at hl 0 rfl) ?_
            refine z_get (v := .ref (L 4)) hx hb hts hiX4_readText_X4 hown hK hw (k := 0) (by decide) ((fun w => rfl) _) rfl 5 (by decide) (hts (.fieldLink RX4 19 "OneSentenceModel" "readOf" "[I") (by decide +kernel)) rfl dX4_readText_140 ?_
            refine lv_iconst (v := 4) hx hb dX4_readText_143 (by decide) ?_
            refine lv_aload_n hx hb dX4_readText_144 rfl (lv_at hl 0 rfl) ?_
            refine z_get (v := .int (w138.1 0 6)) hx hb hts hiX4_readText_X4 hown hK hw (k := 0) (by decide) ((fun w => rfl) _) rfl 6 (by decide) (hts (.fieldLink RX4 60 "OneSentenceModel" "readPeople" "I") (by decide +kernel)) rfl dX4_readText_145 ?_
            refine lv_imul hx hb dX4_readText_148 ?_
            refine lv_iconst (v := 2) hx hb dX4_readText_149 (by decide) ?_
            refine lv_iadd hx hb dX4_readText_150 ?_
            refine lv_aload_n hx hb dX4_readText_151 rfl (lv_at hl 0 rfl) ?_
            refine lv_bipush (v := 9) hx hb dX4_readText_152 (by decide) ?_
            obtain ⟨q154, h154, hf⟩ := bd_e hf
            refine z_calli (va_runV (As := [.int 9]) (rest := [.int (((4 : Int32) * (w138.1 0 6)) + (2 : Int32)), .ref (L 4)]) ⟨hx, hb, hml, hown, hts⟩ (km_figure l (D := D) (K := K) hJ 9 w138  h154) (cwV 1 hts gX4_readText_X4_figure rfl rfl rfl (by decide +kernel) ⟨Nat.le_of_ble_eq_true rfl, Nat.le_of_ble_eq_true rfl⟩) (z_preV eM_ok hK hE hw hS (by decide) ((fun w => rfl) _) (T := TX4) (M := 24) rfl) rfl rfl hl.1 rfl (lv_room (Nat.le_of_ble_eq_true rfl)) dX4_readText_154 ⟨Nat.le_of_ble_eq_true rfl, Nat.le_of_ble_eq_true rfl⟩) hS (fun H locs hw hS => ?_)
            obtain ⟨w157, h157, hf⟩ := bd_e hf
            refine z_iast hx hb hK hJ hw hS 0 (k := 4) (by decide) cM_ne (fun w => rfl) rfl h157 dX4_readText_157 (fun H locs hw hS => ?_)
            refine lv_aload_n hx hb dX4_readText_158 rfl (lv_at hl 0 rfl) ?_
            refine z_get (v := .ref (L 4)) hx hb hts hiX4_readText_X4 hown hK hw (k := 0) (by decide) ((fun w => rfl) _) rfl 5 (by decide) (hts (.fieldLink RX4 19 "OneSentenceModel" "readOf" "[I") (by decide +kernel)) rfl dX4_readText_159 ?_
            refine lv_iconst (v := 4) hx hb dX4_readText_162 (by decide) ?_
            refine lv_aload_n hx hb dX4_readText_163 rfl (lv_at hl 0 rfl) ?_
            refine z_get (v := .int (w157.1 0 6)) hx hb hts hiX4_readText_X4 hown hK hw (k := 0) (by decide) ((fun w => rfl) _) rfl 6 (by decide) (hts (.fieldLink RX4 60 "OneSentenceModel" "readPeople" "I") (by decide +kernel)) rfl dX4_readText_164 ?_
            refine lv_imul hx hb dX4_readText_167 ?_
            refine lv_iconst (v := 3) hx hb dX4_readText_168 (by decide) ?_
            refine lv_iadd hx hb dX4_readText_169 ?_
            refine lv_aload_n hx hb dX4_readText_170 rfl (lv_at hl 0 rfl) ?_
            refine lv_iconst (v := 3) hx hb dX4_readText_171 (by decide) ?_
            obtain ⟨q172, h172, hf⟩ := bd_e hf
            refine z_calli (va_runV (As := [.int 3]) (rest := [.int (((4 : Int32) * (w157.1 0 6)) + (3 : Int32)), .ref (L 4)]) ⟨hx, hb, hml, hown, hts⟩ (km_figure l (D := D) (K := K) hJ 3 w157  h172) (cwV 1 hts gX4_readText_X4_figure rfl rfl rfl (by decide +kernel) ⟨Nat.le_of_ble_eq_true rfl, Nat.le_of_ble_eq_true rfl⟩) (z_preV eM_ok hK hE hw hS (by decide) ((fun w => rfl) _) (T := TX4) (M := 24) rfl) rfl rfl hl.1 rfl (lv_room (Nat.le_of_ble_eq_true rfl)) dX4_readText_172 ⟨Nat.le_of_ble_eq_true rfl, Nat.le_of_ble_eq_true rfl⟩) hS (fun H locs hw hS => ?_)
            obtain ⟨w175, h175, hf⟩ := bd_e hf
            refine z_iast hx hb hK hJ hw hS 0 (k := 4) (by decide) cM_ne (fun w => rfl) rfl h175 dX4_readText_175 (fun H locs hw hS => ?_)
            refine lv_aload_n hx hb dX4_readText_176 rfl (lv_at hl 0 rfl) ?_
            refine lv_dup hx hb dX4_readText_177 rfl ?_
            refine z_get (v := .int (w175.1 0 6)) hx hb hts hiX4_readText_X4 hown hK hw (k := 0) (by decide) ((fun w => rfl) _) rfl 6 (by decide) (hts (.fieldLink RX4 60 "OneSentenceModel" "readPeople" "I") (by decide +kernel)) rfl dX4_readText_178 ?_
            refine lv_iconst (v := 1) hx hb dX4_readText_181 (by decide) ?_
            refine lv_iadd hx hb dX4_readText_182 ?_
            refine z_puti hx hb hts hiX4_readText_X4 tyX4 tyX4_ok nmX4 hown hK hJ hw hS (k := 0) (by decide) cM_ne (fs := fM0 L) (fun w => rfl) rfl 6 (by decide) (hts (.fieldLink RX4 60 "OneSentenceModel" "readPeople" "I") (by decide +kernel)) rfl rfl (fun _ _ => ⟨Nat.le_of_ble_eq_true rfl, rfl⟩) dX4_readText_183 (fun H locs hw hS => ?_)
            refine lv_goto (tgt := 51) hx hb dX4_readText_186 (by decide) ?_
            exact ih _ _ _ _ hw hS (lv_sub hl [0] rfl) hf
set_option maxHeartbeats 4000000 in
set_option maxRecDepth 100000 in
theorem wm_readText_0 {p : Program} {l : Launch} {e : Env} {s : State} {m : MethodId} {args : Array Value} {below : List Frame} {meth : Method} {c : Code} {D : va_G} {L : Nat → Nat} {K : Nat → ClassId} (hJ : gj L 12) (C0 : gC cX4_readText 1 (some .int) wsX4_readText RX4 p s m args meth c) (hK : va_K D vwCl (tyG K) s) (hE : eM s) {w9 : St} {rs : Int32} : ∀ (w : St) (H : Heap) (locs : List Loc) (ls : Array Slot), va_P D vwCl (gl L 12 (cM L K w)) H → va_S (gA L 12) s.heap H locs → lv_has ls 1 [(0, .ref (L 0))] → fm_readText w = some (rs, w9) → W p l e { frames := 2, cells := 0, slots := 0, locals := 47 } s m args below meth c H locs 0 0 (MQ below (qI D L 12 (cM L K) rs w9) args s 0 0 (gA L 12)) (F0 m 0 ls []) := by
  obtain ⟨hx, hb, hr, hml, hown, hts, hlk⟩ := id C0
  intro w H locs ls hw hS hl hf
  unfold fm_readText at hf
  refine lv_aload_n hx hb dX4_readText_0 rfl (lv_at hl 0 rfl) ?_
  refine lv_iconst (v := 0) hx hb dX4_readText_1 (by decide) ?_
  refine z_puti hx hb hts hiX4_readText_X4 tyX4 tyX4_ok nmX4 hown hK hJ hw hS (k := 0) (by decide) cM_ne (fs := fM0 L) (fun w => rfl) rfl 10 (by decide) (hts (.fieldLink RX4 57 "OneSentenceModel" "at" "I") (by decide +kernel)) rfl rfl (fun _ _ => ⟨Nat.le_of_ble_eq_true rfl, rfl⟩) dX4_readText_2 (fun H locs hw hS => ?_)
  refine lv_aload_n hx hb dX4_readText_5 rfl (lv_at hl 0 rfl) ?_
  refine lv_bipush (v := (-9)) hx hb dX4_readText_6 (by decide) ?_
  refine z_puti hx hb hts hiX4_readText_X4 tyX4 tyX4_ok nmX4 hown hK hJ hw hS (k := 0) (by decide) cM_ne (fs := fM0 L) (fun w => rfl) rfl 11 (by decide) (hts (.fieldLink RX4 54 "OneSentenceModel" "faultAt" "I") (by decide +kernel)) rfl rfl (fun _ _ => ⟨Nat.le_of_ble_eq_true rfl, rfl⟩) dX4_readText_8 (fun H locs hw hS => ?_)
  refine lv_aload_n hx hb dX4_readText_11 rfl (lv_at hl 0 rfl) ?_
  refine lv_iconst (v := 0) hx hb dX4_readText_12 (by decide) ?_
  refine z_puti hx hb hts hiX4_readText_X4 tyX4 tyX4_ok nmX4 hown hK hJ hw hS (k := 0) (by decide) cM_ne (fs := fM0 L) (fun w => rfl) rfl 6 (by decide) (hts (.fieldLink RX4 60 "OneSentenceModel" "readPeople" "I") (by decide +kernel)) rfl rfl (fun _ _ => ⟨Nat.le_of_ble_eq_true rfl, rfl⟩) dX4_readText_13 (fun H locs hw hS => ?_)
  refine lv_aload_n hx hb dX4_readText_16 rfl (lv_at hl 0 rfl) ?_
  refine z_get (v := .int ((wr (wr (wr w 0 10 0) 0 11 (-9)) 0 6 0).1 0 9)) hx hb hts hiX4_readText_X4 hown hK hw (k := 0) (by decide) ((fun w => rfl) _) rfl 9 (by decide) (hts (.fieldLink RX4 50 "OneSentenceModel" "length" "I") (by decide +kernel)) rfl dX4_readText_17 ?_
  refine lv_if_eq (tgt := 34) hx hb dX4_readText_20 (by decide) (fun c20 => ?_) (fun c20 => ?_)
  · replace hf := if_t hf c20
    refine lv_iconst (v := 0) hx hb dX4_readText_34 (by decide) ?_
    exact z_iret hx hb hr hlk hw hS hf dX4_readText_35
  · replace hf := if_f hf c20
    refine lv_aload_n hx hb dX4_readText_23 rfl (lv_at hl 0 rfl) ?_
    refine z_get (v := .ref (L 5)) hx hb hts hiX4_readText_X4 hown hK hw (k := 0) (by decide) ((fun w => rfl) _) rfl 8 (by decide) (hts (.fieldLink RX4 22 "OneSentenceModel" "text" "[I") (by decide +kernel)) rfl dX4_readText_24 ?_
    refine lv_iconst (v := 0) hx hb dX4_readText_27 (by decide) ?_
    obtain ⟨v28, h28, hf⟩ := bd_e hf
    refine z_iald hx hb hK hw 0 (k := 5) (by decide) ((fun w => rfl) _) rfl h28 dX4_readText_28 ?_
    refine lv_bipush (v := 73) hx hb dX4_readText_29 (by decide) ?_
    refine lv_icmp_eq (tgt := 36) hx hb dX4_readText_31 (by decide) (fun c31 => ?_) (fun c31 => ?_)
    · replace hf := if_t hf c31
      refine lv_aload_n hx hb dX4_readText_36 rfl (lv_at hl 0 rfl) ?_
      refine lv_iconst (v := 1) hx hb dX4_readText_37 (by decide) ?_
      refine z_puti hx hb hts hiX4_readText_X4 tyX4 tyX4_ok nmX4 hown hK hJ hw hS (k := 0) (by decide) cM_ne (fs := fM0 L) (fun w => rfl) rfl 10 (by decide) (hts (.fieldLink RX4 57 "OneSentenceModel" "at" "I") (by decide +kernel)) rfl rfl (fun _ _ => ⟨Nat.le_of_ble_eq_true rfl, rfl⟩) dX4_readText_38 (fun H locs hw hS => ?_)
      refine lv_aload_n hx hb dX4_readText_41 rfl (lv_at hl 0 rfl) ?_
      refine lv_aload_n hx hb dX4_readText_42 rfl (lv_at hl 0 rfl) ?_
      refine lv_bipush (v := 9) hx hb dX4_readText_43 (by decide) ?_
      obtain ⟨q45, h45, hf⟩ := bd_e hf
      refine z_calli (va_runV (As := [.int 9]) (rest := [.ref (L 0)]) ⟨hx, hb, hml, hown, hts⟩ (km_figure l (D := D) (K := K) hJ 9 (wr (wr (wr (wr w 0 10 0) 0 11 (-9)) 0 6 0) 0 10 1)  h45) (cwV 1 hts gX4_readText_X4_figure rfl rfl rfl (by decide +kernel) ⟨Nat.le_of_ble_eq_true rfl, Nat.le_of_ble_eq_true rfl⟩) (z_preV eM_ok hK hE hw hS (by decide) ((fun w => rfl) _) (T := TX4) (M := 24) rfl) rfl rfl hl.1 rfl (lv_room (Nat.le_of_ble_eq_true rfl)) dX4_readText_45 ⟨Nat.le_of_ble_eq_true rfl, Nat.le_of_ble_eq_true rfl⟩) hS (fun H locs hw hS => ?_)
      refine z_puti hx hb hts hiX4_readText_X4 tyX4 tyX4_ok nmX4 hown hK hJ hw hS (k := 0) (by decide) cM_ne (fs := fM0 L) (fun w => rfl) rfl 7 (by decide) (hts (.fieldLink RX4 67 "OneSentenceModel" "readMarket" "I") (by decide +kernel)) rfl rfl (fun _ _ => ⟨Nat.le_of_ble_eq_true rfl, rfl⟩) dX4_readText_48 (fun H locs hw hS => ?_)
      exact wm_readText_51 hJ C0 hK hE _ _ _ _ _ hw hS (lv_sub hl [0] rfl) hf
    · replace hf := if_f hf c31
      refine lv_iconst (v := 0) hx hb dX4_readText_34 (by decide) ?_
      exact z_iret hx hb hr hlk hw hS hf dX4_readText_35
set_option maxHeartbeats 4000000 in
set_option maxRecDepth 100000 in
theorem km_readText (l : Launch) {D : va_G} {L : Nat → Nat} {K : Nat → ClassId} (hJ : gj L 12) (w : St) {w9 : St} {rs : Int32} (hf : fm_readText w = some (rs, w9)) : Met l yX4_readText wsX4_readText ({ frames := 2, cells := 0, slots := 0, locals := 47 }) (va_Pc [.ref (L 0)] (mP D L K w)) (qI D L 12 (cM L K) rs w9) 0 0 (gA L 12) := by
  refine g_met (cc := cX4_readText) (nL := 1) (ret := (some .int)) (by decide) rfl (Nat.le_of_ble_eq_true rfl) (fun p e s m below meth c ls C0 hP hl => ?_)
  exact wm_readText_0 hJ C0 hP.2.1 hP.2.2 w _ _ ls hP.1 va_S.rf (lv_sub hl [0] rfl) hf
set_option maxRecDepth 20000 in
theorem ggX4_fault_X4_readText : GoodIn wsX4_fault wsX4_readText := goodIn_r _ [5, 6, 7, 8, 9, 10, 11, 12, 13, 14, 15, 4, 16, 17, 18, 19, 20, 21, 22, 23, 24, 25, 26, 27, 28, 29, 30, 31, 32, 33, 34, 35, 36, 37, 38, 39, 40, 41, 42, 43] (by decide +kernel) (by decide +kernel)
set_option maxRecDepth 20000 in
theorem gX4_fault_X4_readText : GoodIn wsX4_fault (wsV RX4 70 RX4 yX4_readText wsX4_readText) := goodIn_app (goodIn_of _ (by decide +kernel)) ggX4_fault_X4_readText
theorem dX4_fault_0 : decode cX4_fault 0 = .ok (.aload_n 0, 1) := by decide +kernel
theorem dX4_fault_1 : decode cX4_fault 1 = .ok (.invokevirtual 70, 3) := by decide +kernel
theorem dX4_fault_4 : decode cX4_fault 4 = .ok (.ireturn, 1) := by decide +kernel
set_option maxHeartbeats 4000000 in
set_option maxRecDepth 100000 in
theorem wm_fault_0 {p : Program} {l : Launch} {e : Env} {s : State} {m : MethodId} {args : Array Value} {below : List Frame} {meth : Method} {c : Code} {D : va_G} {L : Nat → Nat} {K : Nat → ClassId} (hJ : gj L 12) (C0 : gC cX4_fault 1 (some .int) wsX4_fault RX4 p s m args meth c) (hK : va_K D vwCl (tyG K) s) (hE : eM s) {w9 : St} {rs : Int32} : ∀ (w : St) (H : Heap) (locs : List Loc) (ls : Array Slot), va_P D vwCl (gl L 12 (cM L K w)) H → va_S (gA L 12) s.heap H locs → lv_has ls 1 [(0, .ref (L 0))] → fm_fault w = some (rs, w9) → W p l e { frames := 3, cells := 0, slots := 0, locals := 67 } s m args below meth c H locs 0 0 (MQ below (qI D L 12 (cM L K) rs w9) args s 0 0 (gA L 12)) (F0 m 0 ls []) := by
  obtain ⟨hx, hb, hr, hml, hown, hts, hlk⟩ := id C0
  intro w H locs ls hw hS hl hf
  unfold fm_fault at hf
  refine lv_aload_n hx hb dX4_fault_0 rfl (lv_at hl 0 rfl) ?_
  obtain ⟨q1, h1, hf⟩ := bd_e hf
  refine z_calli (va_runV (As := []) (rest := []) ⟨hx, hb, hml, hown, hts⟩ (km_readText l (D := D) (K := K) hJ w  h1) (cwV 0 hts gX4_fault_X4_readText rfl rfl rfl (by decide +kernel) ⟨Nat.le_of_ble_eq_true rfl, Nat.le_of_ble_eq_true rfl⟩) (z_preV eM_ok hK hE hw hS (by decide) ((fun w => rfl) _) (T := TX4) (M := 24) rfl) rfl rfl hl.1 rfl (lv_room (Nat.le_of_ble_eq_true rfl)) dX4_fault_1 ⟨Nat.le_of_ble_eq_true rfl, Nat.le_of_ble_eq_true rfl⟩) hS (fun H locs hw hS => ?_)
  exact z_iret hx hb hr hlk hw hS hf dX4_fault_4
set_option maxHeartbeats 4000000 in
set_option maxRecDepth 100000 in
theorem km_fault (l : Launch) {D : va_G} {L : Nat → Nat} {K : Nat → ClassId} (hJ : gj L 12) (w : St) {w9 : St} {rs : Int32} (hf : fm_fault w = some (rs, w9)) : Met l yX4_fault wsX4_fault ({ frames := 3, cells := 0, slots := 0, locals := 67 }) (va_Pc [.ref (L 0)] (mP D L K w)) (qI D L 12 (cM L K) rs w9) 0 0 (gA L 12) := by
  refine g_met (cc := cX4_fault) (nL := 1) (ret := (some .int)) (by decide) rfl (Nat.le_of_ble_eq_true rfl) (fun p e s m below meth c ls C0 hP hl => ?_)
  exact wm_fault_0 hJ C0 hP.2.1 hP.2.2 w _ _ ls hP.1 va_S.rf (lv_sub hl [0] rfl) hf
