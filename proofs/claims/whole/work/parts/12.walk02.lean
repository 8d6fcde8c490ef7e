set_option maxRecDepth 20000 in
theorem ggX3_fetch_X3_isThere : GoodIn wsX3_fetch wsX3_isThere := goodIn_r _ [6, 7, 44, 45, 46, 47, 48, 49, 50, 51, 52, 53, 54, 55, 56, 57, 58, 59, 60, 61] (by decide +kernel) (by decide +kernel)
set_option maxRecDepth 20000 in
theorem gX3_fetch_X3_isThere : GoodIn wsX3_fetch (wsV RX3 86 RX3 yX3_isThere wsX3_isThere) := goodIn_app (goodIn_of _ (by decide +kernel)) ggX3_fetch_X3_isThere
set_option maxRecDepth 20000 in
theorem ggX3_fetch_X3_has : GoodIn wsX3_fetch wsX3_has := goodIn_r _ [10] (by decide +kernel) (by decide +kernel)
set_option maxRecDepth 20000 in
theorem gX3_fetch_X3_has : GoodIn wsX3_fetch (va_wsS RX3 96 yX3_has wsX3_has) := goodIn_app (goodIn_of _ (by decide +kernel)) ggX3_fetch_X3_has
set_option maxRecDepth 20000 in
theorem ggX3_fetch_X3_remember : GoodIn wsX3_fetch wsX3_remember := goodIn_r _ [14, 15, 16, 17, 1, 18, 19, 20, 21, 22, 23, 24, 25, 26, 27, 28, 29, 30, 31, 32, 33, 44, 45, 46, 47, 48, 49, 50, 51, 52, 53, 54, 55, 56, 57, 58, 59, 60, 61, 62, 63, 64, 65, 66, 67, 68, 69] (by decide +kernel) (by decide +kernel)
set_option maxRecDepth 20000 in
theorem gX3_fetch_X3_remember : GoodIn wsX3_fetch (wsV RX3 110 RX3 yX3_remember wsX3_remember) := goodIn_app (goodIn_of _ (by decide +kernel)) ggX3_fetch_X3_remember
set_option maxRecDepth 20000 in
theorem ggX3_fetch_X3_hoursFrom : GoodIn wsX3_fetch wsX3_hoursFrom := goodIn_r _ [37, 38, 39, 40, 41, 42, 43, 2, 3, 4, 5, 6, 7, 44, 45, 46, 47, 48, 49, 50, 51, 52, 53, 54, 55, 56, 57, 58, 59, 60, 61] (by decide +kernel) (by decide +kernel)
set_option maxRecDepth 20000 in
theorem gX3_fetch_X3_hoursFrom : GoodIn wsX3_fetch (wsV RX3 116 RX3 yX3_hoursFrom wsX3_hoursFrom) := goodIn_app (goodIn_of _ (by decide +kernel)) ggX3_fetch_X3_hoursFrom
theorem dX3_fetch_0 : decode cX3_fetch 0 = .ok (.aload_n 0, 1) := by decide +kernel
theorem dX3_fetch_1 : decode cX3_fetch 1 = .ok (.iload_n 1, 1) := by decide +kernel
theorem dX3_fetch_2 : decode cX3_fetch 2 = .ok (.invokevirtual 86, 3) := by decide +kernel
theorem dX3_fetch_5 : decode cX3_fetch 5 = .ok (.ifCond .ne 5, 3) := by decide +kernel
theorem dX3_fetch_8 : decode cX3_fetch 8 = .ok (.iconst (-1), 1) := by decide +kernel
theorem dX3_fetch_9 : decode cX3_fetch 9 = .ok (.ireturn, 1) := by decide +kernel
theorem dX3_fetch_10 : decode cX3_fetch 10 = .ok (.aload_n 0, 1) := by decide +kernel
theorem dX3_fetch_11 : decode cX3_fetch 11 = .ok (.getfield 23, 3) := by decide +kernel
theorem dX3_fetch_14 : decode cX3_fetch 14 = .ok (.getfield 93, 3) := by decide +kernel
theorem dX3_fetch_17 : decode cX3_fetch 17 = .ok (.iload_n 1, 1) := by decide +kernel
theorem dX3_fetch_18 : decode cX3_fetch 18 = .ok (.invokestatic 96, 3) := by decide +kernel
theorem dX3_fetch_21 : decode cX3_fetch 21 = .ok (.ifCond .eq 6, 3) := by decide +kernel
theorem dX3_fetch_24 : decode cX3_fetch 24 = .ok (.bipush (-3), 2) := by decide +kernel
theorem dX3_fetch_26 : decode cX3_fetch 26 = .ok (.ireturn, 1) := by decide +kernel
theorem dX3_fetch_27 : decode cX3_fetch 27 = .ok (.aload_n 0, 1) := by decide +kernel
theorem dX3_fetch_28 : decode cX3_fetch 28 = .ok (.invokevirtual 110, 3) := by decide +kernel
theorem dX3_fetch_31 : decode cX3_fetch 31 = .ok (.aload_n 0, 1) := by decide +kernel
theorem dX3_fetch_32 : decode cX3_fetch 32 = .ok (.getfield 23, 3) := by decide +kernel
theorem dX3_fetch_35 : decode cX3_fetch 35 = .ok (.dup, 1) := by decide +kernel
theorem dX3_fetch_36 : decode cX3_fetch 36 = .ok (.getfield 93, 3) := by decide +kernel
theorem dX3_fetch_39 : decode cX3_fetch 39 = .ok (.iconst 1, 1) := by decide +kernel
theorem dX3_fetch_40 : decode cX3_fetch 40 = .ok (.iload_n 1, 1) := by decide +kernel
theorem dX3_fetch_41 : decode cX3_fetch 41 = .ok (.ishl, 1) := by decide +kernel
theorem dX3_fetch_42 : decode cX3_fetch 42 = .ok (.ior, 1) := by decide +kernel
theorem dX3_fetch_43 : decode cX3_fetch 43 = .ok (.putfield 93, 3) := by decide +kernel
theorem dX3_fetch_46 : decode cX3_fetch 46 = .ok (.aload_n 0, 1) := by decide +kernel
theorem dX3_fetch_47 : decode cX3_fetch 47 = .ok (.getfield 23, 3) := by decide +kernel
theorem dX3_fetch_50 : decode cX3_fetch 50 = .ok (.dup, 1) := by decide +kernel
theorem dX3_fetch_51 : decode cX3_fetch 51 = .ok (.getfield 113, 3) := by decide +kernel
theorem dX3_fetch_54 : decode cX3_fetch 54 = .ok (.aload_n 0, 1) := by decide +kernel
theorem dX3_fetch_55 : decode cX3_fetch 55 = .ok (.iload_n 1, 1) := by decide +kernel
theorem dX3_fetch_56 : decode cX3_fetch 56 = .ok (.invokevirtual 116, 3) := by decide +kernel
theorem dX3_fetch_59 : decode cX3_fetch 59 = .ok (.iadd, 1) := by decide +kernel
theorem dX3_fetch_60 : decode cX3_fetch 60 = .ok (.putfield 113, 3) := by decide +kernel
theorem dX3_fetch_63 : decode cX3_fetch 63 = .ok (.aload_n 0, 1) := by decide +kernel
theorem dX3_fetch_64 : decode cX3_fetch 64 = .ok (.getfield 23, 3) := by decide +kernel
theorem dX3_fetch_67 : decode cX3_fetch 67 = .ok (.getfield 113, 3) := by decide +kernel
theorem dX3_fetch_70 : decode cX3_fetch 70 = .ok (.ireturn, 1) := by decide +kernel
set_option maxRecDepth 20000 in
theorem hiX3_fetch_X0 : ∀ w ∈ u_ws RX0 TX0 4, w ∈ wsX3_fetch := by decide +kernel
set_option maxRecDepth 20000 in
theorem hiX3_fetch_X3 : ∀ w ∈ u_ws RX3 TX3 18, w ∈ wsX3_fetch := by decide +kernel
set_option maxHeartbeats 4000000 in
set_option maxRecDepth 100000 in
theorem wx_fetch_0 {p : Program} {l : Launch} {e : Env} {s : State} {m : MethodId} {args : Array Value} {below : List Frame} {meth : Method} {c : Code} {D : va_G} {L : Nat → Nat} {K : Nat → ClassId} {t0 : Nat} (hJ : gj L 81) (C0 : gC cX3_fetch 2 (some .int) wsX3_fetch RX3 p s m args meth c) (hK : va_K D vwCl (tyG K) s) (hE : eX L t0 s) {w9 : St} {rs : Int32} : ∀ (x1 : Int32) (w : St) (H : Heap) (locs : List Loc) (ls : Array Slot), va_P D vwCl (gl L 81 (cX L K w)) H → va_S (gA L 81) s.heap H locs → lv_has ls 2 [(0, .ref (L 0)), (1, .int x1)] → fx_fetch x1 w = some (rs, w9) → W p l e { frames := 3, cells := 0, slots := 0, locals := 65 } s m args below meth c H locs 0 0 (MQ below (qI D L 81 (cX L K) rs w9) args s 0 0 (gA L 81)) (F0 m 0 ls []) := by
  obtain ⟨hx, hb, hr, hml, hown, hts, hlk⟩ := id C0
  intro x1 w H locs ls hw hS hl hf
  unfold fx_fetch at hf
  refine lv_aload_n hx hb dX3_fetch_0 rfl (lv_at hl 0 rfl) ?_
  refine lv_iload_n hx hb dX3_fetch_1 rfl (lv_at hl 1 rfl) ?_
  obtain ⟨q2, h2, hf⟩ := bd_e hf
  refine z_calli (va_runV (As := [.int x1]) (rest := []) ⟨hx, hb, hml, hown, hts⟩ (kx_isThere l (D := D) (K := K) (t0 := t0) hJ x1 w  h2) (cwV 1 hts gX3_fetch_X3_isThere rfl rfl rfl (by decide +kernel) ⟨Nat.le_of_ble_eq_true rfl, Nat.le_of_ble_eq_true rfl⟩) (z_preV eX_ok hK hE hw hS kc_0.2 ((cX_a0 kc_0.1) _) (T := TX3) (M := 18) rfl) rfl rfl hl.1 rfl (lv_room (Nat.le_of_ble_eq_true rfl)) dX3_fetch_2 ⟨Nat.le_of_ble_eq_true rfl, Nat.le_of_ble_eq_true rfl⟩) hS (fun H locs hw hS => ?_)
  refine lv_if_ne (tgt := 10) hx hb dX3_fetch_5 (by decide) (fun c5 => ?_) (fun c5 => ?_)
  · replace hf := if_f hf c5
    refine lv_aload_n hx hb dX3_fetch_10 rfl (lv_at hl 0 rfl) ?_
    refine z_get (v := .ref (L 13)) hx hb hts hiX3_fetch_X3 hown hK hw (k := 0) kc_0.2 ((cX_a0 kc_0.1) _) rfl 6 (by decide) (hts (.fieldLink RX3 23 "OneSentence" "today" "LOneSentence$Day;") (by decide +kernel)) rfl dX3_fetch_11 ?_
    refine z_getN (v := .int ((q2.2).1 13 1)) hx hb hts hiX3_fetch_X0 hown hK hw (k := 13) kc_13.2 ((cX_a2 kc_13.1) _) rfl 1 (by decide) (hE.1 (RX3, 93, "OneSentence$Day", "at", "I", "OneSentence") (by decide)) rfl dX3_fetch_14 ?_
    refine lv_iload_n hx hb dX3_fetch_17 rfl (lv_at hl 1 rfl) ?_
    obtain ⟨v18, h18, hf⟩ := bd_e hf
    refine z_calls (va_runS (As := [.int ((q2.2).1 13 1), .int x1]) (rest := []) ⟨hx, hb, hml, hown, hts⟩ (kx_has l ((q2.2).1 13 1) x1 h18) (va_cwS 2 hts gX3_fetch_X3_has rfl rfl rfl (by decide +kernel) ⟨Nat.le_of_ble_eq_true rfl, Nat.le_of_ble_eq_true rfl⟩) z_preT rfl rfl hl.1 rfl (lv_room (Nat.le_of_ble_eq_true rfl)) dX3_fetch_18 ⟨Nat.le_of_ble_eq_true rfl, Nat.le_of_ble_eq_true rfl⟩) ?_
    refine lv_if_eq (tgt := 27) hx hb dX3_fetch_21 (by decide) (fun c21 => ?_) (fun c21 => ?_)
    · replace hf := if_t hf c21
      refine lv_aload_n hx hb dX3_fetch_27 rfl (lv_at hl 0 rfl) ?_
      obtain ⟨w28, h28, hf⟩ := bd_e hf
      refine z_callv (va_runV (As := []) (rest := []) ⟨hx, hb, hml, hown, hts⟩ (kx_remember l (D := D) (K := K) (t0 := t0) hJ (q2.2)  h28) (cwV 0 hts gX3_fetch_X3_remember rfl rfl rfl (by decide +kernel) ⟨Nat.le_of_ble_eq_true rfl, Nat.le_of_ble_eq_true rfl⟩) (z_preV eX_ok hK hE hw hS kc_0.2 ((cX_a0 kc_0.1) _) (T := TX3) (M := 18) rfl) rfl rfl hl.1 rfl (lv_room (Nat.le_of_ble_eq_true rfl)) dX3_fetch_28 ⟨Nat.le_of_ble_eq_true rfl, Nat.le_of_ble_eq_true rfl⟩) hS (fun H locs hw hS => ?_)
      refine lv_aload_n hx hb dX3_fetch_31 rfl (lv_at hl 0 rfl) ?_
      refine z_get (v := .ref (L 13)) hx hb hts hiX3_fetch_X3 hown hK hw (k := 0) kc_0.2 ((cX_a0 kc_0.1) _) rfl 6 (by decide) (hts (.fieldLink RX3 23 "OneSentence" "today" "LOneSentence$Day;") (by decide +kernel)) rfl dX3_fetch_32 ?_
      refine lv_dup hx hb dX3_fetch_35 rfl ?_
      refine z_getN (v := .int (w28.1 13 1)) hx hb hts hiX3_fetch_X0 hown hK hw (k := 13) kc_13.2 ((cX_a2 kc_13.1) _) rfl 1 (by decide) (hE.1 (RX3, 93, "OneSentence$Day", "at", "I", "OneSentence") (by decide)) rfl dX3_fetch_36 ?_
      refine lv_iconst (v := 1) hx hb dX3_fetch_39 (by decide) ?_
      refine lv_iload_n hx hb dX3_fetch_40 rfl (lv_at hl 1 rfl) ?_
      refine lv_ishl hx hb dX3_fetch_41 ?_
      refine lv_ior hx hb dX3_fetch_42 ?_
      refine z_putiN hx hb hts hiX3_fetch_X0 tyX0 tyX0_ok nmX0 hown hK hJ hw hS (k := 13) kc_13.2 cX_ne (fs := (fX2 L 13)) (cX_a2 kc_13.1) rfl 1 (by decide) (hE.1 (RX3, 93, "OneSentence$Day", "at", "I", "OneSentence") (by decide)) rfl rfl (fun _ _ => ⟨Nat.le_of_ble_eq_true rfl, rfl⟩) dX3_fetch_43 (fun H locs hw hS => ?_)
      refine lv_aload_n hx hb dX3_fetch_46 rfl (lv_at hl 0 rfl) ?_
      refine z_get (v := .ref (L 13)) hx hb hts hiX3_fetch_X3 hown hK hw (k := 0) kc_0.2 ((cX_a0 kc_0.1) _) rfl 6 (by decide) (hts (.fieldLink RX3 23 "OneSentence" "today" "LOneSentence$Day;") (by decide +kernel)) rfl dX3_fetch_47 ?_
      refine lv_dup hx hb dX3_fetch_50 rfl ?_
      refine z_getN (v := .int ((wr w28 13 1 ((w28.1 13 1) ||| ((1 : Int32) <<< (x1 &&& 31)))).1 13 2)) hx hb hts hiX3_fetch_X0 hown hK hw (k := 13) kc_13.2 ((cX_a2 kc_13.1) _) rfl 2 (by decide) (hE.1 (RX3, 113, "OneSentence$Day", "hour", "I", "OneSentence") (by decide)) rfl dX3_fetch_51 ?_
      refine lv_aload_n hx hb dX3_fetch_54 rfl (lv_at hl 0 rfl) ?_
      refine lv_iload_n hx hb dX3_fetch_55 rfl (lv_at hl 1 rfl) ?_
      obtain ⟨q56, h56, hf⟩ := bd_e hf
      refine z_calli (va_runV (As := [.int x1]) (rest := [.int ((wr w28 13 1 ((w28.1 13 1) ||| ((1 : Int32) <<< (x1 &&& 31)))).1 13 2), .ref (L 13)]) ⟨hx, hb, hml, hown, hts⟩ (kx_hoursFrom l (D := D) (K := K) (t0 := t0) hJ x1 (wr w28 13 1 ((w28.1 13 1) ||| ((1 : Int32) <<< (x1 &&& 31))))  h56) (cwV 1 hts gX3_fetch_X3_hoursFrom rfl rfl rfl (by decide +kernel) ⟨Nat.le_of_ble_eq_true rfl, Nat.le_of_ble_eq_true rfl⟩) (z_preV eX_ok hK hE hw hS kc_0.2 ((cX_a0 kc_0.1) _) (T := TX3) (M := 18) rfl) rfl rfl hl.1 rfl (lv_room (Nat.le_of_ble_eq_true rfl)) dX3_fetch_56 ⟨Nat.le_of_ble_eq_true rfl, Nat.le_of_ble_eq_true rfl⟩) hS (fun H locs hw hS => ?_)
      refine lv_iadd hx hb dX3_fetch_59 ?_
      refine z_putiN hx hb hts hiX3_fetch_X0 tyX0 tyX0_ok nmX0 hown hK hJ hw hS (k := 13) kc_13.2 cX_ne (fs := (fX2 L 13)) (cX_a2 kc_13.1) rfl 2 (by decide) (hE.1 (RX3, 113, "OneSentence$Day", "hour", "I", "OneSentence") (by decide)) rfl rfl (fun _ _ => ⟨Nat.le_of_ble_eq_true rfl, rfl⟩) dX3_fetch_60 (fun H locs hw hS => ?_)
      refine lv_aload_n hx hb dX3_fetch_63 rfl (lv_at hl 0 rfl) ?_
      refine z_get (v := .ref (L 13)) hx hb hts hiX3_fetch_X3 hown hK hw (k := 0) kc_0.2 ((cX_a0 kc_0.1) _) rfl 6 (by decide) (hts (.fieldLink RX3 23 "OneSentence" "today" "LOneSentence$Day;") (by decide +kernel)) rfl dX3_fetch_64 ?_
      refine z_getN (v := .int ((wr (q56.2) 13 2 (((wr w28 13 1 ((w28.1 13 1) ||| ((1 : Int32) <<< (x1 &&& 31)))).1 13 2) + q56.1)).1 13 2)) hx hb hts hiX3_fetch_X0 hown hK hw (k := 13) kc_13.2 ((cX_a2 kc_13.1) _) rfl 2 (by decide) (hE.1 (RX3, 113, "OneSentence$Day", "hour", "I", "OneSentence") (by decide)) rfl dX3_fetch_67 ?_
      exact z_iret hx hb hr hlk hw hS hf dX3_fetch_70
    · replace hf := if_f hf c21
      refine lv_bipush (v := (-3)) hx hb dX3_fetch_24 (by decide) ?_
      exact z_iret hx hb hr hlk hw hS hf dX3_fetch_26
  · replace hf := if_t hf c5
    refine lv_iconst (v := (-1)) hx hb dX3_fetch_8 (by decide) ?_
    exact z_iret hx hb hr hlk hw hS hf dX3_fetch_9
set_option maxHeartbeats 4000000 in
set_option maxRecDepth 100000 in
theorem kx_fetch (l : Launch) {D : va_G} {L : Nat → Nat} {K : Nat → ClassId} {t0 : Nat} (hJ : gj L 81) (x1 : Int32) (w : St) {w9 : St} {rs : Int32} (hf : fx_fetch x1 w = some (rs, w9)) : Met l yX3_fetch wsX3_fetch ({ frames := 3, cells := 0, slots := 0, locals := 65 }) (va_Pc [.ref (L 0), .int x1] (xP D L K t0 w)) (qI D L 81 (cX L K) rs w9) 0 0 (gA L 81) := by
  refine g_met (cc := cX3_fetch) (nL := 2) (ret := (some .int)) (by decide) rfl (Nat.le_of_ble_eq_true rfl) (fun p e s m below meth c ls C0 hP hl => ?_)
  exact wx_fetch_0 hJ C0 hP.2.1 hP.2.2 _ w _ _ ls hP.1 va_S.rf (lv_sub hl [0, 1] rfl) hf
theorem dJ6_bitCount_0f7a4_0 : decode cJ6_bitCount_0f7a4 0 = .ok (.iload_n 0, 1) := by decide +kernel
theorem dJ6_bitCount_0f7a4_1 : decode cJ6_bitCount_0f7a4 1 = .ok (.iload_n 0, 1) := by decide +kernel
theorem dJ6_bitCount_0f7a4_2 : decode cJ6_bitCount_0f7a4 2 = .ok (.iconst 1, 1) := by decide +kernel
theorem dJ6_bitCount_0f7a4_3 : decode cJ6_bitCount_0f7a4 3 = .ok (.iushr, 1) := by decide +kernel
theorem dJ6_bitCount_0f7a4_4 : decode cJ6_bitCount_0f7a4 4 = .ok (.ldc_w 265, 3) := by decide +kernel
theorem dJ6_bitCount_0f7a4_7 : decode cJ6_bitCount_0f7a4 7 = .ok (.iand, 1) := by decide +kernel
theorem dJ6_bitCount_0f7a4_8 : decode cJ6_bitCount_0f7a4 8 = .ok (.isub, 1) := by decide +kernel
theorem dJ6_bitCount_0f7a4_9 : decode cJ6_bitCount_0f7a4 9 = .ok (.istore_n 0, 1) := by decide +kernel
theorem dJ6_bitCount_0f7a4_10 : decode cJ6_bitCount_0f7a4 10 = .ok (.iload_n 0, 1) := by decide +kernel
theorem dJ6_bitCount_0f7a4_11 : decode cJ6_bitCount_0f7a4 11 = .ok (.ldc_w 266, 3) := by decide +kernel
theorem dJ6_bitCount_0f7a4_14 : decode cJ6_bitCount_0f7a4 14 = .ok (.iand, 1) := by decide +kernel
theorem dJ6_bitCount_0f7a4_15 : decode cJ6_bitCount_0f7a4 15 = .ok (.iload_n 0, 1) := by decide +kernel
theorem dJ6_bitCount_0f7a4_16 : decode cJ6_bitCount_0f7a4 16 = .ok (.iconst 2, 1) := by decide +kernel
theorem dJ6_bitCount_0f7a4_17 : decode cJ6_bitCount_0f7a4 17 = .ok (.iushr, 1) := by decide +kernel
theorem dJ6_bitCount_0f7a4_18 : decode cJ6_bitCount_0f7a4 18 = .ok (.ldc_w 266, 3) := by decide +kernel
theorem dJ6_bitCount_0f7a4_21 : decode cJ6_bitCount_0f7a4 21 = .ok (.iand, 1) := by decide +kernel
theorem dJ6_bitCount_0f7a4_22 : decode cJ6_bitCount_0f7a4 22 = .ok (.iadd, 1) := by decide +kernel
theorem dJ6_bitCount_0f7a4_23 : decode cJ6_bitCount_0f7a4 23 = .ok (.istore_n 0, 1) := by decide +kernel
theorem dJ6_bitCount_0f7a4_24 : decode cJ6_bitCount_0f7a4 24 = .ok (.iload_n 0, 1) := by decide +kernel
theorem dJ6_bitCount_0f7a4_25 : decode cJ6_bitCount_0f7a4 25 = .ok (.iload_n 0, 1) := by decide +kernel
theorem dJ6_bitCount_0f7a4_26 : decode cJ6_bitCount_0f7a4 26 = .ok (.iconst 4, 1) := by decide +kernel
theorem dJ6_bitCount_0f7a4_27 : decode cJ6_bitCount_0f7a4 27 = .ok (.iushr, 1) := by decide +kernel
theorem dJ6_bitCount_0f7a4_28 : decode cJ6_bitCount_0f7a4 28 = .ok (.iadd, 1) := by decide +kernel
theorem dJ6_bitCount_0f7a4_29 : decode cJ6_bitCount_0f7a4 29 = .ok (.ldc_w 267, 3) := by decide +kernel
theorem dJ6_bitCount_0f7a4_32 : decode cJ6_bitCount_0f7a4 32 = .ok (.iand, 1) := by decide +kernel
theorem dJ6_bitCount_0f7a4_33 : decode cJ6_bitCount_0f7a4 33 = .ok (.istore_n 0, 1) := by decide +kernel
theorem dJ6_bitCount_0f7a4_34 : decode cJ6_bitCount_0f7a4 34 = .ok (.iload_n 0, 1) := by decide +kernel
theorem dJ6_bitCount_0f7a4_35 : decode cJ6_bitCount_0f7a4 35 = .ok (.iload_n 0, 1) := by decide +kernel
theorem dJ6_bitCount_0f7a4_36 : decode cJ6_bitCount_0f7a4 36 = .ok (.bipush 8, 2) := by decide +kernel
theorem dJ6_bitCount_0f7a4_38 : decode cJ6_bitCount_0f7a4 38 = .ok (.iushr, 1) := by decide +kernel
theorem dJ6_bitCount_0f7a4_39 : decode cJ6_bitCount_0f7a4 39 = .ok (.iadd, 1) := by decide +kernel
theorem dJ6_bitCount_0f7a4_40 : decode cJ6_bitCount_0f7a4 40 = .ok (.istore_n 0, 1) := by decide +kernel
theorem dJ6_bitCount_0f7a4_41 : decode cJ6_bitCount_0f7a4 41 = .ok (.iload_n 0, 1) := by decide +kernel
theorem dJ6_bitCount_0f7a4_42 : decode cJ6_bitCount_0f7a4 42 = .ok (.iload_n 0, 1) := by decide +kernel
theorem dJ6_bitCount_0f7a4_43 : decode cJ6_bitCount_0f7a4 43 = .ok (.bipush 16, 2) := by decide +kernel
theorem dJ6_bitCount_0f7a4_45 : decode cJ6_bitCount_0f7a4 45 = .ok (.iushr, 1) := by decide +kernel
theorem dJ6_bitCount_0f7a4_46 : decode cJ6_bitCount_0f7a4 46 = .ok (.iadd, 1) := by decide +kernel
theorem dJ6_bitCount_0f7a4_47 : decode cJ6_bitCount_0f7a4 47 = .ok (.istore_n 0, 1) := by decide +kernel
theorem dJ6_bitCount_0f7a4_48 : decode cJ6_bitCount_0f7a4 48 = .ok (.iload_n 0, 1) := by decide +kernel
theorem dJ6_bitCount_0f7a4_49 : decode cJ6_bitCount_0f7a4 49 = .ok (.bipush 63, 2) := by decide +kernel
theorem dJ6_bitCount_0f7a4_51 : decode cJ6_bitCount_0f7a4 51 = .ok (.iand, 1) := by decide +kernel
theorem dJ6_bitCount_0f7a4_52 : decode cJ6_bitCount_0f7a4 52 = .ok (.ireturn, 1) := by decide +kernel
set_option maxHeartbeats 4000000 in
set_option maxRecDepth 100000 in
theorem wj_bitCount_0 {p : Program} {l : Launch} {e : Env} {s : State} {m : MethodId} {args : Array Value} {below : List Frame} {meth : Method} {c : Code} (C0 : gC cJ6_bitCount_0f7a4 1 (some .int) wsJ6_bitCount_0f7a4 RJ6 p s m args meth c) {rs : Int32} : ∀ (x0 : Int32) (ls : Array Slot), lv_has ls 1 [(0, .int x0)] → fj_bitCount x0 = some rs → W p l e { frames := 0, cells := 0, slots := 0, locals := 0 } s m args below meth c s.heap [] 0 0 (MQ below (qS rs) args s 0 0 (fun _ => False)) (F0 m 0 ls []) := by
  obtain ⟨hx, hb, hr, hml, hown, hts, hlk⟩ := id C0
  intro x0 ls hl hf
  unfold fj_bitCount at hf
  refine lv_iload_n hx hb dJ6_bitCount_0f7a4_0 rfl (lv_at hl 0 rfl) ?_
  refine lv_iload_n hx hb dJ6_bitCount_0f7a4_1 rfl (lv_at hl 0 rfl) ?_
  refine lv_iconst (v := 1) hx hb dJ6_bitCount_0f7a4_2 (by decide) ?_
  refine lv_iushr (v := (ush x0 1)) hx hb dJ6_bitCount_0f7a4_3 rfl ?_
  refine lv_ldcw (v := 1431655765) hx hb hown (hts (.constant RJ6 265 1431655765) (by decide +kernel)) dJ6_bitCount_0f7a4_4 ?_
  refine lv_iand hx hb dJ6_bitCount_0f7a4_7 ?_
  refine lv_isub hx hb dJ6_bitCount_0f7a4_8 ?_
  refine lv_topi (fun v9 e9 => ?_)
  replace hf := lb_e hf e9
  refine lv_istore_n (lv' := [(0, .int v9)]) hx hb dJ6_bitCount_0f7a4_9 rfl hl (by decide) rfl (fun ls hl => ?_)
  refine lv_iload_n hx hb dJ6_bitCount_0f7a4_10 rfl (lv_at hl 0 rfl) ?_
  refine lv_ldcw (v := 858993459) hx hb hown (hts (.constant RJ6 266 858993459) (by decide +kernel)) dJ6_bitCount_0f7a4_11 ?_
  refine lv_iand hx hb dJ6_bitCount_0f7a4_14 ?_
  refine lv_iload_n hx hb dJ6_bitCount_0f7a4_15 rfl (lv_at hl 0 rfl) ?_
  refine lv_iconst (v := 2) hx hb dJ6_bitCount_0f7a4_16 (by decide) ?_
  refine lv_iushr (v := (ush v9 2)) hx hb dJ6_bitCount_0f7a4_17 rfl ?_
  refine lv_ldcw (v := 858993459) hx hb hown (hts (.constant RJ6 266 858993459) (by decide +kernel)) dJ6_bitCount_0f7a4_18 ?_
  refine lv_iand hx hb dJ6_bitCount_0f7a4_21 ?_
  refine lv_iadd hx hb dJ6_bitCount_0f7a4_22 ?_
  refine lv_topi (fun v23 e23 => ?_)
  replace hf := lb_e hf e23
  refine lv_istore_n (lv' := [(0, .int v23)]) hx hb dJ6_bitCount_0f7a4_23 rfl hl (by decide) rfl (fun ls hl => ?_)
  refine lv_iload_n hx hb dJ6_bitCount_0f7a4_24 rfl (lv_at hl 0 rfl) ?_
  refine lv_iload_n hx hb dJ6_bitCount_0f7a4_25 rfl (lv_at hl 0 rfl) ?_
  refine lv_iconst (v := 4) hx hb dJ6_bitCount_0f7a4_26 (by decide) ?_
  refine lv_iushr (v := (ush v23 4)) hx hb dJ6_bitCount_0f7a4_27 rfl ?_
  refine lv_iadd hx hb dJ6_bitCount_0f7a4_28 ?_
  refine lv_ldcw (v := 252645135) hx hb hown (hts (.constant RJ6 267 252645135) (by decide +kernel)) dJ6_bitCount_0f7a4_29 ?_
  refine lv_iand hx hb dJ6_bitCount_0f7a4_32 ?_
  refine lv_topi (fun v33 e33 => ?_)
  replace hf := lb_e hf e33
  refine lv_istore_n (lv' := [(0, .int v33)]) hx hb dJ6_bitCount_0f7a4_33 rfl hl (by decide) rfl (fun ls hl => ?_)
  refine lv_iload_n hx hb dJ6_bitCount_0f7a4_34 rfl (lv_at hl 0 rfl) ?_
  refine lv_iload_n hx hb dJ6_bitCount_0f7a4_35 rfl (lv_at hl 0 rfl) ?_
  refine lv_bipush (v := 8) hx hb dJ6_bitCount_0f7a4_36 (by decide) ?_
  refine lv_iushr (v := (ush v33 8)) hx hb dJ6_bitCount_0f7a4_38 rfl ?_
  refine lv_iadd hx hb dJ6_bitCount_0f7a4_39 ?_
  refine lv_topi (fun v40 e40 => ?_)
  replace hf := lb_e hf e40
  refine lv_istore_n (lv' := [(0, .int v40)]) hx hb dJ6_bitCount_0f7a4_40 rfl hl (by decide) rfl (fun ls hl => ?_)
  refine lv_iload_n hx hb dJ6_bitCount_0f7a4_41 rfl (lv_at hl 0 rfl) ?_
  refine lv_iload_n hx hb dJ6_bitCount_0f7a4_42 rfl (lv_at hl 0 rfl) ?_
  refine lv_bipush (v := 16) hx hb dJ6_bitCount_0f7a4_43 (by decide) ?_
  refine lv_iushr (v := (ush v40 16)) hx hb dJ6_bitCount_0f7a4_45 rfl ?_
  refine lv_iadd hx hb dJ6_bitCount_0f7a4_46 ?_
  refine lv_topi (fun v47 e47 => ?_)
  replace hf := lb_e hf e47
  refine lv_istore_n (lv' := [(0, .int v47)]) hx hb dJ6_bitCount_0f7a4_47 rfl hl (by decide) rfl (fun ls hl => ?_)
  refine lv_iload_n hx hb dJ6_bitCount_0f7a4_48 rfl (lv_at hl 0 rfl) ?_
  refine lv_bipush (v := 63) hx hb dJ6_bitCount_0f7a4_49 (by decide) ?_
  refine lv_iand hx hb dJ6_bitCount_0f7a4_51 ?_
  exact z_sret hx hb hr hlk hf dJ6_bitCount_0f7a4_52
set_option maxHeartbeats 4000000 in
set_option maxRecDepth 100000 in
theorem kj_bitCount (l : Launch) (x0 : Int32) {rs : Int32} (hf : fj_bitCount x0 = some rs) : Met l yJ6_bitCount_0f7a4 wsJ6_bitCount_0f7a4 ({ frames := 0, cells := 0, slots := 0, locals := 0 }) (va_Pc [.int x0] (fun _ => True)) (qS rs) 0 0 (fun _ => False) := by
  refine g_met (cc := cJ6_bitCount_0f7a4) (nL := 1) (ret := (some .int)) (by decide) rfl (Nat.le_of_ble_eq_true rfl) (fun p e s m below meth c ls C0 _ hl => ?_)
  exact wj_bitCount_0 C0 _ ls (lv_sub hl [0] rfl) hf
set_option maxRecDepth 20000 in
theorem ggX3_send_X3_isThere : GoodIn wsX3_send wsX3_isThere := goodIn_r _ [8, 9, 43, 44, 45, 46, 47, 48, 49, 50, 51, 52, 53, 54, 55, 56, 57, 58, 59, 60] (by decide +kernel) (by decide +kernel)
set_option maxRecDepth 20000 in
theorem gX3_send_X3_isThere : GoodIn wsX3_send (wsV RX3 86 RX3 yX3_isThere wsX3_isThere) := goodIn_app (goodIn_of _ (by decide +kernel)) ggX3_send_X3_isThere
set_option maxRecDepth 20000 in
theorem ggX3_send_X3_has : GoodIn wsX3_send wsX3_has := goodIn_r _ [12] (by decide +kernel) (by decide +kernel)
set_option maxRecDepth 20000 in
theorem gX3_send_X3_has : GoodIn wsX3_send (va_wsS RX3 96 yX3_has wsX3_has) := goodIn_app (goodIn_of _ (by decide +kernel)) ggX3_send_X3_has
set_option maxRecDepth 20000 in
theorem ggX3_send_X3_remember : GoodIn wsX3_send wsX3_remember := goodIn_r _ [16, 17, 18, 19, 1, 20, 21, 22, 23, 24, 25, 26, 27, 28, 29, 30, 31, 32, 33, 34, 35, 43, 44, 45, 46, 47, 48, 49, 50, 51, 52, 53, 54, 55, 56, 57, 58, 59, 60, 61, 62, 63, 64, 65, 66, 67, 68] (by decide +kernel) (by decide +kernel)
set_option maxRecDepth 20000 in
theorem gX3_send_X3_remember : GoodIn wsX3_send (wsV RX3 110 RX3 yX3_remember wsX3_remember) := goodIn_app (goodIn_of _ (by decide +kernel)) ggX3_send_X3_remember
set_option maxRecDepth 20000 in
theorem ggX3_send_J6_bitCount_0f7a4 : GoodIn wsX3_send wsJ6_bitCount_0f7a4 := goodIn_r _ [39, 40, 41, 42] (by decide +kernel) (by decide +kernel)
set_option maxRecDepth 20000 in
theorem gX3_send_J6_bitCount_0f7a4 : GoodIn wsX3_send (va_wsS RX3 119 yJ6_bitCount_0f7a4 wsJ6_bitCount_0f7a4) := goodIn_app (goodIn_of _ (by decide +kernel)) ggX3_send_J6_bitCount_0f7a4
theorem dX3_send_0 : decode cX3_send 0 = .ok (.aload_n 0, 1) := by decide +kernel
theorem dX3_send_1 : decode cX3_send 1 = .ok (.iload_n 1, 1) := by decide +kernel
theorem dX3_send_2 : decode cX3_send 2 = .ok (.invokevirtual 86, 3) := by decide +kernel
theorem dX3_send_5 : decode cX3_send 5 = .ok (.ifCond .ne 5, 3) := by decide +kernel
theorem dX3_send_8 : decode cX3_send 8 = .ok (.iconst (-1), 1) := by decide +kernel
theorem dX3_send_9 : decode cX3_send 9 = .ok (.ireturn, 1) := by decide +kernel
theorem dX3_send_10 : decode cX3_send 10 = .ok (.aload_n 0, 1) := by decide +kernel
theorem dX3_send_11 : decode cX3_send 11 = .ok (.getfield 23, 3) := by decide +kernel
theorem dX3_send_14 : decode cX3_send 14 = .ok (.getfield 93, 3) := by decide +kernel
theorem dX3_send_17 : decode cX3_send 17 = .ok (.iload_n 1, 1) := by decide +kernel
theorem dX3_send_18 : decode cX3_send 18 = .ok (.invokestatic 96, 3) := by decide +kernel
theorem dX3_send_21 : decode cX3_send 21 = .ok (.ifCond .eq 16, 3) := by decide +kernel
theorem dX3_send_24 : decode cX3_send 24 = .ok (.aload_n 0, 1) := by decide +kernel
theorem dX3_send_25 : decode cX3_send 25 = .ok (.getfield 13, 3) := by decide +kernel
theorem dX3_send_28 : decode cX3_send 28 = .ok (.iload_n 1, 1) := by decide +kernel
theorem dX3_send_29 : decode cX3_send 29 = .ok (.iaload, 1) := by decide +kernel
theorem dX3_send_30 : decode cX3_send 30 = .ok (.aload_n 0, 1) := by decide +kernel
theorem dX3_send_31 : decode cX3_send 31 = .ok (.getfield 70, 3) := by decide +kernel
theorem dX3_send_34 : decode cX3_send 34 = .ok (.if_icmp .ne 6, 3) := by decide +kernel
theorem dX3_send_37 : decode cX3_send 37 = .ok (.bipush (-3), 2) := by decide +kernel
theorem dX3_send_39 : decode cX3_send 39 = .ok (.ireturn, 1) := by decide +kernel
theorem dX3_send_40 : decode cX3_send 40 = .ok (.aload_n 0, 1) := by decide +kernel
theorem dX3_send_41 : decode cX3_send 41 = .ok (.invokevirtual 110, 3) := by decide +kernel
theorem dX3_send_44 : decode cX3_send 44 = .ok (.aload_n 0, 1) := by decide +kernel
theorem dX3_send_45 : decode cX3_send 45 = .ok (.getfield 23, 3) := by decide +kernel
theorem dX3_send_48 : decode cX3_send 48 = .ok (.dup, 1) := by decide +kernel
theorem dX3_send_49 : decode cX3_send 49 = .ok (.getfield 93, 3) := by decide +kernel
theorem dX3_send_52 : decode cX3_send 52 = .ok (.iconst 1, 1) := by decide +kernel
theorem dX3_send_53 : decode cX3_send 53 = .ok (.iload_n 1, 1) := by decide +kernel
theorem dX3_send_54 : decode cX3_send 54 = .ok (.ishl, 1) := by decide +kernel
theorem dX3_send_55 : decode cX3_send 55 = .ok (.iconst (-1), 1) := by decide +kernel
theorem dX3_send_56 : decode cX3_send 56 = .ok (.ixor, 1) := by decide +kernel
theorem dX3_send_57 : decode cX3_send 57 = .ok (.iand, 1) := by decide +kernel
theorem dX3_send_58 : decode cX3_send 58 = .ok (.putfield 93, 3) := by decide +kernel
theorem dX3_send_61 : decode cX3_send 61 = .ok (.aload_n 0, 1) := by decide +kernel
theorem dX3_send_62 : decode cX3_send 62 = .ok (.getfield 23, 3) := by decide +kernel
theorem dX3_send_65 : decode cX3_send 65 = .ok (.getfield 93, 3) := by decide +kernel
theorem dX3_send_68 : decode cX3_send 68 = .ok (.invokestatic 119, 3) := by decide +kernel
theorem dX3_send_71 : decode cX3_send 71 = .ok (.ireturn, 1) := by decide +kernel
set_option maxRecDepth 20000 in
theorem hiX3_send_X0 : ∀ w ∈ u_ws RX0 TX0 4, w ∈ wsX3_send := by decide +kernel
set_option maxRecDepth 20000 in
theorem hiX3_send_X3 : ∀ w ∈ u_ws RX3 TX3 18, w ∈ wsX3_send := by decide +kernel
set_option maxHeartbeats 4000000 in
set_option maxRecDepth 100000 in
theorem wx_send_0 {p : Program} {l : Launch} {e : Env} {s : State} {m : MethodId} {args : Array Value} {below : List Frame} {meth : Method} {c : Code} {D : va_G} {L : Nat → Nat} {K : Nat → ClassId} {t0 : Nat} (hJ : gj L 81) (C0 : gC cX3_send 2 (some .int) wsX3_send RX3 p s m args meth c) (hK : va_K D vwCl (tyG K) s) (hE : eX L t0 s) {w9 : St} {rs : Int32} : ∀ (x1 : Int32) (w : St) (H : Heap) (locs : List Loc) (ls : Array Slot), va_P D vwCl (gl L 81 (cX L K w)) H → va_S (gA L 81) s.heap H locs → lv_has ls 2 [(0, .ref (L 0)), (1, .int x1)] → fx_send x1 w = some (rs, w9) → W p l e { frames := 3, cells := 0, slots := 0, locals := 65 } s m args below meth c H locs 0 0 (MQ below (qI D L 81 (cX L K) rs w9) args s 0 0 (gA L 81)) (F0 m 0 ls []) := by
  obtain ⟨hx, hb, hr, hml, hown, hts, hlk⟩ := id C0
  intro x1 w H locs ls hw hS hl hf
  unfold fx_send at hf
  refine lv_aload_n hx hb dX3_send_0 rfl (lv_at hl 0 rfl) ?_
  refine lv_iload_n hx hb dX3_send_1 rfl (lv_at hl 1 rfl) ?_
  obtain ⟨q2, h2, hf⟩ := bd_e hf
  refine z_calli (va_runV (As := [.int x1]) (rest := []) ⟨hx, hb, hml, hown, hts⟩ (kx_isThere l (D := D) (K := K) (t0 := t0) hJ x1 w  h2) (cwV 1 hts gX3_send_X3_isThere rfl rfl rfl (by decide +kernel) ⟨Nat.le_of_ble_eq_true rfl, Nat.le_of_ble_eq_true rfl⟩) (z_preV eX_ok hK hE hw hS kc_0.2 ((cX_a0 kc_0.1) _) (T := TX3) (M := 18) rfl) rfl rfl hl.1 rfl (lv_room (Nat.le_of_ble_eq_true rfl)) dX3_send_2 ⟨Nat.le_of_ble_eq_true rfl, Nat.le_of_ble_eq_true rfl⟩) hS (fun H locs hw hS => ?_)
  refine lv_if_ne (tgt := 10) hx hb dX3_send_5 (by decide) (fun c5 => ?_) (fun c5 => ?_)
  · replace hf := if_f hf c5
    refine lv_aload_n hx hb dX3_send_10 rfl (lv_at hl 0 rfl) ?_
    refine z_get (v := .ref (L 13)) hx hb hts hiX3_send_X3 hown hK hw (k := 0) kc_0.2 ((cX_a0 kc_0.1) _) rfl 6 (by decide) (hts (.fieldLink RX3 23 "OneSentence" "today" "LOneSentence$Day;") (by decide +kernel)) rfl dX3_send_11 ?_
    refine z_getN (v := .int ((q2.2).1 13 1)) hx hb hts hiX3_send_X0 hown hK hw (k := 13) kc_13.2 ((cX_a2 kc_13.1) _) rfl 1 (by decide) (hE.1 (RX3, 93, "OneSentence$Day", "at", "I", "OneSentence") (by decide)) rfl dX3_send_14 ?_
    refine lv_iload_n hx hb dX3_send_17 rfl (lv_at hl 1 rfl) ?_
    obtain ⟨v18, h18, hf⟩ := bd_e hf
    refine z_calls (va_runS (As := [.int ((q2.2).1 13 1), .int x1]) (rest := []) ⟨hx, hb, hml, hown, hts⟩ (kx_has l ((q2.2).1 13 1) x1 h18) (va_cwS 2 hts gX3_send_X3_has rfl rfl rfl (by decide +kernel) ⟨Nat.le_of_ble_eq_true rfl, Nat.le_of_ble_eq_true rfl⟩) z_preT rfl rfl hl.1 rfl (lv_room (Nat.le_of_ble_eq_true rfl)) dX3_send_18 ⟨Nat.le_of_ble_eq_true rfl, Nat.le_of_ble_eq_true rfl⟩) ?_
    refine lv_if_eq (tgt := 37) hx hb dX3_send_21 (by decide) (fun c21 => ?_) (fun c21 => ?_)
    · replace hf := if_t hf c21
      refine lv_bipush (v := (-3)) hx hb dX3_send_37 (by decide) ?_
      exact z_iret hx hb hr hlk hw hS hf dX3_send_39
    · replace hf := if_f hf c21
      refine lv_aload_n hx hb dX3_send_24 rfl (lv_at hl 0 rfl) ?_
      refine z_get (v := .ref (L 2)) hx hb hts hiX3_send_X3 hown hK hw (k := 0) kc_0.2 ((cX_a0 kc_0.1) _) rfl 4 (by decide) (hts (.fieldLink RX3 13 "OneSentence" "home" "[I") (by decide +kernel)) rfl dX3_send_25 ?_
      refine lv_iload_n hx hb dX3_send_28 rfl (lv_at hl 1 rfl) ?_
      obtain ⟨v29, h29, hf⟩ := bd_e hf
      refine z_iald hx hb hK hw 0 (k := 2) kc_2.2 ((cX_a4 kc_2.1) _) rfl h29 dX3_send_29 ?_
      refine lv_aload_n hx hb dX3_send_30 rfl (lv_at hl 0 rfl) ?_
      refine z_get (v := .int ((q2.2).1 0 2)) hx hb hts hiX3_send_X3 hown hK hw (k := 0) kc_0.2 ((cX_a0 kc_0.1) _) rfl 2 (by decide) (hts (.fieldLink RX3 70 "OneSentence" "market" "I") (by decide +kernel)) rfl dX3_send_31 ?_
      refine lv_icmp_ne (tgt := 40) hx hb dX3_send_34 (by decide) (fun c34 => ?_) (fun c34 => ?_)
      · replace hf := if_f hf c34
        refine lv_aload_n hx hb dX3_send_40 rfl (lv_at hl 0 rfl) ?_
        obtain ⟨w41, h41, hf⟩ := bd_e hf
        refine z_callv (va_runV (As := []) (rest := []) ⟨hx, hb, hml, hown, hts⟩ (kx_remember l (D := D) (K := K) (t0 := t0) hJ (q2.2)  h41) (cwV 0 hts gX3_send_X3_remember rfl rfl rfl (by decide +kernel) ⟨Nat.le_of_ble_eq_true rfl, Nat.le_of_ble_eq_true rfl⟩) (z_preV eX_ok hK hE hw hS kc_0.2 ((cX_a0 kc_0.1) _) (T := TX3) (M := 18) rfl) rfl rfl hl.1 rfl (lv_room (Nat.le_of_ble_eq_true rfl)) dX3_send_41 ⟨Nat.le_of_ble_eq_true rfl, Nat.le_of_ble_eq_true rfl⟩) hS (fun H locs hw hS => ?_)
        refine lv_aload_n hx hb dX3_send_44 rfl (lv_at hl 0 rfl) ?_
        refine z_get (v := .ref (L 13)) hx hb hts hiX3_send_X3 hown hK hw (k := 0) kc_0.2 ((cX_a0 kc_0.1) _) rfl 6 (by decide) (hts (.fieldLink RX3 23 "OneSentence" "today" "LOneSentence$Day;") (by decide +kernel)) rfl dX3_send_45 ?_
        refine lv_dup hx hb dX3_send_48 rfl ?_
        refine z_getN (v := .int (w41.1 13 1)) hx hb hts hiX3_send_X0 hown hK hw (k := 13) kc_13.2 ((cX_a2 kc_13.1) _) rfl 1 (by decide) (hE.1 (RX3, 93, "OneSentence$Day", "at", "I", "OneSentence") (by decide)) rfl dX3_send_49 ?_
        refine lv_iconst (v := 1) hx hb dX3_send_52 (by decide) ?_
        refine lv_iload_n hx hb dX3_send_53 rfl (lv_at hl 1 rfl) ?_
        refine lv_ishl hx hb dX3_send_54 ?_
        refine lv_iconst (v := (-1)) hx hb dX3_send_55 (by decide) ?_
        refine lv_ixor hx hb dX3_send_56 ?_
        refine lv_iand hx hb dX3_send_57 ?_
        refine z_putiN hx hb hts hiX3_send_X0 tyX0 tyX0_ok nmX0 hown hK hJ hw hS (k := 13) kc_13.2 cX_ne (fs := (fX2 L 13)) (cX_a2 kc_13.1) rfl 1 (by decide) (hE.1 (RX3, 93, "OneSentence$Day", "at", "I", "OneSentence") (by decide)) rfl rfl (fun _ _ => ⟨Nat.le_of_ble_eq_true rfl, rfl⟩) dX3_send_58 (fun H locs hw hS => ?_)
        refine lv_aload_n hx hb dX3_send_61 rfl (lv_at hl 0 rfl) ?_
        refine z_get (v := .ref (L 13)) hx hb hts hiX3_send_X3 hown hK hw (k := 0) kc_0.2 ((cX_a0 kc_0.1) _) rfl 6 (by decide) (hts (.fieldLink RX3 23 "OneSentence" "today" "LOneSentence$Day;") (by decide +kernel)) rfl dX3_send_62 ?_
        refine z_getN (v := .int ((wr w41 13 1 ((w41.1 13 1) &&& (((1 : Int32) <<< (x1 &&& 31)) ^^^ (-1 : Int32)))).1 13 1)) hx hb hts hiX3_send_X0 hown hK hw (k := 13) kc_13.2 ((cX_a2 kc_13.1) _) rfl 1 (by decide) (hE.1 (RX3, 93, "OneSentence$Day", "at", "I", "OneSentence") (by decide)) rfl dX3_send_65 ?_
        obtain ⟨v68, h68, hf⟩ := bd_e hf
        refine z_calls (va_runS (As := [.int ((wr w41 13 1 ((w41.1 13 1) &&& (((1 : Int32) <<< (x1 &&& 31)) ^^^ (-1 : Int32)))).1 13 1)]) (rest := []) ⟨hx, hb, hml, hown, hts⟩ (kj_bitCount l ((wr w41 13 1 ((w41.1 13 1) &&& (((1 : Int32) <<< (x1 &&& 31)) ^^^ (-1 : Int32)))).1 13 1) h68) (va_cwS 1 hts gX3_send_J6_bitCount_0f7a4 rfl rfl rfl (by decide +kernel) ⟨Nat.le_of_ble_eq_true rfl, Nat.le_of_ble_eq_true rfl⟩) z_preT rfl rfl hl.1 rfl (lv_room (Nat.le_of_ble_eq_true rfl)) dX3_send_68 ⟨Nat.le_of_ble_eq_true rfl, Nat.le_of_ble_eq_true rfl⟩) ?_
        exact z_iret hx hb hr hlk hw hS hf dX3_send_71
      · replace hf := if_t hf c34
        refine lv_bipush (v := (-3)) hx hb dX3_send_37 (by decide) ?_
        exact z_iret hx hb hr hlk hw hS hf dX3_send_39
  · replace hf := if_t hf c5
    refine lv_iconst (v := (-1)) hx hb dX3_send_8 (by decide) ?_
    exact z_iret hx hb hr hlk hw hS hf dX3_send_9
set_option maxHeartbeats 4000000 in
set_option maxRecDepth 100000 in
theorem kx_send (l : Launch) {D : va_G} {L : Nat → Nat} {K : Nat → ClassId} {t0 : Nat} (hJ : gj L 81) (x1 : Int32) (w : St) {w9 : St} {rs : Int32} (hf : fx_send x1 w = some (rs, w9)) : Met l yX3_send wsX3_send ({ frames := 3, cells := 0, slots := 0, locals := 65 }) (va_Pc [.ref (L 0), .int x1] (xP D L K t0 w)) (qI D L 81 (cX L K) rs w9) 0 0 (gA L 81) := by
  refine g_met (cc := cX3_send) (nL := 2) (ret := (some .int)) (by decide) rfl (Nat.le_of_ble_eq_true rfl) (fun p e s m below meth c ls C0 hP hl => ?_)
  exact wx_send_0 hJ C0 hP.2.1 hP.2.2 _ w _ _ ls hP.1 va_S.rf (lv_sub hl [0, 1] rfl) hf
theorem dX3_sentenceOf_0 : decode cX3_sentenceOf 0 = .ok (.iload_n 1, 1) := by decide +kernel
theorem dX3_sentenceOf_1 : decode cX3_sentenceOf 1 = .ok (.bipush 6, 2) := by decide +kernel
theorem dX3_sentenceOf_3 : decode cX3_sentenceOf 3 = .ok (.if_icmp .ne 8, 3) := by decide +kernel
theorem dX3_sentenceOf_6 : decode cX3_sentenceOf 6 = .ok (.aload_n 0, 1) := by decide +kernel
theorem dX3_sentenceOf_7 : decode cX3_sentenceOf 7 = .ok (.getfield 171, 3) := by decide +kernel
theorem dX3_sentenceOf_10 : decode cX3_sentenceOf 10 = .ok (.ireturn, 1) := by decide +kernel
theorem dX3_sentenceOf_11 : decode cX3_sentenceOf 11 = .ok (.iload_n 1, 1) := by decide +kernel
theorem dX3_sentenceOf_12 : decode cX3_sentenceOf 12 = .ok (.ifCond .lt 21, 3) := by decide +kernel
theorem dX3_sentenceOf_15 : decode cX3_sentenceOf 15 = .ok (.iload_n 1, 1) := by decide +kernel
theorem dX3_sentenceOf_16 : decode cX3_sentenceOf 16 = .ok (.bipush 6, 2) := by decide +kernel
theorem dX3_sentenceOf_18 : decode cX3_sentenceOf 18 = .ok (.if_icmp .ge 15, 3) := by decide +kernel
theorem dX3_sentenceOf_21 : decode cX3_sentenceOf 21 = .ok (.aload_n 0, 1) := by decide +kernel
theorem dX3_sentenceOf_22 : decode cX3_sentenceOf 22 = .ok (.getfield 23, 3) := by decide +kernel
theorem dX3_sentenceOf_25 : decode cX3_sentenceOf 25 = .ok (.getfield 90, 3) := by decide +kernel
theorem dX3_sentenceOf_28 : decode cX3_sentenceOf 28 = .ok (.iload_n 1, 1) := by decide +kernel
theorem dX3_sentenceOf_29 : decode cX3_sentenceOf 29 = .ok (.iaload, 1) := by decide +kernel
theorem dX3_sentenceOf_30 : decode cX3_sentenceOf 30 = .ok (.goto 5, 3) := by decide +kernel
theorem dX3_sentenceOf_33 : decode cX3_sentenceOf 33 = .ok (.bipush (-9), 2) := by decide +kernel
theorem dX3_sentenceOf_35 : decode cX3_sentenceOf 35 = .ok (.ireturn, 1) := by decide +kernel
set_option maxRecDepth 20000 in
theorem hiX3_sentenceOf_X0 : ∀ w ∈ u_ws RX0 TX0 4, w ∈ wsX3_sentenceOf := by decide +kernel
set_option maxRecDepth 20000 in
theorem hiX3_sentenceOf_X3 : ∀ w ∈ u_ws RX3 TX3 18, w ∈ wsX3_sentenceOf := by decide +kernel
set_option maxHeartbeats 4000000 in
set_option maxRecDepth 100000 in
theorem wx_sentenceOf_0 {p : Program} {l : Launch} {e : Env} {s : State} {m : MethodId} {args : Array Value} {below : List Frame} {meth : Method} {c : Code} {D : va_G} {L : Nat → Nat} {K : Nat → ClassId} {t0 : Nat} (hJ : gj L 81) (C0 : gC cX3_sentenceOf 2 (some .int) wsX3_sentenceOf RX3 p s m args meth c) (hK : va_K D vwCl (tyG K) s) (hE : eX L t0 s) {w9 : St} {rs : Int32} : ∀ (x1 : Int32) (w : St) (H : Heap) (locs : List Loc) (ls : Array Slot), va_P D vwCl (gl L 81 (cX L K w)) H → va_S (gA L 81) s.heap H locs → lv_has ls 2 [(0, .ref (L 0)), (1, .int x1)] → fx_sentenceOf x1 w = some (rs, w9) → W p l e { frames := 0, cells := 0, slots := 0, locals := 0 } s m args below meth c H locs 0 0 (MQ below (qI D L 81 (cX L K) rs w9) args s 0 0 (gA L 81)) (F0 m 0 ls []) := by
  obtain ⟨hx, hb, hr, hml, hown, hts, hlk⟩ := id C0
  intro x1 w H locs ls hw hS hl hf
  unfold fx_sentenceOf at hf
  refine lv_iload_n hx hb dX3_sentenceOf_0 rfl (lv_at hl 1 rfl) ?_
  refine lv_bipush (v := 6) hx hb dX3_sentenceOf_1 (by decide) ?_
  refine lv_icmp_ne (tgt := 11) hx hb dX3_sentenceOf_3 (by decide) (fun c3 => ?_) (fun c3 => ?_)
  · replace hf := if_f hf c3
    refine lv_iload_n hx hb dX3_sentenceOf_11 rfl (lv_at hl 1 rfl) ?_
    refine lv_if_lt (tgt := 33) hx hb dX3_sentenceOf_12 (by decide) (fun c12 => ?_) (fun c12 => ?_)
    · replace hf := if_t hf c12
      refine lv_bipush (v := (-9)) hx hb dX3_sentenceOf_33 (by decide) ?_
      exact z_iret hx hb hr hlk hw hS hf dX3_sentenceOf_35
    · replace hf := if_f hf c12
      refine lv_iload_n hx hb dX3_sentenceOf_15 rfl (lv_at hl 1 rfl) ?_
      refine lv_bipush (v := 6) hx hb dX3_sentenceOf_16 (by decide) ?_
      refine lv_icmp_ge (tgt := 33) hx hb dX3_sentenceOf_18 (by decide) (fun c18 => ?_) (fun c18 => ?_)
      · replace hf := if_t hf c18
        refine lv_bipush (v := (-9)) hx hb dX3_sentenceOf_33 (by decide) ?_
        exact z_iret hx hb hr hlk hw hS hf dX3_sentenceOf_35
      · replace hf := if_f hf c18
        refine lv_aload_n hx hb dX3_sentenceOf_21 rfl (lv_at hl 0 rfl) ?_
        refine z_get (v := .ref (L 13)) hx hb hts hiX3_sentenceOf_X3 hown hK hw (k := 0) kc_0.2 ((cX_a0 kc_0.1) _) rfl 6 (by decide) (hts (.fieldLink RX3 23 "OneSentence" "today" "LOneSentence$Day;") (by decide +kernel)) rfl dX3_sentenceOf_22 ?_
        refine z_getN (v := .ref (L 16)) hx hb hts hiX3_sentenceOf_X0 hown hK hw (k := 13) kc_13.2 ((cX_a2 kc_13.1) _) rfl 3 (by decide) (hE.1 (RX3, 90, "OneSentence$Day", "sentence", "[I", "OneSentence") (by decide)) rfl dX3_sentenceOf_25 ?_
        refine lv_iload_n hx hb dX3_sentenceOf_28 rfl (lv_at hl 1 rfl) ?_
        obtain ⟨v29, h29, hf⟩ := bd_e hf
        refine z_iald hx hb hK hw 0 (k := 16) kc_16.2 ((cX_a5 kc_16.1) _) rfl h29 dX3_sentenceOf_29 ?_
        refine lv_goto (tgt := 35) hx hb dX3_sentenceOf_30 (by decide) ?_
        exact z_iret hx hb hr hlk hw hS hf dX3_sentenceOf_35
  · replace hf := if_t hf c3
    refine lv_aload_n hx hb dX3_sentenceOf_6 rfl (lv_at hl 0 rfl) ?_
    refine z_get (v := .int (w.1 0 15)) hx hb hts hiX3_sentenceOf_X3 hown hK hw (k := 0) kc_0.2 ((cX_a0 kc_0.1) _) rfl 15 (by decide) (hts (.fieldLink RX3 171 "OneSentence" "oneMoreSentence" "I") (by decide +kernel)) rfl dX3_sentenceOf_7 ?_
    exact z_iret hx hb hr hlk hw hS hf dX3_sentenceOf_10
set_option maxHeartbeats 4000000 in
set_option maxRecDepth 100000 in
theorem kx_sentenceOf (l : Launch) {D : va_G} {L : Nat → Nat} {K : Nat → ClassId} {t0 : Nat} (hJ : gj L 81) (x1 : Int32) (w : St) {w9 : St} {rs : Int32} (hf : fx_sentenceOf x1 w = some (rs, w9)) : Met l yX3_sentenceOf wsX3_sentenceOf ({ frames := 0, cells := 0, slots := 0, locals := 0 }) (va_Pc [.ref (L 0), .int x1] (xP D L K t0 w)) (qI D L 81 (cX L K) rs w9) 0 0 (gA L 81) := by
  refine g_met (cc := cX3_sentenceOf) (nL := 2) (ret := (some .int)) (by decide) rfl (Nat.le_of_ble_eq_true rfl) (fun p e s m below meth c ls C0 hP hl => ?_)
  exact wx_sentenceOf_0 hJ C0 hP.2.1 hP.2.2 _ w _ _ ls hP.1 va_S.rf (lv_sub hl [0, 1] rfl) hf
set_option maxRecDepth 20000 in
theorem ggX3_speak_X3_sentenceOf : GoodIn wsX3_speak wsX3_sentenceOf := goodIn_r _ [6, 7, 8, 20, 21, 22, 23, 24, 25, 26, 27, 28, 29, 30, 31, 32, 33, 34, 35, 36, 37, 38, 39, 40, 41] (by decide +kernel) (by decide +kernel)
set_option maxRecDepth 20000 in
theorem gX3_speak_X3_sentenceOf : GoodIn wsX3_speak (wsV RX3 190 RX3 yX3_sentenceOf wsX3_sentenceOf) := goodIn_app (goodIn_of _ (by decide +kernel)) ggX3_speak_X3_sentenceOf
set_option maxRecDepth 20000 in
theorem ggX3_speak_X2_utter : GoodIn wsX3_speak wsX2_utter := goodIn_r _ [12, 13, 14, 15, 16, 17, 18, 10, 19, 42, 43, 44, 45] (by decide +kernel) (by decide +kernel)
set_option maxRecDepth 20000 in
theorem gX3_speak_X2_utter_n193 : GoodIn wsX3_speak (wsX2_utter) := ggX3_speak_X2_utter
theorem dX3_speak_0 : decode cX3_speak 0 = .ok (.iload_n 2, 1) := by decide +kernel
theorem dX3_speak_1 : decode cX3_speak 1 = .ok (.ifCond .lt 23, 3) := by decide +kernel
theorem dX3_speak_4 : decode cX3_speak 4 = .ok (.iload_n 2, 1) := by decide +kernel
theorem dX3_speak_5 : decode cX3_speak 5 = .ok (.bipush 7, 2) := by decide +kernel
theorem dX3_speak_7 : decode cX3_speak 7 = .ok (.if_icmp .ge 17, 3) := by decide +kernel
theorem dX3_speak_10 : decode cX3_speak 10 = .ok (.aload_n 0, 1) := by decide +kernel
theorem dX3_speak_11 : decode cX3_speak 11 = .ok (.getfield 17, 3) := by decide +kernel
theorem dX3_speak_14 : decode cX3_speak 14 = .ok (.iload_n 2, 1) := by decide +kernel
theorem dX3_speak_15 : decode cX3_speak 15 = .ok (.iaload, 1) := by decide +kernel
theorem dX3_speak_16 : decode cX3_speak 16 = .ok (.iconst 2, 1) := by decide +kernel
theorem dX3_speak_17 : decode cX3_speak 17 = .ok (.if_icmp .ne 7, 3) := by decide +kernel
theorem dX3_speak_20 : decode cX3_speak 20 = .ok (.iconst 1, 1) := by decide +kernel
theorem dX3_speak_21 : decode cX3_speak 21 = .ok (.goto 4, 3) := by decide +kernel
theorem dX3_speak_24 : decode cX3_speak 24 = .ok (.iconst 0, 1) := by decide +kernel
theorem dX3_speak_25 : decode cX3_speak 25 = .ok (.istore_n 3, 1) := by decide +kernel
theorem dX3_speak_26 : decode cX3_speak 26 = .ok (.aload_n 1, 1) := by decide +kernel
theorem dX3_speak_27 : decode cX3_speak 27 = .ok (.iload_n 2, 1) := by decide +kernel
theorem dX3_speak_28 : decode cX3_speak 28 = .ok (.aload_n 0, 1) := by decide +kernel
theorem dX3_speak_29 : decode cX3_speak 29 = .ok (.iload_n 2, 1) := by decide +kernel
theorem dX3_speak_30 : decode cX3_speak 30 = .ok (.invokevirtual 190, 3) := by decide +kernel
theorem dX3_speak_33 : decode cX3_speak 33 = .ok (.iload_n 3, 1) := by decide +kernel
theorem dX3_speak_34 : decode cX3_speak 34 = .ok (.ifCond .eq 7, 3) := by decide +kernel
theorem dX3_speak_37 : decode cX3_speak 37 = .ok (.iconst 2, 1) := by decide +kernel
theorem dX3_speak_38 : decode cX3_speak 38 = .ok (.goto 4, 3) := by decide +kernel
theorem dX3_speak_41 : decode cX3_speak 41 = .ok (.iconst 1, 1) := by decide +kernel
theorem dX3_speak_42 : decode cX3_speak 42 = .ok (.invokevirtual 193, 3) := by decide +kernel
theorem dX3_speak_45 : decode cX3_speak 45 = .ok (.return_, 1) := by decide +kernel
set_option maxRecDepth 20000 in
theorem hiX3_speak_X3 : ∀ w ∈ u_ws RX3 TX3 18, w ∈ wsX3_speak := by decide +kernel
set_option maxHeartbeats 4000000 in
set_option maxRecDepth 100000 in
theorem wx_speak_42 {p : Program} {l : Launch} {e : Env} {s : State} {m : MethodId} {args : Array Value} {below : List Frame} {meth : Method} {c : Code} {D : va_G} {L : Nat → Nat} {K : Nat → ClassId} {t0 : Nat} (hJ : gj L 81) (C0 : gC cX3_speak 4 none wsX3_speak RX3 p s m args meth c) (hK : va_K D vwCl (tyG K) s) (hE : eX L t0 s) {w9 : St} : ∀ (s0 : Nat) (s1 : Int32) (s2 : Int32) (s3 : Int32) (w : St) (H : Heap) (locs : List Loc) (ls : Array Slot), kX s0 = 1 ∧ s0 < 81 → va_P D vwCl (gl L 81 (cX L K w)) H → va_S (gA L 81) s.heap H locs → lv_has ls 4 [] → fx_speak_42 s0 s1 s2 s3 w = some w9 → W p l e { frames := 2, cells := 0, slots := 0, locals := 46 } s m args below meth c H locs 0 0 (MQ below (qV D L 81 (cX L K) w9) args s 0 0 (gA L 81)) (F0 m 42 ls [.int s3, .int s2, .int s1, .ref (L s0)]) := by
  obtain ⟨hx, hb, hr, hml, hown, hts, hlk⟩ := id C0
  intro s0 s1 s2 s3 w H locs ls g0 hw hS hl hf
  unfold fx_speak_42 at hf
  obtain ⟨w42, h42, hf⟩ := bd_e hf
  refine z_callv (va_runVN (As := [.int s1, .int s2, .int s3]) (rest := []) ⟨hx, hb, hml, hown, hts⟩ (kt_utter l (D := D) (K := K) (t0 := t0) hJ s0 s1 s2 s3 w g0 h42) ⟨va_cnB 3 hts gX3_speak_X2_utter_n193 rfl rfl rfl (hE.2.1 (RX3, 193, yX2_utter, "OneSentence") (by decide)) (hts (.initialized RX2) (by decide +kernel)) (by decide +kernel) ⟨Nat.le_of_ble_eq_true rfl, Nat.le_of_ble_eq_true rfl⟩, hts (.instanceMethod yX2_utter) (by decide +kernel), hts (.selects RX2 yX2_utter yX2_utter) (by decide +kernel)⟩ (z_preV eX_ok hK hE hw hS g0.2 ((cX_a1 g0.1) _) (T := TX2) (M := 4) rfl) rfl rfl hl.1 rfl (lv_room (Nat.le_of_ble_eq_true rfl)) dX3_speak_42 ⟨Nat.le_of_ble_eq_true rfl, Nat.le_of_ble_eq_true rfl⟩) hS (fun H locs hw hS => ?_)
  exact z_vret hx hb hr hlk hw hS hf dX3_speak_45
set_option maxHeartbeats 4000000 in
set_option maxRecDepth 100000 in
theorem wx_speak_25 {p : Program} {l : Launch} {e : Env} {s : State} {m : MethodId} {args : Array Value} {below : List Frame} {meth : Method} {c : Code} {D : va_G} {L : Nat → Nat} {K : Nat → ClassId} {t0 : Nat} (hJ : gj L 81) (C0 : gC cX3_speak 4 none wsX3_speak RX3 p s m args meth c) (hK : va_K D vwCl (tyG K) s) (hE : eX L t0 s) {w9 : St} : ∀ (x1 : Nat) (x2 : Int32) (s0 : Int32) (w : St) (H : Heap) (locs : List Loc) (ls : Array Slot), kX x1 = 1 ∧ x1 < 81 → va_P D vwCl (gl L 81 (cX L K w)) H → va_S (gA L 81) s.heap H locs → lv_has ls 4 [(0, .ref (L 0)), (1, .ref (L x1)), (2, .int x2)] → fx_speak_25 x1 x2 s0 w = some w9 → W p l e { frames := 2, cells := 0, slots := 0, locals := 46 } s m args below meth c H locs 0 0 (MQ below (qV D L 81 (cX L K) w9) args s 0 0 (gA L 81)) (F0 m 25 ls [.int s0]) := by
  obtain ⟨hx, hb, hr, hml, hown, hts, hlk⟩ := id C0
  intro x1 x2 s0 w H locs ls h1 hw hS hl hf
  unfold fx_speak_25 at hf
  refine lv_istore_n (lv' := [(3, .int s0), (0, .ref (L 0)), (1, .ref (L x1)), (2, .int x2)]) hx hb dX3_speak_25 rfl hl (by decide) rfl (fun ls hl => ?_)
  refine lv_aload_n hx hb dX3_speak_26 rfl (lv_at hl 2 rfl) ?_
  refine lv_iload_n hx hb dX3_speak_27 rfl (lv_at hl 3 rfl) ?_
  refine lv_aload_n hx hb dX3_speak_28 rfl (lv_at hl 1 rfl) ?_
  refine lv_iload_n hx hb dX3_speak_29 rfl (lv_at hl 3 rfl) ?_
  obtain ⟨q30, h30, hf⟩ := bd_e hf
  refine z_calli (va_runV (As := [.int x2]) (rest := [.int x2, .ref (L x1)]) ⟨hx, hb, hml, hown, hts⟩ (kx_sentenceOf l (D := D) (K := K) (t0 := t0) hJ x2 w  h30) (cwV 1 hts gX3_speak_X3_sentenceOf rfl rfl rfl (by decide +kernel) ⟨Nat.le_of_ble_eq_true rfl, Nat.le_of_ble_eq_true rfl⟩) (z_preV eX_ok hK hE hw hS kc_0.2 ((cX_a0 kc_0.1) _) (T := TX3) (M := 18) rfl) rfl rfl hl.1 rfl (lv_room (Nat.le_of_ble_eq_true rfl)) dX3_speak_30 ⟨Nat.le_of_ble_eq_true rfl, Nat.le_of_ble_eq_true rfl⟩) hS (fun H locs hw hS => ?_)
  refine lv_iload_n hx hb dX3_speak_33 rfl (lv_at hl 0 rfl) ?_
  refine lv_if_eq (tgt := 41) hx hb dX3_speak_34 (by decide) (fun c34 => ?_) (fun c34 => ?_)
  · replace hf := if_t hf c34
    refine lv_iconst (v := 1) hx hb dX3_speak_41 (by decide) ?_
    exact wx_speak_42 hJ C0 hK hE _ _ _ _ _ _ _ _ h1 hw hS (lv_sub hl [] rfl) hf
  · replace hf := if_f hf c34
    refine lv_iconst (v := 2) hx hb dX3_speak_37 (by decide) ?_
    refine lv_goto (tgt := 42) hx hb dX3_speak_38 (by decide) ?_
    exact wx_speak_42 hJ C0 hK hE _ _ _ _ _ _ _ _ h1 hw hS (lv_sub hl [] rfl) hf
set_option maxHeartbeats 4000000 in
set_option maxRecDepth 100000 in
theorem wx_speak_24 {p : Program} {l : Launch} {e : Env} {s : State} {m : MethodId} {args : Array Value} {below : List Frame} {meth : Method} {c : Code} {D : va_G} {L : Nat → Nat} {K : Nat → ClassId} {t0 : Nat} (hJ : gj L 81) (C0 : gC cX3_speak 4 none wsX3_speak RX3 p s m args meth c) (hK : va_K D vwCl (tyG K) s) (hE : eX L t0 s) {w9 : St} : ∀ (x1 : Nat) (x2 : Int32) (w : St) (H : Heap) (locs : List Loc) (ls : Array Slot), kX x1 = 1 ∧ x1 < 81 → va_P D vwCl (gl L 81 (cX L K w)) H → va_S (gA L 81) s.heap H locs → lv_has ls 4 [(0, .ref (L 0)), (1, .ref (L x1)), (2, .int x2)] → fx_speak_24 x1 x2 w = some w9 → W p l e { frames := 2, cells := 0, slots := 0, locals := 46 } s m args below meth c H locs 0 0 (MQ below (qV D L 81 (cX L K) w9) args s 0 0 (gA L 81)) (F0 m 24 ls []) := by
  obtain ⟨hx, hb, hr, hml, hown, hts, hlk⟩ := id C0
  intro x1 x2 w H locs ls h1 hw hS hl hf
  unfold fx_speak_24 at hf
  refine lv_iconst (v := 0) hx hb dX3_speak_24 (by decide) ?_
  exact wx_speak_25 hJ C0 hK hE _ _ _ _ _ _ _ h1 hw hS (lv_sub hl [0, 1, 2] rfl) hf
set_option maxHeartbeats 4000000 in
set_option maxRecDepth 100000 in
theorem wx_speak_0 {p : Program} {l : Launch} {e : Env} {s : State} {m : MethodId} {args : Array Value} {below : List Frame} {meth : Method} {c : Code} {D : va_G} {L : Nat → Nat} {K : Nat → ClassId} {t0 : Nat} (hJ : gj L 81) (C0 : gC cX3_speak 4 none wsX3_speak RX3 p s m args meth c) (hK : va_K D vwCl (tyG K) s) (hE : eX L t0 s) {w9 : St} : ∀ (x1 : Nat) (x2 : Int32) (w : St) (H : Heap) (locs : List Loc) (ls : Array Slot), kX x1 = 1 ∧ x1 < 81 → va_P D vwCl (gl L 81 (cX L K w)) H → va_S (gA L 81) s.heap H locs → lv_has ls 4 [(0, .ref (L 0)), (1, .ref (L x1)), (2, .int x2)] → fx_speak x1 x2 w = some w9 → W p l e { frames := 2, cells := 0, slots := 0, locals := 46 } s m args below meth c H locs 0 0 (MQ below (qV D L 81 (cX L K) w9) args s 0 0 (gA L 81)) (F0 m 0 ls []) := by
  obtain ⟨hx, hb, hr, hml, hown, hts, hlk⟩ := id C0
  intro x1 x2 w H locs ls h1 hw hS hl hf
  unfold fx_speak at hf
  refine lv_iload_n hx hb dX3_speak_0 rfl (lv_at hl 2 rfl) ?_
  refine lv_if_lt (tgt := 24) hx hb dX3_speak_1 (by decide) (fun c1 => ?_) (fun c1 => ?_)
  · replace hf := if_t hf c1
    exact wx_speak_24 hJ C0 hK hE _ _ _ _ _ _ h1 hw hS (lv_sub hl [0, 1, 2] rfl) hf
  · replace hf := if_f hf c1
    refine lv_iload_n hx hb dX3_speak_4 rfl (lv_at hl 2 rfl) ?_
    refine lv_bipush (v := 7) hx hb dX3_speak_5 (by decide) ?_
    refine lv_icmp_ge (tgt := 24) hx hb dX3_speak_7 (by decide) (fun c7 => ?_) (fun c7 => ?_)
    · replace hf := if_t hf c7
      exact wx_speak_24 hJ C0 hK hE _ _ _ _ _ _ h1 hw hS (lv_sub hl [0, 1, 2] rfl) hf
    · replace hf := if_f hf c7
      refine lv_aload_n hx hb dX3_speak_10 rfl (lv_at hl 0 rfl) ?_
      refine z_get (v := .ref (L 3)) hx hb hts hiX3_speak_X3 hown hK hw (k := 0) kc_0.2 ((cX_a0 kc_0.1) _) rfl 5 (by decide) (hts (.fieldLink RX3 17 "OneSentence" "kind" "[I") (by decide +kernel)) rfl dX3_speak_11 ?_
      refine lv_iload_n hx hb dX3_speak_14 rfl (lv_at hl 2 rfl) ?_
      obtain ⟨v15, h15, hf⟩ := bd_e hf
      refine z_iald hx hb hK hw 0 (k := 3) kc_3.2 ((cX_a4 kc_3.1) _) rfl h15 dX3_speak_15 ?_
      refine lv_iconst (v := 2) hx hb dX3_speak_16 (by decide) ?_
      refine lv_icmp_ne (tgt := 24) hx hb dX3_speak_17 (by decide) (fun c17 => ?_) (fun c17 => ?_)
      · replace hf := if_f hf c17
        exact wx_speak_24 hJ C0 hK hE _ _ _ _ _ _ h1 hw hS (lv_sub hl [0, 1, 2] rfl) hf
      · replace hf := if_t hf c17
        refine lv_iconst (v := 1) hx hb dX3_speak_20 (by decide) ?_
        refine lv_goto (tgt := 25) hx hb dX3_speak_21 (by decide) ?_
        exact wx_speak_25 hJ C0 hK hE _ _ _ _ _ _ _ h1 hw hS (lv_sub hl [0, 1, 2] rfl) hf
set_option maxHeartbeats 4000000 in
set_option maxRecDepth 100000 in
theorem kx_speak (l : Launch) {D : va_G} {L : Nat → Nat} {K : Nat → ClassId} {t0 : Nat} (hJ : gj L 81) (x1 : Nat) (x2 : Int32) (w : St) {w9 : St} (h1 : kX x1 = 1 ∧ x1 < 81) (hf : fx_speak x1 x2 w = some w9) : Met l yX3_speak wsX3_speak ({ frames := 2, cells := 0, slots := 0, locals := 46 }) (va_Pc [.ref (L 0), .ref (L x1), .int x2] (xP D L K t0 w)) (qV D L 81 (cX L K) w9) 0 0 (gA L 81) := by
  refine g_met (cc := cX3_speak) (nL := 4) (ret := none) (by decide) rfl (Nat.le_of_ble_eq_true rfl) (fun p e s m below meth c ls C0 hP hl => ?_)
  exact wx_speak_0 hJ C0 hP.2.1 hP.2.2 _ _ w _ _ ls h1 hP.1 va_S.rf (lv_sub hl [0, 1, 2] rfl) hf
set_option maxRecDepth 20000 in
theorem ggX3_say_X3_isThere : GoodIn wsX3_say wsX3_isThere := goodIn_r _ [6, 7, 54, 55, 56, 57, 58, 59, 60, 61, 62, 63, 64, 65, 66, 67, 68, 69, 70, 71] (by decide +kernel) (by decide +kernel)
set_option maxRecDepth 20000 in
theorem gX3_say_X3_isThere : GoodIn wsX3_say (wsV RX3 86 RX3 yX3_isThere wsX3_isThere) := goodIn_app (goodIn_of _ (by decide +kernel)) ggX3_say_X3_isThere
set_option maxRecDepth 20000 in
theorem ggX3_say_X3_maySpeak : GoodIn wsX3_say wsX3_maySpeak := goodIn_r _ [11, 12, 13, 14, 5, 15, 54, 55, 56, 57, 58, 59, 60, 61, 62, 63, 64, 65, 66, 67, 68, 69, 70, 71, 76, 77, 78, 79] (by decide +kernel) (by decide +kernel)
set_option maxRecDepth 20000 in
theorem gX3_say_X3_maySpeak : GoodIn wsX3_say (wsV RX3 103 RX3 yX3_maySpeak wsX3_maySpeak) := goodIn_app (goodIn_of _ (by decide +kernel)) ggX3_say_X3_maySpeak
set_option maxRecDepth 20000 in
theorem ggX3_say_X3_remember : GoodIn wsX3_say wsX3_remember := goodIn_r _ [19, 20, 21, 22, 1, 23, 24, 25, 26, 27, 28, 29, 30, 31, 32, 33, 34, 35, 36, 37, 38, 54, 55, 56, 57, 58, 59, 60, 61, 62, 63, 64, 65, 66, 67, 68, 69, 70, 71, 72, 73, 74, 75, 76, 77, 78, 79] (by decide +kernel) (by decide +kernel)
set_option maxRecDepth 20000 in
theorem gX3_say_X3_remember : GoodIn wsX3_say (wsV RX3 110 RX3 yX3_remember wsX3_remember) := goodIn_app (goodIn_of _ (by decide +kernel)) ggX3_say_X3_remember
set_option maxRecDepth 20000 in
theorem ggX3_say_X3_speak : GoodIn wsX3_say wsX3_speak := goodIn_r _ [42, 12, 43, 44, 45, 5, 46, 47, 1, 48, 32, 49, 50, 37, 35, 36, 38, 51, 52, 53, 54, 55, 56, 57, 58, 59, 60, 61, 62, 63, 64, 65, 66, 67, 68, 69, 70, 71, 72, 73, 74, 75, 76, 77, 78, 79] (by decide +kernel) (by decide +kernel)
set_option maxRecDepth 20000 in
theorem gX3_say_X3_speak : GoodIn wsX3_say (wsV RX3 124 RX3 yX3_speak wsX3_speak) := goodIn_app (goodIn_of _ (by decide +kernel)) ggX3_say_X3_speak
theorem dX3_say_0 : decode cX3_say 0 = .ok (.aload_n 0, 1) := by decide +kernel
theorem dX3_say_1 : decode cX3_say 1 = .ok (.iload_n 1, 1) := by decide +kernel
theorem dX3_say_2 : decode cX3_say 2 = .ok (.invokevirtual 86, 3) := by decide +kernel
theorem dX3_say_5 : decode cX3_say 5 = .ok (.ifCond .ne 5, 3) := by decide +kernel
theorem dX3_say_8 : decode cX3_say 8 = .ok (.iconst (-1), 1) := by decide +kernel
theorem dX3_say_9 : decode cX3_say 9 = .ok (.ireturn, 1) := by decide +kernel
theorem dX3_say_10 : decode cX3_say 10 = .ok (.aload_n 0, 1) := by decide +kernel
theorem dX3_say_11 : decode cX3_say 11 = .ok (.aload_n 0, 1) := by decide +kernel
theorem dX3_say_12 : decode cX3_say 12 = .ok (.getfield 23, 3) := by decide +kernel
theorem dX3_say_15 : decode cX3_say 15 = .ok (.getfield 100, 3) := by decide +kernel
theorem dX3_say_18 : decode cX3_say 18 = .ok (.aload_n 0, 1) := by decide +kernel
theorem dX3_say_19 : decode cX3_say 19 = .ok (.getfield 23, 3) := by decide +kernel
theorem dX3_say_22 : decode cX3_say 22 = .ok (.getfield 93, 3) := by decide +kernel
theorem dX3_say_25 : decode cX3_say 25 = .ok (.iload_n 1, 1) := by decide +kernel
theorem dX3_say_26 : decode cX3_say 26 = .ok (.invokevirtual 103, 3) := by decide +kernel
theorem dX3_say_29 : decode cX3_say 29 = .ok (.ifCond .ne 6, 3) := by decide +kernel
theorem dX3_say_32 : decode cX3_say 32 = .ok (.bipush (-3), 2) := by decide +kernel
theorem dX3_say_34 : decode cX3_say 34 = .ok (.ireturn, 1) := by decide +kernel
theorem dX3_say_35 : decode cX3_say 35 = .ok (.aload_n 0, 1) := by decide +kernel
theorem dX3_say_36 : decode cX3_say 36 = .ok (.invokevirtual 110, 3) := by decide +kernel
theorem dX3_say_39 : decode cX3_say 39 = .ok (.aload_n 0, 1) := by decide +kernel
theorem dX3_say_40 : decode cX3_say 40 = .ok (.aload_n 0, 1) := by decide +kernel
theorem dX3_say_41 : decode cX3_say 41 = .ok (.getfield 23, 3) := by decide +kernel
theorem dX3_say_44 : decode cX3_say 44 = .ok (.getfield 100, 3) := by decide +kernel
theorem dX3_say_47 : decode cX3_say 47 = .ok (.iload_n 1, 1) := by decide +kernel
theorem dX3_say_48 : decode cX3_say 48 = .ok (.invokevirtual 124, 3) := by decide +kernel
theorem dX3_say_51 : decode cX3_say 51 = .ok (.aload_n 0, 1) := by decide +kernel
theorem dX3_say_52 : decode cX3_say 52 = .ok (.getfield 23, 3) := by decide +kernel
theorem dX3_say_55 : decode cX3_say 55 = .ok (.dup, 1) := by decide +kernel
theorem dX3_say_56 : decode cX3_say 56 = .ok (.getfield 113, 3) := by decide +kernel
theorem dX3_say_59 : decode cX3_say 59 = .ok (.iconst 1, 1) := by decide +kernel
theorem dX3_say_60 : decode cX3_say 60 = .ok (.iadd, 1) := by decide +kernel
theorem dX3_say_61 : decode cX3_say 61 = .ok (.putfield 113, 3) := by decide +kernel
theorem dX3_say_64 : decode cX3_say 64 = .ok (.aload_n 0, 1) := by decide +kernel
theorem dX3_say_65 : decode cX3_say 65 = .ok (.getfield 23, 3) := by decide +kernel
theorem dX3_say_68 : decode cX3_say 68 = .ok (.getfield 100, 3) := by decide +kernel
theorem dX3_say_71 : decode cX3_say 71 = .ok (.getfield 128, 3) := by decide +kernel
theorem dX3_say_74 : decode cX3_say 74 = .ok (.ireturn, 1) := by decide +kernel
set_option maxRecDepth 20000 in
theorem hiX3_say_X0 : ∀ w ∈ u_ws RX0 TX0 4, w ∈ wsX3_say := by decide +kernel
set_option maxRecDepth 20000 in
theorem hiX3_say_X2 : ∀ w ∈ u_ws RX2 TX2 4, w ∈ wsX3_say := by decide +kernel
set_option maxRecDepth 20000 in
theorem hiX3_say_X3 : ∀ w ∈ u_ws RX3 TX3 18, w ∈ wsX3_say := by decide +kernel
set_option maxHeartbeats 4000000 in
set_option maxRecDepth 100000 in
theorem wx_say_0 {p : Program} {l : Launch} {e : Env} {s : State} {m : MethodId} {args : Array Value} {below : List Frame} {meth : Method} {c : Code} {D : va_G} {L : Nat → Nat} {K : Nat → ClassId} {t0 : Nat} (hJ : gj L 81) (C0 : gC cX3_say 2 (some .int) wsX3_say RX3 p s m args meth c) (hK : va_K D vwCl (tyG K) s) (hE : eX L t0 s) {w9 : St} {rs : Int32} : ∀ (x1 : Int32) (w : St) (H : Heap) (locs : List Loc) (ls : Array Slot), va_P D vwCl (gl L 81 (cX L K w)) H → va_S (gA L 81) s.heap H locs → lv_has ls 2 [(0, .ref (L 0)), (1, .int x1)] → fx_say x1 w = some (rs, w9) → W p l e { frames := 3, cells := 0, slots := 0, locals := 69 } s m args below meth c H locs 0 0 (MQ below (qI D L 81 (cX L K) rs w9) args s 0 0 (gA L 81)) (F0 m 0 ls []) := by
  obtain ⟨hx, hb, hr, hml, hown, hts, hlk⟩ := id C0
  intro x1 w H locs ls hw hS hl hf
  unfold fx_say at hf
  refine lv_aload_n hx hb dX3_say_0 rfl (lv_at hl 0 rfl) ?_
  refine lv_iload_n hx hb dX3_say_1 rfl (lv_at hl 1 rfl) ?_
  obtain ⟨q2, h2, hf⟩ := bd_e hf
  refine z_calli (va_runV (As := [.int x1]) (rest := []) ⟨hx, hb, hml, hown, hts⟩ (kx_isThere l (D := D) (K := K) (t0 := t0) hJ x1 w  h2) (cwV 1 hts gX3_say_X3_isThere rfl rfl rfl (by decide +kernel) ⟨Nat.le_of_ble_eq_true rfl, Nat.le_of_ble_eq_true rfl⟩) (z_preV eX_ok hK hE hw hS kc_0.2 ((cX_a0 kc_0.1) _) (T := TX3) (M := 18) rfl) rfl rfl hl.1 rfl (lv_room (Nat.le_of_ble_eq_true rfl)) dX3_say_2 ⟨Nat.le_of_ble_eq_true rfl, Nat.le_of_ble_eq_true rfl⟩) hS (fun H locs hw hS => ?_)
  refine lv_if_ne (tgt := 10) hx hb dX3_say_5 (by decide) (fun c5 => ?_) (fun c5 => ?_)
  · replace hf := if_f hf c5
    refine lv_aload_n hx hb dX3_say_10 rfl (lv_at hl 0 rfl) ?_
    refine lv_aload_n hx hb dX3_say_11 rfl (lv_at hl 0 rfl) ?_
    refine z_get (v := .ref (L 13)) hx hb hts hiX3_say_X3 hown hK hw (k := 0) kc_0.2 ((cX_a0 kc_0.1) _) rfl 6 (by decide) (hts (.fieldLink RX3 23 "OneSentence" "today" "LOneSentence$Day;") (by decide +kernel)) rfl dX3_say_12 ?_
    refine z_getN (v := .ref (L 14)) hx hb hts hiX3_say_X0 hown hK hw (k := 13) kc_13.2 ((cX_a2 kc_13.1) _) rfl 0 (by decide) (hE.1 (RX3, 100, "OneSentence$Day", "talk", "LOneSentence$Talk;", "OneSentence") (by decide)) rfl dX3_say_15 ?_
    refine lv_aload_n hx hb dX3_say_18 rfl (lv_at hl 0 rfl) ?_
    refine z_get (v := .ref (L 13)) hx hb hts hiX3_say_X3 hown hK hw (k := 0) kc_0.2 ((cX_a0 kc_0.1) _) rfl 6 (by decide) (hts (.fieldLink RX3 23 "OneSentence" "today" "LOneSentence$Day;") (by decide +kernel)) rfl dX3_say_19 ?_
    refine z_getN (v := .int ((q2.2).1 13 1)) hx hb hts hiX3_say_X0 hown hK hw (k := 13) kc_13.2 ((cX_a2 kc_13.1) _) rfl 1 (by decide) (hE.1 (RX3, 93, "OneSentence$Day", "at", "I", "OneSentence") (by decide)) rfl dX3_say_22 ?_
    refine lv_iload_n hx hb dX3_say_25 rfl (lv_at hl 1 rfl) ?_
    obtain ⟨q26, h26, hf⟩ := bd_e hf
    refine z_calli (va_runV (As := [.ref (L 14), .int ((q2.2).1 13 1), .int x1]) (rest := []) ⟨hx, hb, hml, hown, hts⟩ (kx_maySpeak l (D := D) (K := K) (t0 := t0) hJ 14 ((q2.2).1 13 1) x1 (q2.2) kc_14 h26) (cwV 3 hts gX3_say_X3_maySpeak rfl rfl rfl (by decide +kernel) ⟨Nat.le_of_ble_eq_true rfl, Nat.le_of_ble_eq_true rfl⟩) (z_preV eX_ok hK hE hw hS kc_0.2 ((cX_a0 kc_0.1) _) (T := TX3) (M := 18) rfl) rfl rfl hl.1 rfl (lv_room (Nat.le_of_ble_eq_true rfl)) dX3_say_26 ⟨Nat.le_of_ble_eq_true rfl, Nat.le_of_ble_eq_true rfl⟩) hS (fun H locs hw hS => ?_)
    refine lv_if_ne (tgt := 35) hx hb dX3_say_29 (by decide) (fun c29 => ?_) (fun c29 => ?_)
    · replace hf := if_f hf c29
      refine lv_aload_n hx hb dX3_say_35 rfl (lv_at hl 0 rfl) ?_
      obtain ⟨w36, h36, hf⟩ := bd_e hf
      refine z_callv (va_runV (As := []) (rest := []) ⟨hx, hb, hml, hown, hts⟩ (kx_remember l (D := D) (K := K) (t0 := t0) hJ (q26.2)  h36) (cwV 0 hts gX3_say_X3_remember rfl rfl rfl (by decide +kernel) ⟨Nat.le_of_ble_eq_true rfl, Nat.le_of_ble_eq_true rfl⟩) (z_preV eX_ok hK hE hw hS kc_0.2 ((cX_a0 kc_0.1) _) (T := TX3) (M := 18) rfl) rfl rfl hl.1 rfl (lv_room (Nat.le_of_ble_eq_true rfl)) dX3_say_36 ⟨Nat.le_of_ble_eq_true rfl, Nat.le_of_ble_eq_true rfl⟩) hS (fun H locs hw hS => ?_)
      refine lv_aload_n hx hb dX3_say_39 rfl (lv_at hl 0 rfl) ?_
      refine lv_aload_n hx hb dX3_say_40 rfl (lv_at hl 0 rfl) ?_
      refine z_get (v := .ref (L 13)) hx hb hts hiX3_say_X3 hown hK hw (k := 0) kc_0.2 ((cX_a0 kc_0.1) _) rfl 6 (by decide) (hts (.fieldLink RX3 23 "OneSentence" "today" "LOneSentence$Day;") (by decide +kernel)) rfl dX3_say_41 ?_
      refine z_getN (v := .ref (L 14)) hx hb hts hiX3_say_X0 hown hK hw (k := 13) kc_13.2 ((cX_a2 kc_13.1) _) rfl 0 (by decide) (hE.1 (RX3, 100, "OneSentence$Day", "talk", "LOneSentence$Talk;", "OneSentence") (by decide)) rfl dX3_say_44 ?_
      refine lv_iload_n hx hb dX3_say_47 rfl (lv_at hl 1 rfl) ?_
      obtain ⟨w48, h48, hf⟩ := bd_e hf
      refine z_callv (va_runV (As := [.ref (L 14), .int x1]) (rest := []) ⟨hx, hb, hml, hown, hts⟩ (kx_speak l (D := D) (K := K) (t0 := t0) hJ 14 x1 w36 kc_14 h48) (cwV 2 hts gX3_say_X3_speak rfl rfl rfl (by decide +kernel) ⟨Nat.le_of_ble_eq_true rfl, Nat.le_of_ble_eq_true rfl⟩) (z_preV eX_ok hK hE hw hS kc_0.2 ((cX_a0 kc_0.1) _) (T := TX3) (M := 18) rfl) rfl rfl hl.1 rfl (lv_room (Nat.le_of_ble_eq_true rfl)) dX3_say_48 ⟨Nat.le_of_ble_eq_true rfl, Nat.le_of_ble_eq_true rfl⟩) hS (fun H locs hw hS => ?_)
      refine lv_aload_n hx hb dX3_say_51 rfl (lv_at hl 0 rfl) ?_
      refine z_get (v := .ref (L 13)) hx hb hts hiX3_say_X3 hown hK hw (k := 0) kc_0.2 ((cX_a0 kc_0.1) _) rfl 6 (by decide) (hts (.fieldLink RX3 23 "OneSentence" "today" "LOneSentence$Day;") (by decide +kernel)) rfl dX3_say_52 ?_
      refine lv_dup hx hb dX3_say_55 rfl ?_
      refine z_getN (v := .int (w48.1 13 2)) hx hb hts hiX3_say_X0 hown hK hw (k := 13) kc_13.2 ((cX_a2 kc_13.1) _) rfl 2 (by decide) (hE.1 (RX3, 113, "OneSentence$Day", "hour", "I", "OneSentence") (by decide)) rfl dX3_say_56 ?_
      refine lv_iconst (v := 1) hx hb dX3_say_59 (by decide) ?_
      refine lv_iadd hx hb dX3_say_60 ?_
      refine z_putiN hx hb hts hiX3_say_X0 tyX0 tyX0_ok nmX0 hown hK hJ hw hS (k := 13) kc_13.2 cX_ne (fs := (fX2 L 13)) (cX_a2 kc_13.1) rfl 2 (by decide) (hE.1 (RX3, 113, "OneSentence$Day", "hour", "I", "OneSentence") (by decide)) rfl rfl (fun _ _ => ⟨Nat.le_of_ble_eq_true rfl, rfl⟩) dX3_say_61 (fun H locs hw hS => ?_)
      refine lv_aload_n hx hb dX3_say_64 rfl (lv_at hl 0 rfl) ?_
      refine z_get (v := .ref (L 13)) hx hb hts hiX3_say_X3 hown hK hw (k := 0) kc_0.2 ((cX_a0 kc_0.1) _) rfl 6 (by decide) (hts (.fieldLink RX3 23 "OneSentence" "today" "LOneSentence$Day;") (by decide +kernel)) rfl dX3_say_65 ?_
      refine z_getN (v := .ref (L 14)) hx hb hts hiX3_say_X0 hown hK hw (k := 13) kc_13.2 ((cX_a2 kc_13.1) _) rfl 0 (by decide) (hE.1 (RX3, 100, "OneSentence$Day", "talk", "LOneSentence$Talk;", "OneSentence") (by decide)) rfl dX3_say_68 ?_
      refine z_getN (v := .int ((wr w48 13 2 ((w48.1 13 2) + (1 : Int32))).1 14 0)) hx hb hts hiX3_say_X2 hown hK hw (k := 14) kc_14.2 ((cX_a1 kc_14.1) _) rfl 0 (by decide) (hE.1 (RX3, 128, "OneSentence$Talk", "sense", "I", "OneSentence") (by decide)) rfl dX3_say_71 ?_
      exact z_iret hx hb hr hlk hw hS hf dX3_say_74
    · replace hf := if_t hf c29
      refine lv_bipush (v := (-3)) hx hb dX3_say_32 (by decide) ?_
      exact z_iret hx hb hr hlk hw hS hf dX3_say_34
  · replace hf := if_t hf c5
    refine lv_iconst (v := (-1)) hx hb dX3_say_8 (by decide) ?_
    exact z_iret hx hb hr hlk hw hS hf dX3_say_9
set_option maxHeartbeats 4000000 in
set_option maxRecDepth 100000 in
theorem kx_say (l : Launch) {D : va_G} {L : Nat → Nat} {K : Nat → ClassId} {t0 : Nat} (hJ : gj L 81) (x1 : Int32) (w : St) {w9 : St} {rs : Int32} (hf : fx_say x1 w = some (rs, w9)) : Met l yX3_say wsX3_say ({ frames := 3, cells := 0, slots := 0, locals := 69 }) (va_Pc [.ref (L 0), .int x1] (xP D L K t0 w)) (qI D L 81 (cX L K) rs w9) 0 0 (gA L 81) := by
  refine g_met (cc := cX3_say) (nL := 2) (ret := (some .int)) (by decide) rfl (Nat.le_of_ble_eq_true rfl) (fun p e s m below meth c ls C0 hP hl => ?_)
  exact wx_say_0 hJ C0 hP.2.1 hP.2.2 _ w _ _ ls hP.1 va_S.rf (lv_sub hl [0, 1] rfl) hf
set_option maxRecDepth 20000 in
theorem ggX3_name_X3_isThere : GoodIn wsX3_name wsX3_isThere := goodIn_r _ [6, 7, 31, 32, 33, 34, 35, 36, 37, 38, 39, 40, 41, 42, 43, 44, 45, 46, 47, 48] (by decide +kernel) (by decide +kernel)
set_option maxRecDepth 20000 in
theorem gX3_name_X3_isThere : GoodIn wsX3_name (wsV RX3 86 RX3 yX3_isThere wsX3_isThere) := goodIn_app (goodIn_of _ (by decide +kernel)) ggX3_name_X3_isThere
set_option maxRecDepth 20000 in
theorem ggX3_name_X3_remember : GoodIn wsX3_name wsX3_remember := goodIn_r _ [11, 12, 13, 14, 1, 15, 16, 17, 18, 19, 20, 21, 22, 23, 24, 25, 26, 27, 28, 29, 30, 31, 32, 33, 34, 35, 36, 37, 38, 39, 40, 41, 42, 43, 44, 45, 46, 47, 48, 49, 50, 51, 52, 53, 54, 55, 56] (by decide +kernel) (by decide +kernel)
set_option maxRecDepth 20000 in
theorem gX3_name_X3_remember : GoodIn wsX3_name (wsV RX3 110 RX3 yX3_remember wsX3_remember) := goodIn_app (goodIn_of _ (by decide +kernel)) ggX3_name_X3_remember
theorem dX3_name_0 : decode cX3_name 0 = .ok (.aload_n 0, 1) := by decide +kernel
theorem dX3_name_1 : decode cX3_name 1 = .ok (.iload_n 1, 1) := by decide +kernel
theorem dX3_name_2 : decode cX3_name 2 = .ok (.invokevirtual 86, 3) := by decide +kernel
theorem dX3_name_5 : decode cX3_name 5 = .ok (.ifCond .ne 5, 3) := by decide +kernel
theorem dX3_name_8 : decode cX3_name 8 = .ok (.iconst (-1), 1) := by decide +kernel
theorem dX3_name_9 : decode cX3_name 9 = .ok (.ireturn, 1) := by decide +kernel
theorem dX3_name_10 : decode cX3_name 10 = .ok (.iload_n 2, 1) := by decide +kernel
theorem dX3_name_11 : decode cX3_name 11 = .ok (.ifCond .lt 18, 3) := by decide +kernel
theorem dX3_name_14 : decode cX3_name 14 = .ok (.iload_n 2, 1) := by decide +kernel
theorem dX3_name_15 : decode cX3_name 15 = .ok (.iconst 3, 1) := by decide +kernel
theorem dX3_name_16 : decode cX3_name 16 = .ok (.if_icmp .gt 13, 3) := by decide +kernel
theorem dX3_name_19 : decode cX3_name 19 = .ok (.iload_n 3, 1) := by decide +kernel
theorem dX3_name_20 : decode cX3_name 20 = .ok (.ifCond .lt 9, 3) := by decide +kernel
theorem dX3_name_23 : decode cX3_name 23 = .ok (.iload_n 3, 1) := by decide +kernel
theorem dX3_name_24 : decode cX3_name 24 = .ok (.bipush 9, 2) := by decide +kernel
theorem dX3_name_26 : decode cX3_name 26 = .ok (.if_icmp .le 6, 3) := by decide +kernel
theorem dX3_name_29 : decode cX3_name 29 = .ok (.bipush (-2), 2) := by decide +kernel
theorem dX3_name_31 : decode cX3_name 31 = .ok (.ireturn, 1) := by decide +kernel
theorem dX3_name_32 : decode cX3_name 32 = .ok (.aload_n 0, 1) := by decide +kernel
theorem dX3_name_33 : decode cX3_name 33 = .ok (.getfield 23, 3) := by decide +kernel
theorem dX3_name_36 : decode cX3_name 36 = .ok (.getfield 90, 3) := by decide +kernel
theorem dX3_name_39 : decode cX3_name 39 = .ok (.iload_n 1, 1) := by decide +kernel
theorem dX3_name_40 : decode cX3_name 40 = .ok (.iaload, 1) := by decide +kernel
theorem dX3_name_41 : decode cX3_name 41 = .ok (.istore 4, 2) := by decide +kernel
theorem dX3_name_43 : decode cX3_name 43 = .ok (.iload 4, 2) := by decide +kernel
theorem dX3_name_45 : decode cX3_name 45 = .ok (.bipush 10, 2) := by decide +kernel
theorem dX3_name_47 : decode cX3_name 47 = .ok (.iload_n 2, 1) := by decide +kernel
theorem dX3_name_48 : decode cX3_name 48 = .ok (.imul, 1) := by decide +kernel
theorem dX3_name_49 : decode cX3_name 49 = .ok (.iload_n 3, 1) := by decide +kernel
theorem dX3_name_50 : decode cX3_name 50 = .ok (.iadd, 1) := by decide +kernel
theorem dX3_name_51 : decode cX3_name 51 = .ok (.if_icmp .ne 6, 3) := by decide +kernel
theorem dX3_name_54 : decode cX3_name 54 = .ok (.bipush (-3), 2) := by decide +kernel
theorem dX3_name_56 : decode cX3_name 56 = .ok (.ireturn, 1) := by decide +kernel
theorem dX3_name_57 : decode cX3_name 57 = .ok (.aload_n 0, 1) := by decide +kernel
theorem dX3_name_58 : decode cX3_name 58 = .ok (.invokevirtual 110, 3) := by decide +kernel
theorem dX3_name_61 : decode cX3_name 61 = .ok (.aload_n 0, 1) := by decide +kernel
theorem dX3_name_62 : decode cX3_name 62 = .ok (.getfield 23, 3) := by decide +kernel
theorem dX3_name_65 : decode cX3_name 65 = .ok (.getfield 90, 3) := by decide +kernel
theorem dX3_name_68 : decode cX3_name 68 = .ok (.iload_n 1, 1) := by decide +kernel
theorem dX3_name_69 : decode cX3_name 69 = .ok (.bipush 10, 2) := by decide +kernel
theorem dX3_name_71 : decode cX3_name 71 = .ok (.iload_n 2, 1) := by decide +kernel
theorem dX3_name_72 : decode cX3_name 72 = .ok (.imul, 1) := by decide +kernel
theorem dX3_name_73 : decode cX3_name 73 = .ok (.iload_n 3, 1) := by decide +kernel
theorem dX3_name_74 : decode cX3_name 74 = .ok (.iadd, 1) := by decide +kernel
theorem dX3_name_75 : decode cX3_name 75 = .ok (.iastore, 1) := by decide +kernel
theorem dX3_name_76 : decode cX3_name 76 = .ok (.iload 4, 2) := by decide +kernel
theorem dX3_name_78 : decode cX3_name 78 = .ok (.ireturn, 1) := by decide +kernel
set_option maxRecDepth 20000 in
theorem hiX3_name_X0 : ∀ w ∈ u_ws RX0 TX0 4, w ∈ wsX3_name := by decide +kernel
set_option maxRecDepth 20000 in
theorem hiX3_name_X3 : ∀ w ∈ u_ws RX3 TX3 18, w ∈ wsX3_name := by decide +kernel
set_option maxHeartbeats 4000000 in
set_option maxRecDepth 100000 in
theorem wx_name_0 {p : Program} {l : Launch} {e : Env} {s : State} {m : MethodId} {args : Array Value} {below : List Frame} {meth : Method} {c : Code} {D : va_G} {L : Nat → Nat} {K : Nat → ClassId} {t0 : Nat} (hJ : gj L 81) (C0 : gC cX3_name 5 (some .int) wsX3_name RX3 p s m args meth c) (hK : va_K D vwCl (tyG K) s) (hE : eX L t0 s) {w9 : St} {rs : Int32} : ∀ (x1 : Int32) (x2 : Int32) (x3 : Int32) (w : St) (H : Heap) (locs : List Loc) (ls : Array Slot), va_P D vwCl (gl L 81 (cX L K w)) H → va_S (gA L 81) s.heap H locs → lv_has ls 5 [(0, .ref (L 0)), (1, .int x1), (2, .int x2), (3, .int x3)] → fx_name x1 x2 x3 w = some (rs, w9) → W p l e { frames := 3, cells := 0, slots := 0, locals := 65 } s m args below meth c H locs 0 0 (MQ below (qI D L 81 (cX L K) rs w9) args s 0 0 (gA L 81)) (F0 m 0 ls []) := by
  obtain ⟨hx, hb, hr, hml, hown, hts, hlk⟩ := id C0
  intro x1 x2 x3 w H locs ls hw hS hl hf
  unfold fx_name at hf
  refine lv_aload_n hx hb dX3_name_0 rfl (lv_at hl 0 rfl) ?_
  refine lv_iload_n hx hb dX3_name_1 rfl (lv_at hl 1 rfl) ?_
  obtain ⟨q2, h2, hf⟩ := bd_e hf
  refine z_calli (va_runV (As := [.int x1]) (rest := []) ⟨hx, hb, hml, hown, hts⟩ (kx_isThere l (D := D) (K := K) (t0 := t0) hJ x1 w  h2) (cwV 1 hts gX3_name_X3_isThere rfl rfl rfl (by decide +kernel) ⟨Nat.le_of_ble_eq_true rfl, Nat.le_of_ble_eq_true rfl⟩) (z_preV eX_ok hK hE hw hS kc_0.2 ((cX_a0 kc_0.1) _) (T := TX3) (M := 18) rfl) rfl rfl hl.1 rfl (lv_room (Nat.le_of_ble_eq_true rfl)) dX3_name_2 ⟨Nat.le_of_ble_eq_true rfl, Nat.le_of_ble_eq_true rfl⟩) hS (fun H locs hw hS => ?_)
  refine lv_if_ne (tgt := 10) hx hb dX3_name_5 (by decide) (fun c5 => ?_) (fun c5 => ?_)
  · replace hf := if_f hf c5
    refine lv_iload_n hx hb dX3_name_10 rfl (lv_at hl 2 rfl) ?_
    refine lv_if_lt (tgt := 29) hx hb dX3_name_11 (by decide) (fun c11 => ?_) (fun c11 => ?_)
    · replace hf := if_t hf c11
      refine lv_bipush (v := (-2)) hx hb dX3_name_29 (by decide) ?_
      exact z_iret hx hb hr hlk hw hS hf dX3_name_31
    · replace hf := if_f hf c11
      refine lv_iload_n hx hb dX3_name_14 rfl (lv_at hl 2 rfl) ?_
      refine lv_iconst (v := 3) hx hb dX3_name_15 (by decide) ?_
      refine lv_icmp_gt (tgt := 29) hx hb dX3_name_16 (by decide) (fun c16 => ?_) (fun c16 => ?_)
      · replace hf := if_t hf c16
        refine lv_bipush (v := (-2)) hx hb dX3_name_29 (by decide) ?_
        exact z_iret hx hb hr hlk hw hS hf dX3_name_31
      · replace hf := if_f hf c16
        refine lv_iload_n hx hb dX3_name_19 rfl (lv_at hl 3 rfl) ?_
        refine lv_if_lt (tgt := 29) hx hb dX3_name_20 (by decide) (fun c20 => ?_) (fun c20 => ?_)
        · replace hf := if_t hf c20
          refine lv_bipush (v := (-2)) hx hb dX3_name_29 (by decide) ?_
          exact z_iret hx hb hr hlk hw hS hf dX3_name_31
        · replace hf := if_f hf c20
          refine lv_iload_n hx hb dX3_name_23 rfl (lv_at hl 3 rfl) ?_
          refine lv_bipush (v := 9) hx hb dX3_name_24 (by decide) ?_
          refine lv_icmp_le (tgt := 32) hx hb dX3_name_26 (by decide) (fun c26 => ?_) (fun c26 => ?_)
          · replace hf := if_t hf c26
            refine lv_aload_n hx hb dX3_name_32 rfl (lv_at hl 0 rfl) ?_
            refine z_get (v := .ref (L 13)) hx hb hts hiX3_name_X3 hown hK hw (k := 0) kc_0.2 ((cX_a0 kc_0.1) _) rfl 6 (by decide) (hts (.fieldLink RX3 23 "OneSentence" "today" "LOneSentence$Day;") (by decide +kernel)) rfl dX3_name_33 ?_
            refine z_getN (v := .ref (L 16)) hx hb hts hiX3_name_X0 hown hK hw (k := 13) kc_13.2 ((cX_a2 kc_13.1) _) rfl 3 (by decide) (hE.1 (RX3, 90, "OneSentence$Day", "sentence", "[I", "OneSentence") (by decide)) rfl dX3_name_36 ?_
            refine lv_iload_n hx hb dX3_name_39 rfl (lv_at hl 1 rfl) ?_
            obtain ⟨v40, h40, hf⟩ := bd_e hf
            refine z_iald hx hb hK hw 0 (k := 16) kc_16.2 ((cX_a5 kc_16.1) _) rfl h40 dX3_name_40 ?_
            refine lv_istore (lv' := [(4, .int v40), (0, .ref (L 0)), (1, .int x1), (2, .int x2), (3, .int x3)]) hx hb dX3_name_41 hl (by decide) rfl (fun ls hl => ?_)
            refine lv_iload hx hb dX3_name_43 (lv_at hl 0 rfl) ?_
            refine lv_bipush (v := 10) hx hb dX3_name_45 (by decide) ?_
            refine lv_iload_n hx hb dX3_name_47 rfl (lv_at hl 3 rfl) ?_
            refine lv_imul hx hb dX3_name_48 ?_
            refine lv_iload_n hx hb dX3_name_49 rfl (lv_at hl 4 rfl) ?_
            refine lv_iadd hx hb dX3_name_50 ?_
            refine lv_icmp_ne (tgt := 57) hx hb dX3_name_51 (by decide) (fun c51 => ?_) (fun c51 => ?_)
            · replace hf := if_f hf c51
              refine lv_aload_n hx hb dX3_name_57 rfl (lv_at hl 1 rfl) ?_
              obtain ⟨w58, h58, hf⟩ := bd_e hf
              refine z_callv (va_runV (As := []) (rest := []) ⟨hx, hb, hml, hown, hts⟩ (kx_remember l (D := D) (K := K) (t0 := t0) hJ (q2.2)  h58) (cwV 0 hts gX3_name_X3_remember rfl rfl rfl (by decide +kernel) ⟨Nat.le_of_ble_eq_true rfl, Nat.le_of_ble_eq_true rfl⟩) (z_preV eX_ok hK hE hw hS kc_0.2 ((cX_a0 kc_0.1) _) (T := TX3) (M := 18) rfl) rfl rfl hl.1 rfl (lv_room (Nat.le_of_ble_eq_true rfl)) dX3_name_58 ⟨Nat.le_of_ble_eq_true rfl, Nat.le_of_ble_eq_true rfl⟩) hS (fun H locs hw hS => ?_)
              refine lv_aload_n hx hb dX3_name_61 rfl (lv_at hl 1 rfl) ?_
              refine z_get (v := .ref (L 13)) hx hb hts hiX3_name_X3 hown hK hw (k := 0) kc_0.2 ((cX_a0 kc_0.1) _) rfl 6 (by decide) (hts (.fieldLink RX3 23 "OneSentence" "today" "LOneSentence$Day;") (by decide +kernel)) rfl dX3_name_62 ?_
              refine z_getN (v := .ref (L 16)) hx hb hts hiX3_name_X0 hown hK hw (k := 13) kc_13.2 ((cX_a2 kc_13.1) _) rfl 3 (by decide) (hE.1 (RX3, 90, "OneSentence$Day", "sentence", "[I", "OneSentence") (by decide)) rfl dX3_name_65 ?_
              refine lv_iload_n hx hb dX3_name_68 rfl (lv_at hl 2 rfl) ?_
              refine lv_bipush (v := 10) hx hb dX3_name_69 (by decide) ?_
              refine lv_iload_n hx hb dX3_name_71 rfl (lv_at hl 3 rfl) ?_
              refine lv_imul hx hb dX3_name_72 ?_
              refine lv_iload_n hx hb dX3_name_73 rfl (lv_at hl 4 rfl) ?_
              refine lv_iadd hx hb dX3_name_74 ?_
              obtain ⟨w75, h75, hf⟩ := bd_e hf
              refine z_iast hx hb hK hJ hw hS 0 (k := 16) kc_16.2 cX_ne (cX_a5 kc_16.1) rfl h75 dX3_name_75 (fun H locs hw hS => ?_)
              refine lv_iload hx hb dX3_name_76 (lv_at hl 0 rfl) ?_
              exact z_iret hx hb hr hlk hw hS hf dX3_name_78
            · replace hf := if_t hf c51
              refine lv_bipush (v := (-3)) hx hb dX3_name_54 (by decide) ?_
              exact z_iret hx hb hr hlk hw hS hf dX3_name_56
          · replace hf := if_f hf c26
            refine lv_bipush (v := (-2)) hx hb dX3_name_29 (by decide) ?_
            exact z_iret hx hb hr hlk hw hS hf dX3_name_31
  · replace hf := if_t hf c5
    refine lv_iconst (v := (-1)) hx hb dX3_name_8 (by decide) ?_
    exact z_iret hx hb hr hlk hw hS hf dX3_name_9
set_option maxHeartbeats 4000000 in
set_option maxRecDepth 100000 in
theorem kx_name (l : Launch) {D : va_G} {L : Nat → Nat} {K : Nat → ClassId} {t0 : Nat} (hJ : gj L 81) (x1 : Int32) (x2 : Int32) (x3 : Int32) (w : St) {w9 : St} {rs : Int32} (hf : fx_name x1 x2 x3 w = some (rs, w9)) : Met l yX3_name wsX3_name ({ frames := 3, cells := 0, slots := 0, locals := 65 }) (va_Pc [.ref (L 0), .int x1, .int x2, .int x3] (xP D L K t0 w)) (qI D L 81 (cX L K) rs w9) 0 0 (gA L 81) := by
  refine g_met (cc := cX3_name) (nL := 5) (ret := (some .int)) (by decide) rfl (Nat.le_of_ble_eq_true rfl) (fun p e s m below meth c ls C0 hP hl => ?_)
  exact wx_name_0 hJ C0 hP.2.1 hP.2.2 _ _ _ w _ _ ls hP.1 va_S.rf (lv_sub hl [0, 1, 2, 3] rfl) hf
set_option maxRecDepth 20000 in
theorem ggX3_undo_X0_become : GoodIn wsX3_undo wsX0_become := goodIn_r _ [8, 9, 10, 11, 12, 13, 14, 15, 16, 17, 18, 19, 20, 39, 40, 41, 42, 43, 44, 45, 46] (by decide +kernel) (by decide +kernel)
set_option maxRecDepth 20000 in
theorem gX3_undo_X0_become_n137 : GoodIn wsX3_undo (wsX0_become) := ggX3_undo_X0_become
theorem dX3_undo_0 : decode cX3_undo 0 = .ok (.aload_n 0, 1) := by decide +kernel
theorem dX3_undo_1 : decode cX3_undo 1 = .ok (.getfield 131, 3) := by decide +kernel
theorem dX3_undo_4 : decode cX3_undo 4 = .ok (.ifCond .gt 6, 3) := by decide +kernel
theorem dX3_undo_7 : decode cX3_undo 7 = .ok (.bipush (-3), 2) := by decide +kernel
theorem dX3_undo_9 : decode cX3_undo 9 = .ok (.ireturn, 1) := by decide +kernel
theorem dX3_undo_10 : decode cX3_undo 10 = .ok (.aload_n 0, 1) := by decide +kernel
theorem dX3_undo_11 : decode cX3_undo 11 = .ok (.dup, 1) := by decide +kernel
theorem dX3_undo_12 : decode cX3_undo 12 = .ok (.getfield 131, 3) := by decide +kernel
theorem dX3_undo_15 : decode cX3_undo 15 = .ok (.iconst 1, 1) := by decide +kernel
theorem dX3_undo_16 : decode cX3_undo 16 = .ok (.isub, 1) := by decide +kernel
theorem dX3_undo_17 : decode cX3_undo 17 = .ok (.putfield 131, 3) := by decide +kernel
theorem dX3_undo_20 : decode cX3_undo 20 = .ok (.aload_n 0, 1) := by decide +kernel
theorem dX3_undo_21 : decode cX3_undo 21 = .ok (.getfield 134, 3) := by decide +kernel
theorem dX3_undo_24 : decode cX3_undo 24 = .ok (.aload_n 0, 1) := by decide +kernel
theorem dX3_undo_25 : decode cX3_undo 25 = .ok (.getfield 131, 3) := by decide +kernel
theorem dX3_undo_28 : decode cX3_undo 28 = .ok (.iadd, 1) := by decide +kernel
theorem dX3_undo_29 : decode cX3_undo 29 = .ok (.bipush 14, 2) := by decide +kernel
theorem dX3_undo_31 : decode cX3_undo 31 = .ok (.irem, 1) := by decide +kernel
theorem dX3_undo_32 : decode cX3_undo 32 = .ok (.istore_n 1, 1) := by decide +kernel
theorem dX3_undo_33 : decode cX3_undo 33 = .ok (.iload_n 1, 1) := by decide +kernel
theorem dX3_undo_34 : decode cX3_undo 34 = .ok (.ifCond .lt 25, 3) := by decide +kernel
theorem dX3_undo_37 : decode cX3_undo 37 = .ok (.iload_n 1, 1) := by decide +kernel
theorem dX3_undo_38 : decode cX3_undo 38 = .ok (.aload_n 0, 1) := by decide +kernel
theorem dX3_undo_39 : decode cX3_undo 39 = .ok (.getfield 27, 3) := by decide +kernel
theorem dX3_undo_42 : decode cX3_undo 42 = .ok (.arraylength, 1) := by decide +kernel
theorem dX3_undo_43 : decode cX3_undo 43 = .ok (.if_icmp .ge 16, 3) := by decide +kernel
theorem dX3_undo_46 : decode cX3_undo 46 = .ok (.aload_n 0, 1) := by decide +kernel
theorem dX3_undo_47 : decode cX3_undo 47 = .ok (.getfield 23, 3) := by decide +kernel
theorem dX3_undo_50 : decode cX3_undo 50 = .ok (.aload_n 0, 1) := by decide +kernel
theorem dX3_undo_51 : decode cX3_undo 51 = .ok (.getfield 27, 3) := by decide +kernel
theorem dX3_undo_54 : decode cX3_undo 54 = .ok (.iload_n 1, 1) := by decide +kernel
theorem dX3_undo_55 : decode cX3_undo 55 = .ok (.aaload, 1) := by decide +kernel
theorem dX3_undo_56 : decode cX3_undo 56 = .ok (.invokevirtual 137, 3) := by decide +kernel
theorem dX3_undo_59 : decode cX3_undo 59 = .ok (.aload_n 0, 1) := by decide +kernel
theorem dX3_undo_60 : decode cX3_undo 60 = .ok (.getfield 131, 3) := by decide +kernel
theorem dX3_undo_63 : decode cX3_undo 63 = .ok (.ireturn, 1) := by decide +kernel
set_option maxRecDepth 20000 in
theorem hiX3_undo_X3 : ∀ w ∈ u_ws RX3 TX3 18, w ∈ wsX3_undo := by decide +kernel
set_option maxHeartbeats 4000000 in
set_option maxRecDepth 100000 in
theorem wx_undo_59 {p : Program} {l : Launch} {e : Env} {s : State} {m : MethodId} {args : Array Value} {below : List Frame} {meth : Method} {c : Code} {D : va_G} {L : Nat → Nat} {K : Nat → ClassId} {t0 : Nat} (hJ : gj L 81) (C0 : gC cX3_undo 2 (some .int) wsX3_undo RX3 p s m args meth c) (hK : va_K D vwCl (tyG K) s) (hE : eX L t0 s) {w9 : St} {rs : Int32} : ∀ (w : St) (H : Heap) (locs : List Loc) (ls : Array Slot), va_P D vwCl (gl L 81 (cX L K w)) H → va_S (gA L 81) s.heap H locs → lv_has ls 2 [(0, .ref (L 0))] → fx_undo_59 w = some (rs, w9) → W p l e { frames := 2, cells := 0, slots := 0, locals := 44 } s m args below meth c H locs 0 0 (MQ below (qI D L 81 (cX L K) rs w9) args s 0 0 (gA L 81)) (F0 m 59 ls []) := by
  obtain ⟨hx, hb, hr, hml, hown, hts, hlk⟩ := id C0
  intro w H locs ls hw hS hl hf
  unfold fx_undo_59 at hf
  refine lv_aload_n hx hb dX3_undo_59 rfl (lv_at hl 0 rfl) ?_
  refine z_get (v := .int (w.1 0 9)) hx hb hts hiX3_undo_X3 hown hK hw (k := 0) kc_0.2 ((cX_a0 kc_0.1) _) rfl 9 (by decide) (hts (.fieldLink RX3 131 "OneSentence" "acts" "I") (by decide +kernel)) rfl dX3_undo_60 ?_
  exact z_iret hx hb hr hlk hw hS hf dX3_undo_63
set_option maxHeartbeats 4000000 in
set_option maxRecDepth 100000 in
theorem wx_undo_0 {p : Program} {l : Launch} {e : Env} {s : State} {m : MethodId} {args : Array Value} {below : List Frame} {meth : Method} {c : Code} {D : va_G} {L : Nat → Nat} {K : Nat → ClassId} {t0 : Nat} (hJ : gj L 81) (C0 : gC cX3_undo 2 (some .int) wsX3_undo RX3 p s m args meth c) (hK : va_K D vwCl (tyG K) s) (hE : eX L t0 s) {w9 : St} {rs : Int32} : ∀ (w : St) (H : Heap) (locs : List Loc) (ls : Array Slot), va_P D vwCl (gl L 81 (cX L K w)) H → va_S (gA L 81) s.heap H locs → lv_has ls 2 [(0, .ref (L 0))] → fx_undo w = some (rs, w9) → W p l e { frames := 2, cells := 0, slots := 0, locals := 44 } s m args below meth c H locs 0 0 (MQ below (qI D L 81 (cX L K) rs w9) args s 0 0 (gA L 81)) (F0 m 0 ls []) := by
  obtain ⟨hx, hb, hr, hml, hown, hts, hlk⟩ := id C0
  intro w H locs ls hw hS hl hf
  unfold fx_undo at hf
  refine lv_aload_n hx hb dX3_undo_0 rfl (lv_at hl 0 rfl) ?_
  refine z_get (v := .int (w.1 0 9)) hx hb hts hiX3_undo_X3 hown hK hw (k := 0) kc_0.2 ((cX_a0 kc_0.1) _) rfl 9 (by decide) (hts (.fieldLink RX3 131 "OneSentence" "acts" "I") (by decide +kernel)) rfl dX3_undo_1 ?_
  refine lv_if_gt (tgt := 10) hx hb dX3_undo_4 (by decide) (fun c4 => ?_) (fun c4 => ?_)
  · replace hf := if_t hf c4
    refine lv_aload_n hx hb dX3_undo_10 rfl (lv_at hl 0 rfl) ?_
    refine lv_dup hx hb dX3_undo_11 rfl ?_
    refine z_get (v := .int (w.1 0 9)) hx hb hts hiX3_undo_X3 hown hK hw (k := 0) kc_0.2 ((cX_a0 kc_0.1) _) rfl 9 (by decide) (hts (.fieldLink RX3 131 "OneSentence" "acts" "I") (by decide +kernel)) rfl dX3_undo_12 ?_
    refine lv_iconst (v := 1) hx hb dX3_undo_15 (by decide) ?_
    refine lv_isub hx hb dX3_undo_16 ?_
    refine z_puti hx hb hts hiX3_undo_X3 tyX3 tyX3_ok nmX3 hown hK hJ hw hS (k := 0) kc_0.2 cX_ne (fs := (fX0 L)) (cX_a0 kc_0.1) rfl 9 (by decide) (hts (.fieldLink RX3 131 "OneSentence" "acts" "I") (by decide +kernel)) rfl rfl (fun _ _ => ⟨Nat.le_of_ble_eq_true rfl, rfl⟩) dX3_undo_17 (fun H locs hw hS => ?_)
    refine lv_aload_n hx hb dX3_undo_20 rfl (lv_at hl 0 rfl) ?_
    refine z_get (v := .int ((wr w 0 9 ((w.1 0 9) - (1 : Int32))).1 0 8)) hx hb hts hiX3_undo_X3 hown hK hw (k := 0) kc_0.2 ((cX_a0 kc_0.1) _) rfl 8 (by decide) (hts (.fieldLink RX3 134 "OneSentence" "firstAct" "I") (by decide +kernel)) rfl dX3_undo_21 ?_
    refine lv_aload_n hx hb dX3_undo_24 rfl (lv_at hl 0 rfl) ?_
    refine z_get (v := .int ((wr w 0 9 ((w.1 0 9) - (1 : Int32))).1 0 9)) hx hb hts hiX3_undo_X3 hown hK hw (k := 0) kc_0.2 ((cX_a0 kc_0.1) _) rfl 9 (by decide) (hts (.fieldLink RX3 131 "OneSentence" "acts" "I") (by decide +kernel)) rfl dX3_undo_25 ?_
    refine lv_iadd hx hb dX3_undo_28 ?_
    refine lv_bipush (v := 14) hx hb dX3_undo_29 (by decide) ?_
    refine lv_irem hx hb dX3_undo_31 (by decide) ?_
    refine lv_topi (fun v32 e32 => ?_)
    replace hf := lb_e hf e32
    refine lv_istore_n (lv' := [(1, .int v32), (0, .ref (L 0))]) hx hb dX3_undo_32 rfl hl (by decide) rfl (fun ls hl => ?_)
    refine lv_iload_n hx hb dX3_undo_33 rfl (lv_at hl 0 rfl) ?_
    refine lv_if_lt (tgt := 59) hx hb dX3_undo_34 (by decide) (fun c34 => ?_) (fun c34 => ?_)
    · replace hf := if_t hf c34
      exact wx_undo_59 hJ C0 hK hE _ _ _ _ hw hS (lv_sub hl [1] rfl) hf
    · replace hf := if_f hf c34
      refine lv_iload_n hx hb dX3_undo_37 rfl (lv_at hl 0 rfl) ?_
      refine lv_aload_n hx hb dX3_undo_38 rfl (lv_at hl 1 rfl) ?_
      refine z_get (v := .ref (L 4)) hx hb hts hiX3_undo_X3 hown hK hw (k := 0) kc_0.2 ((cX_a0 kc_0.1) _) rfl 7 (by decide) (hts (.fieldLink RX3 27 "OneSentence" "past" "[LOneSentence$Day;") (by decide +kernel)) rfl dX3_undo_39 ?_
      refine z_alen (v := 14) hx hb hK hw 3 (k := 4) kc_4.2 ((cX_a7 kc_4.1) _) rfl rfl dX3_undo_42 ?_
      refine lv_icmp_ge (tgt := 59) hx hb dX3_undo_43 (by decide) (fun c43 => ?_) (fun c43 => ?_)
      · replace hf := if_t hf c43
        exact wx_undo_59 hJ C0 hK hE _ _ _ _ hw hS (lv_sub hl [1] rfl) hf
      · replace hf := if_f hf c43
        refine lv_aload_n hx hb dX3_undo_46 rfl (lv_at hl 1 rfl) ?_
        refine z_get (v := .ref (L 13)) hx hb hts hiX3_undo_X3 hown hK hw (k := 0) kc_0.2 ((cX_a0 kc_0.1) _) rfl 6 (by decide) (hts (.fieldLink RX3 23 "OneSentence" "today" "LOneSentence$Day;") (by decide +kernel)) rfl dX3_undo_47 ?_
        refine lv_aload_n hx hb dX3_undo_50 rfl (lv_at hl 1 rfl) ?_
        refine z_get (v := .ref (L 4)) hx hb hts hiX3_undo_X3 hown hK hw (k := 0) kc_0.2 ((cX_a0 kc_0.1) _) rfl 7 (by decide) (hts (.fieldLink RX3 27 "OneSentence" "past" "[LOneSentence$Day;") (by decide +kernel)) rfl dX3_undo_51 ?_
        refine lv_iload_n hx hb dX3_undo_54 rfl (lv_at hl 0 rfl) ?_
        obtain ⟨q55, h55, hf⟩ := bd_e hf
        refine z_aald hx hb hK hw 3 (k := 4) kc_4.2 ((cX_a7 kc_4.1) _) rfl h55 dX3_undo_55 ?_
        obtain ⟨w56, h56, hf⟩ := bd_e hf
        refine z_callv (va_runVN (As := [.ref (L (17 + 4 * q55))]) (rest := []) ⟨hx, hb, hml, hown, hts⟩ (kd_become l (D := D) (K := K) (t0 := t0) hJ 13 (17 + 4 * q55) (wr w 0 9 ((w.1 0 9) - (1 : Int32))) kc_13 (kX_past (gq_lt h55)) h56) ⟨va_cnB 1 hts gX3_undo_X0_become_n137 rfl rfl rfl (hE.2.1 (RX3, 137, yX0_become, "OneSentence") (by decide)) (hts (.initialized RX0) (by decide +kernel)) (by decide +kernel) ⟨Nat.le_of_ble_eq_true rfl, Nat.le_of_ble_eq_true rfl⟩, hts (.instanceMethod yX0_become) (by decide +kernel), hts (.selects RX0 yX0_become yX0_become) (by decide +kernel)⟩ (z_preV eX_ok hK hE hw hS kc_13.2 ((cX_a2 kc_13.1) _) (T := TX0) (M := 4) rfl) rfl rfl hl.1 rfl (lv_room (Nat.le_of_ble_eq_true rfl)) dX3_undo_56 ⟨Nat.le_of_ble_eq_true rfl, Nat.le_of_ble_eq_true rfl⟩) hS (fun H locs hw hS => ?_)
        exact wx_undo_59 hJ C0 hK hE _ _ _ _ hw hS (lv_sub hl [1] rfl) hf
  · replace hf := if_f hf c4
    refine lv_bipush (v := (-3)) hx hb dX3_undo_7 (by decide) ?_
    exact z_iret hx hb hr hlk hw hS hf dX3_undo_9
set_option maxHeartbeats 4000000 in
set_option maxRecDepth 100000 in
theorem kx_undo (l : Launch) {D : va_G} {L : Nat → Nat} {K : Nat → ClassId} {t0 : Nat} (hJ : gj L 81) (w : St) {w9 : St} {rs : Int32} (hf : fx_undo w = some (rs, w9)) : Met l yX3_undo wsX3_undo ({ frames := 2, cells := 0, slots := 0, locals := 44 }) (va_Pc [.ref (L 0)] (xP D L K t0 w)) (qI D L 81 (cX L K) rs w9) 0 0 (gA L 81) := by
  refine g_met (cc := cX3_undo) (nL := 2) (ret := (some .int)) (by decide) rfl (Nat.le_of_ble_eq_true rfl) (fun p e s m below meth c ls C0 hP hl => ?_)
  exact wx_undo_0 hJ C0 hP.2.1 hP.2.2 w _ _ ls hP.1 va_S.rf (lv_sub hl [0] rfl) hf
theorem dX3_personIn_0 : decode cX3_personIn 0 = .ok (.iload_n 1, 1) := by decide +kernel
theorem dX3_personIn_1 : decode cX3_personIn 1 = .ok (.istore_n 3, 1) := by decide +kernel
theorem dX3_personIn_2 : decode cX3_personIn 2 = .ok (.iload_n 0, 1) := by decide +kernel
theorem dX3_personIn_3 : decode cX3_personIn 3 = .ok (.iconst 1, 1) := by decide +kernel
theorem dX3_personIn_4 : decode cX3_personIn 4 = .ok (.isub, 1) := by decide +kernel
theorem dX3_personIn_5 : decode cX3_personIn 5 = .ok (.istore 4, 2) := by decide +kernel
theorem dX3_personIn_7 : decode cX3_personIn 7 = .ok (.iload 4, 2) := by decide +kernel
theorem dX3_personIn_9 : decode cX3_personIn 9 = .ok (.iload_n 2, 1) := by decide +kernel
theorem dX3_personIn_10 : decode cX3_personIn 10 = .ok (.if_icmp .le 14, 3) := by decide +kernel
theorem dX3_personIn_13 : decode cX3_personIn 13 = .ok (.iload_n 3, 1) := by decide +kernel
theorem dX3_personIn_14 : decode cX3_personIn 14 = .ok (.bipush 10, 2) := by decide +kernel
theorem dX3_personIn_16 : decode cX3_personIn 16 = .ok (.idiv, 1) := by decide +kernel
theorem dX3_personIn_17 : decode cX3_personIn 17 = .ok (.istore_n 3, 1) := by decide +kernel
theorem dX3_personIn_18 : decode cX3_personIn 18 = .ok (.iinc 4 (-1), 3) := by decide +kernel
theorem dX3_personIn_21 : decode cX3_personIn 21 = .ok (.goto (-14), 3) := by decide +kernel
theorem dX3_personIn_24 : decode cX3_personIn 24 = .ok (.iload_n 3, 1) := by decide +kernel
theorem dX3_personIn_25 : decode cX3_personIn 25 = .ok (.bipush 10, 2) := by decide +kernel
theorem dX3_personIn_27 : decode cX3_personIn 27 = .ok (.irem, 1) := by decide +kernel
theorem dX3_personIn_28 : decode cX3_personIn 28 = .ok (.iconst 1, 1) := by decide +kernel
theorem dX3_personIn_29 : decode cX3_personIn 29 = .ok (.isub, 1) := by decide +kernel
theorem dX3_personIn_30 : decode cX3_personIn 30 = .ok (.ireturn, 1) := by decide +kernel
set_option maxHeartbeats 4000000 in
set_option maxRecDepth 100000 in
theorem wx_personIn_7 {p : Program} {l : Launch} {e : Env} {s : State} {m : MethodId} {args : Array Value} {below : List Frame} {meth : Method} {c : Code} (C0 : gC cX3_personIn 5 (some .int) wsX3_personIn RX3 p s m args meth c) {rs : Int32} : ∀ (fu : Nat) (x2 : Int32) (x3 : Int32) (x4 : Int32) (ls : Array Slot), lv_has ls 5 [(2, .int x2), (3, .int x3), (4, .int x4)] → fx_personIn_7 fu x2 x3 x4 = some rs → W p l e { frames := 0, cells := 0, slots := 0, locals := 0 } s m args below meth c s.heap [] 0 0 (MQ below (qS rs) args s 0 0 (fun _ => False)) (F0 m 7 ls []) := by
  obtain ⟨hx, hb, hr, hml, hown, hts, hlk⟩ := id C0
  intro fu
  induction fu with
  | zero =>
    intro x2 x3 x4 ls hl hf
    rw [fx_personIn_7] at hf
    exact no_n hf
  | succ fu ih =>
    intro x2 x3 x4 ls hl hf
    rw [fx_personIn_7] at hf
    refine lv_iload hx hb dX3_personIn_7 (lv_at hl 2 rfl) ?_
    refine lv_iload_n hx hb dX3_personIn_9 rfl (lv_at hl 0 rfl) ?_
    refine lv_icmp_le (tgt := 24) hx hb dX3_personIn_10 (by decide) (fun c10 => ?_) (fun c10 => ?_)
    · replace hf := if_t hf c10
      refine lv_iload_n hx hb dX3_personIn_24 rfl (lv_at hl 1 rfl) ?_
      refine lv_bipush (v := 10) hx hb dX3_personIn_25 (by decide) ?_
      refine lv_irem hx hb dX3_personIn_27 (by decide) ?_
      refine lv_iconst (v := 1) hx hb dX3_personIn_28 (by decide) ?_
      refine lv_isub hx hb dX3_personIn_29 ?_
      exact z_sret hx hb hr hlk hf dX3_personIn_30
    · replace hf := if_f hf c10
      refine lv_iload_n hx hb dX3_personIn_13 rfl (lv_at hl 1 rfl) ?_
      refine lv_bipush (v := 10) hx hb dX3_personIn_14 (by decide) ?_
      refine lv_idiv hx hb dX3_personIn_16 (by decide) ?_
      refine lv_topi (fun v17 e17 => ?_)
      replace hf := lb_e hf e17
      refine lv_istore_n (lv' := [(3, .int v17), (2, .int x2), (4, .int x4)]) hx hb dX3_personIn_17 rfl hl (by decide) rfl (fun ls hl => ?_)
      refine lv_iinc (v := (x4 + (-1))) (lv' := [(4, .int (x4 + (-1))), (3, .int v17), (2, .int x2)]) hx hb dX3_personIn_18 hl (k := 2) rfl rfl (by decide) rfl (fun ls hl => ?_)
      refine lv_goto (tgt := 7) hx hb dX3_personIn_21 (by decide) ?_
      exact ih _ _ _ _ (lv_sub hl [2, 1, 0] rfl) hf
set_option maxHeartbeats 4000000 in
set_option maxRecDepth 100000 in
theorem wx_personIn_0 {p : Program} {l : Launch} {e : Env} {s : State} {m : MethodId} {args : Array Value} {below : List Frame} {meth : Method} {c : Code} (C0 : gC cX3_personIn 5 (some .int) wsX3_personIn RX3 p s m args meth c) {rs : Int32} : ∀ (x0 : Int32) (x1 : Int32) (x2 : Int32) (ls : Array Slot), lv_has ls 5 [(0, .int x0), (1, .int x1), (2, .int x2)] → fx_personIn x0 x1 x2 = some rs → W p l e { frames := 0, cells := 0, slots := 0, locals := 0 } s m args below meth c s.heap [] 0 0 (MQ below (qS rs) args s 0 0 (fun _ => False)) (F0 m 0 ls []) := by
  obtain ⟨hx, hb, hr, hml, hown, hts, hlk⟩ := id C0
  intro x0 x1 x2 ls hl hf
  unfold fx_personIn at hf
  refine lv_iload_n hx hb dX3_personIn_0 rfl (lv_at hl 1 rfl) ?_
  refine lv_istore_n (lv' := [(3, .int x1), (0, .int x0), (1, .int x1), (2, .int x2)]) hx hb dX3_personIn_1 rfl hl (by decide) rfl (fun ls hl => ?_)
  refine lv_iload_n hx hb dX3_personIn_2 rfl (lv_at hl 1 rfl) ?_
  refine lv_iconst (v := 1) hx hb dX3_personIn_3 (by decide) ?_
  refine lv_isub hx hb dX3_personIn_4 ?_
  refine lv_topi (fun v5 e5 => ?_)
  replace hf := lb_e hf e5
  refine lv_istore (lv' := [(4, .int v5), (3, .int x1), (0, .int x0), (1, .int x1), (2, .int x2)]) hx hb dX3_personIn_5 hl (by decide) rfl (fun ls hl => ?_)
  exact wx_personIn_7 C0 _ _ _ _ _ (lv_sub hl [4, 1, 0] rfl) hf
set_option maxHeartbeats 4000000 in
set_option maxRecDepth 100000 in
theorem kx_personIn (l : Launch) (x0 : Int32) (x1 : Int32) (x2 : Int32) {rs : Int32} (hf : fx_personIn x0 x1 x2 = some rs) : Met l yX3_personIn wsX3_personIn ({ frames := 0, cells := 0, slots := 0, locals := 0 }) (va_Pc [.int x0, .int x1, .int x2] (fun _ => True)) (qS rs) 0 0 (fun _ => False) := by
  refine g_met (cc := cX3_personIn) (nL := 5) (ret := (some .int)) (by decide) rfl (Nat.le_of_ble_eq_true rfl) (fun p e s m below meth c ls C0 _ hl => ?_)
  exact wx_personIn_0 C0 _ _ _ ls (lv_sub hl [0, 1, 2] rfl) hf
set_option maxRecDepth 20000 in
theorem ggX3_play_X2_become : GoodIn wsX3_play wsX2_become := goodIn_r _ [6, 7, 8, 9, 10, 60, 61, 62, 63] (by decide +kernel) (by decide +kernel)
set_option maxRecDepth 20000 in
theorem gX3_play_X2_become_n187 : GoodIn wsX3_play (wsX2_become) := ggX3_play_X2_become
set_option maxRecDepth 20000 in
theorem ggX3_play_X3_personIn : GoodIn wsX3_play wsX3_personIn := goodIn_r _ [14] (by decide +kernel) (by decide +kernel)
set_option maxRecDepth 20000 in
theorem gX3_play_X3_personIn : GoodIn wsX3_play (va_wsS RX3 245 yX3_personIn wsX3_personIn) := goodIn_app (goodIn_of _ (by decide +kernel)) ggX3_play_X3_personIn
set_option maxRecDepth 20000 in
theorem ggX3_play_X3_maySpeak : GoodIn wsX3_play wsX3_maySpeak := goodIn_r _ [18, 19, 20, 21, 13, 22, 38, 39, 40, 41, 42, 43, 44, 45, 46, 47, 48, 49, 50, 51, 52, 53, 54, 55, 60, 61, 62, 63] (by decide +kernel) (by decide +kernel)
set_option maxRecDepth 20000 in
theorem gX3_play_X3_maySpeak : GoodIn wsX3_play (wsV RX3 103 RX3 yX3_maySpeak wsX3_maySpeak) := goodIn_app (goodIn_of _ (by decide +kernel)) ggX3_play_X3_maySpeak
set_option maxRecDepth 20000 in
theorem ggX3_play_X3_speak : GoodIn wsX3_play wsX3_speak := goodIn_r _ [26, 19, 27, 28, 29, 13, 30, 31, 2, 32, 4, 33, 34, 9, 7, 8, 10, 35, 36, 37, 38, 39, 40, 41, 42, 43, 44, 45, 46, 47, 48, 49, 50, 51, 52, 53, 54, 55, 56, 57, 58, 59, 60, 61, 62, 63] (by decide +kernel) (by decide +kernel)
set_option maxRecDepth 20000 in
theorem gX3_play_X3_speak : GoodIn wsX3_play (wsV RX3 124 RX3 yX3_speak wsX3_speak) := goodIn_app (goodIn_of _ (by decide +kernel)) ggX3_play_X3_speak
theorem dX3_play_0 : decode cX3_play 0 = .ok (.aload_n 0, 1) := by decide +kernel
theorem dX3_play_1 : decode cX3_play 1 = .ok (.getfield 41, 3) := by decide +kernel
theorem dX3_play_4 : decode cX3_play 4 = .ok (.aload_n 0, 1) := by decide +kernel
theorem dX3_play_5 : decode cX3_play 5 = .ok (.getfield 23, 3) := by decide +kernel
theorem dX3_play_8 : decode cX3_play 8 = .ok (.getfield 100, 3) := by decide +kernel
theorem dX3_play_11 : decode cX3_play 11 = .ok (.invokevirtual 187, 3) := by decide +kernel
theorem dX3_play_14 : decode cX3_play 14 = .ok (.iconst 0, 1) := by decide +kernel
theorem dX3_play_15 : decode cX3_play 15 = .ok (.istore 4, 2) := by decide +kernel
theorem dX3_play_17 : decode cX3_play 17 = .ok (.iload 4, 2) := by decide +kernel
theorem dX3_play_19 : decode cX3_play 19 = .ok (.iload_n 1, 1) := by decide +kernel
theorem dX3_play_20 : decode cX3_play 20 = .ok (.if_icmp .ge 45, 3) := by decide +kernel
theorem dX3_play_23 : decode cX3_play 23 = .ok (.iload_n 1, 1) := by decide +kernel
theorem dX3_play_24 : decode cX3_play 24 = .ok (.iload_n 2, 1) := by decide +kernel
theorem dX3_play_25 : decode cX3_play 25 = .ok (.iload 4, 2) := by decide +kernel
theorem dX3_play_27 : decode cX3_play 27 = .ok (.invokestatic 245, 3) := by decide +kernel
theorem dX3_play_30 : decode cX3_play 30 = .ok (.istore 5, 2) := by decide +kernel
theorem dX3_play_32 : decode cX3_play 32 = .ok (.aload_n 0, 1) := by decide +kernel
theorem dX3_play_33 : decode cX3_play 33 = .ok (.aload_n 0, 1) := by decide +kernel
theorem dX3_play_34 : decode cX3_play 34 = .ok (.getfield 41, 3) := by decide +kernel
theorem dX3_play_37 : decode cX3_play 37 = .ok (.iload_n 3, 1) := by decide +kernel
theorem dX3_play_38 : decode cX3_play 38 = .ok (.iload 5, 2) := by decide +kernel
theorem dX3_play_40 : decode cX3_play 40 = .ok (.invokevirtual 103, 3) := by decide +kernel
theorem dX3_play_43 : decode cX3_play 43 = .ok (.ifCond .ne 6, 3) := by decide +kernel
theorem dX3_play_46 : decode cX3_play 46 = .ok (.iload 4, 2) := by decide +kernel
theorem dX3_play_48 : decode cX3_play 48 = .ok (.ireturn, 1) := by decide +kernel
theorem dX3_play_49 : decode cX3_play 49 = .ok (.aload_n 0, 1) := by decide +kernel
theorem dX3_play_50 : decode cX3_play 50 = .ok (.aload_n 0, 1) := by decide +kernel
theorem dX3_play_51 : decode cX3_play 51 = .ok (.getfield 41, 3) := by decide +kernel
theorem dX3_play_54 : decode cX3_play 54 = .ok (.iload 5, 2) := by decide +kernel
theorem dX3_play_56 : decode cX3_play 56 = .ok (.invokevirtual 124, 3) := by decide +kernel
theorem dX3_play_59 : decode cX3_play 59 = .ok (.iinc 4 1, 3) := by decide +kernel
theorem dX3_play_62 : decode cX3_play 62 = .ok (.goto (-45), 3) := by decide +kernel
theorem dX3_play_65 : decode cX3_play 65 = .ok (.bipush (-9), 2) := by decide +kernel
theorem dX3_play_67 : decode cX3_play 67 = .ok (.ireturn, 1) := by decide +kernel
set_option maxRecDepth 20000 in
theorem hiX3_play_X0 : ∀ w ∈ u_ws RX0 TX0 4, w ∈ wsX3_play := by decide +kernel
set_option maxRecDepth 20000 in
theorem hiX3_play_X3 : ∀ w ∈ u_ws RX3 TX3 18, w ∈ wsX3_play := by decide +kernel
set_option maxHeartbeats 4000000 in
set_option maxRecDepth 100000 in
theorem wx_play_17 {p : Program} {l : Launch} {e : Env} {s : State} {m : MethodId} {args : Array Value} {below : List Frame} {meth : Method} {c : Code} {D : va_G} {L : Nat → Nat} {K : Nat → ClassId} {t0 : Nat} (hJ : gj L 81) (C0 : gC cX3_play 6 (some .int) wsX3_play RX3 p s m args meth c) (hK : va_K D vwCl (tyG K) s) (hE : eX L t0 s) {w9 : St} {rs : Int32} : ∀ (fu : Nat) (x1 : Int32) (x2 : Int32) (x3 : Int32) (x4 : Int32) (w : St) (H : Heap) (locs : List Loc) (ls : Array Slot), va_P D vwCl (gl L 81 (cX L K w)) H → va_S (gA L 81) s.heap H locs → lv_has ls 6 [(0, .ref (L 0)), (1, .int x1), (2, .int x2), (3, .int x3), (4, .int x4)] → fx_play_17 fu x1 x2 x3 x4 w = some (rs, w9) → W p l e { frames := 3, cells := 0, slots := 0, locals := 69 } s m args below meth c H locs 0 0 (MQ below (qI D L 81 (cX L K) rs w9) args s 0 0 (gA L 81)) (F0 m 17 ls []) := by
  obtain ⟨hx, hb, hr, hml, hown, hts, hlk⟩ := id C0
  intro fu
  induction fu with
  | zero =>
    intro x1 x2 x3 x4 w H locs ls hw hS hl hf
    rw [fx_play_17] at hf
    exact no_n hf
  | succ fu ih =>
    intro x1 x2 x3 x4 w H locs ls hw hS hl hf
    rw [fx_play_17] at hf
    refine lv_iload hx hb dX3_play_17 (lv_at hl 4 rfl) ?_
    refine lv_iload_n hx hb dX3_play_19 rfl (lv_at hl 1 rfl) ?_
    refine lv_icmp_ge (tgt := 65) hx hb dX3_play_20 (by decide) (fun c20 => ?_) (fun c20 => ?_)
    · replace hf := if_t hf c20
      refine lv_bipush (v := (-9)) hx hb dX3_play_65 (by decide) ?_
      exact z_iret hx hb hr hlk hw hS hf dX3_play_67
    · replace hf := if_f hf c20
      refine lv_iload_n hx hb dX3_play_23 rfl (lv_at hl 1 rfl) ?_
      refine lv_iload_n hx hb dX3_play_24 rfl (lv_at hl 2 rfl) ?_
      refine lv_iload hx hb dX3_play_25 (lv_at hl 4 rfl) ?_
      obtain ⟨v27, h27, hf⟩ := bd_e hf
      refine z_calls (va_runS (As := [.int x1, .int x2, .int x4]) (rest := []) ⟨hx, hb, hml, hown, hts⟩ (kx_personIn l x1 x2 x4 h27) (va_cwS 3 hts gX3_play_X3_personIn rfl rfl rfl (by decide +kernel) ⟨Nat.le_of_ble_eq_true rfl, Nat.le_of_ble_eq_true rfl⟩) z_preT rfl rfl hl.1 rfl (lv_room (Nat.le_of_ble_eq_true rfl)) dX3_play_27 ⟨Nat.le_of_ble_eq_true rfl, Nat.le_of_ble_eq_true rfl⟩) ?_
      refine lv_istore (lv' := [(5, .int v27), (0, .ref (L 0)), (1, .int x1), (2, .int x2), (3, .int x3), (4, .int x4)]) hx hb dX3_play_30 hl (by decide) rfl (fun ls hl => ?_)
      refine lv_aload_n hx hb dX3_play_32 rfl (lv_at hl 1 rfl) ?_
      refine lv_aload_n hx hb dX3_play_33 rfl (lv_at hl 1 rfl) ?_
      refine z_get (v := .ref (L 11)) hx hb hts hiX3_play_X3 hown hK hw (k := 0) kc_0.2 ((cX_a0 kc_0.1) _) rfl 13 (by decide) (hts (.fieldLink RX3 41 "OneSentence" "trial" "LOneSentence$Talk;") (by decide +kernel)) rfl dX3_play_34 ?_
      refine lv_iload_n hx hb dX3_play_37 rfl (lv_at hl 4 rfl) ?_
      refine lv_iload hx hb dX3_play_38 (lv_at hl 0 rfl) ?_
      obtain ⟨q40, h40, hf⟩ := bd_e hf
      refine z_calli (va_runV (As := [.ref (L 11), .int x3, .int v27]) (rest := []) ⟨hx, hb, hml, hown, hts⟩ (kx_maySpeak l (D := D) (K := K) (t0 := t0) hJ 11 x3 v27 w kc_11 h40) (cwV 3 hts gX3_play_X3_maySpeak rfl rfl rfl (by decide +kernel) ⟨Nat.le_of_ble_eq_true rfl, Nat.le_of_ble_eq_true rfl⟩) (z_preV eX_ok hK hE hw hS kc_0.2 ((cX_a0 kc_0.1) _) (T := TX3) (M := 18) rfl) rfl rfl hl.1 rfl (lv_room (Nat.le_of_ble_eq_true rfl)) dX3_play_40 ⟨Nat.le_of_ble_eq_true rfl, Nat.le_of_ble_eq_true rfl⟩) hS (fun H locs hw hS => ?_)
      refine lv_if_ne (tgt := 49) hx hb dX3_play_43 (by decide) (fun c43 => ?_) (fun c43 => ?_)
      · replace hf := if_f hf c43
        refine lv_aload_n hx hb dX3_play_49 rfl (lv_at hl 1 rfl) ?_
        refine lv_aload_n hx hb dX3_play_50 rfl (lv_at hl 1 rfl) ?_
        refine z_get (v := .ref (L 11)) hx hb hts hiX3_play_X3 hown hK hw (k := 0) kc_0.2 ((cX_a0 kc_0.1) _) rfl 13 (by decide) (hts (.fieldLink RX3 41 "OneSentence" "trial" "LOneSentence$Talk;") (by decide +kernel)) rfl dX3_play_51 ?_
        refine lv_iload hx hb dX3_play_54 (lv_at hl 0 rfl) ?_
        obtain ⟨w56, h56, hf⟩ := bd_e hf
        refine z_callv (va_runV (As := [.ref (L 11), .int v27]) (rest := []) ⟨hx, hb, hml, hown, hts⟩ (kx_speak l (D := D) (K := K) (t0 := t0) hJ 11 v27 (q40.2) kc_11 h56) (cwV 2 hts gX3_play_X3_speak rfl rfl rfl (by decide +kernel) ⟨Nat.le_of_ble_eq_true rfl, Nat.le_of_ble_eq_true rfl⟩) (z_preV eX_ok hK hE hw hS kc_0.2 ((cX_a0 kc_0.1) _) (T := TX3) (M := 18) rfl) rfl rfl hl.1 rfl (lv_room (Nat.le_of_ble_eq_true rfl)) dX3_play_56 ⟨Nat.le_of_ble_eq_true rfl, Nat.le_of_ble_eq_true rfl⟩) hS (fun H locs hw hS => ?_)
        refine lv_iinc (v := (x4 + 1)) (lv' := [(4, .int (x4 + 1)), (5, .int v27), (0, .ref (L 0)), (1, .int x1), (2, .int x2), (3, .int x3)]) hx hb dX3_play_59 hl (k := 5) rfl rfl (by decide) rfl (fun ls hl => ?_)
        refine lv_goto (tgt := 17) hx hb dX3_play_62 (by decide) ?_
        exact ih _ _ _ _ _ _ _ _ hw hS (lv_sub hl [2, 3, 4, 5, 0] rfl) hf
      · replace hf := if_t hf c43
        refine lv_iload hx hb dX3_play_46 (lv_at hl 5 rfl) ?_
        exact z_iret hx hb hr hlk hw hS hf dX3_play_48
set_option maxHeartbeats 4000000 in
set_option maxRecDepth 100000 in
theorem wx_play_0 {p : Program} {l : Launch} {e : Env} {s : State} {m : MethodId} {args : Array Value} {below : List Frame} {meth : Method} {c : Code} {D : va_G} {L : Nat → Nat} {K : Nat → ClassId} {t0 : Nat} (hJ : gj L 81) (C0 : gC cX3_play 6 (some .int) wsX3_play RX3 p s m args meth c) (hK : va_K D vwCl (tyG K) s) (hE : eX L t0 s) {w9 : St} {rs : Int32} : ∀ (x1 : Int32) (x2 : Int32) (x3 : Int32) (w : St) (H : Heap) (locs : List Loc) (ls : Array Slot), va_P D vwCl (gl L 81 (cX L K w)) H → va_S (gA L 81) s.heap H locs → lv_has ls 6 [(0, .ref (L 0)), (1, .int x1), (2, .int x2), (3, .int x3)] → fx_play x1 x2 x3 w = some (rs, w9) → W p l e { frames := 3, cells := 0, slots := 0, locals := 69 } s m args below meth c H locs 0 0 (MQ below (qI D L 81 (cX L K) rs w9) args s 0 0 (gA L 81)) (F0 m 0 ls []) := by
  obtain ⟨hx, hb, hr, hml, hown, hts, hlk⟩ := id C0
  intro x1 x2 x3 w H locs ls hw hS hl hf
  unfold fx_play at hf
  refine lv_aload_n hx hb dX3_play_0 rfl (lv_at hl 0 rfl) ?_
  refine z_get (v := .ref (L 11)) hx hb hts hiX3_play_X3 hown hK hw (k := 0) kc_0.2 ((cX_a0 kc_0.1) _) rfl 13 (by decide) (hts (.fieldLink RX3 41 "OneSentence" "trial" "LOneSentence$Talk;") (by decide +kernel)) rfl dX3_play_1 ?_
  refine lv_aload_n hx hb dX3_play_4 rfl (lv_at hl 0 rfl) ?_
  refine z_get (v := .ref (L 13)) hx hb hts hiX3_play_X3 hown hK hw (k := 0) kc_0.2 ((cX_a0 kc_0.1) _) rfl 6 (by decide) (hts (.fieldLink RX3 23 "OneSentence" "today" "LOneSentence$Day;") (by decide +kernel)) rfl dX3_play_5 ?_
  refine z_getN (v := .ref (L 14)) hx hb hts hiX3_play_X0 hown hK hw (k := 13) kc_13.2 ((cX_a2 kc_13.1) _) rfl 0 (by decide) (hE.1 (RX3, 100, "OneSentence$Day", "talk", "LOneSentence$Talk;", "OneSentence") (by decide)) rfl dX3_play_8 ?_
  obtain ⟨w11, h11, hf⟩ := bd_e hf
  refine z_callv (va_runVN (As := [.ref (L 14)]) (rest := []) ⟨hx, hb, hml, hown, hts⟩ (kt_become l (D := D) (K := K) (t0 := t0) hJ 11 14 w kc_11 kc_14 h11) ⟨va_cnB 1 hts gX3_play_X2_become_n187 rfl rfl rfl (hE.2.1 (RX3, 187, yX2_become, "OneSentence") (by decide)) (hts (.initialized RX2) (by decide +kernel)) (by decide +kernel) ⟨Nat.le_of_ble_eq_true rfl, Nat.le_of_ble_eq_true rfl⟩, hts (.instanceMethod yX2_become) (by decide +kernel), hts (.selects RX2 yX2_become yX2_become) (by decide +kernel)⟩ (z_preV eX_ok hK hE hw hS kc_11.2 ((cX_a1 kc_11.1) _) (T := TX2) (M := 4) rfl) rfl rfl hl.1 rfl (lv_room (Nat.le_of_ble_eq_true rfl)) dX3_play_11 ⟨Nat.le_of_ble_eq_true rfl, Nat.le_of_ble_eq_true rfl⟩) hS (fun H locs hw hS => ?_)
  refine lv_iconst (v := 0) hx hb dX3_play_14 (by decide) ?_
  refine lv_istore (lv' := [(4, .int 0), (0, .ref (L 0)), (1, .int x1), (2, .int x2), (3, .int x3)]) hx hb dX3_play_15 hl (by decide) rfl (fun ls hl => ?_)
  exact wx_play_17 hJ C0 hK hE _ _ _ _ _ _ _ _ _ hw hS (lv_sub hl [1, 2, 3, 4, 0] rfl) hf
set_option maxHeartbeats 4000000 in
set_option maxRecDepth 100000 in
theorem kx_play (l : Launch) {D : va_G} {L : Nat → Nat} {K : Nat → ClassId} {t0 : Nat} (hJ : gj L 81) (x1 : Int32) (x2 : Int32) (x3 : Int32) (w : St) {w9 : St} {rs : Int32} (hf : fx_play x1 x2 x3 w = some (rs, w9)) : Met l yX3_play wsX3_play ({ frames := 3, cells := 0, slots := 0, locals := 69 }) (va_Pc [.ref (L 0), .int x1, .int x2, .int x3] (xP D L K t0 w)) (qI D L 81 (cX L K) rs w9) 0 0 (gA L 81) := by
  refine g_met (cc := cX3_play) (nL := 6) (ret := (some .int)) (by decide) rfl (Nat.le_of_ble_eq_true rfl) (fun p e s m below meth c ls C0 hP hl => ?_)
  exact wx_play_0 hJ C0 hP.2.1 hP.2.2 _ _ _ w _ _ ls hP.1 va_S.rf (lv_sub hl [0, 1, 2, 3] rfl) hf
set_option maxRecDepth 20000 in
theorem ggX3_comesTo_X3_power : GoodIn wsX3_comesTo wsX3_power := goodIn_r _ [6] (by decide +kernel) (by decide +kernel)
set_option maxRecDepth 20000 in
theorem gX3_comesTo_X3_power : GoodIn wsX3_comesTo (va_wsS RX3 141 yX3_power wsX3_power) := goodIn_app (goodIn_of _ (by decide +kernel)) ggX3_comesTo_X3_power
set_option maxRecDepth 20000 in
theorem ggX3_comesTo_X3_play : GoodIn wsX3_comesTo wsX3_play := goodIn_r _ [10, 2, 1, 11, 12, 13, 14, 15, 16, 17, 18, 19, 20, 5, 21, 22, 23, 24, 25, 26, 27, 28, 29, 30, 31, 32, 33, 34, 35, 36, 37, 38, 39, 40, 41, 42, 43, 44, 45, 46, 47, 48, 49, 50, 51, 52, 53, 54, 55, 56, 57, 58, 59, 60, 61, 62, 63, 64, 65, 66, 67, 68, 69, 70] (by decide +kernel) (by decide +kernel)
set_option maxRecDepth 20000 in
theorem gX3_comesTo_X3_play : GoodIn wsX3_comesTo (wsV RX3 145 RX3 yX3_play wsX3_play) := goodIn_app (goodIn_of _ (by decide +kernel)) ggX3_comesTo_X3_play
theorem dX3_comesTo_0 : decode cX3_comesTo 0 = .ok (.iload_n 1, 1) := by decide +kernel
theorem dX3_comesTo_1 : decode cX3_comesTo 1 = .ok (.iconst 1, 1) := by decide +kernel
theorem dX3_comesTo_2 : decode cX3_comesTo 2 = .ok (.if_icmp .lt 31, 3) := by decide +kernel
theorem dX3_comesTo_5 : decode cX3_comesTo 5 = .ok (.iload_n 1, 1) := by decide +kernel
theorem dX3_comesTo_6 : decode cX3_comesTo 6 = .ok (.iconst 5, 1) := by decide +kernel
theorem dX3_comesTo_7 : decode cX3_comesTo 7 = .ok (.if_icmp .gt 26, 3) := by decide +kernel
theorem dX3_comesTo_10 : decode cX3_comesTo 10 = .ok (.iload_n 2, 1) := by decide +kernel
theorem dX3_comesTo_11 : decode cX3_comesTo 11 = .ok (.ifCond .lt 22, 3) := by decide +kernel
theorem dX3_comesTo_14 : decode cX3_comesTo 14 = .ok (.iload_n 2, 1) := by decide +kernel
theorem dX3_comesTo_15 : decode cX3_comesTo 15 = .ok (.bipush 10, 2) := by decide +kernel
theorem dX3_comesTo_17 : decode cX3_comesTo 17 = .ok (.iload_n 1, 1) := by decide +kernel
theorem dX3_comesTo_18 : decode cX3_comesTo 18 = .ok (.invokestatic 141, 3) := by decide +kernel
theorem dX3_comesTo_21 : decode cX3_comesTo 21 = .ok (.if_icmp .ge 12, 3) := by decide +kernel
theorem dX3_comesTo_24 : decode cX3_comesTo 24 = .ok (.iload_n 3, 1) := by decide +kernel
theorem dX3_comesTo_25 : decode cX3_comesTo 25 = .ok (.ifCond .lt 8, 3) := by decide +kernel
theorem dX3_comesTo_28 : decode cX3_comesTo 28 = .ok (.iload_n 3, 1) := by decide +kernel
theorem dX3_comesTo_29 : decode cX3_comesTo 29 = .ok (.iconst 1, 1) := by decide +kernel
theorem dX3_comesTo_30 : decode cX3_comesTo 30 = .ok (.if_icmp .le 6, 3) := by decide +kernel
theorem dX3_comesTo_33 : decode cX3_comesTo 33 = .ok (.bipush (-2), 2) := by decide +kernel
theorem dX3_comesTo_35 : decode cX3_comesTo 35 = .ok (.ireturn, 1) := by decide +kernel
theorem dX3_comesTo_36 : decode cX3_comesTo 36 = .ok (.aload_n 0, 1) := by decide +kernel
theorem dX3_comesTo_37 : decode cX3_comesTo 37 = .ok (.iload_n 1, 1) := by decide +kernel
theorem dX3_comesTo_38 : decode cX3_comesTo 38 = .ok (.iload_n 2, 1) := by decide +kernel
theorem dX3_comesTo_39 : decode cX3_comesTo 39 = .ok (.aload_n 0, 1) := by decide +kernel
theorem dX3_comesTo_40 : decode cX3_comesTo 40 = .ok (.getfield 23, 3) := by decide +kernel
theorem dX3_comesTo_43 : decode cX3_comesTo 43 = .ok (.getfield 93, 3) := by decide +kernel
theorem dX3_comesTo_46 : decode cX3_comesTo 46 = .ok (.invokevirtual 145, 3) := by decide +kernel
theorem dX3_comesTo_49 : decode cX3_comesTo 49 = .ok (.istore 4, 2) := by decide +kernel
theorem dX3_comesTo_51 : decode cX3_comesTo 51 = .ok (.iload_n 3, 1) := by decide +kernel
theorem dX3_comesTo_52 : decode cX3_comesTo 52 = .ok (.iconst 1, 1) := by decide +kernel
theorem dX3_comesTo_53 : decode cX3_comesTo 53 = .ok (.if_icmp .ne 6, 3) := by decide +kernel
theorem dX3_comesTo_56 : decode cX3_comesTo 56 = .ok (.iload 4, 2) := by decide +kernel
theorem dX3_comesTo_58 : decode cX3_comesTo 58 = .ok (.ireturn, 1) := by decide +kernel
theorem dX3_comesTo_59 : decode cX3_comesTo 59 = .ok (.iload 4, 2) := by decide +kernel
theorem dX3_comesTo_61 : decode cX3_comesTo 61 = .ok (.bipush (-9), 2) := by decide +kernel
theorem dX3_comesTo_63 : decode cX3_comesTo 63 = .ok (.if_icmp .ne 13, 3) := by decide +kernel
theorem dX3_comesTo_66 : decode cX3_comesTo 66 = .ok (.aload_n 0, 1) := by decide +kernel
theorem dX3_comesTo_67 : decode cX3_comesTo 67 = .ok (.getfield 41, 3) := by decide +kernel
theorem dX3_comesTo_70 : decode cX3_comesTo 70 = .ok (.getfield 128, 3) := by decide +kernel
theorem dX3_comesTo_73 : decode cX3_comesTo 73 = .ok (.goto 5, 3) := by decide +kernel
theorem dX3_comesTo_76 : decode cX3_comesTo 76 = .ok (.bipush (-3), 2) := by decide +kernel
theorem dX3_comesTo_78 : decode cX3_comesTo 78 = .ok (.ireturn, 1) := by decide +kernel
set_option maxRecDepth 20000 in
theorem hiX3_comesTo_X0 : ∀ w ∈ u_ws RX0 TX0 4, w ∈ wsX3_comesTo := by decide +kernel
set_option maxRecDepth 20000 in
theorem hiX3_comesTo_X2 : ∀ w ∈ u_ws RX2 TX2 4, w ∈ wsX3_comesTo := by decide +kernel
set_option maxRecDepth 20000 in
theorem hiX3_comesTo_X3 : ∀ w ∈ u_ws RX3 TX3 18, w ∈ wsX3_comesTo := by decide +kernel
set_option maxHeartbeats 4000000 in
set_option maxRecDepth 100000 in
theorem wx_comesTo_0 {p : Program} {l : Launch} {e : Env} {s : State} {m : MethodId} {args : Array Value} {below : List Frame} {meth : Method} {c : Code} {D : va_G} {L : Nat → Nat} {K : Nat → ClassId} {t0 : Nat} (hJ : gj L 81) (C0 : gC cX3_comesTo 5 (some .int) wsX3_comesTo RX3 p s m args meth c) (hK : va_K D vwCl (tyG K) s) (hE : eX L t0 s) {w9 : St} {rs : Int32} : ∀ (x1 : Int32) (x2 : Int32) (x3 : Int32) (w : St) (H : Heap) (locs : List Loc) (ls : Array Slot), va_P D vwCl (gl L 81 (cX L K w)) H → va_S (gA L 81) s.heap H locs → lv_has ls 5 [(0, .ref (L 0)), (1, .int x1), (2, .int x2), (3, .int x3)] → fx_comesTo x1 x2 x3 w = some (rs, w9) → W p l e { frames := 4, cells := 0, slots := 0, locals := 94 } s m args below meth c H locs 0 0 (MQ below (qI D L 81 (cX L K) rs w9) args s 0 0 (gA L 81)) (F0 m 0 ls []) := by
  obtain ⟨hx, hb, hr, hml, hown, hts, hlk⟩ := id C0
  intro x1 x2 x3 w H locs ls hw hS hl hf
  unfold fx_comesTo at hf
  refine lv_iload_n hx hb dX3_comesTo_0 rfl (lv_at hl 1 rfl) ?_
  refine lv_iconst (v := 1) hx hb dX3_comesTo_1 (by decide) ?_
  refine lv_icmp_lt (tgt := 33) hx hb dX3_comesTo_2 (by decide) (fun c2 => ?_) (fun c2 => ?_)
  · replace hf := if_t hf c2
    refine lv_bipush (v := (-2)) hx hb dX3_comesTo_33 (by decide) ?_
    exact z_iret hx hb hr hlk hw hS hf dX3_comesTo_35
  · replace hf := if_f hf c2
    refine lv_iload_n hx hb dX3_comesTo_5 rfl (lv_at hl 1 rfl) ?_
    refine lv_iconst (v := 5) hx hb dX3_comesTo_6 (by decide) ?_
    refine lv_icmp_gt (tgt := 33) hx hb dX3_comesTo_7 (by decide) (fun c7 => ?_) (fun c7 => ?_)
    · replace hf := if_t hf c7
      refine lv_bipush (v := (-2)) hx hb dX3_comesTo_33 (by decide) ?_
      exact z_iret hx hb hr hlk hw hS hf dX3_comesTo_35
    · replace hf := if_f hf c7
      refine lv_iload_n hx hb dX3_comesTo_10 rfl (lv_at hl 2 rfl) ?_
      refine lv_if_lt (tgt := 33) hx hb dX3_comesTo_11 (by decide) (fun c11 => ?_) (fun c11 => ?_)
      · replace hf := if_t hf c11
        refine lv_bipush (v := (-2)) hx hb dX3_comesTo_33 (by decide) ?_
        exact z_iret hx hb hr hlk hw hS hf dX3_comesTo_35
      · replace hf := if_f hf c11
        refine lv_iload_n hx hb dX3_comesTo_14 rfl (lv_at hl 2 rfl) ?_
        refine lv_bipush (v := 10) hx hb dX3_comesTo_15 (by decide) ?_
        refine lv_iload_n hx hb dX3_comesTo_17 rfl (lv_at hl 1 rfl) ?_
        obtain ⟨v18, h18, hf⟩ := bd_e hf
        refine z_calls (va_runS (As := [.int 10, .int x1]) (rest := [.int x2]) ⟨hx, hb, hml, hown, hts⟩ (kx_power l 10 x1 h18) (va_cwS 2 hts gX3_comesTo_X3_power rfl rfl rfl (by decide +kernel) ⟨Nat.le_of_ble_eq_true rfl, Nat.le_of_ble_eq_true rfl⟩) z_preT rfl rfl hl.1 rfl (lv_room (Nat.le_of_ble_eq_true rfl)) dX3_comesTo_18 ⟨Nat.le_of_ble_eq_true rfl, Nat.le_of_ble_eq_true rfl⟩) ?_
        refine lv_icmp_ge (tgt := 33) hx hb dX3_comesTo_21 (by decide) (fun c21 => ?_) (fun c21 => ?_)
        · replace hf := if_t hf c21
          refine lv_bipush (v := (-2)) hx hb dX3_comesTo_33 (by decide) ?_
          exact z_iret hx hb hr hlk hw hS hf dX3_comesTo_35
        · replace hf := if_f hf c21
          refine lv_iload_n hx hb dX3_comesTo_24 rfl (lv_at hl 3 rfl) ?_
          refine lv_if_lt (tgt := 33) hx hb dX3_comesTo_25 (by decide) (fun c25 => ?_) (fun c25 => ?_)
          · replace hf := if_t hf c25
            refine lv_bipush (v := (-2)) hx hb dX3_comesTo_33 (by decide) ?_
            exact z_iret hx hb hr hlk hw hS hf dX3_comesTo_35
          · replace hf := if_f hf c25
            refine lv_iload_n hx hb dX3_comesTo_28 rfl (lv_at hl 3 rfl) ?_
            refine lv_iconst (v := 1) hx hb dX3_comesTo_29 (by decide) ?_
            refine lv_icmp_le (tgt := 36) hx hb dX3_comesTo_30 (by decide) (fun c30 => ?_) (fun c30 => ?_)
            · replace hf := if_t hf c30
              refine lv_aload_n hx hb dX3_comesTo_36 rfl (lv_at hl 0 rfl) ?_
              refine lv_iload_n hx hb dX3_comesTo_37 rfl (lv_at hl 1 rfl) ?_
              refine lv_iload_n hx hb dX3_comesTo_38 rfl (lv_at hl 2 rfl) ?_
              refine lv_aload_n hx hb dX3_comesTo_39 rfl (lv_at hl 0 rfl) ?_
              refine z_get (v := .ref (L 13)) hx hb hts hiX3_comesTo_X3 hown hK hw (k := 0) kc_0.2 ((cX_a0 kc_0.1) _) rfl 6 (by decide) (hts (.fieldLink RX3 23 "OneSentence" "today" "LOneSentence$Day;") (by decide +kernel)) rfl dX3_comesTo_40 ?_
              refine z_getN (v := .int (w.1 13 1)) hx hb hts hiX3_comesTo_X0 hown hK hw (k := 13) kc_13.2 ((cX_a2 kc_13.1) _) rfl 1 (by decide) (hE.1 (RX3, 93, "OneSentence$Day", "at", "I", "OneSentence") (by decide)) rfl dX3_comesTo_43 ?_
              obtain ⟨q46, h46, hf⟩ := bd_e hf
              refine z_calli (va_runV (As := [.int x1, .int x2, .int (w.1 13 1)]) (rest := []) ⟨hx, hb, hml, hown, hts⟩ (kx_play l (D := D) (K := K) (t0 := t0) hJ x1 x2 (w.1 13 1) w  h46) (cwV 3 hts gX3_comesTo_X3_play rfl rfl rfl (by decide +kernel) ⟨Nat.le_of_ble_eq_true rfl, Nat.le_of_ble_eq_true rfl⟩) (z_preV eX_ok hK hE hw hS kc_0.2 ((cX_a0 kc_0.1) _) (T := TX3) (M := 18) rfl) rfl rfl hl.1 rfl (lv_room (Nat.le_of_ble_eq_true rfl)) dX3_comesTo_46 ⟨Nat.le_of_ble_eq_true rfl, Nat.le_of_ble_eq_true rfl⟩) hS (fun H locs hw hS => ?_)
              refine lv_topi (fun v49 e49 => ?_)
              replace hf := lb_e hf e49
              refine lv_istore (lv' := [(4, .int v49), (0, .ref (L 0)), (1, .int x1), (2, .int x2), (3, .int x3)]) hx hb dX3_comesTo_49 hl (by decide) rfl (fun ls hl => ?_)
              refine lv_iload_n hx hb dX3_comesTo_51 rfl (lv_at hl 4 rfl) ?_
              refine lv_iconst (v := 1) hx hb dX3_comesTo_52 (by decide) ?_
              refine lv_icmp_ne (tgt := 59) hx hb dX3_comesTo_53 (by decide) (fun c53 => ?_) (fun c53 => ?_)
              · replace hf := if_f hf c53
                refine lv_iload hx hb dX3_comesTo_59 (lv_at hl 0 rfl) ?_
                refine lv_bipush (v := (-9)) hx hb dX3_comesTo_61 (by decide) ?_
                refine lv_icmp_ne (tgt := 76) hx hb dX3_comesTo_63 (by decide) (fun c63 => ?_) (fun c63 => ?_)
                · replace hf := if_f hf c63
                  refine lv_bipush (v := (-3)) hx hb dX3_comesTo_76 (by decide) ?_
                  exact z_iret hx hb hr hlk hw hS hf dX3_comesTo_78
                · replace hf := if_t hf c63
                  refine lv_aload_n hx hb dX3_comesTo_66 rfl (lv_at hl 1 rfl) ?_
                  refine z_get (v := .ref (L 11)) hx hb hts hiX3_comesTo_X3 hown hK hw (k := 0) kc_0.2 ((cX_a0 kc_0.1) _) rfl 13 (by decide) (hts (.fieldLink RX3 41 "OneSentence" "trial" "LOneSentence$Talk;") (by decide +kernel)) rfl dX3_comesTo_67 ?_
                  refine z_getN (v := .int ((q46.2).1 11 0)) hx hb hts hiX3_comesTo_X2 hown hK hw (k := 11) kc_11.2 ((cX_a1 kc_11.1) _) rfl 0 (by decide) (hE.1 (RX3, 128, "OneSentence$Talk", "sense", "I", "OneSentence") (by decide)) rfl dX3_comesTo_70 ?_
                  refine lv_goto (tgt := 78) hx hb dX3_comesTo_73 (by decide) ?_
                  exact z_iret hx hb hr hlk hw hS hf dX3_comesTo_78
              · replace hf := if_t hf c53
                refine lv_iload hx hb dX3_comesTo_56 (lv_at hl 0 rfl) ?_
                exact z_iret hx hb hr hlk hw hS hf dX3_comesTo_58
            · replace hf := if_f hf c30
              refine lv_bipush (v := (-2)) hx hb dX3_comesTo_33 (by decide) ?_
              exact z_iret hx hb hr hlk hw hS hf dX3_comesTo_35
set_option maxHeartbeats 4000000 in
set_option maxRecDepth 100000 in
theorem kx_comesTo (l : Launch) {D : va_G} {L : Nat → Nat} {K : Nat → ClassId} {t0 : Nat} (hJ : gj L 81) (x1 : Int32) (x2 : Int32) (x3 : Int32) (w : St) {w9 : St} {rs : Int32} (hf : fx_comesTo x1 x2 x3 w = some (rs, w9)) : Met l yX3_comesTo wsX3_comesTo ({ frames := 4, cells := 0, slots := 0, locals := 94 }) (va_Pc [.ref (L 0), .int x1, .int x2, .int x3] (xP D L K t0 w)) (qI D L 81 (cX L K) rs w9) 0 0 (gA L 81) := by
  refine g_met (cc := cX3_comesTo) (nL := 5) (ret := (some .int)) (by decide) rfl (Nat.le_of_ble_eq_true rfl) (fun p e s m below meth c ls C0 hP hl => ?_)
  exact wx_comesTo_0 hJ C0 hP.2.1 hP.2.2 _ _ _ w _ _ ls hP.1 va_S.rf (lv_sub hl [0, 1, 2, 3] rfl) hf
theorem dX3_isSense_0 : decode cX3_isSense 0 = .ok (.iload_n 0, 1) := by decide +kernel
theorem dX3_isSense_1 : decode cX3_isSense 1 = .ok (.ifCond .lt 13, 3) := by decide +kernel
theorem dX3_isSense_4 : decode cX3_isSense 4 = .ok (.iload_n 0, 1) := by decide +kernel
theorem dX3_isSense_5 : decode cX3_isSense 5 = .ok (.bipush 10, 2) := by decide +kernel
theorem dX3_isSense_7 : decode cX3_isSense 7 = .ok (.if_icmp .ge 7, 3) := by decide +kernel
theorem dX3_isSense_10 : decode cX3_isSense 10 = .ok (.iconst 1, 1) := by decide +kernel
theorem dX3_isSense_11 : decode cX3_isSense 11 = .ok (.goto 4, 3) := by decide +kernel
theorem dX3_isSense_14 : decode cX3_isSense 14 = .ok (.iconst 0, 1) := by decide +kernel
theorem dX3_isSense_15 : decode cX3_isSense 15 = .ok (.ireturn, 1) := by decide +kernel
set_option maxHeartbeats 4000000 in
set_option maxRecDepth 100000 in
theorem wx_isSense_0 {p : Program} {l : Launch} {e : Env} {s : State} {m : MethodId} {args : Array Value} {below : List Frame} {meth : Method} {c : Code} (C0 : gC cX3_isSense 1 (some .boolean) wsX3_isSense RX3 p s m args meth c) {rs : Int32} : ∀ (x0 : Int32) (ls : Array Slot), lv_has ls 1 [(0, .int x0)] → fx_isSense x0 = some rs → W p l e { frames := 0, cells := 0, slots := 0, locals := 0 } s m args below meth c s.heap [] 0 0 (MQ below (qS rs) args s 0 0 (fun _ => False)) (F0 m 0 ls []) := by
  obtain ⟨hx, hb, hr, hml, hown, hts, hlk⟩ := id C0
  intro x0 ls hl hf
  unfold fx_isSense at hf
  refine lv_iload_n hx hb dX3_isSense_0 rfl (lv_at hl 0 rfl) ?_
  refine lv_if_lt (tgt := 14) hx hb dX3_isSense_1 (by decide) (fun c1 => ?_) (fun c1 => ?_)
  · replace hf := if_t hf c1
    refine lv_iconst (v := 0) hx hb dX3_isSense_14 (by decide) ?_
    exact z_szret hx hb hr hlk rfl hf dX3_isSense_15
  · replace hf := if_f hf c1
    refine lv_iload_n hx hb dX3_isSense_4 rfl (lv_at hl 0 rfl) ?_
    refine lv_bipush (v := 10) hx hb dX3_isSense_5 (by decide) ?_
    refine lv_icmp_ge (tgt := 14) hx hb dX3_isSense_7 (by decide) (fun c7 => ?_) (fun c7 => ?_)
    · replace hf := if_t hf c7
      refine lv_iconst (v := 0) hx hb dX3_isSense_14 (by decide) ?_
      exact z_szret hx hb hr hlk rfl hf dX3_isSense_15
    · replace hf := if_f hf c7
      refine lv_iconst (v := 1) hx hb dX3_isSense_10 (by decide) ?_
      refine lv_goto (tgt := 15) hx hb dX3_isSense_11 (by decide) ?_
      exact z_szret hx hb hr hlk rfl hf dX3_isSense_15
set_option maxHeartbeats 4000000 in
set_option maxRecDepth 100000 in
theorem kx_isSense (l : Launch) (x0 : Int32) {rs : Int32} (hf : fx_isSense x0 = some rs) : Met l yX3_isSense wsX3_isSense ({ frames := 0, cells := 0, slots := 0, locals := 0 }) (va_Pc [.int x0] (fun _ => True)) (qS rs) 0 0 (fun _ => False) := by
  refine g_met (cc := cX3_isSense) (nL := 1) (ret := (some .boolean)) (by decide) rfl (Nat.le_of_ble_eq_true rfl) (fun p e s m below meth c ls C0 _ hl => ?_)
  exact wx_isSense_0 C0 _ ls (lv_sub hl [0] rfl) hf
