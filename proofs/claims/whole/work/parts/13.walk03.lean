set_option maxRecDepth 20000 in
theorem ggX3_isTold_X3_play : GoodIn wsX3_isTold wsX3_play := goodIn_r _ [6, 1, 7, 8, 9, 10, 11, 12, 13, 14, 15, 16, 17, 5, 18, 19, 20, 21, 22, 23, 24, 25, 26, 27, 28, 29, 30, 31, 32, 33, 34, 35, 36, 37, 38, 39, 40, 41, 42, 43, 44, 45, 46, 47, 48, 49, 50, 51, 52, 53, 54, 55, 56, 57, 58, 59, 64, 65, 66, 67, 60, 61, 62, 63] (by decide +kernel) (by decide +kernel)
set_option maxRecDepth 20000 in
theorem gX3_isTold_X3_play : GoodIn wsX3_isTold (wsV RX3 145 RX3 yX3_play wsX3_play) := goodIn_app (goodIn_of _ (by decide +kernel)) ggX3_isTold_X3_play
theorem dX3_isTold_0 : decode cX3_isTold 0 = .ok (.aload_n 0, 1) := by decide +kernel
theorem dX3_isTold_1 : decode cX3_isTold 1 = .ok (.iload_n 1, 1) := by decide +kernel
theorem dX3_isTold_2 : decode cX3_isTold 2 = .ok (.iload_n 2, 1) := by decide +kernel
theorem dX3_isTold_3 : decode cX3_isTold 3 = .ok (.iload_n 3, 1) := by decide +kernel
theorem dX3_isTold_4 : decode cX3_isTold 4 = .ok (.invokevirtual 145, 3) := by decide +kernel
theorem dX3_isTold_7 : decode cX3_isTold 7 = .ok (.bipush (-9), 2) := by decide +kernel
theorem dX3_isTold_9 : decode cX3_isTold 9 = .ok (.if_icmp .ne 19, 3) := by decide +kernel
theorem dX3_isTold_12 : decode cX3_isTold 12 = .ok (.aload_n 0, 1) := by decide +kernel
theorem dX3_isTold_13 : decode cX3_isTold 13 = .ok (.getfield 41, 3) := by decide +kernel
theorem dX3_isTold_16 : decode cX3_isTold 16 = .ok (.getfield 128, 3) := by decide +kernel
theorem dX3_isTold_19 : decode cX3_isTold 19 = .ok (.iload 4, 2) := by decide +kernel
theorem dX3_isTold_21 : decode cX3_isTold 21 = .ok (.if_icmp .ne 7, 3) := by decide +kernel
theorem dX3_isTold_24 : decode cX3_isTold 24 = .ok (.iconst 1, 1) := by decide +kernel
theorem dX3_isTold_25 : decode cX3_isTold 25 = .ok (.goto 4, 3) := by decide +kernel
theorem dX3_isTold_28 : decode cX3_isTold 28 = .ok (.iconst 0, 1) := by decide +kernel
theorem dX3_isTold_29 : decode cX3_isTold 29 = .ok (.ireturn, 1) := by decide +kernel
set_option maxRecDepth 20000 in
theorem hiX3_isTold_X2 : ∀ w ∈ u_ws RX2 TX2 4, w ∈ wsX3_isTold := by decide +kernel
set_option maxRecDepth 20000 in
theorem hiX3_isTold_X3 : ∀ w ∈ u_ws RX3 TX3 18, w ∈ wsX3_isTold := by decide +kernel
set_option maxHeartbeats 4000000 in
set_option maxRecDepth 100000 in
theorem wx_isTold_0 {p : Program} {l : Launch} {e : Env} {s : State} {m : MethodId} {args : Array Value} {below : List Frame} {meth : Method} {c : Code} {D : va_G} {L : Nat → Nat} {K : Nat → ClassId} {t0 : Nat} (hJ : gj L 81) (C0 : gC cX3_isTold 5 (some .boolean) wsX3_isTold RX3 p s m args meth c) (hK : va_K D vwCl (tyG K) s) (hE : eX L t0 s) {w9 : St} {rs : Int32} : ∀ (x1 : Int32) (x2 : Int32) (x3 : Int32) (x4 : Int32) (w : St) (H : Heap) (locs : List Loc) (ls : Array Slot), va_P D vwCl (gl L 81 (cX L K w)) H → va_S (gA L 81) s.heap H locs → lv_has ls 5 [(0, .ref (L 0)), (1, .int x1), (2, .int x2), (3, .int x3), (4, .int x4)] → fx_isTold x1 x2 x3 x4 w = some (rs, w9) → W p l e { frames := 4, cells := 0, slots := 0, locals := 94 } s m args below meth c H locs 0 0 (MQ below (qI D L 81 (cX L K) rs w9) args s 0 0 (gA L 81)) (F0 m 0 ls []) := by
  obtain ⟨hx, hb, hr, hml, hown, hts, hlk⟩ := id C0
  intro x1 x2 x3 x4 w H locs ls hw hS hl hf
  unfold fx_isTold at hf
  refine lv_aload_n hx hb dX3_isTold_0 rfl (lv_at hl 0 rfl) ?_
  refine lv_iload_n hx hb dX3_isTold_1 rfl (lv_at hl 1 rfl) ?_
  refine lv_iload_n hx hb dX3_isTold_2 rfl (lv_at hl 2 rfl) ?_
  refine lv_iload_n hx hb dX3_isTold_3 rfl (lv_at hl 3 rfl) ?_
  obtain ⟨q4, h4, hf⟩ := bd_e hf
  refine z_calli (va_runV (As := [.int x1, .int x2, .int x3]) (rest := []) ⟨hx, hb, hml, hown, hts⟩ (kx_play l (D := D) (K := K) (t0 := t0) hJ x1 x2 x3 w  h4) (cwV 3 hts gX3_isTold_X3_play rfl rfl rfl (by decide +kernel) ⟨Nat.le_of_ble_eq_true rfl, Nat.le_of_ble_eq_true rfl⟩) (z_preV eX_ok hK hE hw hS kc_0.2 ((cX_a0 kc_0.1) _) (T := TX3) (M := 18) rfl) rfl rfl hl.1 rfl (lv_room (Nat.le_of_ble_eq_true rfl)) dX3_isTold_4 ⟨Nat.le_of_ble_eq_true rfl, Nat.le_of_ble_eq_true rfl⟩) hS (fun H locs hw hS => ?_)
  refine lv_bipush (v := (-9)) hx hb dX3_isTold_7 (by decide) ?_
  refine lv_icmp_ne (tgt := 28) hx hb dX3_isTold_9 (by decide) (fun c9 => ?_) (fun c9 => ?_)
  · replace hf := if_f hf c9
    refine lv_iconst (v := 0) hx hb dX3_isTold_28 (by decide) ?_
    exact z_zret hx hb hr hlk rfl hw hS hf dX3_isTold_29
  · replace hf := if_t hf c9
    refine lv_aload_n hx hb dX3_isTold_12 rfl (lv_at hl 0 rfl) ?_
    refine z_get (v := .ref (L 11)) hx hb hts hiX3_isTold_X3 hown hK hw (k := 0) kc_0.2 ((cX_a0 kc_0.1) _) rfl 13 (by decide) (hts (.fieldLink RX3 41 "OneSentence" "trial" "LOneSentence$Talk;") (by decide +kernel)) rfl dX3_isTold_13 ?_
    refine z_getN (v := .int ((q4.2).1 11 0)) hx hb hts hiX3_isTold_X2 hown hK hw (k := 11) kc_11.2 ((cX_a1 kc_11.1) _) rfl 0 (by decide) (hE.1 (RX3, 128, "OneSentence$Talk", "sense", "I", "OneSentence") (by decide)) rfl dX3_isTold_16 ?_
    refine lv_iload hx hb dX3_isTold_19 (lv_at hl 4 rfl) ?_
    refine lv_icmp_ne (tgt := 28) hx hb dX3_isTold_21 (by decide) (fun c21 => ?_) (fun c21 => ?_)
    · replace hf := if_f hf c21
      refine lv_iconst (v := 0) hx hb dX3_isTold_28 (by decide) ?_
      exact z_zret hx hb hr hlk rfl hw hS hf dX3_isTold_29
    · replace hf := if_t hf c21
      refine lv_iconst (v := 1) hx hb dX3_isTold_24 (by decide) ?_
      refine lv_goto (tgt := 29) hx hb dX3_isTold_25 (by decide) ?_
      exact z_zret hx hb hr hlk rfl hw hS hf dX3_isTold_29
set_option maxHeartbeats 4000000 in
set_option maxRecDepth 100000 in
theorem kx_isTold (l : Launch) {D : va_G} {L : Nat → Nat} {K : Nat → ClassId} {t0 : Nat} (hJ : gj L 81) (x1 : Int32) (x2 : Int32) (x3 : Int32) (x4 : Int32) (w : St) {w9 : St} {rs : Int32} (hf : fx_isTold x1 x2 x3 x4 w = some (rs, w9)) : Met l yX3_isTold wsX3_isTold ({ frames := 4, cells := 0, slots := 0, locals := 94 }) (va_Pc [.ref (L 0), .int x1, .int x2, .int x3, .int x4] (xP D L K t0 w)) (qI D L 81 (cX L K) rs w9) 0 0 (gA L 81) := by
  refine g_met (cc := cX3_isTold) (nL := 5) (ret := (some .boolean)) (by decide) rfl (Nat.le_of_ble_eq_true rfl) (fun p e s m below meth c ls C0 hP hl => ?_)
  exact wx_isTold_0 hJ C0 hP.2.1 hP.2.2 _ _ _ _ w _ _ ls hP.1 va_S.rf (lv_sub hl [0, 1, 2, 3, 4] rfl) hf
set_option maxRecDepth 20000 in
theorem ggX3_leastRow_X1_many : GoodIn wsX3_leastRow wsX1_many := goodIn_r _ [6, 7, 8, 9, 10, 80, 81] (by decide +kernel) (by decide +kernel)
set_option maxRecDepth 20000 in
theorem gX3_leastRow_X1_many_n174 : GoodIn wsX3_leastRow (wsX1_many) := ggX3_leastRow_X1_many
set_option maxRecDepth 20000 in
theorem ggX3_leastRow_X1_told : GoodIn wsX3_leastRow wsX1_told := goodIn_r _ [13, 7, 14, 80, 81] (by decide +kernel) (by decide +kernel)
set_option maxRecDepth 20000 in
theorem gX3_leastRow_X1_told_n177 : GoodIn wsX3_leastRow (wsX1_told) := ggX3_leastRow_X1_told
set_option maxRecDepth 20000 in
theorem ggX3_leastRow_X3_isTold : GoodIn wsX3_leastRow wsX3_isTold := goodIn_r _ [18, 19, 20, 21, 22, 9, 23, 2, 24, 25, 26, 27, 28, 29, 30, 31, 32, 33, 34, 35, 36, 37, 38, 39, 40, 41, 42, 43, 44, 45, 46, 47, 48, 49, 50, 51, 52, 53, 54, 55, 56, 57, 58, 59, 60, 61, 62, 63, 64, 65, 66, 67, 68, 69, 70, 71, 72, 73, 74, 75, 82, 83, 84, 85, 76, 77, 78, 79] (by decide +kernel) (by decide +kernel)
set_option maxRecDepth 20000 in
theorem gX3_leastRow_X3_isTold : GoodIn wsX3_leastRow (wsV RX3 180 RX3 yX3_isTold wsX3_isTold) := goodIn_app (goodIn_of _ (by decide +kernel)) ggX3_leastRow_X3_isTold
theorem dX3_leastRow_0 : decode cX3_leastRow 0 = .ok (.aload_n 0, 1) := by decide +kernel
theorem dX3_leastRow_1 : decode cX3_leastRow 1 = .ok (.getfield 48, 3) := by decide +kernel
theorem dX3_leastRow_4 : decode cX3_leastRow 4 = .ok (.iload_n 1, 1) := by decide +kernel
theorem dX3_leastRow_5 : decode cX3_leastRow 5 = .ok (.invokevirtual 174, 3) := by decide +kernel
theorem dX3_leastRow_8 : decode cX3_leastRow 8 = .ok (.istore_n 3, 1) := by decide +kernel
theorem dX3_leastRow_9 : decode cX3_leastRow 9 = .ok (.iconst 0, 1) := by decide +kernel
theorem dX3_leastRow_10 : decode cX3_leastRow 10 = .ok (.istore 4, 2) := by decide +kernel
theorem dX3_leastRow_12 : decode cX3_leastRow 12 = .ok (.iload 4, 2) := by decide +kernel
theorem dX3_leastRow_14 : decode cX3_leastRow 14 = .ok (.iload_n 3, 1) := by decide +kernel
theorem dX3_leastRow_15 : decode cX3_leastRow 15 = .ok (.if_icmp .ge 42, 3) := by decide +kernel
theorem dX3_leastRow_18 : decode cX3_leastRow 18 = .ok (.aload_n 0, 1) := by decide +kernel
theorem dX3_leastRow_19 : decode cX3_leastRow 19 = .ok (.getfield 48, 3) := by decide +kernel
theorem dX3_leastRow_22 : decode cX3_leastRow 22 = .ok (.iload 4, 2) := by decide +kernel
theorem dX3_leastRow_24 : decode cX3_leastRow 24 = .ok (.iload_n 1, 1) := by decide +kernel
theorem dX3_leastRow_25 : decode cX3_leastRow 25 = .ok (.invokevirtual 177, 3) := by decide +kernel
theorem dX3_leastRow_28 : decode cX3_leastRow 28 = .ok (.istore 5, 2) := by decide +kernel
theorem dX3_leastRow_30 : decode cX3_leastRow 30 = .ok (.aload_n 0, 1) := by decide +kernel
theorem dX3_leastRow_31 : decode cX3_leastRow 31 = .ok (.iload_n 1, 1) := by decide +kernel
theorem dX3_leastRow_32 : decode cX3_leastRow 32 = .ok (.iload 5, 2) := by decide +kernel
theorem dX3_leastRow_34 : decode cX3_leastRow 34 = .ok (.aload_n 0, 1) := by decide +kernel
theorem dX3_leastRow_35 : decode cX3_leastRow 35 = .ok (.getfield 23, 3) := by decide +kernel
theorem dX3_leastRow_38 : decode cX3_leastRow 38 = .ok (.getfield 93, 3) := by decide +kernel
theorem dX3_leastRow_41 : decode cX3_leastRow 41 = .ok (.iload_n 2, 1) := by decide +kernel
theorem dX3_leastRow_42 : decode cX3_leastRow 42 = .ok (.invokevirtual 180, 3) := by decide +kernel
theorem dX3_leastRow_45 : decode cX3_leastRow 45 = .ok (.ifCond .eq 6, 3) := by decide +kernel
theorem dX3_leastRow_48 : decode cX3_leastRow 48 = .ok (.iload 5, 2) := by decide +kernel
theorem dX3_leastRow_50 : decode cX3_leastRow 50 = .ok (.ireturn, 1) := by decide +kernel
theorem dX3_leastRow_51 : decode cX3_leastRow 51 = .ok (.iinc 4 1, 3) := by decide +kernel
theorem dX3_leastRow_54 : decode cX3_leastRow 54 = .ok (.goto (-42), 3) := by decide +kernel
theorem dX3_leastRow_57 : decode cX3_leastRow 57 = .ok (.bipush (-9), 2) := by decide +kernel
theorem dX3_leastRow_59 : decode cX3_leastRow 59 = .ok (.ireturn, 1) := by decide +kernel
set_option maxRecDepth 20000 in
theorem hiX3_leastRow_X0 : ∀ w ∈ u_ws RX0 TX0 4, w ∈ wsX3_leastRow := by decide +kernel
set_option maxRecDepth 20000 in
theorem hiX3_leastRow_X3 : ∀ w ∈ u_ws RX3 TX3 18, w ∈ wsX3_leastRow := by decide +kernel
set_option maxHeartbeats 4000000 in
set_option maxRecDepth 100000 in
theorem wx_leastRow_12 {p : Program} {l : Launch} {e : Env} {s : State} {m : MethodId} {args : Array Value} {below : List Frame} {meth : Method} {c : Code} {D : va_G} {L : Nat → Nat} {K : Nat → ClassId} {t0 : Nat} (hJ : gj L 81) (C0 : gC cX3_leastRow 6 (some .int) wsX3_leastRow RX3 p s m args meth c) (hK : va_K D vwCl (tyG K) s) (hE : eX L t0 s) {w9 : St} {rs : Int32} : ∀ (fu : Nat) (x1 : Int32) (x2 : Int32) (x3 : Int32) (x4 : Int32) (w : St) (H : Heap) (locs : List Loc) (ls : Array Slot), va_P D vwCl (gl L 81 (cX L K w)) H → va_S (gA L 81) s.heap H locs → lv_has ls 6 [(0, .ref (L 0)), (1, .int x1), (2, .int x2), (3, .int x3), (4, .int x4)] → fx_leastRow_12 fu x1 x2 x3 x4 w = some (rs, w9) → W p l e { frames := 5, cells := 0, slots := 0, locals := 118 } s m args below meth c H locs 0 0 (MQ below (qI D L 81 (cX L K) rs w9) args s 0 0 (gA L 81)) (F0 m 12 ls []) := by
  obtain ⟨hx, hb, hr, hml, hown, hts, hlk⟩ := id C0
  intro fu
  induction fu with
  | zero =>
    intro x1 x2 x3 x4 w H locs ls hw hS hl hf
    rw [fx_leastRow_12] at hf
    exact no_n hf
  | succ fu ih =>
    intro x1 x2 x3 x4 w H locs ls hw hS hl hf
    rw [fx_leastRow_12] at hf
    refine lv_iload hx hb dX3_leastRow_12 (lv_at hl 4 rfl) ?_
    refine lv_iload_n hx hb dX3_leastRow_14 rfl (lv_at hl 3 rfl) ?_
    refine lv_icmp_ge (tgt := 57) hx hb dX3_leastRow_15 (by decide) (fun c15 => ?_) (fun c15 => ?_)
    · replace hf := if_t hf c15
      refine lv_bipush (v := (-9)) hx hb dX3_leastRow_57 (by decide) ?_
      exact z_iret hx hb hr hlk hw hS hf dX3_leastRow_59
    · replace hf := if_f hf c15
      refine lv_aload_n hx hb dX3_leastRow_18 rfl (lv_at hl 0 rfl) ?_
      refine z_get (v := .ref (L 9)) hx hb hts hiX3_leastRow_X3 hown hK hw (k := 0) kc_0.2 ((cX_a0 kc_0.1) _) rfl 14 (by decide) (hts (.fieldLink RX3 48 "OneSentence" "rows" "LOneSentence$Rows;") (by decide +kernel)) rfl dX3_leastRow_19 ?_
      refine lv_iload hx hb dX3_leastRow_22 (lv_at hl 4 rfl) ?_
      refine lv_iload_n hx hb dX3_leastRow_24 rfl (lv_at hl 1 rfl) ?_
      obtain ⟨q25, h25, hf⟩ := bd_e hf
      refine z_calli (va_runVN (As := [.int x4, .int x1]) (rest := []) ⟨hx, hb, hml, hown, hts⟩ (kr_told l (D := D) (K := K) (t0 := t0) hJ x4 x1 w  h25) ⟨va_cnB 2 hts gX3_leastRow_X1_told_n177 rfl rfl rfl (hE.2.1 (RX3, 177, yX1_told, "OneSentence") (by decide)) (hts (.initialized RX1) (by decide +kernel)) (by decide +kernel) ⟨Nat.le_of_ble_eq_true rfl, Nat.le_of_ble_eq_true rfl⟩, hts (.instanceMethod yX1_told) (by decide +kernel), hts (.selects RX1 yX1_told yX1_told) (by decide +kernel)⟩ (z_preV eX_ok hK hE hw hS kc_9.2 ((cX_a3 kc_9.1) _) (T := TX1) (M := 2) rfl) rfl rfl hl.1 rfl (lv_room (Nat.le_of_ble_eq_true rfl)) dX3_leastRow_25 ⟨Nat.le_of_ble_eq_true rfl, Nat.le_of_ble_eq_true rfl⟩) hS (fun H locs hw hS => ?_)
      refine lv_topi (fun v28 e28 => ?_)
      replace hf := lb_e hf e28
      refine lv_istore (lv' := [(5, .int v28), (0, .ref (L 0)), (1, .int x1), (2, .int x2), (3, .int x3), (4, .int x4)]) hx hb dX3_leastRow_28 hl (by decide) rfl (fun ls hl => ?_)
      refine lv_aload_n hx hb dX3_leastRow_30 rfl (lv_at hl 1 rfl) ?_
      refine lv_iload_n hx hb dX3_leastRow_31 rfl (lv_at hl 2 rfl) ?_
      refine lv_iload hx hb dX3_leastRow_32 (lv_at hl 0 rfl) ?_
      refine lv_aload_n hx hb dX3_leastRow_34 rfl (lv_at hl 1 rfl) ?_
      refine z_get (v := .ref (L 13)) hx hb hts hiX3_leastRow_X3 hown hK hw (k := 0) kc_0.2 ((cX_a0 kc_0.1) _) rfl 6 (by decide) (hts (.fieldLink RX3 23 "OneSentence" "today" "LOneSentence$Day;") (by decide +kernel)) rfl dX3_leastRow_35 ?_
      refine z_getN (v := .int ((q25.2).1 13 1)) hx hb hts hiX3_leastRow_X0 hown hK hw (k := 13) kc_13.2 ((cX_a2 kc_13.1) _) rfl 1 (by decide) (hE.1 (RX3, 93, "OneSentence$Day", "at", "I", "OneSentence") (by decide)) rfl dX3_leastRow_38 ?_
      refine lv_iload_n hx hb dX3_leastRow_41 rfl (lv_at hl 3 rfl) ?_
      obtain ⟨q42, h42, hf⟩ := bd_e hf
      refine z_calli (va_runV (As := [.int x1, .int v28, .int ((q25.2).1 13 1), .int x2]) (rest := []) ⟨hx, hb, hml, hown, hts⟩ (kx_isTold l (D := D) (K := K) (t0 := t0) hJ x1 v28 ((q25.2).1 13 1) x2 (q25.2)  h42) (cwV 4 hts gX3_leastRow_X3_isTold rfl rfl rfl (by decide +kernel) ⟨Nat.le_of_ble_eq_true rfl, Nat.le_of_ble_eq_true rfl⟩) (z_preV eX_ok hK hE hw hS kc_0.2 ((cX_a0 kc_0.1) _) (T := TX3) (M := 18) rfl) rfl rfl hl.1 rfl (lv_room (Nat.le_of_ble_eq_true rfl)) dX3_leastRow_42 ⟨Nat.le_of_ble_eq_true rfl, Nat.le_of_ble_eq_true rfl⟩) hS (fun H locs hw hS => ?_)
      refine lv_if_eq (tgt := 51) hx hb dX3_leastRow_45 (by decide) (fun c45 => ?_) (fun c45 => ?_)
      · replace hf := if_t hf c45
        refine lv_iinc (v := (x4 + 1)) (lv' := [(4, .int (x4 + 1)), (5, .int v28), (0, .ref (L 0)), (1, .int x1), (2, .int x2), (3, .int x3)]) hx hb dX3_leastRow_51 hl (k := 5) rfl rfl (by decide) rfl (fun ls hl => ?_)
        refine lv_goto (tgt := 12) hx hb dX3_leastRow_54 (by decide) ?_
        exact ih _ _ _ _ _ _ _ _ hw hS (lv_sub hl [2, 3, 4, 5, 0] rfl) hf
      · replace hf := if_f hf c45
        refine lv_iload hx hb dX3_leastRow_48 (lv_at hl 0 rfl) ?_
        exact z_iret hx hb hr hlk hw hS hf dX3_leastRow_50
set_option maxHeartbeats 4000000 in
set_option maxRecDepth 100000 in
theorem wx_leastRow_0 {p : Program} {l : Launch} {e : Env} {s : State} {m : MethodId} {args : Array Value} {below : List Frame} {meth : Method} {c : Code} {D : va_G} {L : Nat → Nat} {K : Nat → ClassId} {t0 : Nat} (hJ : gj L 81) (C0 : gC cX3_leastRow 6 (some .int) wsX3_leastRow RX3 p s m args meth c) (hK : va_K D vwCl (tyG K) s) (hE : eX L t0 s) {w9 : St} {rs : Int32} : ∀ (x1 : Int32) (x2 : Int32) (w : St) (H : Heap) (locs : List Loc) (ls : Array Slot), va_P D vwCl (gl L 81 (cX L K w)) H → va_S (gA L 81) s.heap H locs → lv_has ls 6 [(0, .ref (L 0)), (1, .int x1), (2, .int x2)] → fx_leastRow x1 x2 w = some (rs, w9) → W p l e { frames := 5, cells := 0, slots := 0, locals := 118 } s m args below meth c H locs 0 0 (MQ below (qI D L 81 (cX L K) rs w9) args s 0 0 (gA L 81)) (F0 m 0 ls []) := by
  obtain ⟨hx, hb, hr, hml, hown, hts, hlk⟩ := id C0
  intro x1 x2 w H locs ls hw hS hl hf
  unfold fx_leastRow at hf
  refine lv_aload_n hx hb dX3_leastRow_0 rfl (lv_at hl 0 rfl) ?_
  refine z_get (v := .ref (L 9)) hx hb hts hiX3_leastRow_X3 hown hK hw (k := 0) kc_0.2 ((cX_a0 kc_0.1) _) rfl 14 (by decide) (hts (.fieldLink RX3 48 "OneSentence" "rows" "LOneSentence$Rows;") (by decide +kernel)) rfl dX3_leastRow_1 ?_
  refine lv_iload_n hx hb dX3_leastRow_4 rfl (lv_at hl 1 rfl) ?_
  obtain ⟨q5, h5, hf⟩ := bd_e hf
  refine z_calli (va_runVN (As := [.int x1]) (rest := []) ⟨hx, hb, hml, hown, hts⟩ (kr_many l (D := D) (K := K) (t0 := t0) hJ x1 w  h5) ⟨va_cnB 1 hts gX3_leastRow_X1_many_n174 rfl rfl rfl (hE.2.1 (RX3, 174, yX1_many, "OneSentence") (by decide)) (hts (.initialized RX1) (by decide +kernel)) (by decide +kernel) ⟨Nat.le_of_ble_eq_true rfl, Nat.le_of_ble_eq_true rfl⟩, hts (.instanceMethod yX1_many) (by decide +kernel), hts (.selects RX1 yX1_many yX1_many) (by decide +kernel)⟩ (z_preV eX_ok hK hE hw hS kc_9.2 ((cX_a3 kc_9.1) _) (T := TX1) (M := 2) rfl) rfl rfl hl.1 rfl (lv_room (Nat.le_of_ble_eq_true rfl)) dX3_leastRow_5 ⟨Nat.le_of_ble_eq_true rfl, Nat.le_of_ble_eq_true rfl⟩) hS (fun H locs hw hS => ?_)
  refine lv_topi (fun v8 e8 => ?_)
  replace hf := lb_e hf e8
  refine lv_istore_n (lv' := [(3, .int v8), (0, .ref (L 0)), (1, .int x1), (2, .int x2)]) hx hb dX3_leastRow_8 rfl hl (by decide) rfl (fun ls hl => ?_)
  refine lv_iconst (v := 0) hx hb dX3_leastRow_9 (by decide) ?_
  refine lv_istore (lv' := [(4, .int 0), (3, .int v8), (0, .ref (L 0)), (1, .int x1), (2, .int x2)]) hx hb dX3_leastRow_10 hl (by decide) rfl (fun ls hl => ?_)
  exact wx_leastRow_12 hJ C0 hK hE _ _ _ _ _ _ _ _ _ hw hS (lv_sub hl [2, 3, 4, 1, 0] rfl) hf
set_option maxHeartbeats 4000000 in
set_option maxRecDepth 100000 in
theorem kx_leastRow (l : Launch) {D : va_G} {L : Nat → Nat} {K : Nat → ClassId} {t0 : Nat} (hJ : gj L 81) (x1 : Int32) (x2 : Int32) (w : St) {w9 : St} {rs : Int32} (hf : fx_leastRow x1 x2 w = some (rs, w9)) : Met l yX3_leastRow wsX3_leastRow ({ frames := 5, cells := 0, slots := 0, locals := 118 }) (va_Pc [.ref (L 0), .int x1, .int x2] (xP D L K t0 w)) (qI D L 81 (cX L K) rs w9) 0 0 (gA L 81) := by
  refine g_met (cc := cX3_leastRow) (nL := 6) (ret := (some .int)) (by decide) rfl (Nat.le_of_ble_eq_true rfl) (fun p e s m below meth c ls C0 hP hl => ?_)
  exact wx_leastRow_0 hJ C0 hP.2.1 hP.2.2 _ _ w _ _ ls hP.1 va_S.rf (lv_sub hl [0, 1, 2] rfl) hf
set_option maxRecDepth 20000 in
theorem ggX3_fewest_X3_isSense : GoodIn wsX3_fewest wsX3_isSense := goodIn_r _ [6] (by decide +kernel) (by decide +kernel)
set_option maxRecDepth 20000 in
theorem gX3_fewest_X3_isSense : GoodIn wsX3_fewest (va_wsS RX3 149 yX3_isSense wsX3_isSense) := goodIn_app (goodIn_of _ (by decide +kernel)) ggX3_fewest_X3_isSense
set_option maxRecDepth 20000 in
theorem ggX3_fewest_X1_by : GoodIn wsX3_fewest wsX1_by := goodIn_r _ [10, 11, 12, 13, 5, 14, 90, 91] (by decide +kernel) (by decide +kernel)
set_option maxRecDepth 20000 in
theorem gX3_fewest_X1_by_n152 : GoodIn wsX3_fewest (wsX1_by) := ggX3_fewest_X1_by
set_option maxRecDepth 20000 in
theorem ggX3_fewest_X3_leastRow : GoodIn wsX3_fewest wsX3_leastRow := goodIn_r _ [18, 1, 2, 19, 8, 20, 21, 11, 22, 5, 23, 24, 25, 26, 12, 27, 28, 29, 30, 31, 32, 33, 34, 35, 36, 37, 38, 39, 40, 41, 42, 43, 44, 45, 46, 47, 48, 49, 50, 51, 52, 13, 14, 53, 54, 55, 56, 57, 58, 59, 60, 61, 62, 63, 64, 65, 66, 67, 68, 69, 70, 71, 72, 73, 74, 75, 76, 77, 78, 79, 80, 81, 82, 83, 84, 85, 86, 87, 88, 89, 90, 91, 92, 93, 94, 95] (by decide +kernel) (by decide +kernel)
set_option maxRecDepth 20000 in
theorem gX3_fewest_X3_leastRow : GoodIn wsX3_fewest (wsV RX3 156 RX3 yX3_leastRow wsX3_leastRow) := goodIn_app (goodIn_of _ (by decide +kernel)) ggX3_fewest_X3_leastRow
theorem dX3_fewest_0 : decode cX3_fewest 0 = .ok (.iload_n 1, 1) := by decide +kernel
theorem dX3_fewest_1 : decode cX3_fewest 1 = .ok (.invokestatic 149, 3) := by decide +kernel
theorem dX3_fewest_4 : decode cX3_fewest 4 = .ok (.ifCond .ne 6, 3) := by decide +kernel
theorem dX3_fewest_7 : decode cX3_fewest 7 = .ok (.bipush (-2), 2) := by decide +kernel
theorem dX3_fewest_9 : decode cX3_fewest 9 = .ok (.ireturn, 1) := by decide +kernel
theorem dX3_fewest_10 : decode cX3_fewest 10 = .ok (.aload_n 0, 1) := by decide +kernel
theorem dX3_fewest_11 : decode cX3_fewest 11 = .ok (.getfield 48, 3) := by decide +kernel
theorem dX3_fewest_14 : decode cX3_fewest 14 = .ok (.aload_n 0, 1) := by decide +kernel
theorem dX3_fewest_15 : decode cX3_fewest 15 = .ok (.getfield 23, 3) := by decide +kernel
theorem dX3_fewest_18 : decode cX3_fewest 18 = .ok (.getfield 93, 3) := by decide +kernel
theorem dX3_fewest_21 : decode cX3_fewest 21 = .ok (.invokevirtual 152, 3) := by decide +kernel
theorem dX3_fewest_24 : decode cX3_fewest 24 = .ok (.iconst 0, 1) := by decide +kernel
theorem dX3_fewest_25 : decode cX3_fewest 25 = .ok (.istore_n 3, 1) := by decide +kernel
theorem dX3_fewest_26 : decode cX3_fewest 26 = .ok (.iload_n 3, 1) := by decide +kernel
theorem dX3_fewest_27 : decode cX3_fewest 27 = .ok (.iconst 4, 1) := by decide +kernel
theorem dX3_fewest_28 : decode cX3_fewest 28 = .ok (.if_icmp .gt 35, 3) := by decide +kernel
theorem dX3_fewest_31 : decode cX3_fewest 31 = .ok (.aload_n 0, 1) := by decide +kernel
theorem dX3_fewest_32 : decode cX3_fewest 32 = .ok (.iload_n 3, 1) := by decide +kernel
theorem dX3_fewest_33 : decode cX3_fewest 33 = .ok (.iload_n 1, 1) := by decide +kernel
theorem dX3_fewest_34 : decode cX3_fewest 34 = .ok (.invokevirtual 156, 3) := by decide +kernel
theorem dX3_fewest_37 : decode cX3_fewest 37 = .ok (.istore 4, 2) := by decide +kernel
theorem dX3_fewest_39 : decode cX3_fewest 39 = .ok (.iload 4, 2) := by decide +kernel
theorem dX3_fewest_41 : decode cX3_fewest 41 = .ok (.bipush (-9), 2) := by decide +kernel
theorem dX3_fewest_43 : decode cX3_fewest 43 = .ok (.if_icmp .eq 14, 3) := by decide +kernel
theorem dX3_fewest_46 : decode cX3_fewest 46 = .ok (.iload_n 2, 1) := by decide +kernel
theorem dX3_fewest_47 : decode cX3_fewest 47 = .ok (.ifCond .eq 8, 3) := by decide +kernel
theorem dX3_fewest_50 : decode cX3_fewest 50 = .ok (.iload 4, 2) := by decide +kernel
theorem dX3_fewest_52 : decode cX3_fewest 52 = .ok (.goto 4, 3) := by decide +kernel
theorem dX3_fewest_55 : decode cX3_fewest 55 = .ok (.iload_n 3, 1) := by decide +kernel
theorem dX3_fewest_56 : decode cX3_fewest 56 = .ok (.ireturn, 1) := by decide +kernel
theorem dX3_fewest_57 : decode cX3_fewest 57 = .ok (.iinc 3 1, 3) := by decide +kernel
theorem dX3_fewest_60 : decode cX3_fewest 60 = .ok (.goto (-34), 3) := by decide +kernel
theorem dX3_fewest_63 : decode cX3_fewest 63 = .ok (.bipush (-9), 2) := by decide +kernel
theorem dX3_fewest_65 : decode cX3_fewest 65 = .ok (.ireturn, 1) := by decide +kernel
set_option maxRecDepth 20000 in
theorem hiX3_fewest_X0 : ∀ w ∈ u_ws RX0 TX0 4, w ∈ wsX3_fewest := by decide +kernel
set_option maxRecDepth 20000 in
theorem hiX3_fewest_X3 : ∀ w ∈ u_ws RX3 TX3 18, w ∈ wsX3_fewest := by decide +kernel
set_option maxHeartbeats 4000000 in
set_option maxRecDepth 100000 in
theorem wx_fewest_26 {p : Program} {l : Launch} {e : Env} {s : State} {m : MethodId} {args : Array Value} {below : List Frame} {meth : Method} {c : Code} {D : va_G} {L : Nat → Nat} {K : Nat → ClassId} {t0 : Nat} (hJ : gj L 81) (C0 : gC cX3_fewest 5 (some .int) wsX3_fewest RX3 p s m args meth c) (hK : va_K D vwCl (tyG K) s) (hE : eX L t0 s) {w9 : St} {rs : Int32} : ∀ (fu : Nat) (x1 : Int32) (x2 : Int32) (x3 : Int32) (w : St) (H : Heap) (locs : List Loc) (ls : Array Slot), va_P D vwCl (gl L 81 (cX L K w)) H → va_S (gA L 81) s.heap H locs → lv_has ls 5 [(0, .ref (L 0)), (1, .int x1), (2, .int x2), (3, .int x3)] → fx_fewest_26 fu x1 x2 x3 w = some (rs, w9) → W p l e { frames := 6, cells := 0, slots := 0, locals := 143 } s m args below meth c H locs 0 0 (MQ below (qI D L 81 (cX L K) rs w9) args s 0 0 (gA L 81)) (F0 m 26 ls []) := by
  obtain ⟨hx, hb, hr, hml, hown, hts, hlk⟩ := id C0
  intro fu
  induction fu with
  | zero =>
    intro x1 x2 x3 w H locs ls hw hS hl hf
    rw [fx_fewest_26] at hf
    exact no_n hf
  | succ fu ih =>
    intro x1 x2 x3 w H locs ls hw hS hl hf
    rw [fx_fewest_26] at hf
    refine lv_iload_n hx hb dX3_fewest_26 rfl (lv_at hl 3 rfl) ?_
    refine lv_iconst (v := 4) hx hb dX3_fewest_27 (by decide) ?_
    refine lv_icmp_gt (tgt := 63) hx hb dX3_fewest_28 (by decide) (fun c28 => ?_) (fun c28 => ?_)
    · replace hf := if_t hf c28
      refine lv_bipush (v := (-9)) hx hb dX3_fewest_63 (by decide) ?_
      exact z_iret hx hb hr hlk hw hS hf dX3_fewest_65
    · replace hf := if_f hf c28
      refine lv_aload_n hx hb dX3_fewest_31 rfl (lv_at hl 0 rfl) ?_
      refine lv_iload_n hx hb dX3_fewest_32 rfl (lv_at hl 3 rfl) ?_
      refine lv_iload_n hx hb dX3_fewest_33 rfl (lv_at hl 1 rfl) ?_
      obtain ⟨q34, h34, hf⟩ := bd_e hf
      refine z_calli (va_runV (As := [.int x3, .int x1]) (rest := []) ⟨hx, hb, hml, hown, hts⟩ (kx_leastRow l (D := D) (K := K) (t0 := t0) hJ x3 x1 w  h34) (cwV 2 hts gX3_fewest_X3_leastRow rfl rfl rfl (by decide +kernel) ⟨Nat.le_of_ble_eq_true rfl, Nat.le_of_ble_eq_true rfl⟩) (z_preV eX_ok hK hE hw hS kc_0.2 ((cX_a0 kc_0.1) _) (T := TX3) (M := 18) rfl) rfl rfl hl.1 rfl (lv_room (Nat.le_of_ble_eq_true rfl)) dX3_fewest_34 ⟨Nat.le_of_ble_eq_true rfl, Nat.le_of_ble_eq_true rfl⟩) hS (fun H locs hw hS => ?_)
      refine lv_topi (fun v37 e37 => ?_)
      replace hf := lb_e hf e37
      refine lv_istore (lv' := [(4, .int v37), (0, .ref (L 0)), (1, .int x1), (2, .int x2), (3, .int x3)]) hx hb dX3_fewest_37 hl (by decide) rfl (fun ls hl => ?_)
      refine lv_iload hx hb dX3_fewest_39 (lv_at hl 0 rfl) ?_
      refine lv_bipush (v := (-9)) hx hb dX3_fewest_41 (by decide) ?_
      refine lv_icmp_eq (tgt := 57) hx hb dX3_fewest_43 (by decide) (fun c43 => ?_) (fun c43 => ?_)
      · replace hf := if_t hf c43
        refine lv_iinc (v := (x3 + 1)) (lv' := [(3, .int (x3 + 1)), (4, .int v37), (0, .ref (L 0)), (1, .int x1), (2, .int x2)]) hx hb dX3_fewest_57 hl (k := 4) rfl rfl (by decide) rfl (fun ls hl => ?_)
        refine lv_goto (tgt := 26) hx hb dX3_fewest_60 (by decide) ?_
        exact ih _ _ _ _ _ _ _ hw hS (lv_sub hl [2, 3, 4, 0] rfl) hf
      · replace hf := if_f hf c43
        refine lv_iload_n hx hb dX3_fewest_46 rfl (lv_at hl 3 rfl) ?_
        refine lv_if_eq (tgt := 55) hx hb dX3_fewest_47 (by decide) (fun c47 => ?_) (fun c47 => ?_)
        · replace hf := if_t hf c47
          refine lv_iload_n hx hb dX3_fewest_55 rfl (lv_at hl 4 rfl) ?_
          exact z_iret hx hb hr hlk hw hS hf dX3_fewest_56
        · replace hf := if_f hf c47
          refine lv_iload hx hb dX3_fewest_50 (lv_at hl 0 rfl) ?_
          refine lv_goto (tgt := 56) hx hb dX3_fewest_52 (by decide) ?_
          exact z_iret hx hb hr hlk hw hS hf dX3_fewest_56
set_option maxHeartbeats 4000000 in
set_option maxRecDepth 100000 in
theorem wx_fewest_0 {p : Program} {l : Launch} {e : Env} {s : State} {m : MethodId} {args : Array Value} {below : List Frame} {meth : Method} {c : Code} {D : va_G} {L : Nat → Nat} {K : Nat → ClassId} {t0 : Nat} (hJ : gj L 81) (C0 : gC cX3_fewest 5 (some .int) wsX3_fewest RX3 p s m args meth c) (hK : va_K D vwCl (tyG K) s) (hE : eX L t0 s) {w9 : St} {rs : Int32} : ∀ (x1 : Int32) (x2 : Int32) (w : St) (H : Heap) (locs : List Loc) (ls : Array Slot), va_P D vwCl (gl L 81 (cX L K w)) H → va_S (gA L 81) s.heap H locs → lv_has ls 5 [(0, .ref (L 0)), (1, .int x1), (2, .int x2)] → fx_fewest x1 x2 w = some (rs, w9) → W p l e { frames := 6, cells := 0, slots := 0, locals := 143 } s m args below meth c H locs 0 0 (MQ below (qI D L 81 (cX L K) rs w9) args s 0 0 (gA L 81)) (F0 m 0 ls []) := by
  obtain ⟨hx, hb, hr, hml, hown, hts, hlk⟩ := id C0
  intro x1 x2 w H locs ls hw hS hl hf
  unfold fx_fewest at hf
  refine lv_iload_n hx hb dX3_fewest_0 rfl (lv_at hl 1 rfl) ?_
  obtain ⟨v1, h1, hf⟩ := bd_e hf
  refine z_calls (va_runS (As := [.int x1]) (rest := []) ⟨hx, hb, hml, hown, hts⟩ (kx_isSense l x1 h1) (va_cwS 1 hts gX3_fewest_X3_isSense rfl rfl rfl (by decide +kernel) ⟨Nat.le_of_ble_eq_true rfl, Nat.le_of_ble_eq_true rfl⟩) z_preT rfl rfl hl.1 rfl (lv_room (Nat.le_of_ble_eq_true rfl)) dX3_fewest_1 ⟨Nat.le_of_ble_eq_true rfl, Nat.le_of_ble_eq_true rfl⟩) ?_
  refine lv_if_ne (tgt := 10) hx hb dX3_fewest_4 (by decide) (fun c4 => ?_) (fun c4 => ?_)
  · replace hf := if_f hf c4
    refine lv_aload_n hx hb dX3_fewest_10 rfl (lv_at hl 0 rfl) ?_
    refine z_get (v := .ref (L 9)) hx hb hts hiX3_fewest_X3 hown hK hw (k := 0) kc_0.2 ((cX_a0 kc_0.1) _) rfl 14 (by decide) (hts (.fieldLink RX3 48 "OneSentence" "rows" "LOneSentence$Rows;") (by decide +kernel)) rfl dX3_fewest_11 ?_
    refine lv_aload_n hx hb dX3_fewest_14 rfl (lv_at hl 0 rfl) ?_
    refine z_get (v := .ref (L 13)) hx hb hts hiX3_fewest_X3 hown hK hw (k := 0) kc_0.2 ((cX_a0 kc_0.1) _) rfl 6 (by decide) (hts (.fieldLink RX3 23 "OneSentence" "today" "LOneSentence$Day;") (by decide +kernel)) rfl dX3_fewest_15 ?_
    refine z_getN (v := .int (w.1 13 1)) hx hb hts hiX3_fewest_X0 hown hK hw (k := 13) kc_13.2 ((cX_a2 kc_13.1) _) rfl 1 (by decide) (hE.1 (RX3, 93, "OneSentence$Day", "at", "I", "OneSentence") (by decide)) rfl dX3_fewest_18 ?_
    obtain ⟨w21, h21, hf⟩ := bd_e hf
    refine z_callv (va_runVN (As := [.int (w.1 13 1)]) (rest := []) ⟨hx, hb, hml, hown, hts⟩ (kr_by l (D := D) (K := K) (t0 := t0) hJ (w.1 13 1) w  h21) ⟨va_cnB 1 hts gX3_fewest_X1_by_n152 rfl rfl rfl (hE.2.1 (RX3, 152, yX1_by, "OneSentence") (by decide)) (hts (.initialized RX1) (by decide +kernel)) (by decide +kernel) ⟨Nat.le_of_ble_eq_true rfl, Nat.le_of_ble_eq_true rfl⟩, hts (.instanceMethod yX1_by) (by decide +kernel), hts (.selects RX1 yX1_by yX1_by) (by decide +kernel)⟩ (z_preV eX_ok hK hE hw hS kc_9.2 ((cX_a3 kc_9.1) _) (T := TX1) (M := 2) rfl) rfl rfl hl.1 rfl (lv_room (Nat.le_of_ble_eq_true rfl)) dX3_fewest_21 ⟨Nat.le_of_ble_eq_true rfl, Nat.le_of_ble_eq_true rfl⟩) hS (fun H locs hw hS => ?_)
    refine lv_iconst (v := 0) hx hb dX3_fewest_24 (by decide) ?_
    refine lv_istore_n (lv' := [(3, .int 0), (0, .ref (L 0)), (1, .int x1), (2, .int x2)]) hx hb dX3_fewest_25 rfl hl (by decide) rfl (fun ls hl => ?_)
    exact wx_fewest_26 hJ C0 hK hE _ _ _ _ _ _ _ _ hw hS (lv_sub hl [1, 2, 3, 0] rfl) hf
  · replace hf := if_t hf c4
    refine lv_bipush (v := (-2)) hx hb dX3_fewest_7 (by decide) ?_
    exact z_iret hx hb hr hlk hw hS hf dX3_fewest_9
set_option maxHeartbeats 4000000 in
set_option maxRecDepth 100000 in
theorem kx_fewest (l : Launch) {D : va_G} {L : Nat → Nat} {K : Nat → ClassId} {t0 : Nat} (hJ : gj L 81) (x1 : Int32) (x2 : Int32) (w : St) {w9 : St} {rs : Int32} (hf : fx_fewest x1 x2 w = some (rs, w9)) : Met l yX3_fewest wsX3_fewest ({ frames := 6, cells := 0, slots := 0, locals := 143 }) (va_Pc [.ref (L 0), .int x1, .int x2] (xP D L K t0 w)) (qI D L 81 (cX L K) rs w9) 0 0 (gA L 81) := by
  refine g_met (cc := cX3_fewest) (nL := 5) (ret := (some .int)) (by decide) rfl (Nat.le_of_ble_eq_true rfl) (fun p e s m below meth c ls C0 hP hl => ?_)
  exact wx_fewest_0 hJ C0 hP.2.1 hP.2.2 _ _ w _ _ ls hP.1 va_S.rf (lv_sub hl [0, 1, 2] rfl) hf
set_option maxRecDepth 20000 in
theorem ggX3_sensesBy_X1_by : GoodIn wsX3_sensesBy wsX1_by := goodIn_r _ [6, 7, 8, 9, 10, 11, 79, 80] (by decide +kernel) (by decide +kernel)
set_option maxRecDepth 20000 in
theorem gX3_sensesBy_X1_by_n152 : GoodIn wsX3_sensesBy (wsX1_by) := ggX3_sensesBy_X1_by
set_option maxRecDepth 20000 in
theorem ggX3_sensesBy_X1_many : GoodIn wsX3_sensesBy wsX1_many := goodIn_r _ [14, 7, 15, 10, 16, 79, 80] (by decide +kernel) (by decide +kernel)
set_option maxRecDepth 20000 in
theorem gX3_sensesBy_X1_many_n174 : GoodIn wsX3_sensesBy (wsX1_many) := ggX3_sensesBy_X1_many
set_option maxRecDepth 20000 in
theorem ggX3_sensesBy_X1_told : GoodIn wsX3_sensesBy wsX1_told := goodIn_r _ [19, 7, 8, 79, 80] (by decide +kernel) (by decide +kernel)
set_option maxRecDepth 20000 in
theorem gX3_sensesBy_X1_told_n177 : GoodIn wsX3_sensesBy (wsX1_told) := ggX3_sensesBy_X1_told
set_option maxRecDepth 20000 in
theorem ggX3_sensesBy_X3_play : GoodIn wsX3_sensesBy wsX3_play := goodIn_r _ [23, 2, 24, 25, 26, 27, 28, 29, 30, 31, 32, 33, 34, 10, 35, 36, 37, 38, 39, 40, 41, 9, 11, 42, 43, 44, 45, 46, 47, 48, 49, 50, 51, 52, 53, 54, 55, 56, 57, 58, 59, 60, 61, 62, 63, 64, 65, 66, 67, 68, 69, 70, 71, 72, 73, 74, 81, 82, 83, 84, 75, 76, 77, 78] (by decide +kernel) (by decide +kernel)
set_option maxRecDepth 20000 in
theorem gX3_sensesBy_X3_play : GoodIn wsX3_sensesBy (wsV RX3 145 RX3 yX3_play wsX3_play) := goodIn_app (goodIn_of _ (by decide +kernel)) ggX3_sensesBy_X3_play
theorem dX3_sensesBy_0 : decode cX3_sensesBy 0 = .ok (.aload_n 0, 1) := by decide +kernel
theorem dX3_sensesBy_1 : decode cX3_sensesBy 1 = .ok (.getfield 48, 3) := by decide +kernel
theorem dX3_sensesBy_4 : decode cX3_sensesBy 4 = .ok (.iload_n 1, 1) := by decide +kernel
theorem dX3_sensesBy_5 : decode cX3_sensesBy 5 = .ok (.invokevirtual 152, 3) := by decide +kernel
theorem dX3_sensesBy_8 : decode cX3_sensesBy 8 = .ok (.iconst 0, 1) := by decide +kernel
theorem dX3_sensesBy_9 : decode cX3_sensesBy 9 = .ok (.istore_n 3, 1) := by decide +kernel
theorem dX3_sensesBy_10 : decode cX3_sensesBy 10 = .ok (.iconst 0, 1) := by decide +kernel
theorem dX3_sensesBy_11 : decode cX3_sensesBy 11 = .ok (.istore 4, 2) := by decide +kernel
theorem dX3_sensesBy_13 : decode cX3_sensesBy 13 = .ok (.iload 4, 2) := by decide +kernel
theorem dX3_sensesBy_15 : decode cX3_sensesBy 15 = .ok (.iload_n 2, 1) := by decide +kernel
theorem dX3_sensesBy_16 : decode cX3_sensesBy 16 = .ok (.if_icmp .gt 71, 3) := by decide +kernel
theorem dX3_sensesBy_19 : decode cX3_sensesBy 19 = .ok (.aload_n 0, 1) := by decide +kernel
theorem dX3_sensesBy_20 : decode cX3_sensesBy 20 = .ok (.getfield 48, 3) := by decide +kernel
theorem dX3_sensesBy_23 : decode cX3_sensesBy 23 = .ok (.iload 4, 2) := by decide +kernel
theorem dX3_sensesBy_25 : decode cX3_sensesBy 25 = .ok (.invokevirtual 174, 3) := by decide +kernel
theorem dX3_sensesBy_28 : decode cX3_sensesBy 28 = .ok (.istore 5, 2) := by decide +kernel
theorem dX3_sensesBy_30 : decode cX3_sensesBy 30 = .ok (.iconst 0, 1) := by decide +kernel
theorem dX3_sensesBy_31 : decode cX3_sensesBy 31 = .ok (.istore 6, 2) := by decide +kernel
theorem dX3_sensesBy_33 : decode cX3_sensesBy 33 = .ok (.iload 6, 2) := by decide +kernel
theorem dX3_sensesBy_35 : decode cX3_sensesBy 35 = .ok (.iload 5, 2) := by decide +kernel
theorem dX3_sensesBy_37 : decode cX3_sensesBy 37 = .ok (.if_icmp .ge 44, 3) := by decide +kernel
theorem dX3_sensesBy_40 : decode cX3_sensesBy 40 = .ok (.aload_n 0, 1) := by decide +kernel
theorem dX3_sensesBy_41 : decode cX3_sensesBy 41 = .ok (.iload 4, 2) := by decide +kernel
theorem dX3_sensesBy_43 : decode cX3_sensesBy 43 = .ok (.aload_n 0, 1) := by decide +kernel
theorem dX3_sensesBy_44 : decode cX3_sensesBy 44 = .ok (.getfield 48, 3) := by decide +kernel
theorem dX3_sensesBy_47 : decode cX3_sensesBy 47 = .ok (.iload 6, 2) := by decide +kernel
theorem dX3_sensesBy_49 : decode cX3_sensesBy 49 = .ok (.iload 4, 2) := by decide +kernel
theorem dX3_sensesBy_51 : decode cX3_sensesBy 51 = .ok (.invokevirtual 177, 3) := by decide +kernel
theorem dX3_sensesBy_54 : decode cX3_sensesBy 54 = .ok (.iload_n 1, 1) := by decide +kernel
theorem dX3_sensesBy_55 : decode cX3_sensesBy 55 = .ok (.invokevirtual 145, 3) := by decide +kernel
theorem dX3_sensesBy_58 : decode cX3_sensesBy 58 = .ok (.bipush (-9), 2) := by decide +kernel
theorem dX3_sensesBy_60 : decode cX3_sensesBy 60 = .ok (.if_icmp .ne 15, 3) := by decide +kernel
theorem dX3_sensesBy_63 : decode cX3_sensesBy 63 = .ok (.iload_n 3, 1) := by decide +kernel
theorem dX3_sensesBy_64 : decode cX3_sensesBy 64 = .ok (.iconst 1, 1) := by decide +kernel
theorem dX3_sensesBy_65 : decode cX3_sensesBy 65 = .ok (.aload_n 0, 1) := by decide +kernel
theorem dX3_sensesBy_66 : decode cX3_sensesBy 66 = .ok (.getfield 41, 3) := by decide +kernel
theorem dX3_sensesBy_69 : decode cX3_sensesBy 69 = .ok (.getfield 128, 3) := by decide +kernel
theorem dX3_sensesBy_72 : decode cX3_sensesBy 72 = .ok (.ishl, 1) := by decide +kernel
theorem dX3_sensesBy_73 : decode cX3_sensesBy 73 = .ok (.ior, 1) := by decide +kernel
theorem dX3_sensesBy_74 : decode cX3_sensesBy 74 = .ok (.istore_n 3, 1) := by decide +kernel
theorem dX3_sensesBy_75 : decode cX3_sensesBy 75 = .ok (.iinc 6 1, 3) := by decide +kernel
theorem dX3_sensesBy_78 : decode cX3_sensesBy 78 = .ok (.goto (-45), 3) := by decide +kernel
theorem dX3_sensesBy_81 : decode cX3_sensesBy 81 = .ok (.iinc 4 1, 3) := by decide +kernel
theorem dX3_sensesBy_84 : decode cX3_sensesBy 84 = .ok (.goto (-71), 3) := by decide +kernel
theorem dX3_sensesBy_87 : decode cX3_sensesBy 87 = .ok (.iload_n 3, 1) := by decide +kernel
theorem dX3_sensesBy_88 : decode cX3_sensesBy 88 = .ok (.ireturn, 1) := by decide +kernel
set_option maxRecDepth 20000 in
theorem hiX3_sensesBy_X2 : ∀ w ∈ u_ws RX2 TX2 4, w ∈ wsX3_sensesBy := by decide +kernel
set_option maxRecDepth 20000 in
theorem hiX3_sensesBy_X3 : ∀ w ∈ u_ws RX3 TX3 18, w ∈ wsX3_sensesBy := by decide +kernel
set_option maxHeartbeats 4000000 in
set_option maxRecDepth 100000 in
theorem wx_sensesBy_75 {p : Program} {l : Launch} {e : Env} {s : State} {m : MethodId} {args : Array Value} {below : List Frame} {meth : Method} {c : Code} {D : va_G} {L : Nat → Nat} {K : Nat → ClassId} {t0 : Nat} (hJ : gj L 81) (C0 : gC cX3_sensesBy 7 (some .int) wsX3_sensesBy RX3 p s m args meth c) (hK : va_K D vwCl (tyG K) s) (hE : eX L t0 s) {w9 : St} {rs : Int32} (k13 : Int32 → Int32 → Int32 → Int32 → St → Option (Int32 × St)) (i13 : ∀ (x1 : Int32) (x2 : Int32) (x3 : Int32) (x4 : Int32) (w : St) (H : Heap) (locs : List Loc) (ls : Array Slot), va_P D vwCl (gl L 81 (cX L K w)) H → va_S (gA L 81) s.heap H locs → lv_has ls 7 [(0, .ref (L 0)), (1, .int x1), (2, .int x2), (3, .int x3), (4, .int x4)] → k13 x1 x2 x3 x4 w = some (rs, w9) → W p l e { frames := 4, cells := 0, slots := 0, locals := 94 } s m args below meth c H locs 0 0 (MQ below (qI D L 81 (cX L K) rs w9) args s 0 0 (gA L 81)) (F0 m 13 ls [])) (k33 : Int32 → Int32 → Int32 → Int32 → Int32 → Int32 → St → Option (Int32 × St)) (i33 : ∀ (x1 : Int32) (x2 : Int32) (x3 : Int32) (x4 : Int32) (x5 : Int32) (x6 : Int32) (w : St) (H : Heap) (locs : List Loc) (ls : Array Slot), va_P D vwCl (gl L 81 (cX L K w)) H → va_S (gA L 81) s.heap H locs → lv_has ls 7 [(0, .ref (L 0)), (1, .int x1), (2, .int x2), (3, .int x3), (4, .int x4), (5, .int x5), (6, .int x6)] → k33 x1 x2 x3 x4 x5 x6 w = some (rs, w9) → W p l e { frames := 4, cells := 0, slots := 0, locals := 94 } s m args below meth c H locs 0 0 (MQ below (qI D L 81 (cX L K) rs w9) args s 0 0 (gA L 81)) (F0 m 33 ls [])) : ∀ (x1 : Int32) (x2 : Int32) (x3 : Int32) (x4 : Int32) (x5 : Int32) (x6 : Int32) (w : St) (H : Heap) (locs : List Loc) (ls : Array Slot), va_P D vwCl (gl L 81 (cX L K w)) H → va_S (gA L 81) s.heap H locs → lv_has ls 7 [(0, .ref (L 0)), (1, .int x1), (2, .int x2), (3, .int x3), (4, .int x4), (5, .int x5), (6, .int x6)] → fx_sensesBy_75 k13 k33 x1 x2 x3 x4 x5 x6 w = some (rs, w9) → W p l e { frames := 4, cells := 0, slots := 0, locals := 94 } s m args below meth c H locs 0 0 (MQ below (qI D L 81 (cX L K) rs w9) args s 0 0 (gA L 81)) (F0 m 75 ls []) := by
  obtain ⟨hx, hb, hr, hml, hown, hts, hlk⟩ := id C0
  intro x1 x2 x3 x4 x5 x6 w H locs ls hw hS hl hf
  unfold fx_sensesBy_75 at hf
  refine lv_iinc (v := (x6 + 1)) (lv' := [(6, .int (x6 + 1)), (0, .ref (L 0)), (1, .int x1), (2, .int x2), (3, .int x3), (4, .int x4), (5, .int x5)]) hx hb dX3_sensesBy_75 hl (k := 6) rfl rfl (by decide) rfl (fun ls hl => ?_)
  refine lv_goto (tgt := 33) hx hb dX3_sensesBy_78 (by decide) ?_
  exact i33 _ _ _ _ _ _ _ _ _ _ hw hS (lv_sub hl [1, 2, 3, 4, 5, 6, 0] rfl) hf
set_option maxHeartbeats 4000000 in
set_option maxRecDepth 100000 in
theorem wx_sensesBy_33 {p : Program} {l : Launch} {e : Env} {s : State} {m : MethodId} {args : Array Value} {below : List Frame} {meth : Method} {c : Code} {D : va_G} {L : Nat → Nat} {K : Nat → ClassId} {t0 : Nat} (hJ : gj L 81) (C0 : gC cX3_sensesBy 7 (some .int) wsX3_sensesBy RX3 p s m args meth c) (hK : va_K D vwCl (tyG K) s) (hE : eX L t0 s) {w9 : St} {rs : Int32} (k13 : Int32 → Int32 → Int32 → Int32 → St → Option (Int32 × St)) (i13 : ∀ (x1 : Int32) (x2 : Int32) (x3 : Int32) (x4 : Int32) (w : St) (H : Heap) (locs : List Loc) (ls : Array Slot), va_P D vwCl (gl L 81 (cX L K w)) H → va_S (gA L 81) s.heap H locs → lv_has ls 7 [(0, .ref (L 0)), (1, .int x1), (2, .int x2), (3, .int x3), (4, .int x4)] → k13 x1 x2 x3 x4 w = some (rs, w9) → W p l e { frames := 4, cells := 0, slots := 0, locals := 94 } s m args below meth c H locs 0 0 (MQ below (qI D L 81 (cX L K) rs w9) args s 0 0 (gA L 81)) (F0 m 13 ls [])) : ∀ (fu : Nat) (x1 : Int32) (x2 : Int32) (x3 : Int32) (x4 : Int32) (x5 : Int32) (x6 : Int32) (w : St) (H : Heap) (locs : List Loc) (ls : Array Slot), va_P D vwCl (gl L 81 (cX L K w)) H → va_S (gA L 81) s.heap H locs → lv_has ls 7 [(0, .ref (L 0)), (1, .int x1), (2, .int x2), (3, .int x3), (4, .int x4), (5, .int x5), (6, .int x6)] → fx_sensesBy_33 k13 fu x1 x2 x3 x4 x5 x6 w = some (rs, w9) → W p l e { frames := 4, cells := 0, slots := 0, locals := 94 } s m args below meth c H locs 0 0 (MQ below (qI D L 81 (cX L K) rs w9) args s 0 0 (gA L 81)) (F0 m 33 ls []) := by
  obtain ⟨hx, hb, hr, hml, hown, hts, hlk⟩ := id C0
  intro fu
  induction fu with
  | zero =>
    intro x1 x2 x3 x4 x5 x6 w H locs ls hw hS hl hf
    rw [fx_sensesBy_33] at hf
    exact no_n hf
  | succ fu ih =>
    intro x1 x2 x3 x4 x5 x6 w H locs ls hw hS hl hf
    rw [fx_sensesBy_33] at hf
    refine lv_iload hx hb dX3_sensesBy_33 (lv_at hl 6 rfl) ?_
    refine lv_iload hx hb dX3_sensesBy_35 (lv_at hl 5 rfl) ?_
    refine lv_icmp_ge (tgt := 81) hx hb dX3_sensesBy_37 (by decide) (fun c37 => ?_) (fun c37 => ?_)
    · replace hf := if_t hf c37
      refine lv_iinc (v := (x4 + 1)) (lv' := [(4, .int (x4 + 1)), (0, .ref (L 0)), (1, .int x1), (2, .int x2), (3, .int x3), (5, .int x5), (6, .int x6)]) hx hb dX3_sensesBy_81 hl (k := 4) rfl rfl (by decide) rfl (fun ls hl => ?_)
      refine lv_goto (tgt := 13) hx hb dX3_sensesBy_84 (by decide) ?_
      exact i13 _ _ _ _ _ _ _ _ hw hS (lv_sub hl [1, 2, 3, 4, 0] rfl) hf
    · replace hf := if_f hf c37
      refine lv_aload_n hx hb dX3_sensesBy_40 rfl (lv_at hl 0 rfl) ?_
      refine lv_iload hx hb dX3_sensesBy_41 (lv_at hl 4 rfl) ?_
      refine lv_aload_n hx hb dX3_sensesBy_43 rfl (lv_at hl 0 rfl) ?_
      refine z_get (v := .ref (L 9)) hx hb hts hiX3_sensesBy_X3 hown hK hw (k := 0) kc_0.2 ((cX_a0 kc_0.1) _) rfl 14 (by decide) (hts (.fieldLink RX3 48 "OneSentence" "rows" "LOneSentence$Rows;") (by decide +kernel)) rfl dX3_sensesBy_44 ?_
      refine lv_iload hx hb dX3_sensesBy_47 (lv_at hl 6 rfl) ?_
      refine lv_iload hx hb dX3_sensesBy_49 (lv_at hl 4 rfl) ?_
      obtain ⟨q51, h51, hf⟩ := bd_e hf
      refine z_calli (va_runVN (As := [.int x6, .int x4]) (rest := [.int x4, .ref (L 0)]) ⟨hx, hb, hml, hown, hts⟩ (kr_told l (D := D) (K := K) (t0 := t0) hJ x6 x4 w  h51) ⟨va_cnB 2 hts gX3_sensesBy_X1_told_n177 rfl rfl rfl (hE.2.1 (RX3, 177, yX1_told, "OneSentence") (by decide)) (hts (.initialized RX1) (by decide +kernel)) (by decide +kernel) ⟨Nat.le_of_ble_eq_true rfl, Nat.le_of_ble_eq_true rfl⟩, hts (.instanceMethod yX1_told) (by decide +kernel), hts (.selects RX1 yX1_told yX1_told) (by decide +kernel)⟩ (z_preV eX_ok hK hE hw hS kc_9.2 ((cX_a3 kc_9.1) _) (T := TX1) (M := 2) rfl) rfl rfl hl.1 rfl (lv_room (Nat.le_of_ble_eq_true rfl)) dX3_sensesBy_51 ⟨Nat.le_of_ble_eq_true rfl, Nat.le_of_ble_eq_true rfl⟩) hS (fun H locs hw hS => ?_)
      refine lv_iload_n hx hb dX3_sensesBy_54 rfl (lv_at hl 1 rfl) ?_
      obtain ⟨q55, h55, hf⟩ := bd_e hf
      refine z_calli (va_runV (As := [.int x4, .int (q51.1), .int x1]) (rest := []) ⟨hx, hb, hml, hown, hts⟩ (kx_play l (D := D) (K := K) (t0 := t0) hJ x4 (q51.1) x1 (q51.2)  h55) (cwV 3 hts gX3_sensesBy_X3_play rfl rfl rfl (by decide +kernel) ⟨Nat.le_of_ble_eq_true rfl, Nat.le_of_ble_eq_true rfl⟩) (z_preV eX_ok hK hE hw hS kc_0.2 ((cX_a0 kc_0.1) _) (T := TX3) (M := 18) rfl) rfl rfl hl.1 rfl (lv_room (Nat.le_of_ble_eq_true rfl)) dX3_sensesBy_55 ⟨Nat.le_of_ble_eq_true rfl, Nat.le_of_ble_eq_true rfl⟩) hS (fun H locs hw hS => ?_)
      refine lv_bipush (v := (-9)) hx hb dX3_sensesBy_58 (by decide) ?_
      refine lv_icmp_ne (tgt := 75) hx hb dX3_sensesBy_60 (by decide) (fun c60 => ?_) (fun c60 => ?_)
      · replace hf := if_f hf c60
        exact wx_sensesBy_75 hJ C0 hK hE _ i13 _ ih _ _ _ _ _ _ _ _ _ _ hw hS (lv_sub hl [0, 1, 2, 3, 4, 5, 6] rfl) hf
      · replace hf := if_t hf c60
        refine lv_iload_n hx hb dX3_sensesBy_63 rfl (lv_at hl 3 rfl) ?_
        refine lv_iconst (v := 1) hx hb dX3_sensesBy_64 (by decide) ?_
        refine lv_aload_n hx hb dX3_sensesBy_65 rfl (lv_at hl 0 rfl) ?_
        refine z_get (v := .ref (L 11)) hx hb hts hiX3_sensesBy_X3 hown hK hw (k := 0) kc_0.2 ((cX_a0 kc_0.1) _) rfl 13 (by decide) (hts (.fieldLink RX3 41 "OneSentence" "trial" "LOneSentence$Talk;") (by decide +kernel)) rfl dX3_sensesBy_66 ?_
        refine z_getN (v := .int ((q55.2).1 11 0)) hx hb hts hiX3_sensesBy_X2 hown hK hw (k := 11) kc_11.2 ((cX_a1 kc_11.1) _) rfl 0 (by decide) (hE.1 (RX3, 128, "OneSentence$Talk", "sense", "I", "OneSentence") (by decide)) rfl dX3_sensesBy_69 ?_
        refine lv_ishl hx hb dX3_sensesBy_72 ?_
        refine lv_ior hx hb dX3_sensesBy_73 ?_
        refine lv_topi (fun v74 e74 => ?_)
        replace hf := lb_e hf e74
        refine lv_istore_n (lv' := [(3, .int v74), (0, .ref (L 0)), (1, .int x1), (2, .int x2), (4, .int x4), (5, .int x5), (6, .int x6)]) hx hb dX3_sensesBy_74 rfl hl (by decide) rfl (fun ls hl => ?_)
        exact wx_sensesBy_75 hJ C0 hK hE _ i13 _ ih _ _ _ _ _ _ _ _ _ _ hw hS (lv_sub hl [1, 2, 3, 0, 4, 5, 6] rfl) hf
set_option maxHeartbeats 4000000 in
set_option maxRecDepth 100000 in
theorem wx_sensesBy_13 {p : Program} {l : Launch} {e : Env} {s : State} {m : MethodId} {args : Array Value} {below : List Frame} {meth : Method} {c : Code} {D : va_G} {L : Nat → Nat} {K : Nat → ClassId} {t0 : Nat} (hJ : gj L 81) (C0 : gC cX3_sensesBy 7 (some .int) wsX3_sensesBy RX3 p s m args meth c) (hK : va_K D vwCl (tyG K) s) (hE : eX L t0 s) {w9 : St} {rs : Int32} : ∀ (fu : Nat) (x1 : Int32) (x2 : Int32) (x3 : Int32) (x4 : Int32) (w : St) (H : Heap) (locs : List Loc) (ls : Array Slot), va_P D vwCl (gl L 81 (cX L K w)) H → va_S (gA L 81) s.heap H locs → lv_has ls 7 [(0, .ref (L 0)), (1, .int x1), (2, .int x2), (3, .int x3), (4, .int x4)] → fx_sensesBy_13 fu x1 x2 x3 x4 w = some (rs, w9) → W p l e { frames := 4, cells := 0, slots := 0, locals := 94 } s m args below meth c H locs 0 0 (MQ below (qI D L 81 (cX L K) rs w9) args s 0 0 (gA L 81)) (F0 m 13 ls []) := by
  obtain ⟨hx, hb, hr, hml, hown, hts, hlk⟩ := id C0
  intro fu
  induction fu with
  | zero =>
    intro x1 x2 x3 x4 w H locs ls hw hS hl hf
    rw [fx_sensesBy_13] at hf
    exact no_n hf
  | succ fu ih =>
    intro x1 x2 x3 x4 w H locs ls hw hS hl hf
    rw [fx_sensesBy_13] at hf
    refine lv_iload hx hb dX3_sensesBy_13 (lv_at hl 4 rfl) ?_
    refine lv_iload_n hx hb dX3_sensesBy_15 rfl (lv_at hl 2 rfl) ?_
    refine lv_icmp_gt (tgt := 87) hx hb dX3_sensesBy_16 (by decide) (fun c16 => ?_) (fun c16 => ?_)
    · replace hf := if_t hf c16
      refine lv_iload_n hx hb dX3_sensesBy_87 rfl (lv_at hl 3 rfl) ?_
      exact z_iret hx hb hr hlk hw hS hf dX3_sensesBy_88
    · replace hf := if_f hf c16
      refine lv_aload_n hx hb dX3_sensesBy_19 rfl (lv_at hl 0 rfl) ?_
      refine z_get (v := .ref (L 9)) hx hb hts hiX3_sensesBy_X3 hown hK hw (k := 0) kc_0.2 ((cX_a0 kc_0.1) _) rfl 14 (by decide) (hts (.fieldLink RX3 48 "OneSentence" "rows" "LOneSentence$Rows;") (by decide +kernel)) rfl dX3_sensesBy_20 ?_
      refine lv_iload hx hb dX3_sensesBy_23 (lv_at hl 4 rfl) ?_
      obtain ⟨q25, h25, hf⟩ := bd_e hf
      refine z_calli (va_runVN (As := [.int x4]) (rest := []) ⟨hx, hb, hml, hown, hts⟩ (kr_many l (D := D) (K := K) (t0 := t0) hJ x4 w  h25) ⟨va_cnB 1 hts gX3_sensesBy_X1_many_n174 rfl rfl rfl (hE.2.1 (RX3, 174, yX1_many, "OneSentence") (by decide)) (hts (.initialized RX1) (by decide +kernel)) (by decide +kernel) ⟨Nat.le_of_ble_eq_true rfl, Nat.le_of_ble_eq_true rfl⟩, hts (.instanceMethod yX1_many) (by decide +kernel), hts (.selects RX1 yX1_many yX1_many) (by decide +kernel)⟩ (z_preV eX_ok hK hE hw hS kc_9.2 ((cX_a3 kc_9.1) _) (T := TX1) (M := 2) rfl) rfl rfl hl.1 rfl (lv_room (Nat.le_of_ble_eq_true rfl)) dX3_sensesBy_25 ⟨Nat.le_of_ble_eq_true rfl, Nat.le_of_ble_eq_true rfl⟩) hS (fun H locs hw hS => ?_)
      refine lv_topi (fun v28 e28 => ?_)
      replace hf := lb_e hf e28
      refine lv_istore (lv' := [(5, .int v28), (0, .ref (L 0)), (1, .int x1), (2, .int x2), (3, .int x3), (4, .int x4)]) hx hb dX3_sensesBy_28 hl (by decide) rfl (fun ls hl => ?_)
      refine lv_iconst (v := 0) hx hb dX3_sensesBy_30 (by decide) ?_
      refine lv_istore (lv' := [(6, .int 0), (5, .int v28), (0, .ref (L 0)), (1, .int x1), (2, .int x2), (3, .int x3), (4, .int x4)]) hx hb dX3_sensesBy_31 hl (by decide) rfl (fun ls hl => ?_)
      exact wx_sensesBy_33 hJ C0 hK hE _ ih _ _ _ _ _ _ _ _ _ _ _ hw hS (lv_sub hl [2, 3, 4, 5, 6, 1, 0] rfl) hf
set_option maxHeartbeats 4000000 in
set_option maxRecDepth 100000 in
theorem wx_sensesBy_0 {p : Program} {l : Launch} {e : Env} {s : State} {m : MethodId} {args : Array Value} {below : List Frame} {meth : Method} {c : Code} {D : va_G} {L : Nat → Nat} {K : Nat → ClassId} {t0 : Nat} (hJ : gj L 81) (C0 : gC cX3_sensesBy 7 (some .int) wsX3_sensesBy RX3 p s m args meth c) (hK : va_K D vwCl (tyG K) s) (hE : eX L t0 s) {w9 : St} {rs : Int32} : ∀ (x1 : Int32) (x2 : Int32) (w : St) (H : Heap) (locs : List Loc) (ls : Array Slot), va_P D vwCl (gl L 81 (cX L K w)) H → va_S (gA L 81) s.heap H locs → lv_has ls 7 [(0, .ref (L 0)), (1, .int x1), (2, .int x2)] → fx_sensesBy x1 x2 w = some (rs, w9) → W p l e { frames := 4, cells := 0, slots := 0, locals := 94 } s m args below meth c H locs 0 0 (MQ below (qI D L 81 (cX L K) rs w9) args s 0 0 (gA L 81)) (F0 m 0 ls []) := by
  obtain ⟨hx, hb, hr, hml, hown, hts, hlk⟩ := id C0
  intro x1 x2 w H locs ls hw hS hl hf
  unfold fx_sensesBy at hf
  refine lv_aload_n hx hb dX3_sensesBy_0 rfl (lv_at hl 0 rfl) ?_
  refine z_get (v := .ref (L 9)) hx hb hts hiX3_sensesBy_X3 hown hK hw (k := 0) kc_0.2 ((cX_a0 kc_0.1) _) rfl 14 (by decide) (hts (.fieldLink RX3 48 "OneSentence" "rows" "LOneSentence$Rows;") (by decide +kernel)) rfl dX3_sensesBy_1 ?_
  refine lv_iload_n hx hb dX3_sensesBy_4 rfl (lv_at hl 1 rfl) ?_
  obtain ⟨w5, h5, hf⟩ := bd_e hf
  refine z_callv (va_runVN (As := [.int x1]) (rest := []) ⟨hx, hb, hml, hown, hts⟩ (kr_by l (D := D) (K := K) (t0 := t0) hJ x1 w  h5) ⟨va_cnB 1 hts gX3_sensesBy_X1_by_n152 rfl rfl rfl (hE.2.1 (RX3, 152, yX1_by, "OneSentence") (by decide)) (hts (.initialized RX1) (by decide +kernel)) (by decide +kernel) ⟨Nat.le_of_ble_eq_true rfl, Nat.le_of_ble_eq_true rfl⟩, hts (.instanceMethod yX1_by) (by decide +kernel), hts (.selects RX1 yX1_by yX1_by) (by decide +kernel)⟩ (z_preV eX_ok hK hE hw hS kc_9.2 ((cX_a3 kc_9.1) _) (T := TX1) (M := 2) rfl) rfl rfl hl.1 rfl (lv_room (Nat.le_of_ble_eq_true rfl)) dX3_sensesBy_5 ⟨Nat.le_of_ble_eq_true rfl, Nat.le_of_ble_eq_true rfl⟩) hS (fun H locs hw hS => ?_)
  refine lv_iconst (v := 0) hx hb dX3_sensesBy_8 (by decide) ?_
  refine lv_istore_n (lv' := [(3, .int 0), (0, .ref (L 0)), (1, .int x1), (2, .int x2)]) hx hb dX3_sensesBy_9 rfl hl (by decide) rfl (fun ls hl => ?_)
  refine lv_iconst (v := 0) hx hb dX3_sensesBy_10 (by decide) ?_
  refine lv_istore (lv' := [(4, .int 0), (3, .int 0), (0, .ref (L 0)), (1, .int x1), (2, .int x2)]) hx hb dX3_sensesBy_11 hl (by decide) rfl (fun ls hl => ?_)
  exact wx_sensesBy_13 hJ C0 hK hE _ _ _ _ _ _ _ _ _ hw hS (lv_sub hl [2, 3, 4, 1, 0] rfl) hf
set_option maxHeartbeats 4000000 in
set_option maxRecDepth 100000 in
theorem kx_sensesBy (l : Launch) {D : va_G} {L : Nat → Nat} {K : Nat → ClassId} {t0 : Nat} (hJ : gj L 81) (x1 : Int32) (x2 : Int32) (w : St) {w9 : St} {rs : Int32} (hf : fx_sensesBy x1 x2 w = some (rs, w9)) : Met l yX3_sensesBy wsX3_sensesBy ({ frames := 4, cells := 0, slots := 0, locals := 94 }) (va_Pc [.ref (L 0), .int x1, .int x2] (xP D L K t0 w)) (qI D L 81 (cX L K) rs w9) 0 0 (gA L 81) := by
  refine g_met (cc := cX3_sensesBy) (nL := 7) (ret := (some .int)) (by decide) rfl (Nat.le_of_ble_eq_true rfl) (fun p e s m below meth c ls C0 hP hl => ?_)
  exact wx_sensesBy_0 hJ C0 hP.2.1 hP.2.2 _ _ w _ _ ls hP.1 va_S.rf (lv_sub hl [0, 1, 2] rfl) hf
set_option maxRecDepth 20000 in
theorem ggX3_can_X3_sensesBy : GoodIn wsX3_can wsX3_sensesBy := goodIn_r _ [6, 7, 8, 9, 10, 11, 12, 13, 14, 15, 5, 16, 17, 18, 19, 20, 21, 22, 23, 24, 25, 26, 27, 28, 1, 29, 30, 31, 32, 33, 34, 35, 36, 37, 38, 39, 40, 41, 42, 43, 44, 45, 46, 47, 48, 49, 50, 51, 52, 53, 54, 55, 56, 57, 58, 59, 60, 61, 62, 63, 64, 65, 66, 67, 68, 69, 70, 71, 72, 73, 74, 75, 76, 77, 78, 83, 84, 85, 86, 87, 88, 79, 80, 81, 82] (by decide +kernel) (by decide +kernel)
set_option maxRecDepth 20000 in
theorem gX3_can_X3_sensesBy : GoodIn wsX3_can (wsV RX3 159 RX3 yX3_sensesBy wsX3_sensesBy) := goodIn_app (goodIn_of _ (by decide +kernel)) ggX3_can_X3_sensesBy
theorem dX3_can_0 : decode cX3_can 0 = .ok (.iload_n 1, 1) := by decide +kernel
theorem dX3_can_1 : decode cX3_can 1 = .ok (.ifCond .lt 8, 3) := by decide +kernel
theorem dX3_can_4 : decode cX3_can 4 = .ok (.iload_n 1, 1) := by decide +kernel
theorem dX3_can_5 : decode cX3_can 5 = .ok (.iconst 3, 1) := by decide +kernel
theorem dX3_can_6 : decode cX3_can 6 = .ok (.if_icmp .le 6, 3) := by decide +kernel
theorem dX3_can_9 : decode cX3_can 9 = .ok (.bipush (-2), 2) := by decide +kernel
theorem dX3_can_11 : decode cX3_can 11 = .ok (.ireturn, 1) := by decide +kernel
theorem dX3_can_12 : decode cX3_can 12 = .ok (.aload_n 0, 1) := by decide +kernel
theorem dX3_can_13 : decode cX3_can 13 = .ok (.aload_n 0, 1) := by decide +kernel
theorem dX3_can_14 : decode cX3_can 14 = .ok (.getfield 23, 3) := by decide +kernel
theorem dX3_can_17 : decode cX3_can 17 = .ok (.getfield 93, 3) := by decide +kernel
theorem dX3_can_20 : decode cX3_can 20 = .ok (.iload_n 1, 1) := by decide +kernel
theorem dX3_can_21 : decode cX3_can 21 = .ok (.invokevirtual 159, 3) := by decide +kernel
theorem dX3_can_24 : decode cX3_can 24 = .ok (.ireturn, 1) := by decide +kernel
set_option maxRecDepth 20000 in
theorem hiX3_can_X0 : ∀ w ∈ u_ws RX0 TX0 4, w ∈ wsX3_can := by decide +kernel
set_option maxRecDepth 20000 in
theorem hiX3_can_X3 : ∀ w ∈ u_ws RX3 TX3 18, w ∈ wsX3_can := by decide +kernel
set_option maxHeartbeats 4000000 in
set_option maxRecDepth 100000 in
theorem wx_can_0 {p : Program} {l : Launch} {e : Env} {s : State} {m : MethodId} {args : Array Value} {below : List Frame} {meth : Method} {c : Code} {D : va_G} {L : Nat → Nat} {K : Nat → ClassId} {t0 : Nat} (hJ : gj L 81) (C0 : gC cX3_can 2 (some .int) wsX3_can RX3 p s m args meth c) (hK : va_K D vwCl (tyG K) s) (hE : eX L t0 s) {w9 : St} {rs : Int32} : ∀ (x1 : Int32) (w : St) (H : Heap) (locs : List Loc) (ls : Array Slot), va_P D vwCl (gl L 81 (cX L K w)) H → va_S (gA L 81) s.heap H locs → lv_has ls 2 [(0, .ref (L 0)), (1, .int x1)] → fx_can x1 w = some (rs, w9) → W p l e { frames := 5, cells := 0, slots := 0, locals := 120 } s m args below meth c H locs 0 0 (MQ below (qI D L 81 (cX L K) rs w9) args s 0 0 (gA L 81)) (F0 m 0 ls []) := by
  obtain ⟨hx, hb, hr, hml, hown, hts, hlk⟩ := id C0
  intro x1 w H locs ls hw hS hl hf
  unfold fx_can at hf
  refine lv_iload_n hx hb dX3_can_0 rfl (lv_at hl 1 rfl) ?_
  refine lv_if_lt (tgt := 9) hx hb dX3_can_1 (by decide) (fun c1 => ?_) (fun c1 => ?_)
  · replace hf := if_t hf c1
    refine lv_bipush (v := (-2)) hx hb dX3_can_9 (by decide) ?_
    exact z_iret hx hb hr hlk hw hS hf dX3_can_11
  · replace hf := if_f hf c1
    refine lv_iload_n hx hb dX3_can_4 rfl (lv_at hl 1 rfl) ?_
    refine lv_iconst (v := 3) hx hb dX3_can_5 (by decide) ?_
    refine lv_icmp_le (tgt := 12) hx hb dX3_can_6 (by decide) (fun c6 => ?_) (fun c6 => ?_)
    · replace hf := if_t hf c6
      refine lv_aload_n hx hb dX3_can_12 rfl (lv_at hl 0 rfl) ?_
      refine lv_aload_n hx hb dX3_can_13 rfl (lv_at hl 0 rfl) ?_
      refine z_get (v := .ref (L 13)) hx hb hts hiX3_can_X3 hown hK hw (k := 0) kc_0.2 ((cX_a0 kc_0.1) _) rfl 6 (by decide) (hts (.fieldLink RX3 23 "OneSentence" "today" "LOneSentence$Day;") (by decide +kernel)) rfl dX3_can_14 ?_
      refine z_getN (v := .int (w.1 13 1)) hx hb hts hiX3_can_X0 hown hK hw (k := 13) kc_13.2 ((cX_a2 kc_13.1) _) rfl 1 (by decide) (hE.1 (RX3, 93, "OneSentence$Day", "at", "I", "OneSentence") (by decide)) rfl dX3_can_17 ?_
      refine lv_iload_n hx hb dX3_can_20 rfl (lv_at hl 1 rfl) ?_
      obtain ⟨q21, h21, hf⟩ := bd_e hf
      refine z_calli (va_runV (As := [.int (w.1 13 1), .int x1]) (rest := []) ⟨hx, hb, hml, hown, hts⟩ (kx_sensesBy l (D := D) (K := K) (t0 := t0) hJ (w.1 13 1) x1 w  h21) (cwV 2 hts gX3_can_X3_sensesBy rfl rfl rfl (by decide +kernel) ⟨Nat.le_of_ble_eq_true rfl, Nat.le_of_ble_eq_true rfl⟩) (z_preV eX_ok hK hE hw hS kc_0.2 ((cX_a0 kc_0.1) _) (T := TX3) (M := 18) rfl) rfl rfl hl.1 rfl (lv_room (Nat.le_of_ble_eq_true rfl)) dX3_can_21 ⟨Nat.le_of_ble_eq_true rfl, Nat.le_of_ble_eq_true rfl⟩) hS (fun H locs hw hS => ?_)
      exact z_iret hx hb hr hlk hw hS hf dX3_can_24
    · replace hf := if_f hf c6
      refine lv_bipush (v := (-2)) hx hb dX3_can_9 (by decide) ?_
      exact z_iret hx hb hr hlk hw hS hf dX3_can_11
set_option maxHeartbeats 4000000 in
set_option maxRecDepth 100000 in
theorem kx_can (l : Launch) {D : va_G} {L : Nat → Nat} {K : Nat → ClassId} {t0 : Nat} (hJ : gj L 81) (x1 : Int32) (w : St) {w9 : St} {rs : Int32} (hf : fx_can x1 w = some (rs, w9)) : Met l yX3_can wsX3_can ({ frames := 5, cells := 0, slots := 0, locals := 120 }) (va_Pc [.ref (L 0), .int x1] (xP D L K t0 w)) (qI D L 81 (cX L K) rs w9) 0 0 (gA L 81) := by
  refine g_met (cc := cX3_can) (nL := 2) (ret := (some .int)) (by decide) rfl (Nat.le_of_ble_eq_true rfl) (fun p e s m below meth c ls C0 hP hl => ?_)
  exact wx_can_0 hJ C0 hP.2.1 hP.2.2 _ w _ _ ls hP.1 va_S.rf (lv_sub hl [0, 1] rfl) hf
theorem dX3_everybody_0 : decode cX3_everybody 0 = .ok (.iconst 1, 1) := by decide +kernel
theorem dX3_everybody_1 : decode cX3_everybody 1 = .ok (.aload_n 0, 1) := by decide +kernel
theorem dX3_everybody_2 : decode cX3_everybody 2 = .ok (.getfield 73, 3) := by decide +kernel
theorem dX3_everybody_5 : decode cX3_everybody 5 = .ok (.ishl, 1) := by decide +kernel
theorem dX3_everybody_6 : decode cX3_everybody 6 = .ok (.iconst 1, 1) := by decide +kernel
theorem dX3_everybody_7 : decode cX3_everybody 7 = .ok (.isub, 1) := by decide +kernel
theorem dX3_everybody_8 : decode cX3_everybody 8 = .ok (.ireturn, 1) := by decide +kernel
set_option maxRecDepth 20000 in
theorem hiX3_everybody_X3 : ∀ w ∈ u_ws RX3 TX3 18, w ∈ wsX3_everybody := by decide +kernel
set_option maxHeartbeats 4000000 in
set_option maxRecDepth 100000 in
theorem wx_everybody_0 {p : Program} {l : Launch} {e : Env} {s : State} {m : MethodId} {args : Array Value} {below : List Frame} {meth : Method} {c : Code} {D : va_G} {L : Nat → Nat} {K : Nat → ClassId} {t0 : Nat} (hJ : gj L 81) (C0 : gC cX3_everybody 1 (some .int) wsX3_everybody RX3 p s m args meth c) (hK : va_K D vwCl (tyG K) s) (hE : eX L t0 s) {w9 : St} {rs : Int32} : ∀ (w : St) (H : Heap) (locs : List Loc) (ls : Array Slot), va_P D vwCl (gl L 81 (cX L K w)) H → va_S (gA L 81) s.heap H locs → lv_has ls 1 [(0, .ref (L 0))] → fx_everybody w = some (rs, w9) → W p l e { frames := 0, cells := 0, slots := 0, locals := 0 } s m args below meth c H locs 0 0 (MQ below (qI D L 81 (cX L K) rs w9) args s 0 0 (gA L 81)) (F0 m 0 ls []) := by
  obtain ⟨hx, hb, hr, hml, hown, hts, hlk⟩ := id C0
  intro w H locs ls hw hS hl hf
  unfold fx_everybody at hf
  refine lv_iconst (v := 1) hx hb dX3_everybody_0 (by decide) ?_
  refine lv_aload_n hx hb dX3_everybody_1 rfl (lv_at hl 0 rfl) ?_
  refine z_get (v := .int (w.1 0 3)) hx hb hts hiX3_everybody_X3 hown hK hw (k := 0) kc_0.2 ((cX_a0 kc_0.1) _) rfl 3 (by decide) (hts (.fieldLink RX3 73 "OneSentence" "people" "I") (by decide +kernel)) rfl dX3_everybody_2 ?_
  refine lv_ishl hx hb dX3_everybody_5 ?_
  refine lv_iconst (v := 1) hx hb dX3_everybody_6 (by decide) ?_
  refine lv_isub hx hb dX3_everybody_7 ?_
  exact z_iret hx hb hr hlk hw hS hf dX3_everybody_8
set_option maxHeartbeats 4000000 in
set_option maxRecDepth 100000 in
theorem kx_everybody (l : Launch) {D : va_G} {L : Nat → Nat} {K : Nat → ClassId} {t0 : Nat} (hJ : gj L 81) (w : St) {w9 : St} {rs : Int32} (hf : fx_everybody w = some (rs, w9)) : Met l yX3_everybody wsX3_everybody ({ frames := 0, cells := 0, slots := 0, locals := 0 }) (va_Pc [.ref (L 0)] (xP D L K t0 w)) (qI D L 81 (cX L K) rs w9) 0 0 (gA L 81) := by
  refine g_met (cc := cX3_everybody) (nL := 1) (ret := (some .int)) (by decide) rfl (Nat.le_of_ble_eq_true rfl) (fun p e s m below meth c ls C0 hP hl => ?_)
  exact wx_everybody_0 hJ C0 hP.2.1 hP.2.2 w _ _ ls hP.1 va_S.rf (lv_sub hl [0] rfl) hf
set_option maxRecDepth 20000 in
theorem ggX3_speakersIn_X3_personIn : GoodIn wsX3_speakersIn wsX3_personIn := goodIn_r _ [4] (by decide +kernel) (by decide +kernel)
set_option maxRecDepth 20000 in
theorem gX3_speakersIn_X3_personIn : GoodIn wsX3_speakersIn (va_wsS RX3 245 yX3_personIn wsX3_personIn) := goodIn_app (goodIn_of _ (by decide +kernel)) ggX3_speakersIn_X3_personIn
theorem dX3_speakersIn_0 : decode cX3_speakersIn 0 = .ok (.iconst 0, 1) := by decide +kernel
theorem dX3_speakersIn_1 : decode cX3_speakersIn 1 = .ok (.istore_n 2, 1) := by decide +kernel
theorem dX3_speakersIn_2 : decode cX3_speakersIn 2 = .ok (.iconst 0, 1) := by decide +kernel
theorem dX3_speakersIn_3 : decode cX3_speakersIn 3 = .ok (.istore_n 3, 1) := by decide +kernel
theorem dX3_speakersIn_4 : decode cX3_speakersIn 4 = .ok (.iload_n 3, 1) := by decide +kernel
theorem dX3_speakersIn_5 : decode cX3_speakersIn 5 = .ok (.iload_n 0, 1) := by decide +kernel
theorem dX3_speakersIn_6 : decode cX3_speakersIn 6 = .ok (.if_icmp .ge 20, 3) := by decide +kernel
theorem dX3_speakersIn_9 : decode cX3_speakersIn 9 = .ok (.iload_n 2, 1) := by decide +kernel
theorem dX3_speakersIn_10 : decode cX3_speakersIn 10 = .ok (.iconst 1, 1) := by decide +kernel
theorem dX3_speakersIn_11 : decode cX3_speakersIn 11 = .ok (.iload_n 0, 1) := by decide +kernel
theorem dX3_speakersIn_12 : decode cX3_speakersIn 12 = .ok (.iload_n 1, 1) := by decide +kernel
theorem dX3_speakersIn_13 : decode cX3_speakersIn 13 = .ok (.iload_n 3, 1) := by decide +kernel
theorem dX3_speakersIn_14 : decode cX3_speakersIn 14 = .ok (.invokestatic 245, 3) := by decide +kernel
theorem dX3_speakersIn_17 : decode cX3_speakersIn 17 = .ok (.ishl, 1) := by decide +kernel
theorem dX3_speakersIn_18 : decode cX3_speakersIn 18 = .ok (.ior, 1) := by decide +kernel
theorem dX3_speakersIn_19 : decode cX3_speakersIn 19 = .ok (.istore_n 2, 1) := by decide +kernel
theorem dX3_speakersIn_20 : decode cX3_speakersIn 20 = .ok (.iinc 3 1, 3) := by decide +kernel
theorem dX3_speakersIn_23 : decode cX3_speakersIn 23 = .ok (.goto (-19), 3) := by decide +kernel
theorem dX3_speakersIn_26 : decode cX3_speakersIn 26 = .ok (.iload_n 2, 1) := by decide +kernel
theorem dX3_speakersIn_27 : decode cX3_speakersIn 27 = .ok (.ireturn, 1) := by decide +kernel
set_option maxHeartbeats 4000000 in
set_option maxRecDepth 100000 in
theorem wx_speakersIn_4 {p : Program} {l : Launch} {e : Env} {s : State} {m : MethodId} {args : Array Value} {below : List Frame} {meth : Method} {c : Code} (C0 : gC cX3_speakersIn 4 (some .int) wsX3_speakersIn RX3 p s m args meth c) {rs : Int32} : ∀ (fu : Nat) (x0 : Int32) (x1 : Int32) (x2 : Int32) (x3 : Int32) (ls : Array Slot), lv_has ls 4 [(0, .int x0), (1, .int x1), (2, .int x2), (3, .int x3)] → fx_speakersIn_4 fu x0 x1 x2 x3 = some rs → W p l e { frames := 1, cells := 0, slots := 0, locals := 24 } s m args below meth c s.heap [] 0 0 (MQ below (qS rs) args s 0 0 (fun _ => False)) (F0 m 4 ls []) := by
  obtain ⟨hx, hb, hr, hml, hown, hts, hlk⟩ := id C0
  intro fu
  induction fu with
  | zero =>
    intro x0 x1 x2 x3 ls hl hf
    rw [fx_speakersIn_4] at hf
    exact no_n hf
  | succ fu ih =>
    intro x0 x1 x2 x3 ls hl hf
    rw [fx_speakersIn_4] at hf
    refine lv_iload_n hx hb dX3_speakersIn_4 rfl (lv_at hl 3 rfl) ?_
    refine lv_iload_n hx hb dX3_speakersIn_5 rfl (lv_at hl 0 rfl) ?_
    refine lv_icmp_ge (tgt := 26) hx hb dX3_speakersIn_6 (by decide) (fun c6 => ?_) (fun c6 => ?_)
    · replace hf := if_t hf c6
      refine lv_iload_n hx hb dX3_speakersIn_26 rfl (lv_at hl 2 rfl) ?_
      exact z_sret hx hb hr hlk hf dX3_speakersIn_27
    · replace hf := if_f hf c6
      refine lv_iload_n hx hb dX3_speakersIn_9 rfl (lv_at hl 2 rfl) ?_
      refine lv_iconst (v := 1) hx hb dX3_speakersIn_10 (by decide) ?_
      refine lv_iload_n hx hb dX3_speakersIn_11 rfl (lv_at hl 0 rfl) ?_
      refine lv_iload_n hx hb dX3_speakersIn_12 rfl (lv_at hl 1 rfl) ?_
      refine lv_iload_n hx hb dX3_speakersIn_13 rfl (lv_at hl 3 rfl) ?_
      obtain ⟨v14, h14, hf⟩ := bd_e hf
      refine z_calls (va_runS (As := [.int x0, .int x1, .int x3]) (rest := [.int 1, .int x2]) ⟨hx, hb, hml, hown, hts⟩ (kx_personIn l x0 x1 x3 h14) (va_cwS 3 hts gX3_speakersIn_X3_personIn rfl rfl rfl (by decide +kernel) ⟨Nat.le_of_ble_eq_true rfl, Nat.le_of_ble_eq_true rfl⟩) z_preT rfl rfl hl.1 rfl (lv_room (Nat.le_of_ble_eq_true rfl)) dX3_speakersIn_14 ⟨Nat.le_of_ble_eq_true rfl, Nat.le_of_ble_eq_true rfl⟩) ?_
      refine lv_ishl hx hb dX3_speakersIn_17 ?_
      refine lv_ior hx hb dX3_speakersIn_18 ?_
      refine lv_topi (fun v19 e19 => ?_)
      replace hf := lb_e hf e19
      refine lv_istore_n (lv' := [(2, .int v19), (0, .int x0), (1, .int x1), (3, .int x3)]) hx hb dX3_speakersIn_19 rfl hl (by decide) rfl (fun ls hl => ?_)
      refine lv_iinc (v := (x3 + 1)) (lv' := [(3, .int (x3 + 1)), (2, .int v19), (0, .int x0), (1, .int x1)]) hx hb dX3_speakersIn_20 hl (k := 3) rfl rfl (by decide) rfl (fun ls hl => ?_)
      refine lv_goto (tgt := 4) hx hb dX3_speakersIn_23 (by decide) ?_
      exact ih _ _ _ _ _ (lv_sub hl [2, 3, 1, 0] rfl) hf
set_option maxHeartbeats 4000000 in
set_option maxRecDepth 100000 in
theorem wx_speakersIn_0 {p : Program} {l : Launch} {e : Env} {s : State} {m : MethodId} {args : Array Value} {below : List Frame} {meth : Method} {c : Code} (C0 : gC cX3_speakersIn 4 (some .int) wsX3_speakersIn RX3 p s m args meth c) {rs : Int32} : ∀ (x0 : Int32) (x1 : Int32) (ls : Array Slot), lv_has ls 4 [(0, .int x0), (1, .int x1)] → fx_speakersIn x0 x1 = some rs → W p l e { frames := 1, cells := 0, slots := 0, locals := 24 } s m args below meth c s.heap [] 0 0 (MQ below (qS rs) args s 0 0 (fun _ => False)) (F0 m 0 ls []) := by
  obtain ⟨hx, hb, hr, hml, hown, hts, hlk⟩ := id C0
  intro x0 x1 ls hl hf
  unfold fx_speakersIn at hf
  refine lv_iconst (v := 0) hx hb dX3_speakersIn_0 (by decide) ?_
  refine lv_istore_n (lv' := [(2, .int 0), (0, .int x0), (1, .int x1)]) hx hb dX3_speakersIn_1 rfl hl (by decide) rfl (fun ls hl => ?_)
  refine lv_iconst (v := 0) hx hb dX3_speakersIn_2 (by decide) ?_
  refine lv_istore_n (lv' := [(3, .int 0), (2, .int 0), (0, .int x0), (1, .int x1)]) hx hb dX3_speakersIn_3 rfl hl (by decide) rfl (fun ls hl => ?_)
  exact wx_speakersIn_4 C0 _ _ _ _ _ _ (lv_sub hl [2, 3, 1, 0] rfl) hf
set_option maxHeartbeats 4000000 in
set_option maxRecDepth 100000 in
theorem kx_speakersIn (l : Launch) (x0 : Int32) (x1 : Int32) {rs : Int32} (hf : fx_speakersIn x0 x1 = some rs) : Met l yX3_speakersIn wsX3_speakersIn ({ frames := 1, cells := 0, slots := 0, locals := 24 }) (va_Pc [.int x0, .int x1] (fun _ => True)) (qS rs) 0 0 (fun _ => False) := by
  refine g_met (cc := cX3_speakersIn) (nL := 4) (ret := (some .int)) (by decide) rfl (Nat.le_of_ble_eq_true rfl) (fun p e s m below meth c ls C0 _ hl => ?_)
  exact wx_speakersIn_0 C0 _ _ ls (lv_sub hl [0, 1] rfl) hf
set_option maxRecDepth 20000 in
theorem ggX3_hoursFor_X3_has : GoodIn wsX3_hoursFor wsX3_has := goodIn_r _ [5] (by decide +kernel) (by decide +kernel)
set_option maxRecDepth 20000 in
theorem gX3_hoursFor_X3_has : GoodIn wsX3_hoursFor (va_wsS RX3 96 yX3_has wsX3_has) := goodIn_app (goodIn_of _ (by decide +kernel)) ggX3_hoursFor_X3_has
set_option maxRecDepth 20000 in
theorem ggX3_hoursFor_X3_hoursFrom : GoodIn wsX3_hoursFor wsX3_hoursFrom := goodIn_r _ [9, 10, 11, 12, 13, 14, 15, 16, 17, 18, 4, 19, 1, 20, 21, 22, 23, 24, 25, 26, 27, 28, 29, 30, 31, 32, 33, 34, 35, 36, 37] (by decide +kernel) (by decide +kernel)
set_option maxRecDepth 20000 in
theorem gX3_hoursFor_X3_hoursFrom : GoodIn wsX3_hoursFor (wsV RX3 116 RX3 yX3_hoursFrom wsX3_hoursFrom) := goodIn_app (goodIn_of _ (by decide +kernel)) ggX3_hoursFor_X3_hoursFrom
theorem dX3_hoursFor_0 : decode cX3_hoursFor 0 = .ok (.iconst 0, 1) := by decide +kernel
theorem dX3_hoursFor_1 : decode cX3_hoursFor 1 = .ok (.istore_n 2, 1) := by decide +kernel
theorem dX3_hoursFor_2 : decode cX3_hoursFor 2 = .ok (.iconst 0, 1) := by decide +kernel
theorem dX3_hoursFor_3 : decode cX3_hoursFor 3 = .ok (.istore_n 3, 1) := by decide +kernel
theorem dX3_hoursFor_4 : decode cX3_hoursFor 4 = .ok (.iload_n 3, 1) := by decide +kernel
theorem dX3_hoursFor_5 : decode cX3_hoursFor 5 = .ok (.aload_n 0, 1) := by decide +kernel
theorem dX3_hoursFor_6 : decode cX3_hoursFor 6 = .ok (.getfield 73, 3) := by decide +kernel
theorem dX3_hoursFor_9 : decode cX3_hoursFor 9 = .ok (.if_icmp .ge 25, 3) := by decide +kernel
theorem dX3_hoursFor_12 : decode cX3_hoursFor 12 = .ok (.iload_n 1, 1) := by decide +kernel
theorem dX3_hoursFor_13 : decode cX3_hoursFor 13 = .ok (.iload_n 3, 1) := by decide +kernel
theorem dX3_hoursFor_14 : decode cX3_hoursFor 14 = .ok (.invokestatic 96, 3) := by decide +kernel
theorem dX3_hoursFor_17 : decode cX3_hoursFor 17 = .ok (.ifCond .eq 11, 3) := by decide +kernel
theorem dX3_hoursFor_20 : decode cX3_hoursFor 20 = .ok (.iload_n 2, 1) := by decide +kernel
theorem dX3_hoursFor_21 : decode cX3_hoursFor 21 = .ok (.aload_n 0, 1) := by decide +kernel
theorem dX3_hoursFor_22 : decode cX3_hoursFor 22 = .ok (.iload_n 3, 1) := by decide +kernel
theorem dX3_hoursFor_23 : decode cX3_hoursFor 23 = .ok (.invokevirtual 116, 3) := by decide +kernel
theorem dX3_hoursFor_26 : decode cX3_hoursFor 26 = .ok (.iadd, 1) := by decide +kernel
theorem dX3_hoursFor_27 : decode cX3_hoursFor 27 = .ok (.istore_n 2, 1) := by decide +kernel
theorem dX3_hoursFor_28 : decode cX3_hoursFor 28 = .ok (.iinc 3 1, 3) := by decide +kernel
theorem dX3_hoursFor_31 : decode cX3_hoursFor 31 = .ok (.goto (-27), 3) := by decide +kernel
theorem dX3_hoursFor_34 : decode cX3_hoursFor 34 = .ok (.iload_n 2, 1) := by decide +kernel
theorem dX3_hoursFor_35 : decode cX3_hoursFor 35 = .ok (.ireturn, 1) := by decide +kernel
set_option maxRecDepth 20000 in
theorem hiX3_hoursFor_X3 : ∀ w ∈ u_ws RX3 TX3 18, w ∈ wsX3_hoursFor := by decide +kernel
set_option maxHeartbeats 4000000 in
set_option maxRecDepth 100000 in
theorem wx_hoursFor_28 {p : Program} {l : Launch} {e : Env} {s : State} {m : MethodId} {args : Array Value} {below : List Frame} {meth : Method} {c : Code} {D : va_G} {L : Nat → Nat} {K : Nat → ClassId} {t0 : Nat} (hJ : gj L 81) (C0 : gC cX3_hoursFor 4 (some .int) wsX3_hoursFor RX3 p s m args meth c) (hK : va_K D vwCl (tyG K) s) (hE : eX L t0 s) {w9 : St} {rs : Int32} (k4 : Int32 → Int32 → Int32 → St → Option (Int32 × St)) (i4 : ∀ (x1 : Int32) (x2 : Int32) (x3 : Int32) (w : St) (H : Heap) (locs : List Loc) (ls : Array Slot), va_P D vwCl (gl L 81 (cX L K w)) H → va_S (gA L 81) s.heap H locs → lv_has ls 4 [(0, .ref (L 0)), (1, .int x1), (2, .int x2), (3, .int x3)] → k4 x1 x2 x3 w = some (rs, w9) → W p l e { frames := 2, cells := 0, slots := 0, locals := 42 } s m args below meth c H locs 0 0 (MQ below (qI D L 81 (cX L K) rs w9) args s 0 0 (gA L 81)) (F0 m 4 ls [])) : ∀ (x1 : Int32) (x2 : Int32) (x3 : Int32) (w : St) (H : Heap) (locs : List Loc) (ls : Array Slot), va_P D vwCl (gl L 81 (cX L K w)) H → va_S (gA L 81) s.heap H locs → lv_has ls 4 [(0, .ref (L 0)), (1, .int x1), (2, .int x2), (3, .int x3)] → fx_hoursFor_28 k4 x1 x2 x3 w = some (rs, w9) → W p l e { frames := 2, cells := 0, slots := 0, locals := 42 } s m args below meth c H locs 0 0 (MQ below (qI D L 81 (cX L K) rs w9) args s 0 0 (gA L 81)) (F0 m 28 ls []) := by
  obtain ⟨hx, hb, hr, hml, hown, hts, hlk⟩ := id C0
  intro x1 x2 x3 w H locs ls hw hS hl hf
  unfold fx_hoursFor_28 at hf
  refine lv_iinc (v := (x3 + 1)) (lv' := [(3, .int (x3 + 1)), (0, .ref (L 0)), (1, .int x1), (2, .int x2)]) hx hb dX3_hoursFor_28 hl (k := 3) rfl rfl (by decide) rfl (fun ls hl => ?_)
  refine lv_goto (tgt := 4) hx hb dX3_hoursFor_31 (by decide) ?_
  exact i4 _ _ _ _ _ _ _ hw hS (lv_sub hl [1, 2, 3, 0] rfl) hf
set_option maxHeartbeats 4000000 in
set_option maxRecDepth 100000 in
theorem wx_hoursFor_4 {p : Program} {l : Launch} {e : Env} {s : State} {m : MethodId} {args : Array Value} {below : List Frame} {meth : Method} {c : Code} {D : va_G} {L : Nat → Nat} {K : Nat → ClassId} {t0 : Nat} (hJ : gj L 81) (C0 : gC cX3_hoursFor 4 (some .int) wsX3_hoursFor RX3 p s m args meth c) (hK : va_K D vwCl (tyG K) s) (hE : eX L t0 s) {w9 : St} {rs : Int32} : ∀ (fu : Nat) (x1 : Int32) (x2 : Int32) (x3 : Int32) (w : St) (H : Heap) (locs : List Loc) (ls : Array Slot), va_P D vwCl (gl L 81 (cX L K w)) H → va_S (gA L 81) s.heap H locs → lv_has ls 4 [(0, .ref (L 0)), (1, .int x1), (2, .int x2), (3, .int x3)] → fx_hoursFor_4 fu x1 x2 x3 w = some (rs, w9) → W p l e { frames := 2, cells := 0, slots := 0, locals := 42 } s m args below meth c H locs 0 0 (MQ below (qI D L 81 (cX L K) rs w9) args s 0 0 (gA L 81)) (F0 m 4 ls []) := by
  obtain ⟨hx, hb, hr, hml, hown, hts, hlk⟩ := id C0
  intro fu
  induction fu with
  | zero =>
    intro x1 x2 x3 w H locs ls hw hS hl hf
    rw [fx_hoursFor_4] at hf
    exact no_n hf
  | succ fu ih =>
    intro x1 x2 x3 w H locs ls hw hS hl hf
    rw [fx_hoursFor_4] at hf
    refine lv_iload_n hx hb dX3_hoursFor_4 rfl (lv_at hl 3 rfl) ?_
    refine lv_aload_n hx hb dX3_hoursFor_5 rfl (lv_at hl 0 rfl) ?_
    refine z_get (v := .int (w.1 0 3)) hx hb hts hiX3_hoursFor_X3 hown hK hw (k := 0) kc_0.2 ((cX_a0 kc_0.1) _) rfl 3 (by decide) (hts (.fieldLink RX3 73 "OneSentence" "people" "I") (by decide +kernel)) rfl dX3_hoursFor_6 ?_
    refine lv_icmp_ge (tgt := 34) hx hb dX3_hoursFor_9 (by decide) (fun c9 => ?_) (fun c9 => ?_)
    · replace hf := if_t hf c9
      refine lv_iload_n hx hb dX3_hoursFor_34 rfl (lv_at hl 2 rfl) ?_
      exact z_iret hx hb hr hlk hw hS hf dX3_hoursFor_35
    · replace hf := if_f hf c9
      refine lv_iload_n hx hb dX3_hoursFor_12 rfl (lv_at hl 1 rfl) ?_
      refine lv_iload_n hx hb dX3_hoursFor_13 rfl (lv_at hl 3 rfl) ?_
      obtain ⟨v14, h14, hf⟩ := bd_e hf
      refine z_calls (va_runS (As := [.int x1, .int x3]) (rest := []) ⟨hx, hb, hml, hown, hts⟩ (kx_has l x1 x3 h14) (va_cwS 2 hts gX3_hoursFor_X3_has rfl rfl rfl (by decide +kernel) ⟨Nat.le_of_ble_eq_true rfl, Nat.le_of_ble_eq_true rfl⟩) z_preT rfl rfl hl.1 rfl (lv_room (Nat.le_of_ble_eq_true rfl)) dX3_hoursFor_14 ⟨Nat.le_of_ble_eq_true rfl, Nat.le_of_ble_eq_true rfl⟩) ?_
      refine lv_if_eq (tgt := 28) hx hb dX3_hoursFor_17 (by decide) (fun c17 => ?_) (fun c17 => ?_)
      · replace hf := if_t hf c17
        exact wx_hoursFor_28 hJ C0 hK hE _ ih _ _ _ _ _ _ _ hw hS (lv_sub hl [0, 1, 2, 3] rfl) hf
      · replace hf := if_f hf c17
        refine lv_iload_n hx hb dX3_hoursFor_20 rfl (lv_at hl 2 rfl) ?_
        refine lv_aload_n hx hb dX3_hoursFor_21 rfl (lv_at hl 0 rfl) ?_
        refine lv_iload_n hx hb dX3_hoursFor_22 rfl (lv_at hl 3 rfl) ?_
        obtain ⟨q23, h23, hf⟩ := bd_e hf
        refine z_calli (va_runV (As := [.int x3]) (rest := [.int x2]) ⟨hx, hb, hml, hown, hts⟩ (kx_hoursFrom l (D := D) (K := K) (t0 := t0) hJ x3 w  h23) (cwV 1 hts gX3_hoursFor_X3_hoursFrom rfl rfl rfl (by decide +kernel) ⟨Nat.le_of_ble_eq_true rfl, Nat.le_of_ble_eq_true rfl⟩) (z_preV eX_ok hK hE hw hS kc_0.2 ((cX_a0 kc_0.1) _) (T := TX3) (M := 18) rfl) rfl rfl hl.1 rfl (lv_room (Nat.le_of_ble_eq_true rfl)) dX3_hoursFor_23 ⟨Nat.le_of_ble_eq_true rfl, Nat.le_of_ble_eq_true rfl⟩) hS (fun H locs hw hS => ?_)
        refine lv_iadd hx hb dX3_hoursFor_26 ?_
        refine lv_topi (fun v27 e27 => ?_)
        replace hf := lb_e hf e27
        refine lv_istore_n (lv' := [(2, .int v27), (0, .ref (L 0)), (1, .int x1), (3, .int x3)]) hx hb dX3_hoursFor_27 rfl hl (by decide) rfl (fun ls hl => ?_)
        exact wx_hoursFor_28 hJ C0 hK hE _ ih _ _ _ _ _ _ _ hw hS (lv_sub hl [1, 2, 0, 3] rfl) hf
set_option maxHeartbeats 4000000 in
set_option maxRecDepth 100000 in
theorem wx_hoursFor_0 {p : Program} {l : Launch} {e : Env} {s : State} {m : MethodId} {args : Array Value} {below : List Frame} {meth : Method} {c : Code} {D : va_G} {L : Nat → Nat} {K : Nat → ClassId} {t0 : Nat} (hJ : gj L 81) (C0 : gC cX3_hoursFor 4 (some .int) wsX3_hoursFor RX3 p s m args meth c) (hK : va_K D vwCl (tyG K) s) (hE : eX L t0 s) {w9 : St} {rs : Int32} : ∀ (x1 : Int32) (w : St) (H : Heap) (locs : List Loc) (ls : Array Slot), va_P D vwCl (gl L 81 (cX L K w)) H → va_S (gA L 81) s.heap H locs → lv_has ls 4 [(0, .ref (L 0)), (1, .int x1)] → fx_hoursFor x1 w = some (rs, w9) → W p l e { frames := 2, cells := 0, slots := 0, locals := 42 } s m args below meth c H locs 0 0 (MQ below (qI D L 81 (cX L K) rs w9) args s 0 0 (gA L 81)) (F0 m 0 ls []) := by
  obtain ⟨hx, hb, hr, hml, hown, hts, hlk⟩ := id C0
  intro x1 w H locs ls hw hS hl hf
  unfold fx_hoursFor at hf
  refine lv_iconst (v := 0) hx hb dX3_hoursFor_0 (by decide) ?_
  refine lv_istore_n (lv' := [(2, .int 0), (0, .ref (L 0)), (1, .int x1)]) hx hb dX3_hoursFor_1 rfl hl (by decide) rfl (fun ls hl => ?_)
  refine lv_iconst (v := 0) hx hb dX3_hoursFor_2 (by decide) ?_
  refine lv_istore_n (lv' := [(3, .int 0), (2, .int 0), (0, .ref (L 0)), (1, .int x1)]) hx hb dX3_hoursFor_3 rfl hl (by decide) rfl (fun ls hl => ?_)
  exact wx_hoursFor_4 hJ C0 hK hE _ _ _ _ _ _ _ _ hw hS (lv_sub hl [2, 3, 1, 0] rfl) hf
set_option maxHeartbeats 4000000 in
set_option maxRecDepth 100000 in
theorem kx_hoursFor (l : Launch) {D : va_G} {L : Nat → Nat} {K : Nat → ClassId} {t0 : Nat} (hJ : gj L 81) (x1 : Int32) (w : St) {w9 : St} {rs : Int32} (hf : fx_hoursFor x1 w = some (rs, w9)) : Met l yX3_hoursFor wsX3_hoursFor ({ frames := 2, cells := 0, slots := 0, locals := 42 }) (va_Pc [.ref (L 0), .int x1] (xP D L K t0 w)) (qI D L 81 (cX L K) rs w9) 0 0 (gA L 81) := by
  refine g_met (cc := cX3_hoursFor) (nL := 4) (ret := (some .int)) (by decide) rfl (Nat.le_of_ble_eq_true rfl) (fun p e s m below meth c ls C0 hP hl => ?_)
  exact wx_hoursFor_0 hJ C0 hP.2.1 hP.2.2 _ w _ _ ls hP.1 va_S.rf (lv_sub hl [0, 1] rfl) hf
theorem dJ6_compare_7cf53_0 : decode cJ6_compare_7cf53 0 = .ok (.iload_n 0, 1) := by decide +kernel
theorem dJ6_compare_7cf53_1 : decode cJ6_compare_7cf53 1 = .ok (.iload_n 1, 1) := by decide +kernel
theorem dJ6_compare_7cf53_2 : decode cJ6_compare_7cf53 2 = .ok (.if_icmp .ge 7, 3) := by decide +kernel
theorem dJ6_compare_7cf53_5 : decode cJ6_compare_7cf53 5 = .ok (.iconst (-1), 1) := by decide +kernel
theorem dJ6_compare_7cf53_6 : decode cJ6_compare_7cf53 6 = .ok (.goto 13, 3) := by decide +kernel
theorem dJ6_compare_7cf53_9 : decode cJ6_compare_7cf53 9 = .ok (.iload_n 0, 1) := by decide +kernel
theorem dJ6_compare_7cf53_10 : decode cJ6_compare_7cf53 10 = .ok (.iload_n 1, 1) := by decide +kernel
theorem dJ6_compare_7cf53_11 : decode cJ6_compare_7cf53 11 = .ok (.if_icmp .ne 7, 3) := by decide +kernel
theorem dJ6_compare_7cf53_14 : decode cJ6_compare_7cf53 14 = .ok (.iconst 0, 1) := by decide +kernel
theorem dJ6_compare_7cf53_15 : decode cJ6_compare_7cf53 15 = .ok (.goto 4, 3) := by decide +kernel
theorem dJ6_compare_7cf53_18 : decode cJ6_compare_7cf53 18 = .ok (.iconst 1, 1) := by decide +kernel
theorem dJ6_compare_7cf53_19 : decode cJ6_compare_7cf53 19 = .ok (.ireturn, 1) := by decide +kernel
set_option maxHeartbeats 4000000 in
set_option maxRecDepth 100000 in
theorem wj_compare_0 {p : Program} {l : Launch} {e : Env} {s : State} {m : MethodId} {args : Array Value} {below : List Frame} {meth : Method} {c : Code} (C0 : gC cJ6_compare_7cf53 2 (some .int) wsJ6_compare_7cf53 RJ6 p s m args meth c) {rs : Int32} : ∀ (x0 : Int32) (x1 : Int32) (ls : Array Slot), lv_has ls 2 [(0, .int x0), (1, .int x1)] → fj_compare x0 x1 = some rs → W p l e { frames := 0, cells := 0, slots := 0, locals := 0 } s m args below meth c s.heap [] 0 0 (MQ below (qS rs) args s 0 0 (fun _ => False)) (F0 m 0 ls []) := by
  obtain ⟨hx, hb, hr, hml, hown, hts, hlk⟩ := id C0
  intro x0 x1 ls hl hf
  unfold fj_compare at hf
  refine lv_iload_n hx hb dJ6_compare_7cf53_0 rfl (lv_at hl 0 rfl) ?_
  refine lv_iload_n hx hb dJ6_compare_7cf53_1 rfl (lv_at hl 1 rfl) ?_
  refine lv_icmp_ge (tgt := 9) hx hb dJ6_compare_7cf53_2 (by decide) (fun c2 => ?_) (fun c2 => ?_)
  · replace hf := if_t hf c2
    refine lv_iload_n hx hb dJ6_compare_7cf53_9 rfl (lv_at hl 0 rfl) ?_
    refine lv_iload_n hx hb dJ6_compare_7cf53_10 rfl (lv_at hl 1 rfl) ?_
    refine lv_icmp_ne (tgt := 18) hx hb dJ6_compare_7cf53_11 (by decide) (fun c11 => ?_) (fun c11 => ?_)
    · replace hf := if_f hf c11
      refine lv_iconst (v := 1) hx hb dJ6_compare_7cf53_18 (by decide) ?_
      exact z_sret hx hb hr hlk hf dJ6_compare_7cf53_19
    · replace hf := if_t hf c11
      refine lv_iconst (v := 0) hx hb dJ6_compare_7cf53_14 (by decide) ?_
      refine lv_goto (tgt := 19) hx hb dJ6_compare_7cf53_15 (by decide) ?_
      exact z_sret hx hb hr hlk hf dJ6_compare_7cf53_19
  · replace hf := if_f hf c2
    refine lv_iconst (v := (-1)) hx hb dJ6_compare_7cf53_5 (by decide) ?_
    refine lv_goto (tgt := 19) hx hb dJ6_compare_7cf53_6 (by decide) ?_
    exact z_sret hx hb hr hlk hf dJ6_compare_7cf53_19
set_option maxHeartbeats 4000000 in
set_option maxRecDepth 100000 in
theorem kj_compare (l : Launch) (x0 : Int32) (x1 : Int32) {rs : Int32} (hf : fj_compare x0 x1 = some rs) : Met l yJ6_compare_7cf53 wsJ6_compare_7cf53 ({ frames := 0, cells := 0, slots := 0, locals := 0 }) (va_Pc [.int x0, .int x1] (fun _ => True)) (qS rs) 0 0 (fun _ => False) := by
  refine g_met (cc := cJ6_compare_7cf53) (nL := 2) (ret := (some .int)) (by decide) rfl (Nat.le_of_ble_eq_true rfl) (fun p e s m below meth c ls C0 _ hl => ?_)
  exact wj_compare_0 C0 _ _ ls (lv_sub hl [0, 1] rfl) hf
set_option maxRecDepth 20000 in
theorem ggX3_isCheaper_X3_hoursFor : GoodIn wsX3_isCheaper wsX3_hoursFor := goodIn_r _ [5, 6, 7, 8, 4, 9, 10, 11, 12, 13, 14, 15, 16, 17, 18, 19, 20, 21, 22, 23, 34, 35, 36, 37, 38, 39, 40, 41, 42, 43, 44, 45, 46, 47, 48, 49, 50, 51] (by decide +kernel) (by decide +kernel)
set_option maxRecDepth 20000 in
theorem gX3_isCheaper_X3_hoursFor : GoodIn wsX3_isCheaper (wsV RX3 168 RX3 yX3_hoursFor wsX3_hoursFor) := goodIn_app (goodIn_of _ (by decide +kernel)) ggX3_isCheaper_X3_hoursFor
set_option maxRecDepth 20000 in
theorem ggX3_isCheaper_J6_compare_7cf53 : GoodIn wsX3_isCheaper wsJ6_compare_7cf53 := goodIn_r _ [27] (by decide +kernel) (by decide +kernel)
set_option maxRecDepth 20000 in
theorem gX3_isCheaper_J6_compare_7cf53 : GoodIn wsX3_isCheaper (va_wsS RX3 251 yJ6_compare_7cf53 wsJ6_compare_7cf53) := goodIn_app (goodIn_of _ (by decide +kernel)) ggX3_isCheaper_J6_compare_7cf53
set_option maxRecDepth 20000 in
theorem ggX3_isCheaper_J6_bitCount_0f7a4 : GoodIn wsX3_isCheaper wsJ6_bitCount_0f7a4 := goodIn_r _ [30, 31, 32, 33] (by decide +kernel) (by decide +kernel)
set_option maxRecDepth 20000 in
theorem gX3_isCheaper_J6_bitCount_0f7a4 : GoodIn wsX3_isCheaper (va_wsS RX3 119 yJ6_bitCount_0f7a4 wsJ6_bitCount_0f7a4) := goodIn_app (goodIn_of _ (by decide +kernel)) ggX3_isCheaper_J6_bitCount_0f7a4
theorem dX3_isCheaper_0 : decode cX3_isCheaper 0 = .ok (.aload_n 0, 1) := by decide +kernel
theorem dX3_isCheaper_1 : decode cX3_isCheaper 1 = .ok (.iload_n 1, 1) := by decide +kernel
theorem dX3_isCheaper_2 : decode cX3_isCheaper 2 = .ok (.invokevirtual 168, 3) := by decide +kernel
theorem dX3_isCheaper_5 : decode cX3_isCheaper 5 = .ok (.aload_n 0, 1) := by decide +kernel
theorem dX3_isCheaper_6 : decode cX3_isCheaper 6 = .ok (.iload_n 2, 1) := by decide +kernel
theorem dX3_isCheaper_7 : decode cX3_isCheaper 7 = .ok (.invokevirtual 168, 3) := by decide +kernel
theorem dX3_isCheaper_10 : decode cX3_isCheaper 10 = .ok (.invokestatic 251, 3) := by decide +kernel
theorem dX3_isCheaper_13 : decode cX3_isCheaper 13 = .ok (.istore_n 3, 1) := by decide +kernel
theorem dX3_isCheaper_14 : decode cX3_isCheaper 14 = .ok (.iload_n 3, 1) := by decide +kernel
theorem dX3_isCheaper_15 : decode cX3_isCheaper 15 = .ok (.ifCond .eq 13, 3) := by decide +kernel
theorem dX3_isCheaper_18 : decode cX3_isCheaper 18 = .ok (.iload_n 3, 1) := by decide +kernel
theorem dX3_isCheaper_19 : decode cX3_isCheaper 19 = .ok (.ifCond .ge 7, 3) := by decide +kernel
theorem dX3_isCheaper_22 : decode cX3_isCheaper 22 = .ok (.iconst 1, 1) := by decide +kernel
theorem dX3_isCheaper_23 : decode cX3_isCheaper 23 = .ok (.goto 4, 3) := by decide +kernel
theorem dX3_isCheaper_26 : decode cX3_isCheaper 26 = .ok (.iconst 0, 1) := by decide +kernel
theorem dX3_isCheaper_27 : decode cX3_isCheaper 27 = .ok (.ireturn, 1) := by decide +kernel
theorem dX3_isCheaper_28 : decode cX3_isCheaper 28 = .ok (.iload_n 1, 1) := by decide +kernel
theorem dX3_isCheaper_29 : decode cX3_isCheaper 29 = .ok (.invokestatic 119, 3) := by decide +kernel
theorem dX3_isCheaper_32 : decode cX3_isCheaper 32 = .ok (.iload_n 2, 1) := by decide +kernel
theorem dX3_isCheaper_33 : decode cX3_isCheaper 33 = .ok (.invokestatic 119, 3) := by decide +kernel
theorem dX3_isCheaper_36 : decode cX3_isCheaper 36 = .ok (.invokestatic 251, 3) := by decide +kernel
theorem dX3_isCheaper_39 : decode cX3_isCheaper 39 = .ok (.istore 4, 2) := by decide +kernel
theorem dX3_isCheaper_41 : decode cX3_isCheaper 41 = .ok (.iload 4, 2) := by decide +kernel
theorem dX3_isCheaper_43 : decode cX3_isCheaper 43 = .ok (.ifCond .eq 16, 3) := by decide +kernel
theorem dX3_isCheaper_46 : decode cX3_isCheaper 46 = .ok (.iload 4, 2) := by decide +kernel
theorem dX3_isCheaper_48 : decode cX3_isCheaper 48 = .ok (.ifCond .ge 7, 3) := by decide +kernel
theorem dX3_isCheaper_51 : decode cX3_isCheaper 51 = .ok (.iconst 1, 1) := by decide +kernel
theorem dX3_isCheaper_52 : decode cX3_isCheaper 52 = .ok (.goto 17, 3) := by decide +kernel
theorem dX3_isCheaper_55 : decode cX3_isCheaper 55 = .ok (.iconst 0, 1) := by decide +kernel
theorem dX3_isCheaper_56 : decode cX3_isCheaper 56 = .ok (.goto 13, 3) := by decide +kernel
theorem dX3_isCheaper_59 : decode cX3_isCheaper 59 = .ok (.iload_n 1, 1) := by decide +kernel
theorem dX3_isCheaper_60 : decode cX3_isCheaper 60 = .ok (.iload_n 2, 1) := by decide +kernel
theorem dX3_isCheaper_61 : decode cX3_isCheaper 61 = .ok (.if_icmp .ge 7, 3) := by decide +kernel
theorem dX3_isCheaper_64 : decode cX3_isCheaper 64 = .ok (.iconst 1, 1) := by decide +kernel
theorem dX3_isCheaper_65 : decode cX3_isCheaper 65 = .ok (.goto 4, 3) := by decide +kernel
theorem dX3_isCheaper_68 : decode cX3_isCheaper 68 = .ok (.iconst 0, 1) := by decide +kernel
theorem dX3_isCheaper_69 : decode cX3_isCheaper 69 = .ok (.ireturn, 1) := by decide +kernel
set_option maxHeartbeats 4000000 in
set_option maxRecDepth 100000 in
theorem wx_isCheaper_0 {p : Program} {l : Launch} {e : Env} {s : State} {m : MethodId} {args : Array Value} {below : List Frame} {meth : Method} {c : Code} {D : va_G} {L : Nat → Nat} {K : Nat → ClassId} {t0 : Nat} (hJ : gj L 81) (C0 : gC cX3_isCheaper 5 (some .boolean) wsX3_isCheaper RX3 p s m args meth c) (hK : va_K D vwCl (tyG K) s) (hE : eX L t0 s) {w9 : St} {rs : Int32} : ∀ (x1 : Int32) (x2 : Int32) (w : St) (H : Heap) (locs : List Loc) (ls : Array Slot), va_P D vwCl (gl L 81 (cX L K w)) H → va_S (gA L 81) s.heap H locs → lv_has ls 5 [(0, .ref (L 0)), (1, .int x1), (2, .int x2)] → fx_isCheaper x1 x2 w = some (rs, w9) → W p l e { frames := 3, cells := 0, slots := 0, locals := 65 } s m args below meth c H locs 0 0 (MQ below (qI D L 81 (cX L K) rs w9) args s 0 0 (gA L 81)) (F0 m 0 ls []) := by
  obtain ⟨hx, hb, hr, hml, hown, hts, hlk⟩ := id C0
  intro x1 x2 w H locs ls hw hS hl hf
  unfold fx_isCheaper at hf
  refine lv_aload_n hx hb dX3_isCheaper_0 rfl (lv_at hl 0 rfl) ?_
  refine lv_iload_n hx hb dX3_isCheaper_1 rfl (lv_at hl 1 rfl) ?_
  obtain ⟨q2, h2, hf⟩ := bd_e hf
  refine z_calli (va_runV (As := [.int x1]) (rest := []) ⟨hx, hb, hml, hown, hts⟩ (kx_hoursFor l (D := D) (K := K) (t0 := t0) hJ x1 w  h2) (cwV 1 hts gX3_isCheaper_X3_hoursFor rfl rfl rfl (by decide +kernel) ⟨Nat.le_of_ble_eq_true rfl, Nat.le_of_ble_eq_true rfl⟩) (z_preV eX_ok hK hE hw hS kc_0.2 ((cX_a0 kc_0.1) _) (T := TX3) (M := 18) rfl) rfl rfl hl.1 rfl (lv_room (Nat.le_of_ble_eq_true rfl)) dX3_isCheaper_2 ⟨Nat.le_of_ble_eq_true rfl, Nat.le_of_ble_eq_true rfl⟩) hS (fun H locs hw hS => ?_)
  refine lv_aload_n hx hb dX3_isCheaper_5 rfl (lv_at hl 0 rfl) ?_
  refine lv_iload_n hx hb dX3_isCheaper_6 rfl (lv_at hl 2 rfl) ?_
  obtain ⟨q7, h7, hf⟩ := bd_e hf
  refine z_calli (va_runV (As := [.int x2]) (rest := [.int (q2.1)]) ⟨hx, hb, hml, hown, hts⟩ (kx_hoursFor l (D := D) (K := K) (t0 := t0) hJ x2 (q2.2)  h7) (cwV 1 hts gX3_isCheaper_X3_hoursFor rfl rfl rfl (by decide +kernel) ⟨Nat.le_of_ble_eq_true rfl, Nat.le_of_ble_eq_true rfl⟩) (z_preV eX_ok hK hE hw hS kc_0.2 ((cX_a0 kc_0.1) _) (T := TX3) (M := 18) rfl) rfl rfl hl.1 rfl (lv_room (Nat.le_of_ble_eq_true rfl)) dX3_isCheaper_7 ⟨Nat.le_of_ble_eq_true rfl, Nat.le_of_ble_eq_true rfl⟩) hS (fun H locs hw hS => ?_)
  obtain ⟨v10, h10, hf⟩ := bd_e hf
  refine z_calls (va_runS (As := [.int (q2.1), .int (q7.1)]) (rest := []) ⟨hx, hb, hml, hown, hts⟩ (kj_compare l (q2.1) (q7.1) h10) (va_cwS 2 hts gX3_isCheaper_J6_compare_7cf53 rfl rfl rfl (by decide +kernel) ⟨Nat.le_of_ble_eq_true rfl, Nat.le_of_ble_eq_true rfl⟩) z_preT rfl rfl hl.1 rfl (lv_room (Nat.le_of_ble_eq_true rfl)) dX3_isCheaper_10 ⟨Nat.le_of_ble_eq_true rfl, Nat.le_of_ble_eq_true rfl⟩) ?_
  refine lv_istore_n (lv' := [(3, .int v10), (0, .ref (L 0)), (1, .int x1), (2, .int x2)]) hx hb dX3_isCheaper_13 rfl hl (by decide) rfl (fun ls hl => ?_)
  refine lv_iload_n hx hb dX3_isCheaper_14 rfl (lv_at hl 0 rfl) ?_
  refine lv_if_eq (tgt := 28) hx hb dX3_isCheaper_15 (by decide) (fun c15 => ?_) (fun c15 => ?_)
  · replace hf := if_t hf c15
    refine lv_iload_n hx hb dX3_isCheaper_28 rfl (lv_at hl 2 rfl) ?_
    obtain ⟨v29, h29, hf⟩ := bd_e hf
    refine z_calls (va_runS (As := [.int x1]) (rest := []) ⟨hx, hb, hml, hown, hts⟩ (kj_bitCount l x1 h29) (va_cwS 1 hts gX3_isCheaper_J6_bitCount_0f7a4 rfl rfl rfl (by decide +kernel) ⟨Nat.le_of_ble_eq_true rfl, Nat.le_of_ble_eq_true rfl⟩) z_preT rfl rfl hl.1 rfl (lv_room (Nat.le_of_ble_eq_true rfl)) dX3_isCheaper_29 ⟨Nat.le_of_ble_eq_true rfl, Nat.le_of_ble_eq_true rfl⟩) ?_
    refine lv_iload_n hx hb dX3_isCheaper_32 rfl (lv_at hl 3 rfl) ?_
    obtain ⟨v33, h33, hf⟩ := bd_e hf
    refine z_calls (va_runS (As := [.int x2]) (rest := [.int v29]) ⟨hx, hb, hml, hown, hts⟩ (kj_bitCount l x2 h33) (va_cwS 1 hts gX3_isCheaper_J6_bitCount_0f7a4 rfl rfl rfl (by decide +kernel) ⟨Nat.le_of_ble_eq_true rfl, Nat.le_of_ble_eq_true rfl⟩) z_preT rfl rfl hl.1 rfl (lv_room (Nat.le_of_ble_eq_true rfl)) dX3_isCheaper_33 ⟨Nat.le_of_ble_eq_true rfl, Nat.le_of_ble_eq_true rfl⟩) ?_
    obtain ⟨v36, h36, hf⟩ := bd_e hf
    refine z_calls (va_runS (As := [.int v29, .int v33]) (rest := []) ⟨hx, hb, hml, hown, hts⟩ (kj_compare l v29 v33 h36) (va_cwS 2 hts gX3_isCheaper_J6_compare_7cf53 rfl rfl rfl (by decide +kernel) ⟨Nat.le_of_ble_eq_true rfl, Nat.le_of_ble_eq_true rfl⟩) z_preT rfl rfl hl.1 rfl (lv_room (Nat.le_of_ble_eq_true rfl)) dX3_isCheaper_36 ⟨Nat.le_of_ble_eq_true rfl, Nat.le_of_ble_eq_true rfl⟩) ?_
    refine lv_istore (lv' := [(4, .int v36), (3, .int v10), (0, .ref (L 0)), (1, .int x1), (2, .int x2)]) hx hb dX3_isCheaper_39 hl (by decide) rfl (fun ls hl => ?_)
    refine lv_iload hx hb dX3_isCheaper_41 (lv_at hl 0 rfl) ?_
    refine lv_if_eq (tgt := 59) hx hb dX3_isCheaper_43 (by decide) (fun c43 => ?_) (fun c43 => ?_)
    · replace hf := if_t hf c43
      refine lv_iload_n hx hb dX3_isCheaper_59 rfl (lv_at hl 3 rfl) ?_
      refine lv_iload_n hx hb dX3_isCheaper_60 rfl (lv_at hl 4 rfl) ?_
      refine lv_icmp_ge (tgt := 68) hx hb dX3_isCheaper_61 (by decide) (fun c61 => ?_) (fun c61 => ?_)
      · replace hf := if_t hf c61
        refine lv_iconst (v := 0) hx hb dX3_isCheaper_68 (by decide) ?_
        exact z_zret hx hb hr hlk rfl hw hS hf dX3_isCheaper_69
      · replace hf := if_f hf c61
        refine lv_iconst (v := 1) hx hb dX3_isCheaper_64 (by decide) ?_
        refine lv_goto (tgt := 69) hx hb dX3_isCheaper_65 (by decide) ?_
        exact z_zret hx hb hr hlk rfl hw hS hf dX3_isCheaper_69
    · replace hf := if_f hf c43
      refine lv_iload hx hb dX3_isCheaper_46 (lv_at hl 0 rfl) ?_
      refine lv_if_ge (tgt := 55) hx hb dX3_isCheaper_48 (by decide) (fun c48 => ?_) (fun c48 => ?_)
      · replace hf := if_t hf c48
        refine lv_iconst (v := 0) hx hb dX3_isCheaper_55 (by decide) ?_
        refine lv_goto (tgt := 69) hx hb dX3_isCheaper_56 (by decide) ?_
        exact z_zret hx hb hr hlk rfl hw hS hf dX3_isCheaper_69
      · replace hf := if_f hf c48
        refine lv_iconst (v := 1) hx hb dX3_isCheaper_51 (by decide) ?_
        refine lv_goto (tgt := 69) hx hb dX3_isCheaper_52 (by decide) ?_
        exact z_zret hx hb hr hlk rfl hw hS hf dX3_isCheaper_69
  · replace hf := if_f hf c15
    refine lv_iload_n hx hb dX3_isCheaper_18 rfl (lv_at hl 0 rfl) ?_
    refine lv_if_ge (tgt := 26) hx hb dX3_isCheaper_19 (by decide) (fun c19 => ?_) (fun c19 => ?_)
    · replace hf := if_t hf c19
      refine lv_iconst (v := 0) hx hb dX3_isCheaper_26 (by decide) ?_
      exact z_zret hx hb hr hlk rfl hw hS hf dX3_isCheaper_27
    · replace hf := if_f hf c19
      refine lv_iconst (v := 1) hx hb dX3_isCheaper_22 (by decide) ?_
      refine lv_goto (tgt := 27) hx hb dX3_isCheaper_23 (by decide) ?_
      exact z_zret hx hb hr hlk rfl hw hS hf dX3_isCheaper_27
set_option maxHeartbeats 4000000 in
set_option maxRecDepth 100000 in
theorem kx_isCheaper (l : Launch) {D : va_G} {L : Nat → Nat} {K : Nat → ClassId} {t0 : Nat} (hJ : gj L 81) (x1 : Int32) (x2 : Int32) (w : St) {w9 : St} {rs : Int32} (hf : fx_isCheaper x1 x2 w = some (rs, w9)) : Met l yX3_isCheaper wsX3_isCheaper ({ frames := 3, cells := 0, slots := 0, locals := 65 }) (va_Pc [.ref (L 0), .int x1, .int x2] (xP D L K t0 w)) (qI D L 81 (cX L K) rs w9) 0 0 (gA L 81) := by
  refine g_met (cc := cX3_isCheaper) (nL := 5) (ret := (some .boolean)) (by decide) rfl (Nat.le_of_ble_eq_true rfl) (fun p e s m below meth c ls C0 hP hl => ?_)
  exact wx_isCheaper_0 hJ C0 hP.2.1 hP.2.2 _ _ w _ _ ls hP.1 va_S.rf (lv_sub hl [0, 1, 2] rfl) hf
set_option maxRecDepth 20000 in
theorem ggX3_bestFetch_X1_many : GoodIn wsX3_bestFetch wsX1_many := goodIn_r _ [6, 7, 8, 9, 10, 120, 121] (by decide +kernel) (by decide +kernel)
set_option maxRecDepth 20000 in
theorem gX3_bestFetch_X1_many_n174 : GoodIn wsX3_bestFetch (wsX1_many) := ggX3_bestFetch_X1_many
set_option maxRecDepth 20000 in
theorem ggX3_bestFetch_X1_told : GoodIn wsX3_bestFetch wsX1_told := goodIn_r _ [13, 7, 14, 120, 121] (by decide +kernel) (by decide +kernel)
set_option maxRecDepth 20000 in
theorem gX3_bestFetch_X1_told_n177 : GoodIn wsX3_bestFetch (wsX1_told) := ggX3_bestFetch_X1_told
set_option maxRecDepth 20000 in
theorem ggX3_bestFetch_X3_everybody : GoodIn wsX3_bestFetch wsX3_everybody := goodIn_r _ [18, 19, 98, 99, 100, 101, 102, 103, 104, 105, 106, 107, 108, 109, 110, 111, 112, 113, 114, 115] (by decide +kernel) (by decide +kernel)
set_option maxRecDepth 20000 in
theorem gX3_bestFetch_X3_everybody : GoodIn wsX3_bestFetch (wsV RX3 162 RX3 yX3_everybody wsX3_everybody) := goodIn_app (goodIn_of _ (by decide +kernel)) ggX3_bestFetch_X3_everybody
set_option maxRecDepth 20000 in
theorem ggX3_bestFetch_X3_isTold : GoodIn wsX3_bestFetch wsX3_isTold := goodIn_r _ [23, 24, 25, 26, 27, 9, 28, 2, 29, 30, 31, 32, 33, 34, 35, 36, 37, 38, 39, 40, 41, 42, 43, 44, 45, 46, 47, 48, 49, 50, 51, 52, 53, 54, 55, 56, 57, 58, 59, 60, 61, 62, 98, 99, 100, 101, 102, 103, 104, 105, 106, 107, 108, 109, 110, 111, 112, 113, 114, 115, 122, 123, 124, 125, 116, 117, 118, 119] (by decide +kernel) (by decide +kernel)
set_option maxRecDepth 20000 in
theorem gX3_bestFetch_X3_isTold : GoodIn wsX3_bestFetch (wsV RX3 180 RX3 yX3_isTold wsX3_isTold) := goodIn_app (goodIn_of _ (by decide +kernel)) ggX3_bestFetch_X3_isTold
set_option maxRecDepth 20000 in
theorem ggX3_bestFetch_X3_speakersIn : GoodIn wsX3_bestFetch wsX3_speakersIn := goodIn_r _ [65, 37, 38, 9, 39] (by decide +kernel) (by decide +kernel)
set_option maxRecDepth 20000 in
theorem gX3_bestFetch_X3_speakersIn : GoodIn wsX3_bestFetch (va_wsS RX3 184 yX3_speakersIn wsX3_speakersIn) := goodIn_app (goodIn_of _ (by decide +kernel)) ggX3_bestFetch_X3_speakersIn
set_option maxRecDepth 20000 in
theorem ggX3_bestFetch_X3_isCheaper : GoodIn wsX3_bestFetch wsX3_isCheaper := goodIn_r _ [69, 70, 71, 72, 9, 73, 19, 45, 46, 47, 74, 75, 76, 77, 78, 79, 80, 81, 82, 83, 84, 85, 86, 87, 88, 89, 90, 91, 92, 93, 94, 95, 96, 97, 98, 99, 100, 101, 102, 103, 104, 105, 106, 107, 108, 109, 110, 111, 112, 113, 114, 115] (by decide +kernel) (by decide +kernel)
set_option maxRecDepth 20000 in
theorem gX3_bestFetch_X3_isCheaper : GoodIn wsX3_bestFetch (wsV RX3 248 RX3 yX3_isCheaper wsX3_isCheaper) := goodIn_app (goodIn_of _ (by decide +kernel)) ggX3_bestFetch_X3_isCheaper
theorem dX3_bestFetch_0 : decode cX3_bestFetch 0 = .ok (.iload_n 3, 1) := by decide +kernel
theorem dX3_bestFetch_1 : decode cX3_bestFetch 1 = .ok (.istore 4, 2) := by decide +kernel
theorem dX3_bestFetch_3 : decode cX3_bestFetch 3 = .ok (.aload_n 0, 1) := by decide +kernel
theorem dX3_bestFetch_4 : decode cX3_bestFetch 4 = .ok (.getfield 48, 3) := by decide +kernel
theorem dX3_bestFetch_7 : decode cX3_bestFetch 7 = .ok (.iload_n 1, 1) := by decide +kernel
theorem dX3_bestFetch_8 : decode cX3_bestFetch 8 = .ok (.invokevirtual 174, 3) := by decide +kernel
theorem dX3_bestFetch_11 : decode cX3_bestFetch 11 = .ok (.istore 5, 2) := by decide +kernel
theorem dX3_bestFetch_13 : decode cX3_bestFetch 13 = .ok (.iconst 0, 1) := by decide +kernel
theorem dX3_bestFetch_14 : decode cX3_bestFetch 14 = .ok (.istore 6, 2) := by decide +kernel
theorem dX3_bestFetch_16 : decode cX3_bestFetch 16 = .ok (.iload 6, 2) := by decide +kernel
theorem dX3_bestFetch_18 : decode cX3_bestFetch 18 = .ok (.iload 5, 2) := by decide +kernel
theorem dX3_bestFetch_20 : decode cX3_bestFetch 20 = .ok (.if_icmp .ge 76, 3) := by decide +kernel
theorem dX3_bestFetch_23 : decode cX3_bestFetch 23 = .ok (.aload_n 0, 1) := by decide +kernel
theorem dX3_bestFetch_24 : decode cX3_bestFetch 24 = .ok (.getfield 48, 3) := by decide +kernel
theorem dX3_bestFetch_27 : decode cX3_bestFetch 27 = .ok (.iload 6, 2) := by decide +kernel
theorem dX3_bestFetch_29 : decode cX3_bestFetch 29 = .ok (.iload_n 1, 1) := by decide +kernel
theorem dX3_bestFetch_30 : decode cX3_bestFetch 30 = .ok (.invokevirtual 177, 3) := by decide +kernel
theorem dX3_bestFetch_33 : decode cX3_bestFetch 33 = .ok (.istore 7, 2) := by decide +kernel
theorem dX3_bestFetch_35 : decode cX3_bestFetch 35 = .ok (.aload_n 0, 1) := by decide +kernel
theorem dX3_bestFetch_36 : decode cX3_bestFetch 36 = .ok (.iload_n 1, 1) := by decide +kernel
theorem dX3_bestFetch_37 : decode cX3_bestFetch 37 = .ok (.iload 7, 2) := by decide +kernel
theorem dX3_bestFetch_39 : decode cX3_bestFetch 39 = .ok (.aload_n 0, 1) := by decide +kernel
theorem dX3_bestFetch_40 : decode cX3_bestFetch 40 = .ok (.invokevirtual 162, 3) := by decide +kernel
theorem dX3_bestFetch_43 : decode cX3_bestFetch 43 = .ok (.iload_n 2, 1) := by decide +kernel
theorem dX3_bestFetch_44 : decode cX3_bestFetch 44 = .ok (.invokevirtual 180, 3) := by decide +kernel
theorem dX3_bestFetch_47 : decode cX3_bestFetch 47 = .ok (.ifCond .eq 43, 3) := by decide +kernel
theorem dX3_bestFetch_50 : decode cX3_bestFetch 50 = .ok (.iload_n 1, 1) := by decide +kernel
theorem dX3_bestFetch_51 : decode cX3_bestFetch 51 = .ok (.iload 7, 2) := by decide +kernel
theorem dX3_bestFetch_53 : decode cX3_bestFetch 53 = .ok (.invokestatic 184, 3) := by decide +kernel
theorem dX3_bestFetch_56 : decode cX3_bestFetch 56 = .ok (.aload_n 0, 1) := by decide +kernel
theorem dX3_bestFetch_57 : decode cX3_bestFetch 57 = .ok (.getfield 23, 3) := by decide +kernel
theorem dX3_bestFetch_60 : decode cX3_bestFetch 60 = .ok (.getfield 93, 3) := by decide +kernel
theorem dX3_bestFetch_63 : decode cX3_bestFetch 63 = .ok (.iconst (-1), 1) := by decide +kernel
theorem dX3_bestFetch_64 : decode cX3_bestFetch 64 = .ok (.ixor, 1) := by decide +kernel
theorem dX3_bestFetch_65 : decode cX3_bestFetch 65 = .ok (.iand, 1) := by decide +kernel
theorem dX3_bestFetch_66 : decode cX3_bestFetch 66 = .ok (.istore 8, 2) := by decide +kernel
theorem dX3_bestFetch_68 : decode cX3_bestFetch 68 = .ok (.iload 4, 2) := by decide +kernel
theorem dX3_bestFetch_70 : decode cX3_bestFetch 70 = .ok (.bipush (-9), 2) := by decide +kernel
theorem dX3_bestFetch_72 : decode cX3_bestFetch 72 = .ok (.if_icmp .eq 14, 3) := by decide +kernel
theorem dX3_bestFetch_75 : decode cX3_bestFetch 75 = .ok (.aload_n 0, 1) := by decide +kernel
theorem dX3_bestFetch_76 : decode cX3_bestFetch 76 = .ok (.iload 8, 2) := by decide +kernel
theorem dX3_bestFetch_78 : decode cX3_bestFetch 78 = .ok (.iload 4, 2) := by decide +kernel
theorem dX3_bestFetch_80 : decode cX3_bestFetch 80 = .ok (.invokevirtual 248, 3) := by decide +kernel
theorem dX3_bestFetch_83 : decode cX3_bestFetch 83 = .ok (.ifCond .eq 7, 3) := by decide +kernel
theorem dX3_bestFetch_86 : decode cX3_bestFetch 86 = .ok (.iload 8, 2) := by decide +kernel
theorem dX3_bestFetch_88 : decode cX3_bestFetch 88 = .ok (.istore 4, 2) := by decide +kernel
theorem dX3_bestFetch_90 : decode cX3_bestFetch 90 = .ok (.iinc 6 1, 3) := by decide +kernel
theorem dX3_bestFetch_93 : decode cX3_bestFetch 93 = .ok (.goto (-77), 3) := by decide +kernel
theorem dX3_bestFetch_96 : decode cX3_bestFetch 96 = .ok (.iload 4, 2) := by decide +kernel
theorem dX3_bestFetch_98 : decode cX3_bestFetch 98 = .ok (.ireturn, 1) := by decide +kernel
set_option maxRecDepth 20000 in
theorem hiX3_bestFetch_X0 : ∀ w ∈ u_ws RX0 TX0 4, w ∈ wsX3_bestFetch := by decide +kernel
set_option maxRecDepth 20000 in
theorem hiX3_bestFetch_X3 : ∀ w ∈ u_ws RX3 TX3 18, w ∈ wsX3_bestFetch := by decide +kernel
set_option maxHeartbeats 4000000 in
set_option maxRecDepth 100000 in
theorem wx_bestFetch_90 {p : Program} {l : Launch} {e : Env} {s : State} {m : MethodId} {args : Array Value} {below : List Frame} {meth : Method} {c : Code} {D : va_G} {L : Nat → Nat} {K : Nat → ClassId} {t0 : Nat} (hJ : gj L 81) (C0 : gC cX3_bestFetch 9 (some .int) wsX3_bestFetch RX3 p s m args meth c) (hK : va_K D vwCl (tyG K) s) (hE : eX L t0 s) {w9 : St} {rs : Int32} (k16 : Int32 → Int32 → Int32 → Int32 → Int32 → St → Option (Int32 × St)) (i16 : ∀ (x1 : Int32) (x2 : Int32) (x4 : Int32) (x5 : Int32) (x6 : Int32) (w : St) (H : Heap) (locs : List Loc) (ls : Array Slot), va_P D vwCl (gl L 81 (cX L K w)) H → va_S (gA L 81) s.heap H locs → lv_has ls 9 [(0, .ref (L 0)), (1, .int x1), (2, .int x2), (4, .int x4), (5, .int x5), (6, .int x6)] → k16 x1 x2 x4 x5 x6 w = some (rs, w9) → W p l e { frames := 5, cells := 0, slots := 0, locals := 118 } s m args below meth c H locs 0 0 (MQ below (qI D L 81 (cX L K) rs w9) args s 0 0 (gA L 81)) (F0 m 16 ls [])) : ∀ (x1 : Int32) (x2 : Int32) (x4 : Int32) (x5 : Int32) (x6 : Int32) (w : St) (H : Heap) (locs : List Loc) (ls : Array Slot), va_P D vwCl (gl L 81 (cX L K w)) H → va_S (gA L 81) s.heap H locs → lv_has ls 9 [(0, .ref (L 0)), (1, .int x1), (2, .int x2), (4, .int x4), (5, .int x5), (6, .int x6)] → fx_bestFetch_90 k16 x1 x2 x4 x5 x6 w = some (rs, w9) → W p l e { frames := 5, cells := 0, slots := 0, locals := 118 } s m args below meth c H locs 0 0 (MQ below (qI D L 81 (cX L K) rs w9) args s 0 0 (gA L 81)) (F0 m 90 ls []) := by
  obtain ⟨hx, hb, hr, hml, hown, hts, hlk⟩ := id C0
  intro x1 x2 x4 x5 x6 w H locs ls hw hS hl hf
  unfold fx_bestFetch_90 at hf
  refine lv_iinc (v := (x6 + 1)) (lv' := [(6, .int (x6 + 1)), (0, .ref (L 0)), (1, .int x1), (2, .int x2), (4, .int x4), (5, .int x5)]) hx hb dX3_bestFetch_90 hl (k := 5) rfl rfl (by decide) rfl (fun ls hl => ?_)
  refine lv_goto (tgt := 16) hx hb dX3_bestFetch_93 (by decide) ?_
  exact i16 _ _ _ _ _ _ _ _ _ hw hS (lv_sub hl [1, 2, 3, 4, 5, 0] rfl) hf
set_option maxHeartbeats 4000000 in
set_option maxRecDepth 100000 in
theorem wx_bestFetch_86 {p : Program} {l : Launch} {e : Env} {s : State} {m : MethodId} {args : Array Value} {below : List Frame} {meth : Method} {c : Code} {D : va_G} {L : Nat → Nat} {K : Nat → ClassId} {t0 : Nat} (hJ : gj L 81) (C0 : gC cX3_bestFetch 9 (some .int) wsX3_bestFetch RX3 p s m args meth c) (hK : va_K D vwCl (tyG K) s) (hE : eX L t0 s) {w9 : St} {rs : Int32} (k16 : Int32 → Int32 → Int32 → Int32 → Int32 → St → Option (Int32 × St)) (i16 : ∀ (x1 : Int32) (x2 : Int32) (x4 : Int32) (x5 : Int32) (x6 : Int32) (w : St) (H : Heap) (locs : List Loc) (ls : Array Slot), va_P D vwCl (gl L 81 (cX L K w)) H → va_S (gA L 81) s.heap H locs → lv_has ls 9 [(0, .ref (L 0)), (1, .int x1), (2, .int x2), (4, .int x4), (5, .int x5), (6, .int x6)] → k16 x1 x2 x4 x5 x6 w = some (rs, w9) → W p l e { frames := 5, cells := 0, slots := 0, locals := 118 } s m args below meth c H locs 0 0 (MQ below (qI D L 81 (cX L K) rs w9) args s 0 0 (gA L 81)) (F0 m 16 ls [])) : ∀ (x1 : Int32) (x2 : Int32) (x5 : Int32) (x6 : Int32) (x8 : Int32) (w : St) (H : Heap) (locs : List Loc) (ls : Array Slot), va_P D vwCl (gl L 81 (cX L K w)) H → va_S (gA L 81) s.heap H locs → lv_has ls 9 [(0, .ref (L 0)), (1, .int x1), (2, .int x2), (5, .int x5), (6, .int x6), (8, .int x8)] → fx_bestFetch_86 k16 x1 x2 x5 x6 x8 w = some (rs, w9) → W p l e { frames := 5, cells := 0, slots := 0, locals := 118 } s m args below meth c H locs 0 0 (MQ below (qI D L 81 (cX L K) rs w9) args s 0 0 (gA L 81)) (F0 m 86 ls []) := by
  obtain ⟨hx, hb, hr, hml, hown, hts, hlk⟩ := id C0
  intro x1 x2 x5 x6 x8 w H locs ls hw hS hl hf
  unfold fx_bestFetch_86 at hf
  refine lv_iload hx hb dX3_bestFetch_86 (lv_at hl 5 rfl) ?_
  refine lv_istore (lv' := [(4, .int x8), (0, .ref (L 0)), (1, .int x1), (2, .int x2), (5, .int x5), (6, .int x6), (8, .int x8)]) hx hb dX3_bestFetch_88 hl (by decide) rfl (fun ls hl => ?_)
  exact wx_bestFetch_90 hJ C0 hK hE _ i16 _ _ _ _ _ _ _ _ _ hw hS (lv_sub hl [1, 2, 3, 0, 4, 5] rfl) hf
set_option maxHeartbeats 4000000 in
set_option maxRecDepth 100000 in
theorem wx_bestFetch_16 {p : Program} {l : Launch} {e : Env} {s : State} {m : MethodId} {args : Array Value} {below : List Frame} {meth : Method} {c : Code} {D : va_G} {L : Nat → Nat} {K : Nat → ClassId} {t0 : Nat} (hJ : gj L 81) (C0 : gC cX3_bestFetch 9 (some .int) wsX3_bestFetch RX3 p s m args meth c) (hK : va_K D vwCl (tyG K) s) (hE : eX L t0 s) {w9 : St} {rs : Int32} : ∀ (fu : Nat) (x1 : Int32) (x2 : Int32) (x4 : Int32) (x5 : Int32) (x6 : Int32) (w : St) (H : Heap) (locs : List Loc) (ls : Array Slot), va_P D vwCl (gl L 81 (cX L K w)) H → va_S (gA L 81) s.heap H locs → lv_has ls 9 [(0, .ref (L 0)), (1, .int x1), (2, .int x2), (4, .int x4), (5, .int x5), (6, .int x6)] → fx_bestFetch_16 fu x1 x2 x4 x5 x6 w = some (rs, w9) → W p l e { frames := 5, cells := 0, slots := 0, locals := 118 } s m args below meth c H locs 0 0 (MQ below (qI D L 81 (cX L K) rs w9) args s 0 0 (gA L 81)) (F0 m 16 ls []) := by
  obtain ⟨hx, hb, hr, hml, hown, hts, hlk⟩ := id C0
  intro fu
  induction fu with
  | zero =>
    intro x1 x2 x4 x5 x6 w H locs ls hw hS hl hf
    rw [fx_bestFetch_16] at hf
    exact no_n hf
  | succ fu ih =>
    intro x1 x2 x4 x5 x6 w H locs ls hw hS hl hf
    rw [fx_bestFetch_16] at hf
    refine lv_iload hx hb dX3_bestFetch_16 (lv_at hl 5 rfl) ?_
    refine lv_iload hx hb dX3_bestFetch_18 (lv_at hl 4 rfl) ?_
    refine lv_icmp_ge (tgt := 96) hx hb dX3_bestFetch_20 (by decide) (fun c20 => ?_) (fun c20 => ?_)
    · replace hf := if_t hf c20
      refine lv_iload hx hb dX3_bestFetch_96 (lv_at hl 3 rfl) ?_
      exact z_iret hx hb hr hlk hw hS hf dX3_bestFetch_98
    · replace hf := if_f hf c20
      refine lv_aload_n hx hb dX3_bestFetch_23 rfl (lv_at hl 0 rfl) ?_
      refine z_get (v := .ref (L 9)) hx hb hts hiX3_bestFetch_X3 hown hK hw (k := 0) kc_0.2 ((cX_a0 kc_0.1) _) rfl 14 (by decide) (hts (.fieldLink RX3 48 "OneSentence" "rows" "LOneSentence$Rows;") (by decide +kernel)) rfl dX3_bestFetch_24 ?_
      refine lv_iload hx hb dX3_bestFetch_27 (lv_at hl 5 rfl) ?_
      refine lv_iload_n hx hb dX3_bestFetch_29 rfl (lv_at hl 1 rfl) ?_
      obtain ⟨q30, h30, hf⟩ := bd_e hf
      refine z_calli (va_runVN (As := [.int x6, .int x1]) (rest := []) ⟨hx, hb, hml, hown, hts⟩ (kr_told l (D := D) (K := K) (t0 := t0) hJ x6 x1 w  h30) ⟨va_cnB 2 hts gX3_bestFetch_X1_told_n177 rfl rfl rfl (hE.2.1 (RX3, 177, yX1_told, "OneSentence") (by decide)) (hts (.initialized RX1) (by decide +kernel)) (by decide +kernel) ⟨Nat.le_of_ble_eq_true rfl, Nat.le_of_ble_eq_true rfl⟩, hts (.instanceMethod yX1_told) (by decide +kernel), hts (.selects RX1 yX1_told yX1_told) (by decide +kernel)⟩ (z_preV eX_ok hK hE hw hS kc_9.2 ((cX_a3 kc_9.1) _) (T := TX1) (M := 2) rfl) rfl rfl hl.1 rfl (lv_room (Nat.le_of_ble_eq_true rfl)) dX3_bestFetch_30 ⟨Nat.le_of_ble_eq_true rfl, Nat.le_of_ble_eq_true rfl⟩) hS (fun H locs hw hS => ?_)
      refine lv_topi (fun v33 e33 => ?_)
      replace hf := lb_e hf e33
      refine lv_istore (lv' := [(7, .int v33), (0, .ref (L 0)), (1, .int x1), (2, .int x2), (4, .int x4), (5, .int x5), (6, .int x6)]) hx hb dX3_bestFetch_33 hl (by decide) rfl (fun ls hl => ?_)
      refine lv_aload_n hx hb dX3_bestFetch_35 rfl (lv_at hl 1 rfl) ?_
      refine lv_iload_n hx hb dX3_bestFetch_36 rfl (lv_at hl 2 rfl) ?_
      refine lv_iload hx hb dX3_bestFetch_37 (lv_at hl 0 rfl) ?_
      refine lv_aload_n hx hb dX3_bestFetch_39 rfl (lv_at hl 1 rfl) ?_
      obtain ⟨q40, h40, hf⟩ := bd_e hf
      refine z_calli (va_runV (As := []) (rest := [.int v33, .int x1, .ref (L 0)]) ⟨hx, hb, hml, hown, hts⟩ (kx_everybody l (D := D) (K := K) (t0 := t0) hJ (q30.2)  h40) (cwV 0 hts gX3_bestFetch_X3_everybody rfl rfl rfl (by decide +kernel) ⟨Nat.le_of_ble_eq_true rfl, Nat.le_of_ble_eq_true rfl⟩) (z_preV eX_ok hK hE hw hS kc_0.2 ((cX_a0 kc_0.1) _) (T := TX3) (M := 18) rfl) rfl rfl hl.1 rfl (lv_room (Nat.le_of_ble_eq_true rfl)) dX3_bestFetch_40 ⟨Nat.le_of_ble_eq_true rfl, Nat.le_of_ble_eq_true rfl⟩) hS (fun H locs hw hS => ?_)
      refine lv_iload_n hx hb dX3_bestFetch_43 rfl (lv_at hl 3 rfl) ?_
      obtain ⟨q44, h44, hf⟩ := bd_e hf
      refine z_calli (va_runV (As := [.int x1, .int v33, .int (q40.1), .int x2]) (rest := []) ⟨hx, hb, hml, hown, hts⟩ (kx_isTold l (D := D) (K := K) (t0 := t0) hJ x1 v33 (q40.1) x2 (q40.2)  h44) (cwV 4 hts gX3_bestFetch_X3_isTold rfl rfl rfl (by decide +kernel) ⟨Nat.le_of_ble_eq_true rfl, Nat.le_of_ble_eq_true rfl⟩) (z_preV eX_ok hK hE hw hS kc_0.2 ((cX_a0 kc_0.1) _) (T := TX3) (M := 18) rfl) rfl rfl hl.1 rfl (lv_room (Nat.le_of_ble_eq_true rfl)) dX3_bestFetch_44 ⟨Nat.le_of_ble_eq_true rfl, Nat.le_of_ble_eq_true rfl⟩) hS (fun H locs hw hS => ?_)
      refine lv_if_eq (tgt := 90) hx hb dX3_bestFetch_47 (by decide) (fun c47 => ?_) (fun c47 => ?_)
      · replace hf := if_t hf c47
        exact wx_bestFetch_90 hJ C0 hK hE _ ih _ _ _ _ _ _ _ _ _ hw hS (lv_sub hl [1, 2, 3, 4, 5, 6] rfl) hf
      · replace hf := if_f hf c47
        refine lv_iload_n hx hb dX3_bestFetch_50 rfl (lv_at hl 2 rfl) ?_
        refine lv_iload hx hb dX3_bestFetch_51 (lv_at hl 0 rfl) ?_
        obtain ⟨v53, h53, hf⟩ := bd_e hf
        refine z_calls (va_runS (As := [.int x1, .int v33]) (rest := []) ⟨hx, hb, hml, hown, hts⟩ (kx_speakersIn l x1 v33 h53) (va_cwS 2 hts gX3_bestFetch_X3_speakersIn rfl rfl rfl (by decide +kernel) ⟨Nat.le_of_ble_eq_true rfl, Nat.le_of_ble_eq_true rfl⟩) z_preT rfl rfl hl.1 rfl (lv_room (Nat.le_of_ble_eq_true rfl)) dX3_bestFetch_53 ⟨Nat.le_of_ble_eq_true rfl, Nat.le_of_ble_eq_true rfl⟩) ?_
        refine lv_aload_n hx hb dX3_bestFetch_56 rfl (lv_at hl 1 rfl) ?_
        refine z_get (v := .ref (L 13)) hx hb hts hiX3_bestFetch_X3 hown hK hw (k := 0) kc_0.2 ((cX_a0 kc_0.1) _) rfl 6 (by decide) (hts (.fieldLink RX3 23 "OneSentence" "today" "LOneSentence$Day;") (by decide +kernel)) rfl dX3_bestFetch_57 ?_
        refine z_getN (v := .int ((q44.2).1 13 1)) hx hb hts hiX3_bestFetch_X0 hown hK hw (k := 13) kc_13.2 ((cX_a2 kc_13.1) _) rfl 1 (by decide) (hE.1 (RX3, 93, "OneSentence$Day", "at", "I", "OneSentence") (by decide)) rfl dX3_bestFetch_60 ?_
        refine lv_iconst (v := (-1)) hx hb dX3_bestFetch_63 (by decide) ?_
        refine lv_ixor hx hb dX3_bestFetch_64 ?_
        refine lv_iand hx hb dX3_bestFetch_65 ?_
        refine lv_topi (fun v66 e66 => ?_)
        replace hf := lb_e hf e66
        refine lv_istore (lv' := [(8, .int v66), (7, .int v33), (0, .ref (L 0)), (1, .int x1), (2, .int x2), (4, .int x4), (5, .int x5), (6, .int x6)]) hx hb dX3_bestFetch_66 hl (by decide) rfl (fun ls hl => ?_)
        refine lv_iload hx hb dX3_bestFetch_68 (lv_at hl 5 rfl) ?_
        refine lv_bipush (v := (-9)) hx hb dX3_bestFetch_70 (by decide) ?_
        refine lv_icmp_eq (tgt := 86) hx hb dX3_bestFetch_72 (by decide) (fun c72 => ?_) (fun c72 => ?_)
        · replace hf := if_t hf c72
          exact wx_bestFetch_86 hJ C0 hK hE _ ih _ _ _ _ _ _ _ _ _ hw hS (lv_sub hl [2, 3, 4, 6, 7, 0] rfl) hf
        · replace hf := if_f hf c72
          refine lv_aload_n hx hb dX3_bestFetch_75 rfl (lv_at hl 2 rfl) ?_
          refine lv_iload hx hb dX3_bestFetch_76 (lv_at hl 0 rfl) ?_
          refine lv_iload hx hb dX3_bestFetch_78 (lv_at hl 5 rfl) ?_
          obtain ⟨q80, h80, hf⟩ := bd_e hf
          refine z_calli (va_runV (As := [.int v66, .int x4]) (rest := []) ⟨hx, hb, hml, hown, hts⟩ (kx_isCheaper l (D := D) (K := K) (t0 := t0) hJ v66 x4 (q44.2)  h80) (cwV 2 hts gX3_bestFetch_X3_isCheaper rfl rfl rfl (by decide +kernel) ⟨Nat.le_of_ble_eq_true rfl, Nat.le_of_ble_eq_true rfl⟩) (z_preV eX_ok hK hE hw hS kc_0.2 ((cX_a0 kc_0.1) _) (T := TX3) (M := 18) rfl) rfl rfl hl.1 rfl (lv_room (Nat.le_of_ble_eq_true rfl)) dX3_bestFetch_80 ⟨Nat.le_of_ble_eq_true rfl, Nat.le_of_ble_eq_true rfl⟩) hS (fun H locs hw hS => ?_)
          refine lv_if_eq (tgt := 90) hx hb dX3_bestFetch_83 (by decide) (fun c83 => ?_) (fun c83 => ?_)
          · replace hf := if_t hf c83
            exact wx_bestFetch_90 hJ C0 hK hE _ ih _ _ _ _ _ _ _ _ _ hw hS (lv_sub hl [2, 3, 4, 5, 6, 7] rfl) hf
          · replace hf := if_f hf c83
            exact wx_bestFetch_86 hJ C0 hK hE _ ih _ _ _ _ _ _ _ _ _ hw hS (lv_sub hl [2, 3, 4, 6, 7, 0] rfl) hf
set_option maxHeartbeats 4000000 in
set_option maxRecDepth 100000 in
theorem wx_bestFetch_0 {p : Program} {l : Launch} {e : Env} {s : State} {m : MethodId} {args : Array Value} {below : List Frame} {meth : Method} {c : Code} {D : va_G} {L : Nat → Nat} {K : Nat → ClassId} {t0 : Nat} (hJ : gj L 81) (C0 : gC cX3_bestFetch 9 (some .int) wsX3_bestFetch RX3 p s m args meth c) (hK : va_K D vwCl (tyG K) s) (hE : eX L t0 s) {w9 : St} {rs : Int32} : ∀ (x1 : Int32) (x2 : Int32) (x3 : Int32) (w : St) (H : Heap) (locs : List Loc) (ls : Array Slot), va_P D vwCl (gl L 81 (cX L K w)) H → va_S (gA L 81) s.heap H locs → lv_has ls 9 [(0, .ref (L 0)), (1, .int x1), (2, .int x2), (3, .int x3)] → fx_bestFetch x1 x2 x3 w = some (rs, w9) → W p l e { frames := 5, cells := 0, slots := 0, locals := 118 } s m args below meth c H locs 0 0 (MQ below (qI D L 81 (cX L K) rs w9) args s 0 0 (gA L 81)) (F0 m 0 ls []) := by
  obtain ⟨hx, hb, hr, hml, hown, hts, hlk⟩ := id C0
  intro x1 x2 x3 w H locs ls hw hS hl hf
  unfold fx_bestFetch at hf
  refine lv_iload_n hx hb dX3_bestFetch_0 rfl (lv_at hl 3 rfl) ?_
  refine lv_istore (lv' := [(4, .int x3), (0, .ref (L 0)), (1, .int x1), (2, .int x2), (3, .int x3)]) hx hb dX3_bestFetch_1 hl (by decide) rfl (fun ls hl => ?_)
  refine lv_aload_n hx hb dX3_bestFetch_3 rfl (lv_at hl 1 rfl) ?_
  refine z_get (v := .ref (L 9)) hx hb hts hiX3_bestFetch_X3 hown hK hw (k := 0) kc_0.2 ((cX_a0 kc_0.1) _) rfl 14 (by decide) (hts (.fieldLink RX3 48 "OneSentence" "rows" "LOneSentence$Rows;") (by decide +kernel)) rfl dX3_bestFetch_4 ?_
  refine lv_iload_n hx hb dX3_bestFetch_7 rfl (lv_at hl 2 rfl) ?_
  obtain ⟨q8, h8, hf⟩ := bd_e hf
  refine z_calli (va_runVN (As := [.int x1]) (rest := []) ⟨hx, hb, hml, hown, hts⟩ (kr_many l (D := D) (K := K) (t0 := t0) hJ x1 w  h8) ⟨va_cnB 1 hts gX3_bestFetch_X1_many_n174 rfl rfl rfl (hE.2.1 (RX3, 174, yX1_many, "OneSentence") (by decide)) (hts (.initialized RX1) (by decide +kernel)) (by decide +kernel) ⟨Nat.le_of_ble_eq_true rfl, Nat.le_of_ble_eq_true rfl⟩, hts (.instanceMethod yX1_many) (by decide +kernel), hts (.selects RX1 yX1_many yX1_many) (by decide +kernel)⟩ (z_preV eX_ok hK hE hw hS kc_9.2 ((cX_a3 kc_9.1) _) (T := TX1) (M := 2) rfl) rfl rfl hl.1 rfl (lv_room (Nat.le_of_ble_eq_true rfl)) dX3_bestFetch_8 ⟨Nat.le_of_ble_eq_true rfl, Nat.le_of_ble_eq_true rfl⟩) hS (fun H locs hw hS => ?_)
  refine lv_topi (fun v11 e11 => ?_)
  replace hf := lb_e hf e11
  refine lv_istore (lv' := [(5, .int v11), (4, .int x3), (0, .ref (L 0)), (1, .int x1), (2, .int x2), (3, .int x3)]) hx hb dX3_bestFetch_11 hl (by decide) rfl (fun ls hl => ?_)
  refine lv_iconst (v := 0) hx hb dX3_bestFetch_13 (by decide) ?_
  refine lv_istore (lv' := [(6, .int 0), (5, .int v11), (4, .int x3), (0, .ref (L 0)), (1, .int x1), (2, .int x2), (3, .int x3)]) hx hb dX3_bestFetch_14 hl (by decide) rfl (fun ls hl => ?_)
  exact wx_bestFetch_16 hJ C0 hK hE _ _ _ _ _ _ _ _ _ _ hw hS (lv_sub hl [3, 4, 5, 2, 1, 0] rfl) hf
set_option maxHeartbeats 4000000 in
set_option maxRecDepth 100000 in
theorem kx_bestFetch (l : Launch) {D : va_G} {L : Nat → Nat} {K : Nat → ClassId} {t0 : Nat} (hJ : gj L 81) (x1 : Int32) (x2 : Int32) (x3 : Int32) (w : St) {w9 : St} {rs : Int32} (hf : fx_bestFetch x1 x2 x3 w = some (rs, w9)) : Met l yX3_bestFetch wsX3_bestFetch ({ frames := 5, cells := 0, slots := 0, locals := 118 }) (va_Pc [.ref (L 0), .int x1, .int x2, .int x3] (xP D L K t0 w)) (qI D L 81 (cX L K) rs w9) 0 0 (gA L 81) := by
  refine g_met (cc := cX3_bestFetch) (nL := 9) (ret := (some .int)) (by decide) rfl (Nat.le_of_ble_eq_true rfl) (fun p e s m below meth c ls C0 hP hl => ?_)
  exact wx_bestFetch_0 hJ C0 hP.2.1 hP.2.2 _ _ _ w _ _ ls hP.1 va_S.rf (lv_sub hl [0, 1, 2, 3] rfl) hf
set_option maxRecDepth 20000 in
theorem ggX3_toFetch_X3_isSense : GoodIn wsX3_toFetch wsX3_isSense := goodIn_r _ [5] (by decide +kernel) (by decide +kernel)
set_option maxRecDepth 20000 in
theorem gX3_toFetch_X3_isSense : GoodIn wsX3_toFetch (va_wsS RX3 149 yX3_isSense wsX3_isSense) := goodIn_app (goodIn_of _ (by decide +kernel)) ggX3_toFetch_X3_isSense
set_option maxRecDepth 20000 in
theorem ggX3_toFetch_X3_everybody : GoodIn wsX3_toFetch wsX3_everybody := goodIn_r _ [9, 10, 108, 109, 110, 111, 112, 113, 114, 115, 116, 117, 118, 119, 120, 121, 122, 123, 124, 125] (by decide +kernel) (by decide +kernel)
set_option maxRecDepth 20000 in
theorem gX3_toFetch_X3_everybody : GoodIn wsX3_toFetch (wsV RX3 162 RX3 yX3_everybody wsX3_everybody) := goodIn_app (goodIn_of _ (by decide +kernel)) ggX3_toFetch_X3_everybody
set_option maxRecDepth 20000 in
theorem ggX3_toFetch_X1_by : GoodIn wsX3_toFetch wsX1_by := goodIn_r _ [14, 15, 16, 17, 4, 18, 126, 127] (by decide +kernel) (by decide +kernel)
set_option maxRecDepth 20000 in
theorem gX3_toFetch_X1_by_n152 : GoodIn wsX3_toFetch (wsX1_by) := ggX3_toFetch_X1_by
set_option maxRecDepth 20000 in
theorem ggX3_toFetch_X3_bestFetch : GoodIn wsX3_toFetch wsX3_bestFetch := goodIn_r _ [22, 1, 23, 24, 12, 25, 26, 15, 27, 4, 28, 29, 30, 31, 16, 6, 7, 8, 9, 10, 32, 33, 34, 35, 36, 37, 38, 39, 40, 41, 42, 43, 44, 45, 46, 47, 48, 49, 50, 51, 52, 53, 54, 55, 56, 57, 17, 18, 58, 59, 60, 61, 62, 63, 64, 65, 66, 67, 68, 69, 70, 71, 72, 73, 74, 75, 76, 77, 78, 79, 80, 81, 82, 83, 84, 85, 86, 87, 88, 89, 90, 91, 92, 93, 94, 95, 96, 97, 98, 99, 100, 101, 102, 103, 104, 105, 106, 107, 108, 109, 110, 111, 112, 113, 114, 115, 116, 117, 118, 119, 120, 121, 122, 123, 124, 125, 128, 129, 130, 131, 126, 127, 132, 133, 134, 135] (by decide +kernel) (by decide +kernel)
set_option maxRecDepth 20000 in
theorem gX3_toFetch_X3_bestFetch : GoodIn wsX3_toFetch (wsV RX3 165 RX3 yX3_bestFetch wsX3_bestFetch) := goodIn_app (goodIn_of _ (by decide +kernel)) ggX3_toFetch_X3_bestFetch
set_option maxRecDepth 20000 in
theorem ggX3_toFetch_X3_hoursFor : GoodIn wsX3_toFetch wsX3_hoursFor := goodIn_r _ [83, 10, 57, 17, 4, 18, 84, 85, 86, 87, 88, 89, 90, 91, 92, 93, 94, 95, 96, 97, 108, 109, 110, 111, 112, 113, 114, 115, 116, 117, 118, 119, 120, 121, 122, 123, 124, 125] (by decide +kernel) (by decide +kernel)
set_option maxRecDepth 20000 in
theorem gX3_toFetch_X3_hoursFor : GoodIn wsX3_toFetch (wsV RX3 168 RX3 yX3_hoursFor wsX3_hoursFor) := goodIn_app (goodIn_of _ (by decide +kernel)) ggX3_toFetch_X3_hoursFor
theorem dX3_toFetch_0 : decode cX3_toFetch 0 = .ok (.iload_n 1, 1) := by decide +kernel
theorem dX3_toFetch_1 : decode cX3_toFetch 1 = .ok (.invokestatic 149, 3) := by decide +kernel
theorem dX3_toFetch_4 : decode cX3_toFetch 4 = .ok (.ifCond .ne 6, 3) := by decide +kernel
theorem dX3_toFetch_7 : decode cX3_toFetch 7 = .ok (.bipush (-2), 2) := by decide +kernel
theorem dX3_toFetch_9 : decode cX3_toFetch 9 = .ok (.ireturn, 1) := by decide +kernel
theorem dX3_toFetch_10 : decode cX3_toFetch 10 = .ok (.aload_n 0, 1) := by decide +kernel
theorem dX3_toFetch_11 : decode cX3_toFetch 11 = .ok (.getfield 48, 3) := by decide +kernel
theorem dX3_toFetch_14 : decode cX3_toFetch 14 = .ok (.aload_n 0, 1) := by decide +kernel
theorem dX3_toFetch_15 : decode cX3_toFetch 15 = .ok (.invokevirtual 162, 3) := by decide +kernel
theorem dX3_toFetch_18 : decode cX3_toFetch 18 = .ok (.invokevirtual 152, 3) := by decide +kernel
theorem dX3_toFetch_21 : decode cX3_toFetch 21 = .ok (.bipush (-9), 2) := by decide +kernel
theorem dX3_toFetch_23 : decode cX3_toFetch 23 = .ok (.istore_n 3, 1) := by decide +kernel
theorem dX3_toFetch_24 : decode cX3_toFetch 24 = .ok (.iconst 0, 1) := by decide +kernel
theorem dX3_toFetch_25 : decode cX3_toFetch 25 = .ok (.istore 4, 2) := by decide +kernel
theorem dX3_toFetch_27 : decode cX3_toFetch 27 = .ok (.iload 4, 2) := by decide +kernel
theorem dX3_toFetch_29 : decode cX3_toFetch 29 = .ok (.iconst 4, 1) := by decide +kernel
theorem dX3_toFetch_30 : decode cX3_toFetch 30 = .ok (.if_icmp .gt 18, 3) := by decide +kernel
theorem dX3_toFetch_33 : decode cX3_toFetch 33 = .ok (.aload_n 0, 1) := by decide +kernel
theorem dX3_toFetch_34 : decode cX3_toFetch 34 = .ok (.iload 4, 2) := by decide +kernel
theorem dX3_toFetch_36 : decode cX3_toFetch 36 = .ok (.iload_n 1, 1) := by decide +kernel
theorem dX3_toFetch_37 : decode cX3_toFetch 37 = .ok (.iload_n 3, 1) := by decide +kernel
theorem dX3_toFetch_38 : decode cX3_toFetch 38 = .ok (.invokevirtual 165, 3) := by decide +kernel
theorem dX3_toFetch_41 : decode cX3_toFetch 41 = .ok (.istore_n 3, 1) := by decide +kernel
theorem dX3_toFetch_42 : decode cX3_toFetch 42 = .ok (.iinc 4 1, 3) := by decide +kernel
theorem dX3_toFetch_45 : decode cX3_toFetch 45 = .ok (.goto (-18), 3) := by decide +kernel
theorem dX3_toFetch_48 : decode cX3_toFetch 48 = .ok (.iload_n 3, 1) := by decide +kernel
theorem dX3_toFetch_49 : decode cX3_toFetch 49 = .ok (.bipush (-9), 2) := by decide +kernel
theorem dX3_toFetch_51 : decode cX3_toFetch 51 = .ok (.if_icmp .ne 6, 3) := by decide +kernel
theorem dX3_toFetch_54 : decode cX3_toFetch 54 = .ok (.bipush (-9), 2) := by decide +kernel
theorem dX3_toFetch_56 : decode cX3_toFetch 56 = .ok (.ireturn, 1) := by decide +kernel
theorem dX3_toFetch_57 : decode cX3_toFetch 57 = .ok (.iload_n 2, 1) := by decide +kernel
theorem dX3_toFetch_58 : decode cX3_toFetch 58 = .ok (.ifCond .eq 11, 3) := by decide +kernel
theorem dX3_toFetch_61 : decode cX3_toFetch 61 = .ok (.aload_n 0, 1) := by decide +kernel
theorem dX3_toFetch_62 : decode cX3_toFetch 62 = .ok (.iload_n 3, 1) := by decide +kernel
theorem dX3_toFetch_63 : decode cX3_toFetch 63 = .ok (.invokevirtual 168, 3) := by decide +kernel
theorem dX3_toFetch_66 : decode cX3_toFetch 66 = .ok (.goto 4, 3) := by decide +kernel
theorem dX3_toFetch_69 : decode cX3_toFetch 69 = .ok (.iload_n 3, 1) := by decide +kernel
theorem dX3_toFetch_70 : decode cX3_toFetch 70 = .ok (.ireturn, 1) := by decide +kernel
set_option maxRecDepth 20000 in
theorem hiX3_toFetch_X3 : ∀ w ∈ u_ws RX3 TX3 18, w ∈ wsX3_toFetch := by decide +kernel
set_option maxHeartbeats 4000000 in
set_option maxRecDepth 100000 in
theorem wx_toFetch_27 {p : Program} {l : Launch} {e : Env} {s : State} {m : MethodId} {args : Array Value} {below : List Frame} {meth : Method} {c : Code} {D : va_G} {L : Nat → Nat} {K : Nat → ClassId} {t0 : Nat} (hJ : gj L 81) (C0 : gC cX3_toFetch 5 (some .int) wsX3_toFetch RX3 p s m args meth c) (hK : va_K D vwCl (tyG K) s) (hE : eX L t0 s) {w9 : St} {rs : Int32} : ∀ (fu : Nat) (x1 : Int32) (x2 : Int32) (x3 : Int32) (x4 : Int32) (w : St) (H : Heap) (locs : List Loc) (ls : Array Slot), va_P D vwCl (gl L 81 (cX L K w)) H → va_S (gA L 81) s.heap H locs → lv_has ls 5 [(0, .ref (L 0)), (1, .int x1), (2, .int x2), (3, .int x3), (4, .int x4)] → fx_toFetch_27 fu x1 x2 x3 x4 w = some (rs, w9) → W p l e { frames := 6, cells := 0, slots := 0, locals := 146 } s m args below meth c H locs 0 0 (MQ below (qI D L 81 (cX L K) rs w9) args s 0 0 (gA L 81)) (F0 m 27 ls []) := by
  obtain ⟨hx, hb, hr, hml, hown, hts, hlk⟩ := id C0
  intro fu
  induction fu with
  | zero =>
    intro x1 x2 x3 x4 w H locs ls hw hS hl hf
    rw [fx_toFetch_27] at hf
    exact no_n hf
  | succ fu ih =>
    intro x1 x2 x3 x4 w H locs ls hw hS hl hf
    rw [fx_toFetch_27] at hf
    refine lv_iload hx hb dX3_toFetch_27 (lv_at hl 4 rfl) ?_
    refine lv_iconst (v := 4) hx hb dX3_toFetch_29 (by decide) ?_
    refine lv_icmp_gt (tgt := 48) hx hb dX3_toFetch_30 (by decide) (fun c30 => ?_) (fun c30 => ?_)
    · replace hf := if_t hf c30
      refine lv_iload_n hx hb dX3_toFetch_48 rfl (lv_at hl 3 rfl) ?_
      refine lv_bipush (v := (-9)) hx hb dX3_toFetch_49 (by decide) ?_
      refine lv_icmp_ne (tgt := 57) hx hb dX3_toFetch_51 (by decide) (fun c51 => ?_) (fun c51 => ?_)
      · replace hf := if_f hf c51
        refine lv_iload_n hx hb dX3_toFetch_57 rfl (lv_at hl 2 rfl) ?_
        refine lv_if_eq (tgt := 69) hx hb dX3_toFetch_58 (by decide) (fun c58 => ?_) (fun c58 => ?_)
        · replace hf := if_t hf c58
          refine lv_iload_n hx hb dX3_toFetch_69 rfl (lv_at hl 3 rfl) ?_
          exact z_iret hx hb hr hlk hw hS hf dX3_toFetch_70
        · replace hf := if_f hf c58
          refine lv_aload_n hx hb dX3_toFetch_61 rfl (lv_at hl 0 rfl) ?_
          refine lv_iload_n hx hb dX3_toFetch_62 rfl (lv_at hl 3 rfl) ?_
          obtain ⟨q63, h63, hf⟩ := bd_e hf
          refine z_calli (va_runV (As := [.int x3]) (rest := []) ⟨hx, hb, hml, hown, hts⟩ (kx_hoursFor l (D := D) (K := K) (t0 := t0) hJ x3 w  h63) (cwV 1 hts gX3_toFetch_X3_hoursFor rfl rfl rfl (by decide +kernel) ⟨Nat.le_of_ble_eq_true rfl, Nat.le_of_ble_eq_true rfl⟩) (z_preV eX_ok hK hE hw hS kc_0.2 ((cX_a0 kc_0.1) _) (T := TX3) (M := 18) rfl) rfl rfl hl.1 rfl (lv_room (Nat.le_of_ble_eq_true rfl)) dX3_toFetch_63 ⟨Nat.le_of_ble_eq_true rfl, Nat.le_of_ble_eq_true rfl⟩) hS (fun H locs hw hS => ?_)
          refine lv_goto (tgt := 70) hx hb dX3_toFetch_66 (by decide) ?_
          exact z_iret hx hb hr hlk hw hS hf dX3_toFetch_70
      · replace hf := if_t hf c51
        refine lv_bipush (v := (-9)) hx hb dX3_toFetch_54 (by decide) ?_
        exact z_iret hx hb hr hlk hw hS hf dX3_toFetch_56
    · replace hf := if_f hf c30
      refine lv_aload_n hx hb dX3_toFetch_33 rfl (lv_at hl 0 rfl) ?_
      refine lv_iload hx hb dX3_toFetch_34 (lv_at hl 4 rfl) ?_
      refine lv_iload_n hx hb dX3_toFetch_36 rfl (lv_at hl 1 rfl) ?_
      refine lv_iload_n hx hb dX3_toFetch_37 rfl (lv_at hl 3 rfl) ?_
      obtain ⟨q38, h38, hf⟩ := bd_e hf
      refine z_calli (va_runV (As := [.int x4, .int x1, .int x3]) (rest := []) ⟨hx, hb, hml, hown, hts⟩ (kx_bestFetch l (D := D) (K := K) (t0 := t0) hJ x4 x1 x3 w  h38) (cwV 3 hts gX3_toFetch_X3_bestFetch rfl rfl rfl (by decide +kernel) ⟨Nat.le_of_ble_eq_true rfl, Nat.le_of_ble_eq_true rfl⟩) (z_preV eX_ok hK hE hw hS kc_0.2 ((cX_a0 kc_0.1) _) (T := TX3) (M := 18) rfl) rfl rfl hl.1 rfl (lv_room (Nat.le_of_ble_eq_true rfl)) dX3_toFetch_38 ⟨Nat.le_of_ble_eq_true rfl, Nat.le_of_ble_eq_true rfl⟩) hS (fun H locs hw hS => ?_)
      refine lv_topi (fun v41 e41 => ?_)
      replace hf := lb_e hf e41
      refine lv_istore_n (lv' := [(3, .int v41), (0, .ref (L 0)), (1, .int x1), (2, .int x2), (4, .int x4)]) hx hb dX3_toFetch_41 rfl hl (by decide) rfl (fun ls hl => ?_)
      refine lv_iinc (v := (x4 + 1)) (lv' := [(4, .int (x4 + 1)), (3, .int v41), (0, .ref (L 0)), (1, .int x1), (2, .int x2)]) hx hb dX3_toFetch_42 hl (k := 4) rfl rfl (by decide) rfl (fun ls hl => ?_)
      refine lv_goto (tgt := 27) hx hb dX3_toFetch_45 (by decide) ?_
      exact ih _ _ _ _ _ _ _ _ hw hS (lv_sub hl [2, 3, 4, 1, 0] rfl) hf
set_option maxHeartbeats 4000000 in
set_option maxRecDepth 100000 in
theorem wx_toFetch_0 {p : Program} {l : Launch} {e : Env} {s : State} {m : MethodId} {args : Array Value} {below : List Frame} {meth : Method} {c : Code} {D : va_G} {L : Nat → Nat} {K : Nat → ClassId} {t0 : Nat} (hJ : gj L 81) (C0 : gC cX3_toFetch 5 (some .int) wsX3_toFetch RX3 p s m args meth c) (hK : va_K D vwCl (tyG K) s) (hE : eX L t0 s) {w9 : St} {rs : Int32} : ∀ (x1 : Int32) (x2 : Int32) (w : St) (H : Heap) (locs : List Loc) (ls : Array Slot), va_P D vwCl (gl L 81 (cX L K w)) H → va_S (gA L 81) s.heap H locs → lv_has ls 5 [(0, .ref (L 0)), (1, .int x1), (2, .int x2)] → fx_toFetch x1 x2 w = some (rs, w9) → W p l e { frames := 6, cells := 0, slots := 0, locals := 146 } s m args below meth c H locs 0 0 (MQ below (qI D L 81 (cX L K) rs w9) args s 0 0 (gA L 81)) (F0 m 0 ls []) := by
  obtain ⟨hx, hb, hr, hml, hown, hts, hlk⟩ := id C0
  intro x1 x2 w H locs ls hw hS hl hf
  unfold fx_toFetch at hf
  refine lv_iload_n hx hb dX3_toFetch_0 rfl (lv_at hl 1 rfl) ?_
  obtain ⟨v1, h1, hf⟩ := bd_e hf
  refine z_calls (va_runS (As := [.int x1]) (rest := []) ⟨hx, hb, hml, hown, hts⟩ (kx_isSense l x1 h1) (va_cwS 1 hts gX3_toFetch_X3_isSense rfl rfl rfl (by decide +kernel) ⟨Nat.le_of_ble_eq_true rfl, Nat.le_of_ble_eq_true rfl⟩) z_preT rfl rfl hl.1 rfl (lv_room (Nat.le_of_ble_eq_true rfl)) dX3_toFetch_1 ⟨Nat.le_of_ble_eq_true rfl, Nat.le_of_ble_eq_true rfl⟩) ?_
  refine lv_if_ne (tgt := 10) hx hb dX3_toFetch_4 (by decide) (fun c4 => ?_) (fun c4 => ?_)
  · replace hf := if_f hf c4
    refine lv_aload_n hx hb dX3_toFetch_10 rfl (lv_at hl 0 rfl) ?_
    refine z_get (v := .ref (L 9)) hx hb hts hiX3_toFetch_X3 hown hK hw (k := 0) kc_0.2 ((cX_a0 kc_0.1) _) rfl 14 (by decide) (hts (.fieldLink RX3 48 "OneSentence" "rows" "LOneSentence$Rows;") (by decide +kernel)) rfl dX3_toFetch_11 ?_
    refine lv_aload_n hx hb dX3_toFetch_14 rfl (lv_at hl 0 rfl) ?_
    obtain ⟨q15, h15, hf⟩ := bd_e hf
    refine z_calli (va_runV (As := []) (rest := [.ref (L 9)]) ⟨hx, hb, hml, hown, hts⟩ (kx_everybody l (D := D) (K := K) (t0 := t0) hJ w  h15) (cwV 0 hts gX3_toFetch_X3_everybody rfl rfl rfl (by decide +kernel) ⟨Nat.le_of_ble_eq_true rfl, Nat.le_of_ble_eq_true rfl⟩) (z_preV eX_ok hK hE hw hS kc_0.2 ((cX_a0 kc_0.1) _) (T := TX3) (M := 18) rfl) rfl rfl hl.1 rfl (lv_room (Nat.le_of_ble_eq_true rfl)) dX3_toFetch_15 ⟨Nat.le_of_ble_eq_true rfl, Nat.le_of_ble_eq_true rfl⟩) hS (fun H locs hw hS => ?_)
    obtain ⟨w18, h18, hf⟩ := bd_e hf
    refine z_callv (va_runVN (As := [.int (q15.1)]) (rest := []) ⟨hx, hb, hml, hown, hts⟩ (kr_by l (D := D) (K := K) (t0 := t0) hJ (q15.1) (q15.2)  h18) ⟨va_cnB 1 hts gX3_toFetch_X1_by_n152 rfl rfl rfl (hE.2.1 (RX3, 152, yX1_by, "OneSentence") (by decide)) (hts (.initialized RX1) (by decide +kernel)) (by decide +kernel) ⟨Nat.le_of_ble_eq_true rfl, Nat.le_of_ble_eq_true rfl⟩, hts (.instanceMethod yX1_by) (by decide +kernel), hts (.selects RX1 yX1_by yX1_by) (by decide +kernel)⟩ (z_preV eX_ok hK hE hw hS kc_9.2 ((cX_a3 kc_9.1) _) (T := TX1) (M := 2) rfl) rfl rfl hl.1 rfl (lv_room (Nat.le_of_ble_eq_true rfl)) dX3_toFetch_18 ⟨Nat.le_of_ble_eq_true rfl, Nat.le_of_ble_eq_true rfl⟩) hS (fun H locs hw hS => ?_)
    refine lv_bipush (v := (-9)) hx hb dX3_toFetch_21 (by decide) ?_
    refine lv_istore_n (lv' := [(3, .int (-9)), (0, .ref (L 0)), (1, .int x1), (2, .int x2)]) hx hb dX3_toFetch_23 rfl hl (by decide) rfl (fun ls hl => ?_)
    refine lv_iconst (v := 0) hx hb dX3_toFetch_24 (by decide) ?_
    refine lv_istore (lv' := [(4, .int 0), (3, .int (-9)), (0, .ref (L 0)), (1, .int x1), (2, .int x2)]) hx hb dX3_toFetch_25 hl (by decide) rfl (fun ls hl => ?_)
    exact wx_toFetch_27 hJ C0 hK hE _ _ _ _ _ _ _ _ _ hw hS (lv_sub hl [2, 3, 4, 1, 0] rfl) hf
  · replace hf := if_t hf c4
    refine lv_bipush (v := (-2)) hx hb dX3_toFetch_7 (by decide) ?_
    exact z_iret hx hb hr hlk hw hS hf dX3_toFetch_9
set_option maxHeartbeats 4000000 in
set_option maxRecDepth 100000 in
theorem kx_toFetch (l : Launch) {D : va_G} {L : Nat → Nat} {K : Nat → ClassId} {t0 : Nat} (hJ : gj L 81) (x1 : Int32) (x2 : Int32) (w : St) {w9 : St} {rs : Int32} (hf : fx_toFetch x1 x2 w = some (rs, w9)) : Met l yX3_toFetch wsX3_toFetch ({ frames := 6, cells := 0, slots := 0, locals := 146 }) (va_Pc [.ref (L 0), .int x1, .int x2] (xP D L K t0 w)) (qI D L 81 (cX L K) rs w9) 0 0 (gA L 81) := by
  refine g_met (cc := cX3_toFetch) (nL := 5) (ret := (some .int)) (by decide) rfl (Nat.le_of_ble_eq_true rfl) (fun p e s m below meth c ls C0 hP hl => ?_)
  exact wx_toFetch_0 hJ C0 hP.2.1 hP.2.2 _ _ w _ _ ls hP.1 va_S.rf (lv_sub hl [0, 1, 2] rfl) hf
set_option maxRecDepth 20000 in
theorem ggX3_needed_X3_sensesBy : GoodIn wsX3_needed wsX3_sensesBy := goodIn_r _ [6, 7, 8, 9, 10, 11, 12, 13, 14, 15, 5, 16, 17, 18, 19, 20, 21, 22, 23, 24, 25, 26, 27, 28, 1, 29, 30, 31, 32, 33, 34, 35, 36, 37, 38, 39, 40, 41, 42, 43, 44, 45, 46, 47, 48, 49, 50, 51, 52, 53, 54, 55, 56, 57, 58, 59, 60, 68, 69, 70, 71, 72, 73, 74, 75, 76, 77, 78, 79, 80, 81, 82, 83, 84, 85, 90, 91, 92, 93, 94, 95, 86, 87, 88, 89] (by decide +kernel) (by decide +kernel)
set_option maxRecDepth 20000 in
theorem gX3_needed_X3_sensesBy : GoodIn wsX3_needed (wsV RX3 159 RX3 yX3_sensesBy wsX3_sensesBy) := goodIn_app (goodIn_of _ (by decide +kernel)) ggX3_needed_X3_sensesBy
set_option maxRecDepth 20000 in
theorem ggX3_needed_J6_bitCount_0f7a4 : GoodIn wsX3_needed wsJ6_bitCount_0f7a4 := goodIn_r _ [64, 65, 66, 67] (by decide +kernel) (by decide +kernel)
set_option maxRecDepth 20000 in
theorem gX3_needed_J6_bitCount_0f7a4 : GoodIn wsX3_needed (va_wsS RX3 119 yJ6_bitCount_0f7a4 wsJ6_bitCount_0f7a4) := goodIn_app (goodIn_of _ (by decide +kernel)) ggX3_needed_J6_bitCount_0f7a4
theorem dX3_needed_0 : decode cX3_needed 0 = .ok (.aload_n 0, 1) := by decide +kernel
theorem dX3_needed_1 : decode cX3_needed 1 = .ok (.getfield 23, 3) := by decide +kernel
theorem dX3_needed_4 : decode cX3_needed 4 = .ok (.getfield 93, 3) := by decide +kernel
theorem dX3_needed_7 : decode cX3_needed 7 = .ok (.istore_n 1, 1) := by decide +kernel
theorem dX3_needed_8 : decode cX3_needed 8 = .ok (.aload_n 0, 1) := by decide +kernel
theorem dX3_needed_9 : decode cX3_needed 9 = .ok (.iload_n 1, 1) := by decide +kernel
theorem dX3_needed_10 : decode cX3_needed 10 = .ok (.iconst 3, 1) := by decide +kernel
theorem dX3_needed_11 : decode cX3_needed 11 = .ok (.invokevirtual 159, 3) := by decide +kernel
theorem dX3_needed_14 : decode cX3_needed 14 = .ok (.istore_n 2, 1) := by decide +kernel
theorem dX3_needed_15 : decode cX3_needed 15 = .ok (.iload_n 1, 1) := by decide +kernel
theorem dX3_needed_16 : decode cX3_needed 16 = .ok (.istore_n 3, 1) := by decide +kernel
theorem dX3_needed_17 : decode cX3_needed 17 = .ok (.iconst 0, 1) := by decide +kernel
theorem dX3_needed_18 : decode cX3_needed 18 = .ok (.istore 4, 2) := by decide +kernel
theorem dX3_needed_20 : decode cX3_needed 20 = .ok (.iload 4, 2) := by decide +kernel
theorem dX3_needed_22 : decode cX3_needed 22 = .ok (.iload_n 1, 1) := by decide +kernel
theorem dX3_needed_23 : decode cX3_needed 23 = .ok (.if_icmp .gt 44, 3) := by decide +kernel
theorem dX3_needed_26 : decode cX3_needed 26 = .ok (.iload 4, 2) := by decide +kernel
theorem dX3_needed_28 : decode cX3_needed 28 = .ok (.iload_n 1, 1) := by decide +kernel
theorem dX3_needed_29 : decode cX3_needed 29 = .ok (.iconst (-1), 1) := by decide +kernel
theorem dX3_needed_30 : decode cX3_needed 30 = .ok (.ixor, 1) := by decide +kernel
theorem dX3_needed_31 : decode cX3_needed 31 = .ok (.iand, 1) := by decide +kernel
theorem dX3_needed_32 : decode cX3_needed 32 = .ok (.ifCond .ne 29, 3) := by decide +kernel
theorem dX3_needed_35 : decode cX3_needed 35 = .ok (.iload 4, 2) := by decide +kernel
theorem dX3_needed_37 : decode cX3_needed 37 = .ok (.invokestatic 119, 3) := by decide +kernel
theorem dX3_needed_40 : decode cX3_needed 40 = .ok (.iload_n 3, 1) := by decide +kernel
theorem dX3_needed_41 : decode cX3_needed 41 = .ok (.invokestatic 119, 3) := by decide +kernel
theorem dX3_needed_44 : decode cX3_needed 44 = .ok (.if_icmp .ge 17, 3) := by decide +kernel
theorem dX3_needed_47 : decode cX3_needed 47 = .ok (.aload_n 0, 1) := by decide +kernel
theorem dX3_needed_48 : decode cX3_needed 48 = .ok (.iload 4, 2) := by decide +kernel
theorem dX3_needed_50 : decode cX3_needed 50 = .ok (.iconst 3, 1) := by decide +kernel
theorem dX3_needed_51 : decode cX3_needed 51 = .ok (.invokevirtual 159, 3) := by decide +kernel
theorem dX3_needed_54 : decode cX3_needed 54 = .ok (.iload_n 2, 1) := by decide +kernel
theorem dX3_needed_55 : decode cX3_needed 55 = .ok (.if_icmp .ne 6, 3) := by decide +kernel
theorem dX3_needed_58 : decode cX3_needed 58 = .ok (.iload 4, 2) := by decide +kernel
theorem dX3_needed_60 : decode cX3_needed 60 = .ok (.istore_n 3, 1) := by decide +kernel
theorem dX3_needed_61 : decode cX3_needed 61 = .ok (.iinc 4 1, 3) := by decide +kernel
theorem dX3_needed_64 : decode cX3_needed 64 = .ok (.goto (-44), 3) := by decide +kernel
theorem dX3_needed_67 : decode cX3_needed 67 = .ok (.iload_n 3, 1) := by decide +kernel
theorem dX3_needed_68 : decode cX3_needed 68 = .ok (.ireturn, 1) := by decide +kernel
set_option maxRecDepth 20000 in
theorem hiX3_needed_X0 : ∀ w ∈ u_ws RX0 TX0 4, w ∈ wsX3_needed := by decide +kernel
set_option maxRecDepth 20000 in
theorem hiX3_needed_X3 : ∀ w ∈ u_ws RX3 TX3 18, w ∈ wsX3_needed := by decide +kernel
set_option maxHeartbeats 4000000 in
set_option maxRecDepth 100000 in
theorem wx_needed_61 {p : Program} {l : Launch} {e : Env} {s : State} {m : MethodId} {args : Array Value} {below : List Frame} {meth : Method} {c : Code} {D : va_G} {L : Nat → Nat} {K : Nat → ClassId} {t0 : Nat} (hJ : gj L 81) (C0 : gC cX3_needed 5 (some .int) wsX3_needed RX3 p s m args meth c) (hK : va_K D vwCl (tyG K) s) (hE : eX L t0 s) {w9 : St} {rs : Int32} (k20 : Int32 → Int32 → Int32 → Int32 → St → Option (Int32 × St)) (i20 : ∀ (x1 : Int32) (x2 : Int32) (x3 : Int32) (x4 : Int32) (w : St) (H : Heap) (locs : List Loc) (ls : Array Slot), va_P D vwCl (gl L 81 (cX L K w)) H → va_S (gA L 81) s.heap H locs → lv_has ls 5 [(0, .ref (L 0)), (1, .int x1), (2, .int x2), (3, .int x3), (4, .int x4)] → k20 x1 x2 x3 x4 w = some (rs, w9) → W p l e { frames := 5, cells := 0, slots := 0, locals := 120 } s m args below meth c H locs 0 0 (MQ below (qI D L 81 (cX L K) rs w9) args s 0 0 (gA L 81)) (F0 m 20 ls [])) : ∀ (x1 : Int32) (x2 : Int32) (x3 : Int32) (x4 : Int32) (w : St) (H : Heap) (locs : List Loc) (ls : Array Slot), va_P D vwCl (gl L 81 (cX L K w)) H → va_S (gA L 81) s.heap H locs → lv_has ls 5 [(0, .ref (L 0)), (1, .int x1), (2, .int x2), (3, .int x3), (4, .int x4)] → fx_needed_61 k20 x1 x2 x3 x4 w = some (rs, w9) → W p l e { frames := 5, cells := 0, slots := 0, locals := 120 } s m args below meth c H locs 0 0 (MQ below (qI D L 81 (cX L K) rs w9) args s 0 0 (gA L 81)) (F0 m 61 ls []) := by
  obtain ⟨hx, hb, hr, hml, hown, hts, hlk⟩ := id C0
  intro x1 x2 x3 x4 w H locs ls hw hS hl hf
  unfold fx_needed_61 at hf
  refine lv_iinc (v := (x4 + 1)) (lv' := [(4, .int (x4 + 1)), (0, .ref (L 0)), (1, .int x1), (2, .int x2), (3, .int x3)]) hx hb dX3_needed_61 hl (k := 4) rfl rfl (by decide) rfl (fun ls hl => ?_)
  refine lv_goto (tgt := 20) hx hb dX3_needed_64 (by decide) ?_
  exact i20 _ _ _ _ _ _ _ _ hw hS (lv_sub hl [1, 2, 3, 4, 0] rfl) hf
set_option maxHeartbeats 4000000 in
set_option maxRecDepth 100000 in
theorem wx_needed_20 {p : Program} {l : Launch} {e : Env} {s : State} {m : MethodId} {args : Array Value} {below : List Frame} {meth : Method} {c : Code} {D : va_G} {L : Nat → Nat} {K : Nat → ClassId} {t0 : Nat} (hJ : gj L 81) (C0 : gC cX3_needed 5 (some .int) wsX3_needed RX3 p s m args meth c) (hK : va_K D vwCl (tyG K) s) (hE : eX L t0 s) {w9 : St} {rs : Int32} : ∀ (fu : Nat) (x1 : Int32) (x2 : Int32) (x3 : Int32) (x4 : Int32) (w : St) (H : Heap) (locs : List Loc) (ls : Array Slot), va_P D vwCl (gl L 81 (cX L K w)) H → va_S (gA L 81) s.heap H locs → lv_has ls 5 [(0, .ref (L 0)), (1, .int x1), (2, .int x2), (3, .int x3), (4, .int x4)] → fx_needed_20 fu x1 x2 x3 x4 w = some (rs, w9) → W p l e { frames := 5, cells := 0, slots := 0, locals := 120 } s m args below meth c H locs 0 0 (MQ below (qI D L 81 (cX L K) rs w9) args s 0 0 (gA L 81)) (F0 m 20 ls []) := by
  obtain ⟨hx, hb, hr, hml, hown, hts, hlk⟩ := id C0
  intro fu
  induction fu with
  | zero =>
    intro x1 x2 x3 x4 w H locs ls hw hS hl hf
    rw [fx_needed_20] at hf
    exact no_n hf
  | succ fu ih =>
    intro x1 x2 x3 x4 w H locs ls hw hS hl hf
    rw [fx_needed_20] at hf
    refine lv_iload hx hb dX3_needed_20 (lv_at hl 4 rfl) ?_
    refine lv_iload_n hx hb dX3_needed_22 rfl (lv_at hl 1 rfl) ?_
    refine lv_icmp_gt (tgt := 67) hx hb dX3_needed_23 (by decide) (fun c23 => ?_) (fun c23 => ?_)
    · replace hf := if_t hf c23
      refine lv_iload_n hx hb dX3_needed_67 rfl (lv_at hl 3 rfl) ?_
      exact z_iret hx hb hr hlk hw hS hf dX3_needed_68
    · replace hf := if_f hf c23
      refine lv_iload hx hb dX3_needed_26 (lv_at hl 4 rfl) ?_
      refine lv_iload_n hx hb dX3_needed_28 rfl (lv_at hl 1 rfl) ?_
      refine lv_iconst (v := (-1)) hx hb dX3_needed_29 (by decide) ?_
      refine lv_ixor hx hb dX3_needed_30 ?_
      refine lv_iand hx hb dX3_needed_31 ?_
      refine lv_if_ne (tgt := 61) hx hb dX3_needed_32 (by decide) (fun c32 => ?_) (fun c32 => ?_)
      · replace hf := if_f hf c32
        exact wx_needed_61 hJ C0 hK hE _ ih _ _ _ _ _ _ _ _ hw hS (lv_sub hl [0, 1, 2, 3, 4] rfl) hf
      · replace hf := if_t hf c32
        refine lv_iload hx hb dX3_needed_35 (lv_at hl 4 rfl) ?_
        obtain ⟨v37, h37, hf⟩ := bd_e hf
        refine z_calls (va_runS (As := [.int x4]) (rest := []) ⟨hx, hb, hml, hown, hts⟩ (kj_bitCount l x4 h37) (va_cwS 1 hts gX3_needed_J6_bitCount_0f7a4 rfl rfl rfl (by decide +kernel) ⟨Nat.le_of_ble_eq_true rfl, Nat.le_of_ble_eq_true rfl⟩) z_preT rfl rfl hl.1 rfl (lv_room (Nat.le_of_ble_eq_true rfl)) dX3_needed_37 ⟨Nat.le_of_ble_eq_true rfl, Nat.le_of_ble_eq_true rfl⟩) ?_
        refine lv_iload_n hx hb dX3_needed_40 rfl (lv_at hl 3 rfl) ?_
        obtain ⟨v41, h41, hf⟩ := bd_e hf
        refine z_calls (va_runS (As := [.int x3]) (rest := [.int v37]) ⟨hx, hb, hml, hown, hts⟩ (kj_bitCount l x3 h41) (va_cwS 1 hts gX3_needed_J6_bitCount_0f7a4 rfl rfl rfl (by decide +kernel) ⟨Nat.le_of_ble_eq_true rfl, Nat.le_of_ble_eq_true rfl⟩) z_preT rfl rfl hl.1 rfl (lv_room (Nat.le_of_ble_eq_true rfl)) dX3_needed_41 ⟨Nat.le_of_ble_eq_true rfl, Nat.le_of_ble_eq_true rfl⟩) ?_
        refine lv_icmp_ge (tgt := 61) hx hb dX3_needed_44 (by decide) (fun c44 => ?_) (fun c44 => ?_)
        · replace hf := if_t hf c44
          exact wx_needed_61 hJ C0 hK hE _ ih _ _ _ _ _ _ _ _ hw hS (lv_sub hl [0, 1, 2, 3, 4] rfl) hf
        · replace hf := if_f hf c44
          refine lv_aload_n hx hb dX3_needed_47 rfl (lv_at hl 0 rfl) ?_
          refine lv_iload hx hb dX3_needed_48 (lv_at hl 4 rfl) ?_
          refine lv_iconst (v := 3) hx hb dX3_needed_50 (by decide) ?_
          obtain ⟨q51, h51, hf⟩ := bd_e hf
          refine z_calli (va_runV (As := [.int x4, .int 3]) (rest := []) ⟨hx, hb, hml, hown, hts⟩ (kx_sensesBy l (D := D) (K := K) (t0 := t0) hJ x4 3 w  h51) (cwV 2 hts gX3_needed_X3_sensesBy rfl rfl rfl (by decide +kernel) ⟨Nat.le_of_ble_eq_true rfl, Nat.le_of_ble_eq_true rfl⟩) (z_preV eX_ok hK hE hw hS kc_0.2 ((cX_a0 kc_0.1) _) (T := TX3) (M := 18) rfl) rfl rfl hl.1 rfl (lv_room (Nat.le_of_ble_eq_true rfl)) dX3_needed_51 ⟨Nat.le_of_ble_eq_true rfl, Nat.le_of_ble_eq_true rfl⟩) hS (fun H locs hw hS => ?_)
          refine lv_iload_n hx hb dX3_needed_54 rfl (lv_at hl 2 rfl) ?_
          refine lv_icmp_ne (tgt := 61) hx hb dX3_needed_55 (by decide) (fun c55 => ?_) (fun c55 => ?_)
          · replace hf := if_f hf c55
            exact wx_needed_61 hJ C0 hK hE _ ih _ _ _ _ _ _ _ _ hw hS (lv_sub hl [0, 1, 2, 3, 4] rfl) hf
          · replace hf := if_t hf c55
            refine lv_iload hx hb dX3_needed_58 (lv_at hl 4 rfl) ?_
            refine lv_istore_n (lv' := [(3, .int x4), (0, .ref (L 0)), (1, .int x1), (2, .int x2), (4, .int x4)]) hx hb dX3_needed_60 rfl hl (by decide) rfl (fun ls hl => ?_)
            exact wx_needed_61 hJ C0 hK hE _ ih _ _ _ _ _ _ _ _ hw hS (lv_sub hl [1, 2, 3, 0, 4] rfl) hf
set_option maxHeartbeats 4000000 in
set_option maxRecDepth 100000 in
theorem wx_needed_0 {p : Program} {l : Launch} {e : Env} {s : State} {m : MethodId} {args : Array Value} {below : List Frame} {meth : Method} {c : Code} {D : va_G} {L : Nat → Nat} {K : Nat → ClassId} {t0 : Nat} (hJ : gj L 81) (C0 : gC cX3_needed 5 (some .int) wsX3_needed RX3 p s m args meth c) (hK : va_K D vwCl (tyG K) s) (hE : eX L t0 s) {w9 : St} {rs : Int32} : ∀ (w : St) (H : Heap) (locs : List Loc) (ls : Array Slot), va_P D vwCl (gl L 81 (cX L K w)) H → va_S (gA L 81) s.heap H locs → lv_has ls 5 [(0, .ref (L 0))] → fx_needed w = some (rs, w9) → W p l e { frames := 5, cells := 0, slots := 0, locals := 120 } s m args below meth c H locs 0 0 (MQ below (qI D L 81 (cX L K) rs w9) args s 0 0 (gA L 81)) (F0 m 0 ls []) := by
  obtain ⟨hx, hb, hr, hml, hown, hts, hlk⟩ := id C0
  intro w H locs ls hw hS hl hf
  unfold fx_needed at hf
  refine lv_aload_n hx hb dX3_needed_0 rfl (lv_at hl 0 rfl) ?_
  refine z_get (v := .ref (L 13)) hx hb hts hiX3_needed_X3 hown hK hw (k := 0) kc_0.2 ((cX_a0 kc_0.1) _) rfl 6 (by decide) (hts (.fieldLink RX3 23 "OneSentence" "today" "LOneSentence$Day;") (by decide +kernel)) rfl dX3_needed_1 ?_
  refine z_getN (v := .int (w.1 13 1)) hx hb hts hiX3_needed_X0 hown hK hw (k := 13) kc_13.2 ((cX_a2 kc_13.1) _) rfl 1 (by decide) (hE.1 (RX3, 93, "OneSentence$Day", "at", "I", "OneSentence") (by decide)) rfl dX3_needed_4 ?_
  refine lv_topi (fun v7 e7 => ?_)
  replace hf := lb_e hf e7
  refine lv_istore_n (lv' := [(1, .int v7), (0, .ref (L 0))]) hx hb dX3_needed_7 rfl hl (by decide) rfl (fun ls hl => ?_)
  refine lv_aload_n hx hb dX3_needed_8 rfl (lv_at hl 1 rfl) ?_
  refine lv_iload_n hx hb dX3_needed_9 rfl (lv_at hl 0 rfl) ?_
  refine lv_iconst (v := 3) hx hb dX3_needed_10 (by decide) ?_
  obtain ⟨q11, h11, hf⟩ := bd_e hf
  refine z_calli (va_runV (As := [.int v7, .int 3]) (rest := []) ⟨hx, hb, hml, hown, hts⟩ (kx_sensesBy l (D := D) (K := K) (t0 := t0) hJ v7 3 w  h11) (cwV 2 hts gX3_needed_X3_sensesBy rfl rfl rfl (by decide +kernel) ⟨Nat.le_of_ble_eq_true rfl, Nat.le_of_ble_eq_true rfl⟩) (z_preV eX_ok hK hE hw hS kc_0.2 ((cX_a0 kc_0.1) _) (T := TX3) (M := 18) rfl) rfl rfl hl.1 rfl (lv_room (Nat.le_of_ble_eq_true rfl)) dX3_needed_11 ⟨Nat.le_of_ble_eq_true rfl, Nat.le_of_ble_eq_true rfl⟩) hS (fun H locs hw hS => ?_)
  refine lv_topi (fun v14 e14 => ?_)
  replace hf := lb_e hf e14
  refine lv_istore_n (lv' := [(2, .int v14), (1, .int v7), (0, .ref (L 0))]) hx hb dX3_needed_14 rfl hl (by decide) rfl (fun ls hl => ?_)
  refine lv_iload_n hx hb dX3_needed_15 rfl (lv_at hl 1 rfl) ?_
  refine lv_istore_n (lv' := [(3, .int v7), (2, .int v14), (1, .int v7), (0, .ref (L 0))]) hx hb dX3_needed_16 rfl hl (by decide) rfl (fun ls hl => ?_)
  refine lv_iconst (v := 0) hx hb dX3_needed_17 (by decide) ?_
  refine lv_istore (lv' := [(4, .int 0), (3, .int v7), (2, .int v14), (1, .int v7), (0, .ref (L 0))]) hx hb dX3_needed_18 hl (by decide) rfl (fun ls hl => ?_)
  exact wx_needed_20 hJ C0 hK hE _ _ _ _ _ _ _ _ _ hw hS (lv_sub hl [4, 3, 2, 1, 0] rfl) hf
set_option maxHeartbeats 4000000 in
set_option maxRecDepth 100000 in
theorem kx_needed (l : Launch) {D : va_G} {L : Nat → Nat} {K : Nat → ClassId} {t0 : Nat} (hJ : gj L 81) (w : St) {w9 : St} {rs : Int32} (hf : fx_needed w = some (rs, w9)) : Met l yX3_needed wsX3_needed ({ frames := 5, cells := 0, slots := 0, locals := 120 }) (va_Pc [.ref (L 0)] (xP D L K t0 w)) (qI D L 81 (cX L K) rs w9) 0 0 (gA L 81) := by
  refine g_met (cc := cX3_needed) (nL := 5) (ret := (some .int)) (by decide) rfl (Nat.le_of_ble_eq_true rfl) (fun p e s m below meth c ls C0 hP hl => ?_)
  exact wx_needed_0 hJ C0 hP.2.1 hP.2.2 w _ _ ls hP.1 va_S.rf (lv_sub hl [0] rfl) hf
