set_option maxRecDepth 20000 in
theorem ggX3_playOutcomes_X2_become : GoodIn wsX3_playOutcomes wsX2_become := goodIn_r _ [7, 8, 9, 10, 11, 46, 47, 48, 49] (by decide +kernel) (by decide +kernel)
set_option maxRecDepth 20000 in
theorem gX3_playOutcomes_X2_become_n187 : GoodIn wsX3_playOutcomes (wsX2_become) := ggX3_playOutcomes_X2_become
set_option maxRecDepth 20000 in
theorem ggX3_playOutcomes_X3_sentenceOf : GoodIn wsX3_playOutcomes wsX3_sentenceOf := goodIn_r _ [16, 17, 3, 24, 25, 26, 27, 28, 29, 30, 31, 32, 33, 34, 35, 36, 37, 38, 39, 40, 41, 42, 43, 44, 45] (by decide +kernel) (by decide +kernel)
set_option maxRecDepth 20000 in
theorem gX3_playOutcomes_X3_sentenceOf : GoodIn wsX3_playOutcomes (wsV RX3 190 RX3 yX3_sentenceOf wsX3_sentenceOf) := goodIn_app (goodIn_of _ (by decide +kernel)) ggX3_playOutcomes_X3_sentenceOf
set_option maxRecDepth 20000 in
theorem ggX3_playOutcomes_X2_utter : GoodIn wsX3_playOutcomes wsX2_utter := goodIn_r _ [20, 10, 8, 9, 11, 21, 22, 5, 23, 46, 47, 48, 49] (by decide +kernel) (by decide +kernel)
set_option maxRecDepth 20000 in
theorem gX3_playOutcomes_X2_utter_n193 : GoodIn wsX3_playOutcomes (wsX2_utter) := ggX3_playOutcomes_X2_utter
theorem dX3_playOutcomes_0 : decode cX3_playOutcomes 0 = .ok (.iconst 0, 1) := by decide +kernel
theorem dX3_playOutcomes_1 : decode cX3_playOutcomes 1 = .ok (.istore_n 3, 1) := by decide +kernel
theorem dX3_playOutcomes_2 : decode cX3_playOutcomes 2 = .ok (.iload_n 3, 1) := by decide +kernel
theorem dX3_playOutcomes_3 : decode cX3_playOutcomes 3 = .ok (.aload_n 0, 1) := by decide +kernel
theorem dX3_playOutcomes_4 : decode cX3_playOutcomes 4 = .ok (.getfield 55, 3) := by decide +kernel
theorem dX3_playOutcomes_7 : decode cX3_playOutcomes 7 = .ok (.arraylength, 1) := by decide +kernel
theorem dX3_playOutcomes_8 : decode cX3_playOutcomes 8 = .ok (.if_icmp .ge 98, 3) := by decide +kernel
theorem dX3_playOutcomes_11 : decode cX3_playOutcomes 11 = .ok (.aload_n 0, 1) := by decide +kernel
theorem dX3_playOutcomes_12 : decode cX3_playOutcomes 12 = .ok (.getfield 41, 3) := by decide +kernel
theorem dX3_playOutcomes_15 : decode cX3_playOutcomes 15 = .ok (.aload_n 0, 1) := by decide +kernel
theorem dX3_playOutcomes_16 : decode cX3_playOutcomes 16 = .ok (.getfield 23, 3) := by decide +kernel
theorem dX3_playOutcomes_19 : decode cX3_playOutcomes 19 = .ok (.getfield 100, 3) := by decide +kernel
theorem dX3_playOutcomes_22 : decode cX3_playOutcomes 22 = .ok (.invokevirtual 187, 3) := by decide +kernel
theorem dX3_playOutcomes_25 : decode cX3_playOutcomes 25 = .ok (.iconst 0, 1) := by decide +kernel
theorem dX3_playOutcomes_26 : decode cX3_playOutcomes 26 = .ok (.istore 4, 2) := by decide +kernel
theorem dX3_playOutcomes_28 : decode cX3_playOutcomes 28 = .ok (.iload 4, 2) := by decide +kernel
theorem dX3_playOutcomes_30 : decode cX3_playOutcomes 30 = .ok (.iload_n 3, 1) := by decide +kernel
theorem dX3_playOutcomes_31 : decode cX3_playOutcomes 31 = .ok (.iconst 4, 1) := by decide +kernel
theorem dX3_playOutcomes_32 : decode cX3_playOutcomes 32 = .ok (.idiv, 1) := by decide +kernel
theorem dX3_playOutcomes_33 : decode cX3_playOutcomes 33 = .ok (.if_icmp .ge 23, 3) := by decide +kernel
theorem dX3_playOutcomes_36 : decode cX3_playOutcomes 36 = .ok (.aload_n 0, 1) := by decide +kernel
theorem dX3_playOutcomes_37 : decode cX3_playOutcomes 37 = .ok (.getfield 41, 3) := by decide +kernel
theorem dX3_playOutcomes_40 : decode cX3_playOutcomes 40 = .ok (.iload_n 1, 1) := by decide +kernel
theorem dX3_playOutcomes_41 : decode cX3_playOutcomes 41 = .ok (.aload_n 0, 1) := by decide +kernel
theorem dX3_playOutcomes_42 : decode cX3_playOutcomes 42 = .ok (.iload_n 1, 1) := by decide +kernel
theorem dX3_playOutcomes_43 : decode cX3_playOutcomes 43 = .ok (.invokevirtual 190, 3) := by decide +kernel
theorem dX3_playOutcomes_46 : decode cX3_playOutcomes 46 = .ok (.iconst 1, 1) := by decide +kernel
theorem dX3_playOutcomes_47 : decode cX3_playOutcomes 47 = .ok (.invokevirtual 193, 3) := by decide +kernel
theorem dX3_playOutcomes_50 : decode cX3_playOutcomes 50 = .ok (.iinc 4 1, 3) := by decide +kernel
theorem dX3_playOutcomes_53 : decode cX3_playOutcomes 53 = .ok (.goto (-25), 3) := by decide +kernel
theorem dX3_playOutcomes_56 : decode cX3_playOutcomes 56 = .ok (.iconst 0, 1) := by decide +kernel
theorem dX3_playOutcomes_57 : decode cX3_playOutcomes 57 = .ok (.istore 4, 2) := by decide +kernel
theorem dX3_playOutcomes_59 : decode cX3_playOutcomes 59 = .ok (.iload 4, 2) := by decide +kernel
theorem dX3_playOutcomes_61 : decode cX3_playOutcomes 61 = .ok (.iload_n 3, 1) := by decide +kernel
theorem dX3_playOutcomes_62 : decode cX3_playOutcomes 62 = .ok (.iconst 4, 1) := by decide +kernel
theorem dX3_playOutcomes_63 : decode cX3_playOutcomes 63 = .ok (.irem, 1) := by decide +kernel
theorem dX3_playOutcomes_64 : decode cX3_playOutcomes 64 = .ok (.if_icmp .ge 23, 3) := by decide +kernel
theorem dX3_playOutcomes_67 : decode cX3_playOutcomes 67 = .ok (.aload_n 0, 1) := by decide +kernel
theorem dX3_playOutcomes_68 : decode cX3_playOutcomes 68 = .ok (.getfield 41, 3) := by decide +kernel
theorem dX3_playOutcomes_71 : decode cX3_playOutcomes 71 = .ok (.iload_n 2, 1) := by decide +kernel
theorem dX3_playOutcomes_72 : decode cX3_playOutcomes 72 = .ok (.aload_n 0, 1) := by decide +kernel
theorem dX3_playOutcomes_73 : decode cX3_playOutcomes 73 = .ok (.iload_n 2, 1) := by decide +kernel
theorem dX3_playOutcomes_74 : decode cX3_playOutcomes 74 = .ok (.invokevirtual 190, 3) := by decide +kernel
theorem dX3_playOutcomes_77 : decode cX3_playOutcomes 77 = .ok (.iconst 1, 1) := by decide +kernel
theorem dX3_playOutcomes_78 : decode cX3_playOutcomes 78 = .ok (.invokevirtual 193, 3) := by decide +kernel
theorem dX3_playOutcomes_81 : decode cX3_playOutcomes 81 = .ok (.iinc 4 1, 3) := by decide +kernel
theorem dX3_playOutcomes_84 : decode cX3_playOutcomes 84 = .ok (.goto (-25), 3) := by decide +kernel
theorem dX3_playOutcomes_87 : decode cX3_playOutcomes 87 = .ok (.aload_n 0, 1) := by decide +kernel
theorem dX3_playOutcomes_88 : decode cX3_playOutcomes 88 = .ok (.getfield 55, 3) := by decide +kernel
theorem dX3_playOutcomes_91 : decode cX3_playOutcomes 91 = .ok (.iload_n 3, 1) := by decide +kernel
theorem dX3_playOutcomes_92 : decode cX3_playOutcomes 92 = .ok (.aload_n 0, 1) := by decide +kernel
theorem dX3_playOutcomes_93 : decode cX3_playOutcomes 93 = .ok (.getfield 41, 3) := by decide +kernel
theorem dX3_playOutcomes_96 : decode cX3_playOutcomes 96 = .ok (.getfield 128, 3) := by decide +kernel
theorem dX3_playOutcomes_99 : decode cX3_playOutcomes 99 = .ok (.iastore, 1) := by decide +kernel
theorem dX3_playOutcomes_100 : decode cX3_playOutcomes 100 = .ok (.iinc 3 1, 3) := by decide +kernel
theorem dX3_playOutcomes_103 : decode cX3_playOutcomes 103 = .ok (.goto (-101), 3) := by decide +kernel
theorem dX3_playOutcomes_106 : decode cX3_playOutcomes 106 = .ok (.return_, 1) := by decide +kernel
set_option maxRecDepth 20000 in
theorem hiX3_playOutcomes_X0 : ∀ w ∈ u_ws RX0 TX0 4, w ∈ wsX3_playOutcomes := by decide +kernel
set_option maxRecDepth 20000 in
theorem hiX3_playOutcomes_X2 : ∀ w ∈ u_ws RX2 TX2 4, w ∈ wsX3_playOutcomes := by decide +kernel
set_option maxRecDepth 20000 in
theorem hiX3_playOutcomes_X3 : ∀ w ∈ u_ws RX3 TX3 18, w ∈ wsX3_playOutcomes := by decide +kernel
set_option maxHeartbeats 4000000 in
set_option maxRecDepth 100000 in
theorem wx_playOutcomes_59 {p : Program} {l : Launch} {e : Env} {s : State} {m : MethodId} {args : Array Value} {below : List Frame} {meth : Method} {c : Code} {D : va_G} {L : Nat → Nat} {K : Nat → ClassId} {t0 : Nat} (hJ : gj L 81) (C0 : gC cX3_playOutcomes 5 none wsX3_playOutcomes RX3 p s m args meth c) (hK : va_K D vwCl (tyG K) s) (hE : eX L t0 s) {w9 : St} (k2 : Int32 → Int32 → Int32 → St → Option St) (i2 : ∀ (x1 : Int32) (x2 : Int32) (x3 : Int32) (w : St) (H : Heap) (locs : List Loc) (ls : Array Slot), va_P D vwCl (gl L 81 (cX L K w)) H → va_S (gA L 81) s.heap H locs → lv_has ls 5 [(0, .ref (L 0)), (1, .int x1), (2, .int x2), (3, .int x3)] → k2 x1 x2 x3 w = some w9 → W p l e { frames := 2, cells := 0, slots := 0, locals := 46 } s m args below meth c H locs 0 0 (MQ below (qV D L 81 (cX L K) w9) args s 0 0 (gA L 81)) (F0 m 2 ls [])) : ∀ (fu : Nat) (x1 : Int32) (x2 : Int32) (x3 : Int32) (x4 : Int32) (w : St) (H : Heap) (locs : List Loc) (ls : Array Slot), va_P D vwCl (gl L 81 (cX L K w)) H → va_S (gA L 81) s.heap H locs → lv_has ls 5 [(0, .ref (L 0)), (1, .int x1), (2, .int x2), (3, .int x3), (4, .int x4)] → fx_playOutcomes_59 k2 fu x1 x2 x3 x4 w = some w9 → W p l e { frames := 2, cells := 0, slots := 0, locals := 46 } s m args below meth c H locs 0 0 (MQ below (qV D L 81 (cX L K) w9) args s 0 0 (gA L 81)) (F0 m 59 ls []) := by
  obtain ⟨hx, hb, hr, hml, hown, hts, hlk⟩ := id C0
  intro fu
  induction fu with
  | zero =>
    intro x1 x2 x3 x4 w H locs ls hw hS hl hf
    rw [fx_playOutcomes_59] at hf
    exact no_n hf
  | succ fu ih =>
    intro x1 x2 x3 x4 w H locs ls hw hS hl hf
    rw [fx_playOutcomes_59] at hf
    refine lv_iload hx hb dX3_playOutcomes_59 (lv_at hl 4 rfl) ?_
    refine lv_iload_n hx hb dX3_playOutcomes_61 rfl (lv_at hl 3 rfl) ?_
    refine lv_iconst (v := 4) hx hb dX3_playOutcomes_62 (by decide) ?_
    refine lv_irem hx hb dX3_playOutcomes_63 (by decide) ?_
    refine lv_icmp_ge (tgt := 87) hx hb dX3_playOutcomes_64 (by decide) (fun c64 => ?_) (fun c64 => ?_)
    · replace hf := if_t hf c64
      refine lv_aload_n hx hb dX3_playOutcomes_87 rfl (lv_at hl 0 rfl) ?_
      refine z_get (v := .ref (L 8)) hx hb hts hiX3_playOutcomes_X3 hown hK hw (k := 0) kc_0.2 ((cX_a0 kc_0.1) _) rfl 17 (by decide) (hts (.fieldLink RX3 55 "OneSentence" "outcomes" "[I") (by decide +kernel)) rfl dX3_playOutcomes_88 ?_
      refine lv_iload_n hx hb dX3_playOutcomes_91 rfl (lv_at hl 3 rfl) ?_
      refine lv_aload_n hx hb dX3_playOutcomes_92 rfl (lv_at hl 0 rfl) ?_
      refine z_get (v := .ref (L 11)) hx hb hts hiX3_playOutcomes_X3 hown hK hw (k := 0) kc_0.2 ((cX_a0 kc_0.1) _) rfl 13 (by decide) (hts (.fieldLink RX3 41 "OneSentence" "trial" "LOneSentence$Talk;") (by decide +kernel)) rfl dX3_playOutcomes_93 ?_
      refine z_getN (v := .int (w.1 11 0)) hx hb hts hiX3_playOutcomes_X2 hown hK hw (k := 11) kc_11.2 ((cX_a1 kc_11.1) _) rfl 0 (by decide) (hE.1 (RX3, 128, "OneSentence$Talk", "sense", "I", "OneSentence") (by decide)) rfl dX3_playOutcomes_96 ?_
      obtain ⟨w99, h99, hf⟩ := bd_e hf
      refine z_iast hx hb hK hJ hw hS 0 (k := 8) kc_8.2 cX_ne (cX_a11 kc_8.1) rfl h99 dX3_playOutcomes_99 (fun H locs hw hS => ?_)
      refine lv_iinc (v := (x3 + 1)) (lv' := [(3, .int (x3 + 1)), (0, .ref (L 0)), (1, .int x1), (2, .int x2), (4, .int x4)]) hx hb dX3_playOutcomes_100 hl (k := 3) rfl rfl (by decide) rfl (fun ls hl => ?_)
      refine lv_goto (tgt := 2) hx hb dX3_playOutcomes_103 (by decide) ?_
      exact i2 _ _ _ _ _ _ _ hw hS (lv_sub hl [1, 2, 3, 0] rfl) hf
    · replace hf := if_f hf c64
      refine lv_aload_n hx hb dX3_playOutcomes_67 rfl (lv_at hl 0 rfl) ?_
      refine z_get (v := .ref (L 11)) hx hb hts hiX3_playOutcomes_X3 hown hK hw (k := 0) kc_0.2 ((cX_a0 kc_0.1) _) rfl 13 (by decide) (hts (.fieldLink RX3 41 "OneSentence" "trial" "LOneSentence$Talk;") (by decide +kernel)) rfl dX3_playOutcomes_68 ?_
      refine lv_iload_n hx hb dX3_playOutcomes_71 rfl (lv_at hl 2 rfl) ?_
      refine lv_aload_n hx hb dX3_playOutcomes_72 rfl (lv_at hl 0 rfl) ?_
      refine lv_iload_n hx hb dX3_playOutcomes_73 rfl (lv_at hl 2 rfl) ?_
      obtain ⟨q74, h74, hf⟩ := bd_e hf
      refine z_calli (va_runV (As := [.int x2]) (rest := [.int x2, .ref (L 11)]) ⟨hx, hb, hml, hown, hts⟩ (kx_sentenceOf l (D := D) (K := K) (t0 := t0) hJ x2 w  h74) (cwV 1 hts gX3_playOutcomes_X3_sentenceOf rfl rfl rfl (by decide +kernel) ⟨Nat.le_of_ble_eq_true rfl, Nat.le_of_ble_eq_true rfl⟩) (z_preV eX_ok hK hE hw hS kc_0.2 ((cX_a0 kc_0.1) _) (T := TX3) (M := 18) rfl) rfl rfl hl.1 rfl (lv_room (Nat.le_of_ble_eq_true rfl)) dX3_playOutcomes_74 ⟨Nat.le_of_ble_eq_true rfl, Nat.le_of_ble_eq_true rfl⟩) hS (fun H locs hw hS => ?_)
      refine lv_iconst (v := 1) hx hb dX3_playOutcomes_77 (by decide) ?_
      obtain ⟨w78, h78, hf⟩ := bd_e hf
      refine z_callv (va_runVN (As := [.int x2, .int (q74.1), .int 1]) (rest := []) ⟨hx, hb, hml, hown, hts⟩ (kt_utter l (D := D) (K := K) (t0 := t0) hJ 11 x2 (q74.1) 1 (q74.2) kc_11 h78) ⟨va_cnB 3 hts gX3_playOutcomes_X2_utter_n193 rfl rfl rfl (hE.2.1 (RX3, 193, yX2_utter, "OneSentence") (by decide)) (hts (.initialized RX2) (by decide +kernel)) (by decide +kernel) ⟨Nat.le_of_ble_eq_true rfl, Nat.le_of_ble_eq_true rfl⟩, hts (.instanceMethod yX2_utter) (by decide +kernel), hts (.selects RX2 yX2_utter yX2_utter) (by decide +kernel)⟩ (z_preV eX_ok hK hE hw hS kc_11.2 ((cX_a1 kc_11.1) _) (T := TX2) (M := 4) rfl) rfl rfl hl.1 rfl (lv_room (Nat.le_of_ble_eq_true rfl)) dX3_playOutcomes_78 ⟨Nat.le_of_ble_eq_true rfl, Nat.le_of_ble_eq_true rfl⟩) hS (fun H locs hw hS => ?_)
      refine lv_iinc (v := (x4 + 1)) (lv' := [(4, .int (x4 + 1)), (0, .ref (L 0)), (1, .int x1), (2, .int x2), (3, .int x3)]) hx hb dX3_playOutcomes_81 hl (k := 4) rfl rfl (by decide) rfl (fun ls hl => ?_)
      refine lv_goto (tgt := 59) hx hb dX3_playOutcomes_84 (by decide) ?_
      exact ih _ _ _ _ _ _ _ _ hw hS (lv_sub hl [1, 2, 3, 4, 0] rfl) hf
set_option maxHeartbeats 4000000 in
set_option maxRecDepth 100000 in
theorem wx_playOutcomes_28 {p : Program} {l : Launch} {e : Env} {s : State} {m : MethodId} {args : Array Value} {below : List Frame} {meth : Method} {c : Code} {D : va_G} {L : Nat → Nat} {K : Nat → ClassId} {t0 : Nat} (hJ : gj L 81) (C0 : gC cX3_playOutcomes 5 none wsX3_playOutcomes RX3 p s m args meth c) (hK : va_K D vwCl (tyG K) s) (hE : eX L t0 s) {w9 : St} (k2 : Int32 → Int32 → Int32 → St → Option St) (i2 : ∀ (x1 : Int32) (x2 : Int32) (x3 : Int32) (w : St) (H : Heap) (locs : List Loc) (ls : Array Slot), va_P D vwCl (gl L 81 (cX L K w)) H → va_S (gA L 81) s.heap H locs → lv_has ls 5 [(0, .ref (L 0)), (1, .int x1), (2, .int x2), (3, .int x3)] → k2 x1 x2 x3 w = some w9 → W p l e { frames := 2, cells := 0, slots := 0, locals := 46 } s m args below meth c H locs 0 0 (MQ below (qV D L 81 (cX L K) w9) args s 0 0 (gA L 81)) (F0 m 2 ls [])) : ∀ (fu : Nat) (x1 : Int32) (x2 : Int32) (x3 : Int32) (x4 : Int32) (w : St) (H : Heap) (locs : List Loc) (ls : Array Slot), va_P D vwCl (gl L 81 (cX L K w)) H → va_S (gA L 81) s.heap H locs → lv_has ls 5 [(0, .ref (L 0)), (1, .int x1), (2, .int x2), (3, .int x3), (4, .int x4)] → fx_playOutcomes_28 k2 fu x1 x2 x3 x4 w = some w9 → W p l e { frames := 2, cells := 0, slots := 0, locals := 46 } s m args below meth c H locs 0 0 (MQ below (qV D L 81 (cX L K) w9) args s 0 0 (gA L 81)) (F0 m 28 ls []) := by
  obtain ⟨hx, hb, hr, hml, hown, hts, hlk⟩ := id C0
  intro fu
  induction fu with
  | zero =>
    intro x1 x2 x3 x4 w H locs ls hw hS hl hf
    rw [fx_playOutcomes_28] at hf
    exact no_n hf
  | succ fu ih =>
    intro x1 x2 x3 x4 w H locs ls hw hS hl hf
    rw [fx_playOutcomes_28] at hf
    refine lv_iload hx hb dX3_playOutcomes_28 (lv_at hl 4 rfl) ?_
    refine lv_iload_n hx hb dX3_playOutcomes_30 rfl (lv_at hl 3 rfl) ?_
    refine lv_iconst (v := 4) hx hb dX3_playOutcomes_31 (by decide) ?_
    refine lv_idiv hx hb dX3_playOutcomes_32 (by decide) ?_
    refine lv_icmp_ge (tgt := 56) hx hb dX3_playOutcomes_33 (by decide) (fun c33 => ?_) (fun c33 => ?_)
    · replace hf := if_t hf c33
      refine lv_iconst (v := 0) hx hb dX3_playOutcomes_56 (by decide) ?_
      refine lv_istore (lv' := [(4, .int 0), (0, .ref (L 0)), (1, .int x1), (2, .int x2), (3, .int x3)]) hx hb dX3_playOutcomes_57 hl (by decide) rfl (fun ls hl => ?_)
      exact wx_playOutcomes_59 hJ C0 hK hE _ i2 _ _ _ _ _ _ _ _ _ hw hS (lv_sub hl [1, 2, 3, 4, 0] rfl) hf
    · replace hf := if_f hf c33
      refine lv_aload_n hx hb dX3_playOutcomes_36 rfl (lv_at hl 0 rfl) ?_
      refine z_get (v := .ref (L 11)) hx hb hts hiX3_playOutcomes_X3 hown hK hw (k := 0) kc_0.2 ((cX_a0 kc_0.1) _) rfl 13 (by decide) (hts (.fieldLink RX3 41 "OneSentence" "trial" "LOneSentence$Talk;") (by decide +kernel)) rfl dX3_playOutcomes_37 ?_
      refine lv_iload_n hx hb dX3_playOutcomes_40 rfl (lv_at hl 1 rfl) ?_
      refine lv_aload_n hx hb dX3_playOutcomes_41 rfl (lv_at hl 0 rfl) ?_
      refine lv_iload_n hx hb dX3_playOutcomes_42 rfl (lv_at hl 1 rfl) ?_
      obtain ⟨q43, h43, hf⟩ := bd_e hf
      refine z_calli (va_runV (As := [.int x1]) (rest := [.int x1, .ref (L 11)]) ⟨hx, hb, hml, hown, hts⟩ (kx_sentenceOf l (D := D) (K := K) (t0 := t0) hJ x1 w  h43) (cwV 1 hts gX3_playOutcomes_X3_sentenceOf rfl rfl rfl (by decide +kernel) ⟨Nat.le_of_ble_eq_true rfl, Nat.le_of_ble_eq_true rfl⟩) (z_preV eX_ok hK hE hw hS kc_0.2 ((cX_a0 kc_0.1) _) (T := TX3) (M := 18) rfl) rfl rfl hl.1 rfl (lv_room (Nat.le_of_ble_eq_true rfl)) dX3_playOutcomes_43 ⟨Nat.le_of_ble_eq_true rfl, Nat.le_of_ble_eq_true rfl⟩) hS (fun H locs hw hS => ?_)
      refine lv_iconst (v := 1) hx hb dX3_playOutcomes_46 (by decide) ?_
      obtain ⟨w47, h47, hf⟩ := bd_e hf
      refine z_callv (va_runVN (As := [.int x1, .int (q43.1), .int 1]) (rest := []) ⟨hx, hb, hml, hown, hts⟩ (kt_utter l (D := D) (K := K) (t0 := t0) hJ 11 x1 (q43.1) 1 (q43.2) kc_11 h47) ⟨va_cnB 3 hts gX3_playOutcomes_X2_utter_n193 rfl rfl rfl (hE.2.1 (RX3, 193, yX2_utter, "OneSentence") (by decide)) (hts (.initialized RX2) (by decide +kernel)) (by decide +kernel) ⟨Nat.le_of_ble_eq_true rfl, Nat.le_of_ble_eq_true rfl⟩, hts (.instanceMethod yX2_utter) (by decide +kernel), hts (.selects RX2 yX2_utter yX2_utter) (by decide +kernel)⟩ (z_preV eX_ok hK hE hw hS kc_11.2 ((cX_a1 kc_11.1) _) (T := TX2) (M := 4) rfl) rfl rfl hl.1 rfl (lv_room (Nat.le_of_ble_eq_true rfl)) dX3_playOutcomes_47 ⟨Nat.le_of_ble_eq_true rfl, Nat.le_of_ble_eq_true rfl⟩) hS (fun H locs hw hS => ?_)
      refine lv_iinc (v := (x4 + 1)) (lv' := [(4, .int (x4 + 1)), (0, .ref (L 0)), (1, .int x1), (2, .int x2), (3, .int x3)]) hx hb dX3_playOutcomes_50 hl (k := 4) rfl rfl (by decide) rfl (fun ls hl => ?_)
      refine lv_goto (tgt := 28) hx hb dX3_playOutcomes_53 (by decide) ?_
      exact ih _ _ _ _ _ _ _ _ hw hS (lv_sub hl [1, 2, 3, 4, 0] rfl) hf
set_option maxHeartbeats 4000000 in
set_option maxRecDepth 100000 in
theorem wx_playOutcomes_2 {p : Program} {l : Launch} {e : Env} {s : State} {m : MethodId} {args : Array Value} {below : List Frame} {meth : Method} {c : Code} {D : va_G} {L : Nat → Nat} {K : Nat → ClassId} {t0 : Nat} (hJ : gj L 81) (C0 : gC cX3_playOutcomes 5 none wsX3_playOutcomes RX3 p s m args meth c) (hK : va_K D vwCl (tyG K) s) (hE : eX L t0 s) {w9 : St} : ∀ (fu : Nat) (x1 : Int32) (x2 : Int32) (x3 : Int32) (w : St) (H : Heap) (locs : List Loc) (ls : Array Slot), va_P D vwCl (gl L 81 (cX L K w)) H → va_S (gA L 81) s.heap H locs → lv_has ls 5 [(0, .ref (L 0)), (1, .int x1), (2, .int x2), (3, .int x3)] → fx_playOutcomes_2 fu x1 x2 x3 w = some w9 → W p l e { frames := 2, cells := 0, slots := 0, locals := 46 } s m args below meth c H locs 0 0 (MQ below (qV D L 81 (cX L K) w9) args s 0 0 (gA L 81)) (F0 m 2 ls []) := by
  obtain ⟨hx, hb, hr, hml, hown, hts, hlk⟩ := id C0
  intro fu
  induction fu with
  | zero =>
    intro x1 x2 x3 w H locs ls hw hS hl hf
    rw [fx_playOutcomes_2] at hf
    exact no_n hf
  | succ fu ih =>
    intro x1 x2 x3 w H locs ls hw hS hl hf
    rw [fx_playOutcomes_2] at hf
    refine lv_iload_n hx hb dX3_playOutcomes_2 rfl (lv_at hl 3 rfl) ?_
    refine lv_aload_n hx hb dX3_playOutcomes_3 rfl (lv_at hl 0 rfl) ?_
    refine z_get (v := .ref (L 8)) hx hb hts hiX3_playOutcomes_X3 hown hK hw (k := 0) kc_0.2 ((cX_a0 kc_0.1) _) rfl 17 (by decide) (hts (.fieldLink RX3 55 "OneSentence" "outcomes" "[I") (by decide +kernel)) rfl dX3_playOutcomes_4 ?_
    refine z_alen (v := 16) hx hb hK hw 0 (k := 8) kc_8.2 ((cX_a11 kc_8.1) _) rfl rfl dX3_playOutcomes_7 ?_
    refine lv_icmp_ge (tgt := 106) hx hb dX3_playOutcomes_8 (by decide) (fun c8 => ?_) (fun c8 => ?_)
    · replace hf := if_t hf c8
      exact z_vret hx hb hr hlk hw hS hf dX3_playOutcomes_106
    · replace hf := if_f hf c8
      refine lv_aload_n hx hb dX3_playOutcomes_11 rfl (lv_at hl 0 rfl) ?_
      refine z_get (v := .ref (L 11)) hx hb hts hiX3_playOutcomes_X3 hown hK hw (k := 0) kc_0.2 ((cX_a0 kc_0.1) _) rfl 13 (by decide) (hts (.fieldLink RX3 41 "OneSentence" "trial" "LOneSentence$Talk;") (by decide +kernel)) rfl dX3_playOutcomes_12 ?_
      refine lv_aload_n hx hb dX3_playOutcomes_15 rfl (lv_at hl 0 rfl) ?_
      refine z_get (v := .ref (L 13)) hx hb hts hiX3_playOutcomes_X3 hown hK hw (k := 0) kc_0.2 ((cX_a0 kc_0.1) _) rfl 6 (by decide) (hts (.fieldLink RX3 23 "OneSentence" "today" "LOneSentence$Day;") (by decide +kernel)) rfl dX3_playOutcomes_16 ?_
      refine z_getN (v := .ref (L 14)) hx hb hts hiX3_playOutcomes_X0 hown hK hw (k := 13) kc_13.2 ((cX_a2 kc_13.1) _) rfl 0 (by decide) (hE.1 (RX3, 100, "OneSentence$Day", "talk", "LOneSentence$Talk;", "OneSentence") (by decide)) rfl dX3_playOutcomes_19 ?_
      obtain ⟨w22, h22, hf⟩ := bd_e hf
      refine z_callv (va_runVN (As := [.ref (L 14)]) (rest := []) ⟨hx, hb, hml, hown, hts⟩ (kt_become l (D := D) (K := K) (t0 := t0) hJ 11 14 w kc_11 kc_14 h22) ⟨va_cnB 1 hts gX3_playOutcomes_X2_become_n187 rfl rfl rfl (hE.2.1 (RX3, 187, yX2_become, "OneSentence") (by decide)) (hts (.initialized RX2) (by decide +kernel)) (by decide +kernel) ⟨Nat.le_of_ble_eq_true rfl, Nat.le_of_ble_eq_true rfl⟩, hts (.instanceMethod yX2_become) (by decide +kernel), hts (.selects RX2 yX2_become yX2_become) (by decide +kernel)⟩ (z_preV eX_ok hK hE hw hS kc_11.2 ((cX_a1 kc_11.1) _) (T := TX2) (M := 4) rfl) rfl rfl hl.1 rfl (lv_room (Nat.le_of_ble_eq_true rfl)) dX3_playOutcomes_22 ⟨Nat.le_of_ble_eq_true rfl, Nat.le_of_ble_eq_true rfl⟩) hS (fun H locs hw hS => ?_)
      refine lv_iconst (v := 0) hx hb dX3_playOutcomes_25 (by decide) ?_
      refine lv_istore (lv' := [(4, .int 0), (0, .ref (L 0)), (1, .int x1), (2, .int x2), (3, .int x3)]) hx hb dX3_playOutcomes_26 hl (by decide) rfl (fun ls hl => ?_)
      exact wx_playOutcomes_28 hJ C0 hK hE _ ih _ _ _ _ _ _ _ _ _ hw hS (lv_sub hl [1, 2, 3, 4, 0] rfl) hf
set_option maxHeartbeats 4000000 in
set_option maxRecDepth 100000 in
theorem wx_playOutcomes_0 {p : Program} {l : Launch} {e : Env} {s : State} {m : MethodId} {args : Array Value} {below : List Frame} {meth : Method} {c : Code} {D : va_G} {L : Nat → Nat} {K : Nat → ClassId} {t0 : Nat} (hJ : gj L 81) (C0 : gC cX3_playOutcomes 5 none wsX3_playOutcomes RX3 p s m args meth c) (hK : va_K D vwCl (tyG K) s) (hE : eX L t0 s) {w9 : St} : ∀ (x1 : Int32) (x2 : Int32) (w : St) (H : Heap) (locs : List Loc) (ls : Array Slot), va_P D vwCl (gl L 81 (cX L K w)) H → va_S (gA L 81) s.heap H locs → lv_has ls 5 [(0, .ref (L 0)), (1, .int x1), (2, .int x2)] → fx_playOutcomes x1 x2 w = some w9 → W p l e { frames := 2, cells := 0, slots := 0, locals := 46 } s m args below meth c H locs 0 0 (MQ below (qV D L 81 (cX L K) w9) args s 0 0 (gA L 81)) (F0 m 0 ls []) := by
  obtain ⟨hx, hb, hr, hml, hown, hts, hlk⟩ := id C0
  intro x1 x2 w H locs ls hw hS hl hf
  unfold fx_playOutcomes at hf
  refine lv_iconst (v := 0) hx hb dX3_playOutcomes_0 (by decide) ?_
  refine lv_istore_n (lv' := [(3, .int 0), (0, .ref (L 0)), (1, .int x1), (2, .int x2)]) hx hb dX3_playOutcomes_1 rfl hl (by decide) rfl (fun ls hl => ?_)
  exact wx_playOutcomes_2 hJ C0 hK hE _ _ _ _ _ _ _ _ hw hS (lv_sub hl [1, 2, 3, 0] rfl) hf
set_option maxHeartbeats 4000000 in
set_option maxRecDepth 100000 in
theorem kx_playOutcomes (l : Launch) {D : va_G} {L : Nat → Nat} {K : Nat → ClassId} {t0 : Nat} (hJ : gj L 81) (x1 : Int32) (x2 : Int32) (w : St) {w9 : St} (hf : fx_playOutcomes x1 x2 w = some w9) : Met l yX3_playOutcomes wsX3_playOutcomes ({ frames := 2, cells := 0, slots := 0, locals := 46 }) (va_Pc [.ref (L 0), .int x1, .int x2] (xP D L K t0 w)) (qV D L 81 (cX L K) w9) 0 0 (gA L 81) := by
  refine g_met (cc := cX3_playOutcomes) (nL := 5) (ret := none) (by decide) rfl (Nat.le_of_ble_eq_true rfl) (fun p e s m below meth c ls C0 hP hl => ?_)
  exact wx_playOutcomes_0 hJ C0 hP.2.1 hP.2.2 _ _ w _ _ ls hP.1 va_S.rf (lv_sub hl [0, 1, 2] rfl) hf
theorem dX3_apart_0 : decode cX3_apart 0 = .ok (.iload_n 1, 1) := by decide +kernel
theorem dX3_apart_1 : decode cX3_apart 1 = .ok (.iconst 4, 1) := by decide +kernel
theorem dX3_apart_2 : decode cX3_apart 2 = .ok (.imul, 1) := by decide +kernel
theorem dX3_apart_3 : decode cX3_apart 3 = .ok (.iload_n 2, 1) := by decide +kernel
theorem dX3_apart_4 : decode cX3_apart 4 = .ok (.iadd, 1) := by decide +kernel
theorem dX3_apart_5 : decode cX3_apart 5 = .ok (.istore 4, 2) := by decide +kernel
theorem dX3_apart_7 : decode cX3_apart 7 = .ok (.iload 4, 2) := by decide +kernel
theorem dX3_apart_9 : decode cX3_apart 9 = .ok (.ifCond .lt 28, 3) := by decide +kernel
theorem dX3_apart_12 : decode cX3_apart 12 = .ok (.iload 4, 2) := by decide +kernel
theorem dX3_apart_14 : decode cX3_apart 14 = .ok (.aload_n 0, 1) := by decide +kernel
theorem dX3_apart_15 : decode cX3_apart 15 = .ok (.getfield 55, 3) := by decide +kernel
theorem dX3_apart_18 : decode cX3_apart 18 = .ok (.arraylength, 1) := by decide +kernel
theorem dX3_apart_19 : decode cX3_apart 19 = .ok (.if_icmp .ge 18, 3) := by decide +kernel
theorem dX3_apart_22 : decode cX3_apart 22 = .ok (.aload_n 0, 1) := by decide +kernel
theorem dX3_apart_23 : decode cX3_apart 23 = .ok (.getfield 55, 3) := by decide +kernel
theorem dX3_apart_26 : decode cX3_apart 26 = .ok (.iload 4, 2) := by decide +kernel
theorem dX3_apart_28 : decode cX3_apart 28 = .ok (.iaload, 1) := by decide +kernel
theorem dX3_apart_29 : decode cX3_apart 29 = .ok (.iload_n 3, 1) := by decide +kernel
theorem dX3_apart_30 : decode cX3_apart 30 = .ok (.isub, 1) := by decide +kernel
theorem dX3_apart_31 : decode cX3_apart 31 = .ok (.invokestatic 240, 3) := by decide +kernel
theorem dX3_apart_34 : decode cX3_apart 34 = .ok (.goto 4, 3) := by decide +kernel
theorem dX3_apart_37 : decode cX3_apart 37 = .ok (.iconst 0, 1) := by decide +kernel
theorem dX3_apart_38 : decode cX3_apart 38 = .ok (.ireturn, 1) := by decide +kernel
set_option maxRecDepth 20000 in
theorem hiX3_apart_X3 : ∀ w ∈ u_ws RX3 TX3 18, w ∈ wsX3_apart := by decide +kernel
set_option maxHeartbeats 4000000 in
set_option maxRecDepth 100000 in
theorem wx_apart_0 {p : Program} {l : Launch} {e : Env} {s : State} {m : MethodId} {args : Array Value} {below : List Frame} {meth : Method} {c : Code} {D : va_G} {L : Nat → Nat} {K : Nat → ClassId} {t0 : Nat} (hJ : gj L 81) (C0 : gC cX3_apart 5 (some .int) wsX3_apart RX3 p s m args meth c) (hK : va_K D vwCl (tyG K) s) (hE : eX L t0 s) {w9 : St} {rs : Int32} : ∀ (x1 : Int32) (x2 : Int32) (x3 : Int32) (w : St) (H : Heap) (locs : List Loc) (ls : Array Slot), va_P D vwCl (gl L 81 (cX L K w)) H → va_S (gA L 81) s.heap H locs → lv_has ls 5 [(0, .ref (L 0)), (1, .int x1), (2, .int x2), (3, .int x3)] → fx_apart x1 x2 x3 w = some (rs, w9) → W p l e { frames := 1, cells := 0, slots := 0, locals := 20 } s m args below meth c H locs 0 0 (MQ below (qI D L 81 (cX L K) rs w9) args s 0 0 (gA L 81)) (F0 m 0 ls []) := by
  obtain ⟨hx, hb, hr, hml, hown, hts, hlk⟩ := id C0
  intro x1 x2 x3 w H locs ls hw hS hl hf
  unfold fx_apart at hf
  refine lv_iload_n hx hb dX3_apart_0 rfl (lv_at hl 1 rfl) ?_
  refine lv_iconst (v := 4) hx hb dX3_apart_1 (by decide) ?_
  refine lv_imul hx hb dX3_apart_2 ?_
  refine lv_iload_n hx hb dX3_apart_3 rfl (lv_at hl 2 rfl) ?_
  refine lv_iadd hx hb dX3_apart_4 ?_
  refine lv_topi (fun v5 e5 => ?_)
  replace hf := lb_e hf e5
  refine lv_istore (lv' := [(4, .int v5), (0, .ref (L 0)), (1, .int x1), (2, .int x2), (3, .int x3)]) hx hb dX3_apart_5 hl (by decide) rfl (fun ls hl => ?_)
  refine lv_iload hx hb dX3_apart_7 (lv_at hl 0 rfl) ?_
  refine lv_if_lt (tgt := 37) hx hb dX3_apart_9 (by decide) (fun c9 => ?_) (fun c9 => ?_)
  · replace hf := if_t hf c9
    refine lv_iconst (v := 0) hx hb dX3_apart_37 (by decide) ?_
    exact z_iret hx hb hr hlk hw hS hf dX3_apart_38
  · replace hf := if_f hf c9
    refine lv_iload hx hb dX3_apart_12 (lv_at hl 0 rfl) ?_
    refine lv_aload_n hx hb dX3_apart_14 rfl (lv_at hl 1 rfl) ?_
    refine z_get (v := .ref (L 8)) hx hb hts hiX3_apart_X3 hown hK hw (k := 0) kc_0.2 ((cX_a0 kc_0.1) _) rfl 17 (by decide) (hts (.fieldLink RX3 55 "OneSentence" "outcomes" "[I") (by decide +kernel)) rfl dX3_apart_15 ?_
    refine z_alen (v := 16) hx hb hK hw 0 (k := 8) kc_8.2 ((cX_a11 kc_8.1) _) rfl rfl dX3_apart_18 ?_
    refine lv_icmp_ge (tgt := 37) hx hb dX3_apart_19 (by decide) (fun c19 => ?_) (fun c19 => ?_)
    · replace hf := if_t hf c19
      refine lv_iconst (v := 0) hx hb dX3_apart_37 (by decide) ?_
      exact z_iret hx hb hr hlk hw hS hf dX3_apart_38
    · replace hf := if_f hf c19
      refine lv_aload_n hx hb dX3_apart_22 rfl (lv_at hl 1 rfl) ?_
      refine z_get (v := .ref (L 8)) hx hb hts hiX3_apart_X3 hown hK hw (k := 0) kc_0.2 ((cX_a0 kc_0.1) _) rfl 17 (by decide) (hts (.fieldLink RX3 55 "OneSentence" "outcomes" "[I") (by decide +kernel)) rfl dX3_apart_23 ?_
      refine lv_iload hx hb dX3_apart_26 (lv_at hl 0 rfl) ?_
      obtain ⟨v28, h28, hf⟩ := bd_e hf
      refine z_iald hx hb hK hw 0 (k := 8) kc_8.2 ((cX_a11 kc_8.1) _) rfl h28 dX3_apart_28 ?_
      refine lv_iload_n hx hb dX3_apart_29 rfl (lv_at hl 4 rfl) ?_
      refine lv_isub hx hb dX3_apart_30 ?_
      refine va_mabs hx hb (by rw [hml]; exact hl.1.symm) hown (hts (.methodLink RX3 240 Lib.Math.abs.name) (by decide +kernel)) (hts (.static Lib.Math.abs.name) (by decide +kernel)) (hts (.initialized "java/lang/Math") (by decide +kernel)) (hts (.code Lib.Math.abs.name Lib.Math.abs.code 1 (some .int)) (by decide +kernel)) (Nat.le_of_ble_eq_true rfl) (Nat.le_of_ble_eq_true rfl) (Nat.le_of_ble_eq_true rfl) (Nat.le_of_ble_eq_true rfl) dX3_apart_31 ?_
      refine lv_goto (tgt := 38) hx hb dX3_apart_34 (by decide) ?_
      exact z_iret hx hb hr hlk hw hS hf dX3_apart_38
set_option maxHeartbeats 4000000 in
set_option maxRecDepth 100000 in
theorem kx_apart (l : Launch) {D : va_G} {L : Nat → Nat} {K : Nat → ClassId} {t0 : Nat} (hJ : gj L 81) (x1 : Int32) (x2 : Int32) (x3 : Int32) (w : St) {w9 : St} {rs : Int32} (hf : fx_apart x1 x2 x3 w = some (rs, w9)) : Met l yX3_apart wsX3_apart ({ frames := 1, cells := 0, slots := 0, locals := 20 }) (va_Pc [.ref (L 0), .int x1, .int x2, .int x3] (xP D L K t0 w)) (qI D L 81 (cX L K) rs w9) 0 0 (gA L 81) := by
  refine g_met (cc := cX3_apart) (nL := 5) (ret := (some .int)) (by decide) rfl (Nat.le_of_ble_eq_true rfl) (fun p e s m below meth c ls C0 hP hl => ?_)
  exact wx_apart_0 hJ C0 hP.2.1 hP.2.2 _ _ _ w _ _ ls hP.1 va_S.rf (lv_sub hl [0, 1, 2, 3] rfl) hf
set_option maxRecDepth 20000 in
theorem ggX3_isRest_X3_apart : GoodIn wsX3_isRest wsX3_apart := goodIn_r _ [5, 6, 7, 8, 9, 10, 11, 12, 13, 14, 15, 16, 17, 18, 19, 20, 21, 22, 23, 24, 25, 26, 27, 28] (by decide +kernel) (by decide +kernel)
set_option maxRecDepth 20000 in
theorem gX3_isRest_X3_apart : GoodIn wsX3_isRest (wsV RX3 257 RX3 yX3_apart wsX3_apart) := goodIn_app (goodIn_of _ (by decide +kernel)) ggX3_isRest_X3_apart
theorem dX3_isRest_0 : decode cX3_isRest 0 = .ok (.iconst 0, 1) := by decide +kernel
theorem dX3_isRest_1 : decode cX3_isRest 1 = .ok (.istore 5, 2) := by decide +kernel
theorem dX3_isRest_3 : decode cX3_isRest 3 = .ok (.iload 5, 2) := by decide +kernel
theorem dX3_isRest_5 : decode cX3_isRest 5 = .ok (.iconst 4, 1) := by decide +kernel
theorem dX3_isRest_6 : decode cX3_isRest 6 = .ok (.if_icmp .ge 59, 3) := by decide +kernel
theorem dX3_isRest_9 : decode cX3_isRest 9 = .ok (.aload_n 0, 1) := by decide +kernel
theorem dX3_isRest_10 : decode cX3_isRest 10 = .ok (.iload 5, 2) := by decide +kernel
theorem dX3_isRest_12 : decode cX3_isRest 12 = .ok (.iload_n 2, 1) := by decide +kernel
theorem dX3_isRest_13 : decode cX3_isRest 13 = .ok (.iload_n 3, 1) := by decide +kernel
theorem dX3_isRest_14 : decode cX3_isRest 14 = .ok (.invokevirtual 257, 3) := by decide +kernel
theorem dX3_isRest_17 : decode cX3_isRest 17 = .ok (.iload 5, 2) := by decide +kernel
theorem dX3_isRest_19 : decode cX3_isRest 19 = .ok (.iadd, 1) := by decide +kernel
theorem dX3_isRest_20 : decode cX3_isRest 20 = .ok (.aload_n 0, 1) := by decide +kernel
theorem dX3_isRest_21 : decode cX3_isRest 21 = .ok (.iload_n 1, 1) := by decide +kernel
theorem dX3_isRest_22 : decode cX3_isRest 22 = .ok (.iload_n 2, 1) := by decide +kernel
theorem dX3_isRest_23 : decode cX3_isRest 23 = .ok (.iload_n 3, 1) := by decide +kernel
theorem dX3_isRest_24 : decode cX3_isRest 24 = .ok (.invokevirtual 257, 3) := by decide +kernel
theorem dX3_isRest_27 : decode cX3_isRest 27 = .ok (.iload_n 1, 1) := by decide +kernel
theorem dX3_isRest_28 : decode cX3_isRest 28 = .ok (.iadd, 1) := by decide +kernel
theorem dX3_isRest_29 : decode cX3_isRest 29 = .ok (.if_icmp .lt 28, 3) := by decide +kernel
theorem dX3_isRest_32 : decode cX3_isRest 32 = .ok (.aload_n 0, 1) := by decide +kernel
theorem dX3_isRest_33 : decode cX3_isRest 33 = .ok (.iload_n 1, 1) := by decide +kernel
theorem dX3_isRest_34 : decode cX3_isRest 34 = .ok (.iload 5, 2) := by decide +kernel
theorem dX3_isRest_36 : decode cX3_isRest 36 = .ok (.iload 4, 2) := by decide +kernel
theorem dX3_isRest_38 : decode cX3_isRest 38 = .ok (.invokevirtual 257, 3) := by decide +kernel
theorem dX3_isRest_41 : decode cX3_isRest 41 = .ok (.iload 5, 2) := by decide +kernel
theorem dX3_isRest_43 : decode cX3_isRest 43 = .ok (.iadd, 1) := by decide +kernel
theorem dX3_isRest_44 : decode cX3_isRest 44 = .ok (.aload_n 0, 1) := by decide +kernel
theorem dX3_isRest_45 : decode cX3_isRest 45 = .ok (.iload_n 1, 1) := by decide +kernel
theorem dX3_isRest_46 : decode cX3_isRest 46 = .ok (.iload_n 2, 1) := by decide +kernel
theorem dX3_isRest_47 : decode cX3_isRest 47 = .ok (.iload 4, 2) := by decide +kernel
theorem dX3_isRest_49 : decode cX3_isRest 49 = .ok (.invokevirtual 257, 3) := by decide +kernel
theorem dX3_isRest_52 : decode cX3_isRest 52 = .ok (.iload_n 2, 1) := by decide +kernel
theorem dX3_isRest_53 : decode cX3_isRest 53 = .ok (.iadd, 1) := by decide +kernel
theorem dX3_isRest_54 : decode cX3_isRest 54 = .ok (.if_icmp .ge 5, 3) := by decide +kernel
theorem dX3_isRest_57 : decode cX3_isRest 57 = .ok (.iconst 0, 1) := by decide +kernel
theorem dX3_isRest_58 : decode cX3_isRest 58 = .ok (.ireturn, 1) := by decide +kernel
theorem dX3_isRest_59 : decode cX3_isRest 59 = .ok (.iinc 5 1, 3) := by decide +kernel
theorem dX3_isRest_62 : decode cX3_isRest 62 = .ok (.goto (-59), 3) := by decide +kernel
theorem dX3_isRest_65 : decode cX3_isRest 65 = .ok (.iconst 1, 1) := by decide +kernel
theorem dX3_isRest_66 : decode cX3_isRest 66 = .ok (.ireturn, 1) := by decide +kernel
set_option maxHeartbeats 4000000 in
set_option maxRecDepth 100000 in
theorem wx_isRest_3 {p : Program} {l : Launch} {e : Env} {s : State} {m : MethodId} {args : Array Value} {below : List Frame} {meth : Method} {c : Code} {D : va_G} {L : Nat → Nat} {K : Nat → ClassId} {t0 : Nat} (hJ : gj L 81) (C0 : gC cX3_isRest 6 (some .boolean) wsX3_isRest RX3 p s m args meth c) (hK : va_K D vwCl (tyG K) s) (hE : eX L t0 s) {w9 : St} {rs : Int32} : ∀ (fu : Nat) (x1 : Int32) (x2 : Int32) (x3 : Int32) (x4 : Int32) (x5 : Int32) (w : St) (H : Heap) (locs : List Loc) (ls : Array Slot), va_P D vwCl (gl L 81 (cX L K w)) H → va_S (gA L 81) s.heap H locs → lv_has ls 6 [(0, .ref (L 0)), (1, .int x1), (2, .int x2), (3, .int x3), (4, .int x4), (5, .int x5)] → fx_isRest_3 fu x1 x2 x3 x4 x5 w = some (rs, w9) → W p l e { frames := 2, cells := 0, slots := 0, locals := 44 } s m args below meth c H locs 0 0 (MQ below (qI D L 81 (cX L K) rs w9) args s 0 0 (gA L 81)) (F0 m 3 ls []) := by
  obtain ⟨hx, hb, hr, hml, hown, hts, hlk⟩ := id C0
  intro fu
  induction fu with
  | zero =>
    intro x1 x2 x3 x4 x5 w H locs ls hw hS hl hf
    rw [fx_isRest_3] at hf
    exact no_n hf
  | succ fu ih =>
    intro x1 x2 x3 x4 x5 w H locs ls hw hS hl hf
    rw [fx_isRest_3] at hf
    refine lv_iload hx hb dX3_isRest_3 (lv_at hl 5 rfl) ?_
    refine lv_iconst (v := 4) hx hb dX3_isRest_5 (by decide) ?_
    refine lv_icmp_ge (tgt := 65) hx hb dX3_isRest_6 (by decide) (fun c6 => ?_) (fun c6 => ?_)
    · replace hf := if_t hf c6
      refine lv_iconst (v := 1) hx hb dX3_isRest_65 (by decide) ?_
      exact z_zret hx hb hr hlk rfl hw hS hf dX3_isRest_66
    · replace hf := if_f hf c6
      refine lv_aload_n hx hb dX3_isRest_9 rfl (lv_at hl 0 rfl) ?_
      refine lv_iload hx hb dX3_isRest_10 (lv_at hl 5 rfl) ?_
      refine lv_iload_n hx hb dX3_isRest_12 rfl (lv_at hl 2 rfl) ?_
      refine lv_iload_n hx hb dX3_isRest_13 rfl (lv_at hl 3 rfl) ?_
      obtain ⟨q14, h14, hf⟩ := bd_e hf
      refine z_calli (va_runV (As := [.int x5, .int x2, .int x3]) (rest := []) ⟨hx, hb, hml, hown, hts⟩ (kx_apart l (D := D) (K := K) (t0 := t0) hJ x5 x2 x3 w  h14) (cwV 3 hts gX3_isRest_X3_apart rfl rfl rfl (by decide +kernel) ⟨Nat.le_of_ble_eq_true rfl, Nat.le_of_ble_eq_true rfl⟩) (z_preV eX_ok hK hE hw hS kc_0.2 ((cX_a0 kc_0.1) _) (T := TX3) (M := 18) rfl) rfl rfl hl.1 rfl (lv_room (Nat.le_of_ble_eq_true rfl)) dX3_isRest_14 ⟨Nat.le_of_ble_eq_true rfl, Nat.le_of_ble_eq_true rfl⟩) hS (fun H locs hw hS => ?_)
      refine lv_iload hx hb dX3_isRest_17 (lv_at hl 5 rfl) ?_
      refine lv_iadd hx hb dX3_isRest_19 ?_
      refine lv_aload_n hx hb dX3_isRest_20 rfl (lv_at hl 0 rfl) ?_
      refine lv_iload_n hx hb dX3_isRest_21 rfl (lv_at hl 1 rfl) ?_
      refine lv_iload_n hx hb dX3_isRest_22 rfl (lv_at hl 2 rfl) ?_
      refine lv_iload_n hx hb dX3_isRest_23 rfl (lv_at hl 3 rfl) ?_
      obtain ⟨q24, h24, hf⟩ := bd_e hf
      refine z_calli (va_runV (As := [.int x1, .int x2, .int x3]) (rest := [.int (q14.1 + x5)]) ⟨hx, hb, hml, hown, hts⟩ (kx_apart l (D := D) (K := K) (t0 := t0) hJ x1 x2 x3 (q14.2)  h24) (cwV 3 hts gX3_isRest_X3_apart rfl rfl rfl (by decide +kernel) ⟨Nat.le_of_ble_eq_true rfl, Nat.le_of_ble_eq_true rfl⟩) (z_preV eX_ok hK hE hw hS kc_0.2 ((cX_a0 kc_0.1) _) (T := TX3) (M := 18) rfl) rfl rfl hl.1 rfl (lv_room (Nat.le_of_ble_eq_true rfl)) dX3_isRest_24 ⟨Nat.le_of_ble_eq_true rfl, Nat.le_of_ble_eq_true rfl⟩) hS (fun H locs hw hS => ?_)
      refine lv_iload_n hx hb dX3_isRest_27 rfl (lv_at hl 1 rfl) ?_
      refine lv_iadd hx hb dX3_isRest_28 ?_
      refine lv_icmp_lt (tgt := 57) hx hb dX3_isRest_29 (by decide) (fun c29 => ?_) (fun c29 => ?_)
      · replace hf := if_t hf c29
        refine lv_iconst (v := 0) hx hb dX3_isRest_57 (by decide) ?_
        exact z_zret hx hb hr hlk rfl hw hS hf dX3_isRest_58
      · replace hf := if_f hf c29
        refine lv_aload_n hx hb dX3_isRest_32 rfl (lv_at hl 0 rfl) ?_
        refine lv_iload_n hx hb dX3_isRest_33 rfl (lv_at hl 1 rfl) ?_
        refine lv_iload hx hb dX3_isRest_34 (lv_at hl 5 rfl) ?_
        refine lv_iload hx hb dX3_isRest_36 (lv_at hl 4 rfl) ?_
        obtain ⟨q38, h38, hf⟩ := bd_e hf
        refine z_calli (va_runV (As := [.int x1, .int x5, .int x4]) (rest := []) ⟨hx, hb, hml, hown, hts⟩ (kx_apart l (D := D) (K := K) (t0 := t0) hJ x1 x5 x4 (q24.2)  h38) (cwV 3 hts gX3_isRest_X3_apart rfl rfl rfl (by decide +kernel) ⟨Nat.le_of_ble_eq_true rfl, Nat.le_of_ble_eq_true rfl⟩) (z_preV eX_ok hK hE hw hS kc_0.2 ((cX_a0 kc_0.1) _) (T := TX3) (M := 18) rfl) rfl rfl hl.1 rfl (lv_room (Nat.le_of_ble_eq_true rfl)) dX3_isRest_38 ⟨Nat.le_of_ble_eq_true rfl, Nat.le_of_ble_eq_true rfl⟩) hS (fun H locs hw hS => ?_)
        refine lv_iload hx hb dX3_isRest_41 (lv_at hl 5 rfl) ?_
        refine lv_iadd hx hb dX3_isRest_43 ?_
        refine lv_aload_n hx hb dX3_isRest_44 rfl (lv_at hl 0 rfl) ?_
        refine lv_iload_n hx hb dX3_isRest_45 rfl (lv_at hl 1 rfl) ?_
        refine lv_iload_n hx hb dX3_isRest_46 rfl (lv_at hl 2 rfl) ?_
        refine lv_iload hx hb dX3_isRest_47 (lv_at hl 4 rfl) ?_
        obtain ⟨q49, h49, hf⟩ := bd_e hf
        refine z_calli (va_runV (As := [.int x1, .int x2, .int x4]) (rest := [.int (q38.1 + x5)]) ⟨hx, hb, hml, hown, hts⟩ (kx_apart l (D := D) (K := K) (t0 := t0) hJ x1 x2 x4 (q38.2)  h49) (cwV 3 hts gX3_isRest_X3_apart rfl rfl rfl (by decide +kernel) ⟨Nat.le_of_ble_eq_true rfl, Nat.le_of_ble_eq_true rfl⟩) (z_preV eX_ok hK hE hw hS kc_0.2 ((cX_a0 kc_0.1) _) (T := TX3) (M := 18) rfl) rfl rfl hl.1 rfl (lv_room (Nat.le_of_ble_eq_true rfl)) dX3_isRest_49 ⟨Nat.le_of_ble_eq_true rfl, Nat.le_of_ble_eq_true rfl⟩) hS (fun H locs hw hS => ?_)
        refine lv_iload_n hx hb dX3_isRest_52 rfl (lv_at hl 2 rfl) ?_
        refine lv_iadd hx hb dX3_isRest_53 ?_
        refine lv_icmp_ge (tgt := 59) hx hb dX3_isRest_54 (by decide) (fun c54 => ?_) (fun c54 => ?_)
        · replace hf := if_t hf c54
          refine lv_iinc (v := (x5 + 1)) (lv' := [(5, .int (x5 + 1)), (0, .ref (L 0)), (1, .int x1), (2, .int x2), (3, .int x3), (4, .int x4)]) hx hb dX3_isRest_59 hl (k := 5) rfl rfl (by decide) rfl (fun ls hl => ?_)
          refine lv_goto (tgt := 3) hx hb dX3_isRest_62 (by decide) ?_
          exact ih _ _ _ _ _ _ _ _ _ hw hS (lv_sub hl [1, 2, 3, 4, 5, 0] rfl) hf
        · replace hf := if_f hf c54
          refine lv_iconst (v := 0) hx hb dX3_isRest_57 (by decide) ?_
          exact z_zret hx hb hr hlk rfl hw hS hf dX3_isRest_58
set_option maxHeartbeats 4000000 in
set_option maxRecDepth 100000 in
theorem wx_isRest_0 {p : Program} {l : Launch} {e : Env} {s : State} {m : MethodId} {args : Array Value} {below : List Frame} {meth : Method} {c : Code} {D : va_G} {L : Nat → Nat} {K : Nat → ClassId} {t0 : Nat} (hJ : gj L 81) (C0 : gC cX3_isRest 6 (some .boolean) wsX3_isRest RX3 p s m args meth c) (hK : va_K D vwCl (tyG K) s) (hE : eX L t0 s) {w9 : St} {rs : Int32} : ∀ (x1 : Int32) (x2 : Int32) (x3 : Int32) (x4 : Int32) (w : St) (H : Heap) (locs : List Loc) (ls : Array Slot), va_P D vwCl (gl L 81 (cX L K w)) H → va_S (gA L 81) s.heap H locs → lv_has ls 6 [(0, .ref (L 0)), (1, .int x1), (2, .int x2), (3, .int x3), (4, .int x4)] → fx_isRest x1 x2 x3 x4 w = some (rs, w9) → W p l e { frames := 2, cells := 0, slots := 0, locals := 44 } s m args below meth c H locs 0 0 (MQ below (qI D L 81 (cX L K) rs w9) args s 0 0 (gA L 81)) (F0 m 0 ls []) := by
  obtain ⟨hx, hb, hr, hml, hown, hts, hlk⟩ := id C0
  intro x1 x2 x3 x4 w H locs ls hw hS hl hf
  unfold fx_isRest at hf
  refine lv_iconst (v := 0) hx hb dX3_isRest_0 (by decide) ?_
  refine lv_istore (lv' := [(5, .int 0), (0, .ref (L 0)), (1, .int x1), (2, .int x2), (3, .int x3), (4, .int x4)]) hx hb dX3_isRest_1 hl (by decide) rfl (fun ls hl => ?_)
  exact wx_isRest_3 hJ C0 hK hE _ _ _ _ _ _ _ _ _ _ hw hS (lv_sub hl [1, 2, 3, 4, 5, 0] rfl) hf
set_option maxHeartbeats 4000000 in
set_option maxRecDepth 100000 in
theorem kx_isRest (l : Launch) {D : va_G} {L : Nat → Nat} {K : Nat → ClassId} {t0 : Nat} (hJ : gj L 81) (x1 : Int32) (x2 : Int32) (x3 : Int32) (x4 : Int32) (w : St) {w9 : St} {rs : Int32} (hf : fx_isRest x1 x2 x3 x4 w = some (rs, w9)) : Met l yX3_isRest wsX3_isRest ({ frames := 2, cells := 0, slots := 0, locals := 44 }) (va_Pc [.ref (L 0), .int x1, .int x2, .int x3, .int x4] (xP D L K t0 w)) (qI D L 81 (cX L K) rs w9) 0 0 (gA L 81) := by
  refine g_met (cc := cX3_isRest) (nL := 6) (ret := (some .boolean)) (by decide) rfl (Nat.le_of_ble_eq_true rfl) (fun p e s m below meth c ls C0 hP hl => ?_)
  exact wx_isRest_0 hJ C0 hP.2.1 hP.2.2 _ _ _ _ w _ _ ls hP.1 va_S.rf (lv_sub hl [0, 1, 2, 3, 4] rfl) hf
set_option maxRecDepth 20000 in
theorem ggX3_rests_X3_isThere : GoodIn wsX3_rests wsX3_isThere := goodIn_r _ [5, 6, 48, 49, 50, 51, 52, 53, 54, 55, 56, 57, 58, 59, 60, 61, 62, 63, 64, 65] (by decide +kernel) (by decide +kernel)
set_option maxRecDepth 20000 in
theorem gX3_rests_X3_isThere : GoodIn wsX3_rests (wsV RX3 86 RX3 yX3_isThere wsX3_isThere) := goodIn_app (goodIn_of _ (by decide +kernel)) ggX3_rests_X3_isThere
set_option maxRecDepth 20000 in
theorem ggX3_rests_X3_isSense : GoodIn wsX3_rests wsX3_isSense := goodIn_r _ [9] (by decide +kernel) (by decide +kernel)
set_option maxRecDepth 20000 in
theorem gX3_rests_X3_isSense : GoodIn wsX3_rests (va_wsS RX3 149 yX3_isSense wsX3_isSense) := goodIn_app (goodIn_of _ (by decide +kernel)) ggX3_rests_X3_isSense
set_option maxRecDepth 20000 in
theorem ggX3_rests_X3_playOutcomes : GoodIn wsX3_rests wsX3_playOutcomes := goodIn_r _ [13, 14, 15, 16, 17, 18, 19, 20, 21, 22, 23, 24, 25, 26, 27, 4, 28, 29, 30, 31, 32, 33, 34, 35, 48, 49, 50, 51, 52, 53, 54, 55, 56, 57, 58, 59, 60, 61, 62, 63, 64, 65, 66, 67, 68, 69, 70, 71, 72, 73] (by decide +kernel) (by decide +kernel)
set_option maxRecDepth 20000 in
theorem gX3_rests_X3_playOutcomes : GoodIn wsX3_rests (wsV RX3 207 RX3 yX3_playOutcomes wsX3_playOutcomes) := goodIn_app (goodIn_of _ (by decide +kernel)) ggX3_rests_X3_playOutcomes
set_option maxRecDepth 20000 in
theorem ggX3_rests_X3_isRest : GoodIn wsX3_rests wsX3_isRest := goodIn_r _ [39, 40, 41, 42, 4, 43, 14, 44, 45, 46, 47, 48, 49, 50, 51, 52, 53, 54, 55, 56, 57, 58, 59, 60, 61, 62, 63, 64, 65] (by decide +kernel) (by decide +kernel)
set_option maxRecDepth 20000 in
theorem gX3_rests_X3_isRest : GoodIn wsX3_rests (wsV RX3 210 RX3 yX3_isRest wsX3_isRest) := goodIn_app (goodIn_of _ (by decide +kernel)) ggX3_rests_X3_isRest
theorem dX3_rests_0 : decode cX3_rests 0 = .ok (.aload_n 0, 1) := by decide +kernel
theorem dX3_rests_1 : decode cX3_rests 1 = .ok (.iload_n 1, 1) := by decide +kernel
theorem dX3_rests_2 : decode cX3_rests 2 = .ok (.invokevirtual 86, 3) := by decide +kernel
theorem dX3_rests_5 : decode cX3_rests 5 = .ok (.ifCond .eq 11, 3) := by decide +kernel
theorem dX3_rests_8 : decode cX3_rests 8 = .ok (.aload_n 0, 1) := by decide +kernel
theorem dX3_rests_9 : decode cX3_rests 9 = .ok (.iload_n 2, 1) := by decide +kernel
theorem dX3_rests_10 : decode cX3_rests 10 = .ok (.invokevirtual 86, 3) := by decide +kernel
theorem dX3_rests_13 : decode cX3_rests 13 = .ok (.ifCond .ne 5, 3) := by decide +kernel
theorem dX3_rests_16 : decode cX3_rests 16 = .ok (.iconst (-1), 1) := by decide +kernel
theorem dX3_rests_17 : decode cX3_rests 17 = .ok (.ireturn, 1) := by decide +kernel
theorem dX3_rests_18 : decode cX3_rests 18 = .ok (.iload_n 1, 1) := by decide +kernel
theorem dX3_rests_19 : decode cX3_rests 19 = .ok (.iload_n 2, 1) := by decide +kernel
theorem dX3_rests_20 : decode cX3_rests 20 = .ok (.if_icmp .eq 29, 3) := by decide +kernel
theorem dX3_rests_23 : decode cX3_rests 23 = .ok (.iload_n 3, 1) := by decide +kernel
theorem dX3_rests_24 : decode cX3_rests 24 = .ok (.invokestatic 149, 3) := by decide +kernel
theorem dX3_rests_27 : decode cX3_rests 27 = .ok (.ifCond .eq 22, 3) := by decide +kernel
theorem dX3_rests_30 : decode cX3_rests 30 = .ok (.iload 4, 2) := by decide +kernel
theorem dX3_rests_32 : decode cX3_rests 32 = .ok (.invokestatic 149, 3) := by decide +kernel
theorem dX3_rests_35 : decode cX3_rests 35 = .ok (.ifCond .eq 14, 3) := by decide +kernel
theorem dX3_rests_38 : decode cX3_rests 38 = .ok (.iload 5, 2) := by decide +kernel
theorem dX3_rests_40 : decode cX3_rests 40 = .ok (.ifCond .lt 9, 3) := by decide +kernel
theorem dX3_rests_43 : decode cX3_rests 43 = .ok (.iload 5, 2) := by decide +kernel
theorem dX3_rests_45 : decode cX3_rests 45 = .ok (.iconst 1, 1) := by decide +kernel
theorem dX3_rests_46 : decode cX3_rests 46 = .ok (.if_icmp .le 6, 3) := by decide +kernel
theorem dX3_rests_49 : decode cX3_rests 49 = .ok (.bipush (-2), 2) := by decide +kernel
theorem dX3_rests_51 : decode cX3_rests 51 = .ok (.ireturn, 1) := by decide +kernel
theorem dX3_rests_52 : decode cX3_rests 52 = .ok (.aload_n 0, 1) := by decide +kernel
theorem dX3_rests_53 : decode cX3_rests 53 = .ok (.iload_n 1, 1) := by decide +kernel
theorem dX3_rests_54 : decode cX3_rests 54 = .ok (.iload_n 2, 1) := by decide +kernel
theorem dX3_rests_55 : decode cX3_rests 55 = .ok (.invokevirtual 207, 3) := by decide +kernel
theorem dX3_rests_58 : decode cX3_rests 58 = .ok (.iconst 0, 1) := by decide +kernel
theorem dX3_rests_59 : decode cX3_rests 59 = .ok (.istore 6, 2) := by decide +kernel
theorem dX3_rests_61 : decode cX3_rests 61 = .ok (.bipush (-9), 2) := by decide +kernel
theorem dX3_rests_63 : decode cX3_rests 63 = .ok (.istore 7, 2) := by decide +kernel
theorem dX3_rests_65 : decode cX3_rests 65 = .ok (.iconst 0, 1) := by decide +kernel
theorem dX3_rests_66 : decode cX3_rests 66 = .ok (.istore 8, 2) := by decide +kernel
theorem dX3_rests_68 : decode cX3_rests 68 = .ok (.iload 8, 2) := by decide +kernel
theorem dX3_rests_70 : decode cX3_rests 70 = .ok (.iconst 4, 1) := by decide +kernel
theorem dX3_rests_71 : decode cX3_rests 71 = .ok (.if_icmp .ge 61, 3) := by decide +kernel
theorem dX3_rests_74 : decode cX3_rests 74 = .ok (.iconst 0, 1) := by decide +kernel
theorem dX3_rests_75 : decode cX3_rests 75 = .ok (.istore 9, 2) := by decide +kernel
theorem dX3_rests_77 : decode cX3_rests 77 = .ok (.iload 9, 2) := by decide +kernel
theorem dX3_rests_79 : decode cX3_rests 79 = .ok (.iconst 4, 1) := by decide +kernel
theorem dX3_rests_80 : decode cX3_rests 80 = .ok (.if_icmp .ge 46, 3) := by decide +kernel
theorem dX3_rests_83 : decode cX3_rests 83 = .ok (.aload_n 0, 1) := by decide +kernel
theorem dX3_rests_84 : decode cX3_rests 84 = .ok (.iload 8, 2) := by decide +kernel
theorem dX3_rests_86 : decode cX3_rests 86 = .ok (.iload 9, 2) := by decide +kernel
theorem dX3_rests_88 : decode cX3_rests 88 = .ok (.iload_n 3, 1) := by decide +kernel
theorem dX3_rests_89 : decode cX3_rests 89 = .ok (.iload 4, 2) := by decide +kernel
theorem dX3_rests_91 : decode cX3_rests 91 = .ok (.invokevirtual 210, 3) := by decide +kernel
theorem dX3_rests_94 : decode cX3_rests 94 = .ok (.ifCond .eq 26, 3) := by decide +kernel
theorem dX3_rests_97 : decode cX3_rests 97 = .ok (.iload 6, 2) := by decide +kernel
theorem dX3_rests_99 : decode cX3_rests 99 = .ok (.ifCond .ne 14, 3) := by decide +kernel
theorem dX3_rests_102 : decode cX3_rests 102 = .ok (.bipush 10, 2) := by decide +kernel
theorem dX3_rests_104 : decode cX3_rests 104 = .ok (.iload 8, 2) := by decide +kernel
theorem dX3_rests_106 : decode cX3_rests 106 = .ok (.imul, 1) := by decide +kernel
theorem dX3_rests_107 : decode cX3_rests 107 = .ok (.iload 9, 2) := by decide +kernel
theorem dX3_rests_109 : decode cX3_rests 109 = .ok (.iadd, 1) := by decide +kernel
theorem dX3_rests_110 : decode cX3_rests 110 = .ok (.goto 5, 3) := by decide +kernel
theorem dX3_rests_113 : decode cX3_rests 113 = .ok (.iload 7, 2) := by decide +kernel
theorem dX3_rests_115 : decode cX3_rests 115 = .ok (.istore 7, 2) := by decide +kernel
theorem dX3_rests_117 : decode cX3_rests 117 = .ok (.iinc 6 1, 3) := by decide +kernel
theorem dX3_rests_120 : decode cX3_rests 120 = .ok (.iinc 9 1, 3) := by decide +kernel
theorem dX3_rests_123 : decode cX3_rests 123 = .ok (.goto (-46), 3) := by decide +kernel
theorem dX3_rests_126 : decode cX3_rests 126 = .ok (.iinc 8 1, 3) := by decide +kernel
theorem dX3_rests_129 : decode cX3_rests 129 = .ok (.goto (-61), 3) := by decide +kernel
theorem dX3_rests_132 : decode cX3_rests 132 = .ok (.iload 5, 2) := by decide +kernel
theorem dX3_rests_134 : decode cX3_rests 134 = .ok (.ifCond .ne 8, 3) := by decide +kernel
theorem dX3_rests_137 : decode cX3_rests 137 = .ok (.iload 6, 2) := by decide +kernel
theorem dX3_rests_139 : decode cX3_rests 139 = .ok (.goto 5, 3) := by decide +kernel
theorem dX3_rests_142 : decode cX3_rests 142 = .ok (.iload 7, 2) := by decide +kernel
theorem dX3_rests_144 : decode cX3_rests 144 = .ok (.ireturn, 1) := by decide +kernel
set_option maxHeartbeats 4000000 in
set_option maxRecDepth 100000 in
theorem wx_rests_120 {p : Program} {l : Launch} {e : Env} {s : State} {m : MethodId} {args : Array Value} {below : List Frame} {meth : Method} {c : Code} {D : va_G} {L : Nat → Nat} {K : Nat → ClassId} {t0 : Nat} (hJ : gj L 81) (C0 : gC cX3_rests 10 (some .int) wsX3_rests RX3 p s m args meth c) (hK : va_K D vwCl (tyG K) s) (hE : eX L t0 s) {w9 : St} {rs : Int32} (k68 : Int32 → Int32 → Int32 → Int32 → Int32 → Int32 → St → Option (Int32 × St)) (i68 : ∀ (x3 : Int32) (x4 : Int32) (x5 : Int32) (x6 : Int32) (x7 : Int32) (x8 : Int32) (w : St) (H : Heap) (locs : List Loc) (ls : Array Slot), va_P D vwCl (gl L 81 (cX L K w)) H → va_S (gA L 81) s.heap H locs → lv_has ls 10 [(0, .ref (L 0)), (3, .int x3), (4, .int x4), (5, .int x5), (6, .int x6), (7, .int x7), (8, .int x8)] → k68 x3 x4 x5 x6 x7 x8 w = some (rs, w9) → W p l e { frames := 3, cells := 0, slots := 0, locals := 70 } s m args below meth c H locs 0 0 (MQ below (qI D L 81 (cX L K) rs w9) args s 0 0 (gA L 81)) (F0 m 68 ls [])) (k77 : Int32 → Int32 → Int32 → Int32 → Int32 → Int32 → Int32 → St → Option (Int32 × St)) (i77 : ∀ (x3 : Int32) (x4 : Int32) (x5 : Int32) (x6 : Int32) (x7 : Int32) (x8 : Int32) (x9 : Int32) (w : St) (H : Heap) (locs : List Loc) (ls : Array Slot), va_P D vwCl (gl L 81 (cX L K w)) H → va_S (gA L 81) s.heap H locs → lv_has ls 10 [(0, .ref (L 0)), (3, .int x3), (4, .int x4), (5, .int x5), (6, .int x6), (7, .int x7), (8, .int x8), (9, .int x9)] → k77 x3 x4 x5 x6 x7 x8 x9 w = some (rs, w9) → W p l e { frames := 3, cells := 0, slots := 0, locals := 70 } s m args below meth c H locs 0 0 (MQ below (qI D L 81 (cX L K) rs w9) args s 0 0 (gA L 81)) (F0 m 77 ls [])) : ∀ (x3 : Int32) (x4 : Int32) (x5 : Int32) (x6 : Int32) (x7 : Int32) (x8 : Int32) (x9 : Int32) (w : St) (H : Heap) (locs : List Loc) (ls : Array Slot), va_P D vwCl (gl L 81 (cX L K w)) H → va_S (gA L 81) s.heap H locs → lv_has ls 10 [(0, .ref (L 0)), (3, .int x3), (4, .int x4), (5, .int x5), (6, .int x6), (7, .int x7), (8, .int x8), (9, .int x9)] → fx_rests_120 k68 k77 x3 x4 x5 x6 x7 x8 x9 w = some (rs, w9) → W p l e { frames := 3, cells := 0, slots := 0, locals := 70 } s m args below meth c H locs 0 0 (MQ below (qI D L 81 (cX L K) rs w9) args s 0 0 (gA L 81)) (F0 m 120 ls []) := by
  obtain ⟨hx, hb, hr, hml, hown, hts, hlk⟩ := id C0
  intro x3 x4 x5 x6 x7 x8 x9 w H locs ls hw hS hl hf
  unfold fx_rests_120 at hf
  refine lv_iinc (v := (x9 + 1)) (lv' := [(9, .int (x9 + 1)), (0, .ref (L 0)), (3, .int x3), (4, .int x4), (5, .int x5), (6, .int x6), (7, .int x7), (8, .int x8)]) hx hb dX3_rests_120 hl (k := 7) rfl rfl (by decide) rfl (fun ls hl => ?_)
  refine lv_goto (tgt := 77) hx hb dX3_rests_123 (by decide) ?_
  exact i77 _ _ _ _ _ _ _ _ _ _ _ hw hS (lv_sub hl [1, 2, 3, 4, 5, 6, 7, 0] rfl) hf
set_option maxHeartbeats 4000000 in
set_option maxRecDepth 100000 in
theorem wx_rests_115 {p : Program} {l : Launch} {e : Env} {s : State} {m : MethodId} {args : Array Value} {below : List Frame} {meth : Method} {c : Code} {D : va_G} {L : Nat → Nat} {K : Nat → ClassId} {t0 : Nat} (hJ : gj L 81) (C0 : gC cX3_rests 10 (some .int) wsX3_rests RX3 p s m args meth c) (hK : va_K D vwCl (tyG K) s) (hE : eX L t0 s) {w9 : St} {rs : Int32} (k68 : Int32 → Int32 → Int32 → Int32 → Int32 → Int32 → St → Option (Int32 × St)) (i68 : ∀ (x3 : Int32) (x4 : Int32) (x5 : Int32) (x6 : Int32) (x7 : Int32) (x8 : Int32) (w : St) (H : Heap) (locs : List Loc) (ls : Array Slot), va_P D vwCl (gl L 81 (cX L K w)) H → va_S (gA L 81) s.heap H locs → lv_has ls 10 [(0, .ref (L 0)), (3, .int x3), (4, .int x4), (5, .int x5), (6, .int x6), (7, .int x7), (8, .int x8)] → k68 x3 x4 x5 x6 x7 x8 w = some (rs, w9) → W p l e { frames := 3, cells := 0, slots := 0, locals := 70 } s m args below meth c H locs 0 0 (MQ below (qI D L 81 (cX L K) rs w9) args s 0 0 (gA L 81)) (F0 m 68 ls [])) (k77 : Int32 → Int32 → Int32 → Int32 → Int32 → Int32 → Int32 → St → Option (Int32 × St)) (i77 : ∀ (x3 : Int32) (x4 : Int32) (x5 : Int32) (x6 : Int32) (x7 : Int32) (x8 : Int32) (x9 : Int32) (w : St) (H : Heap) (locs : List Loc) (ls : Array Slot), va_P D vwCl (gl L 81 (cX L K w)) H → va_S (gA L 81) s.heap H locs → lv_has ls 10 [(0, .ref (L 0)), (3, .int x3), (4, .int x4), (5, .int x5), (6, .int x6), (7, .int x7), (8, .int x8), (9, .int x9)] → k77 x3 x4 x5 x6 x7 x8 x9 w = some (rs, w9) → W p l e { frames := 3, cells := 0, slots := 0, locals := 70 } s m args below meth c H locs 0 0 (MQ below (qI D L 81 (cX L K) rs w9) args s 0 0 (gA L 81)) (F0 m 77 ls [])) : ∀ (x3 : Int32) (x4 : Int32) (x5 : Int32) (x6 : Int32) (x8 : Int32) (x9 : Int32) (s0 : Int32) (w : St) (H : Heap) (locs : List Loc) (ls : Array Slot), va_P D vwCl (gl L 81 (cX L K w)) H → va_S (gA L 81) s.heap H locs → lv_has ls 10 [(0, .ref (L 0)), (3, .int x3), (4, .int x4), (5, .int x5), (6, .int x6), (8, .int x8), (9, .int x9)] → fx_rests_115 k68 k77 x3 x4 x5 x6 x8 x9 s0 w = some (rs, w9) → W p l e { frames := 3, cells := 0, slots := 0, locals := 70 } s m args below meth c H locs 0 0 (MQ below (qI D L 81 (cX L K) rs w9) args s 0 0 (gA L 81)) (F0 m 115 ls [.int s0]) := by
  obtain ⟨hx, hb, hr, hml, hown, hts, hlk⟩ := id C0
  intro x3 x4 x5 x6 x8 x9 s0 w H locs ls hw hS hl hf
  unfold fx_rests_115 at hf
  refine lv_istore (lv' := [(7, .int s0), (0, .ref (L 0)), (3, .int x3), (4, .int x4), (5, .int x5), (6, .int x6), (8, .int x8), (9, .int x9)]) hx hb dX3_rests_115 hl (by decide) rfl (fun ls hl => ?_)
  refine lv_iinc (v := (x6 + 1)) (lv' := [(6, .int (x6 + 1)), (7, .int s0), (0, .ref (L 0)), (3, .int x3), (4, .int x4), (5, .int x5), (8, .int x8), (9, .int x9)]) hx hb dX3_rests_117 hl (k := 5) rfl rfl (by decide) rfl (fun ls hl => ?_)
  exact wx_rests_120 hJ C0 hK hE _ i68 _ i77 _ _ _ _ _ _ _ _ _ _ _ hw hS (lv_sub hl [2, 3, 4, 5, 0, 1, 6, 7] rfl) hf
set_option maxHeartbeats 4000000 in
set_option maxRecDepth 100000 in
theorem wx_rests_77 {p : Program} {l : Launch} {e : Env} {s : State} {m : MethodId} {args : Array Value} {below : List Frame} {meth : Method} {c : Code} {D : va_G} {L : Nat → Nat} {K : Nat → ClassId} {t0 : Nat} (hJ : gj L 81) (C0 : gC cX3_rests 10 (some .int) wsX3_rests RX3 p s m args meth c) (hK : va_K D vwCl (tyG K) s) (hE : eX L t0 s) {w9 : St} {rs : Int32} (k68 : Int32 → Int32 → Int32 → Int32 → Int32 → Int32 → St → Option (Int32 × St)) (i68 : ∀ (x3 : Int32) (x4 : Int32) (x5 : Int32) (x6 : Int32) (x7 : Int32) (x8 : Int32) (w : St) (H : Heap) (locs : List Loc) (ls : Array Slot), va_P D vwCl (gl L 81 (cX L K w)) H → va_S (gA L 81) s.heap H locs → lv_has ls 10 [(0, .ref (L 0)), (3, .int x3), (4, .int x4), (5, .int x5), (6, .int x6), (7, .int x7), (8, .int x8)] → k68 x3 x4 x5 x6 x7 x8 w = some (rs, w9) → W p l e { frames := 3, cells := 0, slots := 0, locals := 70 } s m args below meth c H locs 0 0 (MQ below (qI D L 81 (cX L K) rs w9) args s 0 0 (gA L 81)) (F0 m 68 ls [])) : ∀ (fu : Nat) (x3 : Int32) (x4 : Int32) (x5 : Int32) (x6 : Int32) (x7 : Int32) (x8 : Int32) (x9 : Int32) (w : St) (H : Heap) (locs : List Loc) (ls : Array Slot), va_P D vwCl (gl L 81 (cX L K w)) H → va_S (gA L 81) s.heap H locs → lv_has ls 10 [(0, .ref (L 0)), (3, .int x3), (4, .int x4), (5, .int x5), (6, .int x6), (7, .int x7), (8, .int x8), (9, .int x9)] → fx_rests_77 k68 fu x3 x4 x5 x6 x7 x8 x9 w = some (rs, w9) → W p l e { frames := 3, cells := 0, slots := 0, locals := 70 } s m args below meth c H locs 0 0 (MQ below (qI D L 81 (cX L K) rs w9) args s 0 0 (gA L 81)) (F0 m 77 ls []) := by
  obtain ⟨hx, hb, hr, hml, hown, hts, hlk⟩ := id C0
  intro fu
  induction fu with
  | zero =>
    intro x3 x4 x5 x6 x7 x8 x9 w H locs ls hw hS hl hf
    rw [fx_rests_77] at hf
    exact no_n hf
  | succ fu ih =>
    intro x3 x4 x5 x6 x7 x8 x9 w H locs ls hw hS hl hf
    rw [fx_rests_77] at hf
    refine lv_iload hx hb dX3_rests_77 (lv_at hl 7 rfl) ?_
    refine lv_iconst (v := 4) hx hb dX3_rests_79 (by decide) ?_
    refine lv_icmp_ge (tgt := 126) hx hb dX3_rests_80 (by decide) (fun c80 => ?_) (fun c80 => ?_)
    · replace hf := if_t hf c80
      refine lv_iinc (v := (x8 + 1)) (lv' := [(8, .int (x8 + 1)), (0, .ref (L 0)), (3, .int x3), (4, .int x4), (5, .int x5), (6, .int x6), (7, .int x7), (9, .int x9)]) hx hb dX3_rests_126 hl (k := 6) rfl rfl (by decide) rfl (fun ls hl => ?_)
      refine lv_goto (tgt := 68) hx hb dX3_rests_129 (by decide) ?_
      exact i68 _ _ _ _ _ _ _ _ _ _ hw hS (lv_sub hl [1, 2, 3, 4, 5, 6, 0] rfl) hf
    · replace hf := if_f hf c80
      refine lv_aload_n hx hb dX3_rests_83 rfl (lv_at hl 0 rfl) ?_
      refine lv_iload hx hb dX3_rests_84 (lv_at hl 6 rfl) ?_
      refine lv_iload hx hb dX3_rests_86 (lv_at hl 7 rfl) ?_
      refine lv_iload_n hx hb dX3_rests_88 rfl (lv_at hl 1 rfl) ?_
      refine lv_iload hx hb dX3_rests_89 (lv_at hl 2 rfl) ?_
      obtain ⟨q91, h91, hf⟩ := bd_e hf
      refine z_calli (va_runV (As := [.int x8, .int x9, .int x3, .int x4]) (rest := []) ⟨hx, hb, hml, hown, hts⟩ (kx_isRest l (D := D) (K := K) (t0 := t0) hJ x8 x9 x3 x4 w  h91) (cwV 4 hts gX3_rests_X3_isRest rfl rfl rfl (by decide +kernel) ⟨Nat.le_of_ble_eq_true rfl, Nat.le_of_ble_eq_true rfl⟩) (z_preV eX_ok hK hE hw hS kc_0.2 ((cX_a0 kc_0.1) _) (T := TX3) (M := 18) rfl) rfl rfl hl.1 rfl (lv_room (Nat.le_of_ble_eq_true rfl)) dX3_rests_91 ⟨Nat.le_of_ble_eq_true rfl, Nat.le_of_ble_eq_true rfl⟩) hS (fun H locs hw hS => ?_)
      refine lv_if_eq (tgt := 120) hx hb dX3_rests_94 (by decide) (fun c94 => ?_) (fun c94 => ?_)
      · replace hf := if_t hf c94
        exact wx_rests_120 hJ C0 hK hE _ i68 _ ih _ _ _ _ _ _ _ _ _ _ _ hw hS (lv_sub hl [0, 1, 2, 3, 4, 5, 6, 7] rfl) hf
      · replace hf := if_f hf c94
        refine lv_iload hx hb dX3_rests_97 (lv_at hl 4 rfl) ?_
        refine lv_if_ne (tgt := 113) hx hb dX3_rests_99 (by decide) (fun c99 => ?_) (fun c99 => ?_)
        · replace hf := if_f hf c99
          refine lv_iload hx hb dX3_rests_113 (lv_at hl 5 rfl) ?_
          exact wx_rests_115 hJ C0 hK hE _ i68 _ ih _ _ _ _ _ _ _ _ _ _ _ hw hS (lv_sub hl [0, 1, 2, 3, 4, 6, 7] rfl) hf
        · replace hf := if_t hf c99
          refine lv_bipush (v := 10) hx hb dX3_rests_102 (by decide) ?_
          refine lv_iload hx hb dX3_rests_104 (lv_at hl 6 rfl) ?_
          refine lv_imul hx hb dX3_rests_106 ?_
          refine lv_iload hx hb dX3_rests_107 (lv_at hl 7 rfl) ?_
          refine lv_iadd hx hb dX3_rests_109 ?_
          refine lv_goto (tgt := 115) hx hb dX3_rests_110 (by decide) ?_
          exact wx_rests_115 hJ C0 hK hE _ i68 _ ih _ _ _ _ _ _ _ _ _ _ _ hw hS (lv_sub hl [0, 1, 2, 3, 4, 6, 7] rfl) hf
set_option maxHeartbeats 4000000 in
set_option maxRecDepth 100000 in
theorem wx_rests_68 {p : Program} {l : Launch} {e : Env} {s : State} {m : MethodId} {args : Array Value} {below : List Frame} {meth : Method} {c : Code} {D : va_G} {L : Nat → Nat} {K : Nat → ClassId} {t0 : Nat} (hJ : gj L 81) (C0 : gC cX3_rests 10 (some .int) wsX3_rests RX3 p s m args meth c) (hK : va_K D vwCl (tyG K) s) (hE : eX L t0 s) {w9 : St} {rs : Int32} : ∀ (fu : Nat) (x3 : Int32) (x4 : Int32) (x5 : Int32) (x6 : Int32) (x7 : Int32) (x8 : Int32) (w : St) (H : Heap) (locs : List Loc) (ls : Array Slot), va_P D vwCl (gl L 81 (cX L K w)) H → va_S (gA L 81) s.heap H locs → lv_has ls 10 [(0, .ref (L 0)), (3, .int x3), (4, .int x4), (5, .int x5), (6, .int x6), (7, .int x7), (8, .int x8)] → fx_rests_68 fu x3 x4 x5 x6 x7 x8 w = some (rs, w9) → W p l e { frames := 3, cells := 0, slots := 0, locals := 70 } s m args below meth c H locs 0 0 (MQ below (qI D L 81 (cX L K) rs w9) args s 0 0 (gA L 81)) (F0 m 68 ls []) := by
  obtain ⟨hx, hb, hr, hml, hown, hts, hlk⟩ := id C0
  intro fu
  induction fu with
  | zero =>
    intro x3 x4 x5 x6 x7 x8 w H locs ls hw hS hl hf
    rw [fx_rests_68] at hf
    exact no_n hf
  | succ fu ih =>
    intro x3 x4 x5 x6 x7 x8 w H locs ls hw hS hl hf
    rw [fx_rests_68] at hf
    refine lv_iload hx hb dX3_rests_68 (lv_at hl 6 rfl) ?_
    refine lv_iconst (v := 4) hx hb dX3_rests_70 (by decide) ?_
    refine lv_icmp_ge (tgt := 132) hx hb dX3_rests_71 (by decide) (fun c71 => ?_) (fun c71 => ?_)
    · replace hf := if_t hf c71
      refine lv_iload hx hb dX3_rests_132 (lv_at hl 3 rfl) ?_
      refine lv_if_ne (tgt := 142) hx hb dX3_rests_134 (by decide) (fun c134 => ?_) (fun c134 => ?_)
      · replace hf := if_f hf c134
        refine lv_iload hx hb dX3_rests_142 (lv_at hl 5 rfl) ?_
        exact z_iret hx hb hr hlk hw hS hf dX3_rests_144
      · replace hf := if_t hf c134
        refine lv_iload hx hb dX3_rests_137 (lv_at hl 4 rfl) ?_
        refine lv_goto (tgt := 144) hx hb dX3_rests_139 (by decide) ?_
        exact z_iret hx hb hr hlk hw hS hf dX3_rests_144
    · replace hf := if_f hf c71
      refine lv_iconst (v := 0) hx hb dX3_rests_74 (by decide) ?_
      refine lv_istore (lv' := [(9, .int 0), (0, .ref (L 0)), (3, .int x3), (4, .int x4), (5, .int x5), (6, .int x6), (7, .int x7), (8, .int x8)]) hx hb dX3_rests_75 hl (by decide) rfl (fun ls hl => ?_)
      exact wx_rests_77 hJ C0 hK hE _ ih _ _ _ _ _ _ _ _ _ _ _ _ hw hS (lv_sub hl [1, 2, 3, 4, 5, 6, 7, 0] rfl) hf
set_option maxHeartbeats 4000000 in
set_option maxRecDepth 100000 in
theorem wx_rests_0 {p : Program} {l : Launch} {e : Env} {s : State} {m : MethodId} {args : Array Value} {below : List Frame} {meth : Method} {c : Code} {D : va_G} {L : Nat → Nat} {K : Nat → ClassId} {t0 : Nat} (hJ : gj L 81) (C0 : gC cX3_rests 10 (some .int) wsX3_rests RX3 p s m args meth c) (hK : va_K D vwCl (tyG K) s) (hE : eX L t0 s) {w9 : St} {rs : Int32} : ∀ (x1 : Int32) (x2 : Int32) (x3 : Int32) (x4 : Int32) (x5 : Int32) (w : St) (H : Heap) (locs : List Loc) (ls : Array Slot), va_P D vwCl (gl L 81 (cX L K w)) H → va_S (gA L 81) s.heap H locs → lv_has ls 10 [(0, .ref (L 0)), (1, .int x1), (2, .int x2), (3, .int x3), (4, .int x4), (5, .int x5)] → fx_rests x1 x2 x3 x4 x5 w = some (rs, w9) → W p l e { frames := 3, cells := 0, slots := 0, locals := 70 } s m args below meth c H locs 0 0 (MQ below (qI D L 81 (cX L K) rs w9) args s 0 0 (gA L 81)) (F0 m 0 ls []) := by
  obtain ⟨hx, hb, hr, hml, hown, hts, hlk⟩ := id C0
  intro x1 x2 x3 x4 x5 w H locs ls hw hS hl hf
  unfold fx_rests at hf
  refine lv_aload_n hx hb dX3_rests_0 rfl (lv_at hl 0 rfl) ?_
  refine lv_iload_n hx hb dX3_rests_1 rfl (lv_at hl 1 rfl) ?_
  obtain ⟨q2, h2, hf⟩ := bd_e hf
  refine z_calli (va_runV (As := [.int x1]) (rest := []) ⟨hx, hb, hml, hown, hts⟩ (kx_isThere l (D := D) (K := K) (t0 := t0) hJ x1 w  h2) (cwV 1 hts gX3_rests_X3_isThere rfl rfl rfl (by decide +kernel) ⟨Nat.le_of_ble_eq_true rfl, Nat.le_of_ble_eq_true rfl⟩) (z_preV eX_ok hK hE hw hS kc_0.2 ((cX_a0 kc_0.1) _) (T := TX3) (M := 18) rfl) rfl rfl hl.1 rfl (lv_room (Nat.le_of_ble_eq_true rfl)) dX3_rests_2 ⟨Nat.le_of_ble_eq_true rfl, Nat.le_of_ble_eq_true rfl⟩) hS (fun H locs hw hS => ?_)
  refine lv_if_eq (tgt := 16) hx hb dX3_rests_5 (by decide) (fun c5 => ?_) (fun c5 => ?_)
  · replace hf := if_t hf c5
    refine lv_iconst (v := (-1)) hx hb dX3_rests_16 (by decide) ?_
    exact z_iret hx hb hr hlk hw hS hf dX3_rests_17
  · replace hf := if_f hf c5
    refine lv_aload_n hx hb dX3_rests_8 rfl (lv_at hl 0 rfl) ?_
    refine lv_iload_n hx hb dX3_rests_9 rfl (lv_at hl 2 rfl) ?_
    obtain ⟨q10, h10, hf⟩ := bd_e hf
    refine z_calli (va_runV (As := [.int x2]) (rest := []) ⟨hx, hb, hml, hown, hts⟩ (kx_isThere l (D := D) (K := K) (t0 := t0) hJ x2 (q2.2)  h10) (cwV 1 hts gX3_rests_X3_isThere rfl rfl rfl (by decide +kernel) ⟨Nat.le_of_ble_eq_true rfl, Nat.le_of_ble_eq_true rfl⟩) (z_preV eX_ok hK hE hw hS kc_0.2 ((cX_a0 kc_0.1) _) (T := TX3) (M := 18) rfl) rfl rfl hl.1 rfl (lv_room (Nat.le_of_ble_eq_true rfl)) dX3_rests_10 ⟨Nat.le_of_ble_eq_true rfl, Nat.le_of_ble_eq_true rfl⟩) hS (fun H locs hw hS => ?_)
    refine lv_if_ne (tgt := 18) hx hb dX3_rests_13 (by decide) (fun c13 => ?_) (fun c13 => ?_)
    · replace hf := if_f hf c13
      refine lv_iload_n hx hb dX3_rests_18 rfl (lv_at hl 1 rfl) ?_
      refine lv_iload_n hx hb dX3_rests_19 rfl (lv_at hl 2 rfl) ?_
      refine lv_icmp_eq (tgt := 49) hx hb dX3_rests_20 (by decide) (fun c20 => ?_) (fun c20 => ?_)
      · replace hf := if_t hf c20
        refine lv_bipush (v := (-2)) hx hb dX3_rests_49 (by decide) ?_
        exact z_iret hx hb hr hlk hw hS hf dX3_rests_51
      · replace hf := if_f hf c20
        refine lv_iload_n hx hb dX3_rests_23 rfl (lv_at hl 3 rfl) ?_
        obtain ⟨v24, h24, hf⟩ := bd_e hf
        refine z_calls (va_runS (As := [.int x3]) (rest := []) ⟨hx, hb, hml, hown, hts⟩ (kx_isSense l x3 h24) (va_cwS 1 hts gX3_rests_X3_isSense rfl rfl rfl (by decide +kernel) ⟨Nat.le_of_ble_eq_true rfl, Nat.le_of_ble_eq_true rfl⟩) z_preT rfl rfl hl.1 rfl (lv_room (Nat.le_of_ble_eq_true rfl)) dX3_rests_24 ⟨Nat.le_of_ble_eq_true rfl, Nat.le_of_ble_eq_true rfl⟩) ?_
        refine lv_if_eq (tgt := 49) hx hb dX3_rests_27 (by decide) (fun c27 => ?_) (fun c27 => ?_)
        · replace hf := if_t hf c27
          refine lv_bipush (v := (-2)) hx hb dX3_rests_49 (by decide) ?_
          exact z_iret hx hb hr hlk hw hS hf dX3_rests_51
        · replace hf := if_f hf c27
          refine lv_iload hx hb dX3_rests_30 (lv_at hl 4 rfl) ?_
          obtain ⟨v32, h32, hf⟩ := bd_e hf
          refine z_calls (va_runS (As := [.int x4]) (rest := []) ⟨hx, hb, hml, hown, hts⟩ (kx_isSense l x4 h32) (va_cwS 1 hts gX3_rests_X3_isSense rfl rfl rfl (by decide +kernel) ⟨Nat.le_of_ble_eq_true rfl, Nat.le_of_ble_eq_true rfl⟩) z_preT rfl rfl hl.1 rfl (lv_room (Nat.le_of_ble_eq_true rfl)) dX3_rests_32 ⟨Nat.le_of_ble_eq_true rfl, Nat.le_of_ble_eq_true rfl⟩) ?_
          refine lv_if_eq (tgt := 49) hx hb dX3_rests_35 (by decide) (fun c35 => ?_) (fun c35 => ?_)
          · replace hf := if_t hf c35
            refine lv_bipush (v := (-2)) hx hb dX3_rests_49 (by decide) ?_
            exact z_iret hx hb hr hlk hw hS hf dX3_rests_51
          · replace hf := if_f hf c35
            refine lv_iload hx hb dX3_rests_38 (lv_at hl 5 rfl) ?_
            refine lv_if_lt (tgt := 49) hx hb dX3_rests_40 (by decide) (fun c40 => ?_) (fun c40 => ?_)
            · replace hf := if_t hf c40
              refine lv_bipush (v := (-2)) hx hb dX3_rests_49 (by decide) ?_
              exact z_iret hx hb hr hlk hw hS hf dX3_rests_51
            · replace hf := if_f hf c40
              refine lv_iload hx hb dX3_rests_43 (lv_at hl 5 rfl) ?_
              refine lv_iconst (v := 1) hx hb dX3_rests_45 (by decide) ?_
              refine lv_icmp_le (tgt := 52) hx hb dX3_rests_46 (by decide) (fun c46 => ?_) (fun c46 => ?_)
              · replace hf := if_t hf c46
                refine lv_aload_n hx hb dX3_rests_52 rfl (lv_at hl 0 rfl) ?_
                refine lv_iload_n hx hb dX3_rests_53 rfl (lv_at hl 1 rfl) ?_
                refine lv_iload_n hx hb dX3_rests_54 rfl (lv_at hl 2 rfl) ?_
                obtain ⟨w55, h55, hf⟩ := bd_e hf
                refine z_callv (va_runV (As := [.int x1, .int x2]) (rest := []) ⟨hx, hb, hml, hown, hts⟩ (kx_playOutcomes l (D := D) (K := K) (t0 := t0) hJ x1 x2 (q10.2)  h55) (cwV 2 hts gX3_rests_X3_playOutcomes rfl rfl rfl (by decide +kernel) ⟨Nat.le_of_ble_eq_true rfl, Nat.le_of_ble_eq_true rfl⟩) (z_preV eX_ok hK hE hw hS kc_0.2 ((cX_a0 kc_0.1) _) (T := TX3) (M := 18) rfl) rfl rfl hl.1 rfl (lv_room (Nat.le_of_ble_eq_true rfl)) dX3_rests_55 ⟨Nat.le_of_ble_eq_true rfl, Nat.le_of_ble_eq_true rfl⟩) hS (fun H locs hw hS => ?_)
                refine lv_iconst (v := 0) hx hb dX3_rests_58 (by decide) ?_
                refine lv_istore (lv' := [(6, .int 0), (0, .ref (L 0)), (1, .int x1), (2, .int x2), (3, .int x3), (4, .int x4), (5, .int x5)]) hx hb dX3_rests_59 hl (by decide) rfl (fun ls hl => ?_)
                refine lv_bipush (v := (-9)) hx hb dX3_rests_61 (by decide) ?_
                refine lv_istore (lv' := [(7, .int (-9)), (6, .int 0), (0, .ref (L 0)), (1, .int x1), (2, .int x2), (3, .int x3), (4, .int x4), (5, .int x5)]) hx hb dX3_rests_63 hl (by decide) rfl (fun ls hl => ?_)
                refine lv_iconst (v := 0) hx hb dX3_rests_65 (by decide) ?_
                refine lv_istore (lv' := [(8, .int 0), (7, .int (-9)), (6, .int 0), (0, .ref (L 0)), (1, .int x1), (2, .int x2), (3, .int x3), (4, .int x4), (5, .int x5)]) hx hb dX3_rests_66 hl (by decide) rfl (fun ls hl => ?_)
                exact wx_rests_68 hJ C0 hK hE _ _ _ _ _ _ _ _ _ _ _ hw hS (lv_sub hl [3, 6, 7, 8, 2, 1, 0] rfl) hf
              · replace hf := if_f hf c46
                refine lv_bipush (v := (-2)) hx hb dX3_rests_49 (by decide) ?_
                exact z_iret hx hb hr hlk hw hS hf dX3_rests_51
    · replace hf := if_t hf c13
      refine lv_iconst (v := (-1)) hx hb dX3_rests_16 (by decide) ?_
      exact z_iret hx hb hr hlk hw hS hf dX3_rests_17
set_option maxHeartbeats 4000000 in
set_option maxRecDepth 100000 in
theorem kx_rests (l : Launch) {D : va_G} {L : Nat → Nat} {K : Nat → ClassId} {t0 : Nat} (hJ : gj L 81) (x1 : Int32) (x2 : Int32) (x3 : Int32) (x4 : Int32) (x5 : Int32) (w : St) {w9 : St} {rs : Int32} (hf : fx_rests x1 x2 x3 x4 x5 w = some (rs, w9)) : Met l yX3_rests wsX3_rests ({ frames := 3, cells := 0, slots := 0, locals := 70 }) (va_Pc [.ref (L 0), .int x1, .int x2, .int x3, .int x4, .int x5] (xP D L K t0 w)) (qI D L 81 (cX L K) rs w9) 0 0 (gA L 81) := by
  refine g_met (cc := cX3_rests) (nL := 10) (ret := (some .int)) (by decide) rfl (Nat.le_of_ble_eq_true rfl) (fun p e s m below meth c ls C0 hP hl => ?_)
  exact wx_rests_0 hJ C0 hP.2.1 hP.2.2 _ _ _ _ _ w _ _ ls hP.1 va_S.rf (lv_sub hl [0, 1, 2, 3, 4, 5] rfl) hf
set_option maxRecDepth 20000 in
theorem ggX3_playWhoMay_X2_become : GoodIn wsX3_playWhoMay wsX2_become := goodIn_r _ [6, 7, 8, 9, 10, 60, 61, 62, 63] (by decide +kernel) (by decide +kernel)
set_option maxRecDepth 20000 in
theorem gX3_playWhoMay_X2_become_n187 : GoodIn wsX3_playWhoMay (wsX2_become) := ggX3_playWhoMay_X2_become
set_option maxRecDepth 20000 in
theorem ggX3_playWhoMay_X3_personIn : GoodIn wsX3_playWhoMay wsX3_personIn := goodIn_r _ [14] (by decide +kernel) (by decide +kernel)
set_option maxRecDepth 20000 in
theorem gX3_playWhoMay_X3_personIn : GoodIn wsX3_playWhoMay (va_wsS RX3 245 yX3_personIn wsX3_personIn) := goodIn_app (goodIn_of _ (by decide +kernel)) ggX3_playWhoMay_X3_personIn
set_option maxRecDepth 20000 in
theorem ggX3_playWhoMay_X3_maySpeak : GoodIn wsX3_playWhoMay wsX3_maySpeak := goodIn_r _ [18, 19, 20, 21, 13, 22, 38, 39, 40, 41, 42, 43, 44, 45, 46, 47, 48, 49, 50, 51, 52, 53, 54, 55, 60, 61, 62, 63] (by decide +kernel) (by decide +kernel)
set_option maxRecDepth 20000 in
theorem gX3_playWhoMay_X3_maySpeak : GoodIn wsX3_playWhoMay (wsV RX3 103 RX3 yX3_maySpeak wsX3_maySpeak) := goodIn_app (goodIn_of _ (by decide +kernel)) ggX3_playWhoMay_X3_maySpeak
set_option maxRecDepth 20000 in
theorem ggX3_playWhoMay_X3_speak : GoodIn wsX3_playWhoMay wsX3_speak := goodIn_r _ [26, 19, 27, 28, 29, 13, 30, 31, 2, 32, 4, 33, 34, 9, 7, 8, 10, 35, 36, 37, 38, 39, 40, 41, 42, 43, 44, 45, 46, 47, 48, 49, 50, 51, 52, 53, 54, 55, 56, 57, 58, 59, 60, 61, 62, 63] (by decide +kernel) (by decide +kernel)
set_option maxRecDepth 20000 in
theorem gX3_playWhoMay_X3_speak : GoodIn wsX3_playWhoMay (wsV RX3 124 RX3 yX3_speak wsX3_speak) := goodIn_app (goodIn_of _ (by decide +kernel)) ggX3_playWhoMay_X3_speak
theorem dX3_playWhoMay_0 : decode cX3_playWhoMay 0 = .ok (.aload_n 0, 1) := by decide +kernel
theorem dX3_playWhoMay_1 : decode cX3_playWhoMay 1 = .ok (.getfield 41, 3) := by decide +kernel
theorem dX3_playWhoMay_4 : decode cX3_playWhoMay 4 = .ok (.aload_n 0, 1) := by decide +kernel
theorem dX3_playWhoMay_5 : decode cX3_playWhoMay 5 = .ok (.getfield 23, 3) := by decide +kernel
theorem dX3_playWhoMay_8 : decode cX3_playWhoMay 8 = .ok (.getfield 100, 3) := by decide +kernel
theorem dX3_playWhoMay_11 : decode cX3_playWhoMay 11 = .ok (.invokevirtual 187, 3) := by decide +kernel
theorem dX3_playWhoMay_14 : decode cX3_playWhoMay 14 = .ok (.iconst 0, 1) := by decide +kernel
theorem dX3_playWhoMay_15 : decode cX3_playWhoMay 15 = .ok (.istore_n 3, 1) := by decide +kernel
theorem dX3_playWhoMay_16 : decode cX3_playWhoMay 16 = .ok (.iload_n 3, 1) := by decide +kernel
theorem dX3_playWhoMay_17 : decode cX3_playWhoMay 17 = .ok (.iload_n 1, 1) := by decide +kernel
theorem dX3_playWhoMay_18 : decode cX3_playWhoMay 18 = .ok (.if_icmp .ge 47, 3) := by decide +kernel
theorem dX3_playWhoMay_21 : decode cX3_playWhoMay 21 = .ok (.iload_n 1, 1) := by decide +kernel
theorem dX3_playWhoMay_22 : decode cX3_playWhoMay 22 = .ok (.iload_n 2, 1) := by decide +kernel
theorem dX3_playWhoMay_23 : decode cX3_playWhoMay 23 = .ok (.iload_n 3, 1) := by decide +kernel
theorem dX3_playWhoMay_24 : decode cX3_playWhoMay 24 = .ok (.invokestatic 245, 3) := by decide +kernel
theorem dX3_playWhoMay_27 : decode cX3_playWhoMay 27 = .ok (.istore 4, 2) := by decide +kernel
theorem dX3_playWhoMay_29 : decode cX3_playWhoMay 29 = .ok (.aload_n 0, 1) := by decide +kernel
theorem dX3_playWhoMay_30 : decode cX3_playWhoMay 30 = .ok (.aload_n 0, 1) := by decide +kernel
theorem dX3_playWhoMay_31 : decode cX3_playWhoMay 31 = .ok (.getfield 41, 3) := by decide +kernel
theorem dX3_playWhoMay_34 : decode cX3_playWhoMay 34 = .ok (.aload_n 0, 1) := by decide +kernel
theorem dX3_playWhoMay_35 : decode cX3_playWhoMay 35 = .ok (.getfield 23, 3) := by decide +kernel
theorem dX3_playWhoMay_38 : decode cX3_playWhoMay 38 = .ok (.getfield 93, 3) := by decide +kernel
theorem dX3_playWhoMay_41 : decode cX3_playWhoMay 41 = .ok (.iload 4, 2) := by decide +kernel
theorem dX3_playWhoMay_43 : decode cX3_playWhoMay 43 = .ok (.invokevirtual 103, 3) := by decide +kernel
theorem dX3_playWhoMay_46 : decode cX3_playWhoMay 46 = .ok (.ifCond .eq 13, 3) := by decide +kernel
theorem dX3_playWhoMay_49 : decode cX3_playWhoMay 49 = .ok (.aload_n 0, 1) := by decide +kernel
theorem dX3_playWhoMay_50 : decode cX3_playWhoMay 50 = .ok (.aload_n 0, 1) := by decide +kernel
theorem dX3_playWhoMay_51 : decode cX3_playWhoMay 51 = .ok (.getfield 41, 3) := by decide +kernel
theorem dX3_playWhoMay_54 : decode cX3_playWhoMay 54 = .ok (.iload 4, 2) := by decide +kernel
theorem dX3_playWhoMay_56 : decode cX3_playWhoMay 56 = .ok (.invokevirtual 124, 3) := by decide +kernel
theorem dX3_playWhoMay_59 : decode cX3_playWhoMay 59 = .ok (.iinc 3 1, 3) := by decide +kernel
theorem dX3_playWhoMay_62 : decode cX3_playWhoMay 62 = .ok (.goto (-46), 3) := by decide +kernel
theorem dX3_playWhoMay_65 : decode cX3_playWhoMay 65 = .ok (.return_, 1) := by decide +kernel
set_option maxRecDepth 20000 in
theorem hiX3_playWhoMay_X0 : ∀ w ∈ u_ws RX0 TX0 4, w ∈ wsX3_playWhoMay := by decide +kernel
set_option maxRecDepth 20000 in
theorem hiX3_playWhoMay_X3 : ∀ w ∈ u_ws RX3 TX3 18, w ∈ wsX3_playWhoMay := by decide +kernel
set_option maxHeartbeats 4000000 in
set_option maxRecDepth 100000 in
theorem wx_playWhoMay_59 {p : Program} {l : Launch} {e : Env} {s : State} {m : MethodId} {args : Array Value} {below : List Frame} {meth : Method} {c : Code} {D : va_G} {L : Nat → Nat} {K : Nat → ClassId} {t0 : Nat} (hJ : gj L 81) (C0 : gC cX3_playWhoMay 5 none wsX3_playWhoMay RX3 p s m args meth c) (hK : va_K D vwCl (tyG K) s) (hE : eX L t0 s) {w9 : St} (k16 : Int32 → Int32 → Int32 → St → Option St) (i16 : ∀ (x1 : Int32) (x2 : Int32) (x3 : Int32) (w : St) (H : Heap) (locs : List Loc) (ls : Array Slot), va_P D vwCl (gl L 81 (cX L K w)) H → va_S (gA L 81) s.heap H locs → lv_has ls 5 [(0, .ref (L 0)), (1, .int x1), (2, .int x2), (3, .int x3)] → k16 x1 x2 x3 w = some w9 → W p l e { frames := 3, cells := 0, slots := 0, locals := 69 } s m args below meth c H locs 0 0 (MQ below (qV D L 81 (cX L K) w9) args s 0 0 (gA L 81)) (F0 m 16 ls [])) : ∀ (x1 : Int32) (x2 : Int32) (x3 : Int32) (w : St) (H : Heap) (locs : List Loc) (ls : Array Slot), va_P D vwCl (gl L 81 (cX L K w)) H → va_S (gA L 81) s.heap H locs → lv_has ls 5 [(0, .ref (L 0)), (1, .int x1), (2, .int x2), (3, .int x3)] → fx_playWhoMay_59 k16 x1 x2 x3 w = some w9 → W p l e { frames := 3, cells := 0, slots := 0, locals := 69 } s m args below meth c H locs 0 0 (MQ below (qV D L 81 (cX L K) w9) args s 0 0 (gA L 81)) (F0 m 59 ls []) := by
  obtain ⟨hx, hb, hr, hml, hown, hts, hlk⟩ := id C0
  intro x1 x2 x3 w H locs ls hw hS hl hf
  unfold fx_playWhoMay_59 at hf
  refine lv_iinc (v := (x3 + 1)) (lv' := [(3, .int (x3 + 1)), (0, .ref (L 0)), (1, .int x1), (2, .int x2)]) hx hb dX3_playWhoMay_59 hl (k := 3) rfl rfl (by decide) rfl (fun ls hl => ?_)
  refine lv_goto (tgt := 16) hx hb dX3_playWhoMay_62 (by decide) ?_
  exact i16 _ _ _ _ _ _ _ hw hS (lv_sub hl [1, 2, 3, 0] rfl) hf
set_option maxHeartbeats 4000000 in
set_option maxRecDepth 100000 in
theorem wx_playWhoMay_16 {p : Program} {l : Launch} {e : Env} {s : State} {m : MethodId} {args : Array Value} {below : List Frame} {meth : Method} {c : Code} {D : va_G} {L : Nat → Nat} {K : Nat → ClassId} {t0 : Nat} (hJ : gj L 81) (C0 : gC cX3_playWhoMay 5 none wsX3_playWhoMay RX3 p s m args meth c) (hK : va_K D vwCl (tyG K) s) (hE : eX L t0 s) {w9 : St} : ∀ (fu : Nat) (x1 : Int32) (x2 : Int32) (x3 : Int32) (w : St) (H : Heap) (locs : List Loc) (ls : Array Slot), va_P D vwCl (gl L 81 (cX L K w)) H → va_S (gA L 81) s.heap H locs → lv_has ls 5 [(0, .ref (L 0)), (1, .int x1), (2, .int x2), (3, .int x3)] → fx_playWhoMay_16 fu x1 x2 x3 w = some w9 → W p l e { frames := 3, cells := 0, slots := 0, locals := 69 } s m args below meth c H locs 0 0 (MQ below (qV D L 81 (cX L K) w9) args s 0 0 (gA L 81)) (F0 m 16 ls []) := by
  obtain ⟨hx, hb, hr, hml, hown, hts, hlk⟩ := id C0
  intro fu
  induction fu with
  | zero =>
    intro x1 x2 x3 w H locs ls hw hS hl hf
    rw [fx_playWhoMay_16] at hf
    exact no_n hf
  | succ fu ih =>
    intro x1 x2 x3 w H locs ls hw hS hl hf
    rw [fx_playWhoMay_16] at hf
    refine lv_iload_n hx hb dX3_playWhoMay_16 rfl (lv_at hl 3 rfl) ?_
    refine lv_iload_n hx hb dX3_playWhoMay_17 rfl (lv_at hl 1 rfl) ?_
    refine lv_icmp_ge (tgt := 65) hx hb dX3_playWhoMay_18 (by decide) (fun c18 => ?_) (fun c18 => ?_)
    · replace hf := if_t hf c18
      exact z_vret hx hb hr hlk hw hS hf dX3_playWhoMay_65
    · replace hf := if_f hf c18
      refine lv_iload_n hx hb dX3_playWhoMay_21 rfl (lv_at hl 1 rfl) ?_
      refine lv_iload_n hx hb dX3_playWhoMay_22 rfl (lv_at hl 2 rfl) ?_
      refine lv_iload_n hx hb dX3_playWhoMay_23 rfl (lv_at hl 3 rfl) ?_
      obtain ⟨v24, h24, hf⟩ := bd_e hf
      refine z_calls (va_runS (As := [.int x1, .int x2, .int x3]) (rest := []) ⟨hx, hb, hml, hown, hts⟩ (kx_personIn l x1 x2 x3 h24) (va_cwS 3 hts gX3_playWhoMay_X3_personIn rfl rfl rfl (by decide +kernel) ⟨Nat.le_of_ble_eq_true rfl, Nat.le_of_ble_eq_true rfl⟩) z_preT rfl rfl hl.1 rfl (lv_room (Nat.le_of_ble_eq_true rfl)) dX3_playWhoMay_24 ⟨Nat.le_of_ble_eq_true rfl, Nat.le_of_ble_eq_true rfl⟩) ?_
      refine lv_istore (lv' := [(4, .int v24), (0, .ref (L 0)), (1, .int x1), (2, .int x2), (3, .int x3)]) hx hb dX3_playWhoMay_27 hl (by decide) rfl (fun ls hl => ?_)
      refine lv_aload_n hx hb dX3_playWhoMay_29 rfl (lv_at hl 1 rfl) ?_
      refine lv_aload_n hx hb dX3_playWhoMay_30 rfl (lv_at hl 1 rfl) ?_
      refine z_get (v := .ref (L 11)) hx hb hts hiX3_playWhoMay_X3 hown hK hw (k := 0) kc_0.2 ((cX_a0 kc_0.1) _) rfl 13 (by decide) (hts (.fieldLink RX3 41 "OneSentence" "trial" "LOneSentence$Talk;") (by decide +kernel)) rfl dX3_playWhoMay_31 ?_
      refine lv_aload_n hx hb dX3_playWhoMay_34 rfl (lv_at hl 1 rfl) ?_
      refine z_get (v := .ref (L 13)) hx hb hts hiX3_playWhoMay_X3 hown hK hw (k := 0) kc_0.2 ((cX_a0 kc_0.1) _) rfl 6 (by decide) (hts (.fieldLink RX3 23 "OneSentence" "today" "LOneSentence$Day;") (by decide +kernel)) rfl dX3_playWhoMay_35 ?_
      refine z_getN (v := .int (w.1 13 1)) hx hb hts hiX3_playWhoMay_X0 hown hK hw (k := 13) kc_13.2 ((cX_a2 kc_13.1) _) rfl 1 (by decide) (hE.1 (RX3, 93, "OneSentence$Day", "at", "I", "OneSentence") (by decide)) rfl dX3_playWhoMay_38 ?_
      refine lv_iload hx hb dX3_playWhoMay_41 (lv_at hl 0 rfl) ?_
      obtain ⟨q43, h43, hf⟩ := bd_e hf
      refine z_calli (va_runV (As := [.ref (L 11), .int (w.1 13 1), .int v24]) (rest := []) ⟨hx, hb, hml, hown, hts⟩ (kx_maySpeak l (D := D) (K := K) (t0 := t0) hJ 11 (w.1 13 1) v24 w kc_11 h43) (cwV 3 hts gX3_playWhoMay_X3_maySpeak rfl rfl rfl (by decide +kernel) ⟨Nat.le_of_ble_eq_true rfl, Nat.le_of_ble_eq_true rfl⟩) (z_preV eX_ok hK hE hw hS kc_0.2 ((cX_a0 kc_0.1) _) (T := TX3) (M := 18) rfl) rfl rfl hl.1 rfl (lv_room (Nat.le_of_ble_eq_true rfl)) dX3_playWhoMay_43 ⟨Nat.le_of_ble_eq_true rfl, Nat.le_of_ble_eq_true rfl⟩) hS (fun H locs hw hS => ?_)
      refine lv_if_eq (tgt := 59) hx hb dX3_playWhoMay_46 (by decide) (fun c46 => ?_) (fun c46 => ?_)
      · replace hf := if_t hf c46
        exact wx_playWhoMay_59 hJ C0 hK hE _ ih _ _ _ _ _ _ _ hw hS (lv_sub hl [1, 2, 3, 4] rfl) hf
      · replace hf := if_f hf c46
        refine lv_aload_n hx hb dX3_playWhoMay_49 rfl (lv_at hl 1 rfl) ?_
        refine lv_aload_n hx hb dX3_playWhoMay_50 rfl (lv_at hl 1 rfl) ?_
        refine z_get (v := .ref (L 11)) hx hb hts hiX3_playWhoMay_X3 hown hK hw (k := 0) kc_0.2 ((cX_a0 kc_0.1) _) rfl 13 (by decide) (hts (.fieldLink RX3 41 "OneSentence" "trial" "LOneSentence$Talk;") (by decide +kernel)) rfl dX3_playWhoMay_51 ?_
        refine lv_iload hx hb dX3_playWhoMay_54 (lv_at hl 0 rfl) ?_
        obtain ⟨w56, h56, hf⟩ := bd_e hf
        refine z_callv (va_runV (As := [.ref (L 11), .int v24]) (rest := []) ⟨hx, hb, hml, hown, hts⟩ (kx_speak l (D := D) (K := K) (t0 := t0) hJ 11 v24 (q43.2) kc_11 h56) (cwV 2 hts gX3_playWhoMay_X3_speak rfl rfl rfl (by decide +kernel) ⟨Nat.le_of_ble_eq_true rfl, Nat.le_of_ble_eq_true rfl⟩) (z_preV eX_ok hK hE hw hS kc_0.2 ((cX_a0 kc_0.1) _) (T := TX3) (M := 18) rfl) rfl rfl hl.1 rfl (lv_room (Nat.le_of_ble_eq_true rfl)) dX3_playWhoMay_56 ⟨Nat.le_of_ble_eq_true rfl, Nat.le_of_ble_eq_true rfl⟩) hS (fun H locs hw hS => ?_)
        exact wx_playWhoMay_59 hJ C0 hK hE _ ih _ _ _ _ _ _ _ hw hS (lv_sub hl [1, 2, 3, 4] rfl) hf
set_option maxHeartbeats 4000000 in
set_option maxRecDepth 100000 in
theorem wx_playWhoMay_0 {p : Program} {l : Launch} {e : Env} {s : State} {m : MethodId} {args : Array Value} {below : List Frame} {meth : Method} {c : Code} {D : va_G} {L : Nat → Nat} {K : Nat → ClassId} {t0 : Nat} (hJ : gj L 81) (C0 : gC cX3_playWhoMay 5 none wsX3_playWhoMay RX3 p s m args meth c) (hK : va_K D vwCl (tyG K) s) (hE : eX L t0 s) {w9 : St} : ∀ (x1 : Int32) (x2 : Int32) (w : St) (H : Heap) (locs : List Loc) (ls : Array Slot), va_P D vwCl (gl L 81 (cX L K w)) H → va_S (gA L 81) s.heap H locs → lv_has ls 5 [(0, .ref (L 0)), (1, .int x1), (2, .int x2)] → fx_playWhoMay x1 x2 w = some w9 → W p l e { frames := 3, cells := 0, slots := 0, locals := 69 } s m args below meth c H locs 0 0 (MQ below (qV D L 81 (cX L K) w9) args s 0 0 (gA L 81)) (F0 m 0 ls []) := by
  obtain ⟨hx, hb, hr, hml, hown, hts, hlk⟩ := id C0
  intro x1 x2 w H locs ls hw hS hl hf
  unfold fx_playWhoMay at hf
  refine lv_aload_n hx hb dX3_playWhoMay_0 rfl (lv_at hl 0 rfl) ?_
  refine z_get (v := .ref (L 11)) hx hb hts hiX3_playWhoMay_X3 hown hK hw (k := 0) kc_0.2 ((cX_a0 kc_0.1) _) rfl 13 (by decide) (hts (.fieldLink RX3 41 "OneSentence" "trial" "LOneSentence$Talk;") (by decide +kernel)) rfl dX3_playWhoMay_1 ?_
  refine lv_aload_n hx hb dX3_playWhoMay_4 rfl (lv_at hl 0 rfl) ?_
  refine z_get (v := .ref (L 13)) hx hb hts hiX3_playWhoMay_X3 hown hK hw (k := 0) kc_0.2 ((cX_a0 kc_0.1) _) rfl 6 (by decide) (hts (.fieldLink RX3 23 "OneSentence" "today" "LOneSentence$Day;") (by decide +kernel)) rfl dX3_playWhoMay_5 ?_
  refine z_getN (v := .ref (L 14)) hx hb hts hiX3_playWhoMay_X0 hown hK hw (k := 13) kc_13.2 ((cX_a2 kc_13.1) _) rfl 0 (by decide) (hE.1 (RX3, 100, "OneSentence$Day", "talk", "LOneSentence$Talk;", "OneSentence") (by decide)) rfl dX3_playWhoMay_8 ?_
  obtain ⟨w11, h11, hf⟩ := bd_e hf
  refine z_callv (va_runVN (As := [.ref (L 14)]) (rest := []) ⟨hx, hb, hml, hown, hts⟩ (kt_become l (D := D) (K := K) (t0 := t0) hJ 11 14 w kc_11 kc_14 h11) ⟨va_cnB 1 hts gX3_playWhoMay_X2_become_n187 rfl rfl rfl (hE.2.1 (RX3, 187, yX2_become, "OneSentence") (by decide)) (hts (.initialized RX2) (by decide +kernel)) (by decide +kernel) ⟨Nat.le_of_ble_eq_true rfl, Nat.le_of_ble_eq_true rfl⟩, hts (.instanceMethod yX2_become) (by decide +kernel), hts (.selects RX2 yX2_become yX2_become) (by decide +kernel)⟩ (z_preV eX_ok hK hE hw hS kc_11.2 ((cX_a1 kc_11.1) _) (T := TX2) (M := 4) rfl) rfl rfl hl.1 rfl (lv_room (Nat.le_of_ble_eq_true rfl)) dX3_playWhoMay_11 ⟨Nat.le_of_ble_eq_true rfl, Nat.le_of_ble_eq_true rfl⟩) hS (fun H locs hw hS => ?_)
  refine lv_iconst (v := 0) hx hb dX3_playWhoMay_14 (by decide) ?_
  refine lv_istore_n (lv' := [(3, .int 0), (0, .ref (L 0)), (1, .int x1), (2, .int x2)]) hx hb dX3_playWhoMay_15 rfl hl (by decide) rfl (fun ls hl => ?_)
  exact wx_playWhoMay_16 hJ C0 hK hE _ _ _ _ _ _ _ _ hw hS (lv_sub hl [1, 2, 3, 0] rfl) hf
set_option maxHeartbeats 4000000 in
set_option maxRecDepth 100000 in
theorem kx_playWhoMay (l : Launch) {D : va_G} {L : Nat → Nat} {K : Nat → ClassId} {t0 : Nat} (hJ : gj L 81) (x1 : Int32) (x2 : Int32) (w : St) {w9 : St} (hf : fx_playWhoMay x1 x2 w = some w9) : Met l yX3_playWhoMay wsX3_playWhoMay ({ frames := 3, cells := 0, slots := 0, locals := 69 }) (va_Pc [.ref (L 0), .int x1, .int x2] (xP D L K t0 w)) (qV D L 81 (cX L K) w9) 0 0 (gA L 81) := by
  refine g_met (cc := cX3_playWhoMay) (nL := 5) (ret := none) (by decide) rfl (Nat.le_of_ble_eq_true rfl) (fun p e s m below meth c ls C0 hP hl => ?_)
  exact wx_playWhoMay_0 hJ C0 hP.2.1 hP.2.2 _ _ w _ _ ls hP.1 va_S.rf (lv_sub hl [0, 1, 2] rfl) hf
set_option maxRecDepth 20000 in
theorem ggX3_chance_X3_isSense : GoodIn wsX3_chance wsX3_isSense := goodIn_r _ [7] (by decide +kernel) (by decide +kernel)
set_option maxRecDepth 20000 in
theorem gX3_chance_X3_isSense : GoodIn wsX3_chance (va_wsS RX3 149 yX3_isSense wsX3_isSense) := goodIn_app (goodIn_of _ (by decide +kernel)) ggX3_chance_X3_isSense
set_option maxRecDepth 20000 in
theorem ggX3_chance_X3_fraction : GoodIn wsX3_chance wsX3_fraction := goodIn_r _ [10, 11, 12, 6, 13] (by decide +kernel) (by decide +kernel)
set_option maxRecDepth 20000 in
theorem gX3_chance_X3_fraction : GoodIn wsX3_chance (va_wsS RX3 197 yX3_fraction wsX3_fraction) := goodIn_app (goodIn_of _ (by decide +kernel)) ggX3_chance_X3_fraction
set_option maxRecDepth 20000 in
theorem ggX3_chance_X1_by : GoodIn wsX3_chance wsX1_by := goodIn_r _ [17, 18, 19, 20, 6, 21, 92, 93] (by decide +kernel) (by decide +kernel)
set_option maxRecDepth 20000 in
theorem gX3_chance_X1_by_n152 : GoodIn wsX3_chance (wsX1_by) := ggX3_chance_X1_by
set_option maxRecDepth 20000 in
theorem ggX3_chance_X1_many : GoodIn wsX3_chance wsX1_many := goodIn_r _ [24, 18, 25, 6, 26, 92, 93] (by decide +kernel) (by decide +kernel)
set_option maxRecDepth 20000 in
theorem gX3_chance_X1_many_n174 : GoodIn wsX3_chance (wsX1_many) := ggX3_chance_X1_many
set_option maxRecDepth 20000 in
theorem ggX3_chance_X1_told : GoodIn wsX3_chance wsX1_told := goodIn_r _ [29, 18, 19, 92, 93] (by decide +kernel) (by decide +kernel)
set_option maxRecDepth 20000 in
theorem gX3_chance_X1_told_n177 : GoodIn wsX3_chance (wsX1_told) := ggX3_chance_X1_told
set_option maxRecDepth 20000 in
theorem ggX3_chance_X3_playWhoMay : GoodIn wsX3_chance wsX3_playWhoMay := goodIn_r _ [33, 3, 1, 34, 35, 36, 37, 38, 39, 40, 41, 42, 43, 6, 44, 45, 46, 47, 48, 49, 50, 20, 21, 51, 52, 53, 54, 55, 56, 57, 58, 59, 60, 61, 62, 63, 64, 65, 66, 67, 68, 69, 70, 71, 72, 73, 74, 75, 76, 77, 78, 79, 80, 81, 82, 83, 84, 85, 86, 87, 88, 89, 90, 91] (by decide +kernel) (by decide +kernel)
set_option maxRecDepth 20000 in
theorem gX3_chance_X3_playWhoMay : GoodIn wsX3_chance (wsV RX3 213 RX3 yX3_playWhoMay wsX3_playWhoMay) := goodIn_app (goodIn_of _ (by decide +kernel)) ggX3_chance_X3_playWhoMay
theorem dX3_chance_0 : decode cX3_chance 0 = .ok (.iload_n 1, 1) := by decide +kernel
theorem dX3_chance_1 : decode cX3_chance 1 = .ok (.iconst 1, 1) := by decide +kernel
theorem dX3_chance_2 : decode cX3_chance 2 = .ok (.if_icmp .lt 15, 3) := by decide +kernel
theorem dX3_chance_5 : decode cX3_chance 5 = .ok (.iload_n 1, 1) := by decide +kernel
theorem dX3_chance_6 : decode cX3_chance 6 = .ok (.iconst 4, 1) := by decide +kernel
theorem dX3_chance_7 : decode cX3_chance 7 = .ok (.if_icmp .gt 10, 3) := by decide +kernel
theorem dX3_chance_10 : decode cX3_chance 10 = .ok (.iload_n 2, 1) := by decide +kernel
theorem dX3_chance_11 : decode cX3_chance 11 = .ok (.invokestatic 149, 3) := by decide +kernel
theorem dX3_chance_14 : decode cX3_chance 14 = .ok (.ifCond .ne 6, 3) := by decide +kernel
theorem dX3_chance_17 : decode cX3_chance 17 = .ok (.bipush (-2), 2) := by decide +kernel
theorem dX3_chance_19 : decode cX3_chance 19 = .ok (.ireturn, 1) := by decide +kernel
theorem dX3_chance_20 : decode cX3_chance 20 = .ok (.aload_n 0, 1) := by decide +kernel
theorem dX3_chance_21 : decode cX3_chance 21 = .ok (.getfield 23, 3) := by decide +kernel
theorem dX3_chance_24 : decode cX3_chance 24 = .ok (.getfield 93, 3) := by decide +kernel
theorem dX3_chance_27 : decode cX3_chance 27 = .ok (.ifCond .ne 28, 3) := by decide +kernel
theorem dX3_chance_30 : decode cX3_chance 30 = .ok (.aload_n 0, 1) := by decide +kernel
theorem dX3_chance_31 : decode cX3_chance 31 = .ok (.getfield 23, 3) := by decide +kernel
theorem dX3_chance_34 : decode cX3_chance 34 = .ok (.getfield 100, 3) := by decide +kernel
theorem dX3_chance_37 : decode cX3_chance 37 = .ok (.getfield 128, 3) := by decide +kernel
theorem dX3_chance_40 : decode cX3_chance 40 = .ok (.iload_n 2, 1) := by decide +kernel
theorem dX3_chance_41 : decode cX3_chance 41 = .ok (.if_icmp .ne 7, 3) := by decide +kernel
theorem dX3_chance_44 : decode cX3_chance 44 = .ok (.iconst 1, 1) := by decide +kernel
theorem dX3_chance_45 : decode cX3_chance 45 = .ok (.goto 4, 3) := by decide +kernel
theorem dX3_chance_48 : decode cX3_chance 48 = .ok (.iconst 0, 1) := by decide +kernel
theorem dX3_chance_49 : decode cX3_chance 49 = .ok (.iconst 1, 1) := by decide +kernel
theorem dX3_chance_50 : decode cX3_chance 50 = .ok (.iload_n 3, 1) := by decide +kernel
theorem dX3_chance_51 : decode cX3_chance 51 = .ok (.invokestatic 197, 3) := by decide +kernel
theorem dX3_chance_54 : decode cX3_chance 54 = .ok (.ireturn, 1) := by decide +kernel
theorem dX3_chance_55 : decode cX3_chance 55 = .ok (.aload_n 0, 1) := by decide +kernel
theorem dX3_chance_56 : decode cX3_chance 56 = .ok (.getfield 48, 3) := by decide +kernel
theorem dX3_chance_59 : decode cX3_chance 59 = .ok (.aload_n 0, 1) := by decide +kernel
theorem dX3_chance_60 : decode cX3_chance 60 = .ok (.getfield 23, 3) := by decide +kernel
theorem dX3_chance_63 : decode cX3_chance 63 = .ok (.getfield 93, 3) := by decide +kernel
theorem dX3_chance_66 : decode cX3_chance 66 = .ok (.invokevirtual 152, 3) := by decide +kernel
theorem dX3_chance_69 : decode cX3_chance 69 = .ok (.iconst 0, 1) := by decide +kernel
theorem dX3_chance_70 : decode cX3_chance 70 = .ok (.istore 4, 2) := by decide +kernel
theorem dX3_chance_72 : decode cX3_chance 72 = .ok (.aload_n 0, 1) := by decide +kernel
theorem dX3_chance_73 : decode cX3_chance 73 = .ok (.getfield 48, 3) := by decide +kernel
theorem dX3_chance_76 : decode cX3_chance 76 = .ok (.iload_n 1, 1) := by decide +kernel
theorem dX3_chance_77 : decode cX3_chance 77 = .ok (.invokevirtual 174, 3) := by decide +kernel
theorem dX3_chance_80 : decode cX3_chance 80 = .ok (.istore 5, 2) := by decide +kernel
theorem dX3_chance_82 : decode cX3_chance 82 = .ok (.iconst 0, 1) := by decide +kernel
theorem dX3_chance_83 : decode cX3_chance 83 = .ok (.istore 6, 2) := by decide +kernel
theorem dX3_chance_85 : decode cX3_chance 85 = .ok (.iload 6, 2) := by decide +kernel
theorem dX3_chance_87 : decode cX3_chance 87 = .ok (.iload 5, 2) := by decide +kernel
theorem dX3_chance_89 : decode cX3_chance 89 = .ok (.if_icmp .ge 38, 3) := by decide +kernel
theorem dX3_chance_92 : decode cX3_chance 92 = .ok (.aload_n 0, 1) := by decide +kernel
theorem dX3_chance_93 : decode cX3_chance 93 = .ok (.iload_n 1, 1) := by decide +kernel
theorem dX3_chance_94 : decode cX3_chance 94 = .ok (.aload_n 0, 1) := by decide +kernel
theorem dX3_chance_95 : decode cX3_chance 95 = .ok (.getfield 48, 3) := by decide +kernel
theorem dX3_chance_98 : decode cX3_chance 98 = .ok (.iload 6, 2) := by decide +kernel
theorem dX3_chance_100 : decode cX3_chance 100 = .ok (.iload_n 1, 1) := by decide +kernel
theorem dX3_chance_101 : decode cX3_chance 101 = .ok (.invokevirtual 177, 3) := by decide +kernel
theorem dX3_chance_104 : decode cX3_chance 104 = .ok (.invokevirtual 213, 3) := by decide +kernel
theorem dX3_chance_107 : decode cX3_chance 107 = .ok (.aload_n 0, 1) := by decide +kernel
theorem dX3_chance_108 : decode cX3_chance 108 = .ok (.getfield 41, 3) := by decide +kernel
theorem dX3_chance_111 : decode cX3_chance 111 = .ok (.getfield 128, 3) := by decide +kernel
theorem dX3_chance_114 : decode cX3_chance 114 = .ok (.iload_n 2, 1) := by decide +kernel
theorem dX3_chance_115 : decode cX3_chance 115 = .ok (.if_icmp .ne 6, 3) := by decide +kernel
theorem dX3_chance_118 : decode cX3_chance 118 = .ok (.iinc 4 1, 3) := by decide +kernel
theorem dX3_chance_121 : decode cX3_chance 121 = .ok (.iinc 6 1, 3) := by decide +kernel
theorem dX3_chance_124 : decode cX3_chance 124 = .ok (.goto (-39), 3) := by decide +kernel
theorem dX3_chance_127 : decode cX3_chance 127 = .ok (.iload 4, 2) := by decide +kernel
theorem dX3_chance_129 : decode cX3_chance 129 = .ok (.iload 5, 2) := by decide +kernel
theorem dX3_chance_131 : decode cX3_chance 131 = .ok (.iload_n 3, 1) := by decide +kernel
theorem dX3_chance_132 : decode cX3_chance 132 = .ok (.invokestatic 197, 3) := by decide +kernel
theorem dX3_chance_135 : decode cX3_chance 135 = .ok (.ireturn, 1) := by decide +kernel
set_option maxRecDepth 20000 in
theorem hiX3_chance_X0 : ∀ w ∈ u_ws RX0 TX0 4, w ∈ wsX3_chance := by decide +kernel
set_option maxRecDepth 20000 in
theorem hiX3_chance_X2 : ∀ w ∈ u_ws RX2 TX2 4, w ∈ wsX3_chance := by decide +kernel
set_option maxRecDepth 20000 in
theorem hiX3_chance_X3 : ∀ w ∈ u_ws RX3 TX3 18, w ∈ wsX3_chance := by decide +kernel
set_option maxHeartbeats 4000000 in
set_option maxRecDepth 100000 in
theorem wx_chance_121 {p : Program} {l : Launch} {e : Env} {s : State} {m : MethodId} {args : Array Value} {below : List Frame} {meth : Method} {c : Code} {D : va_G} {L : Nat → Nat} {K : Nat → ClassId} {t0 : Nat} (hJ : gj L 81) (C0 : gC cX3_chance 7 (some .int) wsX3_chance RX3 p s m args meth c) (hK : va_K D vwCl (tyG K) s) (hE : eX L t0 s) {w9 : St} {rs : Int32} (k85 : Int32 → Int32 → Int32 → Int32 → Int32 → Int32 → St → Option (Int32 × St)) (i85 : ∀ (x1 : Int32) (x2 : Int32) (x3 : Int32) (x4 : Int32) (x5 : Int32) (x6 : Int32) (w : St) (H : Heap) (locs : List Loc) (ls : Array Slot), va_P D vwCl (gl L 81 (cX L K w)) H → va_S (gA L 81) s.heap H locs → lv_has ls 7 [(0, .ref (L 0)), (1, .int x1), (2, .int x2), (3, .int x3), (4, .int x4), (5, .int x5), (6, .int x6)] → k85 x1 x2 x3 x4 x5 x6 w = some (rs, w9) → W p l e { frames := 4, cells := 0, slots := 0, locals := 93 } s m args below meth c H locs 0 0 (MQ below (qI D L 81 (cX L K) rs w9) args s 0 0 (gA L 81)) (F0 m 85 ls [])) : ∀ (x1 : Int32) (x2 : Int32) (x3 : Int32) (x4 : Int32) (x5 : Int32) (x6 : Int32) (w : St) (H : Heap) (locs : List Loc) (ls : Array Slot), va_P D vwCl (gl L 81 (cX L K w)) H → va_S (gA L 81) s.heap H locs → lv_has ls 7 [(0, .ref (L 0)), (1, .int x1), (2, .int x2), (3, .int x3), (4, .int x4), (5, .int x5), (6, .int x6)] → fx_chance_121 k85 x1 x2 x3 x4 x5 x6 w = some (rs, w9) → W p l e { frames := 4, cells := 0, slots := 0, locals := 93 } s m args below meth c H locs 0 0 (MQ below (qI D L 81 (cX L K) rs w9) args s 0 0 (gA L 81)) (F0 m 121 ls []) := by
  obtain ⟨hx, hb, hr, hml, hown, hts, hlk⟩ := id C0
  intro x1 x2 x3 x4 x5 x6 w H locs ls hw hS hl hf
  unfold fx_chance_121 at hf
  refine lv_iinc (v := (x6 + 1)) (lv' := [(6, .int (x6 + 1)), (0, .ref (L 0)), (1, .int x1), (2, .int x2), (3, .int x3), (4, .int x4), (5, .int x5)]) hx hb dX3_chance_121 hl (k := 6) rfl rfl (by decide) rfl (fun ls hl => ?_)
  refine lv_goto (tgt := 85) hx hb dX3_chance_124 (by decide) ?_
  exact i85 _ _ _ _ _ _ _ _ _ _ hw hS (lv_sub hl [1, 2, 3, 4, 5, 6, 0] rfl) hf
set_option maxHeartbeats 4000000 in
set_option maxRecDepth 100000 in
theorem wx_chance_85 {p : Program} {l : Launch} {e : Env} {s : State} {m : MethodId} {args : Array Value} {below : List Frame} {meth : Method} {c : Code} {D : va_G} {L : Nat → Nat} {K : Nat → ClassId} {t0 : Nat} (hJ : gj L 81) (C0 : gC cX3_chance 7 (some .int) wsX3_chance RX3 p s m args meth c) (hK : va_K D vwCl (tyG K) s) (hE : eX L t0 s) {w9 : St} {rs : Int32} : ∀ (fu : Nat) (x1 : Int32) (x2 : Int32) (x3 : Int32) (x4 : Int32) (x5 : Int32) (x6 : Int32) (w : St) (H : Heap) (locs : List Loc) (ls : Array Slot), va_P D vwCl (gl L 81 (cX L K w)) H → va_S (gA L 81) s.heap H locs → lv_has ls 7 [(0, .ref (L 0)), (1, .int x1), (2, .int x2), (3, .int x3), (4, .int x4), (5, .int x5), (6, .int x6)] → fx_chance_85 fu x1 x2 x3 x4 x5 x6 w = some (rs, w9) → W p l e { frames := 4, cells := 0, slots := 0, locals := 93 } s m args below meth c H locs 0 0 (MQ below (qI D L 81 (cX L K) rs w9) args s 0 0 (gA L 81)) (F0 m 85 ls []) := by
  obtain ⟨hx, hb, hr, hml, hown, hts, hlk⟩ := id C0
  intro fu
  induction fu with
  | zero =>
    intro x1 x2 x3 x4 x5 x6 w H locs ls hw hS hl hf
    rw [fx_chance_85] at hf
    exact no_n hf
  | succ fu ih =>
    intro x1 x2 x3 x4 x5 x6 w H locs ls hw hS hl hf
    rw [fx_chance_85] at hf
    refine lv_iload hx hb dX3_chance_85 (lv_at hl 6 rfl) ?_
    refine lv_iload hx hb dX3_chance_87 (lv_at hl 5 rfl) ?_
    refine lv_icmp_ge (tgt := 127) hx hb dX3_chance_89 (by decide) (fun c89 => ?_) (fun c89 => ?_)
    · replace hf := if_t hf c89
      refine lv_iload hx hb dX3_chance_127 (lv_at hl 4 rfl) ?_
      refine lv_iload hx hb dX3_chance_129 (lv_at hl 5 rfl) ?_
      refine lv_iload_n hx hb dX3_chance_131 rfl (lv_at hl 3 rfl) ?_
      obtain ⟨v132, h132, hf⟩ := bd_e hf
      refine z_calls (va_runS (As := [.int x4, .int x5, .int x3]) (rest := []) ⟨hx, hb, hml, hown, hts⟩ (kx_fraction l x4 x5 x3 h132) (va_cwS 3 hts gX3_chance_X3_fraction rfl rfl rfl (by decide +kernel) ⟨Nat.le_of_ble_eq_true rfl, Nat.le_of_ble_eq_true rfl⟩) z_preT rfl rfl hl.1 rfl (lv_room (Nat.le_of_ble_eq_true rfl)) dX3_chance_132 ⟨Nat.le_of_ble_eq_true rfl, Nat.le_of_ble_eq_true rfl⟩) ?_
      exact z_iret hx hb hr hlk hw hS hf dX3_chance_135
    · replace hf := if_f hf c89
      refine lv_aload_n hx hb dX3_chance_92 rfl (lv_at hl 0 rfl) ?_
      refine lv_iload_n hx hb dX3_chance_93 rfl (lv_at hl 1 rfl) ?_
      refine lv_aload_n hx hb dX3_chance_94 rfl (lv_at hl 0 rfl) ?_
      refine z_get (v := .ref (L 9)) hx hb hts hiX3_chance_X3 hown hK hw (k := 0) kc_0.2 ((cX_a0 kc_0.1) _) rfl 14 (by decide) (hts (.fieldLink RX3 48 "OneSentence" "rows" "LOneSentence$Rows;") (by decide +kernel)) rfl dX3_chance_95 ?_
      refine lv_iload hx hb dX3_chance_98 (lv_at hl 6 rfl) ?_
      refine lv_iload_n hx hb dX3_chance_100 rfl (lv_at hl 1 rfl) ?_
      obtain ⟨q101, h101, hf⟩ := bd_e hf
      refine z_calli (va_runVN (As := [.int x6, .int x1]) (rest := [.int x1, .ref (L 0)]) ⟨hx, hb, hml, hown, hts⟩ (kr_told l (D := D) (K := K) (t0 := t0) hJ x6 x1 w  h101) ⟨va_cnB 2 hts gX3_chance_X1_told_n177 rfl rfl rfl (hE.2.1 (RX3, 177, yX1_told, "OneSentence") (by decide)) (hts (.initialized RX1) (by decide +kernel)) (by decide +kernel) ⟨Nat.le_of_ble_eq_true rfl, Nat.le_of_ble_eq_true rfl⟩, hts (.instanceMethod yX1_told) (by decide +kernel), hts (.selects RX1 yX1_told yX1_told) (by decide +kernel)⟩ (z_preV eX_ok hK hE hw hS kc_9.2 ((cX_a3 kc_9.1) _) (T := TX1) (M := 2) rfl) rfl rfl hl.1 rfl (lv_room (Nat.le_of_ble_eq_true rfl)) dX3_chance_101 ⟨Nat.le_of_ble_eq_true rfl, Nat.le_of_ble_eq_true rfl⟩) hS (fun H locs hw hS => ?_)
      obtain ⟨w104, h104, hf⟩ := bd_e hf
      refine z_callv (va_runV (As := [.int x1, .int (q101.1)]) (rest := []) ⟨hx, hb, hml, hown, hts⟩ (kx_playWhoMay l (D := D) (K := K) (t0 := t0) hJ x1 (q101.1) (q101.2)  h104) (cwV 2 hts gX3_chance_X3_playWhoMay rfl rfl rfl (by decide +kernel) ⟨Nat.le_of_ble_eq_true rfl, Nat.le_of_ble_eq_true rfl⟩) (z_preV eX_ok hK hE hw hS kc_0.2 ((cX_a0 kc_0.1) _) (T := TX3) (M := 18) rfl) rfl rfl hl.1 rfl (lv_room (Nat.le_of_ble_eq_true rfl)) dX3_chance_104 ⟨Nat.le_of_ble_eq_true rfl, Nat.le_of_ble_eq_true rfl⟩) hS (fun H locs hw hS => ?_)
      refine lv_aload_n hx hb dX3_chance_107 rfl (lv_at hl 0 rfl) ?_
      refine z_get (v := .ref (L 11)) hx hb hts hiX3_chance_X3 hown hK hw (k := 0) kc_0.2 ((cX_a0 kc_0.1) _) rfl 13 (by decide) (hts (.fieldLink RX3 41 "OneSentence" "trial" "LOneSentence$Talk;") (by decide +kernel)) rfl dX3_chance_108 ?_
      refine z_getN (v := .int (w104.1 11 0)) hx hb hts hiX3_chance_X2 hown hK hw (k := 11) kc_11.2 ((cX_a1 kc_11.1) _) rfl 0 (by decide) (hE.1 (RX3, 128, "OneSentence$Talk", "sense", "I", "OneSentence") (by decide)) rfl dX3_chance_111 ?_
      refine lv_iload_n hx hb dX3_chance_114 rfl (lv_at hl 2 rfl) ?_
      refine lv_icmp_ne (tgt := 121) hx hb dX3_chance_115 (by decide) (fun c115 => ?_) (fun c115 => ?_)
      · replace hf := if_f hf c115
        exact wx_chance_121 hJ C0 hK hE _ ih _ _ _ _ _ _ _ _ _ _ hw hS (lv_sub hl [0, 1, 2, 3, 4, 5, 6] rfl) hf
      · replace hf := if_t hf c115
        refine lv_iinc (v := (x4 + 1)) (lv' := [(4, .int (x4 + 1)), (0, .ref (L 0)), (1, .int x1), (2, .int x2), (3, .int x3), (5, .int x5), (6, .int x6)]) hx hb dX3_chance_118 hl (k := 4) rfl rfl (by decide) rfl (fun ls hl => ?_)
        exact wx_chance_121 hJ C0 hK hE _ ih _ _ _ _ _ _ _ _ _ _ hw hS (lv_sub hl [1, 2, 3, 4, 0, 5, 6] rfl) hf
set_option maxHeartbeats 4000000 in
set_option maxRecDepth 100000 in
theorem wx_chance_49 {p : Program} {l : Launch} {e : Env} {s : State} {m : MethodId} {args : Array Value} {below : List Frame} {meth : Method} {c : Code} {D : va_G} {L : Nat → Nat} {K : Nat → ClassId} {t0 : Nat} (hJ : gj L 81) (C0 : gC cX3_chance 7 (some .int) wsX3_chance RX3 p s m args meth c) (hK : va_K D vwCl (tyG K) s) (hE : eX L t0 s) {w9 : St} {rs : Int32} : ∀ (x3 : Int32) (s0 : Int32) (w : St) (H : Heap) (locs : List Loc) (ls : Array Slot), va_P D vwCl (gl L 81 (cX L K w)) H → va_S (gA L 81) s.heap H locs → lv_has ls 7 [(3, .int x3)] → fx_chance_49 x3 s0 w = some (rs, w9) → W p l e { frames := 4, cells := 0, slots := 0, locals := 93 } s m args below meth c H locs 0 0 (MQ below (qI D L 81 (cX L K) rs w9) args s 0 0 (gA L 81)) (F0 m 49 ls [.int s0]) := by
  obtain ⟨hx, hb, hr, hml, hown, hts, hlk⟩ := id C0
  intro x3 s0 w H locs ls hw hS hl hf
  unfold fx_chance_49 at hf
  refine lv_iconst (v := 1) hx hb dX3_chance_49 (by decide) ?_
  refine lv_iload_n hx hb dX3_chance_50 rfl (lv_at hl 0 rfl) ?_
  obtain ⟨v51, h51, hf⟩ := bd_e hf
  refine z_calls (va_runS (As := [.int s0, .int 1, .int x3]) (rest := []) ⟨hx, hb, hml, hown, hts⟩ (kx_fraction l s0 1 x3 h51) (va_cwS 3 hts gX3_chance_X3_fraction rfl rfl rfl (by decide +kernel) ⟨Nat.le_of_ble_eq_true rfl, Nat.le_of_ble_eq_true rfl⟩) z_preT rfl rfl hl.1 rfl (lv_room (Nat.le_of_ble_eq_true rfl)) dX3_chance_51 ⟨Nat.le_of_ble_eq_true rfl, Nat.le_of_ble_eq_true rfl⟩) ?_
  exact z_iret hx hb hr hlk hw hS hf dX3_chance_54
set_option maxHeartbeats 4000000 in
set_option maxRecDepth 100000 in
theorem wx_chance_0 {p : Program} {l : Launch} {e : Env} {s : State} {m : MethodId} {args : Array Value} {below : List Frame} {meth : Method} {c : Code} {D : va_G} {L : Nat → Nat} {K : Nat → ClassId} {t0 : Nat} (hJ : gj L 81) (C0 : gC cX3_chance 7 (some .int) wsX3_chance RX3 p s m args meth c) (hK : va_K D vwCl (tyG K) s) (hE : eX L t0 s) {w9 : St} {rs : Int32} : ∀ (x1 : Int32) (x2 : Int32) (x3 : Int32) (w : St) (H : Heap) (locs : List Loc) (ls : Array Slot), va_P D vwCl (gl L 81 (cX L K w)) H → va_S (gA L 81) s.heap H locs → lv_has ls 7 [(0, .ref (L 0)), (1, .int x1), (2, .int x2), (3, .int x3)] → fx_chance x1 x2 x3 w = some (rs, w9) → W p l e { frames := 4, cells := 0, slots := 0, locals := 93 } s m args below meth c H locs 0 0 (MQ below (qI D L 81 (cX L K) rs w9) args s 0 0 (gA L 81)) (F0 m 0 ls []) := by
  obtain ⟨hx, hb, hr, hml, hown, hts, hlk⟩ := id C0
  intro x1 x2 x3 w H locs ls hw hS hl hf
  unfold fx_chance at hf
  refine lv_iload_n hx hb dX3_chance_0 rfl (lv_at hl 1 rfl) ?_
  refine lv_iconst (v := 1) hx hb dX3_chance_1 (by decide) ?_
  refine lv_icmp_lt (tgt := 17) hx hb dX3_chance_2 (by decide) (fun c2 => ?_) (fun c2 => ?_)
  · replace hf := if_t hf c2
    refine lv_bipush (v := (-2)) hx hb dX3_chance_17 (by decide) ?_
    exact z_iret hx hb hr hlk hw hS hf dX3_chance_19
  · replace hf := if_f hf c2
    refine lv_iload_n hx hb dX3_chance_5 rfl (lv_at hl 1 rfl) ?_
    refine lv_iconst (v := 4) hx hb dX3_chance_6 (by decide) ?_
    refine lv_icmp_gt (tgt := 17) hx hb dX3_chance_7 (by decide) (fun c7 => ?_) (fun c7 => ?_)
    · replace hf := if_t hf c7
      refine lv_bipush (v := (-2)) hx hb dX3_chance_17 (by decide) ?_
      exact z_iret hx hb hr hlk hw hS hf dX3_chance_19
    · replace hf := if_f hf c7
      refine lv_iload_n hx hb dX3_chance_10 rfl (lv_at hl 2 rfl) ?_
      obtain ⟨v11, h11, hf⟩ := bd_e hf
      refine z_calls (va_runS (As := [.int x2]) (rest := []) ⟨hx, hb, hml, hown, hts⟩ (kx_isSense l x2 h11) (va_cwS 1 hts gX3_chance_X3_isSense rfl rfl rfl (by decide +kernel) ⟨Nat.le_of_ble_eq_true rfl, Nat.le_of_ble_eq_true rfl⟩) z_preT rfl rfl hl.1 rfl (lv_room (Nat.le_of_ble_eq_true rfl)) dX3_chance_11 ⟨Nat.le_of_ble_eq_true rfl, Nat.le_of_ble_eq_true rfl⟩) ?_
      refine lv_if_ne (tgt := 20) hx hb dX3_chance_14 (by decide) (fun c14 => ?_) (fun c14 => ?_)
      · replace hf := if_f hf c14
        refine lv_aload_n hx hb dX3_chance_20 rfl (lv_at hl 0 rfl) ?_
        refine z_get (v := .ref (L 13)) hx hb hts hiX3_chance_X3 hown hK hw (k := 0) kc_0.2 ((cX_a0 kc_0.1) _) rfl 6 (by decide) (hts (.fieldLink RX3 23 "OneSentence" "today" "LOneSentence$Day;") (by decide +kernel)) rfl dX3_chance_21 ?_
        refine z_getN (v := .int (w.1 13 1)) hx hb hts hiX3_chance_X0 hown hK hw (k := 13) kc_13.2 ((cX_a2 kc_13.1) _) rfl 1 (by decide) (hE.1 (RX3, 93, "OneSentence$Day", "at", "I", "OneSentence") (by decide)) rfl dX3_chance_24 ?_
        refine lv_if_ne (tgt := 55) hx hb dX3_chance_27 (by decide) (fun c27 => ?_) (fun c27 => ?_)
        · replace hf := if_f hf c27
          refine lv_aload_n hx hb dX3_chance_55 rfl (lv_at hl 0 rfl) ?_
          refine z_get (v := .ref (L 9)) hx hb hts hiX3_chance_X3 hown hK hw (k := 0) kc_0.2 ((cX_a0 kc_0.1) _) rfl 14 (by decide) (hts (.fieldLink RX3 48 "OneSentence" "rows" "LOneSentence$Rows;") (by decide +kernel)) rfl dX3_chance_56 ?_
          refine lv_aload_n hx hb dX3_chance_59 rfl (lv_at hl 0 rfl) ?_
          refine z_get (v := .ref (L 13)) hx hb hts hiX3_chance_X3 hown hK hw (k := 0) kc_0.2 ((cX_a0 kc_0.1) _) rfl 6 (by decide) (hts (.fieldLink RX3 23 "OneSentence" "today" "LOneSentence$Day;") (by decide +kernel)) rfl dX3_chance_60 ?_
          refine z_getN (v := .int (w.1 13 1)) hx hb hts hiX3_chance_X0 hown hK hw (k := 13) kc_13.2 ((cX_a2 kc_13.1) _) rfl 1 (by decide) (hE.1 (RX3, 93, "OneSentence$Day", "at", "I", "OneSentence") (by decide)) rfl dX3_chance_63 ?_
          obtain ⟨w66, h66, hf⟩ := bd_e hf
          refine z_callv (va_runVN (As := [.int (w.1 13 1)]) (rest := []) ⟨hx, hb, hml, hown, hts⟩ (kr_by l (D := D) (K := K) (t0 := t0) hJ (w.1 13 1) w  h66) ⟨va_cnB 1 hts gX3_chance_X1_by_n152 rfl rfl rfl (hE.2.1 (RX3, 152, yX1_by, "OneSentence") (by decide)) (hts (.initialized RX1) (by decide +kernel)) (by decide +kernel) ⟨Nat.le_of_ble_eq_true rfl, Nat.le_of_ble_eq_true rfl⟩, hts (.instanceMethod yX1_by) (by decide +kernel), hts (.selects RX1 yX1_by yX1_by) (by decide +kernel)⟩ (z_preV eX_ok hK hE hw hS kc_9.2 ((cX_a3 kc_9.1) _) (T := TX1) (M := 2) rfl) rfl rfl hl.1 rfl (lv_room (Nat.le_of_ble_eq_true rfl)) dX3_chance_66 ⟨Nat.le_of_ble_eq_true rfl, Nat.le_of_ble_eq_true rfl⟩) hS (fun H locs hw hS => ?_)
          refine lv_iconst (v := 0) hx hb dX3_chance_69 (by decide) ?_
          refine lv_istore (lv' := [(4, .int 0), (0, .ref (L 0)), (1, .int x1), (2, .int x2), (3, .int x3)]) hx hb dX3_chance_70 hl (by decide) rfl (fun ls hl => ?_)
          refine lv_aload_n hx hb dX3_chance_72 rfl (lv_at hl 1 rfl) ?_
          refine z_get (v := .ref (L 9)) hx hb hts hiX3_chance_X3 hown hK hw (k := 0) kc_0.2 ((cX_a0 kc_0.1) _) rfl 14 (by decide) (hts (.fieldLink RX3 48 "OneSentence" "rows" "LOneSentence$Rows;") (by decide +kernel)) rfl dX3_chance_73 ?_
          refine lv_iload_n hx hb dX3_chance_76 rfl (lv_at hl 2 rfl) ?_
          obtain ⟨q77, h77, hf⟩ := bd_e hf
          refine z_calli (va_runVN (As := [.int x1]) (rest := []) ⟨hx, hb, hml, hown, hts⟩ (kr_many l (D := D) (K := K) (t0 := t0) hJ x1 w66  h77) ⟨va_cnB 1 hts gX3_chance_X1_many_n174 rfl rfl rfl (hE.2.1 (RX3, 174, yX1_many, "OneSentence") (by decide)) (hts (.initialized RX1) (by decide +kernel)) (by decide +kernel) ⟨Nat.le_of_ble_eq_true rfl, Nat.le_of_ble_eq_true rfl⟩, hts (.instanceMethod yX1_many) (by decide +kernel), hts (.selects RX1 yX1_many yX1_many) (by decide +kernel)⟩ (z_preV eX_ok hK hE hw hS kc_9.2 ((cX_a3 kc_9.1) _) (T := TX1) (M := 2) rfl) rfl rfl hl.1 rfl (lv_room (Nat.le_of_ble_eq_true rfl)) dX3_chance_77 ⟨Nat.le_of_ble_eq_true rfl, Nat.le_of_ble_eq_true rfl⟩) hS (fun H locs hw hS => ?_)
          refine lv_topi (fun v80 e80 => ?_)
          replace hf := lb_e hf e80
          refine lv_istore (lv' := [(5, .int v80), (4, .int 0), (0, .ref (L 0)), (1, .int x1), (2, .int x2), (3, .int x3)]) hx hb dX3_chance_80 hl (by decide) rfl (fun ls hl => ?_)
          refine lv_iconst (v := 0) hx hb dX3_chance_82 (by decide) ?_
          refine lv_istore (lv' := [(6, .int 0), (5, .int v80), (4, .int 0), (0, .ref (L 0)), (1, .int x1), (2, .int x2), (3, .int x3)]) hx hb dX3_chance_83 hl (by decide) rfl (fun ls hl => ?_)
          exact wx_chance_85 hJ C0 hK hE _ _ _ _ _ _ _ _ _ _ _ hw hS (lv_sub hl [3, 4, 5, 6, 2, 1, 0] rfl) hf
        · replace hf := if_t hf c27
          refine lv_aload_n hx hb dX3_chance_30 rfl (lv_at hl 0 rfl) ?_
          refine z_get (v := .ref (L 13)) hx hb hts hiX3_chance_X3 hown hK hw (k := 0) kc_0.2 ((cX_a0 kc_0.1) _) rfl 6 (by decide) (hts (.fieldLink RX3 23 "OneSentence" "today" "LOneSentence$Day;") (by decide +kernel)) rfl dX3_chance_31 ?_
          refine z_getN (v := .ref (L 14)) hx hb hts hiX3_chance_X0 hown hK hw (k := 13) kc_13.2 ((cX_a2 kc_13.1) _) rfl 0 (by decide) (hE.1 (RX3, 100, "OneSentence$Day", "talk", "LOneSentence$Talk;", "OneSentence") (by decide)) rfl dX3_chance_34 ?_
          refine z_getN (v := .int (w.1 14 0)) hx hb hts hiX3_chance_X2 hown hK hw (k := 14) kc_14.2 ((cX_a1 kc_14.1) _) rfl 0 (by decide) (hE.1 (RX3, 128, "OneSentence$Talk", "sense", "I", "OneSentence") (by decide)) rfl dX3_chance_37 ?_
          refine lv_iload_n hx hb dX3_chance_40 rfl (lv_at hl 2 rfl) ?_
          refine lv_icmp_ne (tgt := 48) hx hb dX3_chance_41 (by decide) (fun c41 => ?_) (fun c41 => ?_)
          · replace hf := if_f hf c41
            refine lv_iconst (v := 0) hx hb dX3_chance_48 (by decide) ?_
            exact wx_chance_49 hJ C0 hK hE _ _ _ _ _ _ hw hS (lv_sub hl [3] rfl) hf
          · replace hf := if_t hf c41
            refine lv_iconst (v := 1) hx hb dX3_chance_44 (by decide) ?_
            refine lv_goto (tgt := 49) hx hb dX3_chance_45 (by decide) ?_
            exact wx_chance_49 hJ C0 hK hE _ _ _ _ _ _ hw hS (lv_sub hl [3] rfl) hf
      · replace hf := if_t hf c14
        refine lv_bipush (v := (-2)) hx hb dX3_chance_17 (by decide) ?_
        exact z_iret hx hb hr hlk hw hS hf dX3_chance_19
set_option maxHeartbeats 4000000 in
set_option maxRecDepth 100000 in
theorem kx_chance (l : Launch) {D : va_G} {L : Nat → Nat} {K : Nat → ClassId} {t0 : Nat} (hJ : gj L 81) (x1 : Int32) (x2 : Int32) (x3 : Int32) (w : St) {w9 : St} {rs : Int32} (hf : fx_chance x1 x2 x3 w = some (rs, w9)) : Met l yX3_chance wsX3_chance ({ frames := 4, cells := 0, slots := 0, locals := 93 }) (va_Pc [.ref (L 0), .int x1, .int x2, .int x3] (xP D L K t0 w)) (qI D L 81 (cX L K) rs w9) 0 0 (gA L 81) := by
  refine g_met (cc := cX3_chance) (nL := 7) (ret := (some .int)) (by decide) rfl (Nat.le_of_ble_eq_true rfl) (fun p e s m below meth c ls C0 hP hl => ?_)
  exact wx_chance_0 hJ C0 hP.2.1 hP.2.2 _ _ _ w _ _ ls hP.1 va_S.rf (lv_sub hl [0, 1, 2, 3] rfl) hf
theorem dX3_seed_0 : decode cX3_seed 0 = .ok (.aload_n 0, 1) := by decide +kernel
theorem dX3_seed_1 : decode cX3_seed 1 = .ok (.getfield 216, 3) := by decide +kernel
theorem dX3_seed_4 : decode cX3_seed 4 = .ok (.lstore_n 3, 1) := by decide +kernel
theorem dX3_seed_5 : decode cX3_seed 5 = .ok (.aload_n 0, 1) := by decide +kernel
theorem dX3_seed_6 : decode cX3_seed 6 = .ok (.lload_n 1, 1) := by decide +kernel
theorem dX3_seed_7 : decode cX3_seed 7 = .ok (.putfield 216, 3) := by decide +kernel
theorem dX3_seed_10 : decode cX3_seed 10 = .ok (.lload_n 3, 1) := by decide +kernel
theorem dX3_seed_11 : decode cX3_seed 11 = .ok (.lreturn, 1) := by decide +kernel
set_option maxRecDepth 20000 in
theorem hiX3_seed_X3 : ∀ w ∈ u_ws RX3 TX3 18, w ∈ wsX3_seed := by decide +kernel
set_option maxHeartbeats 4000000 in
set_option maxRecDepth 100000 in
theorem wx_seed_0 {p : Program} {l : Launch} {e : Env} {s : State} {m : MethodId} {args : Array Value} {below : List Frame} {meth : Method} {c : Code} {D : va_G} {L : Nat → Nat} {K : Nat → ClassId} {t0 : Nat} (hJ : gj L 81) (C0 : gC cX3_seed 5 (some .long) wsX3_seed RX3 p s m args meth c) (hK : va_K D vwCl (tyG K) s) (hE : eX L t0 s) {w9 : St} {rs : Int64} : ∀ (x1 : Int64) (w : St) (H : Heap) (locs : List Loc) (ls : Array Slot), va_P D vwCl (gl L 81 (cX L K w)) H → va_S (gA L 81) s.heap H locs → lv_has ls 5 [(0, .ref (L 0)), (1, .long x1)] → fx_seed x1 w = some (rs, w9) → W p l e { frames := 0, cells := 0, slots := 0, locals := 0 } s m args below meth c H locs 0 0 (MQ below (qL D L 81 (cX L K) rs w9) args s 0 0 (gA L 81)) (F0 m 0 ls []) := by
  obtain ⟨hx, hb, hr, hml, hown, hts, hlk⟩ := id C0
  intro x1 w H locs ls hw hS hl hf
  unfold fx_seed at hf
  refine lv_aload_n hx hb dX3_seed_0 rfl (lv_at hl 0 rfl) ?_
  refine z_get (v := .long (w.2)) hx hb hts hiX3_seed_X3 hown hK hw (k := 0) kc_0.2 ((cX_a0 kc_0.1) _) rfl 12 (by decide) (hts (.fieldLink RX3 216 "OneSentence" "theSeed" "J") (by decide +kernel)) rfl dX3_seed_1 ?_
  refine lv_topl (fun v4 e4 => ?_)
  replace hf := lb_e hf e4
  refine lv_lstore_n (lv' := [(3, .long v4), (0, .ref (L 0)), (1, .long x1)]) hx hb dX3_seed_4 rfl hl (by decide) rfl (fun ls hl => ?_)
  refine lv_aload_n hx hb dX3_seed_5 rfl (lv_at hl 1 rfl) ?_
  refine lv_lload_n hx hb dX3_seed_6 rfl (lv_at hl 2 rfl) ?_
  refine z_putl hx hb hts hiX3_seed_X3 tyX3 tyX3_ok nmX3 hown hK hJ hw hS (k := 0) kc_0.2 cX_nz (fs := (fX0 L)) (cX_a0 kc_0.1) rfl 12 (by decide) (hts (.fieldLink RX3 216 "OneSentence" "theSeed" "J") (by decide +kernel)) rfl rfl (fun _ _ => ⟨Nat.le_of_ble_eq_true rfl, rfl⟩) dX3_seed_7 (fun H locs hw hS => ?_)
  refine lv_lload_n hx hb dX3_seed_10 rfl (lv_at hl 0 rfl) ?_
  exact z_lret hx hb hr hlk hw hS hf dX3_seed_11
set_option maxHeartbeats 4000000 in
set_option maxRecDepth 100000 in
theorem kx_seed (l : Launch) {D : va_G} {L : Nat → Nat} {K : Nat → ClassId} {t0 : Nat} (hJ : gj L 81) (x1 : Int64) (w : St) {w9 : St} {rs : Int64} (hf : fx_seed x1 w = some (rs, w9)) : Met l yX3_seed wsX3_seed ({ frames := 0, cells := 0, slots := 0, locals := 0 }) (va_Pc [.ref (L 0), .long x1] (xP D L K t0 w)) (qL D L 81 (cX L K) rs w9) 0 0 (gA L 81) := by
  refine g_met (cc := cX3_seed) (nL := 5) (ret := (some .long)) (by decide) rfl (Nat.le_of_ble_eq_true rfl) (fun p e s m below meth c ls C0 hP hl => ?_)
  exact wx_seed_0 hJ C0 hP.2.1 hP.2.2 _ w _ _ ls hP.1 va_S.rf (lv_sub hl [0, 1] rfl) hf
set_option maxRecDepth 20000 in
theorem ggX3_nights_X2_become : GoodIn wsX3_nights wsX2_become := goodIn_r _ [10, 11, 12, 13, 14, 61, 62, 63, 64] (by decide +kernel) (by decide +kernel)
set_option maxRecDepth 20000 in
theorem gX3_nights_X2_become_n187 : GoodIn wsX3_nights (wsX2_become) := ggX3_nights_X2_become
set_option maxRecDepth 20000 in
theorem ggX3_nights_X3_maySpeak : GoodIn wsX3_nights wsX3_maySpeak := goodIn_r _ [19, 20, 21, 22, 18, 23, 39, 40, 41, 42, 43, 44, 45, 46, 47, 48, 49, 50, 51, 52, 53, 54, 55, 56, 61, 62, 63, 64] (by decide +kernel) (by decide +kernel)
set_option maxRecDepth 20000 in
theorem gX3_nights_X3_maySpeak : GoodIn wsX3_nights (wsV RX3 103 RX3 yX3_maySpeak wsX3_maySpeak) := goodIn_app (goodIn_of _ (by decide +kernel)) ggX3_nights_X3_maySpeak
set_option maxRecDepth 20000 in
theorem ggX3_nights_X3_speak : GoodIn wsX3_nights wsX3_speak := goodIn_r _ [27, 20, 28, 29, 30, 18, 31, 32, 2, 33, 8, 34, 35, 13, 11, 12, 14, 36, 37, 38, 39, 40, 41, 42, 43, 44, 45, 46, 47, 48, 49, 50, 51, 52, 53, 54, 55, 56, 57, 58, 59, 60, 61, 62, 63, 64] (by decide +kernel) (by decide +kernel)
set_option maxRecDepth 20000 in
theorem gX3_nights_X3_speak : GoodIn wsX3_nights (wsV RX3 124 RX3 yX3_speak wsX3_speak) := goodIn_app (goodIn_of _ (by decide +kernel)) ggX3_nights_X3_speak
theorem dX3_nights_0 : decode cX3_nights 0 = .ok (.iload_n 1, 1) := by decide +kernel
theorem dX3_nights_1 : decode cX3_nights 1 = .ok (.iconst 1, 1) := by decide +kernel
theorem dX3_nights_2 : decode cX3_nights 2 = .ok (.if_icmp .lt 9, 3) := by decide +kernel
theorem dX3_nights_5 : decode cX3_nights 5 = .ok (.iload_n 1, 1) := by decide +kernel
theorem dX3_nights_6 : decode cX3_nights 6 = .ok (.bipush 30, 2) := by decide +kernel
theorem dX3_nights_8 : decode cX3_nights 8 = .ok (.if_icmp .le 6, 3) := by decide +kernel
theorem dX3_nights_11 : decode cX3_nights 11 = .ok (.bipush (-2), 2) := by decide +kernel
theorem dX3_nights_13 : decode cX3_nights 13 = .ok (.ireturn, 1) := by decide +kernel
theorem dX3_nights_14 : decode cX3_nights 14 = .ok (.aload_n 0, 1) := by decide +kernel
theorem dX3_nights_15 : decode cX3_nights 15 = .ok (.getfield 41, 3) := by decide +kernel
theorem dX3_nights_18 : decode cX3_nights 18 = .ok (.aload_n 0, 1) := by decide +kernel
theorem dX3_nights_19 : decode cX3_nights 19 = .ok (.getfield 23, 3) := by decide +kernel
theorem dX3_nights_22 : decode cX3_nights 22 = .ok (.getfield 100, 3) := by decide +kernel
theorem dX3_nights_25 : decode cX3_nights 25 = .ok (.invokevirtual 187, 3) := by decide +kernel
theorem dX3_nights_28 : decode cX3_nights 28 = .ok (.iconst 0, 1) := by decide +kernel
theorem dX3_nights_29 : decode cX3_nights 29 = .ok (.istore_n 2, 1) := by decide +kernel
theorem dX3_nights_30 : decode cX3_nights 30 = .ok (.iconst 0, 1) := by decide +kernel
theorem dX3_nights_31 : decode cX3_nights 31 = .ok (.istore_n 3, 1) := by decide +kernel
theorem dX3_nights_32 : decode cX3_nights 32 = .ok (.iload_n 3, 1) := by decide +kernel
theorem dX3_nights_33 : decode cX3_nights 33 = .ok (.iload_n 1, 1) := by decide +kernel
theorem dX3_nights_34 : decode cX3_nights 34 = .ok (.if_icmp .ge 79, 3) := by decide +kernel
theorem dX3_nights_37 : decode cX3_nights 37 = .ok (.aload_n 0, 1) := by decide +kernel
theorem dX3_nights_38 : decode cX3_nights 38 = .ok (.aload_n 0, 1) := by decide +kernel
theorem dX3_nights_39 : decode cX3_nights 39 = .ok (.getfield 216, 3) := by decide +kernel
theorem dX3_nights_42 : decode cX3_nights 42 = .ok (.ldc2_w 220, 3) := by decide +kernel
theorem dX3_nights_45 : decode cX3_nights 45 = .ok (.lmul, 1) := by decide +kernel
theorem dX3_nights_46 : decode cX3_nights 46 = .ok (.ldc2_w 222, 3) := by decide +kernel
theorem dX3_nights_49 : decode cX3_nights 49 = .ok (.ladd, 1) := by decide +kernel
theorem dX3_nights_50 : decode cX3_nights 50 = .ok (.putfield 216, 3) := by decide +kernel
theorem dX3_nights_53 : decode cX3_nights 53 = .ok (.aload_n 0, 1) := by decide +kernel
theorem dX3_nights_54 : decode cX3_nights 54 = .ok (.getfield 216, 3) := by decide +kernel
theorem dX3_nights_57 : decode cX3_nights 57 = .ok (.bipush 33, 2) := by decide +kernel
theorem dX3_nights_59 : decode cX3_nights 59 = .ok (.lushr, 1) := by decide +kernel
theorem dX3_nights_60 : decode cX3_nights 60 = .ok (.ldc2_w 224, 3) := by decide +kernel
theorem dX3_nights_63 : decode cX3_nights 63 = .ok (.lrem, 1) := by decide +kernel
theorem dX3_nights_64 : decode cX3_nights 64 = .ok (.l2i, 1) := by decide +kernel
theorem dX3_nights_65 : decode cX3_nights 65 = .ok (.istore 4, 2) := by decide +kernel
theorem dX3_nights_67 : decode cX3_nights 67 = .ok (.aload_n 0, 1) := by decide +kernel
theorem dX3_nights_68 : decode cX3_nights 68 = .ok (.aload_n 0, 1) := by decide +kernel
theorem dX3_nights_69 : decode cX3_nights 69 = .ok (.getfield 41, 3) := by decide +kernel
theorem dX3_nights_72 : decode cX3_nights 72 = .ok (.aload_n 0, 1) := by decide +kernel
theorem dX3_nights_73 : decode cX3_nights 73 = .ok (.getfield 23, 3) := by decide +kernel
theorem dX3_nights_76 : decode cX3_nights 76 = .ok (.getfield 93, 3) := by decide +kernel
theorem dX3_nights_79 : decode cX3_nights 79 = .ok (.iload 4, 2) := by decide +kernel
theorem dX3_nights_81 : decode cX3_nights 81 = .ok (.invokevirtual 103, 3) := by decide +kernel
theorem dX3_nights_84 : decode cX3_nights 84 = .ok (.ifCond .eq 13, 3) := by decide +kernel
theorem dX3_nights_87 : decode cX3_nights 87 = .ok (.aload_n 0, 1) := by decide +kernel
theorem dX3_nights_88 : decode cX3_nights 88 = .ok (.aload_n 0, 1) := by decide +kernel
theorem dX3_nights_89 : decode cX3_nights 89 = .ok (.getfield 41, 3) := by decide +kernel
theorem dX3_nights_92 : decode cX3_nights 92 = .ok (.iload 4, 2) := by decide +kernel
theorem dX3_nights_94 : decode cX3_nights 94 = .ok (.invokevirtual 124, 3) := by decide +kernel
theorem dX3_nights_97 : decode cX3_nights 97 = .ok (.iload_n 2, 1) := by decide +kernel
theorem dX3_nights_98 : decode cX3_nights 98 = .ok (.aload_n 0, 1) := by decide +kernel
theorem dX3_nights_99 : decode cX3_nights 99 = .ok (.getfield 41, 3) := by decide +kernel
theorem dX3_nights_102 : decode cX3_nights 102 = .ok (.getfield 128, 3) := by decide +kernel
theorem dX3_nights_105 : decode cX3_nights 105 = .ok (.iadd, 1) := by decide +kernel
theorem dX3_nights_106 : decode cX3_nights 106 = .ok (.istore_n 2, 1) := by decide +kernel
theorem dX3_nights_107 : decode cX3_nights 107 = .ok (.iinc 3 1, 3) := by decide +kernel
theorem dX3_nights_110 : decode cX3_nights 110 = .ok (.goto (-78), 3) := by decide +kernel
theorem dX3_nights_113 : decode cX3_nights 113 = .ok (.iload_n 2, 1) := by decide +kernel
theorem dX3_nights_114 : decode cX3_nights 114 = .ok (.ireturn, 1) := by decide +kernel
set_option maxRecDepth 20000 in
theorem hiX3_nights_X0 : ∀ w ∈ u_ws RX0 TX0 4, w ∈ wsX3_nights := by decide +kernel
set_option maxRecDepth 20000 in
theorem hiX3_nights_X2 : ∀ w ∈ u_ws RX2 TX2 4, w ∈ wsX3_nights := by decide +kernel
set_option maxRecDepth 20000 in
theorem hiX3_nights_X3 : ∀ w ∈ u_ws RX3 TX3 18, w ∈ wsX3_nights := by decide +kernel
set_option maxHeartbeats 4000000 in
set_option maxRecDepth 100000 in
theorem wx_nights_97 {p : Program} {l : Launch} {e : Env} {s : State} {m : MethodId} {args : Array Value} {below : List Frame} {meth : Method} {c : Code} {D : va_G} {L : Nat → Nat} {K : Nat → ClassId} {t0 : Nat} (hJ : gj L 81) (C0 : gC cX3_nights 5 (some .int) wsX3_nights RX3 p s m args meth c) (hK : va_K D vwCl (tyG K) s) (hE : eX L t0 s) {w9 : St} {rs : Int32} (k32 : Int32 → Int32 → Int32 → St → Option (Int32 × St)) (i32 : ∀ (x1 : Int32) (x2 : Int32) (x3 : Int32) (w : St) (H : Heap) (locs : List Loc) (ls : Array Slot), va_P D vwCl (gl L 81 (cX L K w)) H → va_S (gA L 81) s.heap H locs → lv_has ls 5 [(0, .ref (L 0)), (1, .int x1), (2, .int x2), (3, .int x3)] → k32 x1 x2 x3 w = some (rs, w9) → W p l e { frames := 3, cells := 0, slots := 0, locals := 69 } s m args below meth c H locs 0 0 (MQ below (qI D L 81 (cX L K) rs w9) args s 0 0 (gA L 81)) (F0 m 32 ls [])) : ∀ (x1 : Int32) (x2 : Int32) (x3 : Int32) (w : St) (H : Heap) (locs : List Loc) (ls : Array Slot), va_P D vwCl (gl L 81 (cX L K w)) H → va_S (gA L 81) s.heap H locs → lv_has ls 5 [(0, .ref (L 0)), (1, .int x1), (2, .int x2), (3, .int x3)] → fx_nights_97 k32 x1 x2 x3 w = some (rs, w9) → W p l e { frames := 3, cells := 0, slots := 0, locals := 69 } s m args below meth c H locs 0 0 (MQ below (qI D L 81 (cX L K) rs w9) args s 0 0 (gA L 81)) (F0 m 97 ls []) := by
  obtain ⟨hx, hb, hr, hml, hown, hts, hlk⟩ := id C0
  intro x1 x2 x3 w H locs ls hw hS hl hf
  unfold fx_nights_97 at hf
  refine lv_iload_n hx hb dX3_nights_97 rfl (lv_at hl 2 rfl) ?_
  refine lv_aload_n hx hb dX3_nights_98 rfl (lv_at hl 0 rfl) ?_
  refine z_get (v := .ref (L 11)) hx hb hts hiX3_nights_X3 hown hK hw (k := 0) kc_0.2 ((cX_a0 kc_0.1) _) rfl 13 (by decide) (hts (.fieldLink RX3 41 "OneSentence" "trial" "LOneSentence$Talk;") (by decide +kernel)) rfl dX3_nights_99 ?_
  refine z_getN (v := .int (w.1 11 0)) hx hb hts hiX3_nights_X2 hown hK hw (k := 11) kc_11.2 ((cX_a1 kc_11.1) _) rfl 0 (by decide) (hE.1 (RX3, 128, "OneSentence$Talk", "sense", "I", "OneSentence") (by decide)) rfl dX3_nights_102 ?_
  refine lv_iadd hx hb dX3_nights_105 ?_
  refine lv_topi (fun v106 e106 => ?_)
  replace hf := lb_e hf e106
  refine lv_istore_n (lv' := [(2, .int v106), (0, .ref (L 0)), (1, .int x1), (3, .int x3)]) hx hb dX3_nights_106 rfl hl (by decide) rfl (fun ls hl => ?_)
  refine lv_iinc (v := (x3 + 1)) (lv' := [(3, .int (x3 + 1)), (2, .int v106), (0, .ref (L 0)), (1, .int x1)]) hx hb dX3_nights_107 hl (k := 3) rfl rfl (by decide) rfl (fun ls hl => ?_)
  refine lv_goto (tgt := 32) hx hb dX3_nights_110 (by decide) ?_
  exact i32 _ _ _ _ _ _ _ hw hS (lv_sub hl [2, 3, 1, 0] rfl) hf
set_option maxHeartbeats 4000000 in
set_option maxRecDepth 100000 in
theorem wx_nights_32 {p : Program} {l : Launch} {e : Env} {s : State} {m : MethodId} {args : Array Value} {below : List Frame} {meth : Method} {c : Code} {D : va_G} {L : Nat → Nat} {K : Nat → ClassId} {t0 : Nat} (hJ : gj L 81) (C0 : gC cX3_nights 5 (some .int) wsX3_nights RX3 p s m args meth c) (hK : va_K D vwCl (tyG K) s) (hE : eX L t0 s) {w9 : St} {rs : Int32} : ∀ (fu : Nat) (x1 : Int32) (x2 : Int32) (x3 : Int32) (w : St) (H : Heap) (locs : List Loc) (ls : Array Slot), va_P D vwCl (gl L 81 (cX L K w)) H → va_S (gA L 81) s.heap H locs → lv_has ls 5 [(0, .ref (L 0)), (1, .int x1), (2, .int x2), (3, .int x3)] → fx_nights_32 fu x1 x2 x3 w = some (rs, w9) → W p l e { frames := 3, cells := 0, slots := 0, locals := 69 } s m args below meth c H locs 0 0 (MQ below (qI D L 81 (cX L K) rs w9) args s 0 0 (gA L 81)) (F0 m 32 ls []) := by
  obtain ⟨hx, hb, hr, hml, hown, hts, hlk⟩ := id C0
  intro fu
  induction fu with
  | zero =>
    intro x1 x2 x3 w H locs ls hw hS hl hf
    rw [fx_nights_32] at hf
    exact no_n hf
  | succ fu ih =>
    intro x1 x2 x3 w H locs ls hw hS hl hf
    rw [fx_nights_32] at hf
    refine lv_iload_n hx hb dX3_nights_32 rfl (lv_at hl 3 rfl) ?_
    refine lv_iload_n hx hb dX3_nights_33 rfl (lv_at hl 1 rfl) ?_
    refine lv_icmp_ge (tgt := 113) hx hb dX3_nights_34 (by decide) (fun c34 => ?_) (fun c34 => ?_)
    · replace hf := if_t hf c34
      refine lv_iload_n hx hb dX3_nights_113 rfl (lv_at hl 2 rfl) ?_
      exact z_iret hx hb hr hlk hw hS hf dX3_nights_114
    · replace hf := if_f hf c34
      refine lv_aload_n hx hb dX3_nights_37 rfl (lv_at hl 0 rfl) ?_
      refine lv_aload_n hx hb dX3_nights_38 rfl (lv_at hl 0 rfl) ?_
      refine z_get (v := .long (w.2)) hx hb hts hiX3_nights_X3 hown hK hw (k := 0) kc_0.2 ((cX_a0 kc_0.1) _) rfl 12 (by decide) (hts (.fieldLink RX3 216 "OneSentence" "theSeed" "J") (by decide +kernel)) rfl dX3_nights_39 ?_
      refine lv_ldc2 (v := 6364136223846793005) hx hb hown (hts (.constantLong RX3 220 6364136223846793005) (by decide +kernel)) dX3_nights_42 ?_
      refine lv_lmul hx hb dX3_nights_45 ?_
      refine lv_ldc2 (v := 1442695040888963407) hx hb hown (hts (.constantLong RX3 222 1442695040888963407) (by decide +kernel)) dX3_nights_46 ?_
      refine lv_ladd hx hb dX3_nights_49 ?_
      refine z_putl hx hb hts hiX3_nights_X3 tyX3 tyX3_ok nmX3 hown hK hJ hw hS (k := 0) kc_0.2 cX_nz (fs := (fX0 L)) (cX_a0 kc_0.1) rfl 12 (by decide) (hts (.fieldLink RX3 216 "OneSentence" "theSeed" "J") (by decide +kernel)) rfl rfl (fun _ _ => ⟨Nat.le_of_ble_eq_true rfl, rfl⟩) dX3_nights_50 (fun H locs hw hS => ?_)
      refine lv_aload_n hx hb dX3_nights_53 rfl (lv_at hl 0 rfl) ?_
      refine z_get (v := .long ((wz w ((w.2 * (6364136223846793005 : Int64)) + (1442695040888963407 : Int64))).2)) hx hb hts hiX3_nights_X3 hown hK hw (k := 0) kc_0.2 ((cX_a0 kc_0.1) _) rfl 12 (by decide) (hts (.fieldLink RX3 216 "OneSentence" "theSeed" "J") (by decide +kernel)) rfl dX3_nights_54 ?_
      refine lv_bipush (v := 33) hx hb dX3_nights_57 (by decide) ?_
      refine lv_lushr (v := (lush ((wz w ((w.2 * (6364136223846793005 : Int64)) + (1442695040888963407 : Int64))).2) 33)) hx hb dX3_nights_59 rfl ?_
      refine lv_ldc2 (v := 6) hx hb hown (hts (.constantLong RX3 224 6) (by decide +kernel)) dX3_nights_60 ?_
      refine lv_lrem hx hb dX3_nights_63 (by decide) ?_
      refine lv_l2i (v := ((lr (lush ((wz w ((w.2 * (6364136223846793005 : Int64)) + (1442695040888963407 : Int64))).2) 33) 6).toInt32)) hx hb dX3_nights_64 rfl ?_
      refine lv_topi (fun v65 e65 => ?_)
      replace hf := lb_e hf e65
      refine lv_istore (lv' := [(4, .int v65), (0, .ref (L 0)), (1, .int x1), (2, .int x2), (3, .int x3)]) hx hb dX3_nights_65 hl (by decide) rfl (fun ls hl => ?_)
      refine lv_aload_n hx hb dX3_nights_67 rfl (lv_at hl 1 rfl) ?_
      refine lv_aload_n hx hb dX3_nights_68 rfl (lv_at hl 1 rfl) ?_
      refine z_get (v := .ref (L 11)) hx hb hts hiX3_nights_X3 hown hK hw (k := 0) kc_0.2 ((cX_a0 kc_0.1) _) rfl 13 (by decide) (hts (.fieldLink RX3 41 "OneSentence" "trial" "LOneSentence$Talk;") (by decide +kernel)) rfl dX3_nights_69 ?_
      refine lv_aload_n hx hb dX3_nights_72 rfl (lv_at hl 1 rfl) ?_
      refine z_get (v := .ref (L 13)) hx hb hts hiX3_nights_X3 hown hK hw (k := 0) kc_0.2 ((cX_a0 kc_0.1) _) rfl 6 (by decide) (hts (.fieldLink RX3 23 "OneSentence" "today" "LOneSentence$Day;") (by decide +kernel)) rfl dX3_nights_73 ?_
      refine z_getN (v := .int ((wz w ((w.2 * (6364136223846793005 : Int64)) + (1442695040888963407 : Int64))).1 13 1)) hx hb hts hiX3_nights_X0 hown hK hw (k := 13) kc_13.2 ((cX_a2 kc_13.1) _) rfl 1 (by decide) (hE.1 (RX3, 93, "OneSentence$Day", "at", "I", "OneSentence") (by decide)) rfl dX3_nights_76 ?_
      refine lv_iload hx hb dX3_nights_79 (lv_at hl 0 rfl) ?_
      obtain ⟨q81, h81, hf⟩ := bd_e hf
      refine z_calli (va_runV (As := [.ref (L 11), .int ((wz w ((w.2 * (6364136223846793005 : Int64)) + (1442695040888963407 : Int64))).1 13 1), .int v65]) (rest := []) ⟨hx, hb, hml, hown, hts⟩ (kx_maySpeak l (D := D) (K := K) (t0 := t0) hJ 11 ((wz w ((w.2 * (6364136223846793005 : Int64)) + (1442695040888963407 : Int64))).1 13 1) v65 (wz w ((w.2 * (6364136223846793005 : Int64)) + (1442695040888963407 : Int64))) kc_11 h81) (cwV 3 hts gX3_nights_X3_maySpeak rfl rfl rfl (by decide +kernel) ⟨Nat.le_of_ble_eq_true rfl, Nat.le_of_ble_eq_true rfl⟩) (z_preV eX_ok hK hE hw hS kc_0.2 ((cX_a0 kc_0.1) _) (T := TX3) (M := 18) rfl) rfl rfl hl.1 rfl (lv_room (Nat.le_of_ble_eq_true rfl)) dX3_nights_81 ⟨Nat.le_of_ble_eq_true rfl, Nat.le_of_ble_eq_true rfl⟩) hS (fun H locs hw hS => ?_)
      refine lv_if_eq (tgt := 97) hx hb dX3_nights_84 (by decide) (fun c84 => ?_) (fun c84 => ?_)
      · replace hf := if_t hf c84
        exact wx_nights_97 hJ C0 hK hE _ ih _ _ _ _ _ _ _ hw hS (lv_sub hl [1, 2, 3, 4] rfl) hf
      · replace hf := if_f hf c84
        refine lv_aload_n hx hb dX3_nights_87 rfl (lv_at hl 1 rfl) ?_
        refine lv_aload_n hx hb dX3_nights_88 rfl (lv_at hl 1 rfl) ?_
        refine z_get (v := .ref (L 11)) hx hb hts hiX3_nights_X3 hown hK hw (k := 0) kc_0.2 ((cX_a0 kc_0.1) _) rfl 13 (by decide) (hts (.fieldLink RX3 41 "OneSentence" "trial" "LOneSentence$Talk;") (by decide +kernel)) rfl dX3_nights_89 ?_
        refine lv_iload hx hb dX3_nights_92 (lv_at hl 0 rfl) ?_
        obtain ⟨w94, h94, hf⟩ := bd_e hf
        refine z_callv (va_runV (As := [.ref (L 11), .int v65]) (rest := []) ⟨hx, hb, hml, hown, hts⟩ (kx_speak l (D := D) (K := K) (t0 := t0) hJ 11 v65 (q81.2) kc_11 h94) (cwV 2 hts gX3_nights_X3_speak rfl rfl rfl (by decide +kernel) ⟨Nat.le_of_ble_eq_true rfl, Nat.le_of_ble_eq_true rfl⟩) (z_preV eX_ok hK hE hw hS kc_0.2 ((cX_a0 kc_0.1) _) (T := TX3) (M := 18) rfl) rfl rfl hl.1 rfl (lv_room (Nat.le_of_ble_eq_true rfl)) dX3_nights_94 ⟨Nat.le_of_ble_eq_true rfl, Nat.le_of_ble_eq_true rfl⟩) hS (fun H locs hw hS => ?_)
        exact wx_nights_97 hJ C0 hK hE _ ih _ _ _ _ _ _ _ hw hS (lv_sub hl [1, 2, 3, 4] rfl) hf
set_option maxHeartbeats 4000000 in
set_option maxRecDepth 100000 in
theorem wx_nights_0 {p : Program} {l : Launch} {e : Env} {s : State} {m : MethodId} {args : Array Value} {below : List Frame} {meth : Method} {c : Code} {D : va_G} {L : Nat → Nat} {K : Nat → ClassId} {t0 : Nat} (hJ : gj L 81) (C0 : gC cX3_nights 5 (some .int) wsX3_nights RX3 p s m args meth c) (hK : va_K D vwCl (tyG K) s) (hE : eX L t0 s) {w9 : St} {rs : Int32} : ∀ (x1 : Int32) (w : St) (H : Heap) (locs : List Loc) (ls : Array Slot), va_P D vwCl (gl L 81 (cX L K w)) H → va_S (gA L 81) s.heap H locs → lv_has ls 5 [(0, .ref (L 0)), (1, .int x1)] → fx_nights x1 w = some (rs, w9) → W p l e { frames := 3, cells := 0, slots := 0, locals := 69 } s m args below meth c H locs 0 0 (MQ below (qI D L 81 (cX L K) rs w9) args s 0 0 (gA L 81)) (F0 m 0 ls []) := by
  obtain ⟨hx, hb, hr, hml, hown, hts, hlk⟩ := id C0
  intro x1 w H locs ls hw hS hl hf
  unfold fx_nights at hf
  refine lv_iload_n hx hb dX3_nights_0 rfl (lv_at hl 1 rfl) ?_
  refine lv_iconst (v := 1) hx hb dX3_nights_1 (by decide) ?_
  refine lv_icmp_lt (tgt := 11) hx hb dX3_nights_2 (by decide) (fun c2 => ?_) (fun c2 => ?_)
  · replace hf := if_t hf c2
    refine lv_bipush (v := (-2)) hx hb dX3_nights_11 (by decide) ?_
    exact z_iret hx hb hr hlk hw hS hf dX3_nights_13
  · replace hf := if_f hf c2
    refine lv_iload_n hx hb dX3_nights_5 rfl (lv_at hl 1 rfl) ?_
    refine lv_bipush (v := 30) hx hb dX3_nights_6 (by decide) ?_
    refine lv_icmp_le (tgt := 14) hx hb dX3_nights_8 (by decide) (fun c8 => ?_) (fun c8 => ?_)
    · replace hf := if_t hf c8
      refine lv_aload_n hx hb dX3_nights_14 rfl (lv_at hl 0 rfl) ?_
      refine z_get (v := .ref (L 11)) hx hb hts hiX3_nights_X3 hown hK hw (k := 0) kc_0.2 ((cX_a0 kc_0.1) _) rfl 13 (by decide) (hts (.fieldLink RX3 41 "OneSentence" "trial" "LOneSentence$Talk;") (by decide +kernel)) rfl dX3_nights_15 ?_
      refine lv_aload_n hx hb dX3_nights_18 rfl (lv_at hl 0 rfl) ?_
      refine z_get (v := .ref (L 13)) hx hb hts hiX3_nights_X3 hown hK hw (k := 0) kc_0.2 ((cX_a0 kc_0.1) _) rfl 6 (by decide) (hts (.fieldLink RX3 23 "OneSentence" "today" "LOneSentence$Day;") (by decide +kernel)) rfl dX3_nights_19 ?_
      refine z_getN (v := .ref (L 14)) hx hb hts hiX3_nights_X0 hown hK hw (k := 13) kc_13.2 ((cX_a2 kc_13.1) _) rfl 0 (by decide) (hE.1 (RX3, 100, "OneSentence$Day", "talk", "LOneSentence$Talk;", "OneSentence") (by decide)) rfl dX3_nights_22 ?_
      obtain ⟨w25, h25, hf⟩ := bd_e hf
      refine z_callv (va_runVN (As := [.ref (L 14)]) (rest := []) ⟨hx, hb, hml, hown, hts⟩ (kt_become l (D := D) (K := K) (t0 := t0) hJ 11 14 w kc_11 kc_14 h25) ⟨va_cnB 1 hts gX3_nights_X2_become_n187 rfl rfl rfl (hE.2.1 (RX3, 187, yX2_become, "OneSentence") (by decide)) (hts (.initialized RX2) (by decide +kernel)) (by decide +kernel) ⟨Nat.le_of_ble_eq_true rfl, Nat.le_of_ble_eq_true rfl⟩, hts (.instanceMethod yX2_become) (by decide +kernel), hts (.selects RX2 yX2_become yX2_become) (by decide +kernel)⟩ (z_preV eX_ok hK hE hw hS kc_11.2 ((cX_a1 kc_11.1) _) (T := TX2) (M := 4) rfl) rfl rfl hl.1 rfl (lv_room (Nat.le_of_ble_eq_true rfl)) dX3_nights_25 ⟨Nat.le_of_ble_eq_true rfl, Nat.le_of_ble_eq_true rfl⟩) hS (fun H locs hw hS => ?_)
      refine lv_iconst (v := 0) hx hb dX3_nights_28 (by decide) ?_
      refine lv_istore_n (lv' := [(2, .int 0), (0, .ref (L 0)), (1, .int x1)]) hx hb dX3_nights_29 rfl hl (by decide) rfl (fun ls hl => ?_)
      refine lv_iconst (v := 0) hx hb dX3_nights_30 (by decide) ?_
      refine lv_istore_n (lv' := [(3, .int 0), (2, .int 0), (0, .ref (L 0)), (1, .int x1)]) hx hb dX3_nights_31 rfl hl (by decide) rfl (fun ls hl => ?_)
      exact wx_nights_32 hJ C0 hK hE _ _ _ _ _ _ _ _ hw hS (lv_sub hl [2, 3, 1, 0] rfl) hf
    · replace hf := if_f hf c8
      refine lv_bipush (v := (-2)) hx hb dX3_nights_11 (by decide) ?_
      exact z_iret hx hb hr hlk hw hS hf dX3_nights_13
set_option maxHeartbeats 4000000 in
set_option maxRecDepth 100000 in
theorem kx_nights (l : Launch) {D : va_G} {L : Nat → Nat} {K : Nat → ClassId} {t0 : Nat} (hJ : gj L 81) (x1 : Int32) (w : St) {w9 : St} {rs : Int32} (hf : fx_nights x1 w = some (rs, w9)) : Met l yX3_nights wsX3_nights ({ frames := 3, cells := 0, slots := 0, locals := 69 }) (va_Pc [.ref (L 0), .int x1] (xP D L K t0 w)) (qI D L 81 (cX L K) rs w9) 0 0 (gA L 81) := by
  refine g_met (cc := cX3_nights) (nL := 5) (ret := (some .int)) (by decide) rfl (Nat.le_of_ble_eq_true rfl) (fun p e s m below meth c ls C0 hP hl => ?_)
  exact wx_nights_0 hJ C0 hP.2.1 hP.2.2 _ w _ _ ls hP.1 va_S.rf (lv_sub hl [0, 1] rfl) hf
set_option maxRecDepth 20000 in
theorem ggX3_keep_X0_become : GoodIn wsX3_keep wsX0_become := goodIn_r _ [7, 8, 9, 10, 11, 12, 13, 14, 15, 16, 17, 18, 19, 38, 39, 40, 41, 42, 43, 44, 45] (by decide +kernel) (by decide +kernel)
set_option maxRecDepth 20000 in
theorem gX3_keep_X0_become_n137 : GoodIn wsX3_keep (wsX0_become) := ggX3_keep_X0_become
theorem dX3_keep_0 : decode cX3_keep 0 = .ok (.iload_n 1, 1) := by decide +kernel
theorem dX3_keep_1 : decode cX3_keep 1 = .ok (.ifCond .lt 8, 3) := by decide +kernel
theorem dX3_keep_4 : decode cX3_keep 4 = .ok (.iload_n 1, 1) := by decide +kernel
theorem dX3_keep_5 : decode cX3_keep 5 = .ok (.iconst 2, 1) := by decide +kernel
theorem dX3_keep_6 : decode cX3_keep 6 = .ok (.if_icmp .lt 5, 3) := by decide +kernel
theorem dX3_keep_9 : decode cX3_keep 9 = .ok (.iconst (-1), 1) := by decide +kernel
theorem dX3_keep_10 : decode cX3_keep 10 = .ok (.ireturn, 1) := by decide +kernel
theorem dX3_keep_11 : decode cX3_keep 11 = .ok (.aload_n 0, 1) := by decide +kernel
theorem dX3_keep_12 : decode cX3_keep 12 = .ok (.getfield 31, 3) := by decide +kernel
theorem dX3_keep_15 : decode cX3_keep 15 = .ok (.iload_n 1, 1) := by decide +kernel
theorem dX3_keep_16 : decode cX3_keep 16 = .ok (.aaload, 1) := by decide +kernel
theorem dX3_keep_17 : decode cX3_keep 17 = .ok (.aload_n 0, 1) := by decide +kernel
theorem dX3_keep_18 : decode cX3_keep 18 = .ok (.getfield 23, 3) := by decide +kernel
theorem dX3_keep_21 : decode cX3_keep 21 = .ok (.invokevirtual 137, 3) := by decide +kernel
theorem dX3_keep_24 : decode cX3_keep 24 = .ok (.aload_n 0, 1) := by decide +kernel
theorem dX3_keep_25 : decode cX3_keep 25 = .ok (.getfield 34, 3) := by decide +kernel
theorem dX3_keep_28 : decode cX3_keep 28 = .ok (.iload_n 1, 1) := by decide +kernel
theorem dX3_keep_29 : decode cX3_keep 29 = .ok (.iconst 1, 1) := by decide +kernel
theorem dX3_keep_30 : decode cX3_keep 30 = .ok (.bastore, 1) := by decide +kernel
theorem dX3_keep_31 : decode cX3_keep 31 = .ok (.aload_n 0, 1) := by decide +kernel
theorem dX3_keep_32 : decode cX3_keep 32 = .ok (.getfield 23, 3) := by decide +kernel
theorem dX3_keep_35 : decode cX3_keep 35 = .ok (.getfield 113, 3) := by decide +kernel
theorem dX3_keep_38 : decode cX3_keep 38 = .ok (.ireturn, 1) := by decide +kernel
set_option maxRecDepth 20000 in
theorem hiX3_keep_X0 : ∀ w ∈ u_ws RX0 TX0 4, w ∈ wsX3_keep := by decide +kernel
set_option maxRecDepth 20000 in
theorem hiX3_keep_X3 : ∀ w ∈ u_ws RX3 TX3 18, w ∈ wsX3_keep := by decide +kernel
set_option maxHeartbeats 4000000 in
set_option maxRecDepth 100000 in
theorem wx_keep_0 {p : Program} {l : Launch} {e : Env} {s : State} {m : MethodId} {args : Array Value} {below : List Frame} {meth : Method} {c : Code} {D : va_G} {L : Nat → Nat} {K : Nat → ClassId} {t0 : Nat} (hJ : gj L 81) (C0 : gC cX3_keep 2 (some .int) wsX3_keep RX3 p s m args meth c) (hK : va_K D vwCl (tyG K) s) (hE : eX L t0 s) {w9 : St} {rs : Int32} : ∀ (x1 : Int32) (w : St) (H : Heap) (locs : List Loc) (ls : Array Slot), va_P D vwCl (gl L 81 (cX L K w)) H → va_S (gA L 81) s.heap H locs → lv_has ls 2 [(0, .ref (L 0)), (1, .int x1)] → fx_keep x1 w = some (rs, w9) → W p l e { frames := 2, cells := 0, slots := 0, locals := 44 } s m args below meth c H locs 0 0 (MQ below (qI D L 81 (cX L K) rs w9) args s 0 0 (gA L 81)) (F0 m 0 ls []) := by
  obtain ⟨hx, hb, hr, hml, hown, hts, hlk⟩ := id C0
  intro x1 w H locs ls hw hS hl hf
  unfold fx_keep at hf
  refine lv_iload_n hx hb dX3_keep_0 rfl (lv_at hl 1 rfl) ?_
  refine lv_if_lt (tgt := 9) hx hb dX3_keep_1 (by decide) (fun c1 => ?_) (fun c1 => ?_)
  · replace hf := if_t hf c1
    refine lv_iconst (v := (-1)) hx hb dX3_keep_9 (by decide) ?_
    exact z_iret hx hb hr hlk hw hS hf dX3_keep_10
  · replace hf := if_f hf c1
    refine lv_iload_n hx hb dX3_keep_4 rfl (lv_at hl 1 rfl) ?_
    refine lv_iconst (v := 2) hx hb dX3_keep_5 (by decide) ?_
    refine lv_icmp_lt (tgt := 11) hx hb dX3_keep_6 (by decide) (fun c6 => ?_) (fun c6 => ?_)
    · replace hf := if_t hf c6
      refine lv_aload_n hx hb dX3_keep_11 rfl (lv_at hl 0 rfl) ?_
      refine z_get (v := .ref (L 5)) hx hb hts hiX3_keep_X3 hown hK hw (k := 0) kc_0.2 ((cX_a0 kc_0.1) _) rfl 10 (by decide) (hts (.fieldLink RX3 31 "OneSentence" "slots" "[LOneSentence$Day;") (by decide +kernel)) rfl dX3_keep_12 ?_
      refine lv_iload_n hx hb dX3_keep_15 rfl (lv_at hl 1 rfl) ?_
      obtain ⟨q16, h16, hf⟩ := bd_e hf
      refine z_aald hx hb hK hw 3 (k := 5) kc_5.2 ((cX_a8 kc_5.1) _) rfl h16 dX3_keep_16 ?_
      refine lv_aload_n hx hb dX3_keep_17 rfl (lv_at hl 0 rfl) ?_
      refine z_get (v := .ref (L 13)) hx hb hts hiX3_keep_X3 hown hK hw (k := 0) kc_0.2 ((cX_a0 kc_0.1) _) rfl 6 (by decide) (hts (.fieldLink RX3 23 "OneSentence" "today" "LOneSentence$Day;") (by decide +kernel)) rfl dX3_keep_18 ?_
      obtain ⟨w21, h21, hf⟩ := bd_e hf
      refine z_callv (va_runVN (As := [.ref (L 13)]) (rest := []) ⟨hx, hb, hml, hown, hts⟩ (kd_become l (D := D) (K := K) (t0 := t0) hJ (73 + 4 * q16) 13 w (kX_slot (gq_lt h16)) kc_13 h21) ⟨va_cnB 1 hts gX3_keep_X0_become_n137 rfl rfl rfl (hE.2.1 (RX3, 137, yX0_become, "OneSentence") (by decide)) (hts (.initialized RX0) (by decide +kernel)) (by decide +kernel) ⟨Nat.le_of_ble_eq_true rfl, Nat.le_of_ble_eq_true rfl⟩, hts (.instanceMethod yX0_become) (by decide +kernel), hts (.selects RX0 yX0_become yX0_become) (by decide +kernel)⟩ (z_preV eX_ok hK hE hw hS (kX_slot (gq_lt h16)).2 ((cX_a2 (kX_slot (gq_lt h16)).1) _) (T := TX0) (M := 4) rfl) rfl rfl hl.1 rfl (lv_room (Nat.le_of_ble_eq_true rfl)) dX3_keep_21 ⟨Nat.le_of_ble_eq_true rfl, Nat.le_of_ble_eq_true rfl⟩) hS (fun H locs hw hS => ?_)
      refine lv_aload_n hx hb dX3_keep_24 rfl (lv_at hl 0 rfl) ?_
      refine z_get (v := .ref (L 6)) hx hb hts hiX3_keep_X3 hown hK hw (k := 0) kc_0.2 ((cX_a0 kc_0.1) _) rfl 11 (by decide) (hts (.fieldLink RX3 34 "OneSentence" "isKept" "[Z") (by decide +kernel)) rfl dX3_keep_25 ?_
      refine lv_iload_n hx hb dX3_keep_28 rfl (lv_at hl 1 rfl) ?_
      refine lv_iconst (v := 1) hx hb dX3_keep_29 (by decide) ?_
      obtain ⟨w30, h30, hf⟩ := bd_e hf
      refine z_zast hx hb hK hJ hw hS 2 (k := 6) kc_6.2 cX_ne (cX_a9 kc_6.1) rfl (by decide) h30 dX3_keep_30 (fun H locs hw hS => ?_)
      refine lv_aload_n hx hb dX3_keep_31 rfl (lv_at hl 0 rfl) ?_
      refine z_get (v := .ref (L 13)) hx hb hts hiX3_keep_X3 hown hK hw (k := 0) kc_0.2 ((cX_a0 kc_0.1) _) rfl 6 (by decide) (hts (.fieldLink RX3 23 "OneSentence" "today" "LOneSentence$Day;") (by decide +kernel)) rfl dX3_keep_32 ?_
      refine z_getN (v := .int (w30.1 13 2)) hx hb hts hiX3_keep_X0 hown hK hw (k := 13) kc_13.2 ((cX_a2 kc_13.1) _) rfl 2 (by decide) (hE.1 (RX3, 113, "OneSentence$Day", "hour", "I", "OneSentence") (by decide)) rfl dX3_keep_35 ?_
      exact z_iret hx hb hr hlk hw hS hf dX3_keep_38
    · replace hf := if_f hf c6
      refine lv_iconst (v := (-1)) hx hb dX3_keep_9 (by decide) ?_
      exact z_iret hx hb hr hlk hw hS hf dX3_keep_10
set_option maxHeartbeats 4000000 in
set_option maxRecDepth 100000 in
theorem kx_keep (l : Launch) {D : va_G} {L : Nat → Nat} {K : Nat → ClassId} {t0 : Nat} (hJ : gj L 81) (x1 : Int32) (w : St) {w9 : St} {rs : Int32} (hf : fx_keep x1 w = some (rs, w9)) : Met l yX3_keep wsX3_keep ({ frames := 2, cells := 0, slots := 0, locals := 44 }) (va_Pc [.ref (L 0), .int x1] (xP D L K t0 w)) (qI D L 81 (cX L K) rs w9) 0 0 (gA L 81) := by
  refine g_met (cc := cX3_keep) (nL := 2) (ret := (some .int)) (by decide) rfl (Nat.le_of_ble_eq_true rfl) (fun p e s m below meth c ls C0 hP hl => ?_)
  exact wx_keep_0 hJ C0 hP.2.1 hP.2.2 _ w _ _ ls hP.1 va_S.rf (lv_sub hl [0, 1] rfl) hf
