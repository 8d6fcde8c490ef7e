set_option maxRecDepth 20000 in
theorem ggX4_comesTo_X4_in : GoodIn wsX4_comesTo wsX4_in := goodIn_r _ [6] (by decide +kernel) (by decide +kernel)
set_option maxRecDepth 20000 in
theorem gX4_comesTo_X4_in : GoodIn wsX4_comesTo (va_wsS RX4 46 yX4_in wsX4_in) := goodIn_app (goodIn_of _ (by decide +kernel)) ggX4_comesTo_X4_in
set_option maxRecDepth 20000 in
theorem ggX4_comesTo_X4_tenTo : GoodIn wsX4_comesTo wsX4_tenTo := goodIn_r _ [9] (by decide +kernel) (by decide +kernel)
set_option maxRecDepth 20000 in
theorem gX4_comesTo_X4_tenTo : GoodIn wsX4_comesTo (va_wsS RX4 131 yX4_tenTo wsX4_tenTo) := goodIn_app (goodIn_of _ (by decide +kernel)) ggX4_comesTo_X4_tenTo
set_option maxRecDepth 20000 in
theorem ggX4_comesTo_X4_sayRow : GoodIn wsX4_comesTo wsX4_sayRow := goodIn_r _ [13, 14, 15, 16, 17, 5, 18, 2, 19, 20, 7, 8, 9, 3, 4, 6, 21, 22, 23, 24, 25, 26, 27, 28, 29, 30, 31, 32, 33, 34, 35, 36, 37, 38, 39, 40, 41, 42, 43, 44, 45, 46, 47, 48, 49, 50, 51, 52, 53, 54, 55, 56, 57, 58, 59, 60, 61, 62, 63] (by decide +kernel) (by decide +kernel)
set_option maxRecDepth 20000 in
theorem gX4_comesTo_X4_sayRow : GoodIn wsX4_comesTo (wsV RX4 138 RX4 yX4_sayRow wsX4_sayRow) := goodIn_app (goodIn_of _ (by decide +kernel)) ggX4_comesTo_X4_sayRow
theorem dX4_comesTo_0 : decode cX4_comesTo 0 = .ok (.iload_n 1, 1) := by decide +kernel
theorem dX4_comesTo_1 : decode cX4_comesTo 1 = .ok (.i2l, 1) := by decide +kernel
theorem dX4_comesTo_2 : decode cX4_comesTo 2 = .ok (.lconst 1, 1) := by decide +kernel
theorem dX4_comesTo_3 : decode cX4_comesTo 3 = .ok (.ldc2_w 136, 3) := by decide +kernel
theorem dX4_comesTo_6 : decode cX4_comesTo 6 = .ok (.invokestatic 46, 3) := by decide +kernel
theorem dX4_comesTo_9 : decode cX4_comesTo 9 = .ok (.ifCond .eq 29, 3) := by decide +kernel
theorem dX4_comesTo_12 : decode cX4_comesTo 12 = .ok (.iload_n 2, 1) := by decide +kernel
theorem dX4_comesTo_13 : decode cX4_comesTo 13 = .ok (.i2l, 1) := by decide +kernel
theorem dX4_comesTo_14 : decode cX4_comesTo 14 = .ok (.lconst 0, 1) := by decide +kernel
theorem dX4_comesTo_15 : decode cX4_comesTo 15 = .ok (.iload_n 1, 1) := by decide +kernel
theorem dX4_comesTo_16 : decode cX4_comesTo 16 = .ok (.invokestatic 131, 3) := by decide +kernel
theorem dX4_comesTo_19 : decode cX4_comesTo 19 = .ok (.iconst 1, 1) := by decide +kernel
theorem dX4_comesTo_20 : decode cX4_comesTo 20 = .ok (.isub, 1) := by decide +kernel
theorem dX4_comesTo_21 : decode cX4_comesTo 21 = .ok (.i2l, 1) := by decide +kernel
theorem dX4_comesTo_22 : decode cX4_comesTo 22 = .ok (.invokestatic 46, 3) := by decide +kernel
theorem dX4_comesTo_25 : decode cX4_comesTo 25 = .ok (.ifCond .eq 13, 3) := by decide +kernel
theorem dX4_comesTo_28 : decode cX4_comesTo 28 = .ok (.iload_n 3, 1) := by decide +kernel
theorem dX4_comesTo_29 : decode cX4_comesTo 29 = .ok (.i2l, 1) := by decide +kernel
theorem dX4_comesTo_30 : decode cX4_comesTo 30 = .ok (.lconst 0, 1) := by decide +kernel
theorem dX4_comesTo_31 : decode cX4_comesTo 31 = .ok (.lconst 1, 1) := by decide +kernel
theorem dX4_comesTo_32 : decode cX4_comesTo 32 = .ok (.invokestatic 46, 3) := by decide +kernel
theorem dX4_comesTo_35 : decode cX4_comesTo 35 = .ok (.ifCond .ne 6, 3) := by decide +kernel
theorem dX4_comesTo_38 : decode cX4_comesTo 38 = .ok (.bipush (-2), 2) := by decide +kernel
theorem dX4_comesTo_40 : decode cX4_comesTo 40 = .ok (.ireturn, 1) := by decide +kernel
theorem dX4_comesTo_41 : decode cX4_comesTo 41 = .ok (.aload_n 0, 1) := by decide +kernel
theorem dX4_comesTo_42 : decode cX4_comesTo 42 = .ok (.aload_n 0, 1) := by decide +kernel
theorem dX4_comesTo_43 : decode cX4_comesTo 43 = .ok (.getfield 16, 3) := by decide +kernel
theorem dX4_comesTo_46 : decode cX4_comesTo 46 = .ok (.iconst 0, 1) := by decide +kernel
theorem dX4_comesTo_47 : decode cX4_comesTo 47 = .ok (.iaload, 1) := by decide +kernel
theorem dX4_comesTo_48 : decode cX4_comesTo 48 = .ok (.iload_n 1, 1) := by decide +kernel
theorem dX4_comesTo_49 : decode cX4_comesTo 49 = .ok (.iload_n 2, 1) := by decide +kernel
theorem dX4_comesTo_50 : decode cX4_comesTo 50 = .ok (.invokevirtual 138, 3) := by decide +kernel
theorem dX4_comesTo_53 : decode cX4_comesTo 53 = .ok (.istore 4, 2) := by decide +kernel
theorem dX4_comesTo_55 : decode cX4_comesTo 55 = .ok (.iload_n 3, 1) := by decide +kernel
theorem dX4_comesTo_56 : decode cX4_comesTo 56 = .ok (.iconst 1, 1) := by decide +kernel
theorem dX4_comesTo_57 : decode cX4_comesTo 57 = .ok (.if_icmp .ne 8, 3) := by decide +kernel
theorem dX4_comesTo_60 : decode cX4_comesTo 60 = .ok (.iload 4, 2) := by decide +kernel
theorem dX4_comesTo_62 : decode cX4_comesTo 62 = .ok (.goto 22, 3) := by decide +kernel
theorem dX4_comesTo_65 : decode cX4_comesTo 65 = .ok (.iload 4, 2) := by decide +kernel
theorem dX4_comesTo_67 : decode cX4_comesTo 67 = .ok (.bipush (-9), 2) := by decide +kernel
theorem dX4_comesTo_69 : decode cX4_comesTo 69 = .ok (.if_icmp .ne 13, 3) := by decide +kernel
theorem dX4_comesTo_72 : decode cX4_comesTo 72 = .ok (.aload_n 0, 1) := by decide +kernel
theorem dX4_comesTo_73 : decode cX4_comesTo 73 = .ok (.getfield 16, 3) := by decide +kernel
theorem dX4_comesTo_76 : decode cX4_comesTo 76 = .ok (.bipush 49, 2) := by decide +kernel
theorem dX4_comesTo_78 : decode cX4_comesTo 78 = .ok (.iaload, 1) := by decide +kernel
theorem dX4_comesTo_79 : decode cX4_comesTo 79 = .ok (.goto 5, 3) := by decide +kernel
theorem dX4_comesTo_82 : decode cX4_comesTo 82 = .ok (.bipush (-3), 2) := by decide +kernel
theorem dX4_comesTo_84 : decode cX4_comesTo 84 = .ok (.ireturn, 1) := by decide +kernel
set_option maxRecDepth 20000 in
theorem hiX4_comesTo_X4 : ∀ w ∈ u_ws RX4 TX4 24, w ∈ wsX4_comesTo := by decide +kernel
set_option maxHeartbeats 4000000 in
set_option maxRecDepth 100000 in
theorem wm_comesTo_0 {p : Program} {l : Launch} {e : Env} {s : State} {m : MethodId} {args : Array Value} {below : List Frame} {meth : Method} {c : Code} {D : va_G} {L : Nat → Nat} {K : Nat → ClassId} (hJ : gj L 12) (C0 : gC cX4_comesTo 5 (some .int) wsX4_comesTo RX4 p s m args meth c) (hK : va_K D vwCl (tyG K) s) (hE : eM s) {w9 : St} {rs : Int32} : ∀ (x1 : Int32) (x2 : Int32) (x3 : Int32) (w : St) (H : Heap) (locs : List Loc) (ls : Array Slot), va_P D vwCl (gl L 12 (cM L K w)) H → va_S (gA L 12) s.heap H locs → lv_has ls 5 [(0, .ref (L 0)), (1, .int x1), (2, .int x2), (3, .int x3)] → fm_comesTo x1 x2 x3 w = some (rs, w9) → W p l e { frames := 4, cells := 0, slots := 0, locals := 92 } s m args below meth c H locs 0 0 (MQ below (qI D L 12 (cM L K) rs w9) args s 0 0 (gA L 12)) (F0 m 0 ls []) := by
  obtain ⟨hx, hb, hr, hml, hown, hts, hlk⟩ := id C0
  intro x1 x2 x3 w H locs ls hw hS hl hf
  unfold fm_comesTo at hf
  refine lv_iload_n hx hb dX4_comesTo_0 rfl (lv_at hl 1 rfl) ?_
  refine lv_i2l (v := x1.toInt64) hx hb dX4_comesTo_1 rfl ?_
  refine lv_lconst (v := 1) hx hb dX4_comesTo_2 (by decide) ?_
  refine lv_ldc2 (v := 5) hx hb hown (hts (.constantLong RX4 136 5) (by decide +kernel)) dX4_comesTo_3 ?_
  obtain ⟨v6, h6, hf⟩ := bd_e hf
  refine z_calls (va_runS (As := [.long (x1.toInt64), .long 1, .long 5]) (rest := []) ⟨hx, hb, hml, hown, hts⟩ (km_in l (x1.toInt64) 1 5 h6) (va_cwS 3 hts gX4_comesTo_X4_in rfl rfl rfl (by decide +kernel) ⟨Nat.le_of_ble_eq_true rfl, Nat.le_of_ble_eq_true rfl⟩) z_preT rfl rfl hl.1 rfl (lv_room (Nat.le_of_ble_eq_true rfl)) dX4_comesTo_6 ⟨Nat.le_of_ble_eq_true rfl, Nat.le_of_ble_eq_true rfl⟩) ?_
  refine lv_if_eq (tgt := 38) hx hb dX4_comesTo_9 (by decide) (fun c9 => ?_) (fun c9 => ?_)
  · replace hf := if_t hf c9
    refine lv_bipush (v := (-2)) hx hb dX4_comesTo_38 (by decide) ?_
    exact z_iret hx hb hr hlk hw hS hf dX4_comesTo_40
  · replace hf := if_f hf c9
    refine lv_iload_n hx hb dX4_comesTo_12 rfl (lv_at hl 2 rfl) ?_
    refine lv_i2l (v := x2.toInt64) hx hb dX4_comesTo_13 rfl ?_
    refine lv_lconst (v := 0) hx hb dX4_comesTo_14 (by decide) ?_
    refine lv_iload_n hx hb dX4_comesTo_15 rfl (lv_at hl 1 rfl) ?_
    obtain ⟨v16, h16, hf⟩ := bd_e hf
    refine z_calls (va_runS (As := [.int x1]) (rest := [.long 0, .long (x2.toInt64)]) ⟨hx, hb, hml, hown, hts⟩ (km_tenTo l x1 h16) (va_cwS 1 hts gX4_comesTo_X4_tenTo rfl rfl rfl (by decide +kernel) ⟨Nat.le_of_ble_eq_true rfl, Nat.le_of_ble_eq_true rfl⟩) z_preT rfl rfl hl.1 rfl (lv_room (Nat.le_of_ble_eq_true rfl)) dX4_comesTo_16 ⟨Nat.le_of_ble_eq_true rfl, Nat.le_of_ble_eq_true rfl⟩) ?_
    refine lv_iconst (v := 1) hx hb dX4_comesTo_19 (by decide) ?_
    refine lv_isub hx hb dX4_comesTo_20 ?_
    refine lv_i2l (v := (v16 - (1 : Int32)).toInt64) hx hb dX4_comesTo_21 rfl ?_
    obtain ⟨v22, h22, hf⟩ := bd_e hf
    refine z_calls (va_runS (As := [.long (x2.toInt64), .long 0, .long ((v16 - (1 : Int32)).toInt64)]) (rest := []) ⟨hx, hb, hml, hown, hts⟩ (km_in l (x2.toInt64) 0 ((v16 - (1 : Int32)).toInt64) h22) (va_cwS 3 hts gX4_comesTo_X4_in rfl rfl rfl (by decide +kernel) ⟨Nat.le_of_ble_eq_true rfl, Nat.le_of_ble_eq_true rfl⟩) z_preT rfl rfl hl.1 rfl (lv_room (Nat.le_of_ble_eq_true rfl)) dX4_comesTo_22 ⟨Nat.le_of_ble_eq_true rfl, Nat.le_of_ble_eq_true rfl⟩) ?_
    refine lv_if_eq (tgt := 38) hx hb dX4_comesTo_25 (by decide) (fun c25 => ?_) (fun c25 => ?_)
    · replace hf := if_t hf c25
      refine lv_bipush (v := (-2)) hx hb dX4_comesTo_38 (by decide) ?_
      exact z_iret hx hb hr hlk hw hS hf dX4_comesTo_40
    · replace hf := if_f hf c25
      refine lv_iload_n hx hb dX4_comesTo_28 rfl (lv_at hl 3 rfl) ?_
      refine lv_i2l (v := x3.toInt64) hx hb dX4_comesTo_29 rfl ?_
      refine lv_lconst (v := 0) hx hb dX4_comesTo_30 (by decide) ?_
      refine lv_lconst (v := 1) hx hb dX4_comesTo_31 (by decide) ?_
      obtain ⟨v32, h32, hf⟩ := bd_e hf
      refine z_calls (va_runS (As := [.long (x3.toInt64), .long 0, .long 1]) (rest := []) ⟨hx, hb, hml, hown, hts⟩ (km_in l (x3.toInt64) 0 1 h32) (va_cwS 3 hts gX4_comesTo_X4_in rfl rfl rfl (by decide +kernel) ⟨Nat.le_of_ble_eq_true rfl, Nat.le_of_ble_eq_true rfl⟩) z_preT rfl rfl hl.1 rfl (lv_room (Nat.le_of_ble_eq_true rfl)) dX4_comesTo_32 ⟨Nat.le_of_ble_eq_true rfl, Nat.le_of_ble_eq_true rfl⟩) ?_
      refine lv_if_ne (tgt := 41) hx hb dX4_comesTo_35 (by decide) (fun c35 => ?_) (fun c35 => ?_)
      · replace hf := if_f hf c35
        refine lv_aload_n hx hb dX4_comesTo_41 rfl (lv_at hl 0 rfl) ?_
        refine lv_aload_n hx hb dX4_comesTo_42 rfl (lv_at hl 0 rfl) ?_
        refine z_get (v := .ref (L 3)) hx hb hts hiX4_comesTo_X4 hown hK hw (k := 0) (by decide) ((fun w => rfl) _) rfl 4 (by decide) (hts (.fieldLink RX4 16 "OneSentenceModel" "now" "[I") (by decide +kernel)) rfl dX4_comesTo_43 ?_
        refine lv_iconst (v := 0) hx hb dX4_comesTo_46 (by decide) ?_
        obtain ⟨v47, h47, hf⟩ := bd_e hf
        refine z_iald hx hb hK hw 0 (k := 3) (by decide) ((fun w => rfl) _) rfl h47 dX4_comesTo_47 ?_
        refine lv_iload_n hx hb dX4_comesTo_48 rfl (lv_at hl 1 rfl) ?_
        refine lv_iload_n hx hb dX4_comesTo_49 rfl (lv_at hl 2 rfl) ?_
        obtain ⟨q50, h50, hf⟩ := bd_e hf
        refine z_calli (va_runV (As := [.int v47, .int x1, .int x2]) (rest := []) ⟨hx, hb, hml, hown, hts⟩ (km_sayRow l (D := D) (K := K) hJ v47 x1 x2 w  h50) (cwV 3 hts gX4_comesTo_X4_sayRow rfl rfl rfl (by decide +kernel) ⟨Nat.le_of_ble_eq_true rfl, Nat.le_of_ble_eq_true rfl⟩) (z_preV eM_ok hK hE hw hS (by decide) ((fun w => rfl) _) (T := TX4) (M := 24) rfl) rfl rfl hl.1 rfl (lv_room (Nat.le_of_ble_eq_true rfl)) dX4_comesTo_50 ⟨Nat.le_of_ble_eq_true rfl, Nat.le_of_ble_eq_true rfl⟩) hS (fun H locs hw hS => ?_)
        refine lv_topi (fun v53 e53 => ?_)
        replace hf := lb_e hf e53
        refine lv_istore (lv' := [(4, .int v53), (0, .ref (L 0)), (1, .int x1), (2, .int x2), (3, .int x3)]) hx hb dX4_comesTo_53 hl (by decide) rfl (fun ls hl => ?_)
        refine lv_iload_n hx hb dX4_comesTo_55 rfl (lv_at hl 4 rfl) ?_
        refine lv_iconst (v := 1) hx hb dX4_comesTo_56 (by decide) ?_
        refine lv_icmp_ne (tgt := 65) hx hb dX4_comesTo_57 (by decide) (fun c57 => ?_) (fun c57 => ?_)
        · replace hf := if_f hf c57
          refine lv_iload hx hb dX4_comesTo_65 (lv_at hl 0 rfl) ?_
          refine lv_bipush (v := (-9)) hx hb dX4_comesTo_67 (by decide) ?_
          refine lv_icmp_ne (tgt := 82) hx hb dX4_comesTo_69 (by decide) (fun c69 => ?_) (fun c69 => ?_)
          · replace hf := if_f hf c69
            refine lv_bipush (v := (-3)) hx hb dX4_comesTo_82 (by decide) ?_
            exact z_iret hx hb hr hlk hw hS hf dX4_comesTo_84
          · replace hf := if_t hf c69
            refine lv_aload_n hx hb dX4_comesTo_72 rfl (lv_at hl 1 rfl) ?_
            refine z_get (v := .ref (L 3)) hx hb hts hiX4_comesTo_X4 hown hK hw (k := 0) (by decide) ((fun w => rfl) _) rfl 4 (by decide) (hts (.fieldLink RX4 16 "OneSentenceModel" "now" "[I") (by decide +kernel)) rfl dX4_comesTo_73 ?_
            refine lv_bipush (v := 49) hx hb dX4_comesTo_76 (by decide) ?_
            obtain ⟨v78, h78, hf⟩ := bd_e hf
            refine z_iald hx hb hK hw 0 (k := 3) (by decide) ((fun w => rfl) _) rfl h78 dX4_comesTo_78 ?_
            refine lv_goto (tgt := 84) hx hb dX4_comesTo_79 (by decide) ?_
            exact z_iret hx hb hr hlk hw hS hf dX4_comesTo_84
        · replace hf := if_t hf c57
          refine lv_iload hx hb dX4_comesTo_60 (lv_at hl 0 rfl) ?_
          refine lv_goto (tgt := 84) hx hb dX4_comesTo_62 (by decide) ?_
          exact z_iret hx hb hr hlk hw hS hf dX4_comesTo_84
      · replace hf := if_t hf c35
        refine lv_bipush (v := (-2)) hx hb dX4_comesTo_38 (by decide) ?_
        exact z_iret hx hb hr hlk hw hS hf dX4_comesTo_40
set_option maxHeartbeats 4000000 in
set_option maxRecDepth 100000 in
theorem km_comesTo (l : Launch) {D : va_G} {L : Nat → Nat} {K : Nat → ClassId} (hJ : gj L 12) (x1 : Int32) (x2 : Int32) (x3 : Int32) (w : St) {w9 : St} {rs : Int32} (hf : fm_comesTo x1 x2 x3 w = some (rs, w9)) : Met l yX4_comesTo wsX4_comesTo ({ frames := 4, cells := 0, slots := 0, locals := 92 }) (va_Pc [.ref (L 0), .int x1, .int x2, .int x3] (mP D L K w)) (qI D L 12 (cM L K) rs w9) 0 0 (gA L 12) := by
  refine g_met (cc := cX4_comesTo) (nL := 5) (ret := (some .int)) (by decide) rfl (Nat.le_of_ble_eq_true rfl) (fun p e s m below meth c ls C0 hP hl => ?_)
  exact wm_comesTo_0 hJ C0 hP.2.1 hP.2.2 _ _ _ w _ _ ls hP.1 va_S.rf (lv_sub hl [0, 1, 2, 3] rfl) hf
theorem dX4_rowOf_0 : decode cX4_rowOf 0 = .ok (.iload_n 0, 1) := by decide +kernel
theorem dX4_rowOf_1 : decode cX4_rowOf 1 = .ok (.istore_n 2, 1) := by decide +kernel
theorem dX4_rowOf_2 : decode cX4_rowOf 2 = .ok (.iconst 0, 1) := by decide +kernel
theorem dX4_rowOf_3 : decode cX4_rowOf 3 = .ok (.istore_n 3, 1) := by decide +kernel
theorem dX4_rowOf_4 : decode cX4_rowOf 4 = .ok (.iconst 1, 1) := by decide +kernel
theorem dX4_rowOf_5 : decode cX4_rowOf 5 = .ok (.istore 4, 2) := by decide +kernel
theorem dX4_rowOf_7 : decode cX4_rowOf 7 = .ok (.iconst 0, 1) := by decide +kernel
theorem dX4_rowOf_8 : decode cX4_rowOf 8 = .ok (.istore 5, 2) := by decide +kernel
theorem dX4_rowOf_10 : decode cX4_rowOf 10 = .ok (.iload 5, 2) := by decide +kernel
theorem dX4_rowOf_12 : decode cX4_rowOf 12 = .ok (.iload_n 1, 1) := by decide +kernel
theorem dX4_rowOf_13 : decode cX4_rowOf 13 = .ok (.if_icmp .ge 33, 3) := by decide +kernel
theorem dX4_rowOf_16 : decode cX4_rowOf 16 = .ok (.iload_n 3, 1) := by decide +kernel
theorem dX4_rowOf_17 : decode cX4_rowOf 17 = .ok (.iload 4, 2) := by decide +kernel
theorem dX4_rowOf_19 : decode cX4_rowOf 19 = .ok (.iload_n 2, 1) := by decide +kernel
theorem dX4_rowOf_20 : decode cX4_rowOf 20 = .ok (.bipush 7, 2) := by decide +kernel
theorem dX4_rowOf_22 : decode cX4_rowOf 22 = .ok (.irem, 1) := by decide +kernel
theorem dX4_rowOf_23 : decode cX4_rowOf 23 = .ok (.iconst 1, 1) := by decide +kernel
theorem dX4_rowOf_24 : decode cX4_rowOf 24 = .ok (.iadd, 1) := by decide +kernel
theorem dX4_rowOf_25 : decode cX4_rowOf 25 = .ok (.imul, 1) := by decide +kernel
theorem dX4_rowOf_26 : decode cX4_rowOf 26 = .ok (.iadd, 1) := by decide +kernel
theorem dX4_rowOf_27 : decode cX4_rowOf 27 = .ok (.istore_n 3, 1) := by decide +kernel
theorem dX4_rowOf_28 : decode cX4_rowOf 28 = .ok (.iload_n 2, 1) := by decide +kernel
theorem dX4_rowOf_29 : decode cX4_rowOf 29 = .ok (.bipush 7, 2) := by decide +kernel
theorem dX4_rowOf_31 : decode cX4_rowOf 31 = .ok (.idiv, 1) := by decide +kernel
theorem dX4_rowOf_32 : decode cX4_rowOf 32 = .ok (.istore_n 2, 1) := by decide +kernel
theorem dX4_rowOf_33 : decode cX4_rowOf 33 = .ok (.iload 4, 2) := by decide +kernel
theorem dX4_rowOf_35 : decode cX4_rowOf 35 = .ok (.bipush 10, 2) := by decide +kernel
theorem dX4_rowOf_37 : decode cX4_rowOf 37 = .ok (.imul, 1) := by decide +kernel
theorem dX4_rowOf_38 : decode cX4_rowOf 38 = .ok (.istore 4, 2) := by decide +kernel
theorem dX4_rowOf_40 : decode cX4_rowOf 40 = .ok (.iinc 5 1, 3) := by decide +kernel
theorem dX4_rowOf_43 : decode cX4_rowOf 43 = .ok (.goto (-33), 3) := by decide +kernel
theorem dX4_rowOf_46 : decode cX4_rowOf 46 = .ok (.iload_n 3, 1) := by decide +kernel
theorem dX4_rowOf_47 : decode cX4_rowOf 47 = .ok (.ireturn, 1) := by decide +kernel
set_option maxHeartbeats 4000000 in
set_option maxRecDepth 100000 in
theorem wm_rowOf_10 {p : Program} {l : Launch} {e : Env} {s : State} {m : MethodId} {args : Array Value} {below : List Frame} {meth : Method} {c : Code} (C0 : gC cX4_rowOf 6 (some .int) wsX4_rowOf RX4 p s m args meth c) {rs : Int32} : ∀ (fu : Nat) (x1 : Int32) (x2 : Int32) (x3 : Int32) (x4 : Int32) (x5 : Int32) (ls : Array Slot), lv_has ls 6 [(1, .int x1), (2, .int x2), (3, .int x3), (4, .int x4), (5, .int x5)] → fm_rowOf_10 fu x1 x2 x3 x4 x5 = some rs → W p l e { frames := 0, cells := 0, slots := 0, locals := 0 } s m args below meth c s.heap [] 0 0 (MQ below (qS rs) args s 0 0 (fun _ => False)) (F0 m 10 ls []) := by
  obtain ⟨hx, hb, hr, hml, hown, hts, hlk⟩ := id C0
  intro fu
  induction fu with
  | zero =>
    intro x1 x2 x3 x4 x5 ls hl hf
    rw [fm_rowOf_10] at hf
    exact no_n hf
  | succ fu ih =>
    intro x1 x2 x3 x4 x5 ls hl hf
    rw [fm_rowOf_10] at hf
    refine lv_iload hx hb dX4_rowOf_10 (lv_at hl 4 rfl) ?_
    refine lv_iload_n hx hb dX4_rowOf_12 rfl (lv_at hl 0 rfl) ?_
    refine lv_icmp_ge (tgt := 46) hx hb dX4_rowOf_13 (by decide) (fun c13 => ?_) (fun c13 => ?_)
    · replace hf := if_t hf c13
      refine lv_iload_n hx hb dX4_rowOf_46 rfl (lv_at hl 2 rfl) ?_
      exact z_sret hx hb hr hlk hf dX4_rowOf_47
    · replace hf := if_f hf c13
      refine lv_iload_n hx hb dX4_rowOf_16 rfl (lv_at hl 2 rfl) ?_
      refine lv_iload hx hb dX4_rowOf_17 (lv_at hl 3 rfl) ?_
      refine lv_iload_n hx hb dX4_rowOf_19 rfl (lv_at hl 1 rfl) ?_
      refine lv_bipush (v := 7) hx hb dX4_rowOf_20 (by decide) ?_
      refine lv_irem hx hb dX4_rowOf_22 (by decide) ?_
      refine lv_iconst (v := 1) hx hb dX4_rowOf_23 (by decide) ?_
      refine lv_iadd hx hb dX4_rowOf_24 ?_
      refine lv_imul hx hb dX4_rowOf_25 ?_
      refine lv_iadd hx hb dX4_rowOf_26 ?_
      refine lv_topi (fun v27 e27 => ?_)
      replace hf := lb_e hf e27
      refine lv_istore_n (lv' := [(3, .int v27), (1, .int x1), (2, .int x2), (4, .int x4), (5, .int x5)]) hx hb dX4_rowOf_27 rfl hl (by decide) rfl (fun ls hl => ?_)
      refine lv_iload_n hx hb dX4_rowOf_28 rfl (lv_at hl 2 rfl) ?_
      refine lv_bipush (v := 7) hx hb dX4_rowOf_29 (by decide) ?_
      refine lv_idiv hx hb dX4_rowOf_31 (by decide) ?_
      refine lv_topi (fun v32 e32 => ?_)
      replace hf := lb_e hf e32
      refine lv_istore_n (lv' := [(2, .int v32), (3, .int v27), (1, .int x1), (4, .int x4), (5, .int x5)]) hx hb dX4_rowOf_32 rfl hl (by decide) rfl (fun ls hl => ?_)
      refine lv_iload hx hb dX4_rowOf_33 (lv_at hl 3 rfl) ?_
      refine lv_bipush (v := 10) hx hb dX4_rowOf_35 (by decide) ?_
      refine lv_imul hx hb dX4_rowOf_37 ?_
      refine lv_topi (fun v38 e38 => ?_)
      replace hf := lb_e hf e38
      refine lv_istore (lv' := [(4, .int v38), (2, .int v32), (3, .int v27), (1, .int x1), (5, .int x5)]) hx hb dX4_rowOf_38 hl (by decide) rfl (fun ls hl => ?_)
      refine lv_iinc (v := (x5 + 1)) (lv' := [(5, .int (x5 + 1)), (4, .int v38), (2, .int v32), (3, .int v27), (1, .int x1)]) hx hb dX4_rowOf_40 hl (k := 4) rfl rfl (by decide) rfl (fun ls hl => ?_)
      refine lv_goto (tgt := 10) hx hb dX4_rowOf_43 (by decide) ?_
      exact ih _ _ _ _ _ _ (lv_sub hl [4, 2, 3, 1, 0] rfl) hf
set_option maxHeartbeats 4000000 in
set_option maxRecDepth 100000 in
theorem wm_rowOf_0 {p : Program} {l : Launch} {e : Env} {s : State} {m : MethodId} {args : Array Value} {below : List Frame} {meth : Method} {c : Code} (C0 : gC cX4_rowOf 6 (some .int) wsX4_rowOf RX4 p s m args meth c) {rs : Int32} : ∀ (x0 : Int32) (x1 : Int32) (ls : Array Slot), lv_has ls 6 [(0, .int x0), (1, .int x1)] → fm_rowOf x0 x1 = some rs → W p l e { frames := 0, cells := 0, slots := 0, locals := 0 } s m args below meth c s.heap [] 0 0 (MQ below (qS rs) args s 0 0 (fun _ => False)) (F0 m 0 ls []) := by
  obtain ⟨hx, hb, hr, hml, hown, hts, hlk⟩ := id C0
  intro x0 x1 ls hl hf
  unfold fm_rowOf at hf
  refine lv_iload_n hx hb dX4_rowOf_0 rfl (lv_at hl 0 rfl) ?_
  refine lv_istore_n (lv' := [(2, .int x0), (0, .int x0), (1, .int x1)]) hx hb dX4_rowOf_1 rfl hl (by decide) rfl (fun ls hl => ?_)
  refine lv_iconst (v := 0) hx hb dX4_rowOf_2 (by decide) ?_
  refine lv_istore_n (lv' := [(3, .int 0), (2, .int x0), (0, .int x0), (1, .int x1)]) hx hb dX4_rowOf_3 rfl hl (by decide) rfl (fun ls hl => ?_)
  refine lv_iconst (v := 1) hx hb dX4_rowOf_4 (by decide) ?_
  refine lv_istore (lv' := [(4, .int 1), (3, .int 0), (2, .int x0), (0, .int x0), (1, .int x1)]) hx hb dX4_rowOf_5 hl (by decide) rfl (fun ls hl => ?_)
  refine lv_iconst (v := 0) hx hb dX4_rowOf_7 (by decide) ?_
  refine lv_istore (lv' := [(5, .int 0), (4, .int 1), (3, .int 0), (2, .int x0), (0, .int x0), (1, .int x1)]) hx hb dX4_rowOf_8 hl (by decide) rfl (fun ls hl => ?_)
  exact wm_rowOf_10 C0 _ _ _ _ _ _ _ (lv_sub hl [5, 3, 2, 1, 0] rfl) hf
set_option maxHeartbeats 4000000 in
set_option maxRecDepth 100000 in
theorem km_rowOf (l : Launch) (x0 : Int32) (x1 : Int32) {rs : Int32} (hf : fm_rowOf x0 x1 = some rs) : Met l yX4_rowOf wsX4_rowOf ({ frames := 0, cells := 0, slots := 0, locals := 0 }) (va_Pc [.int x0, .int x1] (fun _ => True)) (qS rs) 0 0 (fun _ => False) := by
  refine g_met (cc := cX4_rowOf) (nL := 6) (ret := (some .int)) (by decide) rfl (Nat.le_of_ble_eq_true rfl) (fun p e s m below meth c ls C0 _ hl => ?_)
  exact wm_rowOf_0 C0 _ _ ls (lv_sub hl [0, 1] rfl) hf
theorem dX4_sevens_0 : decode cX4_sevens 0 = .ok (.iconst 1, 1) := by decide +kernel
theorem dX4_sevens_1 : decode cX4_sevens 1 = .ok (.istore_n 1, 1) := by decide +kernel
theorem dX4_sevens_2 : decode cX4_sevens 2 = .ok (.iconst 0, 1) := by decide +kernel
theorem dX4_sevens_3 : decode cX4_sevens 3 = .ok (.istore_n 2, 1) := by decide +kernel
theorem dX4_sevens_4 : decode cX4_sevens 4 = .ok (.iload_n 2, 1) := by decide +kernel
theorem dX4_sevens_5 : decode cX4_sevens 5 = .ok (.iload_n 0, 1) := by decide +kernel
theorem dX4_sevens_6 : decode cX4_sevens 6 = .ok (.if_icmp .ge 14, 3) := by decide +kernel
theorem dX4_sevens_9 : decode cX4_sevens 9 = .ok (.iload_n 1, 1) := by decide +kernel
theorem dX4_sevens_10 : decode cX4_sevens 10 = .ok (.bipush 7, 2) := by decide +kernel
theorem dX4_sevens_12 : decode cX4_sevens 12 = .ok (.imul, 1) := by decide +kernel
theorem dX4_sevens_13 : decode cX4_sevens 13 = .ok (.istore_n 1, 1) := by decide +kernel
theorem dX4_sevens_14 : decode cX4_sevens 14 = .ok (.iinc 2 1, 3) := by decide +kernel
theorem dX4_sevens_17 : decode cX4_sevens 17 = .ok (.goto (-13), 3) := by decide +kernel
theorem dX4_sevens_20 : decode cX4_sevens 20 = .ok (.iload_n 1, 1) := by decide +kernel
theorem dX4_sevens_21 : decode cX4_sevens 21 = .ok (.ireturn, 1) := by decide +kernel
set_option maxHeartbeats 4000000 in
set_option maxRecDepth 100000 in
theorem wm_sevens_4 {p : Program} {l : Launch} {e : Env} {s : State} {m : MethodId} {args : Array Value} {below : List Frame} {meth : Method} {c : Code} (C0 : gC cX4_sevens 3 (some .int) wsX4_sevens RX4 p s m args meth c) {rs : Int32} : ∀ (fu : Nat) (x0 : Int32) (x1 : Int32) (x2 : Int32) (ls : Array Slot), lv_has ls 3 [(0, .int x0), (1, .int x1), (2, .int x2)] → fm_sevens_4 fu x0 x1 x2 = some rs → W p l e { frames := 0, cells := 0, slots := 0, locals := 0 } s m args below meth c s.heap [] 0 0 (MQ below (qS rs) args s 0 0 (fun _ => False)) (F0 m 4 ls []) := by
  obtain ⟨hx, hb, hr, hml, hown, hts, hlk⟩ := id C0
  intro fu
  induction fu with
  | zero =>
    intro x0 x1 x2 ls hl hf
    rw [fm_sevens_4] at hf
    exact no_n hf
  | succ fu ih =>
    intro x0 x1 x2 ls hl hf
    rw [fm_sevens_4] at hf
    refine lv_iload_n hx hb dX4_sevens_4 rfl (lv_at hl 2 rfl) ?_
    refine lv_iload_n hx hb dX4_sevens_5 rfl (lv_at hl 0 rfl) ?_
    refine lv_icmp_ge (tgt := 20) hx hb dX4_sevens_6 (by decide) (fun c6 => ?_) (fun c6 => ?_)
    · replace hf := if_t hf c6
      refine lv_iload_n hx hb dX4_sevens_20 rfl (lv_at hl 1 rfl) ?_
      exact z_sret hx hb hr hlk hf dX4_sevens_21
    · replace hf := if_f hf c6
      refine lv_iload_n hx hb dX4_sevens_9 rfl (lv_at hl 1 rfl) ?_
      refine lv_bipush (v := 7) hx hb dX4_sevens_10 (by decide) ?_
      refine lv_imul hx hb dX4_sevens_12 ?_
      refine lv_topi (fun v13 e13 => ?_)
      replace hf := lb_e hf e13
      refine lv_istore_n (lv' := [(1, .int v13), (0, .int x0), (2, .int x2)]) hx hb dX4_sevens_13 rfl hl (by decide) rfl (fun ls hl => ?_)
      refine lv_iinc (v := (x2 + 1)) (lv' := [(2, .int (x2 + 1)), (1, .int v13), (0, .int x0)]) hx hb dX4_sevens_14 hl (k := 2) rfl rfl (by decide) rfl (fun ls hl => ?_)
      refine lv_goto (tgt := 4) hx hb dX4_sevens_17 (by decide) ?_
      exact ih _ _ _ _ (lv_sub hl [2, 1, 0] rfl) hf
set_option maxHeartbeats 4000000 in
set_option maxRecDepth 100000 in
theorem wm_sevens_0 {p : Program} {l : Launch} {e : Env} {s : State} {m : MethodId} {args : Array Value} {below : List Frame} {meth : Method} {c : Code} (C0 : gC cX4_sevens 3 (some .int) wsX4_sevens RX4 p s m args meth c) {rs : Int32} : ∀ (x0 : Int32) (ls : Array Slot), lv_has ls 3 [(0, .int x0)] → fm_sevens x0 = some rs → W p l e { frames := 0, cells := 0, slots := 0, locals := 0 } s m args below meth c s.heap [] 0 0 (MQ below (qS rs) args s 0 0 (fun _ => False)) (F0 m 0 ls []) := by
  obtain ⟨hx, hb, hr, hml, hown, hts, hlk⟩ := id C0
  intro x0 ls hl hf
  unfold fm_sevens at hf
  refine lv_iconst (v := 1) hx hb dX4_sevens_0 (by decide) ?_
  refine lv_istore_n (lv' := [(1, .int 1), (0, .int x0)]) hx hb dX4_sevens_1 rfl hl (by decide) rfl (fun ls hl => ?_)
  refine lv_iconst (v := 0) hx hb dX4_sevens_2 (by decide) ?_
  refine lv_istore_n (lv' := [(2, .int 0), (1, .int 1), (0, .int x0)]) hx hb dX4_sevens_3 rfl hl (by decide) rfl (fun ls hl => ?_)
  exact wm_sevens_4 C0 _ _ _ _ _ (lv_sub hl [2, 1, 0] rfl) hf
set_option maxHeartbeats 4000000 in
set_option maxRecDepth 100000 in
theorem km_sevens (l : Launch) (x0 : Int32) {rs : Int32} (hf : fm_sevens x0 = some rs) : Met l yX4_sevens wsX4_sevens ({ frames := 0, cells := 0, slots := 0, locals := 0 }) (va_Pc [.int x0] (fun _ => True)) (qS rs) 0 0 (fun _ => False) := by
  refine g_met (cc := cX4_sevens) (nL := 3) (ret := (some .int)) (by decide) rfl (Nat.le_of_ble_eq_true rfl) (fun p e s m below meth c ls C0 _ hl => ?_)
  exact wm_sevens_0 C0 _ ls (lv_sub hl [0] rfl) hf
set_option maxRecDepth 20000 in
theorem ggX4_layFewest_X4_sevens : GoodIn wsX4_layFewest wsX4_sevens := goodIn_r _ [6] (by decide +kernel) (by decide +kernel)
set_option maxRecDepth 20000 in
theorem gX4_layFewest_X4_sevens : GoodIn wsX4_layFewest (va_wsS RX4 141 yX4_sevens wsX4_sevens) := goodIn_app (goodIn_of _ (by decide +kernel)) ggX4_layFewest_X4_sevens
set_option maxRecDepth 20000 in
theorem ggX4_layFewest_X4_rowOf : GoodIn wsX4_layFewest wsX4_rowOf := goodIn_r _ [9] (by decide +kernel) (by decide +kernel)
set_option maxRecDepth 20000 in
theorem gX4_layFewest_X4_rowOf : GoodIn wsX4_layFewest (va_wsS RX4 144 yX4_rowOf wsX4_rowOf) := goodIn_app (goodIn_of _ (by decide +kernel)) ggX4_layFewest_X4_rowOf
set_option maxRecDepth 20000 in
theorem ggX4_layFewest_X4_sayRow : GoodIn wsX4_layFewest wsX4_sayRow := goodIn_r _ [13, 14, 15, 16, 17, 5, 18, 2, 19, 20, 21, 22, 23, 24, 25, 26, 27, 28, 29, 30, 31, 32, 33, 34, 35, 36, 37, 38, 39, 40, 41, 42, 43, 44, 45, 46, 47, 48, 49, 50, 51, 52, 53, 54, 55, 56, 57, 58, 59, 60, 61, 62, 63, 64, 65, 66, 67, 68, 69] (by decide +kernel) (by decide +kernel)
set_option maxRecDepth 20000 in
theorem gX4_layFewest_X4_sayRow : GoodIn wsX4_layFewest (wsV RX4 138 RX4 yX4_sayRow wsX4_sayRow) := goodIn_app (goodIn_of _ (by decide +kernel)) ggX4_layFewest_X4_sayRow
theorem dX4_layFewest_0 : decode cX4_layFewest 0 = .ok (.iconst 0, 1) := by decide +kernel
theorem dX4_layFewest_1 : decode cX4_layFewest 1 = .ok (.istore_n 3, 1) := by decide +kernel
theorem dX4_layFewest_2 : decode cX4_layFewest 2 = .ok (.iload_n 3, 1) := by decide +kernel
theorem dX4_layFewest_3 : decode cX4_layFewest 3 = .ok (.iconst 5, 1) := by decide +kernel
theorem dX4_layFewest_4 : decode cX4_layFewest 4 = .ok (.if_icmp .ge 65, 3) := by decide +kernel
theorem dX4_layFewest_7 : decode cX4_layFewest 7 = .ok (.iconst 0, 1) := by decide +kernel
theorem dX4_layFewest_8 : decode cX4_layFewest 8 = .ok (.istore 4, 2) := by decide +kernel
theorem dX4_layFewest_10 : decode cX4_layFewest 10 = .ok (.iload 4, 2) := by decide +kernel
theorem dX4_layFewest_12 : decode cX4_layFewest 12 = .ok (.iload_n 3, 1) := by decide +kernel
theorem dX4_layFewest_13 : decode cX4_layFewest 13 = .ok (.invokestatic 141, 3) := by decide +kernel
theorem dX4_layFewest_16 : decode cX4_layFewest 16 = .ok (.if_icmp .ge 47, 3) := by decide +kernel
theorem dX4_layFewest_19 : decode cX4_layFewest 19 = .ok (.aload_n 0, 1) := by decide +kernel
theorem dX4_layFewest_20 : decode cX4_layFewest 20 = .ok (.iload 4, 2) := by decide +kernel
theorem dX4_layFewest_22 : decode cX4_layFewest 22 = .ok (.iload_n 3, 1) := by decide +kernel
theorem dX4_layFewest_23 : decode cX4_layFewest 23 = .ok (.invokestatic 144, 3) := by decide +kernel
theorem dX4_layFewest_26 : decode cX4_layFewest 26 = .ok (.putfield 148, 3) := by decide +kernel
theorem dX4_layFewest_29 : decode cX4_layFewest 29 = .ok (.aload_n 0, 1) := by decide +kernel
theorem dX4_layFewest_30 : decode cX4_layFewest 30 = .ok (.iload_n 1, 1) := by decide +kernel
theorem dX4_layFewest_31 : decode cX4_layFewest 31 = .ok (.iload_n 3, 1) := by decide +kernel
theorem dX4_layFewest_32 : decode cX4_layFewest 32 = .ok (.aload_n 0, 1) := by decide +kernel
theorem dX4_layFewest_33 : decode cX4_layFewest 33 = .ok (.getfield 148, 3) := by decide +kernel
theorem dX4_layFewest_36 : decode cX4_layFewest 36 = .ok (.invokevirtual 138, 3) := by decide +kernel
theorem dX4_layFewest_39 : decode cX4_layFewest 39 = .ok (.bipush (-9), 2) := by decide +kernel
theorem dX4_layFewest_41 : decode cX4_layFewest 41 = .ok (.if_icmp .ne 16, 3) := by decide +kernel
theorem dX4_layFewest_44 : decode cX4_layFewest 44 = .ok (.aload_n 0, 1) := by decide +kernel
theorem dX4_layFewest_45 : decode cX4_layFewest 45 = .ok (.getfield 16, 3) := by decide +kernel
theorem dX4_layFewest_48 : decode cX4_layFewest 48 = .ok (.bipush 49, 2) := by decide +kernel
theorem dX4_layFewest_50 : decode cX4_layFewest 50 = .ok (.iaload, 1) := by decide +kernel
theorem dX4_layFewest_51 : decode cX4_layFewest 51 = .ok (.iload_n 2, 1) := by decide +kernel
theorem dX4_layFewest_52 : decode cX4_layFewest 52 = .ok (.if_icmp .ne 5, 3) := by decide +kernel
theorem dX4_layFewest_55 : decode cX4_layFewest 55 = .ok (.iload_n 3, 1) := by decide +kernel
theorem dX4_layFewest_56 : decode cX4_layFewest 56 = .ok (.ireturn, 1) := by decide +kernel
theorem dX4_layFewest_57 : decode cX4_layFewest 57 = .ok (.iinc 4 1, 3) := by decide +kernel
theorem dX4_layFewest_60 : decode cX4_layFewest 60 = .ok (.goto (-50), 3) := by decide +kernel
theorem dX4_layFewest_63 : decode cX4_layFewest 63 = .ok (.iinc 3 1, 3) := by decide +kernel
theorem dX4_layFewest_66 : decode cX4_layFewest 66 = .ok (.goto (-64), 3) := by decide +kernel
theorem dX4_layFewest_69 : decode cX4_layFewest 69 = .ok (.aload_n 0, 1) := by decide +kernel
theorem dX4_layFewest_70 : decode cX4_layFewest 70 = .ok (.bipush (-9), 2) := by decide +kernel
theorem dX4_layFewest_72 : decode cX4_layFewest 72 = .ok (.putfield 148, 3) := by decide +kernel
theorem dX4_layFewest_75 : decode cX4_layFewest 75 = .ok (.bipush (-9), 2) := by decide +kernel
theorem dX4_layFewest_77 : decode cX4_layFewest 77 = .ok (.ireturn, 1) := by decide +kernel
set_option maxRecDepth 20000 in
theorem hiX4_layFewest_X4 : ∀ w ∈ u_ws RX4 TX4 24, w ∈ wsX4_layFewest := by decide +kernel
set_option maxHeartbeats 4000000 in
set_option maxRecDepth 100000 in
theorem wm_layFewest_57 {p : Program} {l : Launch} {e : Env} {s : State} {m : MethodId} {args : Array Value} {below : List Frame} {meth : Method} {c : Code} {D : va_G} {L : Nat → Nat} {K : Nat → ClassId} (hJ : gj L 12) (C0 : gC cX4_layFewest 5 (some .int) wsX4_layFewest RX4 p s m args meth c) (hK : va_K D vwCl (tyG K) s) (hE : eM s) {w9 : St} {rs : Int32} (k2 : Int32 → Int32 → Int32 → St → Option (Int32 × St)) (i2 : ∀ (x1 : Int32) (x2 : Int32) (x3 : Int32) (w : St) (H : Heap) (locs : List Loc) (ls : Array Slot), va_P D vwCl (gl L 12 (cM L K w)) H → va_S (gA L 12) s.heap H locs → lv_has ls 5 [(0, .ref (L 0)), (1, .int x1), (2, .int x2), (3, .int x3)] → k2 x1 x2 x3 w = some (rs, w9) → W p l e { frames := 4, cells := 0, slots := 0, locals := 92 } s m args below meth c H locs 0 0 (MQ below (qI D L 12 (cM L K) rs w9) args s 0 0 (gA L 12)) (F0 m 2 ls [])) (k10 : Int32 → Int32 → Int32 → Int32 → St → Option (Int32 × St)) (i10 : ∀ (x1 : Int32) (x2 : Int32) (x3 : Int32) (x4 : Int32) (w : St) (H : Heap) (locs : List Loc) (ls : Array Slot), va_P D vwCl (gl L 12 (cM L K w)) H → va_S (gA L 12) s.heap H locs → lv_has ls 5 [(0, .ref (L 0)), (1, .int x1), (2, .int x2), (3, .int x3), (4, .int x4)] → k10 x1 x2 x3 x4 w = some (rs, w9) → W p l e { frames := 4, cells := 0, slots := 0, locals := 92 } s m args below meth c H locs 0 0 (MQ below (qI D L 12 (cM L K) rs w9) args s 0 0 (gA L 12)) (F0 m 10 ls [])) : ∀ (x1 : Int32) (x2 : Int32) (x3 : Int32) (x4 : Int32) (w : St) (H : Heap) (locs : List Loc) (ls : Array Slot), va_P D vwCl (gl L 12 (cM L K w)) H → va_S (gA L 12) s.heap H locs → lv_has ls 5 [(0, .ref (L 0)), (1, .int x1), (2, .int x2), (3, .int x3), (4, .int x4)] → fm_layFewest_57 k2 k10 x1 x2 x3 x4 w = some (rs, w9) → W p l e { frames := 4, cells := 0, slots := 0, locals := 92 } s m args below meth c H locs 0 0 (MQ below (qI D L 12 (cM L K) rs w9) args s 0 0 (gA L 12)) (F0 m 57 ls []) := by
  obtain ⟨hx, hb, hr, hml, hown, hts, hlk⟩ := id C0
  intro x1 x2 x3 x4 w H locs ls hw hS hl hf
  unfold fm_layFewest_57 at hf
  refine lv_iinc (v := (x4 + 1)) (lv' := [(4, .int (x4 + 1)), (0, .ref (L 0)), (1, .int x1), (2, .int x2), (3, .int x3)]) hx hb dX4_layFewest_57 hl (k := 4) rfl rfl (by decide) rfl (fun ls hl => ?_)
  refine lv_goto (tgt := 10) hx hb dX4_layFewest_60 (by decide) ?_
  exact i10 _ _ _ _ _ _ _ _ hw hS (lv_sub hl [1, 2, 3, 4, 0] rfl) hf
set_option maxHeartbeats 4000000 in
set_option maxRecDepth 100000 in
theorem wm_layFewest_10 {p : Program} {l : Launch} {e : Env} {s : State} {m : MethodId} {args : Array Value} {below : List Frame} {meth : Method} {c : Code} {D : va_G} {L : Nat → Nat} {K : Nat → ClassId} (hJ : gj L 12) (C0 : gC cX4_layFewest 5 (some .int) wsX4_layFewest RX4 p s m args meth c) (hK : va_K D vwCl (tyG K) s) (hE : eM s) {w9 : St} {rs : Int32} (k2 : Int32 → Int32 → Int32 → St → Option (Int32 × St)) (i2 : ∀ (x1 : Int32) (x2 : Int32) (x3 : Int32) (w : St) (H : Heap) (locs : List Loc) (ls : Array Slot), va_P D vwCl (gl L 12 (cM L K w)) H → va_S (gA L 12) s.heap H locs → lv_has ls 5 [(0, .ref (L 0)), (1, .int x1), (2, .int x2), (3, .int x3)] → k2 x1 x2 x3 w = some (rs, w9) → W p l e { frames := 4, cells := 0, slots := 0, locals := 92 } s m args below meth c H locs 0 0 (MQ below (qI D L 12 (cM L K) rs w9) args s 0 0 (gA L 12)) (F0 m 2 ls [])) : ∀ (fu : Nat) (x1 : Int32) (x2 : Int32) (x3 : Int32) (x4 : Int32) (w : St) (H : Heap) (locs : List Loc) (ls : Array Slot), va_P D vwCl (gl L 12 (cM L K w)) H → va_S (gA L 12) s.heap H locs → lv_has ls 5 [(0, .ref (L 0)), (1, .int x1), (2, .int x2), (3, .int x3), (4, .int x4)] → fm_layFewest_10 k2 fu x1 x2 x3 x4 w = some (rs, w9) → W p l e { frames := 4, cells := 0, slots := 0, locals := 92 } s m args below meth c H locs 0 0 (MQ below (qI D L 12 (cM L K) rs w9) args s 0 0 (gA L 12)) (F0 m 10 ls []) := by
  obtain ⟨hx, hb, hr, hml, hown, hts, hlk⟩ := id C0
  intro fu
  induction fu with
  | zero =>
    intro x1 x2 x3 x4 w H locs ls hw hS hl hf
    rw [fm_layFewest_10] at hf
    exact no_n hf
  | succ fu ih =>
    intro x1 x2 x3 x4 w H locs ls hw hS hl hf
    rw [fm_layFewest_10] at hf
    refine lv_iload hx hb dX4_layFewest_10 (lv_at hl 4 rfl) ?_
    refine lv_iload_n hx hb dX4_layFewest_12 rfl (lv_at hl 3 rfl) ?_
    obtain ⟨v13, h13, hf⟩ := bd_e hf
    refine z_calls (va_runS (As := [.int x3]) (rest := [.int x4]) ⟨hx, hb, hml, hown, hts⟩ (km_sevens l x3 h13) (va_cwS 1 hts gX4_layFewest_X4_sevens rfl rfl rfl (by decide +kernel) ⟨Nat.le_of_ble_eq_true rfl, Nat.le_of_ble_eq_true rfl⟩) z_preT rfl rfl hl.1 rfl (lv_room (Nat.le_of_ble_eq_true rfl)) dX4_layFewest_13 ⟨Nat.le_of_ble_eq_true rfl, Nat.le_of_ble_eq_true rfl⟩) ?_
    refine lv_icmp_ge (tgt := 63) hx hb dX4_layFewest_16 (by decide) (fun c16 => ?_) (fun c16 => ?_)
    · replace hf := if_t hf c16
      refine lv_iinc (v := (x3 + 1)) (lv' := [(3, .int (x3 + 1)), (0, .ref (L 0)), (1, .int x1), (2, .int x2), (4, .int x4)]) hx hb dX4_layFewest_63 hl (k := 3) rfl rfl (by decide) rfl (fun ls hl => ?_)
      refine lv_goto (tgt := 2) hx hb dX4_layFewest_66 (by decide) ?_
      exact i2 _ _ _ _ _ _ _ hw hS (lv_sub hl [1, 2, 3, 0] rfl) hf
    · replace hf := if_f hf c16
      refine lv_aload_n hx hb dX4_layFewest_19 rfl (lv_at hl 0 rfl) ?_
      refine lv_iload hx hb dX4_layFewest_20 (lv_at hl 4 rfl) ?_
      refine lv_iload_n hx hb dX4_layFewest_22 rfl (lv_at hl 3 rfl) ?_
      obtain ⟨v23, h23, hf⟩ := bd_e hf
      refine z_calls (va_runS (As := [.int x4, .int x3]) (rest := [.ref (L 0)]) ⟨hx, hb, hml, hown, hts⟩ (km_rowOf l x4 x3 h23) (va_cwS 2 hts gX4_layFewest_X4_rowOf rfl rfl rfl (by decide +kernel) ⟨Nat.le_of_ble_eq_true rfl, Nat.le_of_ble_eq_true rfl⟩) z_preT rfl rfl hl.1 rfl (lv_room (Nat.le_of_ble_eq_true rfl)) dX4_layFewest_23 ⟨Nat.le_of_ble_eq_true rfl, Nat.le_of_ble_eq_true rfl⟩) ?_
      refine z_puti hx hb hts hiX4_layFewest_X4 tyX4 tyX4_ok nmX4 hown hK hJ hw hS (k := 0) (by decide) cM_ne (fs := fM0 L) (fun w => rfl) rfl 17 (by decide) (hts (.fieldLink RX4 148 "OneSentenceModel" "fewRow" "I") (by decide +kernel)) rfl rfl (fun _ _ => ⟨Nat.le_of_ble_eq_true rfl, rfl⟩) dX4_layFewest_26 (fun H locs hw hS => ?_)
      refine lv_aload_n hx hb dX4_layFewest_29 rfl (lv_at hl 0 rfl) ?_
      refine lv_iload_n hx hb dX4_layFewest_30 rfl (lv_at hl 1 rfl) ?_
      refine lv_iload_n hx hb dX4_layFewest_31 rfl (lv_at hl 3 rfl) ?_
      refine lv_aload_n hx hb dX4_layFewest_32 rfl (lv_at hl 0 rfl) ?_
      refine z_get (v := .int ((wr w 0 17 v23).1 0 17)) hx hb hts hiX4_layFewest_X4 hown hK hw (k := 0) (by decide) ((fun w => rfl) _) rfl 17 (by decide) (hts (.fieldLink RX4 148 "OneSentenceModel" "fewRow" "I") (by decide +kernel)) rfl dX4_layFewest_33 ?_
      obtain ⟨q36, h36, hf⟩ := bd_e hf
      refine z_calli (va_runV (As := [.int x1, .int x3, .int ((wr w 0 17 v23).1 0 17)]) (rest := []) ⟨hx, hb, hml, hown, hts⟩ (km_sayRow l (D := D) (K := K) hJ x1 x3 ((wr w 0 17 v23).1 0 17) (wr w 0 17 v23)  h36) (cwV 3 hts gX4_layFewest_X4_sayRow rfl rfl rfl (by decide +kernel) ⟨Nat.le_of_ble_eq_true rfl, Nat.le_of_ble_eq_true rfl⟩) (z_preV eM_ok hK hE hw hS (by decide) ((fun w => rfl) _) (T := TX4) (M := 24) rfl) rfl rfl hl.1 rfl (lv_room (Nat.le_of_ble_eq_true rfl)) dX4_layFewest_36 ⟨Nat.le_of_ble_eq_true rfl, Nat.le_of_ble_eq_true rfl⟩) hS (fun H locs hw hS => ?_)
      refine lv_bipush (v := (-9)) hx hb dX4_layFewest_39 (by decide) ?_
      refine lv_icmp_ne (tgt := 57) hx hb dX4_layFewest_41 (by decide) (fun c41 => ?_) (fun c41 => ?_)
      · replace hf := if_f hf c41
        exact wm_layFewest_57 hJ C0 hK hE _ i2 _ ih _ _ _ _ _ _ _ _ hw hS (lv_sub hl [0, 1, 2, 3, 4] rfl) hf
      · replace hf := if_t hf c41
        refine lv_aload_n hx hb dX4_layFewest_44 rfl (lv_at hl 0 rfl) ?_
        refine z_get (v := .ref (L 3)) hx hb hts hiX4_layFewest_X4 hown hK hw (k := 0) (by decide) ((fun w => rfl) _) rfl 4 (by decide) (hts (.fieldLink RX4 16 "OneSentenceModel" "now" "[I") (by decide +kernel)) rfl dX4_layFewest_45 ?_
        refine lv_bipush (v := 49) hx hb dX4_layFewest_48 (by decide) ?_
        obtain ⟨v50, h50, hf⟩ := bd_e hf
        refine z_iald hx hb hK hw 0 (k := 3) (by decide) ((fun w => rfl) _) rfl h50 dX4_layFewest_50 ?_
        refine lv_iload_n hx hb dX4_layFewest_51 rfl (lv_at hl 2 rfl) ?_
        refine lv_icmp_ne (tgt := 57) hx hb dX4_layFewest_52 (by decide) (fun c52 => ?_) (fun c52 => ?_)
        · replace hf := if_f hf c52
          exact wm_layFewest_57 hJ C0 hK hE _ i2 _ ih _ _ _ _ _ _ _ _ hw hS (lv_sub hl [0, 1, 2, 3, 4] rfl) hf
        · replace hf := if_t hf c52
          refine lv_iload_n hx hb dX4_layFewest_55 rfl (lv_at hl 3 rfl) ?_
          exact z_iret hx hb hr hlk hw hS hf dX4_layFewest_56
set_option maxHeartbeats 4000000 in
set_option maxRecDepth 100000 in
theorem wm_layFewest_2 {p : Program} {l : Launch} {e : Env} {s : State} {m : MethodId} {args : Array Value} {below : List Frame} {meth : Method} {c : Code} {D : va_G} {L : Nat → Nat} {K : Nat → ClassId} (hJ : gj L 12) (C0 : gC cX4_layFewest 5 (some .int) wsX4_layFewest RX4 p s m args meth c) (hK : va_K D vwCl (tyG K) s) (hE : eM s) {w9 : St} {rs : Int32} : ∀ (fu : Nat) (x1 : Int32) (x2 : Int32) (x3 : Int32) (w : St) (H : Heap) (locs : List Loc) (ls : Array Slot), va_P D vwCl (gl L 12 (cM L K w)) H → va_S (gA L 12) s.heap H locs → lv_has ls 5 [(0, .ref (L 0)), (1, .int x1), (2, .int x2), (3, .int x3)] → fm_layFewest_2 fu x1 x2 x3 w = some (rs, w9) → W p l e { frames := 4, cells := 0, slots := 0, locals := 92 } s m args below meth c H locs 0 0 (MQ below (qI D L 12 (cM L K) rs w9) args s 0 0 (gA L 12)) (F0 m 2 ls []) := by
  obtain ⟨hx, hb, hr, hml, hown, hts, hlk⟩ := id C0
  intro fu
  induction fu with
  | zero =>
    intro x1 x2 x3 w H locs ls hw hS hl hf
    rw [fm_layFewest_2] at hf
    exact no_n hf
  | succ fu ih =>
    intro x1 x2 x3 w H locs ls hw hS hl hf
    rw [fm_layFewest_2] at hf
    refine lv_iload_n hx hb dX4_layFewest_2 rfl (lv_at hl 3 rfl) ?_
    refine lv_iconst (v := 5) hx hb dX4_layFewest_3 (by decide) ?_
    refine lv_icmp_ge (tgt := 69) hx hb dX4_layFewest_4 (by decide) (fun c4 => ?_) (fun c4 => ?_)
    · replace hf := if_t hf c4
      refine lv_aload_n hx hb dX4_layFewest_69 rfl (lv_at hl 0 rfl) ?_
      refine lv_bipush (v := (-9)) hx hb dX4_layFewest_70 (by decide) ?_
      refine z_puti hx hb hts hiX4_layFewest_X4 tyX4 tyX4_ok nmX4 hown hK hJ hw hS (k := 0) (by decide) cM_ne (fs := fM0 L) (fun w => rfl) rfl 17 (by decide) (hts (.fieldLink RX4 148 "OneSentenceModel" "fewRow" "I") (by decide +kernel)) rfl rfl (fun _ _ => ⟨Nat.le_of_ble_eq_true rfl, rfl⟩) dX4_layFewest_72 (fun H locs hw hS => ?_)
      refine lv_bipush (v := (-9)) hx hb dX4_layFewest_75 (by decide) ?_
      exact z_iret hx hb hr hlk hw hS hf dX4_layFewest_77
    · replace hf := if_f hf c4
      refine lv_iconst (v := 0) hx hb dX4_layFewest_7 (by decide) ?_
      refine lv_istore (lv' := [(4, .int 0), (0, .ref (L 0)), (1, .int x1), (2, .int x2), (3, .int x3)]) hx hb dX4_layFewest_8 hl (by decide) rfl (fun ls hl => ?_)
      exact wm_layFewest_10 hJ C0 hK hE _ ih _ _ _ _ _ _ _ _ _ hw hS (lv_sub hl [1, 2, 3, 4, 0] rfl) hf
set_option maxHeartbeats 4000000 in
set_option maxRecDepth 100000 in
theorem wm_layFewest_0 {p : Program} {l : Launch} {e : Env} {s : State} {m : MethodId} {args : Array Value} {below : List Frame} {meth : Method} {c : Code} {D : va_G} {L : Nat → Nat} {K : Nat → ClassId} (hJ : gj L 12) (C0 : gC cX4_layFewest 5 (some .int) wsX4_layFewest RX4 p s m args meth c) (hK : va_K D vwCl (tyG K) s) (hE : eM s) {w9 : St} {rs : Int32} : ∀ (x1 : Int32) (x2 : Int32) (w : St) (H : Heap) (locs : List Loc) (ls : Array Slot), va_P D vwCl (gl L 12 (cM L K w)) H → va_S (gA L 12) s.heap H locs → lv_has ls 5 [(0, .ref (L 0)), (1, .int x1), (2, .int x2)] → fm_layFewest x1 x2 w = some (rs, w9) → W p l e { frames := 4, cells := 0, slots := 0, locals := 92 } s m args below meth c H locs 0 0 (MQ below (qI D L 12 (cM L K) rs w9) args s 0 0 (gA L 12)) (F0 m 0 ls []) := by
  obtain ⟨hx, hb, hr, hml, hown, hts, hlk⟩ := id C0
  intro x1 x2 w H locs ls hw hS hl hf
  unfold fm_layFewest at hf
  refine lv_iconst (v := 0) hx hb dX4_layFewest_0 (by decide) ?_
  refine lv_istore_n (lv' := [(3, .int 0), (0, .ref (L 0)), (1, .int x1), (2, .int x2)]) hx hb dX4_layFewest_1 rfl hl (by decide) rfl (fun ls hl => ?_)
  exact wm_layFewest_2 hJ C0 hK hE _ _ _ _ _ _ _ _ hw hS (lv_sub hl [1, 2, 3, 0] rfl) hf
set_option maxHeartbeats 4000000 in
set_option maxRecDepth 100000 in
theorem km_layFewest (l : Launch) {D : va_G} {L : Nat → Nat} {K : Nat → ClassId} (hJ : gj L 12) (x1 : Int32) (x2 : Int32) (w : St) {w9 : St} {rs : Int32} (hf : fm_layFewest x1 x2 w = some (rs, w9)) : Met l yX4_layFewest wsX4_layFewest ({ frames := 4, cells := 0, slots := 0, locals := 92 }) (va_Pc [.ref (L 0), .int x1, .int x2] (mP D L K w)) (qI D L 12 (cM L K) rs w9) 0 0 (gA L 12) := by
  refine g_met (cc := cX4_layFewest) (nL := 5) (ret := (some .int)) (by decide) rfl (Nat.le_of_ble_eq_true rfl) (fun p e s m below meth c ls C0 hP hl => ?_)
  exact wm_layFewest_0 hJ C0 hP.2.1 hP.2.2 _ _ w _ _ ls hP.1 va_S.rf (lv_sub hl [0, 1, 2] rfl) hf
set_option maxRecDepth 20000 in
theorem ggX4_fewest_X4_in : GoodIn wsX4_fewest wsX4_in := goodIn_r _ [7] (by decide +kernel) (by decide +kernel)
set_option maxRecDepth 20000 in
theorem gX4_fewest_X4_in : GoodIn wsX4_fewest (va_wsS RX4 46 yX4_in wsX4_in) := goodIn_app (goodIn_of _ (by decide +kernel)) ggX4_fewest_X4_in
set_option maxRecDepth 20000 in
theorem ggX4_fewest_X4_layFewest : GoodIn wsX4_fewest wsX4_layFewest := goodIn_r _ [11, 3, 2, 12, 13, 6, 14, 15, 16, 17, 18, 19, 20, 21, 22, 23, 24, 25, 26, 27, 28, 29, 30, 31, 4, 5, 7, 32, 33, 34, 35, 36, 37, 38, 39, 40, 41, 42, 43, 44, 45, 46, 47, 48, 49, 50, 51, 52, 53, 54, 55, 56, 57, 58, 59, 60, 61, 62, 63, 64, 65, 66, 67, 68, 69, 70, 71, 72, 73, 74] (by decide +kernel) (by decide +kernel)
set_option maxRecDepth 20000 in
theorem gX4_fewest_X4_layFewest : GoodIn wsX4_fewest (wsV RX4 151 RX4 yX4_layFewest wsX4_layFewest) := goodIn_app (goodIn_of _ (by decide +kernel)) ggX4_fewest_X4_layFewest
theorem dX4_fewest_0 : decode cX4_fewest 0 = .ok (.iload_n 1, 1) := by decide +kernel
theorem dX4_fewest_1 : decode cX4_fewest 1 = .ok (.i2l, 1) := by decide +kernel
theorem dX4_fewest_2 : decode cX4_fewest 2 = .ok (.lconst 0, 1) := by decide +kernel
theorem dX4_fewest_3 : decode cX4_fewest 3 = .ok (.ldc2_w 119, 3) := by decide +kernel
theorem dX4_fewest_6 : decode cX4_fewest 6 = .ok (.invokestatic 46, 3) := by decide +kernel
theorem dX4_fewest_9 : decode cX4_fewest 9 = .ok (.ifCond .ne 6, 3) := by decide +kernel
theorem dX4_fewest_12 : decode cX4_fewest 12 = .ok (.bipush (-2), 2) := by decide +kernel
theorem dX4_fewest_14 : decode cX4_fewest 14 = .ok (.ireturn, 1) := by decide +kernel
theorem dX4_fewest_15 : decode cX4_fewest 15 = .ok (.aload_n 0, 1) := by decide +kernel
theorem dX4_fewest_16 : decode cX4_fewest 16 = .ok (.aload_n 0, 1) := by decide +kernel
theorem dX4_fewest_17 : decode cX4_fewest 17 = .ok (.getfield 16, 3) := by decide +kernel
theorem dX4_fewest_20 : decode cX4_fewest 20 = .ok (.iconst 0, 1) := by decide +kernel
theorem dX4_fewest_21 : decode cX4_fewest 21 = .ok (.iaload, 1) := by decide +kernel
theorem dX4_fewest_22 : decode cX4_fewest 22 = .ok (.iload_n 1, 1) := by decide +kernel
theorem dX4_fewest_23 : decode cX4_fewest 23 = .ok (.invokevirtual 151, 3) := by decide +kernel
theorem dX4_fewest_26 : decode cX4_fewest 26 = .ok (.istore_n 3, 1) := by decide +kernel
theorem dX4_fewest_27 : decode cX4_fewest 27 = .ok (.iload_n 2, 1) := by decide +kernel
theorem dX4_fewest_28 : decode cX4_fewest 28 = .ok (.ifCond .eq 10, 3) := by decide +kernel
theorem dX4_fewest_31 : decode cX4_fewest 31 = .ok (.aload_n 0, 1) := by decide +kernel
theorem dX4_fewest_32 : decode cX4_fewest 32 = .ok (.getfield 148, 3) := by decide +kernel
theorem dX4_fewest_35 : decode cX4_fewest 35 = .ok (.goto 4, 3) := by decide +kernel
theorem dX4_fewest_38 : decode cX4_fewest 38 = .ok (.iload_n 3, 1) := by decide +kernel
theorem dX4_fewest_39 : decode cX4_fewest 39 = .ok (.ireturn, 1) := by decide +kernel
set_option maxRecDepth 20000 in
theorem hiX4_fewest_X4 : ∀ w ∈ u_ws RX4 TX4 24, w ∈ wsX4_fewest := by decide +kernel
set_option maxHeartbeats 4000000 in
set_option maxRecDepth 100000 in
theorem wm_fewest_0 {p : Program} {l : Launch} {e : Env} {s : State} {m : MethodId} {args : Array Value} {below : List Frame} {meth : Method} {c : Code} {D : va_G} {L : Nat → Nat} {K : Nat → ClassId} (hJ : gj L 12) (C0 : gC cX4_fewest 4 (some .int) wsX4_fewest RX4 p s m args meth c) (hK : va_K D vwCl (tyG K) s) (hE : eM s) {w9 : St} {rs : Int32} : ∀ (x1 : Int32) (x2 : Int32) (w : St) (H : Heap) (locs : List Loc) (ls : Array Slot), va_P D vwCl (gl L 12 (cM L K w)) H → va_S (gA L 12) s.heap H locs → lv_has ls 4 [(0, .ref (L 0)), (1, .int x1), (2, .int x2)] → fm_fewest x1 x2 w = some (rs, w9) → W p l e { frames := 5, cells := 0, slots := 0, locals := 116 } s m args below meth c H locs 0 0 (MQ below (qI D L 12 (cM L K) rs w9) args s 0 0 (gA L 12)) (F0 m 0 ls []) := by
  obtain ⟨hx, hb, hr, hml, hown, hts, hlk⟩ := id C0
  intro x1 x2 w H locs ls hw hS hl hf
  unfold fm_fewest at hf
  refine lv_iload_n hx hb dX4_fewest_0 rfl (lv_at hl 1 rfl) ?_
  refine lv_i2l (v := x1.toInt64) hx hb dX4_fewest_1 rfl ?_
  refine lv_lconst (v := 0) hx hb dX4_fewest_2 (by decide) ?_
  refine lv_ldc2 (v := 9) hx hb hown (hts (.constantLong RX4 119 9) (by decide +kernel)) dX4_fewest_3 ?_
  obtain ⟨v6, h6, hf⟩ := bd_e hf
  refine z_calls (va_runS (As := [.long (x1.toInt64), .long 0, .long 9]) (rest := []) ⟨hx, hb, hml, hown, hts⟩ (km_in l (x1.toInt64) 0 9 h6) (va_cwS 3 hts gX4_fewest_X4_in rfl rfl rfl (by decide +kernel) ⟨Nat.le_of_ble_eq_true rfl, Nat.le_of_ble_eq_true rfl⟩) z_preT rfl rfl hl.1 rfl (lv_room (Nat.le_of_ble_eq_true rfl)) dX4_fewest_6 ⟨Nat.le_of_ble_eq_true rfl, Nat.le_of_ble_eq_true rfl⟩) ?_
  refine lv_if_ne (tgt := 15) hx hb dX4_fewest_9 (by decide) (fun c9 => ?_) (fun c9 => ?_)
  · replace hf := if_f hf c9
    refine lv_aload_n hx hb dX4_fewest_15 rfl (lv_at hl 0 rfl) ?_
    refine lv_aload_n hx hb dX4_fewest_16 rfl (lv_at hl 0 rfl) ?_
    refine z_get (v := .ref (L 3)) hx hb hts hiX4_fewest_X4 hown hK hw (k := 0) (by decide) ((fun w => rfl) _) rfl 4 (by decide) (hts (.fieldLink RX4 16 "OneSentenceModel" "now" "[I") (by decide +kernel)) rfl dX4_fewest_17 ?_
    refine lv_iconst (v := 0) hx hb dX4_fewest_20 (by decide) ?_
    obtain ⟨v21, h21, hf⟩ := bd_e hf
    refine z_iald hx hb hK hw 0 (k := 3) (by decide) ((fun w => rfl) _) rfl h21 dX4_fewest_21 ?_
    refine lv_iload_n hx hb dX4_fewest_22 rfl (lv_at hl 1 rfl) ?_
    obtain ⟨q23, h23, hf⟩ := bd_e hf
    refine z_calli (va_runV (As := [.int v21, .int x1]) (rest := []) ⟨hx, hb, hml, hown, hts⟩ (km_layFewest l (D := D) (K := K) hJ v21 x1 w  h23) (cwV 2 hts gX4_fewest_X4_layFewest rfl rfl rfl (by decide +kernel) ⟨Nat.le_of_ble_eq_true rfl, Nat.le_of_ble_eq_true rfl⟩) (z_preV eM_ok hK hE hw hS (by decide) ((fun w => rfl) _) (T := TX4) (M := 24) rfl) rfl rfl hl.1 rfl (lv_room (Nat.le_of_ble_eq_true rfl)) dX4_fewest_23 ⟨Nat.le_of_ble_eq_true rfl, Nat.le_of_ble_eq_true rfl⟩) hS (fun H locs hw hS => ?_)
    refine lv_topi (fun v26 e26 => ?_)
    replace hf := lb_e hf e26
    refine lv_istore_n (lv' := [(3, .int v26), (0, .ref (L 0)), (1, .int x1), (2, .int x2)]) hx hb dX4_fewest_26 rfl hl (by decide) rfl (fun ls hl => ?_)
    refine lv_iload_n hx hb dX4_fewest_27 rfl (lv_at hl 3 rfl) ?_
    refine lv_if_eq (tgt := 38) hx hb dX4_fewest_28 (by decide) (fun c28 => ?_) (fun c28 => ?_)
    · replace hf := if_t hf c28
      refine lv_iload_n hx hb dX4_fewest_38 rfl (lv_at hl 0 rfl) ?_
      exact z_iret hx hb hr hlk hw hS hf dX4_fewest_39
    · replace hf := if_f hf c28
      refine lv_aload_n hx hb dX4_fewest_31 rfl (lv_at hl 1 rfl) ?_
      refine z_get (v := .int ((q23.2).1 0 17)) hx hb hts hiX4_fewest_X4 hown hK hw (k := 0) (by decide) ((fun w => rfl) _) rfl 17 (by decide) (hts (.fieldLink RX4 148 "OneSentenceModel" "fewRow" "I") (by decide +kernel)) rfl dX4_fewest_32 ?_
      refine lv_goto (tgt := 39) hx hb dX4_fewest_35 (by decide) ?_
      exact z_iret hx hb hr hlk hw hS hf dX4_fewest_39
  · replace hf := if_t hf c9
    refine lv_bipush (v := (-2)) hx hb dX4_fewest_12 (by decide) ?_
    exact z_iret hx hb hr hlk hw hS hf dX4_fewest_14
set_option maxHeartbeats 4000000 in
set_option maxRecDepth 100000 in
theorem km_fewest (l : Launch) {D : va_G} {L : Nat → Nat} {K : Nat → ClassId} (hJ : gj L 12) (x1 : Int32) (x2 : Int32) (w : St) {w9 : St} {rs : Int32} (hf : fm_fewest x1 x2 w = some (rs, w9)) : Met l yX4_fewest wsX4_fewest ({ frames := 5, cells := 0, slots := 0, locals := 116 }) (va_Pc [.ref (L 0), .int x1, .int x2] (mP D L K w)) (qI D L 12 (cM L K) rs w9) 0 0 (gA L 12) := by
  refine g_met (cc := cX4_fewest) (nL := 4) (ret := (some .int)) (by decide) rfl (Nat.le_of_ble_eq_true rfl) (fun p e s m below meth c ls C0 hP hl => ?_)
  exact wm_fewest_0 hJ C0 hP.2.1 hP.2.2 _ _ w _ _ ls hP.1 va_S.rf (lv_sub hl [0, 1, 2] rfl) hf
set_option maxRecDepth 20000 in
theorem ggX4_canBy_X4_sevens : GoodIn wsX4_canBy wsX4_sevens := goodIn_r _ [5] (by decide +kernel) (by decide +kernel)
set_option maxRecDepth 20000 in
theorem gX4_canBy_X4_sevens : GoodIn wsX4_canBy (va_wsS RX4 141 yX4_sevens wsX4_sevens) := goodIn_app (goodIn_of _ (by decide +kernel)) ggX4_canBy_X4_sevens
set_option maxRecDepth 20000 in
theorem ggX4_canBy_X4_rowOf : GoodIn wsX4_canBy wsX4_rowOf := goodIn_r _ [8] (by decide +kernel) (by decide +kernel)
set_option maxRecDepth 20000 in
theorem gX4_canBy_X4_rowOf : GoodIn wsX4_canBy (va_wsS RX4 144 yX4_rowOf wsX4_rowOf) := goodIn_app (goodIn_of _ (by decide +kernel)) ggX4_canBy_X4_rowOf
set_option maxRecDepth 20000 in
theorem ggX4_canBy_X4_sayRow : GoodIn wsX4_canBy wsX4_sayRow := goodIn_r _ [12, 13, 14, 15, 16, 4, 17, 1, 18, 19, 20, 21, 22, 23, 24, 25, 26, 27, 28, 29, 30, 31, 32, 33, 34, 35, 36, 37, 38, 39, 40, 41, 42, 43, 44, 45, 46, 47, 48, 49, 50, 51, 52, 53, 54, 55, 56, 57, 58, 59, 60, 61, 62, 63, 64, 65, 66, 67, 68] (by decide +kernel) (by decide +kernel)
set_option maxRecDepth 20000 in
theorem gX4_canBy_X4_sayRow : GoodIn wsX4_canBy (wsV RX4 138 RX4 yX4_sayRow wsX4_sayRow) := goodIn_app (goodIn_of _ (by decide +kernel)) ggX4_canBy_X4_sayRow
theorem dX4_canBy_0 : decode cX4_canBy 0 = .ok (.iconst 0, 1) := by decide +kernel
theorem dX4_canBy_1 : decode cX4_canBy 1 = .ok (.istore_n 3, 1) := by decide +kernel
theorem dX4_canBy_2 : decode cX4_canBy 2 = .ok (.iconst 0, 1) := by decide +kernel
theorem dX4_canBy_3 : decode cX4_canBy 3 = .ok (.istore 4, 2) := by decide +kernel
theorem dX4_canBy_5 : decode cX4_canBy 5 = .ok (.iload 4, 2) := by decide +kernel
theorem dX4_canBy_7 : decode cX4_canBy 7 = .ok (.iload_n 2, 1) := by decide +kernel
theorem dX4_canBy_8 : decode cX4_canBy 8 = .ok (.if_icmp .gt 63, 3) := by decide +kernel
theorem dX4_canBy_11 : decode cX4_canBy 11 = .ok (.iconst 0, 1) := by decide +kernel
theorem dX4_canBy_12 : decode cX4_canBy 12 = .ok (.istore 5, 2) := by decide +kernel
theorem dX4_canBy_14 : decode cX4_canBy 14 = .ok (.iload 5, 2) := by decide +kernel
theorem dX4_canBy_16 : decode cX4_canBy 16 = .ok (.iload 4, 2) := by decide +kernel
theorem dX4_canBy_18 : decode cX4_canBy 18 = .ok (.invokestatic 141, 3) := by decide +kernel
theorem dX4_canBy_21 : decode cX4_canBy 21 = .ok (.if_icmp .ge 44, 3) := by decide +kernel
theorem dX4_canBy_24 : decode cX4_canBy 24 = .ok (.iload_n 3, 1) := by decide +kernel
theorem dX4_canBy_25 : decode cX4_canBy 25 = .ok (.aload_n 0, 1) := by decide +kernel
theorem dX4_canBy_26 : decode cX4_canBy 26 = .ok (.iload_n 1, 1) := by decide +kernel
theorem dX4_canBy_27 : decode cX4_canBy 27 = .ok (.iload 4, 2) := by decide +kernel
theorem dX4_canBy_29 : decode cX4_canBy 29 = .ok (.iload 5, 2) := by decide +kernel
theorem dX4_canBy_31 : decode cX4_canBy 31 = .ok (.iload 4, 2) := by decide +kernel
theorem dX4_canBy_33 : decode cX4_canBy 33 = .ok (.invokestatic 144, 3) := by decide +kernel
theorem dX4_canBy_36 : decode cX4_canBy 36 = .ok (.invokevirtual 138, 3) := by decide +kernel
theorem dX4_canBy_39 : decode cX4_canBy 39 = .ok (.bipush (-9), 2) := by decide +kernel
theorem dX4_canBy_41 : decode cX4_canBy 41 = .ok (.if_icmp .ne 15, 3) := by decide +kernel
theorem dX4_canBy_44 : decode cX4_canBy 44 = .ok (.iconst 1, 1) := by decide +kernel
theorem dX4_canBy_45 : decode cX4_canBy 45 = .ok (.aload_n 0, 1) := by decide +kernel
theorem dX4_canBy_46 : decode cX4_canBy 46 = .ok (.getfield 16, 3) := by decide +kernel
theorem dX4_canBy_49 : decode cX4_canBy 49 = .ok (.bipush 49, 2) := by decide +kernel
theorem dX4_canBy_51 : decode cX4_canBy 51 = .ok (.iaload, 1) := by decide +kernel
theorem dX4_canBy_52 : decode cX4_canBy 52 = .ok (.ishl, 1) := by decide +kernel
theorem dX4_canBy_53 : decode cX4_canBy 53 = .ok (.goto 4, 3) := by decide +kernel
theorem dX4_canBy_56 : decode cX4_canBy 56 = .ok (.iconst 0, 1) := by decide +kernel
theorem dX4_canBy_57 : decode cX4_canBy 57 = .ok (.ior, 1) := by decide +kernel
theorem dX4_canBy_58 : decode cX4_canBy 58 = .ok (.istore_n 3, 1) := by decide +kernel
theorem dX4_canBy_59 : decode cX4_canBy 59 = .ok (.iinc 5 1, 3) := by decide +kernel
theorem dX4_canBy_62 : decode cX4_canBy 62 = .ok (.goto (-48), 3) := by decide +kernel
theorem dX4_canBy_65 : decode cX4_canBy 65 = .ok (.iinc 4 1, 3) := by decide +kernel
theorem dX4_canBy_68 : decode cX4_canBy 68 = .ok (.goto (-63), 3) := by decide +kernel
theorem dX4_canBy_71 : decode cX4_canBy 71 = .ok (.iload_n 3, 1) := by decide +kernel
theorem dX4_canBy_72 : decode cX4_canBy 72 = .ok (.ireturn, 1) := by decide +kernel
set_option maxRecDepth 20000 in
theorem hiX4_canBy_X4 : ∀ w ∈ u_ws RX4 TX4 24, w ∈ wsX4_canBy := by decide +kernel
set_option maxHeartbeats 4000000 in
set_option maxRecDepth 100000 in
theorem wm_canBy_57 {p : Program} {l : Launch} {e : Env} {s : State} {m : MethodId} {args : Array Value} {below : List Frame} {meth : Method} {c : Code} {D : va_G} {L : Nat → Nat} {K : Nat → ClassId} (hJ : gj L 12) (C0 : gC cX4_canBy 6 (some .int) wsX4_canBy RX4 p s m args meth c) (hK : va_K D vwCl (tyG K) s) (hE : eM s) {w9 : St} {rs : Int32} (k5 : Int32 → Int32 → Int32 → Int32 → St → Option (Int32 × St)) (i5 : ∀ (x1 : Int32) (x2 : Int32) (x3 : Int32) (x4 : Int32) (w : St) (H : Heap) (locs : List Loc) (ls : Array Slot), va_P D vwCl (gl L 12 (cM L K w)) H → va_S (gA L 12) s.heap H locs → lv_has ls 6 [(0, .ref (L 0)), (1, .int x1), (2, .int x2), (3, .int x3), (4, .int x4)] → k5 x1 x2 x3 x4 w = some (rs, w9) → W p l e { frames := 4, cells := 0, slots := 0, locals := 92 } s m args below meth c H locs 0 0 (MQ below (qI D L 12 (cM L K) rs w9) args s 0 0 (gA L 12)) (F0 m 5 ls [])) (k14 : Int32 → Int32 → Int32 → Int32 → Int32 → St → Option (Int32 × St)) (i14 : ∀ (x1 : Int32) (x2 : Int32) (x3 : Int32) (x4 : Int32) (x5 : Int32) (w : St) (H : Heap) (locs : List Loc) (ls : Array Slot), va_P D vwCl (gl L 12 (cM L K w)) H → va_S (gA L 12) s.heap H locs → lv_has ls 6 [(0, .ref (L 0)), (1, .int x1), (2, .int x2), (3, .int x3), (4, .int x4), (5, .int x5)] → k14 x1 x2 x3 x4 x5 w = some (rs, w9) → W p l e { frames := 4, cells := 0, slots := 0, locals := 92 } s m args below meth c H locs 0 0 (MQ below (qI D L 12 (cM L K) rs w9) args s 0 0 (gA L 12)) (F0 m 14 ls [])) : ∀ (x1 : Int32) (x2 : Int32) (x4 : Int32) (x5 : Int32) (s0 : Int32) (s1 : Int32) (w : St) (H : Heap) (locs : List Loc) (ls : Array Slot), va_P D vwCl (gl L 12 (cM L K w)) H → va_S (gA L 12) s.heap H locs → lv_has ls 6 [(0, .ref (L 0)), (1, .int x1), (2, .int x2), (4, .int x4), (5, .int x5)] → fm_canBy_57 k5 k14 x1 x2 x4 x5 s0 s1 w = some (rs, w9) → W p l e { frames := 4, cells := 0, slots := 0, locals := 92 } s m args below meth c H locs 0 0 (MQ below (qI D L 12 (cM L K) rs w9) args s 0 0 (gA L 12)) (F0 m 57 ls [.int s1, .int s0]) := by
  obtain ⟨hx, hb, hr, hml, hown, hts, hlk⟩ := id C0
  intro x1 x2 x4 x5 s0 s1 w H locs ls hw hS hl hf
  unfold fm_canBy_57 at hf
  refine lv_ior hx hb dX4_canBy_57 ?_
  refine lv_topi (fun v58 e58 => ?_)
  replace hf := lb_e hf e58
  refine lv_istore_n (lv' := [(3, .int v58), (0, .ref (L 0)), (1, .int x1), (2, .int x2), (4, .int x4), (5, .int x5)]) hx hb dX4_canBy_58 rfl hl (by decide) rfl (fun ls hl => ?_)
  refine lv_iinc (v := (x5 + 1)) (lv' := [(5, .int (x5 + 1)), (3, .int v58), (0, .ref (L 0)), (1, .int x1), (2, .int x2), (4, .int x4)]) hx hb dX4_canBy_59 hl (k := 5) rfl rfl (by decide) rfl (fun ls hl => ?_)
  refine lv_goto (tgt := 14) hx hb dX4_canBy_62 (by decide) ?_
  exact i14 _ _ _ _ _ _ _ _ _ hw hS (lv_sub hl [2, 3, 4, 1, 5, 0] rfl) hf
set_option maxHeartbeats 4000000 in
set_option maxRecDepth 100000 in
theorem wm_canBy_14 {p : Program} {l : Launch} {e : Env} {s : State} {m : MethodId} {args : Array Value} {below : List Frame} {meth : Method} {c : Code} {D : va_G} {L : Nat → Nat} {K : Nat → ClassId} (hJ : gj L 12) (C0 : gC cX4_canBy 6 (some .int) wsX4_canBy RX4 p s m args meth c) (hK : va_K D vwCl (tyG K) s) (hE : eM s) {w9 : St} {rs : Int32} (k5 : Int32 → Int32 → Int32 → Int32 → St → Option (Int32 × St)) (i5 : ∀ (x1 : Int32) (x2 : Int32) (x3 : Int32) (x4 : Int32) (w : St) (H : Heap) (locs : List Loc) (ls : Array Slot), va_P D vwCl (gl L 12 (cM L K w)) H → va_S (gA L 12) s.heap H locs → lv_has ls 6 [(0, .ref (L 0)), (1, .int x1), (2, .int x2), (3, .int x3), (4, .int x4)] → k5 x1 x2 x3 x4 w = some (rs, w9) → W p l e { frames := 4, cells := 0, slots := 0, locals := 92 } s m args below meth c H locs 0 0 (MQ below (qI D L 12 (cM L K) rs w9) args s 0 0 (gA L 12)) (F0 m 5 ls [])) : ∀ (fu : Nat) (x1 : Int32) (x2 : Int32) (x3 : Int32) (x4 : Int32) (x5 : Int32) (w : St) (H : Heap) (locs : List Loc) (ls : Array Slot), va_P D vwCl (gl L 12 (cM L K w)) H → va_S (gA L 12) s.heap H locs → lv_has ls 6 [(0, .ref (L 0)), (1, .int x1), (2, .int x2), (3, .int x3), (4, .int x4), (5, .int x5)] → fm_canBy_14 k5 fu x1 x2 x3 x4 x5 w = some (rs, w9) → W p l e { frames := 4, cells := 0, slots := 0, locals := 92 } s m args below meth c H locs 0 0 (MQ below (qI D L 12 (cM L K) rs w9) args s 0 0 (gA L 12)) (F0 m 14 ls []) := by
  obtain ⟨hx, hb, hr, hml, hown, hts, hlk⟩ := id C0
  intro fu
  induction fu with
  | zero =>
    intro x1 x2 x3 x4 x5 w H locs ls hw hS hl hf
    rw [fm_canBy_14] at hf
    exact no_n hf
  | succ fu ih =>
    intro x1 x2 x3 x4 x5 w H locs ls hw hS hl hf
    rw [fm_canBy_14] at hf
    refine lv_iload hx hb dX4_canBy_14 (lv_at hl 5 rfl) ?_
    refine lv_iload hx hb dX4_canBy_16 (lv_at hl 4 rfl) ?_
    obtain ⟨v18, h18, hf⟩ := bd_e hf
    refine z_calls (va_runS (As := [.int x4]) (rest := [.int x5]) ⟨hx, hb, hml, hown, hts⟩ (km_sevens l x4 h18) (va_cwS 1 hts gX4_canBy_X4_sevens rfl rfl rfl (by decide +kernel) ⟨Nat.le_of_ble_eq_true rfl, Nat.le_of_ble_eq_true rfl⟩) z_preT rfl rfl hl.1 rfl (lv_room (Nat.le_of_ble_eq_true rfl)) dX4_canBy_18 ⟨Nat.le_of_ble_eq_true rfl, Nat.le_of_ble_eq_true rfl⟩) ?_
    refine lv_icmp_ge (tgt := 65) hx hb dX4_canBy_21 (by decide) (fun c21 => ?_) (fun c21 => ?_)
    · replace hf := if_t hf c21
      refine lv_iinc (v := (x4 + 1)) (lv' := [(4, .int (x4 + 1)), (0, .ref (L 0)), (1, .int x1), (2, .int x2), (3, .int x3), (5, .int x5)]) hx hb dX4_canBy_65 hl (k := 4) rfl rfl (by decide) rfl (fun ls hl => ?_)
      refine lv_goto (tgt := 5) hx hb dX4_canBy_68 (by decide) ?_
      exact i5 _ _ _ _ _ _ _ _ hw hS (lv_sub hl [1, 2, 3, 4, 0] rfl) hf
    · replace hf := if_f hf c21
      refine lv_iload_n hx hb dX4_canBy_24 rfl (lv_at hl 3 rfl) ?_
      refine lv_aload_n hx hb dX4_canBy_25 rfl (lv_at hl 0 rfl) ?_
      refine lv_iload_n hx hb dX4_canBy_26 rfl (lv_at hl 1 rfl) ?_
      refine lv_iload hx hb dX4_canBy_27 (lv_at hl 4 rfl) ?_
      refine lv_iload hx hb dX4_canBy_29 (lv_at hl 5 rfl) ?_
      refine lv_iload hx hb dX4_canBy_31 (lv_at hl 4 rfl) ?_
      obtain ⟨v33, h33, hf⟩ := bd_e hf
      refine z_calls (va_runS (As := [.int x5, .int x4]) (rest := [.int x4, .int x1, .ref (L 0), .int x3]) ⟨hx, hb, hml, hown, hts⟩ (km_rowOf l x5 x4 h33) (va_cwS 2 hts gX4_canBy_X4_rowOf rfl rfl rfl (by decide +kernel) ⟨Nat.le_of_ble_eq_true rfl, Nat.le_of_ble_eq_true rfl⟩) z_preT rfl rfl hl.1 rfl (lv_room (Nat.le_of_ble_eq_true rfl)) dX4_canBy_33 ⟨Nat.le_of_ble_eq_true rfl, Nat.le_of_ble_eq_true rfl⟩) ?_
      obtain ⟨q36, h36, hf⟩ := bd_e hf
      refine z_calli (va_runV (As := [.int x1, .int x4, .int v33]) (rest := [.int x3]) ⟨hx, hb, hml, hown, hts⟩ (km_sayRow l (D := D) (K := K) hJ x1 x4 v33 w  h36) (cwV 3 hts gX4_canBy_X4_sayRow rfl rfl rfl (by decide +kernel) ⟨Nat.le_of_ble_eq_true rfl, Nat.le_of_ble_eq_true rfl⟩) (z_preV eM_ok hK hE hw hS (by decide) ((fun w => rfl) _) (T := TX4) (M := 24) rfl) rfl rfl hl.1 rfl (lv_room (Nat.le_of_ble_eq_true rfl)) dX4_canBy_36 ⟨Nat.le_of_ble_eq_true rfl, Nat.le_of_ble_eq_true rfl⟩) hS (fun H locs hw hS => ?_)
      refine lv_bipush (v := (-9)) hx hb dX4_canBy_39 (by decide) ?_
      refine lv_icmp_ne (tgt := 56) hx hb dX4_canBy_41 (by decide) (fun c41 => ?_) (fun c41 => ?_)
      · replace hf := if_f hf c41
        refine lv_iconst (v := 0) hx hb dX4_canBy_56 (by decide) ?_
        exact wm_canBy_57 hJ C0 hK hE _ i5 _ ih _ _ _ _ _ _ _ _ _ _ hw hS (lv_sub hl [0, 1, 2, 4, 5] rfl) hf
      · replace hf := if_t hf c41
        refine lv_iconst (v := 1) hx hb dX4_canBy_44 (by decide) ?_
        refine lv_aload_n hx hb dX4_canBy_45 rfl (lv_at hl 0 rfl) ?_
        refine z_get (v := .ref (L 3)) hx hb hts hiX4_canBy_X4 hown hK hw (k := 0) (by decide) ((fun w => rfl) _) rfl 4 (by decide) (hts (.fieldLink RX4 16 "OneSentenceModel" "now" "[I") (by decide +kernel)) rfl dX4_canBy_46 ?_
        refine lv_bipush (v := 49) hx hb dX4_canBy_49 (by decide) ?_
        obtain ⟨v51, h51, hf⟩ := bd_e hf
        refine z_iald hx hb hK hw 0 (k := 3) (by decide) ((fun w => rfl) _) rfl h51 dX4_canBy_51 ?_
        refine lv_ishl hx hb dX4_canBy_52 ?_
        refine lv_goto (tgt := 57) hx hb dX4_canBy_53 (by decide) ?_
        exact wm_canBy_57 hJ C0 hK hE _ i5 _ ih _ _ _ _ _ _ _ _ _ _ hw hS (lv_sub hl [0, 1, 2, 4, 5] rfl) hf
set_option maxHeartbeats 4000000 in
set_option maxRecDepth 100000 in
theorem wm_canBy_5 {p : Program} {l : Launch} {e : Env} {s : State} {m : MethodId} {args : Array Value} {below : List Frame} {meth : Method} {c : Code} {D : va_G} {L : Nat → Nat} {K : Nat → ClassId} (hJ : gj L 12) (C0 : gC cX4_canBy 6 (some .int) wsX4_canBy RX4 p s m args meth c) (hK : va_K D vwCl (tyG K) s) (hE : eM s) {w9 : St} {rs : Int32} : ∀ (fu : Nat) (x1 : Int32) (x2 : Int32) (x3 : Int32) (x4 : Int32) (w : St) (H : Heap) (locs : List Loc) (ls : Array Slot), va_P D vwCl (gl L 12 (cM L K w)) H → va_S (gA L 12) s.heap H locs → lv_has ls 6 [(0, .ref (L 0)), (1, .int x1), (2, .int x2), (3, .int x3), (4, .int x4)] → fm_canBy_5 fu x1 x2 x3 x4 w = some (rs, w9) → W p l e { frames := 4, cells := 0, slots := 0, locals := 92 } s m args below meth c H locs 0 0 (MQ below (qI D L 12 (cM L K) rs w9) args s 0 0 (gA L 12)) (F0 m 5 ls []) := by
  obtain ⟨hx, hb, hr, hml, hown, hts, hlk⟩ := id C0
  intro fu
  induction fu with
  | zero =>
    intro x1 x2 x3 x4 w H locs ls hw hS hl hf
    rw [fm_canBy_5] at hf
    exact no_n hf
  | succ fu ih =>
    intro x1 x2 x3 x4 w H locs ls hw hS hl hf
    rw [fm_canBy_5] at hf
    refine lv_iload hx hb dX4_canBy_5 (lv_at hl 4 rfl) ?_
    refine lv_iload_n hx hb dX4_canBy_7 rfl (lv_at hl 2 rfl) ?_
    refine lv_icmp_gt (tgt := 71) hx hb dX4_canBy_8 (by decide) (fun c8 => ?_) (fun c8 => ?_)
    · replace hf := if_t hf c8
      refine lv_iload_n hx hb dX4_canBy_71 rfl (lv_at hl 3 rfl) ?_
      exact z_iret hx hb hr hlk hw hS hf dX4_canBy_72
    · replace hf := if_f hf c8
      refine lv_iconst (v := 0) hx hb dX4_canBy_11 (by decide) ?_
      refine lv_istore (lv' := [(5, .int 0), (0, .ref (L 0)), (1, .int x1), (2, .int x2), (3, .int x3), (4, .int x4)]) hx hb dX4_canBy_12 hl (by decide) rfl (fun ls hl => ?_)
      exact wm_canBy_14 hJ C0 hK hE _ ih _ _ _ _ _ _ _ _ _ _ hw hS (lv_sub hl [1, 2, 3, 4, 5, 0] rfl) hf
set_option maxHeartbeats 4000000 in
set_option maxRecDepth 100000 in
theorem wm_canBy_0 {p : Program} {l : Launch} {e : Env} {s : State} {m : MethodId} {args : Array Value} {below : List Frame} {meth : Method} {c : Code} {D : va_G} {L : Nat → Nat} {K : Nat → ClassId} (hJ : gj L 12) (C0 : gC cX4_canBy 6 (some .int) wsX4_canBy RX4 p s m args meth c) (hK : va_K D vwCl (tyG K) s) (hE : eM s) {w9 : St} {rs : Int32} : ∀ (x1 : Int32) (x2 : Int32) (w : St) (H : Heap) (locs : List Loc) (ls : Array Slot), va_P D vwCl (gl L 12 (cM L K w)) H → va_S (gA L 12) s.heap H locs → lv_has ls 6 [(0, .ref (L 0)), (1, .int x1), (2, .int x2)] → fm_canBy x1 x2 w = some (rs, w9) → W p l e { frames := 4, cells := 0, slots := 0, locals := 92 } s m args below meth c H locs 0 0 (MQ below (qI D L 12 (cM L K) rs w9) args s 0 0 (gA L 12)) (F0 m 0 ls []) := by
  obtain ⟨hx, hb, hr, hml, hown, hts, hlk⟩ := id C0
  intro x1 x2 w H locs ls hw hS hl hf
  unfold fm_canBy at hf
  refine lv_iconst (v := 0) hx hb dX4_canBy_0 (by decide) ?_
  refine lv_istore_n (lv' := [(3, .int 0), (0, .ref (L 0)), (1, .int x1), (2, .int x2)]) hx hb dX4_canBy_1 rfl hl (by decide) rfl (fun ls hl => ?_)
  refine lv_iconst (v := 0) hx hb dX4_canBy_2 (by decide) ?_
  refine lv_istore (lv' := [(4, .int 0), (3, .int 0), (0, .ref (L 0)), (1, .int x1), (2, .int x2)]) hx hb dX4_canBy_3 hl (by decide) rfl (fun ls hl => ?_)
  exact wm_canBy_5 hJ C0 hK hE _ _ _ _ _ _ _ _ _ hw hS (lv_sub hl [2, 3, 4, 1, 0] rfl) hf
set_option maxHeartbeats 4000000 in
set_option maxRecDepth 100000 in
theorem km_canBy (l : Launch) {D : va_G} {L : Nat → Nat} {K : Nat → ClassId} (hJ : gj L 12) (x1 : Int32) (x2 : Int32) (w : St) {w9 : St} {rs : Int32} (hf : fm_canBy x1 x2 w = some (rs, w9)) : Met l yX4_canBy wsX4_canBy ({ frames := 4, cells := 0, slots := 0, locals := 92 }) (va_Pc [.ref (L 0), .int x1, .int x2] (mP D L K w)) (qI D L 12 (cM L K) rs w9) 0 0 (gA L 12) := by
  refine g_met (cc := cX4_canBy) (nL := 6) (ret := (some .int)) (by decide) rfl (Nat.le_of_ble_eq_true rfl) (fun p e s m below meth c ls C0 hP hl => ?_)
  exact wm_canBy_0 hJ C0 hP.2.1 hP.2.2 _ _ w _ _ ls hP.1 va_S.rf (lv_sub hl [0, 1, 2] rfl) hf
set_option maxRecDepth 20000 in
theorem ggX4_can_X4_in : GoodIn wsX4_can wsX4_in := goodIn_r _ [6] (by decide +kernel) (by decide +kernel)
set_option maxRecDepth 20000 in
theorem gX4_can_X4_in : GoodIn wsX4_can (va_wsS RX4 46 yX4_in wsX4_in) := goodIn_app (goodIn_of _ (by decide +kernel)) ggX4_can_X4_in
set_option maxRecDepth 20000 in
theorem ggX4_can_X4_canBy : GoodIn wsX4_can wsX4_canBy := goodIn_r _ [10, 2, 11, 12, 5, 13, 14, 15, 16, 17, 18, 19, 20, 21, 22, 23, 24, 25, 26, 27, 28, 29, 30, 3, 4, 6, 31, 32, 33, 34, 35, 36, 37, 38, 39, 40, 41, 42, 43, 44, 45, 46, 47, 48, 49, 50, 51, 52, 53, 54, 55, 56, 57, 58, 59, 60, 61, 62, 63, 64, 65, 66, 67, 68, 69, 70, 71, 72, 73] (by decide +kernel) (by decide +kernel)
set_option maxRecDepth 20000 in
theorem gX4_can_X4_canBy : GoodIn wsX4_can (wsV RX4 154 RX4 yX4_canBy wsX4_canBy) := goodIn_app (goodIn_of _ (by decide +kernel)) ggX4_can_X4_canBy
theorem dX4_can_0 : decode cX4_can 0 = .ok (.iload_n 1, 1) := by decide +kernel
theorem dX4_can_1 : decode cX4_can 1 = .ok (.i2l, 1) := by decide +kernel
theorem dX4_can_2 : decode cX4_can 2 = .ok (.lconst 0, 1) := by decide +kernel
theorem dX4_can_3 : decode cX4_can 3 = .ok (.ldc2_w 117, 3) := by decide +kernel
theorem dX4_can_6 : decode cX4_can 6 = .ok (.invokestatic 46, 3) := by decide +kernel
theorem dX4_can_9 : decode cX4_can 9 = .ok (.ifCond .eq 17, 3) := by decide +kernel
theorem dX4_can_12 : decode cX4_can 12 = .ok (.aload_n 0, 1) := by decide +kernel
theorem dX4_can_13 : decode cX4_can 13 = .ok (.aload_n 0, 1) := by decide +kernel
theorem dX4_can_14 : decode cX4_can 14 = .ok (.getfield 16, 3) := by decide +kernel
theorem dX4_can_17 : decode cX4_can 17 = .ok (.iconst 0, 1) := by decide +kernel
theorem dX4_can_18 : decode cX4_can 18 = .ok (.iaload, 1) := by decide +kernel
theorem dX4_can_19 : decode cX4_can 19 = .ok (.iload_n 1, 1) := by decide +kernel
theorem dX4_can_20 : decode cX4_can 20 = .ok (.invokevirtual 154, 3) := by decide +kernel
theorem dX4_can_23 : decode cX4_can 23 = .ok (.goto 5, 3) := by decide +kernel
theorem dX4_can_26 : decode cX4_can 26 = .ok (.bipush (-2), 2) := by decide +kernel
theorem dX4_can_28 : decode cX4_can 28 = .ok (.ireturn, 1) := by decide +kernel
set_option maxRecDepth 20000 in
theorem hiX4_can_X4 : ∀ w ∈ u_ws RX4 TX4 24, w ∈ wsX4_can := by decide +kernel
set_option maxHeartbeats 4000000 in
set_option maxRecDepth 100000 in
theorem wm_can_0 {p : Program} {l : Launch} {e : Env} {s : State} {m : MethodId} {args : Array Value} {below : List Frame} {meth : Method} {c : Code} {D : va_G} {L : Nat → Nat} {K : Nat → ClassId} (hJ : gj L 12) (C0 : gC cX4_can 2 (some .int) wsX4_can RX4 p s m args meth c) (hK : va_K D vwCl (tyG K) s) (hE : eM s) {w9 : St} {rs : Int32} : ∀ (x1 : Int32) (w : St) (H : Heap) (locs : List Loc) (ls : Array Slot), va_P D vwCl (gl L 12 (cM L K w)) H → va_S (gA L 12) s.heap H locs → lv_has ls 2 [(0, .ref (L 0)), (1, .int x1)] → fm_can x1 w = some (rs, w9) → W p l e { frames := 5, cells := 0, slots := 0, locals := 117 } s m args below meth c H locs 0 0 (MQ below (qI D L 12 (cM L K) rs w9) args s 0 0 (gA L 12)) (F0 m 0 ls []) := by
  obtain ⟨hx, hb, hr, hml, hown, hts, hlk⟩ := id C0
  intro x1 w H locs ls hw hS hl hf
  unfold fm_can at hf
  refine lv_iload_n hx hb dX4_can_0 rfl (lv_at hl 1 rfl) ?_
  refine lv_i2l (v := x1.toInt64) hx hb dX4_can_1 rfl ?_
  refine lv_lconst (v := 0) hx hb dX4_can_2 (by decide) ?_
  refine lv_ldc2 (v := 3) hx hb hown (hts (.constantLong RX4 117 3) (by decide +kernel)) dX4_can_3 ?_
  obtain ⟨v6, h6, hf⟩ := bd_e hf
  refine z_calls (va_runS (As := [.long (x1.toInt64), .long 0, .long 3]) (rest := []) ⟨hx, hb, hml, hown, hts⟩ (km_in l (x1.toInt64) 0 3 h6) (va_cwS 3 hts gX4_can_X4_in rfl rfl rfl (by decide +kernel) ⟨Nat.le_of_ble_eq_true rfl, Nat.le_of_ble_eq_true rfl⟩) z_preT rfl rfl hl.1 rfl (lv_room (Nat.le_of_ble_eq_true rfl)) dX4_can_6 ⟨Nat.le_of_ble_eq_true rfl, Nat.le_of_ble_eq_true rfl⟩) ?_
  refine lv_if_eq (tgt := 26) hx hb dX4_can_9 (by decide) (fun c9 => ?_) (fun c9 => ?_)
  · replace hf := if_t hf c9
    refine lv_bipush (v := (-2)) hx hb dX4_can_26 (by decide) ?_
    exact z_iret hx hb hr hlk hw hS hf dX4_can_28
  · replace hf := if_f hf c9
    refine lv_aload_n hx hb dX4_can_12 rfl (lv_at hl 0 rfl) ?_
    refine lv_aload_n hx hb dX4_can_13 rfl (lv_at hl 0 rfl) ?_
    refine z_get (v := .ref (L 3)) hx hb hts hiX4_can_X4 hown hK hw (k := 0) (by decide) ((fun w => rfl) _) rfl 4 (by decide) (hts (.fieldLink RX4 16 "OneSentenceModel" "now" "[I") (by decide +kernel)) rfl dX4_can_14 ?_
    refine lv_iconst (v := 0) hx hb dX4_can_17 (by decide) ?_
    obtain ⟨v18, h18, hf⟩ := bd_e hf
    refine z_iald hx hb hK hw 0 (k := 3) (by decide) ((fun w => rfl) _) rfl h18 dX4_can_18 ?_
    refine lv_iload_n hx hb dX4_can_19 rfl (lv_at hl 1 rfl) ?_
    obtain ⟨q20, h20, hf⟩ := bd_e hf
    refine z_calli (va_runV (As := [.int v18, .int x1]) (rest := []) ⟨hx, hb, hml, hown, hts⟩ (km_canBy l (D := D) (K := K) hJ v18 x1 w  h20) (cwV 2 hts gX4_can_X4_canBy rfl rfl rfl (by decide +kernel) ⟨Nat.le_of_ble_eq_true rfl, Nat.le_of_ble_eq_true rfl⟩) (z_preV eM_ok hK hE hw hS (by decide) ((fun w => rfl) _) (T := TX4) (M := 24) rfl) rfl rfl hl.1 rfl (lv_room (Nat.le_of_ble_eq_true rfl)) dX4_can_20 ⟨Nat.le_of_ble_eq_true rfl, Nat.le_of_ble_eq_true rfl⟩) hS (fun H locs hw hS => ?_)
    refine lv_goto (tgt := 28) hx hb dX4_can_23 (by decide) ?_
    exact z_iret hx hb hr hlk hw hS hf dX4_can_28
set_option maxHeartbeats 4000000 in
set_option maxRecDepth 100000 in
theorem km_can (l : Launch) {D : va_G} {L : Nat → Nat} {K : Nat → ClassId} (hJ : gj L 12) (x1 : Int32) (w : St) {w9 : St} {rs : Int32} (hf : fm_can x1 w = some (rs, w9)) : Met l yX4_can wsX4_can ({ frames := 5, cells := 0, slots := 0, locals := 117 }) (va_Pc [.ref (L 0), .int x1] (mP D L K w)) (qI D L 12 (cM L K) rs w9) 0 0 (gA L 12) := by
  refine g_met (cc := cX4_can) (nL := 2) (ret := (some .int)) (by decide) rfl (Nat.le_of_ble_eq_true rfl) (fun p e s m below meth c ls C0 hP hl => ?_)
  exact wm_can_0 hJ C0 hP.2.1 hP.2.2 _ w _ _ ls hP.1 va_S.rf (lv_sub hl [0, 1] rfl) hf
set_option maxRecDepth 20000 in
theorem ggX4_hoursOf_X4_has : GoodIn wsX4_hoursOf wsX4_has := goodIn_r _ [5] (by decide +kernel) (by decide +kernel)
set_option maxRecDepth 20000 in
theorem gX4_hoursOf_X4_has : GoodIn wsX4_hoursOf (va_wsS RX4 83 yX4_has wsX4_has) := goodIn_app (goodIn_of _ (by decide +kernel)) ggX4_hoursOf_X4_has
set_option maxRecDepth 20000 in
theorem ggX4_hoursOf_X4_far : GoodIn wsX4_hoursOf wsX4_far := goodIn_r _ [9, 10, 11, 12, 13, 14, 15, 16, 17, 18, 19, 20, 21, 22, 23, 24, 25, 26, 27, 28, 29, 30, 31, 32, 33, 34, 35] (by decide +kernel) (by decide +kernel)
set_option maxRecDepth 20000 in
theorem gX4_hoursOf_X4_far : GoodIn wsX4_hoursOf (wsV RX4 108 RX4 yX4_far wsX4_far) := goodIn_app (goodIn_of _ (by decide +kernel)) ggX4_hoursOf_X4_far
theorem dX4_hoursOf_0 : decode cX4_hoursOf 0 = .ok (.iconst 0, 1) := by decide +kernel
theorem dX4_hoursOf_1 : decode cX4_hoursOf 1 = .ok (.istore_n 2, 1) := by decide +kernel
theorem dX4_hoursOf_2 : decode cX4_hoursOf 2 = .ok (.iconst 0, 1) := by decide +kernel
theorem dX4_hoursOf_3 : decode cX4_hoursOf 3 = .ok (.istore_n 3, 1) := by decide +kernel
theorem dX4_hoursOf_4 : decode cX4_hoursOf 4 = .ok (.iload_n 3, 1) := by decide +kernel
theorem dX4_hoursOf_5 : decode cX4_hoursOf 5 = .ok (.aload_n 0, 1) := by decide +kernel
theorem dX4_hoursOf_6 : decode cX4_hoursOf 6 = .ok (.getfield 74, 3) := by decide +kernel
theorem dX4_hoursOf_9 : decode cX4_hoursOf 9 = .ok (.if_icmp .ge 29, 3) := by decide +kernel
theorem dX4_hoursOf_12 : decode cX4_hoursOf 12 = .ok (.iload_n 2, 1) := by decide +kernel
theorem dX4_hoursOf_13 : decode cX4_hoursOf 13 = .ok (.iload_n 1, 1) := by decide +kernel
theorem dX4_hoursOf_14 : decode cX4_hoursOf 14 = .ok (.iload_n 3, 1) := by decide +kernel
theorem dX4_hoursOf_15 : decode cX4_hoursOf 15 = .ok (.invokestatic 83, 3) := by decide +kernel
theorem dX4_hoursOf_18 : decode cX4_hoursOf 18 = .ok (.ifCond .eq 11, 3) := by decide +kernel
theorem dX4_hoursOf_21 : decode cX4_hoursOf 21 = .ok (.aload_n 0, 1) := by decide +kernel
theorem dX4_hoursOf_22 : decode cX4_hoursOf 22 = .ok (.iload_n 3, 1) := by decide +kernel
theorem dX4_hoursOf_23 : decode cX4_hoursOf 23 = .ok (.invokevirtual 108, 3) := by decide +kernel
theorem dX4_hoursOf_26 : decode cX4_hoursOf 26 = .ok (.goto 4, 3) := by decide +kernel
theorem dX4_hoursOf_29 : decode cX4_hoursOf 29 = .ok (.iconst 0, 1) := by decide +kernel
theorem dX4_hoursOf_30 : decode cX4_hoursOf 30 = .ok (.iadd, 1) := by decide +kernel
theorem dX4_hoursOf_31 : decode cX4_hoursOf 31 = .ok (.istore_n 2, 1) := by decide +kernel
theorem dX4_hoursOf_32 : decode cX4_hoursOf 32 = .ok (.iinc 3 1, 3) := by decide +kernel
theorem dX4_hoursOf_35 : decode cX4_hoursOf 35 = .ok (.goto (-31), 3) := by decide +kernel
theorem dX4_hoursOf_38 : decode cX4_hoursOf 38 = .ok (.iload_n 2, 1) := by decide +kernel
theorem dX4_hoursOf_39 : decode cX4_hoursOf 39 = .ok (.ireturn, 1) := by decide +kernel
set_option maxRecDepth 20000 in
theorem hiX4_hoursOf_X4 : ∀ w ∈ u_ws RX4 TX4 24, w ∈ wsX4_hoursOf := by decide +kernel
set_option maxHeartbeats 4000000 in
set_option maxRecDepth 100000 in
theorem wm_hoursOf_30 {p : Program} {l : Launch} {e : Env} {s : State} {m : MethodId} {args : Array Value} {below : List Frame} {meth : Method} {c : Code} {D : va_G} {L : Nat → Nat} {K : Nat → ClassId} (hJ : gj L 12) (C0 : gC cX4_hoursOf 4 (some .int) wsX4_hoursOf RX4 p s m args meth c) (hK : va_K D vwCl (tyG K) s) (hE : eM s) {w9 : St} {rs : Int32} (k4 : Int32 → Int32 → Int32 → St → Option (Int32 × St)) (i4 : ∀ (x1 : Int32) (x2 : Int32) (x3 : Int32) (w : St) (H : Heap) (locs : List Loc) (ls : Array Slot), va_P D vwCl (gl L 12 (cM L K w)) H → va_S (gA L 12) s.heap H locs → lv_has ls 4 [(0, .ref (L 0)), (1, .int x1), (2, .int x2), (3, .int x3)] → k4 x1 x2 x3 w = some (rs, w9) → W p l e { frames := 1, cells := 0, slots := 0, locals := 21 } s m args below meth c H locs 0 0 (MQ below (qI D L 12 (cM L K) rs w9) args s 0 0 (gA L 12)) (F0 m 4 ls [])) : ∀ (x1 : Int32) (x3 : Int32) (s0 : Int32) (s1 : Int32) (w : St) (H : Heap) (locs : List Loc) (ls : Array Slot), va_P D vwCl (gl L 12 (cM L K w)) H → va_S (gA L 12) s.heap H locs → lv_has ls 4 [(0, .ref (L 0)), (1, .int x1), (3, .int x3)] → fm_hoursOf_30 k4 x1 x3 s0 s1 w = some (rs, w9) → W p l e { frames := 1, cells := 0, slots := 0, locals := 21 } s m args below meth c H locs 0 0 (MQ below (qI D L 12 (cM L K) rs w9) args s 0 0 (gA L 12)) (F0 m 30 ls [.int s1, .int s0]) := by
  obtain ⟨hx, hb, hr, hml, hown, hts, hlk⟩ := id C0
  intro x1 x3 s0 s1 w H locs ls hw hS hl hf
  unfold fm_hoursOf_30 at hf
  refine lv_iadd hx hb dX4_hoursOf_30 ?_
  refine lv_topi (fun v31 e31 => ?_)
  replace hf := lb_e hf e31
  refine lv_istore_n (lv' := [(2, .int v31), (0, .ref (L 0)), (1, .int x1), (3, .int x3)]) hx hb dX4_hoursOf_31 rfl hl (by decide) rfl (fun ls hl => ?_)
  refine lv_iinc (v := (x3 + 1)) (lv' := [(3, .int (x3 + 1)), (2, .int v31), (0, .ref (L 0)), (1, .int x1)]) hx hb dX4_hoursOf_32 hl (k := 3) rfl rfl (by decide) rfl (fun ls hl => ?_)
  refine lv_goto (tgt := 4) hx hb dX4_hoursOf_35 (by decide) ?_
  exact i4 _ _ _ _ _ _ _ hw hS (lv_sub hl [2, 3, 1, 0] rfl) hf
set_option maxHeartbeats 4000000 in
set_option maxRecDepth 100000 in
theorem wm_hoursOf_4 {p : Program} {l : Launch} {e : Env} {s : State} {m : MethodId} {args : Array Value} {below : List Frame} {meth : Method} {c : Code} {D : va_G} {L : Nat → Nat} {K : Nat → ClassId} (hJ : gj L 12) (C0 : gC cX4_hoursOf 4 (some .int) wsX4_hoursOf RX4 p s m args meth c) (hK : va_K D vwCl (tyG K) s) (hE : eM s) {w9 : St} {rs : Int32} : ∀ (fu : Nat) (x1 : Int32) (x2 : Int32) (x3 : Int32) (w : St) (H : Heap) (locs : List Loc) (ls : Array Slot), va_P D vwCl (gl L 12 (cM L K w)) H → va_S (gA L 12) s.heap H locs → lv_has ls 4 [(0, .ref (L 0)), (1, .int x1), (2, .int x2), (3, .int x3)] → fm_hoursOf_4 fu x1 x2 x3 w = some (rs, w9) → W p l e { frames := 1, cells := 0, slots := 0, locals := 21 } s m args below meth c H locs 0 0 (MQ below (qI D L 12 (cM L K) rs w9) args s 0 0 (gA L 12)) (F0 m 4 ls []) := by
  obtain ⟨hx, hb, hr, hml, hown, hts, hlk⟩ := id C0
  intro fu
  induction fu with
  | zero =>
    intro x1 x2 x3 w H locs ls hw hS hl hf
    rw [fm_hoursOf_4] at hf
    exact no_n hf
  | succ fu ih =>
    intro x1 x2 x3 w H locs ls hw hS hl hf
    rw [fm_hoursOf_4] at hf
    refine lv_iload_n hx hb dX4_hoursOf_4 rfl (lv_at hl 3 rfl) ?_
    refine lv_aload_n hx hb dX4_hoursOf_5 rfl (lv_at hl 0 rfl) ?_
    refine z_get (v := .int (w.1 0 0)) hx hb hts hiX4_hoursOf_X4 hown hK hw (k := 0) (by decide) ((fun w => rfl) _) rfl 0 (by decide) (hts (.fieldLink RX4 74 "OneSentenceModel" "people" "I") (by decide +kernel)) rfl dX4_hoursOf_6 ?_
    refine lv_icmp_ge (tgt := 38) hx hb dX4_hoursOf_9 (by decide) (fun c9 => ?_) (fun c9 => ?_)
    · replace hf := if_t hf c9
      refine lv_iload_n hx hb dX4_hoursOf_38 rfl (lv_at hl 2 rfl) ?_
      exact z_iret hx hb hr hlk hw hS hf dX4_hoursOf_39
    · replace hf := if_f hf c9
      refine lv_iload_n hx hb dX4_hoursOf_12 rfl (lv_at hl 2 rfl) ?_
      refine lv_iload_n hx hb dX4_hoursOf_13 rfl (lv_at hl 1 rfl) ?_
      refine lv_iload_n hx hb dX4_hoursOf_14 rfl (lv_at hl 3 rfl) ?_
      obtain ⟨v15, h15, hf⟩ := bd_e hf
      refine z_calls (va_runS (As := [.int x1, .int x3]) (rest := [.int x2]) ⟨hx, hb, hml, hown, hts⟩ (km_has l x1 x3 h15) (va_cwS 2 hts gX4_hoursOf_X4_has rfl rfl rfl (by decide +kernel) ⟨Nat.le_of_ble_eq_true rfl, Nat.le_of_ble_eq_true rfl⟩) z_preT rfl rfl hl.1 rfl (lv_room (Nat.le_of_ble_eq_true rfl)) dX4_hoursOf_15 ⟨Nat.le_of_ble_eq_true rfl, Nat.le_of_ble_eq_true rfl⟩) ?_
      refine lv_if_eq (tgt := 29) hx hb dX4_hoursOf_18 (by decide) (fun c18 => ?_) (fun c18 => ?_)
      · replace hf := if_t hf c18
        refine lv_iconst (v := 0) hx hb dX4_hoursOf_29 (by decide) ?_
        exact wm_hoursOf_30 hJ C0 hK hE _ ih _ _ _ _ _ _ _ _ hw hS (lv_sub hl [0, 1, 3] rfl) hf
      · replace hf := if_f hf c18
        refine lv_aload_n hx hb dX4_hoursOf_21 rfl (lv_at hl 0 rfl) ?_
        refine lv_iload_n hx hb dX4_hoursOf_22 rfl (lv_at hl 3 rfl) ?_
        obtain ⟨q23, h23, hf⟩ := bd_e hf
        refine z_calli (va_runV (As := [.int x3]) (rest := [.int x2]) ⟨hx, hb, hml, hown, hts⟩ (km_far l (D := D) (K := K) hJ x3 w  h23) (cwV 1 hts gX4_hoursOf_X4_far rfl rfl rfl (by decide +kernel) ⟨Nat.le_of_ble_eq_true rfl, Nat.le_of_ble_eq_true rfl⟩) (z_preV eM_ok hK hE hw hS (by decide) ((fun w => rfl) _) (T := TX4) (M := 24) rfl) rfl rfl hl.1 rfl (lv_room (Nat.le_of_ble_eq_true rfl)) dX4_hoursOf_23 ⟨Nat.le_of_ble_eq_true rfl, Nat.le_of_ble_eq_true rfl⟩) hS (fun H locs hw hS => ?_)
        refine lv_goto (tgt := 30) hx hb dX4_hoursOf_26 (by decide) ?_
        exact wm_hoursOf_30 hJ C0 hK hE _ ih _ _ _ _ _ _ _ _ hw hS (lv_sub hl [0, 1, 3] rfl) hf
set_option maxHeartbeats 4000000 in
set_option maxRecDepth 100000 in
theorem wm_hoursOf_0 {p : Program} {l : Launch} {e : Env} {s : State} {m : MethodId} {args : Array Value} {below : List Frame} {meth : Method} {c : Code} {D : va_G} {L : Nat → Nat} {K : Nat → ClassId} (hJ : gj L 12) (C0 : gC cX4_hoursOf 4 (some .int) wsX4_hoursOf RX4 p s m args meth c) (hK : va_K D vwCl (tyG K) s) (hE : eM s) {w9 : St} {rs : Int32} : ∀ (x1 : Int32) (w : St) (H : Heap) (locs : List Loc) (ls : Array Slot), va_P D vwCl (gl L 12 (cM L K w)) H → va_S (gA L 12) s.heap H locs → lv_has ls 4 [(0, .ref (L 0)), (1, .int x1)] → fm_hoursOf x1 w = some (rs, w9) → W p l e { frames := 1, cells := 0, slots := 0, locals := 21 } s m args below meth c H locs 0 0 (MQ below (qI D L 12 (cM L K) rs w9) args s 0 0 (gA L 12)) (F0 m 0 ls []) := by
  obtain ⟨hx, hb, hr, hml, hown, hts, hlk⟩ := id C0
  intro x1 w H locs ls hw hS hl hf
  unfold fm_hoursOf at hf
  refine lv_iconst (v := 0) hx hb dX4_hoursOf_0 (by decide) ?_
  refine lv_istore_n (lv' := [(2, .int 0), (0, .ref (L 0)), (1, .int x1)]) hx hb dX4_hoursOf_1 rfl hl (by decide) rfl (fun ls hl => ?_)
  refine lv_iconst (v := 0) hx hb dX4_hoursOf_2 (by decide) ?_
  refine lv_istore_n (lv' := [(3, .int 0), (2, .int 0), (0, .ref (L 0)), (1, .int x1)]) hx hb dX4_hoursOf_3 rfl hl (by decide) rfl (fun ls hl => ?_)
  exact wm_hoursOf_4 hJ C0 hK hE _ _ _ _ _ _ _ _ hw hS (lv_sub hl [2, 3, 1, 0] rfl) hf
set_option maxHeartbeats 4000000 in
set_option maxRecDepth 100000 in
theorem km_hoursOf (l : Launch) {D : va_G} {L : Nat → Nat} {K : Nat → ClassId} (hJ : gj L 12) (x1 : Int32) (w : St) {w9 : St} {rs : Int32} (hf : fm_hoursOf x1 w = some (rs, w9)) : Met l yX4_hoursOf wsX4_hoursOf ({ frames := 1, cells := 0, slots := 0, locals := 21 }) (va_Pc [.ref (L 0), .int x1] (mP D L K w)) (qI D L 12 (cM L K) rs w9) 0 0 (gA L 12) := by
  refine g_met (cc := cX4_hoursOf) (nL := 4) (ret := (some .int)) (by decide) rfl (Nat.le_of_ble_eq_true rfl) (fun p e s m below meth c ls C0 hP hl => ?_)
  exact wm_hoursOf_0 hJ C0 hP.2.1 hP.2.2 _ w _ _ ls hP.1 va_S.rf (lv_sub hl [0, 1] rfl) hf
set_option maxRecDepth 20000 in
theorem ggX4_toFetch_X4_in : GoodIn wsX4_toFetch wsX4_in := goodIn_r _ [7] (by decide +kernel) (by decide +kernel)
set_option maxRecDepth 20000 in
theorem gX4_toFetch_X4_in : GoodIn wsX4_toFetch (va_wsS RX4 46 yX4_in wsX4_in) := goodIn_app (goodIn_of _ (by decide +kernel)) ggX4_toFetch_X4_in
set_option maxRecDepth 20000 in
theorem ggX4_toFetch_X4_hoursOf : GoodIn wsX4_toFetch wsX4_hoursOf := goodIn_r _ [11, 2, 12, 13, 6, 14, 15, 16, 17, 18, 19, 20, 65, 66, 67, 68, 69, 70, 71, 72, 73, 74, 75, 76, 77, 78, 79, 80, 81, 82, 83, 84, 85, 86, 87, 88] (by decide +kernel) (by decide +kernel)
set_option maxRecDepth 20000 in
theorem gX4_toFetch_X4_hoursOf : GoodIn wsX4_toFetch (wsV RX4 157 RX4 yX4_hoursOf wsX4_hoursOf) := goodIn_app (goodIn_of _ (by decide +kernel)) ggX4_toFetch_X4_hoursOf
set_option maxRecDepth 20000 in
theorem ggX4_toFetch_X4_ones : GoodIn wsX4_toFetch wsX4_ones := goodIn_r _ [23] (by decide +kernel) (by decide +kernel)
set_option maxRecDepth 20000 in
theorem gX4_toFetch_X4_ones : GoodIn wsX4_toFetch (va_wsS RX4 111 yX4_ones wsX4_ones) := goodIn_app (goodIn_of _ (by decide +kernel)) ggX4_toFetch_X4_ones
set_option maxRecDepth 20000 in
theorem ggX4_toFetch_X4_layFewest : GoodIn wsX4_toFetch wsX4_layFewest := goodIn_r _ [27, 28, 3, 29, 30, 6, 31, 32, 33, 34, 35, 36, 37, 38, 39, 40, 41, 42, 43, 44, 45, 46, 47, 48, 4, 5, 7, 49, 50, 51, 52, 53, 12, 13, 14, 54, 55, 56, 57, 58, 59, 60, 61, 62, 63, 64, 65, 66, 67, 68, 69, 70, 71, 72, 73, 74, 75, 76, 77, 78, 79, 80, 81, 82, 83, 84, 85, 86, 87, 88] (by decide +kernel) (by decide +kernel)
set_option maxRecDepth 20000 in
theorem gX4_toFetch_X4_layFewest : GoodIn wsX4_toFetch (wsV RX4 151 RX4 yX4_layFewest wsX4_layFewest) := goodIn_app (goodIn_of _ (by decide +kernel)) ggX4_toFetch_X4_layFewest
theorem dX4_toFetch_0 : decode cX4_toFetch 0 = .ok (.iload_n 1, 1) := by decide +kernel
theorem dX4_toFetch_1 : decode cX4_toFetch 1 = .ok (.i2l, 1) := by decide +kernel
theorem dX4_toFetch_2 : decode cX4_toFetch 2 = .ok (.lconst 0, 1) := by decide +kernel
theorem dX4_toFetch_3 : decode cX4_toFetch 3 = .ok (.ldc2_w 119, 3) := by decide +kernel
theorem dX4_toFetch_6 : decode cX4_toFetch 6 = .ok (.invokestatic 46, 3) := by decide +kernel
theorem dX4_toFetch_9 : decode cX4_toFetch 9 = .ok (.ifCond .ne 6, 3) := by decide +kernel
theorem dX4_toFetch_12 : decode cX4_toFetch 12 = .ok (.bipush (-2), 2) := by decide +kernel
theorem dX4_toFetch_14 : decode cX4_toFetch 14 = .ok (.ireturn, 1) := by decide +kernel
theorem dX4_toFetch_15 : decode cX4_toFetch 15 = .ok (.bipush (-9), 2) := by decide +kernel
theorem dX4_toFetch_17 : decode cX4_toFetch 17 = .ok (.istore_n 3, 1) := by decide +kernel
theorem dX4_toFetch_18 : decode cX4_toFetch 18 = .ok (.iconst 0, 1) := by decide +kernel
theorem dX4_toFetch_19 : decode cX4_toFetch 19 = .ok (.istore 4, 2) := by decide +kernel
theorem dX4_toFetch_21 : decode cX4_toFetch 21 = .ok (.iload 4, 2) := by decide +kernel
theorem dX4_toFetch_23 : decode cX4_toFetch 23 = .ok (.iconst 1, 1) := by decide +kernel
theorem dX4_toFetch_24 : decode cX4_toFetch 24 = .ok (.aload_n 0, 1) := by decide +kernel
theorem dX4_toFetch_25 : decode cX4_toFetch 25 = .ok (.getfield 74, 3) := by decide +kernel
theorem dX4_toFetch_28 : decode cX4_toFetch 28 = .ok (.ishl, 1) := by decide +kernel
theorem dX4_toFetch_29 : decode cX4_toFetch 29 = .ok (.if_icmp .ge 117, 3) := by decide +kernel
theorem dX4_toFetch_32 : decode cX4_toFetch 32 = .ok (.iload 4, 2) := by decide +kernel
theorem dX4_toFetch_34 : decode cX4_toFetch 34 = .ok (.aload_n 0, 1) := by decide +kernel
theorem dX4_toFetch_35 : decode cX4_toFetch 35 = .ok (.getfield 16, 3) := by decide +kernel
theorem dX4_toFetch_38 : decode cX4_toFetch 38 = .ok (.iconst 0, 1) := by decide +kernel
theorem dX4_toFetch_39 : decode cX4_toFetch 39 = .ok (.iaload, 1) := by decide +kernel
theorem dX4_toFetch_40 : decode cX4_toFetch 40 = .ok (.iand, 1) := by decide +kernel
theorem dX4_toFetch_41 : decode cX4_toFetch 41 = .ok (.ifCond .ne 7, 3) := by decide +kernel
theorem dX4_toFetch_44 : decode cX4_toFetch 44 = .ok (.iconst 1, 1) := by decide +kernel
theorem dX4_toFetch_45 : decode cX4_toFetch 45 = .ok (.goto 4, 3) := by decide +kernel
theorem dX4_toFetch_48 : decode cX4_toFetch 48 = .ok (.iconst 0, 1) := by decide +kernel
theorem dX4_toFetch_49 : decode cX4_toFetch 49 = .ok (.istore 5, 2) := by decide +kernel
theorem dX4_toFetch_51 : decode cX4_toFetch 51 = .ok (.iload_n 3, 1) := by decide +kernel
theorem dX4_toFetch_52 : decode cX4_toFetch 52 = .ok (.bipush (-9), 2) := by decide +kernel
theorem dX4_toFetch_54 : decode cX4_toFetch 54 = .ok (.if_icmp .ne 7, 3) := by decide +kernel
theorem dX4_toFetch_57 : decode cX4_toFetch 57 = .ok (.iconst 1, 1) := by decide +kernel
theorem dX4_toFetch_58 : decode cX4_toFetch 58 = .ok (.goto 15, 3) := by decide +kernel
theorem dX4_toFetch_61 : decode cX4_toFetch 61 = .ok (.aload_n 0, 1) := by decide +kernel
theorem dX4_toFetch_62 : decode cX4_toFetch 62 = .ok (.iload_n 3, 1) := by decide +kernel
theorem dX4_toFetch_63 : decode cX4_toFetch 63 = .ok (.invokevirtual 157, 3) := by decide +kernel
theorem dX4_toFetch_66 : decode cX4_toFetch 66 = .ok (.aload_n 0, 1) := by decide +kernel
theorem dX4_toFetch_67 : decode cX4_toFetch 67 = .ok (.iload 4, 2) := by decide +kernel
theorem dX4_toFetch_69 : decode cX4_toFetch 69 = .ok (.invokevirtual 157, 3) := by decide +kernel
theorem dX4_toFetch_72 : decode cX4_toFetch 72 = .ok (.isub, 1) := by decide +kernel
theorem dX4_toFetch_73 : decode cX4_toFetch 73 = .ok (.istore 6, 2) := by decide +kernel
theorem dX4_toFetch_75 : decode cX4_toFetch 75 = .ok (.iload 5, 2) := by decide +kernel
theorem dX4_toFetch_77 : decode cX4_toFetch 77 = .ok (.ifCond .eq 29, 3) := by decide +kernel
theorem dX4_toFetch_80 : decode cX4_toFetch 80 = .ok (.iload 6, 2) := by decide +kernel
theorem dX4_toFetch_82 : decode cX4_toFetch 82 = .ok (.ifCond .gt 20, 3) := by decide +kernel
theorem dX4_toFetch_85 : decode cX4_toFetch 85 = .ok (.iload 6, 2) := by decide +kernel
theorem dX4_toFetch_87 : decode cX4_toFetch 87 = .ok (.ifCond .ne 19, 3) := by decide +kernel
theorem dX4_toFetch_90 : decode cX4_toFetch 90 = .ok (.iload 4, 2) := by decide +kernel
theorem dX4_toFetch_92 : decode cX4_toFetch 92 = .ok (.invokestatic 111, 3) := by decide +kernel
theorem dX4_toFetch_95 : decode cX4_toFetch 95 = .ok (.iload_n 3, 1) := by decide +kernel
theorem dX4_toFetch_96 : decode cX4_toFetch 96 = .ok (.invokestatic 111, 3) := by decide +kernel
theorem dX4_toFetch_99 : decode cX4_toFetch 99 = .ok (.if_icmp .ge 7, 3) := by decide +kernel
theorem dX4_toFetch_102 : decode cX4_toFetch 102 = .ok (.iconst 1, 1) := by decide +kernel
theorem dX4_toFetch_103 : decode cX4_toFetch 103 = .ok (.goto 4, 3) := by decide +kernel
theorem dX4_toFetch_106 : decode cX4_toFetch 106 = .ok (.iconst 0, 1) := by decide +kernel
theorem dX4_toFetch_107 : decode cX4_toFetch 107 = .ok (.istore 7, 2) := by decide +kernel
theorem dX4_toFetch_109 : decode cX4_toFetch 109 = .ok (.iload 7, 2) := by decide +kernel
theorem dX4_toFetch_111 : decode cX4_toFetch 111 = .ok (.ifCond .eq 27, 3) := by decide +kernel
theorem dX4_toFetch_114 : decode cX4_toFetch 114 = .ok (.aload_n 0, 1) := by decide +kernel
theorem dX4_toFetch_115 : decode cX4_toFetch 115 = .ok (.aload_n 0, 1) := by decide +kernel
theorem dX4_toFetch_116 : decode cX4_toFetch 116 = .ok (.getfield 16, 3) := by decide +kernel
theorem dX4_toFetch_119 : decode cX4_toFetch 119 = .ok (.iconst 0, 1) := by decide +kernel
theorem dX4_toFetch_120 : decode cX4_toFetch 120 = .ok (.iaload, 1) := by decide +kernel
theorem dX4_toFetch_121 : decode cX4_toFetch 121 = .ok (.iload 4, 2) := by decide +kernel
theorem dX4_toFetch_123 : decode cX4_toFetch 123 = .ok (.ior, 1) := by decide +kernel
theorem dX4_toFetch_124 : decode cX4_toFetch 124 = .ok (.iload_n 1, 1) := by decide +kernel
theorem dX4_toFetch_125 : decode cX4_toFetch 125 = .ok (.invokevirtual 151, 3) := by decide +kernel
theorem dX4_toFetch_128 : decode cX4_toFetch 128 = .ok (.bipush (-9), 2) := by decide +kernel
theorem dX4_toFetch_130 : decode cX4_toFetch 130 = .ok (.if_icmp .eq 8, 3) := by decide +kernel
theorem dX4_toFetch_133 : decode cX4_toFetch 133 = .ok (.iload 4, 2) := by decide +kernel
theorem dX4_toFetch_135 : decode cX4_toFetch 135 = .ok (.goto 4, 3) := by decide +kernel
theorem dX4_toFetch_138 : decode cX4_toFetch 138 = .ok (.iload_n 3, 1) := by decide +kernel
theorem dX4_toFetch_139 : decode cX4_toFetch 139 = .ok (.istore_n 3, 1) := by decide +kernel
theorem dX4_toFetch_140 : decode cX4_toFetch 140 = .ok (.iinc 4 1, 3) := by decide +kernel
theorem dX4_toFetch_143 : decode cX4_toFetch 143 = .ok (.goto (-122), 3) := by decide +kernel
theorem dX4_toFetch_146 : decode cX4_toFetch 146 = .ok (.iload_n 3, 1) := by decide +kernel
theorem dX4_toFetch_147 : decode cX4_toFetch 147 = .ok (.bipush (-9), 2) := by decide +kernel
theorem dX4_toFetch_149 : decode cX4_toFetch 149 = .ok (.if_icmp .eq 7, 3) := by decide +kernel
theorem dX4_toFetch_152 : decode cX4_toFetch 152 = .ok (.iload_n 2, 1) := by decide +kernel
theorem dX4_toFetch_153 : decode cX4_toFetch 153 = .ok (.ifCond .ne 7, 3) := by decide +kernel
theorem dX4_toFetch_156 : decode cX4_toFetch 156 = .ok (.iload_n 3, 1) := by decide +kernel
theorem dX4_toFetch_157 : decode cX4_toFetch 157 = .ok (.goto 8, 3) := by decide +kernel
theorem dX4_toFetch_160 : decode cX4_toFetch 160 = .ok (.aload_n 0, 1) := by decide +kernel
theorem dX4_toFetch_161 : decode cX4_toFetch 161 = .ok (.iload_n 3, 1) := by decide +kernel
theorem dX4_toFetch_162 : decode cX4_toFetch 162 = .ok (.invokevirtual 157, 3) := by decide +kernel
theorem dX4_toFetch_165 : decode cX4_toFetch 165 = .ok (.ireturn, 1) := by decide +kernel
set_option maxRecDepth 20000 in
theorem hiX4_toFetch_X4 : ∀ w ∈ u_ws RX4 TX4 24, w ∈ wsX4_toFetch := by decide +kernel
set_option maxHeartbeats 4000000 in
set_option maxRecDepth 100000 in
theorem wm_toFetch_139 {p : Program} {l : Launch} {e : Env} {s : State} {m : MethodId} {args : Array Value} {below : List Frame} {meth : Method} {c : Code} {D : va_G} {L : Nat → Nat} {K : Nat → ClassId} (hJ : gj L 12) (C0 : gC cX4_toFetch 8 (some .int) wsX4_toFetch RX4 p s m args meth c) (hK : va_K D vwCl (tyG K) s) (hE : eM s) {w9 : St} {rs : Int32} (k21 : Int32 → Int32 → Int32 → Int32 → St → Option (Int32 × St)) (i21 : ∀ (x1 : Int32) (x2 : Int32) (x3 : Int32) (x4 : Int32) (w : St) (H : Heap) (locs : List Loc) (ls : Array Slot), va_P D vwCl (gl L 12 (cM L K w)) H → va_S (gA L 12) s.heap H locs → lv_has ls 8 [(0, .ref (L 0)), (1, .int x1), (2, .int x2), (3, .int x3), (4, .int x4)] → k21 x1 x2 x3 x4 w = some (rs, w9) → W p l e { frames := 5, cells := 0, slots := 0, locals := 116 } s m args below meth c H locs 0 0 (MQ below (qI D L 12 (cM L K) rs w9) args s 0 0 (gA L 12)) (F0 m 21 ls [])) : ∀ (x1 : Int32) (x2 : Int32) (x4 : Int32) (s0 : Int32) (w : St) (H : Heap) (locs : List Loc) (ls : Array Slot), va_P D vwCl (gl L 12 (cM L K w)) H → va_S (gA L 12) s.heap H locs → lv_has ls 8 [(0, .ref (L 0)), (1, .int x1), (2, .int x2), (4, .int x4)] → fm_toFetch_139 k21 x1 x2 x4 s0 w = some (rs, w9) → W p l e { frames := 5, cells := 0, slots := 0, locals := 116 } s m args below meth c H locs 0 0 (MQ below (qI D L 12 (cM L K) rs w9) args s 0 0 (gA L 12)) (F0 m 139 ls [.int s0]) := by
  obtain ⟨hx, hb, hr, hml, hown, hts, hlk⟩ := id C0
  intro x1 x2 x4 s0 w H locs ls hw hS hl hf
  unfold fm_toFetch_139 at hf
  refine lv_istore_n (lv' := [(3, .int s0), (0, .ref (L 0)), (1, .int x1), (2, .int x2), (4, .int x4)]) hx hb dX4_toFetch_139 rfl hl (by decide) rfl (fun ls hl => ?_)
  refine lv_iinc (v := (x4 + 1)) (lv' := [(4, .int (x4 + 1)), (3, .int s0), (0, .ref (L 0)), (1, .int x1), (2, .int x2)]) hx hb dX4_toFetch_140 hl (k := 4) rfl rfl (by decide) rfl (fun ls hl => ?_)
  refine lv_goto (tgt := 21) hx hb dX4_toFetch_143 (by decide) ?_
  exact i21 _ _ _ _ _ _ _ _ hw hS (lv_sub hl [2, 3, 4, 1, 0] rfl) hf
set_option maxHeartbeats 4000000 in
set_option maxRecDepth 100000 in
theorem wm_toFetch_138 {p : Program} {l : Launch} {e : Env} {s : State} {m : MethodId} {args : Array Value} {below : List Frame} {meth : Method} {c : Code} {D : va_G} {L : Nat → Nat} {K : Nat → ClassId} (hJ : gj L 12) (C0 : gC cX4_toFetch 8 (some .int) wsX4_toFetch RX4 p s m args meth c) (hK : va_K D vwCl (tyG K) s) (hE : eM s) {w9 : St} {rs : Int32} (k21 : Int32 → Int32 → Int32 → Int32 → St → Option (Int32 × St)) (i21 : ∀ (x1 : Int32) (x2 : Int32) (x3 : Int32) (x4 : Int32) (w : St) (H : Heap) (locs : List Loc) (ls : Array Slot), va_P D vwCl (gl L 12 (cM L K w)) H → va_S (gA L 12) s.heap H locs → lv_has ls 8 [(0, .ref (L 0)), (1, .int x1), (2, .int x2), (3, .int x3), (4, .int x4)] → k21 x1 x2 x3 x4 w = some (rs, w9) → W p l e { frames := 5, cells := 0, slots := 0, locals := 116 } s m args below meth c H locs 0 0 (MQ below (qI D L 12 (cM L K) rs w9) args s 0 0 (gA L 12)) (F0 m 21 ls [])) : ∀ (x1 : Int32) (x2 : Int32) (x3 : Int32) (x4 : Int32) (w : St) (H : Heap) (locs : List Loc) (ls : Array Slot), va_P D vwCl (gl L 12 (cM L K w)) H → va_S (gA L 12) s.heap H locs → lv_has ls 8 [(0, .ref (L 0)), (1, .int x1), (2, .int x2), (3, .int x3), (4, .int x4)] → fm_toFetch_138 k21 x1 x2 x3 x4 w = some (rs, w9) → W p l e { frames := 5, cells := 0, slots := 0, locals := 116 } s m args below meth c H locs 0 0 (MQ below (qI D L 12 (cM L K) rs w9) args s 0 0 (gA L 12)) (F0 m 138 ls []) := by
  obtain ⟨hx, hb, hr, hml, hown, hts, hlk⟩ := id C0
  intro x1 x2 x3 x4 w H locs ls hw hS hl hf
  unfold fm_toFetch_138 at hf
  refine lv_iload_n hx hb dX4_toFetch_138 rfl (lv_at hl 3 rfl) ?_
  exact wm_toFetch_139 hJ C0 hK hE _ i21 _ _ _ _ _ _ _ _ hw hS (lv_sub hl [0, 1, 2, 4] rfl) hf
set_option maxHeartbeats 4000000 in
set_option maxRecDepth 100000 in
theorem wm_toFetch_107 {p : Program} {l : Launch} {e : Env} {s : State} {m : MethodId} {args : Array Value} {below : List Frame} {meth : Method} {c : Code} {D : va_G} {L : Nat → Nat} {K : Nat → ClassId} (hJ : gj L 12) (C0 : gC cX4_toFetch 8 (some .int) wsX4_toFetch RX4 p s m args meth c) (hK : va_K D vwCl (tyG K) s) (hE : eM s) {w9 : St} {rs : Int32} (k21 : Int32 → Int32 → Int32 → Int32 → St → Option (Int32 × St)) (i21 : ∀ (x1 : Int32) (x2 : Int32) (x3 : Int32) (x4 : Int32) (w : St) (H : Heap) (locs : List Loc) (ls : Array Slot), va_P D vwCl (gl L 12 (cM L K w)) H → va_S (gA L 12) s.heap H locs → lv_has ls 8 [(0, .ref (L 0)), (1, .int x1), (2, .int x2), (3, .int x3), (4, .int x4)] → k21 x1 x2 x3 x4 w = some (rs, w9) → W p l e { frames := 5, cells := 0, slots := 0, locals := 116 } s m args below meth c H locs 0 0 (MQ below (qI D L 12 (cM L K) rs w9) args s 0 0 (gA L 12)) (F0 m 21 ls [])) : ∀ (x1 : Int32) (x2 : Int32) (x3 : Int32) (x4 : Int32) (s0 : Int32) (w : St) (H : Heap) (locs : List Loc) (ls : Array Slot), va_P D vwCl (gl L 12 (cM L K w)) H → va_S (gA L 12) s.heap H locs → lv_has ls 8 [(0, .ref (L 0)), (1, .int x1), (2, .int x2), (3, .int x3), (4, .int x4)] → fm_toFetch_107 k21 x1 x2 x3 x4 s0 w = some (rs, w9) → W p l e { frames := 5, cells := 0, slots := 0, locals := 116 } s m args below meth c H locs 0 0 (MQ below (qI D L 12 (cM L K) rs w9) args s 0 0 (gA L 12)) (F0 m 107 ls [.int s0]) := by
  obtain ⟨hx, hb, hr, hml, hown, hts, hlk⟩ := id C0
  intro x1 x2 x3 x4 s0 w H locs ls hw hS hl hf
  unfold fm_toFetch_107 at hf
  refine lv_istore (lv' := [(7, .int s0), (0, .ref (L 0)), (1, .int x1), (2, .int x2), (3, .int x3), (4, .int x4)]) hx hb dX4_toFetch_107 hl (by decide) rfl (fun ls hl => ?_)
  refine lv_iload hx hb dX4_toFetch_109 (lv_at hl 0 rfl) ?_
  refine lv_if_eq (tgt := 138) hx hb dX4_toFetch_111 (by decide) (fun c111 => ?_) (fun c111 => ?_)
  · replace hf := if_t hf c111
    exact wm_toFetch_138 hJ C0 hK hE _ i21 _ _ _ _ _ _ _ _ hw hS (lv_sub hl [1, 2, 3, 4, 5] rfl) hf
  · replace hf := if_f hf c111
    refine lv_aload_n hx hb dX4_toFetch_114 rfl (lv_at hl 1 rfl) ?_
    refine lv_aload_n hx hb dX4_toFetch_115 rfl (lv_at hl 1 rfl) ?_
    refine z_get (v := .ref (L 3)) hx hb hts hiX4_toFetch_X4 hown hK hw (k := 0) (by decide) ((fun w => rfl) _) rfl 4 (by decide) (hts (.fieldLink RX4 16 "OneSentenceModel" "now" "[I") (by decide +kernel)) rfl dX4_toFetch_116 ?_
    refine lv_iconst (v := 0) hx hb dX4_toFetch_119 (by decide) ?_
    obtain ⟨v120, h120, hf⟩ := bd_e hf
    refine z_iald hx hb hK hw 0 (k := 3) (by decide) ((fun w => rfl) _) rfl h120 dX4_toFetch_120 ?_
    refine lv_iload hx hb dX4_toFetch_121 (lv_at hl 5 rfl) ?_
    refine lv_ior hx hb dX4_toFetch_123 ?_
    refine lv_iload_n hx hb dX4_toFetch_124 rfl (lv_at hl 2 rfl) ?_
    obtain ⟨q125, h125, hf⟩ := bd_e hf
    refine z_calli (va_runV (As := [.int (v120 ||| x4), .int x1]) (rest := []) ⟨hx, hb, hml, hown, hts⟩ (km_layFewest l (D := D) (K := K) hJ (v120 ||| x4) x1 w  h125) (cwV 2 hts gX4_toFetch_X4_layFewest rfl rfl rfl (by decide +kernel) ⟨Nat.le_of_ble_eq_true rfl, Nat.le_of_ble_eq_true rfl⟩) (z_preV eM_ok hK hE hw hS (by decide) ((fun w => rfl) _) (T := TX4) (M := 24) rfl) rfl rfl hl.1 rfl (lv_room (Nat.le_of_ble_eq_true rfl)) dX4_toFetch_125 ⟨Nat.le_of_ble_eq_true rfl, Nat.le_of_ble_eq_true rfl⟩) hS (fun H locs hw hS => ?_)
    refine lv_bipush (v := (-9)) hx hb dX4_toFetch_128 (by decide) ?_
    refine lv_icmp_eq (tgt := 138) hx hb dX4_toFetch_130 (by decide) (fun c130 => ?_) (fun c130 => ?_)
    · replace hf := if_t hf c130
      exact wm_toFetch_138 hJ C0 hK hE _ i21 _ _ _ _ _ _ _ _ hw hS (lv_sub hl [1, 2, 3, 4, 5] rfl) hf
    · replace hf := if_f hf c130
      refine lv_iload hx hb dX4_toFetch_133 (lv_at hl 5 rfl) ?_
      refine lv_goto (tgt := 139) hx hb dX4_toFetch_135 (by decide) ?_
      exact wm_toFetch_139 hJ C0 hK hE _ i21 _ _ _ _ _ _ _ _ hw hS (lv_sub hl [1, 2, 3, 5] rfl) hf
set_option maxHeartbeats 4000000 in
set_option maxRecDepth 100000 in
theorem wm_toFetch_106 {p : Program} {l : Launch} {e : Env} {s : State} {m : MethodId} {args : Array Value} {below : List Frame} {meth : Method} {c : Code} {D : va_G} {L : Nat → Nat} {K : Nat → ClassId} (hJ : gj L 12) (C0 : gC cX4_toFetch 8 (some .int) wsX4_toFetch RX4 p s m args meth c) (hK : va_K D vwCl (tyG K) s) (hE : eM s) {w9 : St} {rs : Int32} (k21 : Int32 → Int32 → Int32 → Int32 → St → Option (Int32 × St)) (i21 : ∀ (x1 : Int32) (x2 : Int32) (x3 : Int32) (x4 : Int32) (w : St) (H : Heap) (locs : List Loc) (ls : Array Slot), va_P D vwCl (gl L 12 (cM L K w)) H → va_S (gA L 12) s.heap H locs → lv_has ls 8 [(0, .ref (L 0)), (1, .int x1), (2, .int x2), (3, .int x3), (4, .int x4)] → k21 x1 x2 x3 x4 w = some (rs, w9) → W p l e { frames := 5, cells := 0, slots := 0, locals := 116 } s m args below meth c H locs 0 0 (MQ below (qI D L 12 (cM L K) rs w9) args s 0 0 (gA L 12)) (F0 m 21 ls [])) : ∀ (x1 : Int32) (x2 : Int32) (x3 : Int32) (x4 : Int32) (w : St) (H : Heap) (locs : List Loc) (ls : Array Slot), va_P D vwCl (gl L 12 (cM L K w)) H → va_S (gA L 12) s.heap H locs → lv_has ls 8 [(0, .ref (L 0)), (1, .int x1), (2, .int x2), (3, .int x3), (4, .int x4)] → fm_toFetch_106 k21 x1 x2 x3 x4 w = some (rs, w9) → W p l e { frames := 5, cells := 0, slots := 0, locals := 116 } s m args below meth c H locs 0 0 (MQ below (qI D L 12 (cM L K) rs w9) args s 0 0 (gA L 12)) (F0 m 106 ls []) := by
  obtain ⟨hx, hb, hr, hml, hown, hts, hlk⟩ := id C0
  intro x1 x2 x3 x4 w H locs ls hw hS hl hf
  unfold fm_toFetch_106 at hf
  refine lv_iconst (v := 0) hx hb dX4_toFetch_106 (by decide) ?_
  exact wm_toFetch_107 hJ C0 hK hE _ i21 _ _ _ _ _ _ _ _ _ hw hS (lv_sub hl [0, 1, 2, 3, 4] rfl) hf
set_option maxHeartbeats 4000000 in
set_option maxRecDepth 100000 in
theorem wm_toFetch_102 {p : Program} {l : Launch} {e : Env} {s : State} {m : MethodId} {args : Array Value} {below : List Frame} {meth : Method} {c : Code} {D : va_G} {L : Nat → Nat} {K : Nat → ClassId} (hJ : gj L 12) (C0 : gC cX4_toFetch 8 (some .int) wsX4_toFetch RX4 p s m args meth c) (hK : va_K D vwCl (tyG K) s) (hE : eM s) {w9 : St} {rs : Int32} (k21 : Int32 → Int32 → Int32 → Int32 → St → Option (Int32 × St)) (i21 : ∀ (x1 : Int32) (x2 : Int32) (x3 : Int32) (x4 : Int32) (w : St) (H : Heap) (locs : List Loc) (ls : Array Slot), va_P D vwCl (gl L 12 (cM L K w)) H → va_S (gA L 12) s.heap H locs → lv_has ls 8 [(0, .ref (L 0)), (1, .int x1), (2, .int x2), (3, .int x3), (4, .int x4)] → k21 x1 x2 x3 x4 w = some (rs, w9) → W p l e { frames := 5, cells := 0, slots := 0, locals := 116 } s m args below meth c H locs 0 0 (MQ below (qI D L 12 (cM L K) rs w9) args s 0 0 (gA L 12)) (F0 m 21 ls [])) : ∀ (x1 : Int32) (x2 : Int32) (x3 : Int32) (x4 : Int32) (w : St) (H : Heap) (locs : List Loc) (ls : Array Slot), va_P D vwCl (gl L 12 (cM L K w)) H → va_S (gA L 12) s.heap H locs → lv_has ls 8 [(0, .ref (L 0)), (1, .int x1), (2, .int x2), (3, .int x3), (4, .int x4)] → fm_toFetch_102 k21 x1 x2 x3 x4 w = some (rs, w9) → W p l e { frames := 5, cells := 0, slots := 0, locals := 116 } s m args below meth c H locs 0 0 (MQ below (qI D L 12 (cM L K) rs w9) args s 0 0 (gA L 12)) (F0 m 102 ls []) := by
  obtain ⟨hx, hb, hr, hml, hown, hts, hlk⟩ := id C0
  intro x1 x2 x3 x4 w H locs ls hw hS hl hf
  unfold fm_toFetch_102 at hf
  refine lv_iconst (v := 1) hx hb dX4_toFetch_102 (by decide) ?_
  refine lv_goto (tgt := 107) hx hb dX4_toFetch_103 (by decide) ?_
  exact wm_toFetch_107 hJ C0 hK hE _ i21 _ _ _ _ _ _ _ _ _ hw hS (lv_sub hl [0, 1, 2, 3, 4] rfl) hf
set_option maxHeartbeats 4000000 in
set_option maxRecDepth 100000 in
theorem wm_toFetch_73 {p : Program} {l : Launch} {e : Env} {s : State} {m : MethodId} {args : Array Value} {below : List Frame} {meth : Method} {c : Code} {D : va_G} {L : Nat → Nat} {K : Nat → ClassId} (hJ : gj L 12) (C0 : gC cX4_toFetch 8 (some .int) wsX4_toFetch RX4 p s m args meth c) (hK : va_K D vwCl (tyG K) s) (hE : eM s) {w9 : St} {rs : Int32} (k21 : Int32 → Int32 → Int32 → Int32 → St → Option (Int32 × St)) (i21 : ∀ (x1 : Int32) (x2 : Int32) (x3 : Int32) (x4 : Int32) (w : St) (H : Heap) (locs : List Loc) (ls : Array Slot), va_P D vwCl (gl L 12 (cM L K w)) H → va_S (gA L 12) s.heap H locs → lv_has ls 8 [(0, .ref (L 0)), (1, .int x1), (2, .int x2), (3, .int x3), (4, .int x4)] → k21 x1 x2 x3 x4 w = some (rs, w9) → W p l e { frames := 5, cells := 0, slots := 0, locals := 116 } s m args below meth c H locs 0 0 (MQ below (qI D L 12 (cM L K) rs w9) args s 0 0 (gA L 12)) (F0 m 21 ls [])) : ∀ (x1 : Int32) (x2 : Int32) (x3 : Int32) (x4 : Int32) (x5 : Int32) (s0 : Int32) (w : St) (H : Heap) (locs : List Loc) (ls : Array Slot), va_P D vwCl (gl L 12 (cM L K w)) H → va_S (gA L 12) s.heap H locs → lv_has ls 8 [(0, .ref (L 0)), (1, .int x1), (2, .int x2), (3, .int x3), (4, .int x4), (5, .int x5)] → fm_toFetch_73 k21 x1 x2 x3 x4 x5 s0 w = some (rs, w9) → W p l e { frames := 5, cells := 0, slots := 0, locals := 116 } s m args below meth c H locs 0 0 (MQ below (qI D L 12 (cM L K) rs w9) args s 0 0 (gA L 12)) (F0 m 73 ls [.int s0]) := by
  obtain ⟨hx, hb, hr, hml, hown, hts, hlk⟩ := id C0
  intro x1 x2 x3 x4 x5 s0 w H locs ls hw hS hl hf
  unfold fm_toFetch_73 at hf
  refine lv_istore (lv' := [(6, .int s0), (0, .ref (L 0)), (1, .int x1), (2, .int x2), (3, .int x3), (4, .int x4), (5, .int x5)]) hx hb dX4_toFetch_73 hl (by decide) rfl (fun ls hl => ?_)
  refine lv_iload hx hb dX4_toFetch_75 (lv_at hl 6 rfl) ?_
  refine lv_if_eq (tgt := 106) hx hb dX4_toFetch_77 (by decide) (fun c77 => ?_) (fun c77 => ?_)
  · replace hf := if_t hf c77
    exact wm_toFetch_106 hJ C0 hK hE _ i21 _ _ _ _ _ _ _ _ hw hS (lv_sub hl [1, 2, 3, 4, 5] rfl) hf
  · replace hf := if_f hf c77
    refine lv_iload hx hb dX4_toFetch_80 (lv_at hl 0 rfl) ?_
    refine lv_if_gt (tgt := 102) hx hb dX4_toFetch_82 (by decide) (fun c82 => ?_) (fun c82 => ?_)
    · replace hf := if_t hf c82
      exact wm_toFetch_102 hJ C0 hK hE _ i21 _ _ _ _ _ _ _ _ hw hS (lv_sub hl [1, 2, 3, 4, 5] rfl) hf
    · replace hf := if_f hf c82
      refine lv_iload hx hb dX4_toFetch_85 (lv_at hl 0 rfl) ?_
      refine lv_if_ne (tgt := 106) hx hb dX4_toFetch_87 (by decide) (fun c87 => ?_) (fun c87 => ?_)
      · replace hf := if_f hf c87
        exact wm_toFetch_106 hJ C0 hK hE _ i21 _ _ _ _ _ _ _ _ hw hS (lv_sub hl [1, 2, 3, 4, 5] rfl) hf
      · replace hf := if_t hf c87
        refine lv_iload hx hb dX4_toFetch_90 (lv_at hl 5 rfl) ?_
        obtain ⟨v92, h92, hf⟩ := bd_e hf
        refine z_calls (va_runS (As := [.int x4]) (rest := []) ⟨hx, hb, hml, hown, hts⟩ (km_ones l x4 h92) (va_cwS 1 hts gX4_toFetch_X4_ones rfl rfl rfl (by decide +kernel) ⟨Nat.le_of_ble_eq_true rfl, Nat.le_of_ble_eq_true rfl⟩) z_preT rfl rfl hl.1 rfl (lv_room (Nat.le_of_ble_eq_true rfl)) dX4_toFetch_92 ⟨Nat.le_of_ble_eq_true rfl, Nat.le_of_ble_eq_true rfl⟩) ?_
        refine lv_iload_n hx hb dX4_toFetch_95 rfl (lv_at hl 4 rfl) ?_
        obtain ⟨v96, h96, hf⟩ := bd_e hf
        refine z_calls (va_runS (As := [.int x3]) (rest := [.int v92]) ⟨hx, hb, hml, hown, hts⟩ (km_ones l x3 h96) (va_cwS 1 hts gX4_toFetch_X4_ones rfl rfl rfl (by decide +kernel) ⟨Nat.le_of_ble_eq_true rfl, Nat.le_of_ble_eq_true rfl⟩) z_preT rfl rfl hl.1 rfl (lv_room (Nat.le_of_ble_eq_true rfl)) dX4_toFetch_96 ⟨Nat.le_of_ble_eq_true rfl, Nat.le_of_ble_eq_true rfl⟩) ?_
        refine lv_icmp_ge (tgt := 106) hx hb dX4_toFetch_99 (by decide) (fun c99 => ?_) (fun c99 => ?_)
        · replace hf := if_t hf c99
          exact wm_toFetch_106 hJ C0 hK hE _ i21 _ _ _ _ _ _ _ _ hw hS (lv_sub hl [1, 2, 3, 4, 5] rfl) hf
        · replace hf := if_f hf c99
          exact wm_toFetch_102 hJ C0 hK hE _ i21 _ _ _ _ _ _ _ _ hw hS (lv_sub hl [1, 2, 3, 4, 5] rfl) hf
set_option maxHeartbeats 4000000 in
set_option maxRecDepth 100000 in
theorem wm_toFetch_49 {p : Program} {l : Launch} {e : Env} {s : State} {m : MethodId} {args : Array Value} {below : List Frame} {meth : Method} {c : Code} {D : va_G} {L : Nat → Nat} {K : Nat → ClassId} (hJ : gj L 12) (C0 : gC cX4_toFetch 8 (some .int) wsX4_toFetch RX4 p s m args meth c) (hK : va_K D vwCl (tyG K) s) (hE : eM s) {w9 : St} {rs : Int32} (k21 : Int32 → Int32 → Int32 → Int32 → St → Option (Int32 × St)) (i21 : ∀ (x1 : Int32) (x2 : Int32) (x3 : Int32) (x4 : Int32) (w : St) (H : Heap) (locs : List Loc) (ls : Array Slot), va_P D vwCl (gl L 12 (cM L K w)) H → va_S (gA L 12) s.heap H locs → lv_has ls 8 [(0, .ref (L 0)), (1, .int x1), (2, .int x2), (3, .int x3), (4, .int x4)] → k21 x1 x2 x3 x4 w = some (rs, w9) → W p l e { frames := 5, cells := 0, slots := 0, locals := 116 } s m args below meth c H locs 0 0 (MQ below (qI D L 12 (cM L K) rs w9) args s 0 0 (gA L 12)) (F0 m 21 ls [])) : ∀ (x1 : Int32) (x2 : Int32) (x3 : Int32) (x4 : Int32) (s0 : Int32) (w : St) (H : Heap) (locs : List Loc) (ls : Array Slot), va_P D vwCl (gl L 12 (cM L K w)) H → va_S (gA L 12) s.heap H locs → lv_has ls 8 [(0, .ref (L 0)), (1, .int x1), (2, .int x2), (3, .int x3), (4, .int x4)] → fm_toFetch_49 k21 x1 x2 x3 x4 s0 w = some (rs, w9) → W p l e { frames := 5, cells := 0, slots := 0, locals := 116 } s m args below meth c H locs 0 0 (MQ below (qI D L 12 (cM L K) rs w9) args s 0 0 (gA L 12)) (F0 m 49 ls [.int s0]) := by
  obtain ⟨hx, hb, hr, hml, hown, hts, hlk⟩ := id C0
  intro x1 x2 x3 x4 s0 w H locs ls hw hS hl hf
  unfold fm_toFetch_49 at hf
  refine lv_istore (lv' := [(5, .int s0), (0, .ref (L 0)), (1, .int x1), (2, .int x2), (3, .int x3), (4, .int x4)]) hx hb dX4_toFetch_49 hl (by decide) rfl (fun ls hl => ?_)
  refine lv_iload_n hx hb dX4_toFetch_51 rfl (lv_at hl 4 rfl) ?_
  refine lv_bipush (v := (-9)) hx hb dX4_toFetch_52 (by decide) ?_
  refine lv_icmp_ne (tgt := 61) hx hb dX4_toFetch_54 (by decide) (fun c54 => ?_) (fun c54 => ?_)
  · replace hf := if_f hf c54
    refine lv_aload_n hx hb dX4_toFetch_61 rfl (lv_at hl 1 rfl) ?_
    refine lv_iload_n hx hb dX4_toFetch_62 rfl (lv_at hl 4 rfl) ?_
    obtain ⟨q63, h63, hf⟩ := bd_e hf
    refine z_calli (va_runV (As := [.int x3]) (rest := []) ⟨hx, hb, hml, hown, hts⟩ (km_hoursOf l (D := D) (K := K) hJ x3 w  h63) (cwV 1 hts gX4_toFetch_X4_hoursOf rfl rfl rfl (by decide +kernel) ⟨Nat.le_of_ble_eq_true rfl, Nat.le_of_ble_eq_true rfl⟩) (z_preV eM_ok hK hE hw hS (by decide) ((fun w => rfl) _) (T := TX4) (M := 24) rfl) rfl rfl hl.1 rfl (lv_room (Nat.le_of_ble_eq_true rfl)) dX4_toFetch_63 ⟨Nat.le_of_ble_eq_true rfl, Nat.le_of_ble_eq_true rfl⟩) hS (fun H locs hw hS => ?_)
    refine lv_aload_n hx hb dX4_toFetch_66 rfl (lv_at hl 1 rfl) ?_
    refine lv_iload hx hb dX4_toFetch_67 (lv_at hl 5 rfl) ?_
    obtain ⟨q69, h69, hf⟩ := bd_e hf
    refine z_calli (va_runV (As := [.int x4]) (rest := [.int (q63.1)]) ⟨hx, hb, hml, hown, hts⟩ (km_hoursOf l (D := D) (K := K) hJ x4 (q63.2)  h69) (cwV 1 hts gX4_toFetch_X4_hoursOf rfl rfl rfl (by decide +kernel) ⟨Nat.le_of_ble_eq_true rfl, Nat.le_of_ble_eq_true rfl⟩) (z_preV eM_ok hK hE hw hS (by decide) ((fun w => rfl) _) (T := TX4) (M := 24) rfl) rfl rfl hl.1 rfl (lv_room (Nat.le_of_ble_eq_true rfl)) dX4_toFetch_69 ⟨Nat.le_of_ble_eq_true rfl, Nat.le_of_ble_eq_true rfl⟩) hS (fun H locs hw hS => ?_)
    refine lv_isub hx hb dX4_toFetch_72 ?_
    exact wm_toFetch_73 hJ C0 hK hE _ i21 _ _ _ _ _ _ _ _ _ _ hw hS (lv_sub hl [1, 2, 3, 4, 5, 0] rfl) hf
  · replace hf := if_t hf c54
    refine lv_iconst (v := 1) hx hb dX4_toFetch_57 (by decide) ?_
    refine lv_goto (tgt := 73) hx hb dX4_toFetch_58 (by decide) ?_
    exact wm_toFetch_73 hJ C0 hK hE _ i21 _ _ _ _ _ _ _ _ _ _ hw hS (lv_sub hl [1, 2, 3, 4, 5, 0] rfl) hf
set_option maxHeartbeats 4000000 in
set_option maxRecDepth 100000 in
theorem wm_toFetch_21 {p : Program} {l : Launch} {e : Env} {s : State} {m : MethodId} {args : Array Value} {below : List Frame} {meth : Method} {c : Code} {D : va_G} {L : Nat → Nat} {K : Nat → ClassId} (hJ : gj L 12) (C0 : gC cX4_toFetch 8 (some .int) wsX4_toFetch RX4 p s m args meth c) (hK : va_K D vwCl (tyG K) s) (hE : eM s) {w9 : St} {rs : Int32} : ∀ (fu : Nat) (x1 : Int32) (x2 : Int32) (x3 : Int32) (x4 : Int32) (w : St) (H : Heap) (locs : List Loc) (ls : Array Slot), va_P D vwCl (gl L 12 (cM L K w)) H → va_S (gA L 12) s.heap H locs → lv_has ls 8 [(0, .ref (L 0)), (1, .int x1), (2, .int x2), (3, .int x3), (4, .int x4)] → fm_toFetch_21 fu x1 x2 x3 x4 w = some (rs, w9) → W p l e { frames := 5, cells := 0, slots := 0, locals := 116 } s m args below meth c H locs 0 0 (MQ below (qI D L 12 (cM L K) rs w9) args s 0 0 (gA L 12)) (F0 m 21 ls []) := by
  obtain ⟨hx, hb, hr, hml, hown, hts, hlk⟩ := id C0
  intro fu
  induction fu with
  | zero =>
    intro x1 x2 x3 x4 w H locs ls hw hS hl hf
    rw [fm_toFetch_21] at hf
    exact no_n hf
  | succ fu ih =>
    intro x1 x2 x3 x4 w H locs ls hw hS hl hf
    rw [fm_toFetch_21] at hf
    refine lv_iload hx hb dX4_toFetch_21 (lv_at hl 4 rfl) ?_
    refine lv_iconst (v := 1) hx hb dX4_toFetch_23 (by decide) ?_
    refine lv_aload_n hx hb dX4_toFetch_24 rfl (lv_at hl 0 rfl) ?_
    refine z_get (v := .int (w.1 0 0)) hx hb hts hiX4_toFetch_X4 hown hK hw (k := 0) (by decide) ((fun w => rfl) _) rfl 0 (by decide) (hts (.fieldLink RX4 74 "OneSentenceModel" "people" "I") (by decide +kernel)) rfl dX4_toFetch_25 ?_
    refine lv_ishl hx hb dX4_toFetch_28 ?_
    refine lv_icmp_ge (tgt := 146) hx hb dX4_toFetch_29 (by decide) (fun c29 => ?_) (fun c29 => ?_)
    · replace hf := if_t hf c29
      refine lv_iload_n hx hb dX4_toFetch_146 rfl (lv_at hl 3 rfl) ?_
      refine lv_bipush (v := (-9)) hx hb dX4_toFetch_147 (by decide) ?_
      refine lv_icmp_eq (tgt := 156) hx hb dX4_toFetch_149 (by decide) (fun c149 => ?_) (fun c149 => ?_)
      · replace hf := if_t hf c149
        refine lv_iload_n hx hb dX4_toFetch_156 rfl (lv_at hl 3 rfl) ?_
        refine lv_goto (tgt := 165) hx hb dX4_toFetch_157 (by decide) ?_
        exact z_iret hx hb hr hlk hw hS hf dX4_toFetch_165
      · replace hf := if_f hf c149
        refine lv_iload_n hx hb dX4_toFetch_152 rfl (lv_at hl 2 rfl) ?_
        refine lv_if_ne (tgt := 160) hx hb dX4_toFetch_153 (by decide) (fun c153 => ?_) (fun c153 => ?_)
        · replace hf := if_f hf c153
          refine lv_aload_n hx hb dX4_toFetch_160 rfl (lv_at hl 0 rfl) ?_
          refine lv_iload_n hx hb dX4_toFetch_161 rfl (lv_at hl 3 rfl) ?_
          obtain ⟨q162, h162, hf⟩ := bd_e hf
          refine z_calli (va_runV (As := [.int x3]) (rest := []) ⟨hx, hb, hml, hown, hts⟩ (km_hoursOf l (D := D) (K := K) hJ x3 w  h162) (cwV 1 hts gX4_toFetch_X4_hoursOf rfl rfl rfl (by decide +kernel) ⟨Nat.le_of_ble_eq_true rfl, Nat.le_of_ble_eq_true rfl⟩) (z_preV eM_ok hK hE hw hS (by decide) ((fun w => rfl) _) (T := TX4) (M := 24) rfl) rfl rfl hl.1 rfl (lv_room (Nat.le_of_ble_eq_true rfl)) dX4_toFetch_162 ⟨Nat.le_of_ble_eq_true rfl, Nat.le_of_ble_eq_true rfl⟩) hS (fun H locs hw hS => ?_)
          exact z_iret hx hb hr hlk hw hS hf dX4_toFetch_165
        · replace hf := if_t hf c153
          refine lv_iload_n hx hb dX4_toFetch_156 rfl (lv_at hl 3 rfl) ?_
          refine lv_goto (tgt := 165) hx hb dX4_toFetch_157 (by decide) ?_
          exact z_iret hx hb hr hlk hw hS hf dX4_toFetch_165
    · replace hf := if_f hf c29
      refine lv_iload hx hb dX4_toFetch_32 (lv_at hl 4 rfl) ?_
      refine lv_aload_n hx hb dX4_toFetch_34 rfl (lv_at hl 0 rfl) ?_
      refine z_get (v := .ref (L 3)) hx hb hts hiX4_toFetch_X4 hown hK hw (k := 0) (by decide) ((fun w => rfl) _) rfl 4 (by decide) (hts (.fieldLink RX4 16 "OneSentenceModel" "now" "[I") (by decide +kernel)) rfl dX4_toFetch_35 ?_
      refine lv_iconst (v := 0) hx hb dX4_toFetch_38 (by decide) ?_
      obtain ⟨v39, h39, hf⟩ := bd_e hf
      refine z_iald hx hb hK hw 0 (k := 3) (by decide) ((fun w => rfl) _) rfl h39 dX4_toFetch_39 ?_
      refine lv_iand hx hb dX4_toFetch_40 ?_
      refine lv_if_ne (tgt := 48) hx hb dX4_toFetch_41 (by decide) (fun c41 => ?_) (fun c41 => ?_)
      · replace hf := if_f hf c41
        refine lv_iconst (v := 0) hx hb dX4_toFetch_48 (by decide) ?_
        exact wm_toFetch_49 hJ C0 hK hE _ ih _ _ _ _ _ _ _ _ _ hw hS (lv_sub hl [0, 1, 2, 3, 4] rfl) hf
      · replace hf := if_t hf c41
        refine lv_iconst (v := 1) hx hb dX4_toFetch_44 (by decide) ?_
        refine lv_goto (tgt := 49) hx hb dX4_toFetch_45 (by decide) ?_
        exact wm_toFetch_49 hJ C0 hK hE _ ih _ _ _ _ _ _ _ _ _ hw hS (lv_sub hl [0, 1, 2, 3, 4] rfl) hf
set_option maxHeartbeats 4000000 in
set_option maxRecDepth 100000 in
theorem wm_toFetch_0 {p : Program} {l : Launch} {e : Env} {s : State} {m : MethodId} {args : Array Value} {below : List Frame} {meth : Method} {c : Code} {D : va_G} {L : Nat → Nat} {K : Nat → ClassId} (hJ : gj L 12) (C0 : gC cX4_toFetch 8 (some .int) wsX4_toFetch RX4 p s m args meth c) (hK : va_K D vwCl (tyG K) s) (hE : eM s) {w9 : St} {rs : Int32} : ∀ (x1 : Int32) (x2 : Int32) (w : St) (H : Heap) (locs : List Loc) (ls : Array Slot), va_P D vwCl (gl L 12 (cM L K w)) H → va_S (gA L 12) s.heap H locs → lv_has ls 8 [(0, .ref (L 0)), (1, .int x1), (2, .int x2)] → fm_toFetch x1 x2 w = some (rs, w9) → W p l e { frames := 5, cells := 0, slots := 0, locals := 116 } s m args below meth c H locs 0 0 (MQ below (qI D L 12 (cM L K) rs w9) args s 0 0 (gA L 12)) (F0 m 0 ls []) := by
  obtain ⟨hx, hb, hr, hml, hown, hts, hlk⟩ := id C0
  intro x1 x2 w H locs ls hw hS hl hf
  unfold fm_toFetch at hf
  refine lv_iload_n hx hb dX4_toFetch_0 rfl (lv_at hl 1 rfl) ?_
  refine lv_i2l (v := x1.toInt64) hx hb dX4_toFetch_1 rfl ?_
  refine lv_lconst (v := 0) hx hb dX4_toFetch_2 (by decide) ?_
  refine lv_ldc2 (v := 9) hx hb hown (hts (.constantLong RX4 119 9) (by decide +kernel)) dX4_toFetch_3 ?_
  obtain ⟨v6, h6, hf⟩ := bd_e hf
  refine z_calls (va_runS (As := [.long (x1.toInt64), .long 0, .long 9]) (rest := []) ⟨hx, hb, hml, hown, hts⟩ (km_in l (x1.toInt64) 0 9 h6) (va_cwS 3 hts gX4_toFetch_X4_in rfl rfl rfl (by decide +kernel) ⟨Nat.le_of_ble_eq_true rfl, Nat.le_of_ble_eq_true rfl⟩) z_preT rfl rfl hl.1 rfl (lv_room (Nat.le_of_ble_eq_true rfl)) dX4_toFetch_6 ⟨Nat.le_of_ble_eq_true rfl, Nat.le_of_ble_eq_true rfl⟩) ?_
  refine lv_if_ne (tgt := 15) hx hb dX4_toFetch_9 (by decide) (fun c9 => ?_) (fun c9 => ?_)
  · replace hf := if_f hf c9
    refine lv_bipush (v := (-9)) hx hb dX4_toFetch_15 (by decide) ?_
    refine lv_istore_n (lv' := [(3, .int (-9)), (0, .ref (L 0)), (1, .int x1), (2, .int x2)]) hx hb dX4_toFetch_17 rfl hl (by decide) rfl (fun ls hl => ?_)
    refine lv_iconst (v := 0) hx hb dX4_toFetch_18 (by decide) ?_
    refine lv_istore (lv' := [(4, .int 0), (3, .int (-9)), (0, .ref (L 0)), (1, .int x1), (2, .int x2)]) hx hb dX4_toFetch_19 hl (by decide) rfl (fun ls hl => ?_)
    exact wm_toFetch_21 hJ C0 hK hE _ _ _ _ _ _ _ _ _ hw hS (lv_sub hl [2, 3, 4, 1, 0] rfl) hf
  · replace hf := if_t hf c9
    refine lv_bipush (v := (-2)) hx hb dX4_toFetch_12 (by decide) ?_
    exact z_iret hx hb hr hlk hw hS hf dX4_toFetch_14
set_option maxHeartbeats 4000000 in
set_option maxRecDepth 100000 in
theorem km_toFetch (l : Launch) {D : va_G} {L : Nat → Nat} {K : Nat → ClassId} (hJ : gj L 12) (x1 : Int32) (x2 : Int32) (w : St) {w9 : St} {rs : Int32} (hf : fm_toFetch x1 x2 w = some (rs, w9)) : Met l yX4_toFetch wsX4_toFetch ({ frames := 5, cells := 0, slots := 0, locals := 116 }) (va_Pc [.ref (L 0), .int x1, .int x2] (mP D L K w)) (qI D L 12 (cM L K) rs w9) 0 0 (gA L 12) := by
  refine g_met (cc := cX4_toFetch) (nL := 8) (ret := (some .int)) (by decide) rfl (Nat.le_of_ble_eq_true rfl) (fun p e s m below meth c ls C0 hP hl => ?_)
  exact wm_toFetch_0 hJ C0 hP.2.1 hP.2.2 _ _ w _ _ ls hP.1 va_S.rf (lv_sub hl [0, 1, 2] rfl) hf
set_option maxRecDepth 20000 in
theorem ggX4_needed_X4_canBy : GoodIn wsX4_needed wsX4_canBy := goodIn_r _ [7, 1, 8, 9, 6, 10, 11, 12, 13, 14, 15, 16, 17, 18, 19, 20, 21, 22, 23, 24, 25, 26, 27, 28, 29, 30, 31, 32, 33, 34, 35, 36, 37, 38, 39, 40, 41, 42, 43, 44, 45, 46, 47, 48, 49, 53, 54, 55, 56, 57, 58, 59, 60, 61, 62, 63, 64, 65, 66, 67, 68, 69, 70, 71, 72, 73, 74, 75, 76] (by decide +kernel) (by decide +kernel)
set_option maxRecDepth 20000 in
theorem gX4_needed_X4_canBy : GoodIn wsX4_needed (wsV RX4 154 RX4 yX4_canBy wsX4_canBy) := goodIn_app (goodIn_of _ (by decide +kernel)) ggX4_needed_X4_canBy
set_option maxRecDepth 20000 in
theorem ggX4_needed_X4_ones : GoodIn wsX4_needed wsX4_ones := goodIn_r _ [52] (by decide +kernel) (by decide +kernel)
set_option maxRecDepth 20000 in
theorem gX4_needed_X4_ones : GoodIn wsX4_needed (va_wsS RX4 111 yX4_ones wsX4_ones) := goodIn_app (goodIn_of _ (by decide +kernel)) ggX4_needed_X4_ones
theorem dX4_needed_0 : decode cX4_needed 0 = .ok (.aload_n 0, 1) := by decide +kernel
theorem dX4_needed_1 : decode cX4_needed 1 = .ok (.aload_n 0, 1) := by decide +kernel
theorem dX4_needed_2 : decode cX4_needed 2 = .ok (.getfield 16, 3) := by decide +kernel
theorem dX4_needed_5 : decode cX4_needed 5 = .ok (.iconst 0, 1) := by decide +kernel
theorem dX4_needed_6 : decode cX4_needed 6 = .ok (.iaload, 1) := by decide +kernel
theorem dX4_needed_7 : decode cX4_needed 7 = .ok (.iconst 3, 1) := by decide +kernel
theorem dX4_needed_8 : decode cX4_needed 8 = .ok (.invokevirtual 154, 3) := by decide +kernel
theorem dX4_needed_11 : decode cX4_needed 11 = .ok (.istore_n 1, 1) := by decide +kernel
theorem dX4_needed_12 : decode cX4_needed 12 = .ok (.aload_n 0, 1) := by decide +kernel
theorem dX4_needed_13 : decode cX4_needed 13 = .ok (.getfield 16, 3) := by decide +kernel
theorem dX4_needed_16 : decode cX4_needed 16 = .ok (.iconst 0, 1) := by decide +kernel
theorem dX4_needed_17 : decode cX4_needed 17 = .ok (.iaload, 1) := by decide +kernel
theorem dX4_needed_18 : decode cX4_needed 18 = .ok (.istore_n 2, 1) := by decide +kernel
theorem dX4_needed_19 : decode cX4_needed 19 = .ok (.iconst 0, 1) := by decide +kernel
theorem dX4_needed_20 : decode cX4_needed 20 = .ok (.istore_n 3, 1) := by decide +kernel
theorem dX4_needed_21 : decode cX4_needed 21 = .ok (.iload_n 3, 1) := by decide +kernel
theorem dX4_needed_22 : decode cX4_needed 22 = .ok (.iconst 1, 1) := by decide +kernel
theorem dX4_needed_23 : decode cX4_needed 23 = .ok (.aload_n 0, 1) := by decide +kernel
theorem dX4_needed_24 : decode cX4_needed 24 = .ok (.getfield 74, 3) := by decide +kernel
theorem dX4_needed_27 : decode cX4_needed 27 = .ok (.ishl, 1) := by decide +kernel
theorem dX4_needed_28 : decode cX4_needed 28 = .ok (.if_icmp .ge 61, 3) := by decide +kernel
theorem dX4_needed_31 : decode cX4_needed 31 = .ok (.iload_n 3, 1) := by decide +kernel
theorem dX4_needed_32 : decode cX4_needed 32 = .ok (.aload_n 0, 1) := by decide +kernel
theorem dX4_needed_33 : decode cX4_needed 33 = .ok (.getfield 16, 3) := by decide +kernel
theorem dX4_needed_36 : decode cX4_needed 36 = .ok (.iconst 0, 1) := by decide +kernel
theorem dX4_needed_37 : decode cX4_needed 37 = .ok (.iaload, 1) := by decide +kernel
theorem dX4_needed_38 : decode cX4_needed 38 = .ok (.iconst (-1), 1) := by decide +kernel
theorem dX4_needed_39 : decode cX4_needed 39 = .ok (.ixor, 1) := by decide +kernel
theorem dX4_needed_40 : decode cX4_needed 40 = .ok (.iand, 1) := by decide +kernel
theorem dX4_needed_41 : decode cX4_needed 41 = .ok (.ifCond .ne 18, 3) := by decide +kernel
theorem dX4_needed_44 : decode cX4_needed 44 = .ok (.iload_n 3, 1) := by decide +kernel
theorem dX4_needed_45 : decode cX4_needed 45 = .ok (.invokestatic 111, 3) := by decide +kernel
theorem dX4_needed_48 : decode cX4_needed 48 = .ok (.iload_n 2, 1) := by decide +kernel
theorem dX4_needed_49 : decode cX4_needed 49 = .ok (.invokestatic 111, 3) := by decide +kernel
theorem dX4_needed_52 : decode cX4_needed 52 = .ok (.if_icmp .ge 7, 3) := by decide +kernel
theorem dX4_needed_55 : decode cX4_needed 55 = .ok (.iconst 1, 1) := by decide +kernel
theorem dX4_needed_56 : decode cX4_needed 56 = .ok (.goto 4, 3) := by decide +kernel
theorem dX4_needed_59 : decode cX4_needed 59 = .ok (.iconst 0, 1) := by decide +kernel
theorem dX4_needed_60 : decode cX4_needed 60 = .ok (.istore 4, 2) := by decide +kernel
theorem dX4_needed_62 : decode cX4_needed 62 = .ok (.iload 4, 2) := by decide +kernel
theorem dX4_needed_64 : decode cX4_needed 64 = .ok (.ifCond .eq 17, 3) := by decide +kernel
theorem dX4_needed_67 : decode cX4_needed 67 = .ok (.aload_n 0, 1) := by decide +kernel
theorem dX4_needed_68 : decode cX4_needed 68 = .ok (.iload_n 3, 1) := by decide +kernel
theorem dX4_needed_69 : decode cX4_needed 69 = .ok (.iconst 3, 1) := by decide +kernel
theorem dX4_needed_70 : decode cX4_needed 70 = .ok (.invokevirtual 154, 3) := by decide +kernel
theorem dX4_needed_73 : decode cX4_needed 73 = .ok (.iload_n 1, 1) := by decide +kernel
theorem dX4_needed_74 : decode cX4_needed 74 = .ok (.if_icmp .ne 7, 3) := by decide +kernel
theorem dX4_needed_77 : decode cX4_needed 77 = .ok (.iload_n 3, 1) := by decide +kernel
theorem dX4_needed_78 : decode cX4_needed 78 = .ok (.goto 4, 3) := by decide +kernel
theorem dX4_needed_81 : decode cX4_needed 81 = .ok (.iload_n 2, 1) := by decide +kernel
theorem dX4_needed_82 : decode cX4_needed 82 = .ok (.istore_n 2, 1) := by decide +kernel
theorem dX4_needed_83 : decode cX4_needed 83 = .ok (.iinc 3 1, 3) := by decide +kernel
theorem dX4_needed_86 : decode cX4_needed 86 = .ok (.goto (-65), 3) := by decide +kernel
theorem dX4_needed_89 : decode cX4_needed 89 = .ok (.iload_n 2, 1) := by decide +kernel
theorem dX4_needed_90 : decode cX4_needed 90 = .ok (.ireturn, 1) := by decide +kernel
set_option maxRecDepth 20000 in
theorem hiX4_needed_X4 : ∀ w ∈ u_ws RX4 TX4 24, w ∈ wsX4_needed := by decide +kernel
set_option maxHeartbeats 4000000 in
set_option maxRecDepth 100000 in
theorem wm_needed_82 {p : Program} {l : Launch} {e : Env} {s : State} {m : MethodId} {args : Array Value} {below : List Frame} {meth : Method} {c : Code} {D : va_G} {L : Nat → Nat} {K : Nat → ClassId} (hJ : gj L 12) (C0 : gC cX4_needed 5 (some .int) wsX4_needed RX4 p s m args meth c) (hK : va_K D vwCl (tyG K) s) (hE : eM s) {w9 : St} {rs : Int32} (k21 : Int32 → Int32 → Int32 → St → Option (Int32 × St)) (i21 : ∀ (x1 : Int32) (x2 : Int32) (x3 : Int32) (w : St) (H : Heap) (locs : List Loc) (ls : Array Slot), va_P D vwCl (gl L 12 (cM L K w)) H → va_S (gA L 12) s.heap H locs → lv_has ls 5 [(0, .ref (L 0)), (1, .int x1), (2, .int x2), (3, .int x3)] → k21 x1 x2 x3 w = some (rs, w9) → W p l e { frames := 5, cells := 0, slots := 0, locals := 117 } s m args below meth c H locs 0 0 (MQ below (qI D L 12 (cM L K) rs w9) args s 0 0 (gA L 12)) (F0 m 21 ls [])) : ∀ (x1 : Int32) (x3 : Int32) (s0 : Int32) (w : St) (H : Heap) (locs : List Loc) (ls : Array Slot), va_P D vwCl (gl L 12 (cM L K w)) H → va_S (gA L 12) s.heap H locs → lv_has ls 5 [(0, .ref (L 0)), (1, .int x1), (3, .int x3)] → fm_needed_82 k21 x1 x3 s0 w = some (rs, w9) → W p l e { frames := 5, cells := 0, slots := 0, locals := 117 } s m args below meth c H locs 0 0 (MQ below (qI D L 12 (cM L K) rs w9) args s 0 0 (gA L 12)) (F0 m 82 ls [.int s0]) := by
  obtain ⟨hx, hb, hr, hml, hown, hts, hlk⟩ := id C0
  intro x1 x3 s0 w H locs ls hw hS hl hf
  unfold fm_needed_82 at hf
  refine lv_istore_n (lv' := [(2, .int s0), (0, .ref (L 0)), (1, .int x1), (3, .int x3)]) hx hb dX4_needed_82 rfl hl (by decide) rfl (fun ls hl => ?_)
  refine lv_iinc (v := (x3 + 1)) (lv' := [(3, .int (x3 + 1)), (2, .int s0), (0, .ref (L 0)), (1, .int x1)]) hx hb dX4_needed_83 hl (k := 3) rfl rfl (by decide) rfl (fun ls hl => ?_)
  refine lv_goto (tgt := 21) hx hb dX4_needed_86 (by decide) ?_
  exact i21 _ _ _ _ _ _ _ hw hS (lv_sub hl [2, 3, 1, 0] rfl) hf
set_option maxHeartbeats 4000000 in
set_option maxRecDepth 100000 in
theorem wm_needed_81 {p : Program} {l : Launch} {e : Env} {s : State} {m : MethodId} {args : Array Value} {below : List Frame} {meth : Method} {c : Code} {D : va_G} {L : Nat → Nat} {K : Nat → ClassId} (hJ : gj L 12) (C0 : gC cX4_needed 5 (some .int) wsX4_needed RX4 p s m args meth c) (hK : va_K D vwCl (tyG K) s) (hE : eM s) {w9 : St} {rs : Int32} (k21 : Int32 → Int32 → Int32 → St → Option (Int32 × St)) (i21 : ∀ (x1 : Int32) (x2 : Int32) (x3 : Int32) (w : St) (H : Heap) (locs : List Loc) (ls : Array Slot), va_P D vwCl (gl L 12 (cM L K w)) H → va_S (gA L 12) s.heap H locs → lv_has ls 5 [(0, .ref (L 0)), (1, .int x1), (2, .int x2), (3, .int x3)] → k21 x1 x2 x3 w = some (rs, w9) → W p l e { frames := 5, cells := 0, slots := 0, locals := 117 } s m args below meth c H locs 0 0 (MQ below (qI D L 12 (cM L K) rs w9) args s 0 0 (gA L 12)) (F0 m 21 ls [])) : ∀ (x1 : Int32) (x2 : Int32) (x3 : Int32) (w : St) (H : Heap) (locs : List Loc) (ls : Array Slot), va_P D vwCl (gl L 12 (cM L K w)) H → va_S (gA L 12) s.heap H locs → lv_has ls 5 [(0, .ref (L 0)), (1, .int x1), (2, .int x2), (3, .int x3)] → fm_needed_81 k21 x1 x2 x3 w = some (rs, w9) → W p l e { frames := 5, cells := 0, slots := 0, locals := 117 } s m args below meth c H locs 0 0 (MQ below (qI D L 12 (cM L K) rs w9) args s 0 0 (gA L 12)) (F0 m 81 ls []) := by
  obtain ⟨hx, hb, hr, hml, hown, hts, hlk⟩ := id C0
  intro x1 x2 x3 w H locs ls hw hS hl hf
  unfold fm_needed_81 at hf
  refine lv_iload_n hx hb dX4_needed_81 rfl (lv_at hl 2 rfl) ?_
  exact wm_needed_82 hJ C0 hK hE _ i21 _ _ _ _ _ _ _ hw hS (lv_sub hl [0, 1, 3] rfl) hf
set_option maxHeartbeats 4000000 in
set_option maxRecDepth 100000 in
theorem wm_needed_60 {p : Program} {l : Launch} {e : Env} {s : State} {m : MethodId} {args : Array Value} {below : List Frame} {meth : Method} {c : Code} {D : va_G} {L : Nat → Nat} {K : Nat → ClassId} (hJ : gj L 12) (C0 : gC cX4_needed 5 (some .int) wsX4_needed RX4 p s m args meth c) (hK : va_K D vwCl (tyG K) s) (hE : eM s) {w9 : St} {rs : Int32} (k21 : Int32 → Int32 → Int32 → St → Option (Int32 × St)) (i21 : ∀ (x1 : Int32) (x2 : Int32) (x3 : Int32) (w : St) (H : Heap) (locs : List Loc) (ls : Array Slot), va_P D vwCl (gl L 12 (cM L K w)) H → va_S (gA L 12) s.heap H locs → lv_has ls 5 [(0, .ref (L 0)), (1, .int x1), (2, .int x2), (3, .int x3)] → k21 x1 x2 x3 w = some (rs, w9) → W p l e { frames := 5, cells := 0, slots := 0, locals := 117 } s m args below meth c H locs 0 0 (MQ below (qI D L 12 (cM L K) rs w9) args s 0 0 (gA L 12)) (F0 m 21 ls [])) : ∀ (x1 : Int32) (x2 : Int32) (x3 : Int32) (s0 : Int32) (w : St) (H : Heap) (locs : List Loc) (ls : Array Slot), va_P D vwCl (gl L 12 (cM L K w)) H → va_S (gA L 12) s.heap H locs → lv_has ls 5 [(0, .ref (L 0)), (1, .int x1), (2, .int x2), (3, .int x3)] → fm_needed_60 k21 x1 x2 x3 s0 w = some (rs, w9) → W p l e { frames := 5, cells := 0, slots := 0, locals := 117 } s m args below meth c H locs 0 0 (MQ below (qI D L 12 (cM L K) rs w9) args s 0 0 (gA L 12)) (F0 m 60 ls [.int s0]) := by
  obtain ⟨hx, hb, hr, hml, hown, hts, hlk⟩ := id C0
  intro x1 x2 x3 s0 w H locs ls hw hS hl hf
  unfold fm_needed_60 at hf
  refine lv_istore (lv' := [(4, .int s0), (0, .ref (L 0)), (1, .int x1), (2, .int x2), (3, .int x3)]) hx hb dX4_needed_60 hl (by decide) rfl (fun ls hl => ?_)
  refine lv_iload hx hb dX4_needed_62 (lv_at hl 0 rfl) ?_
  refine lv_if_eq (tgt := 81) hx hb dX4_needed_64 (by decide) (fun c64 => ?_) (fun c64 => ?_)
  · replace hf := if_t hf c64
    exact wm_needed_81 hJ C0 hK hE _ i21 _ _ _ _ _ _ _ hw hS (lv_sub hl [1, 2, 3, 4] rfl) hf
  · replace hf := if_f hf c64
    refine lv_aload_n hx hb dX4_needed_67 rfl (lv_at hl 1 rfl) ?_
    refine lv_iload_n hx hb dX4_needed_68 rfl (lv_at hl 4 rfl) ?_
    refine lv_iconst (v := 3) hx hb dX4_needed_69 (by decide) ?_
    obtain ⟨q70, h70, hf⟩ := bd_e hf
    refine z_calli (va_runV (As := [.int x3, .int 3]) (rest := []) ⟨hx, hb, hml, hown, hts⟩ (km_canBy l (D := D) (K := K) hJ x3 3 w  h70) (cwV 2 hts gX4_needed_X4_canBy rfl rfl rfl (by decide +kernel) ⟨Nat.le_of_ble_eq_true rfl, Nat.le_of_ble_eq_true rfl⟩) (z_preV eM_ok hK hE hw hS (by decide) ((fun w => rfl) _) (T := TX4) (M := 24) rfl) rfl rfl hl.1 rfl (lv_room (Nat.le_of_ble_eq_true rfl)) dX4_needed_70 ⟨Nat.le_of_ble_eq_true rfl, Nat.le_of_ble_eq_true rfl⟩) hS (fun H locs hw hS => ?_)
    refine lv_iload_n hx hb dX4_needed_73 rfl (lv_at hl 2 rfl) ?_
    refine lv_icmp_ne (tgt := 81) hx hb dX4_needed_74 (by decide) (fun c74 => ?_) (fun c74 => ?_)
    · replace hf := if_f hf c74
      exact wm_needed_81 hJ C0 hK hE _ i21 _ _ _ _ _ _ _ hw hS (lv_sub hl [1, 2, 3, 4] rfl) hf
    · replace hf := if_t hf c74
      refine lv_iload_n hx hb dX4_needed_77 rfl (lv_at hl 4 rfl) ?_
      refine lv_goto (tgt := 82) hx hb dX4_needed_78 (by decide) ?_
      exact wm_needed_82 hJ C0 hK hE _ i21 _ _ _ _ _ _ _ hw hS (lv_sub hl [1, 2, 4] rfl) hf
set_option maxHeartbeats 4000000 in
set_option maxRecDepth 100000 in
theorem wm_needed_59 {p : Program} {l : Launch} {e : Env} {s : State} {m : MethodId} {args : Array Value} {below : List Frame} {meth : Method} {c : Code} {D : va_G} {L : Nat → Nat} {K : Nat → ClassId} (hJ : gj L 12) (C0 : gC cX4_needed 5 (some .int) wsX4_needed RX4 p s m args meth c) (hK : va_K D vwCl (tyG K) s) (hE : eM s) {w9 : St} {rs : Int32} (k21 : Int32 → Int32 → Int32 → St → Option (Int32 × St)) (i21 : ∀ (x1 : Int32) (x2 : Int32) (x3 : Int32) (w : St) (H : Heap) (locs : List Loc) (ls : Array Slot), va_P D vwCl (gl L 12 (cM L K w)) H → va_S (gA L 12) s.heap H locs → lv_has ls 5 [(0, .ref (L 0)), (1, .int x1), (2, .int x2), (3, .int x3)] → k21 x1 x2 x3 w = some (rs, w9) → W p l e { frames := 5, cells := 0, slots := 0, locals := 117 } s m args below meth c H locs 0 0 (MQ below (qI D L 12 (cM L K) rs w9) args s 0 0 (gA L 12)) (F0 m 21 ls [])) : ∀ (x1 : Int32) (x2 : Int32) (x3 : Int32) (w : St) (H : Heap) (locs : List Loc) (ls : Array Slot), va_P D vwCl (gl L 12 (cM L K w)) H → va_S (gA L 12) s.heap H locs → lv_has ls 5 [(0, .ref (L 0)), (1, .int x1), (2, .int x2), (3, .int x3)] → fm_needed_59 k21 x1 x2 x3 w = some (rs, w9) → W p l e { frames := 5, cells := 0, slots := 0, locals := 117 } s m args below meth c H locs 0 0 (MQ below (qI D L 12 (cM L K) rs w9) args s 0 0 (gA L 12)) (F0 m 59 ls []) := by
  obtain ⟨hx, hb, hr, hml, hown, hts, hlk⟩ := id C0
  intro x1 x2 x3 w H locs ls hw hS hl hf
  unfold fm_needed_59 at hf
  refine lv_iconst (v := 0) hx hb dX4_needed_59 (by decide) ?_
  exact wm_needed_60 hJ C0 hK hE _ i21 _ _ _ _ _ _ _ _ hw hS (lv_sub hl [0, 1, 2, 3] rfl) hf
set_option maxHeartbeats 4000000 in
set_option maxRecDepth 100000 in
theorem wm_needed_21 {p : Program} {l : Launch} {e : Env} {s : State} {m : MethodId} {args : Array Value} {below : List Frame} {meth : Method} {c : Code} {D : va_G} {L : Nat → Nat} {K : Nat → ClassId} (hJ : gj L 12) (C0 : gC cX4_needed 5 (some .int) wsX4_needed RX4 p s m args meth c) (hK : va_K D vwCl (tyG K) s) (hE : eM s) {w9 : St} {rs : Int32} : ∀ (fu : Nat) (x1 : Int32) (x2 : Int32) (x3 : Int32) (w : St) (H : Heap) (locs : List Loc) (ls : Array Slot), va_P D vwCl (gl L 12 (cM L K w)) H → va_S (gA L 12) s.heap H locs → lv_has ls 5 [(0, .ref (L 0)), (1, .int x1), (2, .int x2), (3, .int x3)] → fm_needed_21 fu x1 x2 x3 w = some (rs, w9) → W p l e { frames := 5, cells := 0, slots := 0, locals := 117 } s m args below meth c H locs 0 0 (MQ below (qI D L 12 (cM L K) rs w9) args s 0 0 (gA L 12)) (F0 m 21 ls []) := by
  obtain ⟨hx, hb, hr, hml, hown, hts, hlk⟩ := id C0
  intro fu
  induction fu with
  | zero =>
    intro x1 x2 x3 w H locs ls hw hS hl hf
    rw [fm_needed_21] at hf
    exact no_n hf
  | succ fu ih =>
    intro x1 x2 x3 w H locs ls hw hS hl hf
    rw [fm_needed_21] at hf
    refine lv_iload_n hx hb dX4_needed_21 rfl (lv_at hl 3 rfl) ?_
    refine lv_iconst (v := 1) hx hb dX4_needed_22 (by decide) ?_
    refine lv_aload_n hx hb dX4_needed_23 rfl (lv_at hl 0 rfl) ?_
    refine z_get (v := .int (w.1 0 0)) hx hb hts hiX4_needed_X4 hown hK hw (k := 0) (by decide) ((fun w => rfl) _) rfl 0 (by decide) (hts (.fieldLink RX4 74 "OneSentenceModel" "people" "I") (by decide +kernel)) rfl dX4_needed_24 ?_
    refine lv_ishl hx hb dX4_needed_27 ?_
    refine lv_icmp_ge (tgt := 89) hx hb dX4_needed_28 (by decide) (fun c28 => ?_) (fun c28 => ?_)
    · replace hf := if_t hf c28
      refine lv_iload_n hx hb dX4_needed_89 rfl (lv_at hl 2 rfl) ?_
      exact z_iret hx hb hr hlk hw hS hf dX4_needed_90
    · replace hf := if_f hf c28
      refine lv_iload_n hx hb dX4_needed_31 rfl (lv_at hl 3 rfl) ?_
      refine lv_aload_n hx hb dX4_needed_32 rfl (lv_at hl 0 rfl) ?_
      refine z_get (v := .ref (L 3)) hx hb hts hiX4_needed_X4 hown hK hw (k := 0) (by decide) ((fun w => rfl) _) rfl 4 (by decide) (hts (.fieldLink RX4 16 "OneSentenceModel" "now" "[I") (by decide +kernel)) rfl dX4_needed_33 ?_
      refine lv_iconst (v := 0) hx hb dX4_needed_36 (by decide) ?_
      obtain ⟨v37, h37, hf⟩ := bd_e hf
      refine z_iald hx hb hK hw 0 (k := 3) (by decide) ((fun w => rfl) _) rfl h37 dX4_needed_37 ?_
      refine lv_iconst (v := (-1)) hx hb dX4_needed_38 (by decide) ?_
      refine lv_ixor hx hb dX4_needed_39 ?_
      refine lv_iand hx hb dX4_needed_40 ?_
      refine lv_if_ne (tgt := 59) hx hb dX4_needed_41 (by decide) (fun c41 => ?_) (fun c41 => ?_)
      · replace hf := if_f hf c41
        exact wm_needed_59 hJ C0 hK hE _ ih _ _ _ _ _ _ _ hw hS (lv_sub hl [0, 1, 2, 3] rfl) hf
      · replace hf := if_t hf c41
        refine lv_iload_n hx hb dX4_needed_44 rfl (lv_at hl 3 rfl) ?_
        obtain ⟨v45, h45, hf⟩ := bd_e hf
        refine z_calls (va_runS (As := [.int x3]) (rest := []) ⟨hx, hb, hml, hown, hts⟩ (km_ones l x3 h45) (va_cwS 1 hts gX4_needed_X4_ones rfl rfl rfl (by decide +kernel) ⟨Nat.le_of_ble_eq_true rfl, Nat.le_of_ble_eq_true rfl⟩) z_preT rfl rfl hl.1 rfl (lv_room (Nat.le_of_ble_eq_true rfl)) dX4_needed_45 ⟨Nat.le_of_ble_eq_true rfl, Nat.le_of_ble_eq_true rfl⟩) ?_
        refine lv_iload_n hx hb dX4_needed_48 rfl (lv_at hl 2 rfl) ?_
        obtain ⟨v49, h49, hf⟩ := bd_e hf
        refine z_calls (va_runS (As := [.int x2]) (rest := [.int v45]) ⟨hx, hb, hml, hown, hts⟩ (km_ones l x2 h49) (va_cwS 1 hts gX4_needed_X4_ones rfl rfl rfl (by decide +kernel) ⟨Nat.le_of_ble_eq_true rfl, Nat.le_of_ble_eq_true rfl⟩) z_preT rfl rfl hl.1 rfl (lv_room (Nat.le_of_ble_eq_true rfl)) dX4_needed_49 ⟨Nat.le_of_ble_eq_true rfl, Nat.le_of_ble_eq_true rfl⟩) ?_
        refine lv_icmp_ge (tgt := 59) hx hb dX4_needed_52 (by decide) (fun c52 => ?_) (fun c52 => ?_)
        · replace hf := if_t hf c52
          exact wm_needed_59 hJ C0 hK hE _ ih _ _ _ _ _ _ _ hw hS (lv_sub hl [0, 1, 2, 3] rfl) hf
        · replace hf := if_f hf c52
          refine lv_iconst (v := 1) hx hb dX4_needed_55 (by decide) ?_
          refine lv_goto (tgt := 60) hx hb dX4_needed_56 (by decide) ?_
          exact wm_needed_60 hJ C0 hK hE _ ih _ _ _ _ _ _ _ _ hw hS (lv_sub hl [0, 1, 2, 3] rfl) hf
set_option maxHeartbeats 4000000 in
set_option maxRecDepth 100000 in
theorem wm_needed_0 {p : Program} {l : Launch} {e : Env} {s : State} {m : MethodId} {args : Array Value} {below : List Frame} {meth : Method} {c : Code} {D : va_G} {L : Nat → Nat} {K : Nat → ClassId} (hJ : gj L 12) (C0 : gC cX4_needed 5 (some .int) wsX4_needed RX4 p s m args meth c) (hK : va_K D vwCl (tyG K) s) (hE : eM s) {w9 : St} {rs : Int32} : ∀ (w : St) (H : Heap) (locs : List Loc) (ls : Array Slot), va_P D vwCl (gl L 12 (cM L K w)) H → va_S (gA L 12) s.heap H locs → lv_has ls 5 [(0, .ref (L 0))] → fm_needed w = some (rs, w9) → W p l e { frames := 5, cells := 0, slots := 0, locals := 117 } s m args below meth c H locs 0 0 (MQ below (qI D L 12 (cM L K) rs w9) args s 0 0 (gA L 12)) (F0 m 0 ls []) := by
  obtain ⟨hx, hb, hr, hml, hown, hts, hlk⟩ := id C0
  intro w H locs ls hw hS hl hf
  unfold fm_needed at hf
  refine lv_aload_n hx hb dX4_needed_0 rfl (lv_at hl 0 rfl) ?_
  refine lv_aload_n hx hb dX4_needed_1 rfl (lv_at hl 0 rfl) ?_
  refine z_get (v := .ref (L 3)) hx hb hts hiX4_needed_X4 hown hK hw (k := 0) (by decide) ((fun w => rfl) _) rfl 4 (by decide) (hts (.fieldLink RX4 16 "OneSentenceModel" "now" "[I") (by decide +kernel)) rfl dX4_needed_2 ?_
  refine lv_iconst (v := 0) hx hb dX4_needed_5 (by decide) ?_
  obtain ⟨v6, h6, hf⟩ := bd_e hf
  refine z_iald hx hb hK hw 0 (k := 3) (by decide) ((fun w => rfl) _) rfl h6 dX4_needed_6 ?_
  refine lv_iconst (v := 3) hx hb dX4_needed_7 (by decide) ?_
  obtain ⟨q8, h8, hf⟩ := bd_e hf
  refine z_calli (va_runV (As := [.int v6, .int 3]) (rest := []) ⟨hx, hb, hml, hown, hts⟩ (km_canBy l (D := D) (K := K) hJ v6 3 w  h8) (cwV 2 hts gX4_needed_X4_canBy rfl rfl rfl (by decide +kernel) ⟨Nat.le_of_ble_eq_true rfl, Nat.le_of_ble_eq_true rfl⟩) (z_preV eM_ok hK hE hw hS (by decide) ((fun w => rfl) _) (T := TX4) (M := 24) rfl) rfl rfl hl.1 rfl (lv_room (Nat.le_of_ble_eq_true rfl)) dX4_needed_8 ⟨Nat.le_of_ble_eq_true rfl, Nat.le_of_ble_eq_true rfl⟩) hS (fun H locs hw hS => ?_)
  refine lv_topi (fun v11 e11 => ?_)
  replace hf := lb_e hf e11
  refine lv_istore_n (lv' := [(1, .int v11), (0, .ref (L 0))]) hx hb dX4_needed_11 rfl hl (by decide) rfl (fun ls hl => ?_)
  refine lv_aload_n hx hb dX4_needed_12 rfl (lv_at hl 1 rfl) ?_
  refine z_get (v := .ref (L 3)) hx hb hts hiX4_needed_X4 hown hK hw (k := 0) (by decide) ((fun w => rfl) _) rfl 4 (by decide) (hts (.fieldLink RX4 16 "OneSentenceModel" "now" "[I") (by decide +kernel)) rfl dX4_needed_13 ?_
  refine lv_iconst (v := 0) hx hb dX4_needed_16 (by decide) ?_
  obtain ⟨v17, h17, hf⟩ := bd_e hf
  refine z_iald hx hb hK hw 0 (k := 3) (by decide) ((fun w => rfl) _) rfl h17 dX4_needed_17 ?_
  refine lv_istore_n (lv' := [(2, .int v17), (1, .int v11), (0, .ref (L 0))]) hx hb dX4_needed_18 rfl hl (by decide) rfl (fun ls hl => ?_)
  refine lv_iconst (v := 0) hx hb dX4_needed_19 (by decide) ?_
  refine lv_istore_n (lv' := [(3, .int 0), (2, .int v17), (1, .int v11), (0, .ref (L 0))]) hx hb dX4_needed_20 rfl hl (by decide) rfl (fun ls hl => ?_)
  exact wm_needed_21 hJ C0 hK hE _ _ _ _ _ _ _ _ hw hS (lv_sub hl [3, 2, 1, 0] rfl) hf
set_option maxHeartbeats 4000000 in
set_option maxRecDepth 100000 in
theorem km_needed (l : Launch) {D : va_G} {L : Nat → Nat} {K : Nat → ClassId} (hJ : gj L 12) (w : St) {w9 : St} {rs : Int32} (hf : fm_needed w = some (rs, w9)) : Met l yX4_needed wsX4_needed ({ frames := 5, cells := 0, slots := 0, locals := 117 }) (va_Pc [.ref (L 0)] (mP D L K w)) (qI D L 12 (cM L K) rs w9) 0 0 (gA L 12) := by
  refine g_met (cc := cX4_needed) (nL := 5) (ret := (some .int)) (by decide) rfl (Nat.le_of_ble_eq_true rfl) (fun p e s m below meth c ls C0 hP hl => ?_)
  exact wm_needed_0 hJ C0 hP.2.1 hP.2.2 w _ _ ls hP.1 va_S.rf (lv_sub hl [0] rfl) hf
