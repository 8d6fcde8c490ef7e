set_option maxRecDepth 20000 in
theorem ggX3_naming_X3_sensesBy : GoodIn wsX3_naming wsX3_sensesBy := goodIn_r _ [7, 8, 9, 10, 11, 12, 13, 14, 15, 16, 6, 17, 18, 19, 20, 21, 22, 23, 24, 25, 26, 27, 28, 29, 2, 30, 31, 32, 33, 34, 35, 36, 37, 38, 39, 40, 41, 42, 43, 44, 45, 46, 47, 48, 49, 50, 51, 52, 53, 54, 1, 55, 56, 57, 58, 59, 60, 68, 69, 70, 71, 72, 73, 74, 75, 76, 77, 78, 79, 80, 81, 82, 83, 84, 85, 90, 91, 92, 93, 94, 95, 86, 87, 88, 89] (by decide +kernel) (by decide +kernel)
set_option maxRecDepth 20000 in
theorem gX3_naming_X3_sensesBy : GoodIn wsX3_naming (wsV RX3 159 RX3 yX3_sensesBy wsX3_sensesBy) := goodIn_app (goodIn_of _ (by decide +kernel)) ggX3_naming_X3_sensesBy
set_option maxRecDepth 20000 in
theorem ggX3_naming_J6_bitCount_0f7a4 : GoodIn wsX3_naming wsJ6_bitCount_0f7a4 := goodIn_r _ [64, 65, 66, 67] (by decide +kernel) (by decide +kernel)
set_option maxRecDepth 20000 in
theorem gX3_naming_J6_bitCount_0f7a4 : GoodIn wsX3_naming (va_wsS RX3 119 yJ6_bitCount_0f7a4 wsJ6_bitCount_0f7a4) := goodIn_app (goodIn_of _ (by decide +kernel)) ggX3_naming_J6_bitCount_0f7a4
theorem dX3_naming_0 : decode cX3_naming 0 = .ok (.iload_n 1, 1) := by decide +kernel
theorem dX3_naming_1 : decode cX3_naming 1 = .ok (.iconst 1, 1) := by decide +kernel
theorem dX3_naming_2 : decode cX3_naming 2 = .ok (.if_icmp .lt 8, 3) := by decide +kernel
theorem dX3_naming_5 : decode cX3_naming 5 = .ok (.iload_n 1, 1) := by decide +kernel
theorem dX3_naming_6 : decode cX3_naming 6 = .ok (.iconst 3, 1) := by decide +kernel
theorem dX3_naming_7 : decode cX3_naming 7 = .ok (.if_icmp .le 6, 3) := by decide +kernel
theorem dX3_naming_10 : decode cX3_naming 10 = .ok (.bipush (-2), 2) := by decide +kernel
theorem dX3_naming_12 : decode cX3_naming 12 = .ok (.ireturn, 1) := by decide +kernel
theorem dX3_naming_13 : decode cX3_naming 13 = .ok (.iconst 0, 1) := by decide +kernel
theorem dX3_naming_14 : decode cX3_naming 14 = .ok (.istore_n 3, 1) := by decide +kernel
theorem dX3_naming_15 : decode cX3_naming 15 = .ok (.iconst 0, 1) := by decide +kernel
theorem dX3_naming_16 : decode cX3_naming 16 = .ok (.istore 4, 2) := by decide +kernel
theorem dX3_naming_18 : decode cX3_naming 18 = .ok (.iconst 0, 1) := by decide +kernel
theorem dX3_naming_19 : decode cX3_naming 19 = .ok (.istore 5, 2) := by decide +kernel
theorem dX3_naming_21 : decode cX3_naming 21 = .ok (.iload 5, 2) := by decide +kernel
theorem dX3_naming_23 : decode cX3_naming 23 = .ok (.bipush 40, 2) := by decide +kernel
theorem dX3_naming_25 : decode cX3_naming 25 = .ok (.if_icmp .ge 49, 3) := by decide +kernel
theorem dX3_naming_28 : decode cX3_naming 28 = .ok (.aload_n 0, 1) := by decide +kernel
theorem dX3_naming_29 : decode cX3_naming 29 = .ok (.iload 5, 2) := by decide +kernel
theorem dX3_naming_31 : decode cX3_naming 31 = .ok (.putfield 171, 3) := by decide +kernel
theorem dX3_naming_34 : decode cX3_naming 34 = .ok (.aload_n 0, 1) := by decide +kernel
theorem dX3_naming_35 : decode cX3_naming 35 = .ok (.aload_n 0, 1) := by decide +kernel
theorem dX3_naming_36 : decode cX3_naming 36 = .ok (.getfield 23, 3) := by decide +kernel
theorem dX3_naming_39 : decode cX3_naming 39 = .ok (.getfield 93, 3) := by decide +kernel
theorem dX3_naming_42 : decode cX3_naming 42 = .ok (.bipush 64, 2) := by decide +kernel
theorem dX3_naming_44 : decode cX3_naming 44 = .ok (.ior, 1) := by decide +kernel
theorem dX3_naming_45 : decode cX3_naming 45 = .ok (.iload_n 1, 1) := by decide +kernel
theorem dX3_naming_46 : decode cX3_naming 46 = .ok (.invokevirtual 159, 3) := by decide +kernel
theorem dX3_naming_49 : decode cX3_naming 49 = .ok (.invokestatic 119, 3) := by decide +kernel
theorem dX3_naming_52 : decode cX3_naming 52 = .ok (.istore 6, 2) := by decide +kernel
theorem dX3_naming_54 : decode cX3_naming 54 = .ok (.iload 6, 2) := by decide +kernel
theorem dX3_naming_56 : decode cX3_naming 56 = .ok (.iload 4, 2) := by decide +kernel
theorem dX3_naming_58 : decode cX3_naming 58 = .ok (.if_icmp .le 10, 3) := by decide +kernel
theorem dX3_naming_61 : decode cX3_naming 61 = .ok (.iload 6, 2) := by decide +kernel
theorem dX3_naming_63 : decode cX3_naming 63 = .ok (.istore 4, 2) := by decide +kernel
theorem dX3_naming_65 : decode cX3_naming 65 = .ok (.iload 5, 2) := by decide +kernel
theorem dX3_naming_67 : decode cX3_naming 67 = .ok (.istore_n 3, 1) := by decide +kernel
theorem dX3_naming_68 : decode cX3_naming 68 = .ok (.iinc 5 1, 3) := by decide +kernel
theorem dX3_naming_71 : decode cX3_naming 71 = .ok (.goto (-50), 3) := by decide +kernel
theorem dX3_naming_74 : decode cX3_naming 74 = .ok (.iload_n 2, 1) := by decide +kernel
theorem dX3_naming_75 : decode cX3_naming 75 = .ok (.ifCond .eq 8, 3) := by decide +kernel
theorem dX3_naming_78 : decode cX3_naming 78 = .ok (.iload 4, 2) := by decide +kernel
theorem dX3_naming_80 : decode cX3_naming 80 = .ok (.goto 4, 3) := by decide +kernel
theorem dX3_naming_83 : decode cX3_naming 83 = .ok (.iload_n 3, 1) := by decide +kernel
theorem dX3_naming_84 : decode cX3_naming 84 = .ok (.ireturn, 1) := by decide +kernel
set_option maxRecDepth 20000 in
theorem hiX3_naming_X0 : ∀ w ∈ u_ws RX0 TX0 4, w ∈ wsX3_naming := by decide +kernel
set_option maxRecDepth 20000 in
theorem hiX3_naming_X3 : ∀ w ∈ u_ws RX3 TX3 18, w ∈ wsX3_naming := by decide +kernel
set_option maxHeartbeats 4000000 in
set_option maxRecDepth 100000 in
theorem wx_naming_68 {p : Program} {l : Launch} {e : Env} {s : State} {m : MethodId} {args : Array Value} {below : List Frame} {meth : Method} {c : Code} {D : va_G} {L : Nat → Nat} {K : Nat → ClassId} {t0 : Nat} (hJ : gj L 81) (C0 : gC cX3_naming 7 (some .int) wsX3_naming RX3 p s m args meth c) (hK : va_K D vwCl (tyG K) s) (hE : eX L t0 s) {w9 : St} {rs : Int32} (k21 : Int32 → Int32 → Int32 → Int32 → Int32 → St → Option (Int32 × St)) (i21 : ∀ (x1 : Int32) (x2 : Int32) (x3 : Int32) (x4 : Int32) (x5 : Int32) (w : St) (H : Heap) (locs : List Loc) (ls : Array Slot), va_P D vwCl (gl L 81 (cX L K w)) H → va_S (gA L 81) s.heap H locs → lv_has ls 7 [(0, .ref (L 0)), (1, .int x1), (2, .int x2), (3, .int x3), (4, .int x4), (5, .int x5)] → k21 x1 x2 x3 x4 x5 w = some (rs, w9) → W p l e { frames := 5, cells := 0, slots := 0, locals := 120 } s m args below meth c H locs 0 0 (MQ below (qI D L 81 (cX L K) rs w9) args s 0 0 (gA L 81)) (F0 m 21 ls [])) : ∀ (x1 : Int32) (x2 : Int32) (x3 : Int32) (x4 : Int32) (x5 : Int32) (w : St) (H : Heap) (locs : List Loc) (ls : Array Slot), va_P D vwCl (gl L 81 (cX L K w)) H → va_S (gA L 81) s.heap H locs → lv_has ls 7 [(0, .ref (L 0)), (1, .int x1), (2, .int x2), (3, .int x3), (4, .int x4), (5, .int x5)] → fx_naming_68 k21 x1 x2 x3 x4 x5 w = some (rs, w9) → W p l e { frames := 5, cells := 0, slots := 0, locals := 120 } s m args below meth c H locs 0 0 (MQ below (qI D L 81 (cX L K) rs w9) args s 0 0 (gA L 81)) (F0 m 68 ls []) := by
  obtain ⟨hx, hb, hr, hml, hown, hts, hlk⟩ := id C0
  intro x1 x2 x3 x4 x5 w H locs ls hw hS hl hf
  unfold fx_naming_68 at hf
  refine lv_iinc (v := (x5 + 1)) (lv' := [(5, .int (x5 + 1)), (0, .ref (L 0)), (1, .int x1), (2, .int x2), (3, .int x3), (4, .int x4)]) hx hb dX3_naming_68 hl (k := 5) rfl rfl (by decide) rfl (fun ls hl => ?_)
  refine lv_goto (tgt := 21) hx hb dX3_naming_71 (by decide) ?_
  exact i21 _ _ _ _ _ _ _ _ _ hw hS (lv_sub hl [1, 2, 3, 4, 5, 0] rfl) hf
set_option maxHeartbeats 4000000 in
set_option maxRecDepth 100000 in
theorem wx_naming_21 {p : Program} {l : Launch} {e : Env} {s : State} {m : MethodId} {args : Array Value} {below : List Frame} {meth : Method} {c : Code} {D : va_G} {L : Nat → Nat} {K : Nat → ClassId} {t0 : Nat} (hJ : gj L 81) (C0 : gC cX3_naming 7 (some .int) wsX3_naming RX3 p s m args meth c) (hK : va_K D vwCl (tyG K) s) (hE : eX L t0 s) {w9 : St} {rs : Int32} : ∀ (fu : Nat) (x1 : Int32) (x2 : Int32) (x3 : Int32) (x4 : Int32) (x5 : Int32) (w : St) (H : Heap) (locs : List Loc) (ls : Array Slot), va_P D vwCl (gl L 81 (cX L K w)) H → va_S (gA L 81) s.heap H locs → lv_has ls 7 [(0, .ref (L 0)), (1, .int x1), (2, .int x2), (3, .int x3), (4, .int x4), (5, .int x5)] → fx_naming_21 fu x1 x2 x3 x4 x5 w = some (rs, w9) → W p l e { frames := 5, cells := 0, slots := 0, locals := 120 } s m args below meth c H locs 0 0 (MQ below (qI D L 81 (cX L K) rs w9) args s 0 0 (gA L 81)) (F0 m 21 ls []) := by
  obtain ⟨hx, hb, hr, hml, hown, hts, hlk⟩ := id C0
  intro fu
  induction fu with
  | zero =>
    intro x1 x2 x3 x4 x5 w H locs ls hw hS hl hf
    rw [fx_naming_21] at hf
    exact no_n hf
  | succ fu ih =>
    intro x1 x2 x3 x4 x5 w H locs ls hw hS hl hf
    rw [fx_naming_21] at hf
    refine lv_iload hx hb dX3_naming_21 (lv_at hl 5 rfl) ?_
    refine lv_bipush (v := 40) hx hb dX3_naming_23 (by decide) ?_
    refine lv_icmp_ge (tgt := 74) hx hb dX3_naming_25 (by decide) (fun c25 => ?_) (fun c25 => ?_)
    · replace hf := if_t hf c25
      refine lv_iload_n hx hb dX3_naming_74 rfl (lv_at hl 2 rfl) ?_
      refine lv_if_eq (tgt := 83) hx hb dX3_naming_75 (by decide) (fun c75 => ?_) (fun c75 => ?_)
      · replace hf := if_t hf c75
        refine lv_iload_n hx hb dX3_naming_83 rfl (lv_at hl 3 rfl) ?_
        exact z_iret hx hb hr hlk hw hS hf dX3_naming_84
      · replace hf := if_f hf c75
        refine lv_iload hx hb dX3_naming_78 (lv_at hl 4 rfl) ?_
        refine lv_goto (tgt := 84) hx hb dX3_naming_80 (by decide) ?_
        exact z_iret hx hb hr hlk hw hS hf dX3_naming_84
    · replace hf := if_f hf c25
      refine lv_aload_n hx hb dX3_naming_28 rfl (lv_at hl 0 rfl) ?_
      refine lv_iload hx hb dX3_naming_29 (lv_at hl 5 rfl) ?_
      refine z_puti hx hb hts hiX3_naming_X3 tyX3 tyX3_ok nmX3 hown hK hJ hw hS (k := 0) kc_0.2 cX_ne (fs := (fX0 L)) (cX_a0 kc_0.1) rfl 15 (by decide) (hts (.fieldLink RX3 171 "OneSentence" "oneMoreSentence" "I") (by decide +kernel)) rfl rfl (fun _ _ => ⟨Nat.le_of_ble_eq_true rfl, rfl⟩) dX3_naming_31 (fun H locs hw hS => ?_)
      refine lv_aload_n hx hb dX3_naming_34 rfl (lv_at hl 0 rfl) ?_
      refine lv_aload_n hx hb dX3_naming_35 rfl (lv_at hl 0 rfl) ?_
      refine z_get (v := .ref (L 13)) hx hb hts hiX3_naming_X3 hown hK hw (k := 0) kc_0.2 ((cX_a0 kc_0.1) _) rfl 6 (by decide) (hts (.fieldLink RX3 23 "OneSentence" "today" "LOneSentence$Day;") (by decide +kernel)) rfl dX3_naming_36 ?_
      refine z_getN (v := .int ((wr w 0 15 x5).1 13 1)) hx hb hts hiX3_naming_X0 hown hK hw (k := 13) kc_13.2 ((cX_a2 kc_13.1) _) rfl 1 (by decide) (hE.1 (RX3, 93, "OneSentence$Day", "at", "I", "OneSentence") (by decide)) rfl dX3_naming_39 ?_
      refine lv_bipush (v := 64) hx hb dX3_naming_42 (by decide) ?_
      refine lv_ior hx hb dX3_naming_44 ?_
      refine lv_iload_n hx hb dX3_naming_45 rfl (lv_at hl 1 rfl) ?_
      obtain ⟨q46, h46, hf⟩ := bd_e hf
      refine z_calli (va_runV (As := [.int (((wr w 0 15 x5).1 13 1) ||| (64 : Int32)), .int x1]) (rest := []) ⟨hx, hb, hml, hown, hts⟩ (kx_sensesBy l (D := D) (K := K) (t0 := t0) hJ (((wr w 0 15 x5).1 13 1) ||| (64 : Int32)) x1 (wr w 0 15 x5)  h46) (cwV 2 hts gX3_naming_X3_sensesBy rfl rfl rfl (by decide +kernel) ⟨Nat.le_of_ble_eq_true rfl, Nat.le_of_ble_eq_true rfl⟩) (z_preV eX_ok hK hE hw hS kc_0.2 ((cX_a0 kc_0.1) _) (T := TX3) (M := 18) rfl) rfl rfl hl.1 rfl (lv_room (Nat.le_of_ble_eq_true rfl)) dX3_naming_46 ⟨Nat.le_of_ble_eq_true rfl, Nat.le_of_ble_eq_true rfl⟩) hS (fun H locs hw hS => ?_)
      obtain ⟨v49, h49, hf⟩ := bd_e hf
      refine z_calls (va_runS (As := [.int (q46.1)]) (rest := []) ⟨hx, hb, hml, hown, hts⟩ (kj_bitCount l (q46.1) h49) (va_cwS 1 hts gX3_naming_J6_bitCount_0f7a4 rfl rfl rfl (by decide +kernel) ⟨Nat.le_of_ble_eq_true rfl, Nat.le_of_ble_eq_true rfl⟩) z_preT rfl rfl hl.1 rfl (lv_room (Nat.le_of_ble_eq_true rfl)) dX3_naming_49 ⟨Nat.le_of_ble_eq_true rfl, Nat.le_of_ble_eq_true rfl⟩) ?_
      refine lv_istore (lv' := [(6, .int v49), (0, .ref (L 0)), (1, .int x1), (2, .int x2), (3, .int x3), (4, .int x4), (5, .int x5)]) hx hb dX3_naming_52 hl (by decide) rfl (fun ls hl => ?_)
      refine lv_iload hx hb dX3_naming_54 (lv_at hl 0 rfl) ?_
      refine lv_iload hx hb dX3_naming_56 (lv_at hl 5 rfl) ?_
      refine lv_icmp_le (tgt := 68) hx hb dX3_naming_58 (by decide) (fun c58 => ?_) (fun c58 => ?_)
      · replace hf := if_t hf c58
        exact wx_naming_68 hJ C0 hK hE _ ih _ _ _ _ _ _ _ _ _ hw hS (lv_sub hl [1, 2, 3, 4, 5, 6] rfl) hf
      · replace hf := if_f hf c58
        refine lv_iload hx hb dX3_naming_61 (lv_at hl 0 rfl) ?_
        refine lv_istore (lv' := [(4, .int v49), (6, .int v49), (0, .ref (L 0)), (1, .int x1), (2, .int x2), (3, .int x3), (5, .int x5)]) hx hb dX3_naming_63 hl (by decide) rfl (fun ls hl => ?_)
        refine lv_iload hx hb dX3_naming_65 (lv_at hl 6 rfl) ?_
        refine lv_istore_n (lv' := [(3, .int x5), (4, .int v49), (6, .int v49), (0, .ref (L 0)), (1, .int x1), (2, .int x2), (5, .int x5)]) hx hb dX3_naming_67 rfl hl (by decide) rfl (fun ls hl => ?_)
        exact wx_naming_68 hJ C0 hK hE _ ih _ _ _ _ _ _ _ _ _ hw hS (lv_sub hl [3, 4, 5, 0, 1, 6] rfl) hf
set_option maxHeartbeats 4000000 in
set_option maxRecDepth 100000 in
theorem wx_naming_0 {p : Program} {l : Launch} {e : Env} {s : State} {m : MethodId} {args : Array Value} {below : List Frame} {meth : Method} {c : Code} {D : va_G} {L : Nat → Nat} {K : Nat → ClassId} {t0 : Nat} (hJ : gj L 81) (C0 : gC cX3_naming 7 (some .int) wsX3_naming RX3 p s m args meth c) (hK : va_K D vwCl (tyG K) s) (hE : eX L t0 s) {w9 : St} {rs : Int32} : ∀ (x1 : Int32) (x2 : Int32) (w : St) (H : Heap) (locs : List Loc) (ls : Array Slot), va_P D vwCl (gl L 81 (cX L K w)) H → va_S (gA L 81) s.heap H locs → lv_has ls 7 [(0, .ref (L 0)), (1, .int x1), (2, .int x2)] → fx_naming x1 x2 w = some (rs, w9) → W p l e { frames := 5, cells := 0, slots := 0, locals := 120 } s m args below meth c H locs 0 0 (MQ below (qI D L 81 (cX L K) rs w9) args s 0 0 (gA L 81)) (F0 m 0 ls []) := by
  obtain ⟨hx, hb, hr, hml, hown, hts, hlk⟩ := id C0
  intro x1 x2 w H locs ls hw hS hl hf
  unfold fx_naming at hf
  refine lv_iload_n hx hb dX3_naming_0 rfl (lv_at hl 1 rfl) ?_
  refine lv_iconst (v := 1) hx hb dX3_naming_1 (by decide) ?_
  refine lv_icmp_lt (tgt := 10) hx hb dX3_naming_2 (by decide) (fun c2 => ?_) (fun c2 => ?_)
  · replace hf := if_t hf c2
    refine lv_bipush (v := (-2)) hx hb dX3_naming_10 (by decide) ?_
    exact z_iret hx hb hr hlk hw hS hf dX3_naming_12
  · replace hf := if_f hf c2
    refine lv_iload_n hx hb dX3_naming_5 rfl (lv_at hl 1 rfl) ?_
    refine lv_iconst (v := 3) hx hb dX3_naming_6 (by decide) ?_
    refine lv_icmp_le (tgt := 13) hx hb dX3_naming_7 (by decide) (fun c7 => ?_) (fun c7 => ?_)
    · replace hf := if_t hf c7
      refine lv_iconst (v := 0) hx hb dX3_naming_13 (by decide) ?_
      refine lv_istore_n (lv' := [(3, .int 0), (0, .ref (L 0)), (1, .int x1), (2, .int x2)]) hx hb dX3_naming_14 rfl hl (by decide) rfl (fun ls hl => ?_)
      refine lv_iconst (v := 0) hx hb dX3_naming_15 (by decide) ?_
      refine lv_istore (lv' := [(4, .int 0), (3, .int 0), (0, .ref (L 0)), (1, .int x1), (2, .int x2)]) hx hb dX3_naming_16 hl (by decide) rfl (fun ls hl => ?_)
      refine lv_iconst (v := 0) hx hb dX3_naming_18 (by decide) ?_
      refine lv_istore (lv' := [(5, .int 0), (4, .int 0), (3, .int 0), (0, .ref (L 0)), (1, .int x1), (2, .int x2)]) hx hb dX3_naming_19 hl (by decide) rfl (fun ls hl => ?_)
      exact wx_naming_21 hJ C0 hK hE _ _ _ _ _ _ _ _ _ _ hw hS (lv_sub hl [3, 4, 5, 2, 1, 0] rfl) hf
    · replace hf := if_f hf c7
      refine lv_bipush (v := (-2)) hx hb dX3_naming_10 (by decide) ?_
      exact z_iret hx hb hr hlk hw hS hf dX3_naming_12
set_option maxHeartbeats 4000000 in
set_option maxRecDepth 100000 in
theorem kx_naming (l : Launch) {D : va_G} {L : Nat → Nat} {K : Nat → ClassId} {t0 : Nat} (hJ : gj L 81) (x1 : Int32) (x2 : Int32) (w : St) {w9 : St} {rs : Int32} (hf : fx_naming x1 x2 w = some (rs, w9)) : Met l yX3_naming wsX3_naming ({ frames := 5, cells := 0, slots := 0, locals := 120 }) (va_Pc [.ref (L 0), .int x1, .int x2] (xP D L K t0 w)) (qI D L 81 (cX L K) rs w9) 0 0 (gA L 81) := by
  refine g_met (cc := cX3_naming) (nL := 7) (ret := (some .int)) (by decide) rfl (Nat.le_of_ble_eq_true rfl) (fun p e s m below meth c ls C0 hP hl => ?_)
  exact wx_naming_0 hJ C0 hP.2.1 hP.2.2 _ _ w _ _ ls hP.1 va_S.rf (lv_sub hl [0, 1, 2] rfl) hf
set_option maxRecDepth 20000 in
theorem ggX3_spoken_X3_isSense : GoodIn wsX3_spoken wsX3_isSense := goodIn_r _ [6] (by decide +kernel) (by decide +kernel)
set_option maxRecDepth 20000 in
theorem gX3_spoken_X3_isSense : GoodIn wsX3_spoken (va_wsS RX3 149 yX3_isSense wsX3_isSense) := goodIn_app (goodIn_of _ (by decide +kernel)) ggX3_spoken_X3_isSense
set_option maxRecDepth 20000 in
theorem ggX3_spoken_X1_by : GoodIn wsX3_spoken wsX1_by := goodIn_r _ [10, 11, 12, 13, 5, 14, 89, 90] (by decide +kernel) (by decide +kernel)
set_option maxRecDepth 20000 in
theorem gX3_spoken_X1_by_n152 : GoodIn wsX3_spoken (wsX1_by) := ggX3_spoken_X1_by
set_option maxRecDepth 20000 in
theorem ggX3_spoken_X1_many : GoodIn wsX3_spoken wsX1_many := goodIn_r _ [17, 11, 18, 5, 19, 89, 90] (by decide +kernel) (by decide +kernel)
set_option maxRecDepth 20000 in
theorem gX3_spoken_X1_many_n174 : GoodIn wsX3_spoken (wsX1_many) := ggX3_spoken_X1_many
set_option maxRecDepth 20000 in
theorem ggX3_spoken_X1_told : GoodIn wsX3_spoken wsX1_told := goodIn_r _ [22, 11, 12, 89, 90] (by decide +kernel) (by decide +kernel)
set_option maxRecDepth 20000 in
theorem gX3_spoken_X1_told_n177 : GoodIn wsX3_spoken (wsX1_told) := ggX3_spoken_X1_told
set_option maxRecDepth 20000 in
theorem ggX3_spoken_X3_isTold : GoodIn wsX3_spoken wsX3_isTold := goodIn_r _ [26, 27, 28, 29, 30, 5, 31, 2, 32, 33, 34, 35, 36, 37, 38, 39, 40, 41, 42, 43, 44, 45, 46, 47, 48, 13, 14, 49, 50, 51, 52, 53, 54, 55, 56, 57, 58, 59, 60, 61, 62, 63, 67, 68, 69, 70, 71, 72, 73, 74, 75, 76, 77, 78, 79, 80, 81, 82, 83, 84, 91, 92, 93, 94, 85, 86, 87, 88] (by decide +kernel) (by decide +kernel)
set_option maxRecDepth 20000 in
theorem gX3_spoken_X3_isTold : GoodIn wsX3_spoken (wsV RX3 180 RX3 yX3_isTold wsX3_isTold) := goodIn_app (goodIn_of _ (by decide +kernel)) ggX3_spoken_X3_isTold
set_option maxRecDepth 20000 in
theorem ggX3_spoken_X3_speakersIn : GoodIn wsX3_spoken wsX3_speakersIn := goodIn_r _ [66, 40, 41, 5, 42] (by decide +kernel) (by decide +kernel)
set_option maxRecDepth 20000 in
theorem gX3_spoken_X3_speakersIn : GoodIn wsX3_spoken (va_wsS RX3 184 yX3_speakersIn wsX3_speakersIn) := goodIn_app (goodIn_of _ (by decide +kernel)) ggX3_spoken_X3_speakersIn
theorem dX3_spoken_0 : decode cX3_spoken 0 = .ok (.iload_n 1, 1) := by decide +kernel
theorem dX3_spoken_1 : decode cX3_spoken 1 = .ok (.iconst 1, 1) := by decide +kernel
theorem dX3_spoken_2 : decode cX3_spoken 2 = .ok (.if_icmp .lt 24, 3) := by decide +kernel
theorem dX3_spoken_5 : decode cX3_spoken 5 = .ok (.iload_n 1, 1) := by decide +kernel
theorem dX3_spoken_6 : decode cX3_spoken 6 = .ok (.iconst 4, 1) := by decide +kernel
theorem dX3_spoken_7 : decode cX3_spoken 7 = .ok (.if_icmp .gt 19, 3) := by decide +kernel
theorem dX3_spoken_10 : decode cX3_spoken 10 = .ok (.iload_n 2, 1) := by decide +kernel
theorem dX3_spoken_11 : decode cX3_spoken 11 = .ok (.invokestatic 149, 3) := by decide +kernel
theorem dX3_spoken_14 : decode cX3_spoken 14 = .ok (.ifCond .eq 12, 3) := by decide +kernel
theorem dX3_spoken_17 : decode cX3_spoken 17 = .ok (.iload_n 3, 1) := by decide +kernel
theorem dX3_spoken_18 : decode cX3_spoken 18 = .ok (.ifCond .lt 8, 3) := by decide +kernel
theorem dX3_spoken_21 : decode cX3_spoken 21 = .ok (.iload_n 3, 1) := by decide +kernel
theorem dX3_spoken_22 : decode cX3_spoken 22 = .ok (.iconst 2, 1) := by decide +kernel
theorem dX3_spoken_23 : decode cX3_spoken 23 = .ok (.if_icmp .le 6, 3) := by decide +kernel
theorem dX3_spoken_26 : decode cX3_spoken 26 = .ok (.bipush (-2), 2) := by decide +kernel
theorem dX3_spoken_28 : decode cX3_spoken 28 = .ok (.ireturn, 1) := by decide +kernel
theorem dX3_spoken_29 : decode cX3_spoken 29 = .ok (.aload_n 0, 1) := by decide +kernel
theorem dX3_spoken_30 : decode cX3_spoken 30 = .ok (.getfield 48, 3) := by decide +kernel
theorem dX3_spoken_33 : decode cX3_spoken 33 = .ok (.aload_n 0, 1) := by decide +kernel
theorem dX3_spoken_34 : decode cX3_spoken 34 = .ok (.getfield 23, 3) := by decide +kernel
theorem dX3_spoken_37 : decode cX3_spoken 37 = .ok (.getfield 93, 3) := by decide +kernel
theorem dX3_spoken_40 : decode cX3_spoken 40 = .ok (.invokevirtual 152, 3) := by decide +kernel
theorem dX3_spoken_43 : decode cX3_spoken 43 = .ok (.iconst 0, 1) := by decide +kernel
theorem dX3_spoken_44 : decode cX3_spoken 44 = .ok (.istore 4, 2) := by decide +kernel
theorem dX3_spoken_46 : decode cX3_spoken 46 = .ok (.aload_n 0, 1) := by decide +kernel
theorem dX3_spoken_47 : decode cX3_spoken 47 = .ok (.getfield 23, 3) := by decide +kernel
theorem dX3_spoken_50 : decode cX3_spoken 50 = .ok (.getfield 93, 3) := by decide +kernel
theorem dX3_spoken_53 : decode cX3_spoken 53 = .ok (.istore 5, 2) := by decide +kernel
theorem dX3_spoken_55 : decode cX3_spoken 55 = .ok (.aload_n 0, 1) := by decide +kernel
theorem dX3_spoken_56 : decode cX3_spoken 56 = .ok (.getfield 23, 3) := by decide +kernel
theorem dX3_spoken_59 : decode cX3_spoken 59 = .ok (.getfield 93, 3) := by decide +kernel
theorem dX3_spoken_62 : decode cX3_spoken 62 = .ok (.istore 6, 2) := by decide +kernel
theorem dX3_spoken_64 : decode cX3_spoken 64 = .ok (.aload_n 0, 1) := by decide +kernel
theorem dX3_spoken_65 : decode cX3_spoken 65 = .ok (.getfield 48, 3) := by decide +kernel
theorem dX3_spoken_68 : decode cX3_spoken 68 = .ok (.iload_n 1, 1) := by decide +kernel
theorem dX3_spoken_69 : decode cX3_spoken 69 = .ok (.invokevirtual 174, 3) := by decide +kernel
theorem dX3_spoken_72 : decode cX3_spoken 72 = .ok (.istore 7, 2) := by decide +kernel
theorem dX3_spoken_74 : decode cX3_spoken 74 = .ok (.iconst 0, 1) := by decide +kernel
theorem dX3_spoken_75 : decode cX3_spoken 75 = .ok (.istore 8, 2) := by decide +kernel
theorem dX3_spoken_77 : decode cX3_spoken 77 = .ok (.iload 8, 2) := by decide +kernel
theorem dX3_spoken_79 : decode cX3_spoken 79 = .ok (.iload 7, 2) := by decide +kernel
theorem dX3_spoken_81 : decode cX3_spoken 81 = .ok (.if_icmp .ge 66, 3) := by decide +kernel
theorem dX3_spoken_84 : decode cX3_spoken 84 = .ok (.aload_n 0, 1) := by decide +kernel
theorem dX3_spoken_85 : decode cX3_spoken 85 = .ok (.getfield 48, 3) := by decide +kernel
theorem dX3_spoken_88 : decode cX3_spoken 88 = .ok (.iload 8, 2) := by decide +kernel
theorem dX3_spoken_90 : decode cX3_spoken 90 = .ok (.iload_n 1, 1) := by decide +kernel
theorem dX3_spoken_91 : decode cX3_spoken 91 = .ok (.invokevirtual 177, 3) := by decide +kernel
theorem dX3_spoken_94 : decode cX3_spoken 94 = .ok (.istore 9, 2) := by decide +kernel
theorem dX3_spoken_96 : decode cX3_spoken 96 = .ok (.aload_n 0, 1) := by decide +kernel
theorem dX3_spoken_97 : decode cX3_spoken 97 = .ok (.iload_n 1, 1) := by decide +kernel
theorem dX3_spoken_98 : decode cX3_spoken 98 = .ok (.iload 9, 2) := by decide +kernel
theorem dX3_spoken_100 : decode cX3_spoken 100 = .ok (.aload_n 0, 1) := by decide +kernel
theorem dX3_spoken_101 : decode cX3_spoken 101 = .ok (.getfield 23, 3) := by decide +kernel
theorem dX3_spoken_104 : decode cX3_spoken 104 = .ok (.getfield 93, 3) := by decide +kernel
theorem dX3_spoken_107 : decode cX3_spoken 107 = .ok (.iload_n 2, 1) := by decide +kernel
theorem dX3_spoken_108 : decode cX3_spoken 108 = .ok (.invokevirtual 180, 3) := by decide +kernel
theorem dX3_spoken_111 : decode cX3_spoken 111 = .ok (.ifCond .eq 30, 3) := by decide +kernel
theorem dX3_spoken_114 : decode cX3_spoken 114 = .ok (.iinc 4 1, 3) := by decide +kernel
theorem dX3_spoken_117 : decode cX3_spoken 117 = .ok (.iload 5, 2) := by decide +kernel
theorem dX3_spoken_119 : decode cX3_spoken 119 = .ok (.iload_n 1, 1) := by decide +kernel
theorem dX3_spoken_120 : decode cX3_spoken 120 = .ok (.iload 9, 2) := by decide +kernel
theorem dX3_spoken_122 : decode cX3_spoken 122 = .ok (.invokestatic 184, 3) := by decide +kernel
theorem dX3_spoken_125 : decode cX3_spoken 125 = .ok (.iand, 1) := by decide +kernel
theorem dX3_spoken_126 : decode cX3_spoken 126 = .ok (.istore 5, 2) := by decide +kernel
theorem dX3_spoken_128 : decode cX3_spoken 128 = .ok (.iload 6, 2) := by decide +kernel
theorem dX3_spoken_130 : decode cX3_spoken 130 = .ok (.iload_n 1, 1) := by decide +kernel
theorem dX3_spoken_131 : decode cX3_spoken 131 = .ok (.iload 9, 2) := by decide +kernel
theorem dX3_spoken_133 : decode cX3_spoken 133 = .ok (.invokestatic 184, 3) := by decide +kernel
theorem dX3_spoken_136 : decode cX3_spoken 136 = .ok (.iconst (-1), 1) := by decide +kernel
theorem dX3_spoken_137 : decode cX3_spoken 137 = .ok (.ixor, 1) := by decide +kernel
theorem dX3_spoken_138 : decode cX3_spoken 138 = .ok (.iand, 1) := by decide +kernel
theorem dX3_spoken_139 : decode cX3_spoken 139 = .ok (.istore 6, 2) := by decide +kernel
theorem dX3_spoken_141 : decode cX3_spoken 141 = .ok (.iinc 8 1, 3) := by decide +kernel
theorem dX3_spoken_144 : decode cX3_spoken 144 = .ok (.goto (-67), 3) := by decide +kernel
theorem dX3_spoken_147 : decode cX3_spoken 147 = .ok (.iload_n 3, 1) := by decide +kernel
theorem dX3_spoken_148 : decode cX3_spoken 148 = .ok (.ifCond .ne 6, 3) := by decide +kernel
theorem dX3_spoken_151 : decode cX3_spoken 151 = .ok (.iload 4, 2) := by decide +kernel
theorem dX3_spoken_153 : decode cX3_spoken 153 = .ok (.ireturn, 1) := by decide +kernel
theorem dX3_spoken_154 : decode cX3_spoken 154 = .ok (.iload 4, 2) := by decide +kernel
theorem dX3_spoken_156 : decode cX3_spoken 156 = .ok (.ifCond .ne 6, 3) := by decide +kernel
theorem dX3_spoken_159 : decode cX3_spoken 159 = .ok (.bipush (-9), 2) := by decide +kernel
theorem dX3_spoken_161 : decode cX3_spoken 161 = .ok (.ireturn, 1) := by decide +kernel
theorem dX3_spoken_162 : decode cX3_spoken 162 = .ok (.iload_n 3, 1) := by decide +kernel
theorem dX3_spoken_163 : decode cX3_spoken 163 = .ok (.iconst 1, 1) := by decide +kernel
theorem dX3_spoken_164 : decode cX3_spoken 164 = .ok (.if_icmp .ne 8, 3) := by decide +kernel
theorem dX3_spoken_167 : decode cX3_spoken 167 = .ok (.iload 5, 2) := by decide +kernel
theorem dX3_spoken_169 : decode cX3_spoken 169 = .ok (.goto 5, 3) := by decide +kernel
theorem dX3_spoken_172 : decode cX3_spoken 172 = .ok (.iload 6, 2) := by decide +kernel
theorem dX3_spoken_174 : decode cX3_spoken 174 = .ok (.ireturn, 1) := by decide +kernel
set_option maxRecDepth 20000 in
theorem hiX3_spoken_X0 : ∀ w ∈ u_ws RX0 TX0 4, w ∈ wsX3_spoken := by decide +kernel
set_option maxRecDepth 20000 in
theorem hiX3_spoken_X3 : ∀ w ∈ u_ws RX3 TX3 18, w ∈ wsX3_spoken := by decide +kernel
set_option maxHeartbeats 4000000 in
set_option maxRecDepth 100000 in
theorem wx_spoken_141 {p : Program} {l : Launch} {e : Env} {s : State} {m : MethodId} {args : Array Value} {below : List Frame} {meth : Method} {c : Code} {D : va_G} {L : Nat → Nat} {K : Nat → ClassId} {t0 : Nat} (hJ : gj L 81) (C0 : gC cX3_spoken 10 (some .int) wsX3_spoken RX3 p s m args meth c) (hK : va_K D vwCl (tyG K) s) (hE : eX L t0 s) {w9 : St} {rs : Int32} (k77 : Int32 → Int32 → Int32 → Int32 → Int32 → Int32 → Int32 → Int32 → St → Option (Int32 × St)) (i77 : ∀ (x1 : Int32) (x2 : Int32) (x3 : Int32) (x4 : Int32) (x5 : Int32) (x6 : Int32) (x7 : Int32) (x8 : Int32) (w : St) (H : Heap) (locs : List Loc) (ls : Array Slot), va_P D vwCl (gl L 81 (cX L K w)) H → va_S (gA L 81) s.heap H locs → lv_has ls 10 [(0, .ref (L 0)), (1, .int x1), (2, .int x2), (3, .int x3), (4, .int x4), (5, .int x5), (6, .int x6), (7, .int x7), (8, .int x8)] → k77 x1 x2 x3 x4 x5 x6 x7 x8 w = some (rs, w9) → W p l e { frames := 5, cells := 0, slots := 0, locals := 118 } s m args below meth c H locs 0 0 (MQ below (qI D L 81 (cX L K) rs w9) args s 0 0 (gA L 81)) (F0 m 77 ls [])) : ∀ (x1 : Int32) (x2 : Int32) (x3 : Int32) (x4 : Int32) (x5 : Int32) (x6 : Int32) (x7 : Int32) (x8 : Int32) (w : St) (H : Heap) (locs : List Loc) (ls : Array Slot), va_P D vwCl (gl L 81 (cX L K w)) H → va_S (gA L 81) s.heap H locs → lv_has ls 10 [(0, .ref (L 0)), (1, .int x1), (2, .int x2), (3, .int x3), (4, .int x4), (5, .int x5), (6, .int x6), (7, .int x7), (8, .int x8)] → fx_spoken_141 k77 x1 x2 x3 x4 x5 x6 x7 x8 w = some (rs, w9) → W p l e { frames := 5, cells := 0, slots := 0, locals := 118 } s m args below meth c H locs 0 0 (MQ below (qI D L 81 (cX L K) rs w9) args s 0 0 (gA L 81)) (F0 m 141 ls []) := by
  obtain ⟨hx, hb, hr, hml, hown, hts, hlk⟩ := id C0
  intro x1 x2 x3 x4 x5 x6 x7 x8 w H locs ls hw hS hl hf
  unfold fx_spoken_141 at hf
  refine lv_iinc (v := (x8 + 1)) (lv' := [(8, .int (x8 + 1)), (0, .ref (L 0)), (1, .int x1), (2, .int x2), (3, .int x3), (4, .int x4), (5, .int x5), (6, .int x6), (7, .int x7)]) hx hb dX3_spoken_141 hl (k := 8) rfl rfl (by decide) rfl (fun ls hl => ?_)
  refine lv_goto (tgt := 77) hx hb dX3_spoken_144 (by decide) ?_
  exact i77 _ _ _ _ _ _ _ _ _ _ _ _ hw hS (lv_sub hl [1, 2, 3, 4, 5, 6, 7, 8, 0] rfl) hf
set_option maxHeartbeats 4000000 in
set_option maxRecDepth 100000 in
theorem wx_spoken_77 {p : Program} {l : Launch} {e : Env} {s : State} {m : MethodId} {args : Array Value} {below : List Frame} {meth : Method} {c : Code} {D : va_G} {L : Nat → Nat} {K : Nat → ClassId} {t0 : Nat} (hJ : gj L 81) (C0 : gC cX3_spoken 10 (some .int) wsX3_spoken RX3 p s m args meth c) (hK : va_K D vwCl (tyG K) s) (hE : eX L t0 s) {w9 : St} {rs : Int32} : ∀ (fu : Nat) (x1 : Int32) (x2 : Int32) (x3 : Int32) (x4 : Int32) (x5 : Int32) (x6 : Int32) (x7 : Int32) (x8 : Int32) (w : St) (H : Heap) (locs : List Loc) (ls : Array Slot), va_P D vwCl (gl L 81 (cX L K w)) H → va_S (gA L 81) s.heap H locs → lv_has ls 10 [(0, .ref (L 0)), (1, .int x1), (2, .int x2), (3, .int x3), (4, .int x4), (5, .int x5), (6, .int x6), (7, .int x7), (8, .int x8)] → fx_spoken_77 fu x1 x2 x3 x4 x5 x6 x7 x8 w = some (rs, w9) → W p l e { frames := 5, cells := 0, slots := 0, locals := 118 } s m args below meth c H locs 0 0 (MQ below (qI D L 81 (cX L K) rs w9) args s 0 0 (gA L 81)) (F0 m 77 ls []) := by
  obtain ⟨hx, hb, hr, hml, hown, hts, hlk⟩ := id C0
  intro fu
  induction fu with
  | zero =>
    intro x1 x2 x3 x4 x5 x6 x7 x8 w H locs ls hw hS hl hf
    rw [fx_spoken_77] at hf
    exact no_n hf
  | succ fu ih =>
    intro x1 x2 x3 x4 x5 x6 x7 x8 w H locs ls hw hS hl hf
    rw [fx_spoken_77] at hf
    refine lv_iload hx hb dX3_spoken_77 (lv_at hl 8 rfl) ?_
    refine lv_iload hx hb dX3_spoken_79 (lv_at hl 7 rfl) ?_
    refine lv_icmp_ge (tgt := 147) hx hb dX3_spoken_81 (by decide) (fun c81 => ?_) (fun c81 => ?_)
    · replace hf := if_t hf c81
      refine lv_iload_n hx hb dX3_spoken_147 rfl (lv_at hl 3 rfl) ?_
      refine lv_if_ne (tgt := 154) hx hb dX3_spoken_148 (by decide) (fun c148 => ?_) (fun c148 => ?_)
      · replace hf := if_f hf c148
        refine lv_iload hx hb dX3_spoken_154 (lv_at hl 4 rfl) ?_
        refine lv_if_ne (tgt := 162) hx hb dX3_spoken_156 (by decide) (fun c156 => ?_) (fun c156 => ?_)
        · replace hf := if_f hf c156
          refine lv_iload_n hx hb dX3_spoken_162 rfl (lv_at hl 3 rfl) ?_
          refine lv_iconst (v := 1) hx hb dX3_spoken_163 (by decide) ?_
          refine lv_icmp_ne (tgt := 172) hx hb dX3_spoken_164 (by decide) (fun c164 => ?_) (fun c164 => ?_)
          · replace hf := if_f hf c164
            refine lv_iload hx hb dX3_spoken_172 (lv_at hl 6 rfl) ?_
            exact z_iret hx hb hr hlk hw hS hf dX3_spoken_174
          · replace hf := if_t hf c164
            refine lv_iload hx hb dX3_spoken_167 (lv_at hl 5 rfl) ?_
            refine lv_goto (tgt := 174) hx hb dX3_spoken_169 (by decide) ?_
            exact z_iret hx hb hr hlk hw hS hf dX3_spoken_174
        · replace hf := if_t hf c156
          refine lv_bipush (v := (-9)) hx hb dX3_spoken_159 (by decide) ?_
          exact z_iret hx hb hr hlk hw hS hf dX3_spoken_161
      · replace hf := if_t hf c148
        refine lv_iload hx hb dX3_spoken_151 (lv_at hl 4 rfl) ?_
        exact z_iret hx hb hr hlk hw hS hf dX3_spoken_153
    · replace hf := if_f hf c81
      refine lv_aload_n hx hb dX3_spoken_84 rfl (lv_at hl 0 rfl) ?_
      refine z_get (v := .ref (L 9)) hx hb hts hiX3_spoken_X3 hown hK hw (k := 0) kc_0.2 ((cX_a0 kc_0.1) _) rfl 14 (by decide) (hts (.fieldLink RX3 48 "OneSentence" "rows" "LOneSentence$Rows;") (by decide +kernel)) rfl dX3_spoken_85 ?_
      refine lv_iload hx hb dX3_spoken_88 (lv_at hl 8 rfl) ?_
      refine lv_iload_n hx hb dX3_spoken_90 rfl (lv_at hl 1 rfl) ?_
      obtain ⟨q91, h91, hf⟩ := bd_e hf
      refine z_calli (va_runVN (As := [.int x8, .int x1]) (rest := []) ⟨hx, hb, hml, hown, hts⟩ (kr_told l (D := D) (K := K) (t0 := t0) hJ x8 x1 w  h91) ⟨va_cnB 2 hts gX3_spoken_X1_told_n177 rfl rfl rfl (hE.2.1 (RX3, 177, yX1_told, "OneSentence") (by decide)) (hts (.initialized RX1) (by decide +kernel)) (by decide +kernel) ⟨Nat.le_of_ble_eq_true rfl, Nat.le_of_ble_eq_true rfl⟩, hts (.instanceMethod yX1_told) (by decide +kernel), hts (.selects RX1 yX1_told yX1_told) (by decide +kernel)⟩ (z_preV eX_ok hK hE hw hS kc_9.2 ((cX_a3 kc_9.1) _) (T := TX1) (M := 2) rfl) rfl rfl hl.1 rfl (lv_room (Nat.le_of_ble_eq_true rfl)) dX3_spoken_91 ⟨Nat.le_of_ble_eq_true rfl, Nat.le_of_ble_eq_true rfl⟩) hS (fun H locs hw hS => ?_)
      refine lv_topi (fun v94 e94 => ?_)
      replace hf := lb_e hf e94
      refine lv_istore (lv' := [(9, .int v94), (0, .ref (L 0)), (1, .int x1), (2, .int x2), (3, .int x3), (4, .int x4), (5, .int x5), (6, .int x6), (7, .int x7), (8, .int x8)]) hx hb dX3_spoken_94 hl (by decide) rfl (fun ls hl => ?_)
      refine lv_aload_n hx hb dX3_spoken_96 rfl (lv_at hl 1 rfl) ?_
      refine lv_iload_n hx hb dX3_spoken_97 rfl (lv_at hl 2 rfl) ?_
      refine lv_iload hx hb dX3_spoken_98 (lv_at hl 0 rfl) ?_
      refine lv_aload_n hx hb dX3_spoken_100 rfl (lv_at hl 1 rfl) ?_
      refine z_get (v := .ref (L 13)) hx hb hts hiX3_spoken_X3 hown hK hw (k := 0) kc_0.2 ((cX_a0 kc_0.1) _) rfl 6 (by decide) (hts (.fieldLink RX3 23 "OneSentence" "today" "LOneSentence$Day;") (by decide +kernel)) rfl dX3_spoken_101 ?_
      refine z_getN (v := .int ((q91.2).1 13 1)) hx hb hts hiX3_spoken_X0 hown hK hw (k := 13) kc_13.2 ((cX_a2 kc_13.1) _) rfl 1 (by decide) (hE.1 (RX3, 93, "OneSentence$Day", "at", "I", "OneSentence") (by decide)) rfl dX3_spoken_104 ?_
      refine lv_iload_n hx hb dX3_spoken_107 rfl (lv_at hl 3 rfl) ?_
      obtain ⟨q108, h108, hf⟩ := bd_e hf
      refine z_calli (va_runV (As := [.int x1, .int v94, .int ((q91.2).1 13 1), .int x2]) (rest := []) ⟨hx, hb, hml, hown, hts⟩ (kx_isTold l (D := D) (K := K) (t0 := t0) hJ x1 v94 ((q91.2).1 13 1) x2 (q91.2)  h108) (cwV 4 hts gX3_spoken_X3_isTold rfl rfl rfl (by decide +kernel) ⟨Nat.le_of_ble_eq_true rfl, Nat.le_of_ble_eq_true rfl⟩) (z_preV eX_ok hK hE hw hS kc_0.2 ((cX_a0 kc_0.1) _) (T := TX3) (M := 18) rfl) rfl rfl hl.1 rfl (lv_room (Nat.le_of_ble_eq_true rfl)) dX3_spoken_108 ⟨Nat.le_of_ble_eq_true rfl, Nat.le_of_ble_eq_true rfl⟩) hS (fun H locs hw hS => ?_)
      refine lv_if_eq (tgt := 141) hx hb dX3_spoken_111 (by decide) (fun c111 => ?_) (fun c111 => ?_)
      · replace hf := if_t hf c111
        exact wx_spoken_141 hJ C0 hK hE _ ih _ _ _ _ _ _ _ _ _ _ _ _ hw hS (lv_sub hl [1, 2, 3, 4, 5, 6, 7, 8, 9] rfl) hf
      · replace hf := if_f hf c111
        refine lv_iinc (v := (x4 + 1)) (lv' := [(4, .int (x4 + 1)), (9, .int v94), (0, .ref (L 0)), (1, .int x1), (2, .int x2), (3, .int x3), (5, .int x5), (6, .int x6), (7, .int x7), (8, .int x8)]) hx hb dX3_spoken_114 hl (k := 5) rfl rfl (by decide) rfl (fun ls hl => ?_)
        refine lv_iload hx hb dX3_spoken_117 (lv_at hl 6 rfl) ?_
        refine lv_iload_n hx hb dX3_spoken_119 rfl (lv_at hl 3 rfl) ?_
        refine lv_iload hx hb dX3_spoken_120 (lv_at hl 1 rfl) ?_
        obtain ⟨v122, h122, hf⟩ := bd_e hf
        refine z_calls (va_runS (As := [.int x1, .int v94]) (rest := [.int x5]) ⟨hx, hb, hml, hown, hts⟩ (kx_speakersIn l x1 v94 h122) (va_cwS 2 hts gX3_spoken_X3_speakersIn rfl rfl rfl (by decide +kernel) ⟨Nat.le_of_ble_eq_true rfl, Nat.le_of_ble_eq_true rfl⟩) z_preT rfl rfl hl.1 rfl (lv_room (Nat.le_of_ble_eq_true rfl)) dX3_spoken_122 ⟨Nat.le_of_ble_eq_true rfl, Nat.le_of_ble_eq_true rfl⟩) ?_
        refine lv_iand hx hb dX3_spoken_125 ?_
        refine lv_topi (fun v126 e126 => ?_)
        replace hf := lb_e hf e126
        refine lv_istore (lv' := [(5, .int v126), (4, .int (x4 + 1)), (9, .int v94), (0, .ref (L 0)), (1, .int x1), (2, .int x2), (3, .int x3), (6, .int x6), (7, .int x7), (8, .int x8)]) hx hb dX3_spoken_126 hl (by decide) rfl (fun ls hl => ?_)
        refine lv_iload hx hb dX3_spoken_128 (lv_at hl 7 rfl) ?_
        refine lv_iload_n hx hb dX3_spoken_130 rfl (lv_at hl 4 rfl) ?_
        refine lv_iload hx hb dX3_spoken_131 (lv_at hl 2 rfl) ?_
        obtain ⟨v133, h133, hf⟩ := bd_e hf
        refine z_calls (va_runS (As := [.int x1, .int v94]) (rest := [.int x6]) ⟨hx, hb, hml, hown, hts⟩ (kx_speakersIn l x1 v94 h133) (va_cwS 2 hts gX3_spoken_X3_speakersIn rfl rfl rfl (by decide +kernel) ⟨Nat.le_of_ble_eq_true rfl, Nat.le_of_ble_eq_true rfl⟩) z_preT rfl rfl hl.1 rfl (lv_room (Nat.le_of_ble_eq_true rfl)) dX3_spoken_133 ⟨Nat.le_of_ble_eq_true rfl, Nat.le_of_ble_eq_true rfl⟩) ?_
        refine lv_iconst (v := (-1)) hx hb dX3_spoken_136 (by decide) ?_
        refine lv_ixor hx hb dX3_spoken_137 ?_
        refine lv_iand hx hb dX3_spoken_138 ?_
        refine lv_topi (fun v139 e139 => ?_)
        replace hf := lb_e hf e139
        refine lv_istore (lv' := [(6, .int v139), (5, .int v126), (4, .int (x4 + 1)), (9, .int v94), (0, .ref (L 0)), (1, .int x1), (2, .int x2), (3, .int x3), (7, .int x7), (8, .int x8)]) hx hb dX3_spoken_139 hl (by decide) rfl (fun ls hl => ?_)
        exact wx_spoken_141 hJ C0 hK hE _ ih _ _ _ _ _ _ _ _ _ _ _ _ hw hS (lv_sub hl [4, 5, 6, 7, 2, 1, 0, 8, 9] rfl) hf
set_option maxHeartbeats 4000000 in
set_option maxRecDepth 100000 in
theorem wx_spoken_0 {p : Program} {l : Launch} {e : Env} {s : State} {m : MethodId} {args : Array Value} {below : List Frame} {meth : Method} {c : Code} {D : va_G} {L : Nat → Nat} {K : Nat → ClassId} {t0 : Nat} (hJ : gj L 81) (C0 : gC cX3_spoken 10 (some .int) wsX3_spoken RX3 p s m args meth c) (hK : va_K D vwCl (tyG K) s) (hE : eX L t0 s) {w9 : St} {rs : Int32} : ∀ (x1 : Int32) (x2 : Int32) (x3 : Int32) (w : St) (H : Heap) (locs : List Loc) (ls : Array Slot), va_P D vwCl (gl L 81 (cX L K w)) H → va_S (gA L 81) s.heap H locs → lv_has ls 10 [(0, .ref (L 0)), (1, .int x1), (2, .int x2), (3, .int x3)] → fx_spoken x1 x2 x3 w = some (rs, w9) → W p l e { frames := 5, cells := 0, slots := 0, locals := 118 } s m args below meth c H locs 0 0 (MQ below (qI D L 81 (cX L K) rs w9) args s 0 0 (gA L 81)) (F0 m 0 ls []) := by
  obtain ⟨hx, hb, hr, hml, hown, hts, hlk⟩ := id C0
  intro x1 x2 x3 w H locs ls hw hS hl hf
  unfold fx_spoken at hf
  refine lv_iload_n hx hb dX3_spoken_0 rfl (lv_at hl 1 rfl) ?_
  refine lv_iconst (v := 1) hx hb dX3_spoken_1 (by decide) ?_
  refine lv_icmp_lt (tgt := 26) hx hb dX3_spoken_2 (by decide) (fun c2 => ?_) (fun c2 => ?_)
  · replace hf := if_t hf c2
    refine lv_bipush (v := (-2)) hx hb dX3_spoken_26 (by decide) ?_
    exact z_iret hx hb hr hlk hw hS hf dX3_spoken_28
  · replace hf := if_f hf c2
    refine lv_iload_n hx hb dX3_spoken_5 rfl (lv_at hl 1 rfl) ?_
    refine lv_iconst (v := 4) hx hb dX3_spoken_6 (by decide) ?_
    refine lv_icmp_gt (tgt := 26) hx hb dX3_spoken_7 (by decide) (fun c7 => ?_) (fun c7 => ?_)
    · replace hf := if_t hf c7
      refine lv_bipush (v := (-2)) hx hb dX3_spoken_26 (by decide) ?_
      exact z_iret hx hb hr hlk hw hS hf dX3_spoken_28
    · replace hf := if_f hf c7
      refine lv_iload_n hx hb dX3_spoken_10 rfl (lv_at hl 2 rfl) ?_
      obtain ⟨v11, h11, hf⟩ := bd_e hf
      refine z_calls (va_runS (As := [.int x2]) (rest := []) ⟨hx, hb, hml, hown, hts⟩ (kx_isSense l x2 h11) (va_cwS 1 hts gX3_spoken_X3_isSense rfl rfl rfl (by decide +kernel) ⟨Nat.le_of_ble_eq_true rfl, Nat.le_of_ble_eq_true rfl⟩) z_preT rfl rfl hl.1 rfl (lv_room (Nat.le_of_ble_eq_true rfl)) dX3_spoken_11 ⟨Nat.le_of_ble_eq_true rfl, Nat.le_of_ble_eq_true rfl⟩) ?_
      refine lv_if_eq (tgt := 26) hx hb dX3_spoken_14 (by decide) (fun c14 => ?_) (fun c14 => ?_)
      · replace hf := if_t hf c14
        refine lv_bipush (v := (-2)) hx hb dX3_spoken_26 (by decide) ?_
        exact z_iret hx hb hr hlk hw hS hf dX3_spoken_28
      · replace hf := if_f hf c14
        refine lv_iload_n hx hb dX3_spoken_17 rfl (lv_at hl 3 rfl) ?_
        refine lv_if_lt (tgt := 26) hx hb dX3_spoken_18 (by decide) (fun c18 => ?_) (fun c18 => ?_)
        · replace hf := if_t hf c18
          refine lv_bipush (v := (-2)) hx hb dX3_spoken_26 (by decide) ?_
          exact z_iret hx hb hr hlk hw hS hf dX3_spoken_28
        · replace hf := if_f hf c18
          refine lv_iload_n hx hb dX3_spoken_21 rfl (lv_at hl 3 rfl) ?_
          refine lv_iconst (v := 2) hx hb dX3_spoken_22 (by decide) ?_
          refine lv_icmp_le (tgt := 29) hx hb dX3_spoken_23 (by decide) (fun c23 => ?_) (fun c23 => ?_)
          · replace hf := if_t hf c23
            refine lv_aload_n hx hb dX3_spoken_29 rfl (lv_at hl 0 rfl) ?_
            refine z_get (v := .ref (L 9)) hx hb hts hiX3_spoken_X3 hown hK hw (k := 0) kc_0.2 ((cX_a0 kc_0.1) _) rfl 14 (by decide) (hts (.fieldLink RX3 48 "OneSentence" "rows" "LOneSentence$Rows;") (by decide +kernel)) rfl dX3_spoken_30 ?_
            refine lv_aload_n hx hb dX3_spoken_33 rfl (lv_at hl 0 rfl) ?_
            refine z_get (v := .ref (L 13)) hx hb hts hiX3_spoken_X3 hown hK hw (k := 0) kc_0.2 ((cX_a0 kc_0.1) _) rfl 6 (by decide) (hts (.fieldLink RX3 23 "OneSentence" "today" "LOneSentence$Day;") (by decide +kernel)) rfl dX3_spoken_34 ?_
            refine z_getN (v := .int (w.1 13 1)) hx hb hts hiX3_spoken_X0 hown hK hw (k := 13) kc_13.2 ((cX_a2 kc_13.1) _) rfl 1 (by decide) (hE.1 (RX3, 93, "OneSentence$Day", "at", "I", "OneSentence") (by decide)) rfl dX3_spoken_37 ?_
            obtain ⟨w40, h40, hf⟩ := bd_e hf
            refine z_callv (va_runVN (As := [.int (w.1 13 1)]) (rest := []) ⟨hx, hb, hml, hown, hts⟩ (kr_by l (D := D) (K := K) (t0 := t0) hJ (w.1 13 1) w  h40) ⟨va_cnB 1 hts gX3_spoken_X1_by_n152 rfl rfl rfl (hE.2.1 (RX3, 152, yX1_by, "OneSentence") (by decide)) (hts (.initialized RX1) (by decide +kernel)) (by decide +kernel) ⟨Nat.le_of_ble_eq_true rfl, Nat.le_of_ble_eq_true rfl⟩, hts (.instanceMethod yX1_by) (by decide +kernel), hts (.selects RX1 yX1_by yX1_by) (by decide +kernel)⟩ (z_preV eX_ok hK hE hw hS kc_9.2 ((cX_a3 kc_9.1) _) (T := TX1) (M := 2) rfl) rfl rfl hl.1 rfl (lv_room (Nat.le_of_ble_eq_true rfl)) dX3_spoken_40 ⟨Nat.le_of_ble_eq_true rfl, Nat.le_of_ble_eq_true rfl⟩) hS (fun H locs hw hS => ?_)
            refine lv_iconst (v := 0) hx hb dX3_spoken_43 (by decide) ?_
            refine lv_istore (lv' := [(4, .int 0), (0, .ref (L 0)), (1, .int x1), (2, .int x2), (3, .int x3)]) hx hb dX3_spoken_44 hl (by decide) rfl (fun ls hl => ?_)
            refine lv_aload_n hx hb dX3_spoken_46 rfl (lv_at hl 1 rfl) ?_
            refine z_get (v := .ref (L 13)) hx hb hts hiX3_spoken_X3 hown hK hw (k := 0) kc_0.2 ((cX_a0 kc_0.1) _) rfl 6 (by decide) (hts (.fieldLink RX3 23 "OneSentence" "today" "LOneSentence$Day;") (by decide +kernel)) rfl dX3_spoken_47 ?_
            refine z_getN (v := .int (w40.1 13 1)) hx hb hts hiX3_spoken_X0 hown hK hw (k := 13) kc_13.2 ((cX_a2 kc_13.1) _) rfl 1 (by decide) (hE.1 (RX3, 93, "OneSentence$Day", "at", "I", "OneSentence") (by decide)) rfl dX3_spoken_50 ?_
            refine lv_topi (fun v53 e53 => ?_)
            replace hf := lb_e hf e53
            refine lv_istore (lv' := [(5, .int v53), (4, .int 0), (0, .ref (L 0)), (1, .int x1), (2, .int x2), (3, .int x3)]) hx hb dX3_spoken_53 hl (by decide) rfl (fun ls hl => ?_)
            refine lv_aload_n hx hb dX3_spoken_55 rfl (lv_at hl 2 rfl) ?_
            refine z_get (v := .ref (L 13)) hx hb hts hiX3_spoken_X3 hown hK hw (k := 0) kc_0.2 ((cX_a0 kc_0.1) _) rfl 6 (by decide) (hts (.fieldLink RX3 23 "OneSentence" "today" "LOneSentence$Day;") (by decide +kernel)) rfl dX3_spoken_56 ?_
            refine z_getN (v := .int (w40.1 13 1)) hx hb hts hiX3_spoken_X0 hown hK hw (k := 13) kc_13.2 ((cX_a2 kc_13.1) _) rfl 1 (by decide) (hE.1 (RX3, 93, "OneSentence$Day", "at", "I", "OneSentence") (by decide)) rfl dX3_spoken_59 ?_
            refine lv_topi (fun v62 e62 => ?_)
            replace hf := lb_e hf e62
            refine lv_istore (lv' := [(6, .int v62), (5, .int v53), (4, .int 0), (0, .ref (L 0)), (1, .int x1), (2, .int x2), (3, .int x3)]) hx hb dX3_spoken_62 hl (by decide) rfl (fun ls hl => ?_)
            refine lv_aload_n hx hb dX3_spoken_64 rfl (lv_at hl 3 rfl) ?_
            refine z_get (v := .ref (L 9)) hx hb hts hiX3_spoken_X3 hown hK hw (k := 0) kc_0.2 ((cX_a0 kc_0.1) _) rfl 14 (by decide) (hts (.fieldLink RX3 48 "OneSentence" "rows" "LOneSentence$Rows;") (by decide +kernel)) rfl dX3_spoken_65 ?_
            refine lv_iload_n hx hb dX3_spoken_68 rfl (lv_at hl 4 rfl) ?_
            obtain ⟨q69, h69, hf⟩ := bd_e hf
            refine z_calli (va_runVN (As := [.int x1]) (rest := []) ⟨hx, hb, hml, hown, hts⟩ (kr_many l (D := D) (K := K) (t0 := t0) hJ x1 w40  h69) ⟨va_cnB 1 hts gX3_spoken_X1_many_n174 rfl rfl rfl (hE.2.1 (RX3, 174, yX1_many, "OneSentence") (by decide)) (hts (.initialized RX1) (by decide +kernel)) (by decide +kernel) ⟨Nat.le_of_ble_eq_true rfl, Nat.le_of_ble_eq_true rfl⟩, hts (.instanceMethod yX1_many) (by decide +kernel), hts (.selects RX1 yX1_many yX1_many) (by decide +kernel)⟩ (z_preV eX_ok hK hE hw hS kc_9.2 ((cX_a3 kc_9.1) _) (T := TX1) (M := 2) rfl) rfl rfl hl.1 rfl (lv_room (Nat.le_of_ble_eq_true rfl)) dX3_spoken_69 ⟨Nat.le_of_ble_eq_true rfl, Nat.le_of_ble_eq_true rfl⟩) hS (fun H locs hw hS => ?_)
            refine lv_topi (fun v72 e72 => ?_)
            replace hf := lb_e hf e72
            refine lv_istore (lv' := [(7, .int v72), (6, .int v62), (5, .int v53), (4, .int 0), (0, .ref (L 0)), (1, .int x1), (2, .int x2), (3, .int x3)]) hx hb dX3_spoken_72 hl (by decide) rfl (fun ls hl => ?_)
            refine lv_iconst (v := 0) hx hb dX3_spoken_74 (by decide) ?_
            refine lv_istore (lv' := [(8, .int 0), (7, .int v72), (6, .int v62), (5, .int v53), (4, .int 0), (0, .ref (L 0)), (1, .int x1), (2, .int x2), (3, .int x3)]) hx hb dX3_spoken_75 hl (by decide) rfl (fun ls hl => ?_)
            exact wx_spoken_77 hJ C0 hK hE _ _ _ _ _ _ _ _ _ _ _ _ _ hw hS (lv_sub hl [5, 6, 7, 8, 4, 3, 2, 1, 0] rfl) hf
          · replace hf := if_f hf c23
            refine lv_bipush (v := (-2)) hx hb dX3_spoken_26 (by decide) ?_
            exact z_iret hx hb hr hlk hw hS hf dX3_spoken_28
set_option maxHeartbeats 4000000 in
set_option maxRecDepth 100000 in
theorem kx_spoken (l : Launch) {D : va_G} {L : Nat → Nat} {K : Nat → ClassId} {t0 : Nat} (hJ : gj L 81) (x1 : Int32) (x2 : Int32) (x3 : Int32) (w : St) {w9 : St} {rs : Int32} (hf : fx_spoken x1 x2 x3 w = some (rs, w9)) : Met l yX3_spoken wsX3_spoken ({ frames := 5, cells := 0, slots := 0, locals := 118 }) (va_Pc [.ref (L 0), .int x1, .int x2, .int x3] (xP D L K t0 w)) (qI D L 81 (cX L K) rs w9) 0 0 (gA L 81) := by
  refine g_met (cc := cX3_spoken) (nL := 10) (ret := (some .int)) (by decide) rfl (Nat.le_of_ble_eq_true rfl) (fun p e s m below meth c ls C0 hP hl => ?_)
  exact wx_spoken_0 hJ C0 hP.2.1 hP.2.2 _ _ _ w _ _ ls hP.1 va_S.rf (lv_sub hl [0, 1, 2, 3] rfl) hf
set_option maxRecDepth 20000 in
theorem ggX3_quarrel_X3_isThere : GoodIn wsX3_quarrel wsX3_isThere := goodIn_r _ [8, 9, 32, 33, 34, 35, 36, 37, 38, 39, 40, 41, 42, 43, 44, 45, 46, 47, 48, 49] (by decide +kernel) (by decide +kernel)
set_option maxRecDepth 20000 in
theorem gX3_quarrel_X3_isThere : GoodIn wsX3_quarrel (wsV RX3 86 RX3 yX3_isThere wsX3_isThere) := goodIn_app (goodIn_of _ (by decide +kernel)) ggX3_quarrel_X3_isThere
set_option maxRecDepth 20000 in
theorem ggX3_quarrel_X2_become : GoodIn wsX3_quarrel wsX2_become := goodIn_r _ [13, 14, 15, 16, 17, 54, 55, 56, 57] (by decide +kernel) (by decide +kernel)
set_option maxRecDepth 20000 in
theorem gX3_quarrel_X2_become_n187 : GoodIn wsX3_quarrel (wsX2_become) := ggX3_quarrel_X2_become
set_option maxRecDepth 20000 in
theorem ggX3_quarrel_X3_isSense : GoodIn wsX3_quarrel wsX3_isSense := goodIn_r _ [20] (by decide +kernel) (by decide +kernel)
set_option maxRecDepth 20000 in
theorem gX3_quarrel_X3_isSense : GoodIn wsX3_quarrel (va_wsS RX3 149 yX3_isSense wsX3_isSense) := goodIn_app (goodIn_of _ (by decide +kernel)) ggX3_quarrel_X3_isSense
set_option maxRecDepth 20000 in
theorem ggX3_quarrel_X3_sentenceOf : GoodIn wsX3_quarrel wsX3_sentenceOf := goodIn_r _ [24, 25, 2, 32, 33, 34, 35, 36, 37, 38, 39, 40, 41, 42, 43, 44, 45, 46, 47, 48, 49, 50, 51, 52, 53] (by decide +kernel) (by decide +kernel)
set_option maxRecDepth 20000 in
theorem gX3_quarrel_X3_sentenceOf : GoodIn wsX3_quarrel (wsV RX3 190 RX3 yX3_sentenceOf wsX3_sentenceOf) := goodIn_app (goodIn_of _ (by decide +kernel)) ggX3_quarrel_X3_sentenceOf
set_option maxRecDepth 20000 in
theorem ggX3_quarrel_X2_utter : GoodIn wsX3_quarrel wsX2_utter := goodIn_r _ [28, 16, 14, 15, 17, 29, 30, 11, 31, 54, 55, 56, 57] (by decide +kernel) (by decide +kernel)
set_option maxRecDepth 20000 in
theorem gX3_quarrel_X2_utter_n193 : GoodIn wsX3_quarrel (wsX2_utter) := ggX3_quarrel_X2_utter
theorem dX3_quarrel_0 : decode cX3_quarrel 0 = .ok (.aload_n 0, 1) := by decide +kernel
theorem dX3_quarrel_1 : decode cX3_quarrel 1 = .ok (.iload_n 1, 1) := by decide +kernel
theorem dX3_quarrel_2 : decode cX3_quarrel 2 = .ok (.invokevirtual 86, 3) := by decide +kernel
theorem dX3_quarrel_5 : decode cX3_quarrel 5 = .ok (.ifCond .eq 11, 3) := by decide +kernel
theorem dX3_quarrel_8 : decode cX3_quarrel 8 = .ok (.aload_n 0, 1) := by decide +kernel
theorem dX3_quarrel_9 : decode cX3_quarrel 9 = .ok (.iload_n 2, 1) := by decide +kernel
theorem dX3_quarrel_10 : decode cX3_quarrel 10 = .ok (.invokevirtual 86, 3) := by decide +kernel
theorem dX3_quarrel_13 : decode cX3_quarrel 13 = .ok (.ifCond .ne 5, 3) := by decide +kernel
theorem dX3_quarrel_16 : decode cX3_quarrel 16 = .ok (.iconst (-1), 1) := by decide +kernel
theorem dX3_quarrel_17 : decode cX3_quarrel 17 = .ok (.ireturn, 1) := by decide +kernel
theorem dX3_quarrel_18 : decode cX3_quarrel 18 = .ok (.iload_n 1, 1) := by decide +kernel
theorem dX3_quarrel_19 : decode cX3_quarrel 19 = .ok (.iload_n 2, 1) := by decide +kernel
theorem dX3_quarrel_20 : decode cX3_quarrel 20 = .ok (.if_icmp .ne 6, 3) := by decide +kernel
theorem dX3_quarrel_23 : decode cX3_quarrel 23 = .ok (.bipush (-2), 2) := by decide +kernel
theorem dX3_quarrel_25 : decode cX3_quarrel 25 = .ok (.ireturn, 1) := by decide +kernel
theorem dX3_quarrel_26 : decode cX3_quarrel 26 = .ok (.aload_n 0, 1) := by decide +kernel
theorem dX3_quarrel_27 : decode cX3_quarrel 27 = .ok (.getfield 41, 3) := by decide +kernel
theorem dX3_quarrel_30 : decode cX3_quarrel 30 = .ok (.aload_n 0, 1) := by decide +kernel
theorem dX3_quarrel_31 : decode cX3_quarrel 31 = .ok (.getfield 23, 3) := by decide +kernel
theorem dX3_quarrel_34 : decode cX3_quarrel 34 = .ok (.getfield 100, 3) := by decide +kernel
theorem dX3_quarrel_37 : decode cX3_quarrel 37 = .ok (.invokevirtual 187, 3) := by decide +kernel
theorem dX3_quarrel_40 : decode cX3_quarrel 40 = .ok (.iconst 0, 1) := by decide +kernel
theorem dX3_quarrel_41 : decode cX3_quarrel 41 = .ok (.istore 4, 2) := by decide +kernel
theorem dX3_quarrel_43 : decode cX3_quarrel 43 = .ok (.iload 4, 2) := by decide +kernel
theorem dX3_quarrel_45 : decode cX3_quarrel 45 = .ok (.aload_n 0, 1) := by decide +kernel
theorem dX3_quarrel_46 : decode cX3_quarrel 46 = .ok (.getfield 52, 3) := by decide +kernel
theorem dX3_quarrel_49 : decode cX3_quarrel 49 = .ok (.arraylength, 1) := by decide +kernel
theorem dX3_quarrel_50 : decode cX3_quarrel 50 = .ok (.if_icmp .ge 18, 3) := by decide +kernel
theorem dX3_quarrel_53 : decode cX3_quarrel 53 = .ok (.aload_n 0, 1) := by decide +kernel
theorem dX3_quarrel_54 : decode cX3_quarrel 54 = .ok (.getfield 52, 3) := by decide +kernel
theorem dX3_quarrel_57 : decode cX3_quarrel 57 = .ok (.iload 4, 2) := by decide +kernel
theorem dX3_quarrel_59 : decode cX3_quarrel 59 = .ok (.bipush (-9), 2) := by decide +kernel
theorem dX3_quarrel_61 : decode cX3_quarrel 61 = .ok (.iastore, 1) := by decide +kernel
theorem dX3_quarrel_62 : decode cX3_quarrel 62 = .ok (.iinc 4 1, 3) := by decide +kernel
theorem dX3_quarrel_65 : decode cX3_quarrel 65 = .ok (.goto (-22), 3) := by decide +kernel
theorem dX3_quarrel_68 : decode cX3_quarrel 68 = .ok (.iconst 0, 1) := by decide +kernel
theorem dX3_quarrel_69 : decode cX3_quarrel 69 = .ok (.istore 4, 2) := by decide +kernel
theorem dX3_quarrel_71 : decode cX3_quarrel 71 = .ok (.iload 4, 2) := by decide +kernel
theorem dX3_quarrel_73 : decode cX3_quarrel 73 = .ok (.bipush 10, 2) := by decide +kernel
theorem dX3_quarrel_75 : decode cX3_quarrel 75 = .ok (.if_icmp .gt 95, 3) := by decide +kernel
theorem dX3_quarrel_78 : decode cX3_quarrel 78 = .ok (.aload_n 0, 1) := by decide +kernel
theorem dX3_quarrel_79 : decode cX3_quarrel 79 = .ok (.getfield 41, 3) := by decide +kernel
theorem dX3_quarrel_82 : decode cX3_quarrel 82 = .ok (.getfield 128, 3) := by decide +kernel
theorem dX3_quarrel_85 : decode cX3_quarrel 85 = .ok (.istore 5, 2) := by decide +kernel
theorem dX3_quarrel_87 : decode cX3_quarrel 87 = .ok (.iload 5, 2) := by decide +kernel
theorem dX3_quarrel_89 : decode cX3_quarrel 89 = .ok (.invokestatic 149, 3) := by decide +kernel
theorem dX3_quarrel_92 : decode cX3_quarrel 92 = .ok (.ifCond .ne 6, 3) := by decide +kernel
theorem dX3_quarrel_95 : decode cX3_quarrel 95 = .ok (.bipush (-9), 2) := by decide +kernel
theorem dX3_quarrel_97 : decode cX3_quarrel 97 = .ok (.ireturn, 1) := by decide +kernel
theorem dX3_quarrel_98 : decode cX3_quarrel 98 = .ok (.aload_n 0, 1) := by decide +kernel
theorem dX3_quarrel_99 : decode cX3_quarrel 99 = .ok (.getfield 52, 3) := by decide +kernel
theorem dX3_quarrel_102 : decode cX3_quarrel 102 = .ok (.iload 5, 2) := by decide +kernel
theorem dX3_quarrel_104 : decode cX3_quarrel 104 = .ok (.iaload, 1) := by decide +kernel
theorem dX3_quarrel_105 : decode cX3_quarrel 105 = .ok (.bipush (-9), 2) := by decide +kernel
theorem dX3_quarrel_107 : decode cX3_quarrel 107 = .ok (.if_icmp .eq 20, 3) := by decide +kernel
theorem dX3_quarrel_110 : decode cX3_quarrel 110 = .ok (.iload_n 3, 1) := by decide +kernel
theorem dX3_quarrel_111 : decode cX3_quarrel 111 = .ok (.ifCond .eq 13, 3) := by decide +kernel
theorem dX3_quarrel_114 : decode cX3_quarrel 114 = .ok (.aload_n 0, 1) := by decide +kernel
theorem dX3_quarrel_115 : decode cX3_quarrel 115 = .ok (.getfield 52, 3) := by decide +kernel
theorem dX3_quarrel_118 : decode cX3_quarrel 118 = .ok (.iload 5, 2) := by decide +kernel
theorem dX3_quarrel_120 : decode cX3_quarrel 120 = .ok (.iaload, 1) := by decide +kernel
theorem dX3_quarrel_121 : decode cX3_quarrel 121 = .ok (.goto 5, 3) := by decide +kernel
theorem dX3_quarrel_124 : decode cX3_quarrel 124 = .ok (.iload 4, 2) := by decide +kernel
theorem dX3_quarrel_126 : decode cX3_quarrel 126 = .ok (.ireturn, 1) := by decide +kernel
theorem dX3_quarrel_127 : decode cX3_quarrel 127 = .ok (.aload_n 0, 1) := by decide +kernel
theorem dX3_quarrel_128 : decode cX3_quarrel 128 = .ok (.getfield 52, 3) := by decide +kernel
theorem dX3_quarrel_131 : decode cX3_quarrel 131 = .ok (.iload 5, 2) := by decide +kernel
theorem dX3_quarrel_133 : decode cX3_quarrel 133 = .ok (.iload 4, 2) := by decide +kernel
theorem dX3_quarrel_135 : decode cX3_quarrel 135 = .ok (.iastore, 1) := by decide +kernel
theorem dX3_quarrel_136 : decode cX3_quarrel 136 = .ok (.aload_n 0, 1) := by decide +kernel
theorem dX3_quarrel_137 : decode cX3_quarrel 137 = .ok (.getfield 41, 3) := by decide +kernel
theorem dX3_quarrel_140 : decode cX3_quarrel 140 = .ok (.iload_n 1, 1) := by decide +kernel
theorem dX3_quarrel_141 : decode cX3_quarrel 141 = .ok (.aload_n 0, 1) := by decide +kernel
theorem dX3_quarrel_142 : decode cX3_quarrel 142 = .ok (.iload_n 1, 1) := by decide +kernel
theorem dX3_quarrel_143 : decode cX3_quarrel 143 = .ok (.invokevirtual 190, 3) := by decide +kernel
theorem dX3_quarrel_146 : decode cX3_quarrel 146 = .ok (.iconst 1, 1) := by decide +kernel
theorem dX3_quarrel_147 : decode cX3_quarrel 147 = .ok (.invokevirtual 193, 3) := by decide +kernel
theorem dX3_quarrel_150 : decode cX3_quarrel 150 = .ok (.aload_n 0, 1) := by decide +kernel
theorem dX3_quarrel_151 : decode cX3_quarrel 151 = .ok (.getfield 41, 3) := by decide +kernel
theorem dX3_quarrel_154 : decode cX3_quarrel 154 = .ok (.iload_n 2, 1) := by decide +kernel
theorem dX3_quarrel_155 : decode cX3_quarrel 155 = .ok (.aload_n 0, 1) := by decide +kernel
theorem dX3_quarrel_156 : decode cX3_quarrel 156 = .ok (.iload_n 2, 1) := by decide +kernel
theorem dX3_quarrel_157 : decode cX3_quarrel 157 = .ok (.invokevirtual 190, 3) := by decide +kernel
theorem dX3_quarrel_160 : decode cX3_quarrel 160 = .ok (.iconst 1, 1) := by decide +kernel
theorem dX3_quarrel_161 : decode cX3_quarrel 161 = .ok (.invokevirtual 193, 3) := by decide +kernel
theorem dX3_quarrel_164 : decode cX3_quarrel 164 = .ok (.iinc 4 1, 3) := by decide +kernel
theorem dX3_quarrel_167 : decode cX3_quarrel 167 = .ok (.goto (-96), 3) := by decide +kernel
theorem dX3_quarrel_170 : decode cX3_quarrel 170 = .ok (.bipush (-9), 2) := by decide +kernel
theorem dX3_quarrel_172 : decode cX3_quarrel 172 = .ok (.ireturn, 1) := by decide +kernel
set_option maxRecDepth 20000 in
theorem hiX3_quarrel_X0 : ∀ w ∈ u_ws RX0 TX0 4, w ∈ wsX3_quarrel := by decide +kernel
set_option maxRecDepth 20000 in
theorem hiX3_quarrel_X2 : ∀ w ∈ u_ws RX2 TX2 4, w ∈ wsX3_quarrel := by decide +kernel
set_option maxRecDepth 20000 in
theorem hiX3_quarrel_X3 : ∀ w ∈ u_ws RX3 TX3 18, w ∈ wsX3_quarrel := by decide +kernel
set_option maxHeartbeats 4000000 in
set_option maxRecDepth 100000 in
theorem wx_quarrel_71 {p : Program} {l : Launch} {e : Env} {s : State} {m : MethodId} {args : Array Value} {below : List Frame} {meth : Method} {c : Code} {D : va_G} {L : Nat → Nat} {K : Nat → ClassId} {t0 : Nat} (hJ : gj L 81) (C0 : gC cX3_quarrel 6 (some .int) wsX3_quarrel RX3 p s m args meth c) (hK : va_K D vwCl (tyG K) s) (hE : eX L t0 s) {w9 : St} {rs : Int32} : ∀ (fu : Nat) (x1 : Int32) (x2 : Int32) (x3 : Int32) (x4 : Int32) (w : St) (H : Heap) (locs : List Loc) (ls : Array Slot), va_P D vwCl (gl L 81 (cX L K w)) H → va_S (gA L 81) s.heap H locs → lv_has ls 6 [(0, .ref (L 0)), (1, .int x1), (2, .int x2), (3, .int x3), (4, .int x4)] → fx_quarrel_71 fu x1 x2 x3 x4 w = some (rs, w9) → W p l e { frames := 2, cells := 0, slots := 0, locals := 46 } s m args below meth c H locs 0 0 (MQ below (qI D L 81 (cX L K) rs w9) args s 0 0 (gA L 81)) (F0 m 71 ls []) := by
  obtain ⟨hx, hb, hr, hml, hown, hts, hlk⟩ := id C0
  intro fu
  induction fu with
  | zero =>
    intro x1 x2 x3 x4 w H locs ls hw hS hl hf
    rw [fx_quarrel_71] at hf
    exact no_n hf
  | succ fu ih =>
    intro x1 x2 x3 x4 w H locs ls hw hS hl hf
    rw [fx_quarrel_71] at hf
    refine lv_iload hx hb dX3_quarrel_71 (lv_at hl 4 rfl) ?_
    refine lv_bipush (v := 10) hx hb dX3_quarrel_73 (by decide) ?_
    refine lv_icmp_gt (tgt := 170) hx hb dX3_quarrel_75 (by decide) (fun c75 => ?_) (fun c75 => ?_)
    · replace hf := if_t hf c75
      refine lv_bipush (v := (-9)) hx hb dX3_quarrel_170 (by decide) ?_
      exact z_iret hx hb hr hlk hw hS hf dX3_quarrel_172
    · replace hf := if_f hf c75
      refine lv_aload_n hx hb dX3_quarrel_78 rfl (lv_at hl 0 rfl) ?_
      refine z_get (v := .ref (L 11)) hx hb hts hiX3_quarrel_X3 hown hK hw (k := 0) kc_0.2 ((cX_a0 kc_0.1) _) rfl 13 (by decide) (hts (.fieldLink RX3 41 "OneSentence" "trial" "LOneSentence$Talk;") (by decide +kernel)) rfl dX3_quarrel_79 ?_
      refine z_getN (v := .int (w.1 11 0)) hx hb hts hiX3_quarrel_X2 hown hK hw (k := 11) kc_11.2 ((cX_a1 kc_11.1) _) rfl 0 (by decide) (hE.1 (RX3, 128, "OneSentence$Talk", "sense", "I", "OneSentence") (by decide)) rfl dX3_quarrel_82 ?_
      refine lv_topi (fun v85 e85 => ?_)
      replace hf := lb_e hf e85
      refine lv_istore (lv' := [(5, .int v85), (0, .ref (L 0)), (1, .int x1), (2, .int x2), (3, .int x3), (4, .int x4)]) hx hb dX3_quarrel_85 hl (by decide) rfl (fun ls hl => ?_)
      refine lv_iload hx hb dX3_quarrel_87 (lv_at hl 0 rfl) ?_
      obtain ⟨v89, h89, hf⟩ := bd_e hf
      refine z_calls (va_runS (As := [.int v85]) (rest := []) ⟨hx, hb, hml, hown, hts⟩ (kx_isSense l v85 h89) (va_cwS 1 hts gX3_quarrel_X3_isSense rfl rfl rfl (by decide +kernel) ⟨Nat.le_of_ble_eq_true rfl, Nat.le_of_ble_eq_true rfl⟩) z_preT rfl rfl hl.1 rfl (lv_room (Nat.le_of_ble_eq_true rfl)) dX3_quarrel_89 ⟨Nat.le_of_ble_eq_true rfl, Nat.le_of_ble_eq_true rfl⟩) ?_
      refine lv_if_ne (tgt := 98) hx hb dX3_quarrel_92 (by decide) (fun c92 => ?_) (fun c92 => ?_)
      · replace hf := if_f hf c92
        refine lv_aload_n hx hb dX3_quarrel_98 rfl (lv_at hl 1 rfl) ?_
        refine z_get (v := .ref (L 7)) hx hb hts hiX3_quarrel_X3 hown hK hw (k := 0) kc_0.2 ((cX_a0 kc_0.1) _) rfl 16 (by decide) (hts (.fieldLink RX3 52 "OneSentence" "seenBehind" "[I") (by decide +kernel)) rfl dX3_quarrel_99 ?_
        refine lv_iload hx hb dX3_quarrel_102 (lv_at hl 0 rfl) ?_
        obtain ⟨v104, h104, hf⟩ := bd_e hf
        refine z_iald hx hb hK hw 0 (k := 7) kc_7.2 ((cX_a10 kc_7.1) _) rfl h104 dX3_quarrel_104 ?_
        refine lv_bipush (v := (-9)) hx hb dX3_quarrel_105 (by decide) ?_
        refine lv_icmp_eq (tgt := 127) hx hb dX3_quarrel_107 (by decide) (fun c107 => ?_) (fun c107 => ?_)
        · replace hf := if_t hf c107
          refine lv_aload_n hx hb dX3_quarrel_127 rfl (lv_at hl 1 rfl) ?_
          refine z_get (v := .ref (L 7)) hx hb hts hiX3_quarrel_X3 hown hK hw (k := 0) kc_0.2 ((cX_a0 kc_0.1) _) rfl 16 (by decide) (hts (.fieldLink RX3 52 "OneSentence" "seenBehind" "[I") (by decide +kernel)) rfl dX3_quarrel_128 ?_
          refine lv_iload hx hb dX3_quarrel_131 (lv_at hl 0 rfl) ?_
          refine lv_iload hx hb dX3_quarrel_133 (lv_at hl 5 rfl) ?_
          obtain ⟨w135, h135, hf⟩ := bd_e hf
          refine z_iast hx hb hK hJ hw hS 0 (k := 7) kc_7.2 cX_ne (cX_a10 kc_7.1) rfl h135 dX3_quarrel_135 (fun H locs hw hS => ?_)
          refine lv_aload_n hx hb dX3_quarrel_136 rfl (lv_at hl 1 rfl) ?_
          refine z_get (v := .ref (L 11)) hx hb hts hiX3_quarrel_X3 hown hK hw (k := 0) kc_0.2 ((cX_a0 kc_0.1) _) rfl 13 (by decide) (hts (.fieldLink RX3 41 "OneSentence" "trial" "LOneSentence$Talk;") (by decide +kernel)) rfl dX3_quarrel_137 ?_
          refine lv_iload_n hx hb dX3_quarrel_140 rfl (lv_at hl 2 rfl) ?_
          refine lv_aload_n hx hb dX3_quarrel_141 rfl (lv_at hl 1 rfl) ?_
          refine lv_iload_n hx hb dX3_quarrel_142 rfl (lv_at hl 2 rfl) ?_
          obtain ⟨q143, h143, hf⟩ := bd_e hf
          refine z_calli (va_runV (As := [.int x1]) (rest := [.int x1, .ref (L 11)]) ⟨hx, hb, hml, hown, hts⟩ (kx_sentenceOf l (D := D) (K := K) (t0 := t0) hJ x1 w135  h143) (cwV 1 hts gX3_quarrel_X3_sentenceOf rfl rfl rfl (by decide +kernel) ⟨Nat.le_of_ble_eq_true rfl, Nat.le_of_ble_eq_true rfl⟩) (z_preV eX_ok hK hE hw hS kc_0.2 ((cX_a0 kc_0.1) _) (T := TX3) (M := 18) rfl) rfl rfl hl.1 rfl (lv_room (Nat.le_of_ble_eq_true rfl)) dX3_quarrel_143 ⟨Nat.le_of_ble_eq_true rfl, Nat.le_of_ble_eq_true rfl⟩) hS (fun H locs hw hS => ?_)
          refine lv_iconst (v := 1) hx hb dX3_quarrel_146 (by decide) ?_
          obtain ⟨w147, h147, hf⟩ := bd_e hf
          refine z_callv (va_runVN (As := [.int x1, .int (q143.1), .int 1]) (rest := []) ⟨hx, hb, hml, hown, hts⟩ (kt_utter l (D := D) (K := K) (t0 := t0) hJ 11 x1 (q143.1) 1 (q143.2) kc_11 h147) ⟨va_cnB 3 hts gX3_quarrel_X2_utter_n193 rfl rfl rfl (hE.2.1 (RX3, 193, yX2_utter, "OneSentence") (by decide)) (hts (.initialized RX2) (by decide +kernel)) (by decide +kernel) ⟨Nat.le_of_ble_eq_true rfl, Nat.le_of_ble_eq_true rfl⟩, hts (.instanceMethod yX2_utter) (by decide +kernel), hts (.selects RX2 yX2_utter yX2_utter) (by decide +kernel)⟩ (z_preV eX_ok hK hE hw hS kc_11.2 ((cX_a1 kc_11.1) _) (T := TX2) (M := 4) rfl) rfl rfl hl.1 rfl (lv_room (Nat.le_of_ble_eq_true rfl)) dX3_quarrel_147 ⟨Nat.le_of_ble_eq_true rfl, Nat.le_of_ble_eq_true rfl⟩) hS (fun H locs hw hS => ?_)
          refine lv_aload_n hx hb dX3_quarrel_150 rfl (lv_at hl 1 rfl) ?_
          refine z_get (v := .ref (L 11)) hx hb hts hiX3_quarrel_X3 hown hK hw (k := 0) kc_0.2 ((cX_a0 kc_0.1) _) rfl 13 (by decide) (hts (.fieldLink RX3 41 "OneSentence" "trial" "LOneSentence$Talk;") (by decide +kernel)) rfl dX3_quarrel_151 ?_
          refine lv_iload_n hx hb dX3_quarrel_154 rfl (lv_at hl 3 rfl) ?_
          refine lv_aload_n hx hb dX3_quarrel_155 rfl (lv_at hl 1 rfl) ?_
          refine lv_iload_n hx hb dX3_quarrel_156 rfl (lv_at hl 3 rfl) ?_
          obtain ⟨q157, h157, hf⟩ := bd_e hf
          refine z_calli (va_runV (As := [.int x2]) (rest := [.int x2, .ref (L 11)]) ⟨hx, hb, hml, hown, hts⟩ (kx_sentenceOf l (D := D) (K := K) (t0 := t0) hJ x2 w147  h157) (cwV 1 hts gX3_quarrel_X3_sentenceOf rfl rfl rfl (by decide +kernel) ⟨Nat.le_of_ble_eq_true rfl, Nat.le_of_ble_eq_true rfl⟩) (z_preV eX_ok hK hE hw hS kc_0.2 ((cX_a0 kc_0.1) _) (T := TX3) (M := 18) rfl) rfl rfl hl.1 rfl (lv_room (Nat.le_of_ble_eq_true rfl)) dX3_quarrel_157 ⟨Nat.le_of_ble_eq_true rfl, Nat.le_of_ble_eq_true rfl⟩) hS (fun H locs hw hS => ?_)
          refine lv_iconst (v := 1) hx hb dX3_quarrel_160 (by decide) ?_
          obtain ⟨w161, h161, hf⟩ := bd_e hf
          refine z_callv (va_runVN (As := [.int x2, .int (q157.1), .int 1]) (rest := []) ⟨hx, hb, hml, hown, hts⟩ (kt_utter l (D := D) (K := K) (t0 := t0) hJ 11 x2 (q157.1) 1 (q157.2) kc_11 h161) ⟨va_cnB 3 hts gX3_quarrel_X2_utter_n193 rfl rfl rfl (hE.2.1 (RX3, 193, yX2_utter, "OneSentence") (by decide)) (hts (.initialized RX2) (by decide +kernel)) (by decide +kernel) ⟨Nat.le_of_ble_eq_true rfl, Nat.le_of_ble_eq_true rfl⟩, hts (.instanceMethod yX2_utter) (by decide +kernel), hts (.selects RX2 yX2_utter yX2_utter) (by decide +kernel)⟩ (z_preV eX_ok hK hE hw hS kc_11.2 ((cX_a1 kc_11.1) _) (T := TX2) (M := 4) rfl) rfl rfl hl.1 rfl (lv_room (Nat.le_of_ble_eq_true rfl)) dX3_quarrel_161 ⟨Nat.le_of_ble_eq_true rfl, Nat.le_of_ble_eq_true rfl⟩) hS (fun H locs hw hS => ?_)
          refine lv_iinc (v := (x4 + 1)) (lv' := [(4, .int (x4 + 1)), (5, .int v85), (0, .ref (L 0)), (1, .int x1), (2, .int x2), (3, .int x3)]) hx hb dX3_quarrel_164 hl (k := 5) rfl rfl (by decide) rfl (fun ls hl => ?_)
          refine lv_goto (tgt := 71) hx hb dX3_quarrel_167 (by decide) ?_
          exact ih _ _ _ _ _ _ _ _ hw hS (lv_sub hl [2, 3, 4, 5, 0] rfl) hf
        · replace hf := if_f hf c107
          refine lv_iload_n hx hb dX3_quarrel_110 rfl (lv_at hl 4 rfl) ?_
          refine lv_if_eq (tgt := 124) hx hb dX3_quarrel_111 (by decide) (fun c111 => ?_) (fun c111 => ?_)
          · replace hf := if_t hf c111
            refine lv_iload hx hb dX3_quarrel_124 (lv_at hl 5 rfl) ?_
            exact z_iret hx hb hr hlk hw hS hf dX3_quarrel_126
          · replace hf := if_f hf c111
            refine lv_aload_n hx hb dX3_quarrel_114 rfl (lv_at hl 1 rfl) ?_
            refine z_get (v := .ref (L 7)) hx hb hts hiX3_quarrel_X3 hown hK hw (k := 0) kc_0.2 ((cX_a0 kc_0.1) _) rfl 16 (by decide) (hts (.fieldLink RX3 52 "OneSentence" "seenBehind" "[I") (by decide +kernel)) rfl dX3_quarrel_115 ?_
            refine lv_iload hx hb dX3_quarrel_118 (lv_at hl 0 rfl) ?_
            obtain ⟨v120, h120, hf⟩ := bd_e hf
            refine z_iald hx hb hK hw 0 (k := 7) kc_7.2 ((cX_a10 kc_7.1) _) rfl h120 dX3_quarrel_120 ?_
            refine lv_goto (tgt := 126) hx hb dX3_quarrel_121 (by decide) ?_
            exact z_iret hx hb hr hlk hw hS hf dX3_quarrel_126
      · replace hf := if_t hf c92
        refine lv_bipush (v := (-9)) hx hb dX3_quarrel_95 (by decide) ?_
        exact z_iret hx hb hr hlk hw hS hf dX3_quarrel_97
set_option maxHeartbeats 4000000 in
set_option maxRecDepth 100000 in
theorem wx_quarrel_43 {p : Program} {l : Launch} {e : Env} {s : State} {m : MethodId} {args : Array Value} {below : List Frame} {meth : Method} {c : Code} {D : va_G} {L : Nat → Nat} {K : Nat → ClassId} {t0 : Nat} (hJ : gj L 81) (C0 : gC cX3_quarrel 6 (some .int) wsX3_quarrel RX3 p s m args meth c) (hK : va_K D vwCl (tyG K) s) (hE : eX L t0 s) {w9 : St} {rs : Int32} : ∀ (fu : Nat) (x1 : Int32) (x2 : Int32) (x3 : Int32) (x4 : Int32) (w : St) (H : Heap) (locs : List Loc) (ls : Array Slot), va_P D vwCl (gl L 81 (cX L K w)) H → va_S (gA L 81) s.heap H locs → lv_has ls 6 [(0, .ref (L 0)), (1, .int x1), (2, .int x2), (3, .int x3), (4, .int x4)] → fx_quarrel_43 fu x1 x2 x3 x4 w = some (rs, w9) → W p l e { frames := 2, cells := 0, slots := 0, locals := 46 } s m args below meth c H locs 0 0 (MQ below (qI D L 81 (cX L K) rs w9) args s 0 0 (gA L 81)) (F0 m 43 ls []) := by
  obtain ⟨hx, hb, hr, hml, hown, hts, hlk⟩ := id C0
  intro fu
  induction fu with
  | zero =>
    intro x1 x2 x3 x4 w H locs ls hw hS hl hf
    rw [fx_quarrel_43] at hf
    exact no_n hf
  | succ fu ih =>
    intro x1 x2 x3 x4 w H locs ls hw hS hl hf
    rw [fx_quarrel_43] at hf
    refine lv_iload hx hb dX3_quarrel_43 (lv_at hl 4 rfl) ?_
    refine lv_aload_n hx hb dX3_quarrel_45 rfl (lv_at hl 0 rfl) ?_
    refine z_get (v := .ref (L 7)) hx hb hts hiX3_quarrel_X3 hown hK hw (k := 0) kc_0.2 ((cX_a0 kc_0.1) _) rfl 16 (by decide) (hts (.fieldLink RX3 52 "OneSentence" "seenBehind" "[I") (by decide +kernel)) rfl dX3_quarrel_46 ?_
    refine z_alen (v := 10) hx hb hK hw 0 (k := 7) kc_7.2 ((cX_a10 kc_7.1) _) rfl rfl dX3_quarrel_49 ?_
    refine lv_icmp_ge (tgt := 68) hx hb dX3_quarrel_50 (by decide) (fun c50 => ?_) (fun c50 => ?_)
    · replace hf := if_t hf c50
      refine lv_iconst (v := 0) hx hb dX3_quarrel_68 (by decide) ?_
      refine lv_istore (lv' := [(4, .int 0), (0, .ref (L 0)), (1, .int x1), (2, .int x2), (3, .int x3)]) hx hb dX3_quarrel_69 hl (by decide) rfl (fun ls hl => ?_)
      exact wx_quarrel_71 hJ C0 hK hE _ _ _ _ _ _ _ _ _ hw hS (lv_sub hl [1, 2, 3, 4, 0] rfl) hf
    · replace hf := if_f hf c50
      refine lv_aload_n hx hb dX3_quarrel_53 rfl (lv_at hl 0 rfl) ?_
      refine z_get (v := .ref (L 7)) hx hb hts hiX3_quarrel_X3 hown hK hw (k := 0) kc_0.2 ((cX_a0 kc_0.1) _) rfl 16 (by decide) (hts (.fieldLink RX3 52 "OneSentence" "seenBehind" "[I") (by decide +kernel)) rfl dX3_quarrel_54 ?_
      refine lv_iload hx hb dX3_quarrel_57 (lv_at hl 4 rfl) ?_
      refine lv_bipush (v := (-9)) hx hb dX3_quarrel_59 (by decide) ?_
      obtain ⟨w61, h61, hf⟩ := bd_e hf
      refine z_iast hx hb hK hJ hw hS 0 (k := 7) kc_7.2 cX_ne (cX_a10 kc_7.1) rfl h61 dX3_quarrel_61 (fun H locs hw hS => ?_)
      refine lv_iinc (v := (x4 + 1)) (lv' := [(4, .int (x4 + 1)), (0, .ref (L 0)), (1, .int x1), (2, .int x2), (3, .int x3)]) hx hb dX3_quarrel_62 hl (k := 4) rfl rfl (by decide) rfl (fun ls hl => ?_)
      refine lv_goto (tgt := 43) hx hb dX3_quarrel_65 (by decide) ?_
      exact ih _ _ _ _ _ _ _ _ hw hS (lv_sub hl [1, 2, 3, 4, 0] rfl) hf
set_option maxHeartbeats 4000000 in
set_option maxRecDepth 100000 in
theorem wx_quarrel_0 {p : Program} {l : Launch} {e : Env} {s : State} {m : MethodId} {args : Array Value} {below : List Frame} {meth : Method} {c : Code} {D : va_G} {L : Nat → Nat} {K : Nat → ClassId} {t0 : Nat} (hJ : gj L 81) (C0 : gC cX3_quarrel 6 (some .int) wsX3_quarrel RX3 p s m args meth c) (hK : va_K D vwCl (tyG K) s) (hE : eX L t0 s) {w9 : St} {rs : Int32} : ∀ (x1 : Int32) (x2 : Int32) (x3 : Int32) (w : St) (H : Heap) (locs : List Loc) (ls : Array Slot), va_P D vwCl (gl L 81 (cX L K w)) H → va_S (gA L 81) s.heap H locs → lv_has ls 6 [(0, .ref (L 0)), (1, .int x1), (2, .int x2), (3, .int x3)] → fx_quarrel x1 x2 x3 w = some (rs, w9) → W p l e { frames := 2, cells := 0, slots := 0, locals := 46 } s m args below meth c H locs 0 0 (MQ below (qI D L 81 (cX L K) rs w9) args s 0 0 (gA L 81)) (F0 m 0 ls []) := by
  obtain ⟨hx, hb, hr, hml, hown, hts, hlk⟩ := id C0
  intro x1 x2 x3 w H locs ls hw hS hl hf
  unfold fx_quarrel at hf
  refine lv_aload_n hx hb dX3_quarrel_0 rfl (lv_at hl 0 rfl) ?_
  refine lv_iload_n hx hb dX3_quarrel_1 rfl (lv_at hl 1 rfl) ?_
  obtain ⟨q2, h2, hf⟩ := bd_e hf
  refine z_calli (va_runV (As := [.int x1]) (rest := []) ⟨hx, hb, hml, hown, hts⟩ (kx_isThere l (D := D) (K := K) (t0 := t0) hJ x1 w  h2) (cwV 1 hts gX3_quarrel_X3_isThere rfl rfl rfl (by decide +kernel) ⟨Nat.le_of_ble_eq_true rfl, Nat.le_of_ble_eq_true rfl⟩) (z_preV eX_ok hK hE hw hS kc_0.2 ((cX_a0 kc_0.1) _) (T := TX3) (M := 18) rfl) rfl rfl hl.1 rfl (lv_room (Nat.le_of_ble_eq_true rfl)) dX3_quarrel_2 ⟨Nat.le_of_ble_eq_true rfl, Nat.le_of_ble_eq_true rfl⟩) hS (fun H locs hw hS => ?_)
  refine lv_if_eq (tgt := 16) hx hb dX3_quarrel_5 (by decide) (fun c5 => ?_) (fun c5 => ?_)
  · replace hf := if_t hf c5
    refine lv_iconst (v := (-1)) hx hb dX3_quarrel_16 (by decide) ?_
    exact z_iret hx hb hr hlk hw hS hf dX3_quarrel_17
  · replace hf := if_f hf c5
    refine lv_aload_n hx hb dX3_quarrel_8 rfl (lv_at hl 0 rfl) ?_
    refine lv_iload_n hx hb dX3_quarrel_9 rfl (lv_at hl 2 rfl) ?_
    obtain ⟨q10, h10, hf⟩ := bd_e hf
    refine z_calli (va_runV (As := [.int x2]) (rest := []) ⟨hx, hb, hml, hown, hts⟩ (kx_isThere l (D := D) (K := K) (t0 := t0) hJ x2 (q2.2)  h10) (cwV 1 hts gX3_quarrel_X3_isThere rfl rfl rfl (by decide +kernel) ⟨Nat.le_of_ble_eq_true rfl, Nat.le_of_ble_eq_true rfl⟩) (z_preV eX_ok hK hE hw hS kc_0.2 ((cX_a0 kc_0.1) _) (T := TX3) (M := 18) rfl) rfl rfl hl.1 rfl (lv_room (Nat.le_of_ble_eq_true rfl)) dX3_quarrel_10 ⟨Nat.le_of_ble_eq_true rfl, Nat.le_of_ble_eq_true rfl⟩) hS (fun H locs hw hS => ?_)
    refine lv_if_ne (tgt := 18) hx hb dX3_quarrel_13 (by decide) (fun c13 => ?_) (fun c13 => ?_)
    · replace hf := if_f hf c13
      refine lv_iload_n hx hb dX3_quarrel_18 rfl (lv_at hl 1 rfl) ?_
      refine lv_iload_n hx hb dX3_quarrel_19 rfl (lv_at hl 2 rfl) ?_
      refine lv_icmp_ne (tgt := 26) hx hb dX3_quarrel_20 (by decide) (fun c20 => ?_) (fun c20 => ?_)
      · replace hf := if_f hf c20
        refine lv_aload_n hx hb dX3_quarrel_26 rfl (lv_at hl 0 rfl) ?_
        refine z_get (v := .ref (L 11)) hx hb hts hiX3_quarrel_X3 hown hK hw (k := 0) kc_0.2 ((cX_a0 kc_0.1) _) rfl 13 (by decide) (hts (.fieldLink RX3 41 "OneSentence" "trial" "LOneSentence$Talk;") (by decide +kernel)) rfl dX3_quarrel_27 ?_
        refine lv_aload_n hx hb dX3_quarrel_30 rfl (lv_at hl 0 rfl) ?_
        refine z_get (v := .ref (L 13)) hx hb hts hiX3_quarrel_X3 hown hK hw (k := 0) kc_0.2 ((cX_a0 kc_0.1) _) rfl 6 (by decide) (hts (.fieldLink RX3 23 "OneSentence" "today" "LOneSentence$Day;") (by decide +kernel)) rfl dX3_quarrel_31 ?_
        refine z_getN (v := .ref (L 14)) hx hb hts hiX3_quarrel_X0 hown hK hw (k := 13) kc_13.2 ((cX_a2 kc_13.1) _) rfl 0 (by decide) (hE.1 (RX3, 100, "OneSentence$Day", "talk", "LOneSentence$Talk;", "OneSentence") (by decide)) rfl dX3_quarrel_34 ?_
        obtain ⟨w37, h37, hf⟩ := bd_e hf
        refine z_callv (va_runVN (As := [.ref (L 14)]) (rest := []) ⟨hx, hb, hml, hown, hts⟩ (kt_become l (D := D) (K := K) (t0 := t0) hJ 11 14 (q10.2) kc_11 kc_14 h37) ⟨va_cnB 1 hts gX3_quarrel_X2_become_n187 rfl rfl rfl (hE.2.1 (RX3, 187, yX2_become, "OneSentence") (by decide)) (hts (.initialized RX2) (by decide +kernel)) (by decide +kernel) ⟨Nat.le_of_ble_eq_true rfl, Nat.le_of_ble_eq_true rfl⟩, hts (.instanceMethod yX2_become) (by decide +kernel), hts (.selects RX2 yX2_become yX2_become) (by decide +kernel)⟩ (z_preV eX_ok hK hE hw hS kc_11.2 ((cX_a1 kc_11.1) _) (T := TX2) (M := 4) rfl) rfl rfl hl.1 rfl (lv_room (Nat.le_of_ble_eq_true rfl)) dX3_quarrel_37 ⟨Nat.le_of_ble_eq_true rfl, Nat.le_of_ble_eq_true rfl⟩) hS (fun H locs hw hS => ?_)
        refine lv_iconst (v := 0) hx hb dX3_quarrel_40 (by decide) ?_
        refine lv_istore (lv' := [(4, .int 0), (0, .ref (L 0)), (1, .int x1), (2, .int x2), (3, .int x3)]) hx hb dX3_quarrel_41 hl (by decide) rfl (fun ls hl => ?_)
        exact wx_quarrel_43 hJ C0 hK hE _ _ _ _ _ _ _ _ _ hw hS (lv_sub hl [1, 2, 3, 4, 0] rfl) hf
      · replace hf := if_t hf c20
        refine lv_bipush (v := (-2)) hx hb dX3_quarrel_23 (by decide) ?_
        exact z_iret hx hb hr hlk hw hS hf dX3_quarrel_25
    · replace hf := if_t hf c13
      refine lv_iconst (v := (-1)) hx hb dX3_quarrel_16 (by decide) ?_
      exact z_iret hx hb hr hlk hw hS hf dX3_quarrel_17
set_option maxHeartbeats 4000000 in
set_option maxRecDepth 100000 in
theorem kx_quarrel (l : Launch) {D : va_G} {L : Nat → Nat} {K : Nat → ClassId} {t0 : Nat} (hJ : gj L 81) (x1 : Int32) (x2 : Int32) (x3 : Int32) (w : St) {w9 : St} {rs : Int32} (hf : fx_quarrel x1 x2 x3 w = some (rs, w9)) : Met l yX3_quarrel wsX3_quarrel ({ frames := 2, cells := 0, slots := 0, locals := 46 }) (va_Pc [.ref (L 0), .int x1, .int x2, .int x3] (xP D L K t0 w)) (qI D L 81 (cX L K) rs w9) 0 0 (gA L 81) := by
  refine g_met (cc := cX3_quarrel) (nL := 6) (ret := (some .int)) (by decide) rfl (Nat.le_of_ble_eq_true rfl) (fun p e s m below meth c ls C0 hP hl => ?_)
  exact wx_quarrel_0 hJ C0 hP.2.1 hP.2.2 _ _ _ w _ _ ls hP.1 va_S.rf (lv_sub hl [0, 1, 2, 3] rfl) hf
theorem dX3_common_0 : decode cX3_common 0 = .ok (.iload_n 0, 1) := by decide +kernel
theorem dX3_common_1 : decode cX3_common 1 = .ok (.istore_n 2, 1) := by decide +kernel
theorem dX3_common_2 : decode cX3_common 2 = .ok (.iload_n 1, 1) := by decide +kernel
theorem dX3_common_3 : decode cX3_common 3 = .ok (.istore_n 3, 1) := by decide +kernel
theorem dX3_common_4 : decode cX3_common 4 = .ok (.iconst 0, 1) := by decide +kernel
theorem dX3_common_5 : decode cX3_common 5 = .ok (.istore 4, 2) := by decide +kernel
theorem dX3_common_7 : decode cX3_common 7 = .ok (.iload 4, 2) := by decide +kernel
theorem dX3_common_9 : decode cX3_common 9 = .ok (.bipush 50, 2) := by decide +kernel
theorem dX3_common_11 : decode cX3_common 11 = .ok (.if_icmp .ge 23, 3) := by decide +kernel
theorem dX3_common_14 : decode cX3_common 14 = .ok (.iload_n 3, 1) := by decide +kernel
theorem dX3_common_15 : decode cX3_common 15 = .ok (.ifCond .eq 19, 3) := by decide +kernel
theorem dX3_common_18 : decode cX3_common 18 = .ok (.iload_n 2, 1) := by decide +kernel
theorem dX3_common_19 : decode cX3_common 19 = .ok (.iload_n 3, 1) := by decide +kernel
theorem dX3_common_20 : decode cX3_common 20 = .ok (.irem, 1) := by decide +kernel
theorem dX3_common_21 : decode cX3_common 21 = .ok (.istore 5, 2) := by decide +kernel
theorem dX3_common_23 : decode cX3_common 23 = .ok (.iload_n 3, 1) := by decide +kernel
theorem dX3_common_24 : decode cX3_common 24 = .ok (.istore_n 2, 1) := by decide +kernel
theorem dX3_common_25 : decode cX3_common 25 = .ok (.iload 5, 2) := by decide +kernel
theorem dX3_common_27 : decode cX3_common 27 = .ok (.istore_n 3, 1) := by decide +kernel
theorem dX3_common_28 : decode cX3_common 28 = .ok (.iinc 4 1, 3) := by decide +kernel
theorem dX3_common_31 : decode cX3_common 31 = .ok (.goto (-24), 3) := by decide +kernel
theorem dX3_common_34 : decode cX3_common 34 = .ok (.iload_n 2, 1) := by decide +kernel
theorem dX3_common_35 : decode cX3_common 35 = .ok (.ireturn, 1) := by decide +kernel
set_option maxHeartbeats 4000000 in
set_option maxRecDepth 100000 in
theorem wx_common_7 {p : Program} {l : Launch} {e : Env} {s : State} {m : MethodId} {args : Array Value} {below : List Frame} {meth : Method} {c : Code} (C0 : gC cX3_common 6 (some .int) wsX3_common RX3 p s m args meth c) {rs : Int32} : ∀ (fu : Nat) (x2 : Int32) (x3 : Int32) (x4 : Int32) (ls : Array Slot), lv_has ls 6 [(2, .int x2), (3, .int x3), (4, .int x4)] → fx_common_7 fu x2 x3 x4 = some rs → W p l e { frames := 0, cells := 0, slots := 0, locals := 0 } s m args below meth c s.heap [] 0 0 (MQ below (qS rs) args s 0 0 (fun _ => False)) (F0 m 7 ls []) := by
  obtain ⟨hx, hb, hr, hml, hown, hts, hlk⟩ := id C0
  intro fu
  induction fu with
  | zero =>
    intro x2 x3 x4 ls hl hf
    rw [fx_common_7] at hf
    exact no_n hf
  | succ fu ih =>
    intro x2 x3 x4 ls hl hf
    rw [fx_common_7] at hf
    refine lv_iload hx hb dX3_common_7 (lv_at hl 2 rfl) ?_
    refine lv_bipush (v := 50) hx hb dX3_common_9 (by decide) ?_
    refine lv_icmp_ge (tgt := 34) hx hb dX3_common_11 (by decide) (fun c11 => ?_) (fun c11 => ?_)
    · replace hf := if_t hf c11
      refine lv_iload_n hx hb dX3_common_34 rfl (lv_at hl 0 rfl) ?_
      exact z_sret hx hb hr hlk hf dX3_common_35
    · replace hf := if_f hf c11
      refine lv_iload_n hx hb dX3_common_14 rfl (lv_at hl 1 rfl) ?_
      refine lv_if_eq (tgt := 34) hx hb dX3_common_15 (by decide) (fun c15 => ?_) (fun c15 => ?_)
      · replace hf := if_t hf c15
        refine lv_iload_n hx hb dX3_common_34 rfl (lv_at hl 0 rfl) ?_
        exact z_sret hx hb hr hlk hf dX3_common_35
      · replace hf := if_f hf c15
        refine lv_iload_n hx hb dX3_common_18 rfl (lv_at hl 0 rfl) ?_
        refine lv_iload_n hx hb dX3_common_19 rfl (lv_at hl 1 rfl) ?_
        obtain ⟨v20, h20, hf⟩ := bd_e hf
        obtain ⟨n20, j20⟩ := gm_e h20
        refine lv_irem hx hb dX3_common_20 n20 ?_
        rw [j20]
        refine lv_istore (lv' := [(5, .int v20), (2, .int x2), (3, .int x3), (4, .int x4)]) hx hb dX3_common_21 hl (by decide) rfl (fun ls hl => ?_)
        refine lv_iload_n hx hb dX3_common_23 rfl (lv_at hl 2 rfl) ?_
        refine lv_istore_n (lv' := [(2, .int x3), (5, .int v20), (3, .int x3), (4, .int x4)]) hx hb dX3_common_24 rfl hl (by decide) rfl (fun ls hl => ?_)
        refine lv_iload hx hb dX3_common_25 (lv_at hl 1 rfl) ?_
        refine lv_istore_n (lv' := [(3, .int v20), (2, .int x3), (5, .int v20), (4, .int x4)]) hx hb dX3_common_27 rfl hl (by decide) rfl (fun ls hl => ?_)
        refine lv_iinc (v := (x4 + 1)) (lv' := [(4, .int (x4 + 1)), (3, .int v20), (2, .int x3), (5, .int v20)]) hx hb dX3_common_28 hl (k := 3) rfl rfl (by decide) rfl (fun ls hl => ?_)
        refine lv_goto (tgt := 7) hx hb dX3_common_31 (by decide) ?_
        exact ih _ _ _ _ (lv_sub hl [2, 1, 0] rfl) hf
set_option maxHeartbeats 4000000 in
set_option maxRecDepth 100000 in
theorem wx_common_0 {p : Program} {l : Launch} {e : Env} {s : State} {m : MethodId} {args : Array Value} {below : List Frame} {meth : Method} {c : Code} (C0 : gC cX3_common 6 (some .int) wsX3_common RX3 p s m args meth c) {rs : Int32} : ∀ (x0 : Int32) (x1 : Int32) (ls : Array Slot), lv_has ls 6 [(0, .int x0), (1, .int x1)] → fx_common x0 x1 = some rs → W p l e { frames := 0, cells := 0, slots := 0, locals := 0 } s m args below meth c s.heap [] 0 0 (MQ below (qS rs) args s 0 0 (fun _ => False)) (F0 m 0 ls []) := by
  obtain ⟨hx, hb, hr, hml, hown, hts, hlk⟩ := id C0
  intro x0 x1 ls hl hf
  unfold fx_common at hf
  refine lv_iload_n hx hb dX3_common_0 rfl (lv_at hl 0 rfl) ?_
  refine lv_istore_n (lv' := [(2, .int x0), (0, .int x0), (1, .int x1)]) hx hb dX3_common_1 rfl hl (by decide) rfl (fun ls hl => ?_)
  refine lv_iload_n hx hb dX3_common_2 rfl (lv_at hl 2 rfl) ?_
  refine lv_istore_n (lv' := [(3, .int x1), (2, .int x0), (0, .int x0), (1, .int x1)]) hx hb dX3_common_3 rfl hl (by decide) rfl (fun ls hl => ?_)
  refine lv_iconst (v := 0) hx hb dX3_common_4 (by decide) ?_
  refine lv_istore (lv' := [(4, .int 0), (3, .int x1), (2, .int x0), (0, .int x0), (1, .int x1)]) hx hb dX3_common_5 hl (by decide) rfl (fun ls hl => ?_)
  exact wx_common_7 C0 _ _ _ _ _ (lv_sub hl [2, 1, 0] rfl) hf
set_option maxHeartbeats 4000000 in
set_option maxRecDepth 100000 in
theorem kx_common (l : Launch) (x0 : Int32) (x1 : Int32) {rs : Int32} (hf : fx_common x0 x1 = some rs) : Met l yX3_common wsX3_common ({ frames := 0, cells := 0, slots := 0, locals := 0 }) (va_Pc [.int x0, .int x1] (fun _ => True)) (qS rs) 0 0 (fun _ => False) := by
  refine g_met (cc := cX3_common) (nL := 6) (ret := (some .int)) (by decide) rfl (Nat.le_of_ble_eq_true rfl) (fun p e s m below meth c ls C0 _ hl => ?_)
  exact wx_common_0 C0 _ _ ls (lv_sub hl [0, 1] rfl) hf
set_option maxRecDepth 20000 in
theorem ggX3_fraction_X3_common : GoodIn wsX3_fraction wsX3_common := goodIn_r _ [4] (by decide +kernel) (by decide +kernel)
set_option maxRecDepth 20000 in
theorem gX3_fraction_X3_common : GoodIn wsX3_fraction (va_wsS RX3 260 yX3_common wsX3_common) := goodIn_app (goodIn_of _ (by decide +kernel)) ggX3_fraction_X3_common
theorem dX3_fraction_0 : decode cX3_fraction 0 = .ok (.iload_n 0, 1) := by decide +kernel
theorem dX3_fraction_1 : decode cX3_fraction 1 = .ok (.iload_n 1, 1) := by decide +kernel
theorem dX3_fraction_2 : decode cX3_fraction 2 = .ok (.invokestatic 260, 3) := by decide +kernel
theorem dX3_fraction_5 : decode cX3_fraction 5 = .ok (.istore_n 3, 1) := by decide +kernel
theorem dX3_fraction_6 : decode cX3_fraction 6 = .ok (.iload_n 3, 1) := by decide +kernel
theorem dX3_fraction_7 : decode cX3_fraction 7 = .ok (.ifCond .gt 13, 3) := by decide +kernel
theorem dX3_fraction_10 : decode cX3_fraction 10 = .ok (.iload_n 2, 1) := by decide +kernel
theorem dX3_fraction_11 : decode cX3_fraction 11 = .ok (.ifCond .eq 7, 3) := by decide +kernel
theorem dX3_fraction_14 : decode cX3_fraction 14 = .ok (.iload_n 0, 1) := by decide +kernel
theorem dX3_fraction_15 : decode cX3_fraction 15 = .ok (.goto 4, 3) := by decide +kernel
theorem dX3_fraction_18 : decode cX3_fraction 18 = .ok (.iload_n 1, 1) := by decide +kernel
theorem dX3_fraction_19 : decode cX3_fraction 19 = .ok (.ireturn, 1) := by decide +kernel
theorem dX3_fraction_20 : decode cX3_fraction 20 = .ok (.iload_n 2, 1) := by decide +kernel
theorem dX3_fraction_21 : decode cX3_fraction 21 = .ok (.ifCond .eq 9, 3) := by decide +kernel
theorem dX3_fraction_24 : decode cX3_fraction 24 = .ok (.iload_n 0, 1) := by decide +kernel
theorem dX3_fraction_25 : decode cX3_fraction 25 = .ok (.iload_n 3, 1) := by decide +kernel
theorem dX3_fraction_26 : decode cX3_fraction 26 = .ok (.idiv, 1) := by decide +kernel
theorem dX3_fraction_27 : decode cX3_fraction 27 = .ok (.goto 6, 3) := by decide +kernel
theorem dX3_fraction_30 : decode cX3_fraction 30 = .ok (.iload_n 1, 1) := by decide +kernel
theorem dX3_fraction_31 : decode cX3_fraction 31 = .ok (.iload_n 3, 1) := by decide +kernel
theorem dX3_fraction_32 : decode cX3_fraction 32 = .ok (.idiv, 1) := by decide +kernel
theorem dX3_fraction_33 : decode cX3_fraction 33 = .ok (.ireturn, 1) := by decide +kernel
set_option maxHeartbeats 4000000 in
set_option maxRecDepth 100000 in
theorem wx_fraction_0 {p : Program} {l : Launch} {e : Env} {s : State} {m : MethodId} {args : Array Value} {below : List Frame} {meth : Method} {c : Code} (C0 : gC cX3_fraction 4 (some .int) wsX3_fraction RX3 p s m args meth c) {rs : Int32} : ∀ (x0 : Int32) (x1 : Int32) (x2 : Int32) (ls : Array Slot), lv_has ls 4 [(0, .int x0), (1, .int x1), (2, .int x2)] → fx_fraction x0 x1 x2 = some rs → W p l e { frames := 1, cells := 0, slots := 0, locals := 25 } s m args below meth c s.heap [] 0 0 (MQ below (qS rs) args s 0 0 (fun _ => False)) (F0 m 0 ls []) := by
  obtain ⟨hx, hb, hr, hml, hown, hts, hlk⟩ := id C0
  intro x0 x1 x2 ls hl hf
  unfold fx_fraction at hf
  refine lv_iload_n hx hb dX3_fraction_0 rfl (lv_at hl 0 rfl) ?_
  refine lv_iload_n hx hb dX3_fraction_1 rfl (lv_at hl 1 rfl) ?_
  obtain ⟨v2, h2, hf⟩ := bd_e hf
  refine z_calls (va_runS (As := [.int x0, .int x1]) (rest := []) ⟨hx, hb, hml, hown, hts⟩ (kx_common l x0 x1 h2) (va_cwS 2 hts gX3_fraction_X3_common rfl rfl rfl (by decide +kernel) ⟨Nat.le_of_ble_eq_true rfl, Nat.le_of_ble_eq_true rfl⟩) z_preT rfl rfl hl.1 rfl (lv_room (Nat.le_of_ble_eq_true rfl)) dX3_fraction_2 ⟨Nat.le_of_ble_eq_true rfl, Nat.le_of_ble_eq_true rfl⟩) ?_
  refine lv_istore_n (lv' := [(3, .int v2), (0, .int x0), (1, .int x1), (2, .int x2)]) hx hb dX3_fraction_5 rfl hl (by decide) rfl (fun ls hl => ?_)
  refine lv_iload_n hx hb dX3_fraction_6 rfl (lv_at hl 0 rfl) ?_
  refine lv_if_gt (tgt := 20) hx hb dX3_fraction_7 (by decide) (fun c7 => ?_) (fun c7 => ?_)
  · replace hf := if_t hf c7
    refine lv_iload_n hx hb dX3_fraction_20 rfl (lv_at hl 3 rfl) ?_
    refine lv_if_eq (tgt := 30) hx hb dX3_fraction_21 (by decide) (fun c21 => ?_) (fun c21 => ?_)
    · replace hf := if_t hf c21
      refine lv_iload_n hx hb dX3_fraction_30 rfl (lv_at hl 2 rfl) ?_
      refine lv_iload_n hx hb dX3_fraction_31 rfl (lv_at hl 0 rfl) ?_
      obtain ⟨v32, h32, hf⟩ := bd_e hf
      obtain ⟨n32, j32⟩ := gd_e h32
      refine lv_idiv hx hb dX3_fraction_32 n32 ?_
      rw [j32]
      exact z_sret hx hb hr hlk hf dX3_fraction_33
    · replace hf := if_f hf c21
      refine lv_iload_n hx hb dX3_fraction_24 rfl (lv_at hl 1 rfl) ?_
      refine lv_iload_n hx hb dX3_fraction_25 rfl (lv_at hl 0 rfl) ?_
      obtain ⟨v26, h26, hf⟩ := bd_e hf
      obtain ⟨n26, j26⟩ := gd_e h26
      refine lv_idiv hx hb dX3_fraction_26 n26 ?_
      rw [j26]
      refine lv_goto (tgt := 33) hx hb dX3_fraction_27 (by decide) ?_
      exact z_sret hx hb hr hlk hf dX3_fraction_33
  · replace hf := if_f hf c7
    refine lv_iload_n hx hb dX3_fraction_10 rfl (lv_at hl 3 rfl) ?_
    refine lv_if_eq (tgt := 18) hx hb dX3_fraction_11 (by decide) (fun c11 => ?_) (fun c11 => ?_)
    · replace hf := if_t hf c11
      refine lv_iload_n hx hb dX3_fraction_18 rfl (lv_at hl 2 rfl) ?_
      exact z_sret hx hb hr hlk hf dX3_fraction_19
    · replace hf := if_f hf c11
      refine lv_iload_n hx hb dX3_fraction_14 rfl (lv_at hl 1 rfl) ?_
      refine lv_goto (tgt := 19) hx hb dX3_fraction_15 (by decide) ?_
      exact z_sret hx hb hr hlk hf dX3_fraction_19
set_option maxHeartbeats 4000000 in
set_option maxRecDepth 100000 in
theorem kx_fraction (l : Launch) (x0 : Int32) (x1 : Int32) (x2 : Int32) {rs : Int32} (hf : fx_fraction x0 x1 x2 = some rs) : Met l yX3_fraction wsX3_fraction ({ frames := 1, cells := 0, slots := 0, locals := 25 }) (va_Pc [.int x0, .int x1, .int x2] (fun _ => True)) (qS rs) 0 0 (fun _ => False) := by
  refine g_met (cc := cX3_fraction) (nL := 4) (ret := (some .int)) (by decide) rfl (Nat.le_of_ble_eq_true rfl) (fun p e s m below meth c ls C0 _ hl => ?_)
  exact wx_fraction_0 C0 _ _ _ ls (lv_sub hl [0, 1, 2] rfl) hf
theorem dX3_orders_0 : decode cX3_orders 0 = .ok (.iload_n 0, 1) := by decide +kernel
theorem dX3_orders_1 : decode cX3_orders 1 = .ok (.ifCond .lt 19, 3) := by decide +kernel
theorem dX3_orders_4 : decode cX3_orders 4 = .ok (.iload_n 0, 1) := by decide +kernel
theorem dX3_orders_5 : decode cX3_orders 5 = .ok (.getstatic 254, 3) := by decide +kernel
theorem dX3_orders_8 : decode cX3_orders 8 = .ok (.arraylength, 1) := by decide +kernel
theorem dX3_orders_9 : decode cX3_orders 9 = .ok (.if_icmp .ge 11, 3) := by decide +kernel
theorem dX3_orders_12 : decode cX3_orders 12 = .ok (.getstatic 254, 3) := by decide +kernel
theorem dX3_orders_15 : decode cX3_orders 15 = .ok (.iload_n 0, 1) := by decide +kernel
theorem dX3_orders_16 : decode cX3_orders 16 = .ok (.iaload, 1) := by decide +kernel
theorem dX3_orders_17 : decode cX3_orders 17 = .ok (.goto 4, 3) := by decide +kernel
theorem dX3_orders_20 : decode cX3_orders 20 = .ok (.iconst 1, 1) := by decide +kernel
theorem dX3_orders_21 : decode cX3_orders 21 = .ok (.ireturn, 1) := by decide +kernel
set_option maxHeartbeats 4000000 in
set_option maxRecDepth 100000 in
theorem wx_orders_0 {p : Program} {l : Launch} {e : Env} {s : State} {m : MethodId} {args : Array Value} {below : List Frame} {meth : Method} {c : Code} {D : va_G} {L : Nat → Nat} {K : Nat → ClassId} {t0 : Nat} (hJ : gj L 81) (C0 : gC cX3_orders 1 (some .int) wsX3_orders RX3 p s m args meth c) (hK : va_K D vwCl (tyG K) s) (hE : eX L t0 s) {w9 : St} {rs : Int32} : ∀ (x0 : Int32) (w : St) (H : Heap) (locs : List Loc) (ls : Array Slot), va_P D vwCl (gl L 81 (cX L K w)) H → va_S (gA L 81) s.heap H locs → lv_has ls 1 [(0, .int x0)] → fx_orders x0 w = some (rs, w9) → W p l e { frames := 0, cells := 0, slots := 0, locals := 0 } s m args below meth c H locs 0 0 (MQ below (qI D L 81 (cX L K) rs w9) args s 0 0 (gA L 81)) (F0 m 0 ls []) := by
  obtain ⟨hx, hb, hr, hml, hown, hts, hlk⟩ := id C0
  intro x0 w H locs ls hw hS hl hf
  unfold fx_orders at hf
  refine lv_iload_n hx hb dX3_orders_0 rfl (lv_at hl 0 rfl) ?_
  refine lv_if_lt (tgt := 20) hx hb dX3_orders_1 (by decide) (fun c1 => ?_) (fun c1 => ?_)
  · replace hf := if_t hf c1
    refine lv_iconst (v := 1) hx hb dX3_orders_20 (by decide) ?_
    exact z_iret hx hb hr hlk hw hS hf dX3_orders_21
  · replace hf := if_f hf c1
    refine lv_iload_n hx hb dX3_orders_4 rfl (lv_at hl 0 rfl) ?_
    refine va_gets hx hb hE.2.2.1 hS hown (hts (.fieldLink RX3 254 "OneSentence" "ORDERS" "[I") (by decide +kernel)) (fun _ h => h) dX3_orders_5 ?_
    refine va_tlen hx hb hE.2.2.2 hS (v := 7) rfl dX3_orders_8 ?_
    refine lv_icmp_ge (tgt := 20) hx hb dX3_orders_9 (by decide) (fun c9 => ?_) (fun c9 => ?_)
    · replace hf := if_t hf c9
      refine lv_iconst (v := 1) hx hb dX3_orders_20 (by decide) ?_
      exact z_iret hx hb hr hlk hw hS hf dX3_orders_21
    · replace hf := if_f hf c9
      refine va_gets hx hb hE.2.2.1 hS hown (hts (.fieldLink RX3 254 "OneSentence" "ORDERS" "[I") (by decide +kernel)) (fun _ h => h) dX3_orders_12 ?_
      refine lv_iload_n hx hb dX3_orders_15 rfl (lv_at hl 0 rfl) ?_
      obtain ⟨v16, h16, hf⟩ := bd_e hf
      refine va_ti hx hb hE.2.2.2 hS (gr_e h16).1 (v := .int v16) (congrArg Value.int (gr_e h16).2) dX3_orders_16 ?_
      refine lv_goto (tgt := 21) hx hb dX3_orders_17 (by decide) ?_
      exact z_iret hx hb hr hlk hw hS hf dX3_orders_21
set_option maxHeartbeats 4000000 in
set_option maxRecDepth 100000 in
theorem kx_orders (l : Launch) {D : va_G} {L : Nat → Nat} {K : Nat → ClassId} {t0 : Nat} (hJ : gj L 81) (x0 : Int32) (w : St) {w9 : St} {rs : Int32} (hf : fx_orders x0 w = some (rs, w9)) : Met l yX3_orders wsX3_orders ({ frames := 0, cells := 0, slots := 0, locals := 0 }) (va_Pc [.int x0] (xP D L K t0 w)) (qI D L 81 (cX L K) rs w9) 0 0 (gA L 81) := by
  refine g_met (cc := cX3_orders) (nL := 1) (ret := (some .int)) (by decide) rfl (Nat.le_of_ble_eq_true rfl) (fun p e s m below meth c ls C0 hP hl => ?_)
  exact wx_orders_0 hJ C0 hP.2.1 hP.2.2 _ w _ _ ls hP.1 va_S.rf (lv_sub hl [0] rfl) hf
set_option maxRecDepth 20000 in
theorem ggX3_gain_X3_sensesBy : GoodIn wsX3_gain wsX3_sensesBy := goodIn_r _ [5, 6, 7, 8, 9, 10, 11, 12, 13, 14, 4, 15, 16, 17, 18, 19, 20, 21, 22, 23, 24, 25, 26, 27, 28, 29, 30, 31, 32, 33, 34, 35, 36, 37, 38, 39, 40, 41, 42, 43, 44, 45, 46, 47, 48, 49, 50, 51, 52, 53, 54, 55, 56, 57, 58, 59, 60, 68, 69, 70, 71, 72, 73, 74, 75, 76, 77, 78, 79, 80, 81, 82, 83, 84, 85, 86, 87, 88, 89, 90, 91, 92, 93, 94, 95] (by decide +kernel) (by decide +kernel)
set_option maxRecDepth 20000 in
theorem gX3_gain_X3_sensesBy : GoodIn wsX3_gain (wsV RX3 159 RX3 yX3_sensesBy wsX3_sensesBy) := goodIn_app (goodIn_of _ (by decide +kernel)) ggX3_gain_X3_sensesBy
set_option maxRecDepth 20000 in
theorem ggX3_gain_J6_bitCount_0f7a4 : GoodIn wsX3_gain wsJ6_bitCount_0f7a4 := goodIn_r _ [64, 65, 66, 67] (by decide +kernel) (by decide +kernel)
set_option maxRecDepth 20000 in
theorem gX3_gain_J6_bitCount_0f7a4 : GoodIn wsX3_gain (va_wsS RX3 119 yJ6_bitCount_0f7a4 wsJ6_bitCount_0f7a4) := goodIn_app (goodIn_of _ (by decide +kernel)) ggX3_gain_J6_bitCount_0f7a4
theorem dX3_gain_0 : decode cX3_gain 0 = .ok (.aload_n 0, 1) := by decide +kernel
theorem dX3_gain_1 : decode cX3_gain 1 = .ok (.iload_n 1, 1) := by decide +kernel
theorem dX3_gain_2 : decode cX3_gain 2 = .ok (.iconst 1, 1) := by decide +kernel
theorem dX3_gain_3 : decode cX3_gain 3 = .ok (.iload_n 2, 1) := by decide +kernel
theorem dX3_gain_4 : decode cX3_gain 4 = .ok (.ishl, 1) := by decide +kernel
theorem dX3_gain_5 : decode cX3_gain 5 = .ok (.ior, 1) := by decide +kernel
theorem dX3_gain_6 : decode cX3_gain 6 = .ok (.iload_n 3, 1) := by decide +kernel
theorem dX3_gain_7 : decode cX3_gain 7 = .ok (.invokevirtual 159, 3) := by decide +kernel
theorem dX3_gain_10 : decode cX3_gain 10 = .ok (.invokestatic 119, 3) := by decide +kernel
theorem dX3_gain_13 : decode cX3_gain 13 = .ok (.istore 4, 2) := by decide +kernel
theorem dX3_gain_15 : decode cX3_gain 15 = .ok (.iload 4, 2) := by decide +kernel
theorem dX3_gain_17 : decode cX3_gain 17 = .ok (.aload_n 0, 1) := by decide +kernel
theorem dX3_gain_18 : decode cX3_gain 18 = .ok (.iload_n 1, 1) := by decide +kernel
theorem dX3_gain_19 : decode cX3_gain 19 = .ok (.iload_n 3, 1) := by decide +kernel
theorem dX3_gain_20 : decode cX3_gain 20 = .ok (.invokevirtual 159, 3) := by decide +kernel
theorem dX3_gain_23 : decode cX3_gain 23 = .ok (.invokestatic 119, 3) := by decide +kernel
theorem dX3_gain_26 : decode cX3_gain 26 = .ok (.isub, 1) := by decide +kernel
theorem dX3_gain_27 : decode cX3_gain 27 = .ok (.ireturn, 1) := by decide +kernel
set_option maxHeartbeats 4000000 in
set_option maxRecDepth 100000 in
theorem wx_gain_0 {p : Program} {l : Launch} {e : Env} {s : State} {m : MethodId} {args : Array Value} {below : List Frame} {meth : Method} {c : Code} {D : va_G} {L : Nat → Nat} {K : Nat → ClassId} {t0 : Nat} (hJ : gj L 81) (C0 : gC cX3_gain 5 (some .int) wsX3_gain RX3 p s m args meth c) (hK : va_K D vwCl (tyG K) s) (hE : eX L t0 s) {w9 : St} {rs : Int32} : ∀ (x1 : Int32) (x2 : Int32) (x3 : Int32) (w : St) (H : Heap) (locs : List Loc) (ls : Array Slot), va_P D vwCl (gl L 81 (cX L K w)) H → va_S (gA L 81) s.heap H locs → lv_has ls 5 [(0, .ref (L 0)), (1, .int x1), (2, .int x2), (3, .int x3)] → fx_gain x1 x2 x3 w = some (rs, w9) → W p l e { frames := 5, cells := 0, slots := 0, locals := 120 } s m args below meth c H locs 0 0 (MQ below (qI D L 81 (cX L K) rs w9) args s 0 0 (gA L 81)) (F0 m 0 ls []) := by
  obtain ⟨hx, hb, hr, hml, hown, hts, hlk⟩ := id C0
  intro x1 x2 x3 w H locs ls hw hS hl hf
  unfold fx_gain at hf
  refine lv_aload_n hx hb dX3_gain_0 rfl (lv_at hl 0 rfl) ?_
  refine lv_iload_n hx hb dX3_gain_1 rfl (lv_at hl 1 rfl) ?_
  refine lv_iconst (v := 1) hx hb dX3_gain_2 (by decide) ?_
  refine lv_iload_n hx hb dX3_gain_3 rfl (lv_at hl 2 rfl) ?_
  refine lv_ishl hx hb dX3_gain_4 ?_
  refine lv_ior hx hb dX3_gain_5 ?_
  refine lv_iload_n hx hb dX3_gain_6 rfl (lv_at hl 3 rfl) ?_
  obtain ⟨q7, h7, hf⟩ := bd_e hf
  refine z_calli (va_runV (As := [.int (x1 ||| ((1 : Int32) <<< (x2 &&& 31))), .int x3]) (rest := []) ⟨hx, hb, hml, hown, hts⟩ (kx_sensesBy l (D := D) (K := K) (t0 := t0) hJ (x1 ||| ((1 : Int32) <<< (x2 &&& 31))) x3 w  h7) (cwV 2 hts gX3_gain_X3_sensesBy rfl rfl rfl (by decide +kernel) ⟨Nat.le_of_ble_eq_true rfl, Nat.le_of_ble_eq_true rfl⟩) (z_preV eX_ok hK hE hw hS kc_0.2 ((cX_a0 kc_0.1) _) (T := TX3) (M := 18) rfl) rfl rfl hl.1 rfl (lv_room (Nat.le_of_ble_eq_true rfl)) dX3_gain_7 ⟨Nat.le_of_ble_eq_true rfl, Nat.le_of_ble_eq_true rfl⟩) hS (fun H locs hw hS => ?_)
  obtain ⟨v10, h10, hf⟩ := bd_e hf
  refine z_calls (va_runS (As := [.int (q7.1)]) (rest := []) ⟨hx, hb, hml, hown, hts⟩ (kj_bitCount l (q7.1) h10) (va_cwS 1 hts gX3_gain_J6_bitCount_0f7a4 rfl rfl rfl (by decide +kernel) ⟨Nat.le_of_ble_eq_true rfl, Nat.le_of_ble_eq_true rfl⟩) z_preT rfl rfl hl.1 rfl (lv_room (Nat.le_of_ble_eq_true rfl)) dX3_gain_10 ⟨Nat.le_of_ble_eq_true rfl, Nat.le_of_ble_eq_true rfl⟩) ?_
  refine lv_istore (lv' := [(4, .int v10), (0, .ref (L 0)), (1, .int x1), (2, .int x2), (3, .int x3)]) hx hb dX3_gain_13 hl (by decide) rfl (fun ls hl => ?_)
  refine lv_iload hx hb dX3_gain_15 (lv_at hl 0 rfl) ?_
  refine lv_aload_n hx hb dX3_gain_17 rfl (lv_at hl 1 rfl) ?_
  refine lv_iload_n hx hb dX3_gain_18 rfl (lv_at hl 2 rfl) ?_
  refine lv_iload_n hx hb dX3_gain_19 rfl (lv_at hl 4 rfl) ?_
  obtain ⟨q20, h20, hf⟩ := bd_e hf
  refine z_calli (va_runV (As := [.int x1, .int x3]) (rest := [.int v10]) ⟨hx, hb, hml, hown, hts⟩ (kx_sensesBy l (D := D) (K := K) (t0 := t0) hJ x1 x3 (q7.2)  h20) (cwV 2 hts gX3_gain_X3_sensesBy rfl rfl rfl (by decide +kernel) ⟨Nat.le_of_ble_eq_true rfl, Nat.le_of_ble_eq_true rfl⟩) (z_preV eX_ok hK hE hw hS kc_0.2 ((cX_a0 kc_0.1) _) (T := TX3) (M := 18) rfl) rfl rfl hl.1 rfl (lv_room (Nat.le_of_ble_eq_true rfl)) dX3_gain_20 ⟨Nat.le_of_ble_eq_true rfl, Nat.le_of_ble_eq_true rfl⟩) hS (fun H locs hw hS => ?_)
  obtain ⟨v23, h23, hf⟩ := bd_e hf
  refine z_calls (va_runS (As := [.int (q20.1)]) (rest := [.int v10]) ⟨hx, hb, hml, hown, hts⟩ (kj_bitCount l (q20.1) h23) (va_cwS 1 hts gX3_gain_J6_bitCount_0f7a4 rfl rfl rfl (by decide +kernel) ⟨Nat.le_of_ble_eq_true rfl, Nat.le_of_ble_eq_true rfl⟩) z_preT rfl rfl hl.1 rfl (lv_room (Nat.le_of_ble_eq_true rfl)) dX3_gain_23 ⟨Nat.le_of_ble_eq_true rfl, Nat.le_of_ble_eq_true rfl⟩) ?_
  refine lv_isub hx hb dX3_gain_26 ?_
  exact z_iret hx hb hr hlk hw hS hf dX3_gain_27
set_option maxHeartbeats 4000000 in
set_option maxRecDepth 100000 in
theorem kx_gain (l : Launch) {D : va_G} {L : Nat → Nat} {K : Nat → ClassId} {t0 : Nat} (hJ : gj L 81) (x1 : Int32) (x2 : Int32) (x3 : Int32) (w : St) {w9 : St} {rs : Int32} (hf : fx_gain x1 x2 x3 w = some (rs, w9)) : Met l yX3_gain wsX3_gain ({ frames := 5, cells := 0, slots := 0, locals := 120 }) (va_Pc [.ref (L 0), .int x1, .int x2, .int x3] (xP D L K t0 w)) (qI D L 81 (cX L K) rs w9) 0 0 (gA L 81) := by
  refine g_met (cc := cX3_gain) (nL := 5) (ret := (some .int)) (by decide) rfl (Nat.le_of_ble_eq_true rfl) (fun p e s m below meth c ls C0 hP hl => ?_)
  exact wx_gain_0 hJ C0 hP.2.1 hP.2.2 _ _ _ w _ _ ls hP.1 va_S.rf (lv_sub hl [0, 1, 2, 3] rfl) hf
set_option maxRecDepth 20000 in
theorem ggX3_share_X3_isThere : GoodIn wsX3_share wsX3_isThere := goodIn_r _ [6, 7, 87, 88, 89, 90, 91, 92, 93, 94, 95, 96, 97, 98, 99, 100, 101, 102, 103, 104] (by decide +kernel) (by decide +kernel)
set_option maxRecDepth 20000 in
theorem gX3_share_X3_isThere : GoodIn wsX3_share (wsV RX3 86 RX3 yX3_isThere wsX3_isThere) := goodIn_app (goodIn_of _ (by decide +kernel)) ggX3_share_X3_isThere
set_option maxRecDepth 20000 in
theorem ggX3_share_X3_has : GoodIn wsX3_share wsX3_has := goodIn_r _ [10] (by decide +kernel) (by decide +kernel)
set_option maxRecDepth 20000 in
theorem gX3_share_X3_has : GoodIn wsX3_share (va_wsS RX3 96 yX3_has wsX3_has) := goodIn_app (goodIn_of _ (by decide +kernel)) ggX3_share_X3_has
set_option maxRecDepth 20000 in
theorem ggX3_share_X3_fraction : GoodIn wsX3_share wsX3_fraction := goodIn_r _ [13, 14, 15, 5, 16] (by decide +kernel) (by decide +kernel)
set_option maxRecDepth 20000 in
theorem gX3_share_X3_fraction : GoodIn wsX3_share (va_wsS RX3 197 yX3_fraction wsX3_fraction) := goodIn_app (goodIn_of _ (by decide +kernel)) ggX3_share_X3_fraction
set_option maxRecDepth 20000 in
theorem ggX3_share_J6_bitCount_0f7a4 : GoodIn wsX3_share wsJ6_bitCount_0f7a4 := goodIn_r _ [20, 21, 22, 23] (by decide +kernel) (by decide +kernel)
set_option maxRecDepth 20000 in
theorem gX3_share_J6_bitCount_0f7a4 : GoodIn wsX3_share (va_wsS RX3 119 yJ6_bitCount_0f7a4 wsJ6_bitCount_0f7a4) := goodIn_app (goodIn_of _ (by decide +kernel)) ggX3_share_J6_bitCount_0f7a4
set_option maxRecDepth 20000 in
theorem ggX3_share_X3_orders : GoodIn wsX3_share wsX3_orders := goodIn_r _ [26, 27] (by decide +kernel) (by decide +kernel)
set_option maxRecDepth 20000 in
theorem gX3_share_X3_orders : GoodIn wsX3_share (va_wsS RX3 201 yX3_orders wsX3_orders) := goodIn_app (goodIn_of _ (by decide +kernel)) ggX3_share_X3_orders
set_option maxRecDepth 20000 in
theorem ggX3_share_X3_gain : GoodIn wsX3_share wsX3_gain := goodIn_r _ [31, 32, 33, 34, 5, 35, 36, 37, 38, 39, 40, 41, 42, 43, 9, 10, 44, 45, 46, 47, 48, 49, 50, 51, 52, 53, 54, 55, 1, 56, 57, 58, 59, 60, 61, 62, 63, 64, 65, 66, 67, 68, 69, 70, 71, 8, 72, 73, 74, 75, 76, 77, 78, 79, 80, 81, 82, 83, 84, 85, 86, 17, 18, 19, 20, 21, 22, 23, 87, 88, 89, 90, 91, 92, 93, 94, 95, 96, 97, 98, 99, 100, 101, 102, 103, 104, 109, 110, 111, 112, 113, 114, 105, 106, 107, 108] (by decide +kernel) (by decide +kernel)
set_option maxRecDepth 20000 in
theorem gX3_share_X3_gain : GoodIn wsX3_share (wsV RX3 204 RX3 yX3_gain wsX3_gain) := goodIn_app (goodIn_of _ (by decide +kernel)) ggX3_share_X3_gain
theorem dX3_share_0 : decode cX3_share 0 = .ok (.aload_n 0, 1) := by decide +kernel
theorem dX3_share_1 : decode cX3_share 1 = .ok (.iload_n 1, 1) := by decide +kernel
theorem dX3_share_2 : decode cX3_share 2 = .ok (.invokevirtual 86, 3) := by decide +kernel
theorem dX3_share_5 : decode cX3_share 5 = .ok (.ifCond .ne 5, 3) := by decide +kernel
theorem dX3_share_8 : decode cX3_share 8 = .ok (.iconst (-1), 1) := by decide +kernel
theorem dX3_share_9 : decode cX3_share 9 = .ok (.ireturn, 1) := by decide +kernel
theorem dX3_share_10 : decode cX3_share 10 = .ok (.iload_n 2, 1) := by decide +kernel
theorem dX3_share_11 : decode cX3_share 11 = .ok (.iconst 1, 1) := by decide +kernel
theorem dX3_share_12 : decode cX3_share 12 = .ok (.if_icmp .lt 8, 3) := by decide +kernel
theorem dX3_share_15 : decode cX3_share 15 = .ok (.iload_n 2, 1) := by decide +kernel
theorem dX3_share_16 : decode cX3_share 16 = .ok (.iconst 3, 1) := by decide +kernel
theorem dX3_share_17 : decode cX3_share 17 = .ok (.if_icmp .le 6, 3) := by decide +kernel
theorem dX3_share_20 : decode cX3_share 20 = .ok (.bipush (-2), 2) := by decide +kernel
theorem dX3_share_22 : decode cX3_share 22 = .ok (.ireturn, 1) := by decide +kernel
theorem dX3_share_23 : decode cX3_share 23 = .ok (.aload_n 0, 1) := by decide +kernel
theorem dX3_share_24 : decode cX3_share 24 = .ok (.getfield 23, 3) := by decide +kernel
theorem dX3_share_27 : decode cX3_share 27 = .ok (.getfield 93, 3) := by decide +kernel
theorem dX3_share_30 : decode cX3_share 30 = .ok (.iload_n 1, 1) := by decide +kernel
theorem dX3_share_31 : decode cX3_share 31 = .ok (.invokestatic 96, 3) := by decide +kernel
theorem dX3_share_34 : decode cX3_share 34 = .ok (.ifCond .ne 10, 3) := by decide +kernel
theorem dX3_share_37 : decode cX3_share 37 = .ok (.iconst 0, 1) := by decide +kernel
theorem dX3_share_38 : decode cX3_share 38 = .ok (.iconst 1, 1) := by decide +kernel
theorem dX3_share_39 : decode cX3_share 39 = .ok (.iload_n 3, 1) := by decide +kernel
theorem dX3_share_40 : decode cX3_share 40 = .ok (.invokestatic 197, 3) := by decide +kernel
theorem dX3_share_43 : decode cX3_share 43 = .ok (.ireturn, 1) := by decide +kernel
theorem dX3_share_44 : decode cX3_share 44 = .ok (.aload_n 0, 1) := by decide +kernel
theorem dX3_share_45 : decode cX3_share 45 = .ok (.getfield 23, 3) := by decide +kernel
theorem dX3_share_48 : decode cX3_share 48 = .ok (.getfield 93, 3) := by decide +kernel
theorem dX3_share_51 : decode cX3_share 51 = .ok (.iconst 1, 1) := by decide +kernel
theorem dX3_share_52 : decode cX3_share 52 = .ok (.iload_n 1, 1) := by decide +kernel
theorem dX3_share_53 : decode cX3_share 53 = .ok (.ishl, 1) := by decide +kernel
theorem dX3_share_54 : decode cX3_share 54 = .ok (.iconst (-1), 1) := by decide +kernel
theorem dX3_share_55 : decode cX3_share 55 = .ok (.ixor, 1) := by decide +kernel
theorem dX3_share_56 : decode cX3_share 56 = .ok (.iand, 1) := by decide +kernel
theorem dX3_share_57 : decode cX3_share 57 = .ok (.istore 4, 2) := by decide +kernel
theorem dX3_share_59 : decode cX3_share 59 = .ok (.iload 4, 2) := by decide +kernel
theorem dX3_share_61 : decode cX3_share 61 = .ok (.invokestatic 119, 3) := by decide +kernel
theorem dX3_share_64 : decode cX3_share 64 = .ok (.istore 5, 2) := by decide +kernel
theorem dX3_share_66 : decode cX3_share 66 = .ok (.iconst 0, 1) := by decide +kernel
theorem dX3_share_67 : decode cX3_share 67 = .ok (.istore 6, 2) := by decide +kernel
theorem dX3_share_69 : decode cX3_share 69 = .ok (.iconst 0, 1) := by decide +kernel
theorem dX3_share_70 : decode cX3_share 70 = .ok (.istore 7, 2) := by decide +kernel
theorem dX3_share_72 : decode cX3_share 72 = .ok (.iload 7, 2) := by decide +kernel
theorem dX3_share_74 : decode cX3_share 74 = .ok (.iload 4, 2) := by decide +kernel
theorem dX3_share_76 : decode cX3_share 76 = .ok (.if_icmp .gt 54, 3) := by decide +kernel
theorem dX3_share_79 : decode cX3_share 79 = .ok (.iload 7, 2) := by decide +kernel
theorem dX3_share_81 : decode cX3_share 81 = .ok (.iload 4, 2) := by decide +kernel
theorem dX3_share_83 : decode cX3_share 83 = .ok (.iconst (-1), 1) := by decide +kernel
theorem dX3_share_84 : decode cX3_share 84 = .ok (.ixor, 1) := by decide +kernel
theorem dX3_share_85 : decode cX3_share 85 = .ok (.iand, 1) := by decide +kernel
theorem dX3_share_86 : decode cX3_share 86 = .ok (.ifCond .ne 38, 3) := by decide +kernel
theorem dX3_share_89 : decode cX3_share 89 = .ok (.iload 7, 2) := by decide +kernel
theorem dX3_share_91 : decode cX3_share 91 = .ok (.invokestatic 119, 3) := by decide +kernel
theorem dX3_share_94 : decode cX3_share 94 = .ok (.istore 8, 2) := by decide +kernel
theorem dX3_share_96 : decode cX3_share 96 = .ok (.iload 6, 2) := by decide +kernel
theorem dX3_share_98 : decode cX3_share 98 = .ok (.iload 8, 2) := by decide +kernel
theorem dX3_share_100 : decode cX3_share 100 = .ok (.invokestatic 201, 3) := by decide +kernel
theorem dX3_share_103 : decode cX3_share 103 = .ok (.iload 5, 2) := by decide +kernel
theorem dX3_share_105 : decode cX3_share 105 = .ok (.iload 8, 2) := by decide +kernel
theorem dX3_share_107 : decode cX3_share 107 = .ok (.isub, 1) := by decide +kernel
theorem dX3_share_108 : decode cX3_share 108 = .ok (.invokestatic 201, 3) := by decide +kernel
theorem dX3_share_111 : decode cX3_share 111 = .ok (.imul, 1) := by decide +kernel
theorem dX3_share_112 : decode cX3_share 112 = .ok (.aload_n 0, 1) := by decide +kernel
theorem dX3_share_113 : decode cX3_share 113 = .ok (.iload 7, 2) := by decide +kernel
theorem dX3_share_115 : decode cX3_share 115 = .ok (.iload_n 1, 1) := by decide +kernel
theorem dX3_share_116 : decode cX3_share 116 = .ok (.iload_n 2, 1) := by decide +kernel
theorem dX3_share_117 : decode cX3_share 117 = .ok (.invokevirtual 204, 3) := by decide +kernel
theorem dX3_share_120 : decode cX3_share 120 = .ok (.imul, 1) := by decide +kernel
theorem dX3_share_121 : decode cX3_share 121 = .ok (.iadd, 1) := by decide +kernel
theorem dX3_share_122 : decode cX3_share 122 = .ok (.istore 6, 2) := by decide +kernel
theorem dX3_share_124 : decode cX3_share 124 = .ok (.iinc 7 1, 3) := by decide +kernel
theorem dX3_share_127 : decode cX3_share 127 = .ok (.goto (-55), 3) := by decide +kernel
theorem dX3_share_130 : decode cX3_share 130 = .ok (.iload 6, 2) := by decide +kernel
theorem dX3_share_132 : decode cX3_share 132 = .ok (.iload 5, 2) := by decide +kernel
theorem dX3_share_134 : decode cX3_share 134 = .ok (.iconst 1, 1) := by decide +kernel
theorem dX3_share_135 : decode cX3_share 135 = .ok (.iadd, 1) := by decide +kernel
theorem dX3_share_136 : decode cX3_share 136 = .ok (.invokestatic 201, 3) := by decide +kernel
theorem dX3_share_139 : decode cX3_share 139 = .ok (.iload_n 3, 1) := by decide +kernel
theorem dX3_share_140 : decode cX3_share 140 = .ok (.invokestatic 197, 3) := by decide +kernel
theorem dX3_share_143 : decode cX3_share 143 = .ok (.ireturn, 1) := by decide +kernel
set_option maxRecDepth 20000 in
theorem hiX3_share_X0 : ∀ w ∈ u_ws RX0 TX0 4, w ∈ wsX3_share := by decide +kernel
set_option maxRecDepth 20000 in
theorem hiX3_share_X3 : ∀ w ∈ u_ws RX3 TX3 18, w ∈ wsX3_share := by decide +kernel
set_option maxHeartbeats 4000000 in
set_option maxRecDepth 100000 in
theorem wx_share_124 {p : Program} {l : Launch} {e : Env} {s : State} {m : MethodId} {args : Array Value} {below : List Frame} {meth : Method} {c : Code} {D : va_G} {L : Nat → Nat} {K : Nat → ClassId} {t0 : Nat} (hJ : gj L 81) (C0 : gC cX3_share 9 (some .int) wsX3_share RX3 p s m args meth c) (hK : va_K D vwCl (tyG K) s) (hE : eX L t0 s) {w9 : St} {rs : Int32} (k72 : Int32 → Int32 → Int32 → Int32 → Int32 → Int32 → Int32 → St → Option (Int32 × St)) (i72 : ∀ (x1 : Int32) (x2 : Int32) (x3 : Int32) (x4 : Int32) (x5 : Int32) (x6 : Int32) (x7 : Int32) (w : St) (H : Heap) (locs : List Loc) (ls : Array Slot), va_P D vwCl (gl L 81 (cX L K w)) H → va_S (gA L 81) s.heap H locs → lv_has ls 9 [(0, .ref (L 0)), (1, .int x1), (2, .int x2), (3, .int x3), (4, .int x4), (5, .int x5), (6, .int x6), (7, .int x7)] → k72 x1 x2 x3 x4 x5 x6 x7 w = some (rs, w9) → W p l e { frames := 6, cells := 0, slots := 0, locals := 144 } s m args below meth c H locs 0 0 (MQ below (qI D L 81 (cX L K) rs w9) args s 0 0 (gA L 81)) (F0 m 72 ls [])) : ∀ (x1 : Int32) (x2 : Int32) (x3 : Int32) (x4 : Int32) (x5 : Int32) (x6 : Int32) (x7 : Int32) (w : St) (H : Heap) (locs : List Loc) (ls : Array Slot), va_P D vwCl (gl L 81 (cX L K w)) H → va_S (gA L 81) s.heap H locs → lv_has ls 9 [(0, .ref (L 0)), (1, .int x1), (2, .int x2), (3, .int x3), (4, .int x4), (5, .int x5), (6, .int x6), (7, .int x7)] → fx_share_124 k72 x1 x2 x3 x4 x5 x6 x7 w = some (rs, w9) → W p l e { frames := 6, cells := 0, slots := 0, locals := 144 } s m args below meth c H locs 0 0 (MQ below (qI D L 81 (cX L K) rs w9) args s 0 0 (gA L 81)) (F0 m 124 ls []) := by
  obtain ⟨hx, hb, hr, hml, hown, hts, hlk⟩ := id C0
  intro x1 x2 x3 x4 x5 x6 x7 w H locs ls hw hS hl hf
  unfold fx_share_124 at hf
  refine lv_iinc (v := (x7 + 1)) (lv' := [(7, .int (x7 + 1)), (0, .ref (L 0)), (1, .int x1), (2, .int x2), (3, .int x3), (4, .int x4), (5, .int x5), (6, .int x6)]) hx hb dX3_share_124 hl (k := 7) rfl rfl (by decide) rfl (fun ls hl => ?_)
  refine lv_goto (tgt := 72) hx hb dX3_share_127 (by decide) ?_
  exact i72 _ _ _ _ _ _ _ _ _ _ _ hw hS (lv_sub hl [1, 2, 3, 4, 5, 6, 7, 0] rfl) hf
set_option maxHeartbeats 4000000 in
set_option maxRecDepth 100000 in
theorem wx_share_72 {p : Program} {l : Launch} {e : Env} {s : State} {m : MethodId} {args : Array Value} {below : List Frame} {meth : Method} {c : Code} {D : va_G} {L : Nat → Nat} {K : Nat → ClassId} {t0 : Nat} (hJ : gj L 81) (C0 : gC cX3_share 9 (some .int) wsX3_share RX3 p s m args meth c) (hK : va_K D vwCl (tyG K) s) (hE : eX L t0 s) {w9 : St} {rs : Int32} : ∀ (fu : Nat) (x1 : Int32) (x2 : Int32) (x3 : Int32) (x4 : Int32) (x5 : Int32) (x6 : Int32) (x7 : Int32) (w : St) (H : Heap) (locs : List Loc) (ls : Array Slot), va_P D vwCl (gl L 81 (cX L K w)) H → va_S (gA L 81) s.heap H locs → lv_has ls 9 [(0, .ref (L 0)), (1, .int x1), (2, .int x2), (3, .int x3), (4, .int x4), (5, .int x5), (6, .int x6), (7, .int x7)] → fx_share_72 fu x1 x2 x3 x4 x5 x6 x7 w = some (rs, w9) → W p l e { frames := 6, cells := 0, slots := 0, locals := 144 } s m args below meth c H locs 0 0 (MQ below (qI D L 81 (cX L K) rs w9) args s 0 0 (gA L 81)) (F0 m 72 ls []) := by
  obtain ⟨hx, hb, hr, hml, hown, hts, hlk⟩ := id C0
  intro fu
  induction fu with
  | zero =>
    intro x1 x2 x3 x4 x5 x6 x7 w H locs ls hw hS hl hf
    rw [fx_share_72] at hf
    exact no_n hf
  | succ fu ih =>
    intro x1 x2 x3 x4 x5 x6 x7 w H locs ls hw hS hl hf
    rw [fx_share_72] at hf
    refine lv_iload hx hb dX3_share_72 (lv_at hl 7 rfl) ?_
    refine lv_iload hx hb dX3_share_74 (lv_at hl 4 rfl) ?_
    refine lv_icmp_gt (tgt := 130) hx hb dX3_share_76 (by decide) (fun c76 => ?_) (fun c76 => ?_)
    · replace hf := if_t hf c76
      refine lv_iload hx hb dX3_share_130 (lv_at hl 6 rfl) ?_
      refine lv_iload hx hb dX3_share_132 (lv_at hl 5 rfl) ?_
      refine lv_iconst (v := 1) hx hb dX3_share_134 (by decide) ?_
      refine lv_iadd hx hb dX3_share_135 ?_
      obtain ⟨q136, h136, hf⟩ := bd_e hf
      refine z_calli (va_runS (As := [.int (x5 + (1 : Int32))]) (rest := [.int x6]) ⟨hx, hb, hml, hown, hts⟩ (kx_orders l (D := D) (K := K) (t0 := t0) hJ (x5 + (1 : Int32)) w  h136) (va_cwS 1 hts gX3_share_X3_orders rfl rfl rfl (by decide +kernel) ⟨Nat.le_of_ble_eq_true rfl, Nat.le_of_ble_eq_true rfl⟩) (z_preS eX_ok hK hE hw hS) rfl rfl hl.1 rfl (lv_room (Nat.le_of_ble_eq_true rfl)) dX3_share_136 ⟨Nat.le_of_ble_eq_true rfl, Nat.le_of_ble_eq_true rfl⟩) hS (fun H locs hw hS => ?_)
      refine lv_iload_n hx hb dX3_share_139 rfl (lv_at hl 3 rfl) ?_
      obtain ⟨v140, h140, hf⟩ := bd_e hf
      refine z_calls (va_runS (As := [.int x6, .int (q136.1), .int x3]) (rest := []) ⟨hx, hb, hml, hown, hts⟩ (kx_fraction l x6 (q136.1) x3 h140) (va_cwS 3 hts gX3_share_X3_fraction rfl rfl rfl (by decide +kernel) ⟨Nat.le_of_ble_eq_true rfl, Nat.le_of_ble_eq_true rfl⟩) z_preT rfl rfl hl.1 rfl (lv_room (Nat.le_of_ble_eq_true rfl)) dX3_share_140 ⟨Nat.le_of_ble_eq_true rfl, Nat.le_of_ble_eq_true rfl⟩) ?_
      exact z_iret hx hb hr hlk hw hS hf dX3_share_143
    · replace hf := if_f hf c76
      refine lv_iload hx hb dX3_share_79 (lv_at hl 7 rfl) ?_
      refine lv_iload hx hb dX3_share_81 (lv_at hl 4 rfl) ?_
      refine lv_iconst (v := (-1)) hx hb dX3_share_83 (by decide) ?_
      refine lv_ixor hx hb dX3_share_84 ?_
      refine lv_iand hx hb dX3_share_85 ?_
      refine lv_if_ne (tgt := 124) hx hb dX3_share_86 (by decide) (fun c86 => ?_) (fun c86 => ?_)
      · replace hf := if_f hf c86
        exact wx_share_124 hJ C0 hK hE _ ih _ _ _ _ _ _ _ _ _ _ _ hw hS (lv_sub hl [0, 1, 2, 3, 4, 5, 6, 7] rfl) hf
      · replace hf := if_t hf c86
        refine lv_iload hx hb dX3_share_89 (lv_at hl 7 rfl) ?_
        obtain ⟨v91, h91, hf⟩ := bd_e hf
        refine z_calls (va_runS (As := [.int x7]) (rest := []) ⟨hx, hb, hml, hown, hts⟩ (kj_bitCount l x7 h91) (va_cwS 1 hts gX3_share_J6_bitCount_0f7a4 rfl rfl rfl (by decide +kernel) ⟨Nat.le_of_ble_eq_true rfl, Nat.le_of_ble_eq_true rfl⟩) z_preT rfl rfl hl.1 rfl (lv_room (Nat.le_of_ble_eq_true rfl)) dX3_share_91 ⟨Nat.le_of_ble_eq_true rfl, Nat.le_of_ble_eq_true rfl⟩) ?_
        refine lv_istore (lv' := [(8, .int v91), (0, .ref (L 0)), (1, .int x1), (2, .int x2), (3, .int x3), (4, .int x4), (5, .int x5), (6, .int x6), (7, .int x7)]) hx hb dX3_share_94 hl (by decide) rfl (fun ls hl => ?_)
        refine lv_iload hx hb dX3_share_96 (lv_at hl 7 rfl) ?_
        refine lv_iload hx hb dX3_share_98 (lv_at hl 0 rfl) ?_
        obtain ⟨q100, h100, hf⟩ := bd_e hf
        refine z_calli (va_runS (As := [.int v91]) (rest := [.int x6]) ⟨hx, hb, hml, hown, hts⟩ (kx_orders l (D := D) (K := K) (t0 := t0) hJ v91 w  h100) (va_cwS 1 hts gX3_share_X3_orders rfl rfl rfl (by decide +kernel) ⟨Nat.le_of_ble_eq_true rfl, Nat.le_of_ble_eq_true rfl⟩) (z_preS eX_ok hK hE hw hS) rfl rfl hl.1 rfl (lv_room (Nat.le_of_ble_eq_true rfl)) dX3_share_100 ⟨Nat.le_of_ble_eq_true rfl, Nat.le_of_ble_eq_true rfl⟩) hS (fun H locs hw hS => ?_)
        refine lv_iload hx hb dX3_share_103 (lv_at hl 6 rfl) ?_
        refine lv_iload hx hb dX3_share_105 (lv_at hl 0 rfl) ?_
        refine lv_isub hx hb dX3_share_107 ?_
        obtain ⟨q108, h108, hf⟩ := bd_e hf
        refine z_calli (va_runS (As := [.int (x5 - v91)]) (rest := [.int (q100.1), .int x6]) ⟨hx, hb, hml, hown, hts⟩ (kx_orders l (D := D) (K := K) (t0 := t0) hJ (x5 - v91) (q100.2)  h108) (va_cwS 1 hts gX3_share_X3_orders rfl rfl rfl (by decide +kernel) ⟨Nat.le_of_ble_eq_true rfl, Nat.le_of_ble_eq_true rfl⟩) (z_preS eX_ok hK hE hw hS) rfl rfl hl.1 rfl (lv_room (Nat.le_of_ble_eq_true rfl)) dX3_share_108 ⟨Nat.le_of_ble_eq_true rfl, Nat.le_of_ble_eq_true rfl⟩) hS (fun H locs hw hS => ?_)
        refine lv_imul hx hb dX3_share_111 ?_
        refine lv_aload_n hx hb dX3_share_112 rfl (lv_at hl 1 rfl) ?_
        refine lv_iload hx hb dX3_share_113 (lv_at hl 8 rfl) ?_
        refine lv_iload_n hx hb dX3_share_115 rfl (lv_at hl 2 rfl) ?_
        refine lv_iload_n hx hb dX3_share_116 rfl (lv_at hl 3 rfl) ?_
        obtain ⟨q117, h117, hf⟩ := bd_e hf
        refine z_calli (va_runV (As := [.int x7, .int x1, .int x2]) (rest := [.int (q100.1 * q108.1), .int x6]) ⟨hx, hb, hml, hown, hts⟩ (kx_gain l (D := D) (K := K) (t0 := t0) hJ x7 x1 x2 (q108.2)  h117) (cwV 3 hts gX3_share_X3_gain rfl rfl rfl (by decide +kernel) ⟨Nat.le_of_ble_eq_true rfl, Nat.le_of_ble_eq_true rfl⟩) (z_preV eX_ok hK hE hw hS kc_0.2 ((cX_a0 kc_0.1) _) (T := TX3) (M := 18) rfl) rfl rfl hl.1 rfl (lv_room (Nat.le_of_ble_eq_true rfl)) dX3_share_117 ⟨Nat.le_of_ble_eq_true rfl, Nat.le_of_ble_eq_true rfl⟩) hS (fun H locs hw hS => ?_)
        refine lv_imul hx hb dX3_share_120 ?_
        refine lv_iadd hx hb dX3_share_121 ?_
        refine lv_topi (fun v122 e122 => ?_)
        replace hf := lb_e hf e122
        refine lv_istore (lv' := [(6, .int v122), (8, .int v91), (0, .ref (L 0)), (1, .int x1), (2, .int x2), (3, .int x3), (4, .int x4), (5, .int x5), (7, .int x7)]) hx hb dX3_share_122 hl (by decide) rfl (fun ls hl => ?_)
        exact wx_share_124 hJ C0 hK hE _ ih _ _ _ _ _ _ _ _ _ _ _ hw hS (lv_sub hl [2, 3, 4, 5, 6, 7, 0, 8] rfl) hf
set_option maxHeartbeats 4000000 in
set_option maxRecDepth 100000 in
theorem wx_share_0 {p : Program} {l : Launch} {e : Env} {s : State} {m : MethodId} {args : Array Value} {below : List Frame} {meth : Method} {c : Code} {D : va_G} {L : Nat → Nat} {K : Nat → ClassId} {t0 : Nat} (hJ : gj L 81) (C0 : gC cX3_share 9 (some .int) wsX3_share RX3 p s m args meth c) (hK : va_K D vwCl (tyG K) s) (hE : eX L t0 s) {w9 : St} {rs : Int32} : ∀ (x1 : Int32) (x2 : Int32) (x3 : Int32) (w : St) (H : Heap) (locs : List Loc) (ls : Array Slot), va_P D vwCl (gl L 81 (cX L K w)) H → va_S (gA L 81) s.heap H locs → lv_has ls 9 [(0, .ref (L 0)), (1, .int x1), (2, .int x2), (3, .int x3)] → fx_share x1 x2 x3 w = some (rs, w9) → W p l e { frames := 6, cells := 0, slots := 0, locals := 144 } s m args below meth c H locs 0 0 (MQ below (qI D L 81 (cX L K) rs w9) args s 0 0 (gA L 81)) (F0 m 0 ls []) := by
  obtain ⟨hx, hb, hr, hml, hown, hts, hlk⟩ := id C0
  intro x1 x2 x3 w H locs ls hw hS hl hf
  unfold fx_share at hf
  refine lv_aload_n hx hb dX3_share_0 rfl (lv_at hl 0 rfl) ?_
  refine lv_iload_n hx hb dX3_share_1 rfl (lv_at hl 1 rfl) ?_
  obtain ⟨q2, h2, hf⟩ := bd_e hf
  refine z_calli (va_runV (As := [.int x1]) (rest := []) ⟨hx, hb, hml, hown, hts⟩ (kx_isThere l (D := D) (K := K) (t0 := t0) hJ x1 w  h2) (cwV 1 hts gX3_share_X3_isThere rfl rfl rfl (by decide +kernel) ⟨Nat.le_of_ble_eq_true rfl, Nat.le_of_ble_eq_true rfl⟩) (z_preV eX_ok hK hE hw hS kc_0.2 ((cX_a0 kc_0.1) _) (T := TX3) (M := 18) rfl) rfl rfl hl.1 rfl (lv_room (Nat.le_of_ble_eq_true rfl)) dX3_share_2 ⟨Nat.le_of_ble_eq_true rfl, Nat.le_of_ble_eq_true rfl⟩) hS (fun H locs hw hS => ?_)
  refine lv_if_ne (tgt := 10) hx hb dX3_share_5 (by decide) (fun c5 => ?_) (fun c5 => ?_)
  · replace hf := if_f hf c5
    refine lv_iload_n hx hb dX3_share_10 rfl (lv_at hl 2 rfl) ?_
    refine lv_iconst (v := 1) hx hb dX3_share_11 (by decide) ?_
    refine lv_icmp_lt (tgt := 20) hx hb dX3_share_12 (by decide) (fun c12 => ?_) (fun c12 => ?_)
    · replace hf := if_t hf c12
      refine lv_bipush (v := (-2)) hx hb dX3_share_20 (by decide) ?_
      exact z_iret hx hb hr hlk hw hS hf dX3_share_22
    · replace hf := if_f hf c12
      refine lv_iload_n hx hb dX3_share_15 rfl (lv_at hl 2 rfl) ?_
      refine lv_iconst (v := 3) hx hb dX3_share_16 (by decide) ?_
      refine lv_icmp_le (tgt := 23) hx hb dX3_share_17 (by decide) (fun c17 => ?_) (fun c17 => ?_)
      · replace hf := if_t hf c17
        refine lv_aload_n hx hb dX3_share_23 rfl (lv_at hl 0 rfl) ?_
        refine z_get (v := .ref (L 13)) hx hb hts hiX3_share_X3 hown hK hw (k := 0) kc_0.2 ((cX_a0 kc_0.1) _) rfl 6 (by decide) (hts (.fieldLink RX3 23 "OneSentence" "today" "LOneSentence$Day;") (by decide +kernel)) rfl dX3_share_24 ?_
        refine z_getN (v := .int ((q2.2).1 13 1)) hx hb hts hiX3_share_X0 hown hK hw (k := 13) kc_13.2 ((cX_a2 kc_13.1) _) rfl 1 (by decide) (hE.1 (RX3, 93, "OneSentence$Day", "at", "I", "OneSentence") (by decide)) rfl dX3_share_27 ?_
        refine lv_iload_n hx hb dX3_share_30 rfl (lv_at hl 1 rfl) ?_
        obtain ⟨v31, h31, hf⟩ := bd_e hf
        refine z_calls (va_runS (As := [.int ((q2.2).1 13 1), .int x1]) (rest := []) ⟨hx, hb, hml, hown, hts⟩ (kx_has l ((q2.2).1 13 1) x1 h31) (va_cwS 2 hts gX3_share_X3_has rfl rfl rfl (by decide +kernel) ⟨Nat.le_of_ble_eq_true rfl, Nat.le_of_ble_eq_true rfl⟩) z_preT rfl rfl hl.1 rfl (lv_room (Nat.le_of_ble_eq_true rfl)) dX3_share_31 ⟨Nat.le_of_ble_eq_true rfl, Nat.le_of_ble_eq_true rfl⟩) ?_
        refine lv_if_ne (tgt := 44) hx hb dX3_share_34 (by decide) (fun c34 => ?_) (fun c34 => ?_)
        · replace hf := if_f hf c34
          refine lv_aload_n hx hb dX3_share_44 rfl (lv_at hl 0 rfl) ?_
          refine z_get (v := .ref (L 13)) hx hb hts hiX3_share_X3 hown hK hw (k := 0) kc_0.2 ((cX_a0 kc_0.1) _) rfl 6 (by decide) (hts (.fieldLink RX3 23 "OneSentence" "today" "LOneSentence$Day;") (by decide +kernel)) rfl dX3_share_45 ?_
          refine z_getN (v := .int ((q2.2).1 13 1)) hx hb hts hiX3_share_X0 hown hK hw (k := 13) kc_13.2 ((cX_a2 kc_13.1) _) rfl 1 (by decide) (hE.1 (RX3, 93, "OneSentence$Day", "at", "I", "OneSentence") (by decide)) rfl dX3_share_48 ?_
          refine lv_iconst (v := 1) hx hb dX3_share_51 (by decide) ?_
          refine lv_iload_n hx hb dX3_share_52 rfl (lv_at hl 1 rfl) ?_
          refine lv_ishl hx hb dX3_share_53 ?_
          refine lv_iconst (v := (-1)) hx hb dX3_share_54 (by decide) ?_
          refine lv_ixor hx hb dX3_share_55 ?_
          refine lv_iand hx hb dX3_share_56 ?_
          refine lv_topi (fun v57 e57 => ?_)
          replace hf := lb_e hf e57
          refine lv_istore (lv' := [(4, .int v57), (0, .ref (L 0)), (1, .int x1), (2, .int x2), (3, .int x3)]) hx hb dX3_share_57 hl (by decide) rfl (fun ls hl => ?_)
          refine lv_iload hx hb dX3_share_59 (lv_at hl 0 rfl) ?_
          obtain ⟨v61, h61, hf⟩ := bd_e hf
          refine z_calls (va_runS (As := [.int v57]) (rest := []) ⟨hx, hb, hml, hown, hts⟩ (kj_bitCount l v57 h61) (va_cwS 1 hts gX3_share_J6_bitCount_0f7a4 rfl rfl rfl (by decide +kernel) ⟨Nat.le_of_ble_eq_true rfl, Nat.le_of_ble_eq_true rfl⟩) z_preT rfl rfl hl.1 rfl (lv_room (Nat.le_of_ble_eq_true rfl)) dX3_share_61 ⟨Nat.le_of_ble_eq_true rfl, Nat.le_of_ble_eq_true rfl⟩) ?_
          refine lv_istore (lv' := [(5, .int v61), (4, .int v57), (0, .ref (L 0)), (1, .int x1), (2, .int x2), (3, .int x3)]) hx hb dX3_share_64 hl (by decide) rfl (fun ls hl => ?_)
          refine lv_iconst (v := 0) hx hb dX3_share_66 (by decide) ?_
          refine lv_istore (lv' := [(6, .int 0), (5, .int v61), (4, .int v57), (0, .ref (L 0)), (1, .int x1), (2, .int x2), (3, .int x3)]) hx hb dX3_share_67 hl (by decide) rfl (fun ls hl => ?_)
          refine lv_iconst (v := 0) hx hb dX3_share_69 (by decide) ?_
          refine lv_istore (lv' := [(7, .int 0), (6, .int 0), (5, .int v61), (4, .int v57), (0, .ref (L 0)), (1, .int x1), (2, .int x2), (3, .int x3)]) hx hb dX3_share_70 hl (by decide) rfl (fun ls hl => ?_)
          exact wx_share_72 hJ C0 hK hE _ _ _ _ _ _ _ _ _ _ _ _ hw hS (lv_sub hl [4, 5, 6, 7, 3, 2, 1, 0] rfl) hf
        · replace hf := if_t hf c34
          refine lv_iconst (v := 0) hx hb dX3_share_37 (by decide) ?_
          refine lv_iconst (v := 1) hx hb dX3_share_38 (by decide) ?_
          refine lv_iload_n hx hb dX3_share_39 rfl (lv_at hl 3 rfl) ?_
          obtain ⟨v40, h40, hf⟩ := bd_e hf
          refine z_calls (va_runS (As := [.int 0, .int 1, .int x3]) (rest := []) ⟨hx, hb, hml, hown, hts⟩ (kx_fraction l 0 1 x3 h40) (va_cwS 3 hts gX3_share_X3_fraction rfl rfl rfl (by decide +kernel) ⟨Nat.le_of_ble_eq_true rfl, Nat.le_of_ble_eq_true rfl⟩) z_preT rfl rfl hl.1 rfl (lv_room (Nat.le_of_ble_eq_true rfl)) dX3_share_40 ⟨Nat.le_of_ble_eq_true rfl, Nat.le_of_ble_eq_true rfl⟩) ?_
          exact z_iret hx hb hr hlk hw hS hf dX3_share_43
      · replace hf := if_f hf c17
        refine lv_bipush (v := (-2)) hx hb dX3_share_20 (by decide) ?_
        exact z_iret hx hb hr hlk hw hS hf dX3_share_22
  · replace hf := if_t hf c5
    refine lv_iconst (v := (-1)) hx hb dX3_share_8 (by decide) ?_
    exact z_iret hx hb hr hlk hw hS hf dX3_share_9
set_option maxHeartbeats 4000000 in
set_option maxRecDepth 100000 in
theorem kx_share (l : Launch) {D : va_G} {L : Nat → Nat} {K : Nat → ClassId} {t0 : Nat} (hJ : gj L 81) (x1 : Int32) (x2 : Int32) (x3 : Int32) (w : St) {w9 : St} {rs : Int32} (hf : fx_share x1 x2 x3 w = some (rs, w9)) : Met l yX3_share wsX3_share ({ frames := 6, cells := 0, slots := 0, locals := 144 }) (va_Pc [.ref (L 0), .int x1, .int x2, .int x3] (xP D L K t0 w)) (qI D L 81 (cX L K) rs w9) 0 0 (gA L 81) := by
  refine g_met (cc := cX3_share) (nL := 9) (ret := (some .int)) (by decide) rfl (Nat.le_of_ble_eq_true rfl) (fun p e s m below meth c ls C0 hP hl => ?_)
  exact wx_share_0 hJ C0 hP.2.1 hP.2.2 _ _ _ w _ _ ls hP.1 va_S.rf (lv_sub hl [0, 1, 2, 3] rfl) hf
