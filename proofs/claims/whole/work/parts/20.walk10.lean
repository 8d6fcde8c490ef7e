set_option maxRecDepth 20000 in
theorem ggX4_naming_X4_in : GoodIn wsX4_naming wsX4_in := goodIn_r _ [8] (by decide +kernel) (by decide +kernel)
set_option maxRecDepth 20000 in
theorem gX4_naming_X4_in : GoodIn wsX4_naming (va_wsS RX4 46 yX4_in wsX4_in) := goodIn_app (goodIn_of _ (by decide +kernel)) ggX4_naming_X4_in
set_option maxRecDepth 20000 in
theorem ggX4_naming_X4_canBy : GoodIn wsX4_naming wsX4_canBy := goodIn_r _ [12, 4, 13, 14, 7, 15, 16, 17, 18, 19, 20, 21, 22, 23, 24, 25, 26, 27, 2, 3, 28, 29, 30, 5, 6, 8, 31, 32, 33, 34, 35, 36, 37, 38, 39, 40, 41, 42, 43, 44, 45, 46, 47, 48, 49, 53, 54, 55, 56, 57, 58, 59, 60, 61, 62, 63, 64, 65, 66, 67, 68, 69, 70, 71, 72, 73, 74, 75, 76] (by decide +kernel) (by decide +kernel)
set_option maxRecDepth 20000 in
theorem gX4_naming_X4_canBy : GoodIn wsX4_naming (wsV RX4 154 RX4 yX4_canBy wsX4_canBy) := goodIn_app (goodIn_of _ (by decide +kernel)) ggX4_naming_X4_canBy
set_option maxRecDepth 20000 in
theorem ggX4_naming_X4_ones : GoodIn wsX4_naming wsX4_ones := goodIn_r _ [52] (by decide +kernel) (by decide +kernel)
set_option maxRecDepth 20000 in
theorem gX4_naming_X4_ones : GoodIn wsX4_naming (va_wsS RX4 111 yX4_ones wsX4_ones) := goodIn_app (goodIn_of _ (by decide +kernel)) ggX4_naming_X4_ones
theorem dX4_naming_0 : decode cX4_naming 0 = .ok (.iload_n 1, 1) := by decide +kernel
theorem dX4_naming_1 : decode cX4_naming 1 = .ok (.i2l, 1) := by decide +kernel
theorem dX4_naming_2 : decode cX4_naming 2 = .ok (.lconst 1, 1) := by decide +kernel
theorem dX4_naming_3 : decode cX4_naming 3 = .ok (.ldc2_w 117, 3) := by decide +kernel
theorem dX4_naming_6 : decode cX4_naming 6 = .ok (.invokestatic 46, 3) := by decide +kernel
theorem dX4_naming_9 : decode cX4_naming 9 = .ok (.ifCond .ne 6, 3) := by decide +kernel
theorem dX4_naming_12 : decode cX4_naming 12 = .ok (.bipush (-2), 2) := by decide +kernel
theorem dX4_naming_14 : decode cX4_naming 14 = .ok (.ireturn, 1) := by decide +kernel
theorem dX4_naming_15 : decode cX4_naming 15 = .ok (.iconst 0, 1) := by decide +kernel
theorem dX4_naming_16 : decode cX4_naming 16 = .ok (.istore_n 3, 1) := by decide +kernel
theorem dX4_naming_17 : decode cX4_naming 17 = .ok (.iconst 0, 1) := by decide +kernel
theorem dX4_naming_18 : decode cX4_naming 18 = .ok (.istore 4, 2) := by decide +kernel
theorem dX4_naming_20 : decode cX4_naming 20 = .ok (.iconst 0, 1) := by decide +kernel
theorem dX4_naming_21 : decode cX4_naming 21 = .ok (.istore 5, 2) := by decide +kernel
theorem dX4_naming_23 : decode cX4_naming 23 = .ok (.iload 5, 2) := by decide +kernel
theorem dX4_naming_25 : decode cX4_naming 25 = .ok (.bipush 40, 2) := by decide +kernel
theorem dX4_naming_27 : decode cX4_naming 27 = .ok (.if_icmp .ge 76, 3) := by decide +kernel
theorem dX4_naming_30 : decode cX4_naming 30 = .ok (.aload_n 0, 1) := by decide +kernel
theorem dX4_naming_31 : decode cX4_naming 31 = .ok (.iload 5, 2) := by decide +kernel
theorem dX4_naming_33 : decode cX4_naming 33 = .ok (.bipush 10, 2) := by decide +kernel
theorem dX4_naming_35 : decode cX4_naming 35 = .ok (.idiv, 1) := by decide +kernel
theorem dX4_naming_36 : decode cX4_naming 36 = .ok (.putfield 121, 3) := by decide +kernel
theorem dX4_naming_39 : decode cX4_naming 39 = .ok (.aload_n 0, 1) := by decide +kernel
theorem dX4_naming_40 : decode cX4_naming 40 = .ok (.iload 5, 2) := by decide +kernel
theorem dX4_naming_42 : decode cX4_naming 42 = .ok (.bipush 10, 2) := by decide +kernel
theorem dX4_naming_44 : decode cX4_naming 44 = .ok (.irem, 1) := by decide +kernel
theorem dX4_naming_45 : decode cX4_naming 45 = .ok (.putfield 124, 3) := by decide +kernel
theorem dX4_naming_48 : decode cX4_naming 48 = .ok (.aload_n 0, 1) := by decide +kernel
theorem dX4_naming_49 : decode cX4_naming 49 = .ok (.aload_n 0, 1) := by decide +kernel
theorem dX4_naming_50 : decode cX4_naming 50 = .ok (.getfield 16, 3) := by decide +kernel
theorem dX4_naming_53 : decode cX4_naming 53 = .ok (.iconst 0, 1) := by decide +kernel
theorem dX4_naming_54 : decode cX4_naming 54 = .ok (.iaload, 1) := by decide +kernel
theorem dX4_naming_55 : decode cX4_naming 55 = .ok (.bipush 64, 2) := by decide +kernel
theorem dX4_naming_57 : decode cX4_naming 57 = .ok (.ior, 1) := by decide +kernel
theorem dX4_naming_58 : decode cX4_naming 58 = .ok (.iload_n 1, 1) := by decide +kernel
theorem dX4_naming_59 : decode cX4_naming 59 = .ok (.invokevirtual 154, 3) := by decide +kernel
theorem dX4_naming_62 : decode cX4_naming 62 = .ok (.invokestatic 111, 3) := by decide +kernel
theorem dX4_naming_65 : decode cX4_naming 65 = .ok (.istore 6, 2) := by decide +kernel
theorem dX4_naming_67 : decode cX4_naming 67 = .ok (.iload 6, 2) := by decide +kernel
theorem dX4_naming_69 : decode cX4_naming 69 = .ok (.iload 4, 2) := by decide +kernel
theorem dX4_naming_71 : decode cX4_naming 71 = .ok (.if_icmp .le 8, 3) := by decide +kernel
theorem dX4_naming_74 : decode cX4_naming 74 = .ok (.iload 5, 2) := by decide +kernel
theorem dX4_naming_76 : decode cX4_naming 76 = .ok (.goto 4, 3) := by decide +kernel
theorem dX4_naming_79 : decode cX4_naming 79 = .ok (.iload_n 3, 1) := by decide +kernel
theorem dX4_naming_80 : decode cX4_naming 80 = .ok (.istore_n 3, 1) := by decide +kernel
theorem dX4_naming_81 : decode cX4_naming 81 = .ok (.iload 6, 2) := by decide +kernel
theorem dX4_naming_83 : decode cX4_naming 83 = .ok (.iload 4, 2) := by decide +kernel
theorem dX4_naming_85 : decode cX4_naming 85 = .ok (.if_icmp .le 8, 3) := by decide +kernel
theorem dX4_naming_88 : decode cX4_naming 88 = .ok (.iload 6, 2) := by decide +kernel
theorem dX4_naming_90 : decode cX4_naming 90 = .ok (.goto 5, 3) := by decide +kernel
theorem dX4_naming_93 : decode cX4_naming 93 = .ok (.iload 4, 2) := by decide +kernel
theorem dX4_naming_95 : decode cX4_naming 95 = .ok (.istore 4, 2) := by decide +kernel
theorem dX4_naming_97 : decode cX4_naming 97 = .ok (.iinc 5 1, 3) := by decide +kernel
theorem dX4_naming_100 : decode cX4_naming 100 = .ok (.goto (-77), 3) := by decide +kernel
theorem dX4_naming_103 : decode cX4_naming 103 = .ok (.iload_n 2, 1) := by decide +kernel
theorem dX4_naming_104 : decode cX4_naming 104 = .ok (.ifCond .eq 8, 3) := by decide +kernel
theorem dX4_naming_107 : decode cX4_naming 107 = .ok (.iload 4, 2) := by decide +kernel
theorem dX4_naming_109 : decode cX4_naming 109 = .ok (.goto 4, 3) := by decide +kernel
theorem dX4_naming_112 : decode cX4_naming 112 = .ok (.iload_n 3, 1) := by decide +kernel
theorem dX4_naming_113 : decode cX4_naming 113 = .ok (.ireturn, 1) := by decide +kernel
set_option maxRecDepth 20000 in
theorem hiX4_naming_X4 : ∀ w ∈ u_ws RX4 TX4 24, w ∈ wsX4_naming := by decide +kernel
set_option maxHeartbeats 4000000 in
set_option maxRecDepth 100000 in
theorem wm_naming_95 {p : Program} {l : Launch} {e : Env} {s : State} {m : MethodId} {args : Array Value} {below : List Frame} {meth : Method} {c : Code} {D : va_G} {L : Nat → Nat} {K : Nat → ClassId} (hJ : gj L 12) (C0 : gC cX4_naming 7 (some .int) wsX4_naming RX4 p s m args meth c) (hK : va_K D vwCl (tyG K) s) (hE : eM s) {w9 : St} {rs : Int32} (k23 : Int32 → Int32 → Int32 → Int32 → Int32 → St → Option (Int32 × St)) (i23 : ∀ (x1 : Int32) (x2 : Int32) (x3 : Int32) (x4 : Int32) (x5 : Int32) (w : St) (H : Heap) (locs : List Loc) (ls : Array Slot), va_P D vwCl (gl L 12 (cM L K w)) H → va_S (gA L 12) s.heap H locs → lv_has ls 7 [(0, .ref (L 0)), (1, .int x1), (2, .int x2), (3, .int x3), (4, .int x4), (5, .int x5)] → k23 x1 x2 x3 x4 x5 w = some (rs, w9) → W p l e { frames := 5, cells := 0, slots := 0, locals := 117 } s m args below meth c H locs 0 0 (MQ below (qI D L 12 (cM L K) rs w9) args s 0 0 (gA L 12)) (F0 m 23 ls [])) : ∀ (x1 : Int32) (x2 : Int32) (x3 : Int32) (x5 : Int32) (s0 : Int32) (w : St) (H : Heap) (locs : List Loc) (ls : Array Slot), va_P D vwCl (gl L 12 (cM L K w)) H → va_S (gA L 12) s.heap H locs → lv_has ls 7 [(0, .ref (L 0)), (1, .int x1), (2, .int x2), (3, .int x3), (5, .int x5)] → fm_naming_95 k23 x1 x2 x3 x5 s0 w = some (rs, w9) → W p l e { frames := 5, cells := 0, slots := 0, locals := 117 } s m args below meth c H locs 0 0 (MQ below (qI D L 12 (cM L K) rs w9) args s 0 0 (gA L 12)) (F0 m 95 ls [.int s0]) := by
  obtain ⟨hx, hb, hr, hml, hown, hts, hlk⟩ := id C0
  intro x1 x2 x3 x5 s0 w H locs ls hw hS hl hf
  unfold fm_naming_95 at hf
  refine lv_istore (lv' := [(4, .int s0), (0, .ref (L 0)), (1, .int x1), (2, .int x2), (3, .int x3), (5, .int x5)]) hx hb dX4_naming_95 hl (by decide) rfl (fun ls hl => ?_)
  refine lv_iinc (v := (x5 + 1)) (lv' := [(5, .int (x5 + 1)), (4, .int s0), (0, .ref (L 0)), (1, .int x1), (2, .int x2), (3, .int x3)]) hx hb dX4_naming_97 hl (k := 5) rfl rfl (by decide) rfl (fun ls hl => ?_)
  refine lv_goto (tgt := 23) hx hb dX4_naming_100 (by decide) ?_
  exact i23 _ _ _ _ _ _ _ _ _ hw hS (lv_sub hl [2, 3, 4, 5, 1, 0] rfl) hf
set_option maxHeartbeats 4000000 in
set_option maxRecDepth 100000 in
theorem wm_naming_80 {p : Program} {l : Launch} {e : Env} {s : State} {m : MethodId} {args : Array Value} {below : List Frame} {meth : Method} {c : Code} {D : va_G} {L : Nat → Nat} {K : Nat → ClassId} (hJ : gj L 12) (C0 : gC cX4_naming 7 (some .int) wsX4_naming RX4 p s m args meth c) (hK : va_K D vwCl (tyG K) s) (hE : eM s) {w9 : St} {rs : Int32} (k23 : Int32 → Int32 → Int32 → Int32 → Int32 → St → Option (Int32 × St)) (i23 : ∀ (x1 : Int32) (x2 : Int32) (x3 : Int32) (x4 : Int32) (x5 : Int32) (w : St) (H : Heap) (locs : List Loc) (ls : Array Slot), va_P D vwCl (gl L 12 (cM L K w)) H → va_S (gA L 12) s.heap H locs → lv_has ls 7 [(0, .ref (L 0)), (1, .int x1), (2, .int x2), (3, .int x3), (4, .int x4), (5, .int x5)] → k23 x1 x2 x3 x4 x5 w = some (rs, w9) → W p l e { frames := 5, cells := 0, slots := 0, locals := 117 } s m args below meth c H locs 0 0 (MQ below (qI D L 12 (cM L K) rs w9) args s 0 0 (gA L 12)) (F0 m 23 ls [])) : ∀ (x1 : Int32) (x2 : Int32) (x4 : Int32) (x5 : Int32) (x6 : Int32) (s0 : Int32) (w : St) (H : Heap) (locs : List Loc) (ls : Array Slot), va_P D vwCl (gl L 12 (cM L K w)) H → va_S (gA L 12) s.heap H locs → lv_has ls 7 [(0, .ref (L 0)), (1, .int x1), (2, .int x2), (4, .int x4), (5, .int x5), (6, .int x6)] → fm_naming_80 k23 x1 x2 x4 x5 x6 s0 w = some (rs, w9) → W p l e { frames := 5, cells := 0, slots := 0, locals := 117 } s m args below meth c H locs 0 0 (MQ below (qI D L 12 (cM L K) rs w9) args s 0 0 (gA L 12)) (F0 m 80 ls [.int s0]) := by
  obtain ⟨hx, hb, hr, hml, hown, hts, hlk⟩ := id C0
  intro x1 x2 x4 x5 x6 s0 w H locs ls hw hS hl hf
  unfold fm_naming_80 at hf
  refine lv_istore_n (lv' := [(3, .int s0), (0, .ref (L 0)), (1, .int x1), (2, .int x2), (4, .int x4), (5, .int x5), (6, .int x6)]) hx hb dX4_naming_80 rfl hl (by decide) rfl (fun ls hl => ?_)
  refine lv_iload hx hb dX4_naming_81 (lv_at hl 6 rfl) ?_
  refine lv_iload hx hb dX4_naming_83 (lv_at hl 4 rfl) ?_
  refine lv_icmp_le (tgt := 93) hx hb dX4_naming_85 (by decide) (fun c85 => ?_) (fun c85 => ?_)
  · replace hf := if_t hf c85
    refine lv_iload hx hb dX4_naming_93 (lv_at hl 4 rfl) ?_
    exact wm_naming_95 hJ C0 hK hE _ i23 _ _ _ _ _ _ _ _ _ hw hS (lv_sub hl [1, 2, 3, 0, 5] rfl) hf
  · replace hf := if_f hf c85
    refine lv_iload hx hb dX4_naming_88 (lv_at hl 6 rfl) ?_
    refine lv_goto (tgt := 95) hx hb dX4_naming_90 (by decide) ?_
    exact wm_naming_95 hJ C0 hK hE _ i23 _ _ _ _ _ _ _ _ _ hw hS (lv_sub hl [1, 2, 3, 0, 5] rfl) hf
set_option maxHeartbeats 4000000 in
set_option maxRecDepth 100000 in
theorem wm_naming_23 {p : Program} {l : Launch} {e : Env} {s : State} {m : MethodId} {args : Array Value} {below : List Frame} {meth : Method} {c : Code} {D : va_G} {L : Nat → Nat} {K : Nat → ClassId} (hJ : gj L 12) (C0 : gC cX4_naming 7 (some .int) wsX4_naming RX4 p s m args meth c) (hK : va_K D vwCl (tyG K) s) (hE : eM s) {w9 : St} {rs : Int32} : ∀ (fu : Nat) (x1 : Int32) (x2 : Int32) (x3 : Int32) (x4 : Int32) (x5 : Int32) (w : St) (H : Heap) (locs : List Loc) (ls : Array Slot), va_P D vwCl (gl L 12 (cM L K w)) H → va_S (gA L 12) s.heap H locs → lv_has ls 7 [(0, .ref (L 0)), (1, .int x1), (2, .int x2), (3, .int x3), (4, .int x4), (5, .int x5)] → fm_naming_23 fu x1 x2 x3 x4 x5 w = some (rs, w9) → W p l e { frames := 5, cells := 0, slots := 0, locals := 117 } s m args below meth c H locs 0 0 (MQ below (qI D L 12 (cM L K) rs w9) args s 0 0 (gA L 12)) (F0 m 23 ls []) := by
  obtain ⟨hx, hb, hr, hml, hown, hts, hlk⟩ := id C0
  intro fu
  induction fu with
  | zero =>
    intro x1 x2 x3 x4 x5 w H locs ls hw hS hl hf
    rw [fm_naming_23] at hf
    exact no_n hf
  | succ fu ih =>
    intro x1 x2 x3 x4 x5 w H locs ls hw hS hl hf
    rw [fm_naming_23] at hf
    refine lv_iload hx hb dX4_naming_23 (lv_at hl 5 rfl) ?_
    refine lv_bipush (v := 40) hx hb dX4_naming_25 (by decide) ?_
    refine lv_icmp_ge (tgt := 103) hx hb dX4_naming_27 (by decide) (fun c27 => ?_) (fun c27 => ?_)
    · replace hf := if_t hf c27
      refine lv_iload_n hx hb dX4_naming_103 rfl (lv_at hl 2 rfl) ?_
      refine lv_if_eq (tgt := 112) hx hb dX4_naming_104 (by decide) (fun c104 => ?_) (fun c104 => ?_)
      · replace hf := if_t hf c104
        refine lv_iload_n hx hb dX4_naming_112 rfl (lv_at hl 3 rfl) ?_
        exact z_iret hx hb hr hlk hw hS hf dX4_naming_113
      · replace hf := if_f hf c104
        refine lv_iload hx hb dX4_naming_107 (lv_at hl 4 rfl) ?_
        refine lv_goto (tgt := 113) hx hb dX4_naming_109 (by decide) ?_
        exact z_iret hx hb hr hlk hw hS hf dX4_naming_113
    · replace hf := if_f hf c27
      refine lv_aload_n hx hb dX4_naming_30 rfl (lv_at hl 0 rfl) ?_
      refine lv_iload hx hb dX4_naming_31 (lv_at hl 5 rfl) ?_
      refine lv_bipush (v := 10) hx hb dX4_naming_33 (by decide) ?_
      refine lv_idiv hx hb dX4_naming_35 (by decide) ?_
      refine z_puti hx hb hts hiX4_naming_X4 tyX4 tyX4_ok nmX4 hown hK hJ hw hS (k := 0) (by decide) cM_ne (fs := fM0 L) (fun w => rfl) rfl 15 (by decide) (hts (.fieldLink RX4 121 "OneSentenceModel" "newSort" "I") (by decide +kernel)) rfl rfl (fun _ _ => ⟨Nat.le_of_ble_eq_true rfl, rfl⟩) dX4_naming_36 (fun H locs hw hS => ?_)
      refine lv_aload_n hx hb dX4_naming_39 rfl (lv_at hl 0 rfl) ?_
      refine lv_iload hx hb dX4_naming_40 (lv_at hl 5 rfl) ?_
      refine lv_bipush (v := 10) hx hb dX4_naming_42 (by decide) ?_
      refine lv_irem hx hb dX4_naming_44 (by decide) ?_
      refine z_puti hx hb hts hiX4_naming_X4 tyX4 tyX4_ok nmX4 hown hK hJ hw hS (k := 0) (by decide) cM_ne (fs := fM0 L) (fun w => rfl) rfl 16 (by decide) (hts (.fieldLink RX4 124 "OneSentenceModel" "newFigure" "I") (by decide +kernel)) rfl rfl (fun _ _ => ⟨Nat.le_of_ble_eq_true rfl, rfl⟩) dX4_naming_45 (fun H locs hw hS => ?_)
      refine lv_aload_n hx hb dX4_naming_48 rfl (lv_at hl 0 rfl) ?_
      refine lv_aload_n hx hb dX4_naming_49 rfl (lv_at hl 0 rfl) ?_
      refine z_get (v := .ref (L 3)) hx hb hts hiX4_naming_X4 hown hK hw (k := 0) (by decide) ((fun w => rfl) _) rfl 4 (by decide) (hts (.fieldLink RX4 16 "OneSentenceModel" "now" "[I") (by decide +kernel)) rfl dX4_naming_50 ?_
      refine lv_iconst (v := 0) hx hb dX4_naming_53 (by decide) ?_
      obtain ⟨v54, h54, hf⟩ := bd_e hf
      refine z_iald hx hb hK hw 0 (k := 3) (by decide) ((fun w => rfl) _) rfl h54 dX4_naming_54 ?_
      refine lv_bipush (v := 64) hx hb dX4_naming_55 (by decide) ?_
      refine lv_ior hx hb dX4_naming_57 ?_
      refine lv_iload_n hx hb dX4_naming_58 rfl (lv_at hl 1 rfl) ?_
      obtain ⟨q59, h59, hf⟩ := bd_e hf
      refine z_calli (va_runV (As := [.int (v54 ||| (64 : Int32)), .int x1]) (rest := []) ⟨hx, hb, hml, hown, hts⟩ (km_canBy l (D := D) (K := K) hJ (v54 ||| (64 : Int32)) x1 (wr (wr w 0 15 (x5 / 10)) 0 16 (ir x5 10))  h59) (cwV 2 hts gX4_naming_X4_canBy rfl rfl rfl (by decide +kernel) ⟨Nat.le_of_ble_eq_true rfl, Nat.le_of_ble_eq_true rfl⟩) (z_preV eM_ok hK hE hw hS (by decide) ((fun w => rfl) _) (T := TX4) (M := 24) rfl) rfl rfl hl.1 rfl (lv_room (Nat.le_of_ble_eq_true rfl)) dX4_naming_59 ⟨Nat.le_of_ble_eq_true rfl, Nat.le_of_ble_eq_true rfl⟩) hS (fun H locs hw hS => ?_)
      obtain ⟨v62, h62, hf⟩ := bd_e hf
      refine z_calls (va_runS (As := [.int (q59.1)]) (rest := []) ⟨hx, hb, hml, hown, hts⟩ (km_ones l (q59.1) h62) (va_cwS 1 hts gX4_naming_X4_ones rfl rfl rfl (by decide +kernel) ⟨Nat.le_of_ble_eq_true rfl, Nat.le_of_ble_eq_true rfl⟩) z_preT rfl rfl hl.1 rfl (lv_room (Nat.le_of_ble_eq_true rfl)) dX4_naming_62 ⟨Nat.le_of_ble_eq_true rfl, Nat.le_of_ble_eq_true rfl⟩) ?_
      refine lv_istore (lv' := [(6, .int v62), (0, .ref (L 0)), (1, .int x1), (2, .int x2), (3, .int x3), (4, .int x4), (5, .int x5)]) hx hb dX4_naming_65 hl (by decide) rfl (fun ls hl => ?_)
      refine lv_iload hx hb dX4_naming_67 (lv_at hl 0 rfl) ?_
      refine lv_iload hx hb dX4_naming_69 (lv_at hl 5 rfl) ?_
      refine lv_icmp_le (tgt := 79) hx hb dX4_naming_71 (by decide) (fun c71 => ?_) (fun c71 => ?_)
      · replace hf := if_t hf c71
        refine lv_iload_n hx hb dX4_naming_79 rfl (lv_at hl 4 rfl) ?_
        exact wm_naming_80 hJ C0 hK hE _ ih _ _ _ _ _ _ _ _ _ _ hw hS (lv_sub hl [1, 2, 3, 5, 6, 0] rfl) hf
      · replace hf := if_f hf c71
        refine lv_iload hx hb dX4_naming_74 (lv_at hl 6 rfl) ?_
        refine lv_goto (tgt := 80) hx hb dX4_naming_76 (by decide) ?_
        exact wm_naming_80 hJ C0 hK hE _ ih _ _ _ _ _ _ _ _ _ _ hw hS (lv_sub hl [1, 2, 3, 5, 6, 0] rfl) hf
set_option maxHeartbeats 4000000 in
set_option maxRecDepth 100000 in
theorem wm_naming_0 {p : Program} {l : Launch} {e : Env} {s : State} {m : MethodId} {args : Array Value} {below : List Frame} {meth : Method} {c : Code} {D : va_G} {L : Nat → Nat} {K : Nat → ClassId} (hJ : gj L 12) (C0 : gC cX4_naming 7 (some .int) wsX4_naming RX4 p s m args meth c) (hK : va_K D vwCl (tyG K) s) (hE : eM s) {w9 : St} {rs : Int32} : ∀ (x1 : Int32) (x2 : Int32) (w : St) (H : Heap) (locs : List Loc) (ls : Array Slot), va_P D vwCl (gl L 12 (cM L K w)) H → va_S (gA L 12) s.heap H locs → lv_has ls 7 [(0, .ref (L 0)), (1, .int x1), (2, .int x2)] → fm_naming x1 x2 w = some (rs, w9) → W p l e { frames := 5, cells := 0, slots := 0, locals := 117 } s m args below meth c H locs 0 0 (MQ below (qI D L 12 (cM L K) rs w9) args s 0 0 (gA L 12)) (F0 m 0 ls []) := by
  obtain ⟨hx, hb, hr, hml, hown, hts, hlk⟩ := id C0
  intro x1 x2 w H locs ls hw hS hl hf
  unfold fm_naming at hf
  refine lv_iload_n hx hb dX4_naming_0 rfl (lv_at hl 1 rfl) ?_
  refine lv_i2l (v := x1.toInt64) hx hb dX4_naming_1 rfl ?_
  refine lv_lconst (v := 1) hx hb dX4_naming_2 (by decide) ?_
  refine lv_ldc2 (v := 3) hx hb hown (hts (.constantLong RX4 117 3) (by decide +kernel)) dX4_naming_3 ?_
  obtain ⟨v6, h6, hf⟩ := bd_e hf
  refine z_calls (va_runS (As := [.long (x1.toInt64), .long 1, .long 3]) (rest := []) ⟨hx, hb, hml, hown, hts⟩ (km_in l (x1.toInt64) 1 3 h6) (va_cwS 3 hts gX4_naming_X4_in rfl rfl rfl (by decide +kernel) ⟨Nat.le_of_ble_eq_true rfl, Nat.le_of_ble_eq_true rfl⟩) z_preT rfl rfl hl.1 rfl (lv_room (Nat.le_of_ble_eq_true rfl)) dX4_naming_6 ⟨Nat.le_of_ble_eq_true rfl, Nat.le_of_ble_eq_true rfl⟩) ?_
  refine lv_if_ne (tgt := 15) hx hb dX4_naming_9 (by decide) (fun c9 => ?_) (fun c9 => ?_)
  · replace hf := if_f hf c9
    refine lv_iconst (v := 0) hx hb dX4_naming_15 (by decide) ?_
    refine lv_istore_n (lv' := [(3, .int 0), (0, .ref (L 0)), (1, .int x1), (2, .int x2)]) hx hb dX4_naming_16 rfl hl (by decide) rfl (fun ls hl => ?_)
    refine lv_iconst (v := 0) hx hb dX4_naming_17 (by decide) ?_
    refine lv_istore (lv' := [(4, .int 0), (3, .int 0), (0, .ref (L 0)), (1, .int x1), (2, .int x2)]) hx hb dX4_naming_18 hl (by decide) rfl (fun ls hl => ?_)
    refine lv_iconst (v := 0) hx hb dX4_naming_20 (by decide) ?_
    refine lv_istore (lv' := [(5, .int 0), (4, .int 0), (3, .int 0), (0, .ref (L 0)), (1, .int x1), (2, .int x2)]) hx hb dX4_naming_21 hl (by decide) rfl (fun ls hl => ?_)
    exact wm_naming_23 hJ C0 hK hE _ _ _ _ _ _ _ _ _ _ hw hS (lv_sub hl [3, 4, 5, 2, 1, 0] rfl) hf
  · replace hf := if_t hf c9
    refine lv_bipush (v := (-2)) hx hb dX4_naming_12 (by decide) ?_
    exact z_iret hx hb hr hlk hw hS hf dX4_naming_14
set_option maxHeartbeats 4000000 in
set_option maxRecDepth 100000 in
theorem km_naming (l : Launch) {D : va_G} {L : Nat → Nat} {K : Nat → ClassId} (hJ : gj L 12) (x1 : Int32) (x2 : Int32) (w : St) {w9 : St} {rs : Int32} (hf : fm_naming x1 x2 w = some (rs, w9)) : Met l yX4_naming wsX4_naming ({ frames := 5, cells := 0, slots := 0, locals := 117 }) (va_Pc [.ref (L 0), .int x1, .int x2] (mP D L K w)) (qI D L 12 (cM L K) rs w9) 0 0 (gA L 12) := by
  refine g_met (cc := cX4_naming) (nL := 7) (ret := (some .int)) (by decide) rfl (Nat.le_of_ble_eq_true rfl) (fun p e s m below meth c ls C0 hP hl => ?_)
  exact wm_naming_0 hJ C0 hP.2.1 hP.2.2 _ _ w _ _ ls hP.1 va_S.rf (lv_sub hl [0, 1, 2] rfl) hf
theorem dX4_whoIn_0 : decode cX4_whoIn 0 = .ok (.iconst 0, 1) := by decide +kernel
theorem dX4_whoIn_1 : decode cX4_whoIn 1 = .ok (.istore_n 1, 1) := by decide +kernel
theorem dX4_whoIn_2 : decode cX4_whoIn 2 = .ok (.iload_n 0, 1) := by decide +kernel
theorem dX4_whoIn_3 : decode cX4_whoIn 3 = .ok (.istore_n 2, 1) := by decide +kernel
theorem dX4_whoIn_4 : decode cX4_whoIn 4 = .ok (.iload_n 2, 1) := by decide +kernel
theorem dX4_whoIn_5 : decode cX4_whoIn 5 = .ok (.ifCond .le 22, 3) := by decide +kernel
theorem dX4_whoIn_8 : decode cX4_whoIn 8 = .ok (.iload_n 1, 1) := by decide +kernel
theorem dX4_whoIn_9 : decode cX4_whoIn 9 = .ok (.iconst 1, 1) := by decide +kernel
theorem dX4_whoIn_10 : decode cX4_whoIn 10 = .ok (.iload_n 2, 1) := by decide +kernel
theorem dX4_whoIn_11 : decode cX4_whoIn 11 = .ok (.bipush 10, 2) := by decide +kernel
theorem dX4_whoIn_13 : decode cX4_whoIn 13 = .ok (.irem, 1) := by decide +kernel
theorem dX4_whoIn_14 : decode cX4_whoIn 14 = .ok (.iconst 1, 1) := by decide +kernel
theorem dX4_whoIn_15 : decode cX4_whoIn 15 = .ok (.isub, 1) := by decide +kernel
theorem dX4_whoIn_16 : decode cX4_whoIn 16 = .ok (.ishl, 1) := by decide +kernel
theorem dX4_whoIn_17 : decode cX4_whoIn 17 = .ok (.ior, 1) := by decide +kernel
theorem dX4_whoIn_18 : decode cX4_whoIn 18 = .ok (.istore_n 1, 1) := by decide +kernel
theorem dX4_whoIn_19 : decode cX4_whoIn 19 = .ok (.iload_n 2, 1) := by decide +kernel
theorem dX4_whoIn_20 : decode cX4_whoIn 20 = .ok (.bipush 10, 2) := by decide +kernel
theorem dX4_whoIn_22 : decode cX4_whoIn 22 = .ok (.idiv, 1) := by decide +kernel
theorem dX4_whoIn_23 : decode cX4_whoIn 23 = .ok (.istore_n 2, 1) := by decide +kernel
theorem dX4_whoIn_24 : decode cX4_whoIn 24 = .ok (.goto (-20), 3) := by decide +kernel
theorem dX4_whoIn_27 : decode cX4_whoIn 27 = .ok (.iload_n 1, 1) := by decide +kernel
theorem dX4_whoIn_28 : decode cX4_whoIn 28 = .ok (.ireturn, 1) := by decide +kernel
set_option maxHeartbeats 4000000 in
set_option maxRecDepth 100000 in
theorem wm_whoIn_4 {p : Program} {l : Launch} {e : Env} {s : State} {m : MethodId} {args : Array Value} {below : List Frame} {meth : Method} {c : Code} (C0 : gC cX4_whoIn 3 (some .int) wsX4_whoIn RX4 p s m args meth c) {rs : Int32} : ∀ (fu : Nat) (x1 : Int32) (x2 : Int32) (ls : Array Slot), lv_has ls 3 [(1, .int x1), (2, .int x2)] → fm_whoIn_4 fu x1 x2 = some rs → W p l e { frames := 0, cells := 0, slots := 0, locals := 0 } s m args below meth c s.heap [] 0 0 (MQ below (qS rs) args s 0 0 (fun _ => False)) (F0 m 4 ls []) := by
  obtain ⟨hx, hb, hr, hml, hown, hts, hlk⟩ := id C0
  intro fu
  induction fu with
  | zero =>
    intro x1 x2 ls hl hf
    rw [fm_whoIn_4] at hf
    exact no_n hf
  | succ fu ih =>
    intro x1 x2 ls hl hf
    rw [fm_whoIn_4] at hf
    refine lv_iload_n hx hb dX4_whoIn_4 rfl (lv_at hl 1 rfl) ?_
    refine lv_if_le (tgt := 27) hx hb dX4_whoIn_5 (by decide) (fun c5 => ?_) (fun c5 => ?_)
    · replace hf := if_t hf c5
      refine lv_iload_n hx hb dX4_whoIn_27 rfl (lv_at hl 0 rfl) ?_
      exact z_sret hx hb hr hlk hf dX4_whoIn_28
    · replace hf := if_f hf c5
      refine lv_iload_n hx hb dX4_whoIn_8 rfl (lv_at hl 0 rfl) ?_
      refine lv_iconst (v := 1) hx hb dX4_whoIn_9 (by decide) ?_
      refine lv_iload_n hx hb dX4_whoIn_10 rfl (lv_at hl 1 rfl) ?_
      refine lv_bipush (v := 10) hx hb dX4_whoIn_11 (by decide) ?_
      refine lv_irem hx hb dX4_whoIn_13 (by decide) ?_
      refine lv_iconst (v := 1) hx hb dX4_whoIn_14 (by decide) ?_
      refine lv_isub hx hb dX4_whoIn_15 ?_
      refine lv_ishl hx hb dX4_whoIn_16 ?_
      refine lv_ior hx hb dX4_whoIn_17 ?_
      refine lv_topi (fun v18 e18 => ?_)
      replace hf := lb_e hf e18
      refine lv_istore_n (lv' := [(1, .int v18), (2, .int x2)]) hx hb dX4_whoIn_18 rfl hl (by decide) rfl (fun ls hl => ?_)
      refine lv_iload_n hx hb dX4_whoIn_19 rfl (lv_at hl 1 rfl) ?_
      refine lv_bipush (v := 10) hx hb dX4_whoIn_20 (by decide) ?_
      refine lv_idiv hx hb dX4_whoIn_22 (by decide) ?_
      refine lv_topi (fun v23 e23 => ?_)
      replace hf := lb_e hf e23
      refine lv_istore_n (lv' := [(2, .int v23), (1, .int v18)]) hx hb dX4_whoIn_23 rfl hl (by decide) rfl (fun ls hl => ?_)
      refine lv_goto (tgt := 4) hx hb dX4_whoIn_24 (by decide) ?_
      exact ih _ _ _ (lv_sub hl [1, 0] rfl) hf
set_option maxHeartbeats 4000000 in
set_option maxRecDepth 100000 in
theorem wm_whoIn_0 {p : Program} {l : Launch} {e : Env} {s : State} {m : MethodId} {args : Array Value} {below : List Frame} {meth : Method} {c : Code} (C0 : gC cX4_whoIn 3 (some .int) wsX4_whoIn RX4 p s m args meth c) {rs : Int32} : ∀ (x0 : Int32) (ls : Array Slot), lv_has ls 3 [(0, .int x0)] → fm_whoIn x0 = some rs → W p l e { frames := 0, cells := 0, slots := 0, locals := 0 } s m args below meth c s.heap [] 0 0 (MQ below (qS rs) args s 0 0 (fun _ => False)) (F0 m 0 ls []) := by
  obtain ⟨hx, hb, hr, hml, hown, hts, hlk⟩ := id C0
  intro x0 ls hl hf
  unfold fm_whoIn at hf
  refine lv_iconst (v := 0) hx hb dX4_whoIn_0 (by decide) ?_
  refine lv_istore_n (lv' := [(1, .int 0), (0, .int x0)]) hx hb dX4_whoIn_1 rfl hl (by decide) rfl (fun ls hl => ?_)
  refine lv_iload_n hx hb dX4_whoIn_2 rfl (lv_at hl 1 rfl) ?_
  refine lv_istore_n (lv' := [(2, .int x0), (1, .int 0), (0, .int x0)]) hx hb dX4_whoIn_3 rfl hl (by decide) rfl (fun ls hl => ?_)
  exact wm_whoIn_4 C0 _ _ _ _ (lv_sub hl [1, 0] rfl) hf
set_option maxHeartbeats 4000000 in
set_option maxRecDepth 100000 in
theorem km_whoIn (l : Launch) (x0 : Int32) {rs : Int32} (hf : fm_whoIn x0 = some rs) : Met l yX4_whoIn wsX4_whoIn ({ frames := 0, cells := 0, slots := 0, locals := 0 }) (va_Pc [.int x0] (fun _ => True)) (qS rs) 0 0 (fun _ => False) := by
  refine g_met (cc := cX4_whoIn) (nL := 3) (ret := (some .int)) (by decide) rfl (Nat.le_of_ble_eq_true rfl) (fun p e s m below meth c ls C0 _ hl => ?_)
  exact wm_whoIn_0 C0 _ ls (lv_sub hl [0] rfl) hf
set_option maxRecDepth 20000 in
theorem ggX4_spoken_X4_in : GoodIn wsX4_spoken wsX4_in := goodIn_r _ [8] (by decide +kernel) (by decide +kernel)
set_option maxRecDepth 20000 in
theorem gX4_spoken_X4_in : GoodIn wsX4_spoken (va_wsS RX4 46 yX4_in wsX4_in) := goodIn_app (goodIn_of _ (by decide +kernel)) ggX4_spoken_X4_in
set_option maxRecDepth 20000 in
theorem ggX4_spoken_X4_sevens : GoodIn wsX4_spoken wsX4_sevens := goodIn_r _ [11] (by decide +kernel) (by decide +kernel)
set_option maxRecDepth 20000 in
theorem gX4_spoken_X4_sevens : GoodIn wsX4_spoken (va_wsS RX4 141 yX4_sevens wsX4_sevens) := goodIn_app (goodIn_of _ (by decide +kernel)) ggX4_spoken_X4_sevens
set_option maxRecDepth 20000 in
theorem ggX4_spoken_X4_rowOf : GoodIn wsX4_spoken wsX4_rowOf := goodIn_r _ [14] (by decide +kernel) (by decide +kernel)
set_option maxRecDepth 20000 in
theorem gX4_spoken_X4_rowOf : GoodIn wsX4_spoken (va_wsS RX4 144 yX4_rowOf wsX4_rowOf) := goodIn_app (goodIn_of _ (by decide +kernel)) ggX4_spoken_X4_rowOf
set_option maxRecDepth 20000 in
theorem ggX4_spoken_X4_sayRow : GoodIn wsX4_spoken wsX4_sayRow := goodIn_r _ [18, 19, 20, 21, 22, 7, 23, 4, 24, 25, 26, 27, 28, 5, 6, 8, 29, 30, 31, 32, 33, 34, 35, 36, 37, 38, 39, 40, 41, 42, 43, 44, 45, 46, 47, 51, 52, 53, 54, 55, 56, 57, 58, 59, 60, 61, 62, 63, 64, 65, 66, 67, 68, 69, 70, 71, 72, 73, 74] (by decide +kernel) (by decide +kernel)
set_option maxRecDepth 20000 in
theorem gX4_spoken_X4_sayRow : GoodIn wsX4_spoken (wsV RX4 138 RX4 yX4_sayRow wsX4_sayRow) := goodIn_app (goodIn_of _ (by decide +kernel)) ggX4_spoken_X4_sayRow
set_option maxRecDepth 20000 in
theorem ggX4_spoken_X4_whoIn : GoodIn wsX4_spoken wsX4_whoIn := goodIn_r _ [50] (by decide +kernel) (by decide +kernel)
set_option maxRecDepth 20000 in
theorem gX4_spoken_X4_whoIn : GoodIn wsX4_spoken (va_wsS RX4 164 yX4_whoIn wsX4_whoIn) := goodIn_app (goodIn_of _ (by decide +kernel)) ggX4_spoken_X4_whoIn
theorem dX4_spoken_0 : decode cX4_spoken 0 = .ok (.iload_n 1, 1) := by decide +kernel
theorem dX4_spoken_1 : decode cX4_spoken 1 = .ok (.i2l, 1) := by decide +kernel
theorem dX4_spoken_2 : decode cX4_spoken 2 = .ok (.lconst 1, 1) := by decide +kernel
theorem dX4_spoken_3 : decode cX4_spoken 3 = .ok (.ldc2_w 160, 3) := by decide +kernel
theorem dX4_spoken_6 : decode cX4_spoken 6 = .ok (.invokestatic 46, 3) := by decide +kernel
theorem dX4_spoken_9 : decode cX4_spoken 9 = .ok (.ifCond .eq 27, 3) := by decide +kernel
theorem dX4_spoken_12 : decode cX4_spoken 12 = .ok (.iload_n 2, 1) := by decide +kernel
theorem dX4_spoken_13 : decode cX4_spoken 13 = .ok (.i2l, 1) := by decide +kernel
theorem dX4_spoken_14 : decode cX4_spoken 14 = .ok (.lconst 0, 1) := by decide +kernel
theorem dX4_spoken_15 : decode cX4_spoken 15 = .ok (.ldc2_w 119, 3) := by decide +kernel
theorem dX4_spoken_18 : decode cX4_spoken 18 = .ok (.invokestatic 46, 3) := by decide +kernel
theorem dX4_spoken_21 : decode cX4_spoken 21 = .ok (.ifCond .eq 15, 3) := by decide +kernel
theorem dX4_spoken_24 : decode cX4_spoken 24 = .ok (.iload_n 3, 1) := by decide +kernel
theorem dX4_spoken_25 : decode cX4_spoken 25 = .ok (.i2l, 1) := by decide +kernel
theorem dX4_spoken_26 : decode cX4_spoken 26 = .ok (.lconst 0, 1) := by decide +kernel
theorem dX4_spoken_27 : decode cX4_spoken 27 = .ok (.ldc2_w 162, 3) := by decide +kernel
theorem dX4_spoken_30 : decode cX4_spoken 30 = .ok (.invokestatic 46, 3) := by decide +kernel
theorem dX4_spoken_33 : decode cX4_spoken 33 = .ok (.ifCond .ne 6, 3) := by decide +kernel
theorem dX4_spoken_36 : decode cX4_spoken 36 = .ok (.bipush (-2), 2) := by decide +kernel
theorem dX4_spoken_38 : decode cX4_spoken 38 = .ok (.ireturn, 1) := by decide +kernel
theorem dX4_spoken_39 : decode cX4_spoken 39 = .ok (.iconst 0, 1) := by decide +kernel
theorem dX4_spoken_40 : decode cX4_spoken 40 = .ok (.istore 4, 2) := by decide +kernel
theorem dX4_spoken_42 : decode cX4_spoken 42 = .ok (.aload_n 0, 1) := by decide +kernel
theorem dX4_spoken_43 : decode cX4_spoken 43 = .ok (.getfield 16, 3) := by decide +kernel
theorem dX4_spoken_46 : decode cX4_spoken 46 = .ok (.iconst 0, 1) := by decide +kernel
theorem dX4_spoken_47 : decode cX4_spoken 47 = .ok (.iaload, 1) := by decide +kernel
theorem dX4_spoken_48 : decode cX4_spoken 48 = .ok (.istore 5, 2) := by decide +kernel
theorem dX4_spoken_50 : decode cX4_spoken 50 = .ok (.iconst 0, 1) := by decide +kernel
theorem dX4_spoken_51 : decode cX4_spoken 51 = .ok (.istore 6, 2) := by decide +kernel
theorem dX4_spoken_53 : decode cX4_spoken 53 = .ok (.iconst 0, 1) := by decide +kernel
theorem dX4_spoken_54 : decode cX4_spoken 54 = .ok (.istore 7, 2) := by decide +kernel
theorem dX4_spoken_56 : decode cX4_spoken 56 = .ok (.iload 7, 2) := by decide +kernel
theorem dX4_spoken_58 : decode cX4_spoken 58 = .ok (.iload_n 1, 1) := by decide +kernel
theorem dX4_spoken_59 : decode cX4_spoken 59 = .ok (.invokestatic 141, 3) := by decide +kernel
theorem dX4_spoken_62 : decode cX4_spoken 62 = .ok (.if_icmp .ge 69, 3) := by decide +kernel
theorem dX4_spoken_65 : decode cX4_spoken 65 = .ok (.iload 7, 2) := by decide +kernel
theorem dX4_spoken_67 : decode cX4_spoken 67 = .ok (.iload_n 1, 1) := by decide +kernel
theorem dX4_spoken_68 : decode cX4_spoken 68 = .ok (.invokestatic 144, 3) := by decide +kernel
theorem dX4_spoken_71 : decode cX4_spoken 71 = .ok (.istore 8, 2) := by decide +kernel
theorem dX4_spoken_73 : decode cX4_spoken 73 = .ok (.aload_n 0, 1) := by decide +kernel
theorem dX4_spoken_74 : decode cX4_spoken 74 = .ok (.aload_n 0, 1) := by decide +kernel
theorem dX4_spoken_75 : decode cX4_spoken 75 = .ok (.getfield 16, 3) := by decide +kernel
theorem dX4_spoken_78 : decode cX4_spoken 78 = .ok (.iconst 0, 1) := by decide +kernel
theorem dX4_spoken_79 : decode cX4_spoken 79 = .ok (.iaload, 1) := by decide +kernel
theorem dX4_spoken_80 : decode cX4_spoken 80 = .ok (.iload_n 1, 1) := by decide +kernel
theorem dX4_spoken_81 : decode cX4_spoken 81 = .ok (.iload 8, 2) := by decide +kernel
theorem dX4_spoken_83 : decode cX4_spoken 83 = .ok (.invokevirtual 138, 3) := by decide +kernel
theorem dX4_spoken_86 : decode cX4_spoken 86 = .ok (.bipush (-9), 2) := by decide +kernel
theorem dX4_spoken_88 : decode cX4_spoken 88 = .ok (.if_icmp .ne 37, 3) := by decide +kernel
theorem dX4_spoken_91 : decode cX4_spoken 91 = .ok (.aload_n 0, 1) := by decide +kernel
theorem dX4_spoken_92 : decode cX4_spoken 92 = .ok (.getfield 16, 3) := by decide +kernel
theorem dX4_spoken_95 : decode cX4_spoken 95 = .ok (.bipush 49, 2) := by decide +kernel
theorem dX4_spoken_97 : decode cX4_spoken 97 = .ok (.iaload, 1) := by decide +kernel
theorem dX4_spoken_98 : decode cX4_spoken 98 = .ok (.iload_n 2, 1) := by decide +kernel
theorem dX4_spoken_99 : decode cX4_spoken 99 = .ok (.if_icmp .ne 26, 3) := by decide +kernel
theorem dX4_spoken_102 : decode cX4_spoken 102 = .ok (.iinc 4 1, 3) := by decide +kernel
theorem dX4_spoken_105 : decode cX4_spoken 105 = .ok (.iload 5, 2) := by decide +kernel
theorem dX4_spoken_107 : decode cX4_spoken 107 = .ok (.iload 8, 2) := by decide +kernel
theorem dX4_spoken_109 : decode cX4_spoken 109 = .ok (.invokestatic 164, 3) := by decide +kernel
theorem dX4_spoken_112 : decode cX4_spoken 112 = .ok (.iand, 1) := by decide +kernel
theorem dX4_spoken_113 : decode cX4_spoken 113 = .ok (.istore 5, 2) := by decide +kernel
theorem dX4_spoken_115 : decode cX4_spoken 115 = .ok (.iload 6, 2) := by decide +kernel
theorem dX4_spoken_117 : decode cX4_spoken 117 = .ok (.iload 8, 2) := by decide +kernel
theorem dX4_spoken_119 : decode cX4_spoken 119 = .ok (.invokestatic 164, 3) := by decide +kernel
theorem dX4_spoken_122 : decode cX4_spoken 122 = .ok (.ior, 1) := by decide +kernel
theorem dX4_spoken_123 : decode cX4_spoken 123 = .ok (.istore 6, 2) := by decide +kernel
theorem dX4_spoken_125 : decode cX4_spoken 125 = .ok (.iinc 7 1, 3) := by decide +kernel
theorem dX4_spoken_128 : decode cX4_spoken 128 = .ok (.goto (-72), 3) := by decide +kernel
theorem dX4_spoken_131 : decode cX4_spoken 131 = .ok (.iload_n 3, 1) := by decide +kernel
theorem dX4_spoken_132 : decode cX4_spoken 132 = .ok (.ifCond .ne 8, 3) := by decide +kernel
theorem dX4_spoken_135 : decode cX4_spoken 135 = .ok (.iload 4, 2) := by decide +kernel
theorem dX4_spoken_137 : decode cX4_spoken 137 = .ok (.goto 34, 3) := by decide +kernel
theorem dX4_spoken_140 : decode cX4_spoken 140 = .ok (.iload 4, 2) := by decide +kernel
theorem dX4_spoken_142 : decode cX4_spoken 142 = .ok (.ifCond .ne 8, 3) := by decide +kernel
theorem dX4_spoken_145 : decode cX4_spoken 145 = .ok (.bipush (-9), 2) := by decide +kernel
theorem dX4_spoken_147 : decode cX4_spoken 147 = .ok (.goto 24, 3) := by decide +kernel
theorem dX4_spoken_150 : decode cX4_spoken 150 = .ok (.iload_n 3, 1) := by decide +kernel
theorem dX4_spoken_151 : decode cX4_spoken 151 = .ok (.iconst 1, 1) := by decide +kernel
theorem dX4_spoken_152 : decode cX4_spoken 152 = .ok (.if_icmp .ne 8, 3) := by decide +kernel
theorem dX4_spoken_155 : decode cX4_spoken 155 = .ok (.iload 5, 2) := by decide +kernel
theorem dX4_spoken_157 : decode cX4_spoken 157 = .ok (.goto 14, 3) := by decide +kernel
theorem dX4_spoken_160 : decode cX4_spoken 160 = .ok (.aload_n 0, 1) := by decide +kernel
theorem dX4_spoken_161 : decode cX4_spoken 161 = .ok (.getfield 16, 3) := by decide +kernel
theorem dX4_spoken_164 : decode cX4_spoken 164 = .ok (.iconst 0, 1) := by decide +kernel
theorem dX4_spoken_165 : decode cX4_spoken 165 = .ok (.iaload, 1) := by decide +kernel
theorem dX4_spoken_166 : decode cX4_spoken 166 = .ok (.iload 6, 2) := by decide +kernel
theorem dX4_spoken_168 : decode cX4_spoken 168 = .ok (.iconst (-1), 1) := by decide +kernel
theorem dX4_spoken_169 : decode cX4_spoken 169 = .ok (.ixor, 1) := by decide +kernel
theorem dX4_spoken_170 : decode cX4_spoken 170 = .ok (.iand, 1) := by decide +kernel
theorem dX4_spoken_171 : decode cX4_spoken 171 = .ok (.ireturn, 1) := by decide +kernel
set_option maxRecDepth 20000 in
theorem hiX4_spoken_X4 : ∀ w ∈ u_ws RX4 TX4 24, w ∈ wsX4_spoken := by decide +kernel
set_option maxHeartbeats 4000000 in
set_option maxRecDepth 100000 in
theorem wm_spoken_125 {p : Program} {l : Launch} {e : Env} {s : State} {m : MethodId} {args : Array Value} {below : List Frame} {meth : Method} {c : Code} {D : va_G} {L : Nat → Nat} {K : Nat → ClassId} (hJ : gj L 12) (C0 : gC cX4_spoken 9 (some .int) wsX4_spoken RX4 p s m args meth c) (hK : va_K D vwCl (tyG K) s) (hE : eM s) {w9 : St} {rs : Int32} (k56 : Int32 → Int32 → Int32 → Int32 → Int32 → Int32 → Int32 → St → Option (Int32 × St)) (i56 : ∀ (x1 : Int32) (x2 : Int32) (x3 : Int32) (x4 : Int32) (x5 : Int32) (x6 : Int32) (x7 : Int32) (w : St) (H : Heap) (locs : List Loc) (ls : Array Slot), va_P D vwCl (gl L 12 (cM L K w)) H → va_S (gA L 12) s.heap H locs → lv_has ls 9 [(0, .ref (L 0)), (1, .int x1), (2, .int x2), (3, .int x3), (4, .int x4), (5, .int x5), (6, .int x6), (7, .int x7)] → k56 x1 x2 x3 x4 x5 x6 x7 w = some (rs, w9) → W p l e { frames := 4, cells := 0, slots := 0, locals := 92 } s m args below meth c H locs 0 0 (MQ below (qI D L 12 (cM L K) rs w9) args s 0 0 (gA L 12)) (F0 m 56 ls [])) : ∀ (x1 : Int32) (x2 : Int32) (x3 : Int32) (x4 : Int32) (x5 : Int32) (x6 : Int32) (x7 : Int32) (w : St) (H : Heap) (locs : List Loc) (ls : Array Slot), va_P D vwCl (gl L 12 (cM L K w)) H → va_S (gA L 12) s.heap H locs → lv_has ls 9 [(0, .ref (L 0)), (1, .int x1), (2, .int x2), (3, .int x3), (4, .int x4), (5, .int x5), (6, .int x6), (7, .int x7)] → fm_spoken_125 k56 x1 x2 x3 x4 x5 x6 x7 w = some (rs, w9) → W p l e { frames := 4, cells := 0, slots := 0, locals := 92 } s m args below meth c H locs 0 0 (MQ below (qI D L 12 (cM L K) rs w9) args s 0 0 (gA L 12)) (F0 m 125 ls []) := by
  obtain ⟨hx, hb, hr, hml, hown, hts, hlk⟩ := id C0
  intro x1 x2 x3 x4 x5 x6 x7 w H locs ls hw hS hl hf
  unfold fm_spoken_125 at hf
  refine lv_iinc (v := (x7 + 1)) (lv' := [(7, .int (x7 + 1)), (0, .ref (L 0)), (1, .int x1), (2, .int x2), (3, .int x3), (4, .int x4), (5, .int x5), (6, .int x6)]) hx hb dX4_spoken_125 hl (k := 7) rfl rfl (by decide) rfl (fun ls hl => ?_)
  refine lv_goto (tgt := 56) hx hb dX4_spoken_128 (by decide) ?_
  exact i56 _ _ _ _ _ _ _ _ _ _ _ hw hS (lv_sub hl [1, 2, 3, 4, 5, 6, 7, 0] rfl) hf
set_option maxHeartbeats 4000000 in
set_option maxRecDepth 100000 in
theorem wm_spoken_56 {p : Program} {l : Launch} {e : Env} {s : State} {m : MethodId} {args : Array Value} {below : List Frame} {meth : Method} {c : Code} {D : va_G} {L : Nat → Nat} {K : Nat → ClassId} (hJ : gj L 12) (C0 : gC cX4_spoken 9 (some .int) wsX4_spoken RX4 p s m args meth c) (hK : va_K D vwCl (tyG K) s) (hE : eM s) {w9 : St} {rs : Int32} : ∀ (fu : Nat) (x1 : Int32) (x2 : Int32) (x3 : Int32) (x4 : Int32) (x5 : Int32) (x6 : Int32) (x7 : Int32) (w : St) (H : Heap) (locs : List Loc) (ls : Array Slot), va_P D vwCl (gl L 12 (cM L K w)) H → va_S (gA L 12) s.heap H locs → lv_has ls 9 [(0, .ref (L 0)), (1, .int x1), (2, .int x2), (3, .int x3), (4, .int x4), (5, .int x5), (6, .int x6), (7, .int x7)] → fm_spoken_56 fu x1 x2 x3 x4 x5 x6 x7 w = some (rs, w9) → W p l e { frames := 4, cells := 0, slots := 0, locals := 92 } s m args below meth c H locs 0 0 (MQ below (qI D L 12 (cM L K) rs w9) args s 0 0 (gA L 12)) (F0 m 56 ls []) := by
  obtain ⟨hx, hb, hr, hml, hown, hts, hlk⟩ := id C0
  intro fu
  induction fu with
  | zero =>
    intro x1 x2 x3 x4 x5 x6 x7 w H locs ls hw hS hl hf
    rw [fm_spoken_56] at hf
    exact no_n hf
  | succ fu ih =>
    intro x1 x2 x3 x4 x5 x6 x7 w H locs ls hw hS hl hf
    rw [fm_spoken_56] at hf
    refine lv_iload hx hb dX4_spoken_56 (lv_at hl 7 rfl) ?_
    refine lv_iload_n hx hb dX4_spoken_58 rfl (lv_at hl 1 rfl) ?_
    obtain ⟨v59, h59, hf⟩ := bd_e hf
    refine z_calls (va_runS (As := [.int x1]) (rest := [.int x7]) ⟨hx, hb, hml, hown, hts⟩ (km_sevens l x1 h59) (va_cwS 1 hts gX4_spoken_X4_sevens rfl rfl rfl (by decide +kernel) ⟨Nat.le_of_ble_eq_true rfl, Nat.le_of_ble_eq_true rfl⟩) z_preT rfl rfl hl.1 rfl (lv_room (Nat.le_of_ble_eq_true rfl)) dX4_spoken_59 ⟨Nat.le_of_ble_eq_true rfl, Nat.le_of_ble_eq_true rfl⟩) ?_
    refine lv_icmp_ge (tgt := 131) hx hb dX4_spoken_62 (by decide) (fun c62 => ?_) (fun c62 => ?_)
    · replace hf := if_t hf c62
      refine lv_iload_n hx hb dX4_spoken_131 rfl (lv_at hl 3 rfl) ?_
      refine lv_if_ne (tgt := 140) hx hb dX4_spoken_132 (by decide) (fun c132 => ?_) (fun c132 => ?_)
      · replace hf := if_f hf c132
        refine lv_iload hx hb dX4_spoken_140 (lv_at hl 4 rfl) ?_
        refine lv_if_ne (tgt := 150) hx hb dX4_spoken_142 (by decide) (fun c142 => ?_) (fun c142 => ?_)
        · replace hf := if_f hf c142
          refine lv_iload_n hx hb dX4_spoken_150 rfl (lv_at hl 3 rfl) ?_
          refine lv_iconst (v := 1) hx hb dX4_spoken_151 (by decide) ?_
          refine lv_icmp_ne (tgt := 160) hx hb dX4_spoken_152 (by decide) (fun c152 => ?_) (fun c152 => ?_)
          · replace hf := if_f hf c152
            refine lv_aload_n hx hb dX4_spoken_160 rfl (lv_at hl 0 rfl) ?_
            refine z_get (v := .ref (L 3)) hx hb hts hiX4_spoken_X4 hown hK hw (k := 0) (by decide) ((fun w => rfl) _) rfl 4 (by decide) (hts (.fieldLink RX4 16 "OneSentenceModel" "now" "[I") (by decide +kernel)) rfl dX4_spoken_161 ?_
            refine lv_iconst (v := 0) hx hb dX4_spoken_164 (by decide) ?_
            obtain ⟨v165, h165, hf⟩ := bd_e hf
            refine z_iald hx hb hK hw 0 (k := 3) (by decide) ((fun w => rfl) _) rfl h165 dX4_spoken_165 ?_
            refine lv_iload hx hb dX4_spoken_166 (lv_at hl 6 rfl) ?_
            refine lv_iconst (v := (-1)) hx hb dX4_spoken_168 (by decide) ?_
            refine lv_ixor hx hb dX4_spoken_169 ?_
            refine lv_iand hx hb dX4_spoken_170 ?_
            exact z_iret hx hb hr hlk hw hS hf dX4_spoken_171
          · replace hf := if_t hf c152
            refine lv_iload hx hb dX4_spoken_155 (lv_at hl 5 rfl) ?_
            refine lv_goto (tgt := 171) hx hb dX4_spoken_157 (by decide) ?_
            exact z_iret hx hb hr hlk hw hS hf dX4_spoken_171
        · replace hf := if_t hf c142
          refine lv_bipush (v := (-9)) hx hb dX4_spoken_145 (by decide) ?_
          refine lv_goto (tgt := 171) hx hb dX4_spoken_147 (by decide) ?_
          exact z_iret hx hb hr hlk hw hS hf dX4_spoken_171
      · replace hf := if_t hf c132
        refine lv_iload hx hb dX4_spoken_135 (lv_at hl 4 rfl) ?_
        refine lv_goto (tgt := 171) hx hb dX4_spoken_137 (by decide) ?_
        exact z_iret hx hb hr hlk hw hS hf dX4_spoken_171
    · replace hf := if_f hf c62
      refine lv_iload hx hb dX4_spoken_65 (lv_at hl 7 rfl) ?_
      refine lv_iload_n hx hb dX4_spoken_67 rfl (lv_at hl 1 rfl) ?_
      obtain ⟨v68, h68, hf⟩ := bd_e hf
      refine z_calls (va_runS (As := [.int x7, .int x1]) (rest := []) ⟨hx, hb, hml, hown, hts⟩ (km_rowOf l x7 x1 h68) (va_cwS 2 hts gX4_spoken_X4_rowOf rfl rfl rfl (by decide +kernel) ⟨Nat.le_of_ble_eq_true rfl, Nat.le_of_ble_eq_true rfl⟩) z_preT rfl rfl hl.1 rfl (lv_room (Nat.le_of_ble_eq_true rfl)) dX4_spoken_68 ⟨Nat.le_of_ble_eq_true rfl, Nat.le_of_ble_eq_true rfl⟩) ?_
      refine lv_istore (lv' := [(8, .int v68), (0, .ref (L 0)), (1, .int x1), (2, .int x2), (3, .int x3), (4, .int x4), (5, .int x5), (6, .int x6), (7, .int x7)]) hx hb dX4_spoken_71 hl (by decide) rfl (fun ls hl => ?_)
      refine lv_aload_n hx hb dX4_spoken_73 rfl (lv_at hl 1 rfl) ?_
      refine lv_aload_n hx hb dX4_spoken_74 rfl (lv_at hl 1 rfl) ?_
      refine z_get (v := .ref (L 3)) hx hb hts hiX4_spoken_X4 hown hK hw (k := 0) (by decide) ((fun w => rfl) _) rfl 4 (by decide) (hts (.fieldLink RX4 16 "OneSentenceModel" "now" "[I") (by decide +kernel)) rfl dX4_spoken_75 ?_
      refine lv_iconst (v := 0) hx hb dX4_spoken_78 (by decide) ?_
      obtain ⟨v79, h79, hf⟩ := bd_e hf
      refine z_iald hx hb hK hw 0 (k := 3) (by decide) ((fun w => rfl) _) rfl h79 dX4_spoken_79 ?_
      refine lv_iload_n hx hb dX4_spoken_80 rfl (lv_at hl 2 rfl) ?_
      refine lv_iload hx hb dX4_spoken_81 (lv_at hl 0 rfl) ?_
      obtain ⟨q83, h83, hf⟩ := bd_e hf
      refine z_calli (va_runV (As := [.int v79, .int x1, .int v68]) (rest := []) ⟨hx, hb, hml, hown, hts⟩ (km_sayRow l (D := D) (K := K) hJ v79 x1 v68 w  h83) (cwV 3 hts gX4_spoken_X4_sayRow rfl rfl rfl (by decide +kernel) ⟨Nat.le_of_ble_eq_true rfl, Nat.le_of_ble_eq_true rfl⟩) (z_preV eM_ok hK hE hw hS (by decide) ((fun w => rfl) _) (T := TX4) (M := 24) rfl) rfl rfl hl.1 rfl (lv_room (Nat.le_of_ble_eq_true rfl)) dX4_spoken_83 ⟨Nat.le_of_ble_eq_true rfl, Nat.le_of_ble_eq_true rfl⟩) hS (fun H locs hw hS => ?_)
      refine lv_bipush (v := (-9)) hx hb dX4_spoken_86 (by decide) ?_
      refine lv_icmp_ne (tgt := 125) hx hb dX4_spoken_88 (by decide) (fun c88 => ?_) (fun c88 => ?_)
      · replace hf := if_f hf c88
        exact wm_spoken_125 hJ C0 hK hE _ ih _ _ _ _ _ _ _ _ _ _ _ hw hS (lv_sub hl [1, 2, 3, 4, 5, 6, 7, 8] rfl) hf
      · replace hf := if_t hf c88
        refine lv_aload_n hx hb dX4_spoken_91 rfl (lv_at hl 1 rfl) ?_
        refine z_get (v := .ref (L 3)) hx hb hts hiX4_spoken_X4 hown hK hw (k := 0) (by decide) ((fun w => rfl) _) rfl 4 (by decide) (hts (.fieldLink RX4 16 "OneSentenceModel" "now" "[I") (by decide +kernel)) rfl dX4_spoken_92 ?_
        refine lv_bipush (v := 49) hx hb dX4_spoken_95 (by decide) ?_
        obtain ⟨v97, h97, hf⟩ := bd_e hf
        refine z_iald hx hb hK hw 0 (k := 3) (by decide) ((fun w => rfl) _) rfl h97 dX4_spoken_97 ?_
        refine lv_iload_n hx hb dX4_spoken_98 rfl (lv_at hl 3 rfl) ?_
        refine lv_icmp_ne (tgt := 125) hx hb dX4_spoken_99 (by decide) (fun c99 => ?_) (fun c99 => ?_)
        · replace hf := if_f hf c99
          exact wm_spoken_125 hJ C0 hK hE _ ih _ _ _ _ _ _ _ _ _ _ _ hw hS (lv_sub hl [1, 2, 3, 4, 5, 6, 7, 8] rfl) hf
        · replace hf := if_t hf c99
          refine lv_iinc (v := (x4 + 1)) (lv' := [(4, .int (x4 + 1)), (8, .int v68), (0, .ref (L 0)), (1, .int x1), (2, .int x2), (3, .int x3), (5, .int x5), (6, .int x6), (7, .int x7)]) hx hb dX4_spoken_102 hl (k := 5) rfl rfl (by decide) rfl (fun ls hl => ?_)
          refine lv_iload hx hb dX4_spoken_105 (lv_at hl 6 rfl) ?_
          refine lv_iload hx hb dX4_spoken_107 (lv_at hl 1 rfl) ?_
          obtain ⟨v109, h109, hf⟩ := bd_e hf
          refine z_calls (va_runS (As := [.int v68]) (rest := [.int x5]) ⟨hx, hb, hml, hown, hts⟩ (km_whoIn l v68 h109) (va_cwS 1 hts gX4_spoken_X4_whoIn rfl rfl rfl (by decide +kernel) ⟨Nat.le_of_ble_eq_true rfl, Nat.le_of_ble_eq_true rfl⟩) z_preT rfl rfl hl.1 rfl (lv_room (Nat.le_of_ble_eq_true rfl)) dX4_spoken_109 ⟨Nat.le_of_ble_eq_true rfl, Nat.le_of_ble_eq_true rfl⟩) ?_
          refine lv_iand hx hb dX4_spoken_112 ?_
          refine lv_topi (fun v113 e113 => ?_)
          replace hf := lb_e hf e113
          refine lv_istore (lv' := [(5, .int v113), (4, .int (x4 + 1)), (8, .int v68), (0, .ref (L 0)), (1, .int x1), (2, .int x2), (3, .int x3), (6, .int x6), (7, .int x7)]) hx hb dX4_spoken_113 hl (by decide) rfl (fun ls hl => ?_)
          refine lv_iload hx hb dX4_spoken_115 (lv_at hl 7 rfl) ?_
          refine lv_iload hx hb dX4_spoken_117 (lv_at hl 2 rfl) ?_
          obtain ⟨v119, h119, hf⟩ := bd_e hf
          refine z_calls (va_runS (As := [.int v68]) (rest := [.int x6]) ⟨hx, hb, hml, hown, hts⟩ (km_whoIn l v68 h119) (va_cwS 1 hts gX4_spoken_X4_whoIn rfl rfl rfl (by decide +kernel) ⟨Nat.le_of_ble_eq_true rfl, Nat.le_of_ble_eq_true rfl⟩) z_preT rfl rfl hl.1 rfl (lv_room (Nat.le_of_ble_eq_true rfl)) dX4_spoken_119 ⟨Nat.le_of_ble_eq_true rfl, Nat.le_of_ble_eq_true rfl⟩) ?_
          refine lv_ior hx hb dX4_spoken_122 ?_
          refine lv_topi (fun v123 e123 => ?_)
          replace hf := lb_e hf e123
          refine lv_istore (lv' := [(6, .int v123), (5, .int v113), (4, .int (x4 + 1)), (8, .int v68), (0, .ref (L 0)), (1, .int x1), (2, .int x2), (3, .int x3), (7, .int x7)]) hx hb dX4_spoken_123 hl (by decide) rfl (fun ls hl => ?_)
          exact wm_spoken_125 hJ C0 hK hE _ ih _ _ _ _ _ _ _ _ _ _ _ hw hS (lv_sub hl [4, 5, 6, 7, 2, 1, 0, 8] rfl) hf
set_option maxHeartbeats 4000000 in
set_option maxRecDepth 100000 in
theorem wm_spoken_0 {p : Program} {l : Launch} {e : Env} {s : State} {m : MethodId} {args : Array Value} {below : List Frame} {meth : Method} {c : Code} {D : va_G} {L : Nat → Nat} {K : Nat → ClassId} (hJ : gj L 12) (C0 : gC cX4_spoken 9 (some .int) wsX4_spoken RX4 p s m args meth c) (hK : va_K D vwCl (tyG K) s) (hE : eM s) {w9 : St} {rs : Int32} : ∀ (x1 : Int32) (x2 : Int32) (x3 : Int32) (w : St) (H : Heap) (locs : List Loc) (ls : Array Slot), va_P D vwCl (gl L 12 (cM L K w)) H → va_S (gA L 12) s.heap H locs → lv_has ls 9 [(0, .ref (L 0)), (1, .int x1), (2, .int x2), (3, .int x3)] → fm_spoken x1 x2 x3 w = some (rs, w9) → W p l e { frames := 4, cells := 0, slots := 0, locals := 92 } s m args below meth c H locs 0 0 (MQ below (qI D L 12 (cM L K) rs w9) args s 0 0 (gA L 12)) (F0 m 0 ls []) := by
  obtain ⟨hx, hb, hr, hml, hown, hts, hlk⟩ := id C0
  intro x1 x2 x3 w H locs ls hw hS hl hf
  unfold fm_spoken at hf
  refine lv_iload_n hx hb dX4_spoken_0 rfl (lv_at hl 1 rfl) ?_
  refine lv_i2l (v := x1.toInt64) hx hb dX4_spoken_1 rfl ?_
  refine lv_lconst (v := 1) hx hb dX4_spoken_2 (by decide) ?_
  refine lv_ldc2 (v := 4) hx hb hown (hts (.constantLong RX4 160 4) (by decide +kernel)) dX4_spoken_3 ?_
  obtain ⟨v6, h6, hf⟩ := bd_e hf
  refine z_calls (va_runS (As := [.long (x1.toInt64), .long 1, .long 4]) (rest := []) ⟨hx, hb, hml, hown, hts⟩ (km_in l (x1.toInt64) 1 4 h6) (va_cwS 3 hts gX4_spoken_X4_in rfl rfl rfl (by decide +kernel) ⟨Nat.le_of_ble_eq_true rfl, Nat.le_of_ble_eq_true rfl⟩) z_preT rfl rfl hl.1 rfl (lv_room (Nat.le_of_ble_eq_true rfl)) dX4_spoken_6 ⟨Nat.le_of_ble_eq_true rfl, Nat.le_of_ble_eq_true rfl⟩) ?_
  refine lv_if_eq (tgt := 36) hx hb dX4_spoken_9 (by decide) (fun c9 => ?_) (fun c9 => ?_)
  · replace hf := if_t hf c9
    refine lv_bipush (v := (-2)) hx hb dX4_spoken_36 (by decide) ?_
    exact z_iret hx hb hr hlk hw hS hf dX4_spoken_38
  · replace hf := if_f hf c9
    refine lv_iload_n hx hb dX4_spoken_12 rfl (lv_at hl 2 rfl) ?_
    refine lv_i2l (v := x2.toInt64) hx hb dX4_spoken_13 rfl ?_
    refine lv_lconst (v := 0) hx hb dX4_spoken_14 (by decide) ?_
    refine lv_ldc2 (v := 9) hx hb hown (hts (.constantLong RX4 119 9) (by decide +kernel)) dX4_spoken_15 ?_
    obtain ⟨v18, h18, hf⟩ := bd_e hf
    refine z_calls (va_runS (As := [.long (x2.toInt64), .long 0, .long 9]) (rest := []) ⟨hx, hb, hml, hown, hts⟩ (km_in l (x2.toInt64) 0 9 h18) (va_cwS 3 hts gX4_spoken_X4_in rfl rfl rfl (by decide +kernel) ⟨Nat.le_of_ble_eq_true rfl, Nat.le_of_ble_eq_true rfl⟩) z_preT rfl rfl hl.1 rfl (lv_room (Nat.le_of_ble_eq_true rfl)) dX4_spoken_18 ⟨Nat.le_of_ble_eq_true rfl, Nat.le_of_ble_eq_true rfl⟩) ?_
    refine lv_if_eq (tgt := 36) hx hb dX4_spoken_21 (by decide) (fun c21 => ?_) (fun c21 => ?_)
    · replace hf := if_t hf c21
      refine lv_bipush (v := (-2)) hx hb dX4_spoken_36 (by decide) ?_
      exact z_iret hx hb hr hlk hw hS hf dX4_spoken_38
    · replace hf := if_f hf c21
      refine lv_iload_n hx hb dX4_spoken_24 rfl (lv_at hl 3 rfl) ?_
      refine lv_i2l (v := x3.toInt64) hx hb dX4_spoken_25 rfl ?_
      refine lv_lconst (v := 0) hx hb dX4_spoken_26 (by decide) ?_
      refine lv_ldc2 (v := 2) hx hb hown (hts (.constantLong RX4 162 2) (by decide +kernel)) dX4_spoken_27 ?_
      obtain ⟨v30, h30, hf⟩ := bd_e hf
      refine z_calls (va_runS (As := [.long (x3.toInt64), .long 0, .long 2]) (rest := []) ⟨hx, hb, hml, hown, hts⟩ (km_in l (x3.toInt64) 0 2 h30) (va_cwS 3 hts gX4_spoken_X4_in rfl rfl rfl (by decide +kernel) ⟨Nat.le_of_ble_eq_true rfl, Nat.le_of_ble_eq_true rfl⟩) z_preT rfl rfl hl.1 rfl (lv_room (Nat.le_of_ble_eq_true rfl)) dX4_spoken_30 ⟨Nat.le_of_ble_eq_true rfl, Nat.le_of_ble_eq_true rfl⟩) ?_
      refine lv_if_ne (tgt := 39) hx hb dX4_spoken_33 (by decide) (fun c33 => ?_) (fun c33 => ?_)
      · replace hf := if_f hf c33
        refine lv_iconst (v := 0) hx hb dX4_spoken_39 (by decide) ?_
        refine lv_istore (lv' := [(4, .int 0), (0, .ref (L 0)), (1, .int x1), (2, .int x2), (3, .int x3)]) hx hb dX4_spoken_40 hl (by decide) rfl (fun ls hl => ?_)
        refine lv_aload_n hx hb dX4_spoken_42 rfl (lv_at hl 1 rfl) ?_
        refine z_get (v := .ref (L 3)) hx hb hts hiX4_spoken_X4 hown hK hw (k := 0) (by decide) ((fun w => rfl) _) rfl 4 (by decide) (hts (.fieldLink RX4 16 "OneSentenceModel" "now" "[I") (by decide +kernel)) rfl dX4_spoken_43 ?_
        refine lv_iconst (v := 0) hx hb dX4_spoken_46 (by decide) ?_
        obtain ⟨v47, h47, hf⟩ := bd_e hf
        refine z_iald hx hb hK hw 0 (k := 3) (by decide) ((fun w => rfl) _) rfl h47 dX4_spoken_47 ?_
        refine lv_istore (lv' := [(5, .int v47), (4, .int 0), (0, .ref (L 0)), (1, .int x1), (2, .int x2), (3, .int x3)]) hx hb dX4_spoken_48 hl (by decide) rfl (fun ls hl => ?_)
        refine lv_iconst (v := 0) hx hb dX4_spoken_50 (by decide) ?_
        refine lv_istore (lv' := [(6, .int 0), (5, .int v47), (4, .int 0), (0, .ref (L 0)), (1, .int x1), (2, .int x2), (3, .int x3)]) hx hb dX4_spoken_51 hl (by decide) rfl (fun ls hl => ?_)
        refine lv_iconst (v := 0) hx hb dX4_spoken_53 (by decide) ?_
        refine lv_istore (lv' := [(7, .int 0), (6, .int 0), (5, .int v47), (4, .int 0), (0, .ref (L 0)), (1, .int x1), (2, .int x2), (3, .int x3)]) hx hb dX4_spoken_54 hl (by decide) rfl (fun ls hl => ?_)
        exact wm_spoken_56 hJ C0 hK hE _ _ _ _ _ _ _ _ _ _ _ _ hw hS (lv_sub hl [4, 5, 6, 7, 3, 2, 1, 0] rfl) hf
      · replace hf := if_t hf c33
        refine lv_bipush (v := (-2)) hx hb dX4_spoken_36 (by decide) ?_
        exact z_iret hx hb hr hlk hw hS hf dX4_spoken_38
set_option maxHeartbeats 4000000 in
set_option maxRecDepth 100000 in
theorem km_spoken (l : Launch) {D : va_G} {L : Nat → Nat} {K : Nat → ClassId} (hJ : gj L 12) (x1 : Int32) (x2 : Int32) (x3 : Int32) (w : St) {w9 : St} {rs : Int32} (hf : fm_spoken x1 x2 x3 w = some (rs, w9)) : Met l yX4_spoken wsX4_spoken ({ frames := 4, cells := 0, slots := 0, locals := 92 }) (va_Pc [.ref (L 0), .int x1, .int x2, .int x3] (mP D L K w)) (qI D L 12 (cM L K) rs w9) 0 0 (gA L 12) := by
  refine g_met (cc := cX4_spoken) (nL := 9) (ret := (some .int)) (by decide) rfl (Nat.le_of_ble_eq_true rfl) (fun p e s m below meth c ls C0 hP hl => ?_)
  exact wm_spoken_0 hJ C0 hP.2.1 hP.2.2 _ _ _ w _ _ ls hP.1 va_S.rf (lv_sub hl [0, 1, 2, 3] rfl) hf
set_option maxRecDepth 20000 in
theorem ggX4_quarrel_X4_isPerson : GoodIn wsX4_quarrel wsX4_isPerson := goodIn_r _ [7, 8, 9, 10, 6, 11, 25, 26, 27, 28, 29, 30, 31, 32, 33, 34, 35, 36, 37, 38, 39, 40, 41, 42, 43, 44, 45, 46, 47, 48] (by decide +kernel) (by decide +kernel)
set_option maxRecDepth 20000 in
theorem gX4_quarrel_X4_isPerson : GoodIn wsX4_quarrel (wsV RX4 95 RX4 yX4_isPerson wsX4_isPerson) := goodIn_app (goodIn_of _ (by decide +kernel)) ggX4_quarrel_X4_isPerson
set_option maxRecDepth 20000 in
theorem ggX4_quarrel_X4_layTrial : GoodIn wsX4_quarrel wsX4_layTrial := goodIn_r _ [15, 2, 16, 17, 25, 26, 27, 28, 29, 30, 31, 32, 33, 34, 35, 36, 37, 38, 39, 40, 41, 42, 43, 44, 45, 46, 47, 48] (by decide +kernel) (by decide +kernel)
set_option maxRecDepth 20000 in
theorem gX4_quarrel_X4_layTrial : GoodIn wsX4_quarrel (wsV RX4 127 RX4 yX4_layTrial wsX4_layTrial) := goodIn_app (goodIn_of _ (by decide +kernel)) ggX4_quarrel_X4_layTrial
set_option maxRecDepth 20000 in
theorem ggX4_quarrel_X4_speakOn : GoodIn wsX4_quarrel wsX4_speakOn := goodIn_r _ [21, 2, 22, 23, 6, 24, 25, 26, 27, 28, 29, 30, 31, 32, 33, 34, 35, 36, 37, 38, 39, 40, 41, 42, 43, 44, 45, 46, 47, 48] (by decide +kernel) (by decide +kernel)
set_option maxRecDepth 20000 in
theorem gX4_quarrel_X4_speakOn : GoodIn wsX4_quarrel (wsV RX4 91 RX4 yX4_speakOn wsX4_speakOn) := goodIn_app (goodIn_of _ (by decide +kernel)) ggX4_quarrel_X4_speakOn
theorem dX4_quarrel_0 : decode cX4_quarrel 0 = .ok (.aload_n 0, 1) := by decide +kernel
theorem dX4_quarrel_1 : decode cX4_quarrel 1 = .ok (.iload_n 1, 1) := by decide +kernel
theorem dX4_quarrel_2 : decode cX4_quarrel 2 = .ok (.invokevirtual 95, 3) := by decide +kernel
theorem dX4_quarrel_5 : decode cX4_quarrel 5 = .ok (.ifCond .eq 11, 3) := by decide +kernel
theorem dX4_quarrel_8 : decode cX4_quarrel 8 = .ok (.aload_n 0, 1) := by decide +kernel
theorem dX4_quarrel_9 : decode cX4_quarrel 9 = .ok (.iload_n 2, 1) := by decide +kernel
theorem dX4_quarrel_10 : decode cX4_quarrel 10 = .ok (.invokevirtual 95, 3) := by decide +kernel
theorem dX4_quarrel_13 : decode cX4_quarrel 13 = .ok (.ifCond .ne 5, 3) := by decide +kernel
theorem dX4_quarrel_16 : decode cX4_quarrel 16 = .ok (.iconst (-1), 1) := by decide +kernel
theorem dX4_quarrel_17 : decode cX4_quarrel 17 = .ok (.ireturn, 1) := by decide +kernel
theorem dX4_quarrel_18 : decode cX4_quarrel 18 = .ok (.iload_n 1, 1) := by decide +kernel
theorem dX4_quarrel_19 : decode cX4_quarrel 19 = .ok (.iload_n 2, 1) := by decide +kernel
theorem dX4_quarrel_20 : decode cX4_quarrel 20 = .ok (.if_icmp .ne 6, 3) := by decide +kernel
theorem dX4_quarrel_23 : decode cX4_quarrel 23 = .ok (.bipush (-2), 2) := by decide +kernel
theorem dX4_quarrel_25 : decode cX4_quarrel 25 = .ok (.ireturn, 1) := by decide +kernel
theorem dX4_quarrel_26 : decode cX4_quarrel 26 = .ok (.iconst 0, 1) := by decide +kernel
theorem dX4_quarrel_27 : decode cX4_quarrel 27 = .ok (.istore 4, 2) := by decide +kernel
theorem dX4_quarrel_29 : decode cX4_quarrel 29 = .ok (.iload 4, 2) := by decide +kernel
theorem dX4_quarrel_31 : decode cX4_quarrel 31 = .ok (.bipush 10, 2) := by decide +kernel
theorem dX4_quarrel_33 : decode cX4_quarrel 33 = .ok (.if_icmp .ge 18, 3) := by decide +kernel
theorem dX4_quarrel_36 : decode cX4_quarrel 36 = .ok (.aload_n 0, 1) := by decide +kernel
theorem dX4_quarrel_37 : decode cX4_quarrel 37 = .ok (.getfield 28, 3) := by decide +kernel
theorem dX4_quarrel_40 : decode cX4_quarrel 40 = .ok (.iload 4, 2) := by decide +kernel
theorem dX4_quarrel_42 : decode cX4_quarrel 42 = .ok (.bipush (-9), 2) := by decide +kernel
theorem dX4_quarrel_44 : decode cX4_quarrel 44 = .ok (.iastore, 1) := by decide +kernel
theorem dX4_quarrel_45 : decode cX4_quarrel 45 = .ok (.iinc 4 1, 3) := by decide +kernel
theorem dX4_quarrel_48 : decode cX4_quarrel 48 = .ok (.goto (-19), 3) := by decide +kernel
theorem dX4_quarrel_51 : decode cX4_quarrel 51 = .ok (.aload_n 0, 1) := by decide +kernel
theorem dX4_quarrel_52 : decode cX4_quarrel 52 = .ok (.aload_n 0, 1) := by decide +kernel
theorem dX4_quarrel_53 : decode cX4_quarrel 53 = .ok (.getfield 16, 3) := by decide +kernel
theorem dX4_quarrel_56 : decode cX4_quarrel 56 = .ok (.iconst 0, 1) := by decide +kernel
theorem dX4_quarrel_57 : decode cX4_quarrel 57 = .ok (.iaload, 1) := by decide +kernel
theorem dX4_quarrel_58 : decode cX4_quarrel 58 = .ok (.invokevirtual 127, 3) := by decide +kernel
theorem dX4_quarrel_61 : decode cX4_quarrel 61 = .ok (.iconst 0, 1) := by decide +kernel
theorem dX4_quarrel_62 : decode cX4_quarrel 62 = .ok (.istore 4, 2) := by decide +kernel
theorem dX4_quarrel_64 : decode cX4_quarrel 64 = .ok (.aload_n 0, 1) := by decide +kernel
theorem dX4_quarrel_65 : decode cX4_quarrel 65 = .ok (.getfield 28, 3) := by decide +kernel
theorem dX4_quarrel_68 : decode cX4_quarrel 68 = .ok (.aload_n 0, 1) := by decide +kernel
theorem dX4_quarrel_69 : decode cX4_quarrel 69 = .ok (.getfield 16, 3) := by decide +kernel
theorem dX4_quarrel_72 : decode cX4_quarrel 72 = .ok (.bipush 49, 2) := by decide +kernel
theorem dX4_quarrel_74 : decode cX4_quarrel 74 = .ok (.iaload, 1) := by decide +kernel
theorem dX4_quarrel_75 : decode cX4_quarrel 75 = .ok (.iaload, 1) := by decide +kernel
theorem dX4_quarrel_76 : decode cX4_quarrel 76 = .ok (.bipush (-9), 2) := by decide +kernel
theorem dX4_quarrel_78 : decode cX4_quarrel 78 = .ok (.if_icmp .ne 35, 3) := by decide +kernel
theorem dX4_quarrel_81 : decode cX4_quarrel 81 = .ok (.aload_n 0, 1) := by decide +kernel
theorem dX4_quarrel_82 : decode cX4_quarrel 82 = .ok (.getfield 28, 3) := by decide +kernel
theorem dX4_quarrel_85 : decode cX4_quarrel 85 = .ok (.aload_n 0, 1) := by decide +kernel
theorem dX4_quarrel_86 : decode cX4_quarrel 86 = .ok (.getfield 16, 3) := by decide +kernel
theorem dX4_quarrel_89 : decode cX4_quarrel 89 = .ok (.bipush 49, 2) := by decide +kernel
theorem dX4_quarrel_91 : decode cX4_quarrel 91 = .ok (.iaload, 1) := by decide +kernel
theorem dX4_quarrel_92 : decode cX4_quarrel 92 = .ok (.iload 4, 2) := by decide +kernel
theorem dX4_quarrel_94 : decode cX4_quarrel 94 = .ok (.iastore, 1) := by decide +kernel
theorem dX4_quarrel_95 : decode cX4_quarrel 95 = .ok (.aload_n 0, 1) := by decide +kernel
theorem dX4_quarrel_96 : decode cX4_quarrel 96 = .ok (.iconst 1, 1) := by decide +kernel
theorem dX4_quarrel_97 : decode cX4_quarrel 97 = .ok (.iload_n 1, 1) := by decide +kernel
theorem dX4_quarrel_98 : decode cX4_quarrel 98 = .ok (.invokevirtual 91, 3) := by decide +kernel
theorem dX4_quarrel_101 : decode cX4_quarrel 101 = .ok (.aload_n 0, 1) := by decide +kernel
theorem dX4_quarrel_102 : decode cX4_quarrel 102 = .ok (.iconst 1, 1) := by decide +kernel
theorem dX4_quarrel_103 : decode cX4_quarrel 103 = .ok (.iload_n 2, 1) := by decide +kernel
theorem dX4_quarrel_104 : decode cX4_quarrel 104 = .ok (.invokevirtual 91, 3) := by decide +kernel
theorem dX4_quarrel_107 : decode cX4_quarrel 107 = .ok (.iinc 4 1, 3) := by decide +kernel
theorem dX4_quarrel_110 : decode cX4_quarrel 110 = .ok (.goto (-46), 3) := by decide +kernel
theorem dX4_quarrel_113 : decode cX4_quarrel 113 = .ok (.iload_n 3, 1) := by decide +kernel
theorem dX4_quarrel_114 : decode cX4_quarrel 114 = .ok (.ifCond .eq 18, 3) := by decide +kernel
theorem dX4_quarrel_117 : decode cX4_quarrel 117 = .ok (.aload_n 0, 1) := by decide +kernel
theorem dX4_quarrel_118 : decode cX4_quarrel 118 = .ok (.getfield 28, 3) := by decide +kernel
theorem dX4_quarrel_121 : decode cX4_quarrel 121 = .ok (.aload_n 0, 1) := by decide +kernel
theorem dX4_quarrel_122 : decode cX4_quarrel 122 = .ok (.getfield 16, 3) := by decide +kernel
theorem dX4_quarrel_125 : decode cX4_quarrel 125 = .ok (.bipush 49, 2) := by decide +kernel
theorem dX4_quarrel_127 : decode cX4_quarrel 127 = .ok (.iaload, 1) := by decide +kernel
theorem dX4_quarrel_128 : decode cX4_quarrel 128 = .ok (.iaload, 1) := by decide +kernel
theorem dX4_quarrel_129 : decode cX4_quarrel 129 = .ok (.goto 5, 3) := by decide +kernel
theorem dX4_quarrel_132 : decode cX4_quarrel 132 = .ok (.iload 4, 2) := by decide +kernel
theorem dX4_quarrel_134 : decode cX4_quarrel 134 = .ok (.ireturn, 1) := by decide +kernel
set_option maxRecDepth 20000 in
theorem hiX4_quarrel_X4 : ∀ w ∈ u_ws RX4 TX4 24, w ∈ wsX4_quarrel := by decide +kernel
set_option maxHeartbeats 4000000 in
set_option maxRecDepth 100000 in
theorem wm_quarrel_64 {p : Program} {l : Launch} {e : Env} {s : State} {m : MethodId} {args : Array Value} {below : List Frame} {meth : Method} {c : Code} {D : va_G} {L : Nat → Nat} {K : Nat → ClassId} (hJ : gj L 12) (C0 : gC cX4_quarrel 5 (some .int) wsX4_quarrel RX4 p s m args meth c) (hK : va_K D vwCl (tyG K) s) (hE : eM s) {w9 : St} {rs : Int32} : ∀ (fu : Nat) (x1 : Int32) (x2 : Int32) (x3 : Int32) (x4 : Int32) (w : St) (H : Heap) (locs : List Loc) (ls : Array Slot), va_P D vwCl (gl L 12 (cM L K w)) H → va_S (gA L 12) s.heap H locs → lv_has ls 5 [(0, .ref (L 0)), (1, .int x1), (2, .int x2), (3, .int x3), (4, .int x4)] → fm_quarrel_64 fu x1 x2 x3 x4 w = some (rs, w9) → W p l e { frames := 2, cells := 0, slots := 0, locals := 46 } s m args below meth c H locs 0 0 (MQ below (qI D L 12 (cM L K) rs w9) args s 0 0 (gA L 12)) (F0 m 64 ls []) := by
  obtain ⟨hx, hb, hr, hml, hown, hts, hlk⟩ := id C0
  intro fu
  induction fu with
  | zero =>
    intro x1 x2 x3 x4 w H locs ls hw hS hl hf
    rw [fm_quarrel_64] at hf
    exact no_n hf
  | succ fu ih =>
    intro x1 x2 x3 x4 w H locs ls hw hS hl hf
    rw [fm_quarrel_64] at hf
    refine lv_aload_n hx hb dX4_quarrel_64 rfl (lv_at hl 0 rfl) ?_
    refine z_get (v := .ref (L 7)) hx hb hts hiX4_quarrel_X4 hown hK hw (k := 0) (by decide) ((fun w => rfl) _) rfl 18 (by decide) (hts (.fieldLink RX4 28 "OneSentenceModel" "metAt" "[I") (by decide +kernel)) rfl dX4_quarrel_65 ?_
    refine lv_aload_n hx hb dX4_quarrel_68 rfl (lv_at hl 0 rfl) ?_
    refine z_get (v := .ref (L 3)) hx hb hts hiX4_quarrel_X4 hown hK hw (k := 0) (by decide) ((fun w => rfl) _) rfl 4 (by decide) (hts (.fieldLink RX4 16 "OneSentenceModel" "now" "[I") (by decide +kernel)) rfl dX4_quarrel_69 ?_
    refine lv_bipush (v := 49) hx hb dX4_quarrel_72 (by decide) ?_
    obtain ⟨v74, h74, hf⟩ := bd_e hf
    refine z_iald hx hb hK hw 0 (k := 3) (by decide) ((fun w => rfl) _) rfl h74 dX4_quarrel_74 ?_
    obtain ⟨v75, h75, hf⟩ := bd_e hf
    refine z_iald hx hb hK hw 0 (k := 7) (by decide) ((fun w => rfl) _) rfl h75 dX4_quarrel_75 ?_
    refine lv_bipush (v := (-9)) hx hb dX4_quarrel_76 (by decide) ?_
    refine lv_icmp_ne (tgt := 113) hx hb dX4_quarrel_78 (by decide) (fun c78 => ?_) (fun c78 => ?_)
    · replace hf := if_f hf c78
      refine lv_iload_n hx hb dX4_quarrel_113 rfl (lv_at hl 3 rfl) ?_
      refine lv_if_eq (tgt := 132) hx hb dX4_quarrel_114 (by decide) (fun c114 => ?_) (fun c114 => ?_)
      · replace hf := if_t hf c114
        refine lv_iload hx hb dX4_quarrel_132 (lv_at hl 4 rfl) ?_
        exact z_iret hx hb hr hlk hw hS hf dX4_quarrel_134
      · replace hf := if_f hf c114
        refine lv_aload_n hx hb dX4_quarrel_117 rfl (lv_at hl 0 rfl) ?_
        refine z_get (v := .ref (L 7)) hx hb hts hiX4_quarrel_X4 hown hK hw (k := 0) (by decide) ((fun w => rfl) _) rfl 18 (by decide) (hts (.fieldLink RX4 28 "OneSentenceModel" "metAt" "[I") (by decide +kernel)) rfl dX4_quarrel_118 ?_
        refine lv_aload_n hx hb dX4_quarrel_121 rfl (lv_at hl 0 rfl) ?_
        refine z_get (v := .ref (L 3)) hx hb hts hiX4_quarrel_X4 hown hK hw (k := 0) (by decide) ((fun w => rfl) _) rfl 4 (by decide) (hts (.fieldLink RX4 16 "OneSentenceModel" "now" "[I") (by decide +kernel)) rfl dX4_quarrel_122 ?_
        refine lv_bipush (v := 49) hx hb dX4_quarrel_125 (by decide) ?_
        obtain ⟨v127, h127, hf⟩ := bd_e hf
        refine z_iald hx hb hK hw 0 (k := 3) (by decide) ((fun w => rfl) _) rfl h127 dX4_quarrel_127 ?_
        obtain ⟨v128, h128, hf⟩ := bd_e hf
        refine z_iald hx hb hK hw 0 (k := 7) (by decide) ((fun w => rfl) _) rfl h128 dX4_quarrel_128 ?_
        refine lv_goto (tgt := 134) hx hb dX4_quarrel_129 (by decide) ?_
        exact z_iret hx hb hr hlk hw hS hf dX4_quarrel_134
    · replace hf := if_t hf c78
      refine lv_aload_n hx hb dX4_quarrel_81 rfl (lv_at hl 0 rfl) ?_
      refine z_get (v := .ref (L 7)) hx hb hts hiX4_quarrel_X4 hown hK hw (k := 0) (by decide) ((fun w => rfl) _) rfl 18 (by decide) (hts (.fieldLink RX4 28 "OneSentenceModel" "metAt" "[I") (by decide +kernel)) rfl dX4_quarrel_82 ?_
      refine lv_aload_n hx hb dX4_quarrel_85 rfl (lv_at hl 0 rfl) ?_
      refine z_get (v := .ref (L 3)) hx hb hts hiX4_quarrel_X4 hown hK hw (k := 0) (by decide) ((fun w => rfl) _) rfl 4 (by decide) (hts (.fieldLink RX4 16 "OneSentenceModel" "now" "[I") (by decide +kernel)) rfl dX4_quarrel_86 ?_
      refine lv_bipush (v := 49) hx hb dX4_quarrel_89 (by decide) ?_
      obtain ⟨v91, h91, hf⟩ := bd_e hf
      refine z_iald hx hb hK hw 0 (k := 3) (by decide) ((fun w => rfl) _) rfl h91 dX4_quarrel_91 ?_
      refine lv_iload hx hb dX4_quarrel_92 (lv_at hl 4 rfl) ?_
      obtain ⟨w94, h94, hf⟩ := bd_e hf
      refine z_iast hx hb hK hJ hw hS 0 (k := 7) (by decide) cM_ne (fun w => rfl) rfl h94 dX4_quarrel_94 (fun H locs hw hS => ?_)
      refine lv_aload_n hx hb dX4_quarrel_95 rfl (lv_at hl 0 rfl) ?_
      refine lv_iconst (v := 1) hx hb dX4_quarrel_96 (by decide) ?_
      refine lv_iload_n hx hb dX4_quarrel_97 rfl (lv_at hl 1 rfl) ?_
      obtain ⟨w98, h98, hf⟩ := bd_e hf
      refine z_callv (va_runV (As := [.int 1, .int x1]) (rest := []) ⟨hx, hb, hml, hown, hts⟩ (km_speakOn l (D := D) (K := K) hJ 1 x1 w94  h98) (cwV 2 hts gX4_quarrel_X4_speakOn rfl rfl rfl (by decide +kernel) ⟨Nat.le_of_ble_eq_true rfl, Nat.le_of_ble_eq_true rfl⟩) (z_preV eM_ok hK hE hw hS (by decide) ((fun w => rfl) _) (T := TX4) (M := 24) rfl) rfl rfl hl.1 rfl (lv_room (Nat.le_of_ble_eq_true rfl)) dX4_quarrel_98 ⟨Nat.le_of_ble_eq_true rfl, Nat.le_of_ble_eq_true rfl⟩) hS (fun H locs hw hS => ?_)
      refine lv_aload_n hx hb dX4_quarrel_101 rfl (lv_at hl 0 rfl) ?_
      refine lv_iconst (v := 1) hx hb dX4_quarrel_102 (by decide) ?_
      refine lv_iload_n hx hb dX4_quarrel_103 rfl (lv_at hl 2 rfl) ?_
      obtain ⟨w104, h104, hf⟩ := bd_e hf
      refine z_callv (va_runV (As := [.int 1, .int x2]) (rest := []) ⟨hx, hb, hml, hown, hts⟩ (km_speakOn l (D := D) (K := K) hJ 1 x2 w98  h104) (cwV 2 hts gX4_quarrel_X4_speakOn rfl rfl rfl (by decide +kernel) ⟨Nat.le_of_ble_eq_true rfl, Nat.le_of_ble_eq_true rfl⟩) (z_preV eM_ok hK hE hw hS (by decide) ((fun w => rfl) _) (T := TX4) (M := 24) rfl) rfl rfl hl.1 rfl (lv_room (Nat.le_of_ble_eq_true rfl)) dX4_quarrel_104 ⟨Nat.le_of_ble_eq_true rfl, Nat.le_of_ble_eq_true rfl⟩) hS (fun H locs hw hS => ?_)
      refine lv_iinc (v := (x4 + 1)) (lv' := [(4, .int (x4 + 1)), (0, .ref (L 0)), (1, .int x1), (2, .int x2), (3, .int x3)]) hx hb dX4_quarrel_107 hl (k := 4) rfl rfl (by decide) rfl (fun ls hl => ?_)
      refine lv_goto (tgt := 64) hx hb dX4_quarrel_110 (by decide) ?_
      exact ih _ _ _ _ _ _ _ _ hw hS (lv_sub hl [1, 2, 3, 4, 0] rfl) hf
set_option maxHeartbeats 4000000 in
set_option maxRecDepth 100000 in
theorem wm_quarrel_29 {p : Program} {l : Launch} {e : Env} {s : State} {m : MethodId} {args : Array Value} {below : List Frame} {meth : Method} {c : Code} {D : va_G} {L : Nat → Nat} {K : Nat → ClassId} (hJ : gj L 12) (C0 : gC cX4_quarrel 5 (some .int) wsX4_quarrel RX4 p s m args meth c) (hK : va_K D vwCl (tyG K) s) (hE : eM s) {w9 : St} {rs : Int32} : ∀ (fu : Nat) (x1 : Int32) (x2 : Int32) (x3 : Int32) (x4 : Int32) (w : St) (H : Heap) (locs : List Loc) (ls : Array Slot), va_P D vwCl (gl L 12 (cM L K w)) H → va_S (gA L 12) s.heap H locs → lv_has ls 5 [(0, .ref (L 0)), (1, .int x1), (2, .int x2), (3, .int x3), (4, .int x4)] → fm_quarrel_29 fu x1 x2 x3 x4 w = some (rs, w9) → W p l e { frames := 2, cells := 0, slots := 0, locals := 46 } s m args below meth c H locs 0 0 (MQ below (qI D L 12 (cM L K) rs w9) args s 0 0 (gA L 12)) (F0 m 29 ls []) := by
  obtain ⟨hx, hb, hr, hml, hown, hts, hlk⟩ := id C0
  intro fu
  induction fu with
  | zero =>
    intro x1 x2 x3 x4 w H locs ls hw hS hl hf
    rw [fm_quarrel_29] at hf
    exact no_n hf
  | succ fu ih =>
    intro x1 x2 x3 x4 w H locs ls hw hS hl hf
    rw [fm_quarrel_29] at hf
    refine lv_iload hx hb dX4_quarrel_29 (lv_at hl 4 rfl) ?_
    refine lv_bipush (v := 10) hx hb dX4_quarrel_31 (by decide) ?_
    refine lv_icmp_ge (tgt := 51) hx hb dX4_quarrel_33 (by decide) (fun c33 => ?_) (fun c33 => ?_)
    · replace hf := if_t hf c33
      refine lv_aload_n hx hb dX4_quarrel_51 rfl (lv_at hl 0 rfl) ?_
      refine lv_aload_n hx hb dX4_quarrel_52 rfl (lv_at hl 0 rfl) ?_
      refine z_get (v := .ref (L 3)) hx hb hts hiX4_quarrel_X4 hown hK hw (k := 0) (by decide) ((fun w => rfl) _) rfl 4 (by decide) (hts (.fieldLink RX4 16 "OneSentenceModel" "now" "[I") (by decide +kernel)) rfl dX4_quarrel_53 ?_
      refine lv_iconst (v := 0) hx hb dX4_quarrel_56 (by decide) ?_
      obtain ⟨v57, h57, hf⟩ := bd_e hf
      refine z_iald hx hb hK hw 0 (k := 3) (by decide) ((fun w => rfl) _) rfl h57 dX4_quarrel_57 ?_
      obtain ⟨w58, h58, hf⟩ := bd_e hf
      refine z_callv (va_runV (As := [.int v57]) (rest := []) ⟨hx, hb, hml, hown, hts⟩ (km_layTrial l (D := D) (K := K) hJ v57 w  h58) (cwV 1 hts gX4_quarrel_X4_layTrial rfl rfl rfl (by decide +kernel) ⟨Nat.le_of_ble_eq_true rfl, Nat.le_of_ble_eq_true rfl⟩) (z_preV eM_ok hK hE hw hS (by decide) ((fun w => rfl) _) (T := TX4) (M := 24) rfl) rfl rfl hl.1 rfl (lv_room (Nat.le_of_ble_eq_true rfl)) dX4_quarrel_58 ⟨Nat.le_of_ble_eq_true rfl, Nat.le_of_ble_eq_true rfl⟩) hS (fun H locs hw hS => ?_)
      refine lv_iconst (v := 0) hx hb dX4_quarrel_61 (by decide) ?_
      refine lv_istore (lv' := [(4, .int 0), (0, .ref (L 0)), (1, .int x1), (2, .int x2), (3, .int x3)]) hx hb dX4_quarrel_62 hl (by decide) rfl (fun ls hl => ?_)
      exact wm_quarrel_64 hJ C0 hK hE _ _ _ _ _ _ _ _ _ hw hS (lv_sub hl [1, 2, 3, 4, 0] rfl) hf
    · replace hf := if_f hf c33
      refine lv_aload_n hx hb dX4_quarrel_36 rfl (lv_at hl 0 rfl) ?_
      refine z_get (v := .ref (L 7)) hx hb hts hiX4_quarrel_X4 hown hK hw (k := 0) (by decide) ((fun w => rfl) _) rfl 18 (by decide) (hts (.fieldLink RX4 28 "OneSentenceModel" "metAt" "[I") (by decide +kernel)) rfl dX4_quarrel_37 ?_
      refine lv_iload hx hb dX4_quarrel_40 (lv_at hl 4 rfl) ?_
      refine lv_bipush (v := (-9)) hx hb dX4_quarrel_42 (by decide) ?_
      obtain ⟨w44, h44, hf⟩ := bd_e hf
      refine z_iast hx hb hK hJ hw hS 0 (k := 7) (by decide) cM_ne (fun w => rfl) rfl h44 dX4_quarrel_44 (fun H locs hw hS => ?_)
      refine lv_iinc (v := (x4 + 1)) (lv' := [(4, .int (x4 + 1)), (0, .ref (L 0)), (1, .int x1), (2, .int x2), (3, .int x3)]) hx hb dX4_quarrel_45 hl (k := 4) rfl rfl (by decide) rfl (fun ls hl => ?_)
      refine lv_goto (tgt := 29) hx hb dX4_quarrel_48 (by decide) ?_
      exact ih _ _ _ _ _ _ _ _ hw hS (lv_sub hl [1, 2, 3, 4, 0] rfl) hf
set_option maxHeartbeats 4000000 in
set_option maxRecDepth 100000 in
theorem wm_quarrel_0 {p : Program} {l : Launch} {e : Env} {s : State} {m : MethodId} {args : Array Value} {below : List Frame} {meth : Method} {c : Code} {D : va_G} {L : Nat → Nat} {K : Nat → ClassId} (hJ : gj L 12) (C0 : gC cX4_quarrel 5 (some .int) wsX4_quarrel RX4 p s m args meth c) (hK : va_K D vwCl (tyG K) s) (hE : eM s) {w9 : St} {rs : Int32} : ∀ (x1 : Int32) (x2 : Int32) (x3 : Int32) (w : St) (H : Heap) (locs : List Loc) (ls : Array Slot), va_P D vwCl (gl L 12 (cM L K w)) H → va_S (gA L 12) s.heap H locs → lv_has ls 5 [(0, .ref (L 0)), (1, .int x1), (2, .int x2), (3, .int x3)] → fm_quarrel x1 x2 x3 w = some (rs, w9) → W p l e { frames := 2, cells := 0, slots := 0, locals := 46 } s m args below meth c H locs 0 0 (MQ below (qI D L 12 (cM L K) rs w9) args s 0 0 (gA L 12)) (F0 m 0 ls []) := by
  obtain ⟨hx, hb, hr, hml, hown, hts, hlk⟩ := id C0
  intro x1 x2 x3 w H locs ls hw hS hl hf
  unfold fm_quarrel at hf
  refine lv_aload_n hx hb dX4_quarrel_0 rfl (lv_at hl 0 rfl) ?_
  refine lv_iload_n hx hb dX4_quarrel_1 rfl (lv_at hl 1 rfl) ?_
  obtain ⟨q2, h2, hf⟩ := bd_e hf
  refine z_calli (va_runV (As := [.int x1]) (rest := []) ⟨hx, hb, hml, hown, hts⟩ (km_isPerson l (D := D) (K := K) hJ x1 w  h2) (cwV 1 hts gX4_quarrel_X4_isPerson rfl rfl rfl (by decide +kernel) ⟨Nat.le_of_ble_eq_true rfl, Nat.le_of_ble_eq_true rfl⟩) (z_preV eM_ok hK hE hw hS (by decide) ((fun w => rfl) _) (T := TX4) (M := 24) rfl) rfl rfl hl.1 rfl (lv_room (Nat.le_of_ble_eq_true rfl)) dX4_quarrel_2 ⟨Nat.le_of_ble_eq_true rfl, Nat.le_of_ble_eq_true rfl⟩) hS (fun H locs hw hS => ?_)
  refine lv_if_eq (tgt := 16) hx hb dX4_quarrel_5 (by decide) (fun c5 => ?_) (fun c5 => ?_)
  · replace hf := if_t hf c5
    refine lv_iconst (v := (-1)) hx hb dX4_quarrel_16 (by decide) ?_
    exact z_iret hx hb hr hlk hw hS hf dX4_quarrel_17
  · replace hf := if_f hf c5
    refine lv_aload_n hx hb dX4_quarrel_8 rfl (lv_at hl 0 rfl) ?_
    refine lv_iload_n hx hb dX4_quarrel_9 rfl (lv_at hl 2 rfl) ?_
    obtain ⟨q10, h10, hf⟩ := bd_e hf
    refine z_calli (va_runV (As := [.int x2]) (rest := []) ⟨hx, hb, hml, hown, hts⟩ (km_isPerson l (D := D) (K := K) hJ x2 (q2.2)  h10) (cwV 1 hts gX4_quarrel_X4_isPerson rfl rfl rfl (by decide +kernel) ⟨Nat.le_of_ble_eq_true rfl, Nat.le_of_ble_eq_true rfl⟩) (z_preV eM_ok hK hE hw hS (by decide) ((fun w => rfl) _) (T := TX4) (M := 24) rfl) rfl rfl hl.1 rfl (lv_room (Nat.le_of_ble_eq_true rfl)) dX4_quarrel_10 ⟨Nat.le_of_ble_eq_true rfl, Nat.le_of_ble_eq_true rfl⟩) hS (fun H locs hw hS => ?_)
    refine lv_if_ne (tgt := 18) hx hb dX4_quarrel_13 (by decide) (fun c13 => ?_) (fun c13 => ?_)
    · replace hf := if_f hf c13
      refine lv_iload_n hx hb dX4_quarrel_18 rfl (lv_at hl 1 rfl) ?_
      refine lv_iload_n hx hb dX4_quarrel_19 rfl (lv_at hl 2 rfl) ?_
      refine lv_icmp_ne (tgt := 26) hx hb dX4_quarrel_20 (by decide) (fun c20 => ?_) (fun c20 => ?_)
      · replace hf := if_f hf c20
        refine lv_iconst (v := 0) hx hb dX4_quarrel_26 (by decide) ?_
        refine lv_istore (lv' := [(4, .int 0), (0, .ref (L 0)), (1, .int x1), (2, .int x2), (3, .int x3)]) hx hb dX4_quarrel_27 hl (by decide) rfl (fun ls hl => ?_)
        exact wm_quarrel_29 hJ C0 hK hE _ _ _ _ _ _ _ _ _ hw hS (lv_sub hl [1, 2, 3, 4, 0] rfl) hf
      · replace hf := if_t hf c20
        refine lv_bipush (v := (-2)) hx hb dX4_quarrel_23 (by decide) ?_
        exact z_iret hx hb hr hlk hw hS hf dX4_quarrel_25
    · replace hf := if_t hf c13
      refine lv_iconst (v := (-1)) hx hb dX4_quarrel_16 (by decide) ?_
      exact z_iret hx hb hr hlk hw hS hf dX4_quarrel_17
set_option maxHeartbeats 4000000 in
set_option maxRecDepth 100000 in
theorem km_quarrel (l : Launch) {D : va_G} {L : Nat → Nat} {K : Nat → ClassId} (hJ : gj L 12) (x1 : Int32) (x2 : Int32) (x3 : Int32) (w : St) {w9 : St} {rs : Int32} (hf : fm_quarrel x1 x2 x3 w = some (rs, w9)) : Met l yX4_quarrel wsX4_quarrel ({ frames := 2, cells := 0, slots := 0, locals := 46 }) (va_Pc [.ref (L 0), .int x1, .int x2, .int x3] (mP D L K w)) (qI D L 12 (cM L K) rs w9) 0 0 (gA L 12) := by
  refine g_met (cc := cX4_quarrel) (nL := 5) (ret := (some .int)) (by decide) rfl (Nat.le_of_ble_eq_true rfl) (fun p e s m below meth c ls C0 hP hl => ?_)
  exact wm_quarrel_0 hJ C0 hP.2.1 hP.2.2 _ _ _ w _ _ ls hP.1 va_S.rf (lv_sub hl [0, 1, 2, 3] rfl) hf
theorem dX4_factorial_0 : decode cX4_factorial 0 = .ok (.iconst 1, 1) := by decide +kernel
theorem dX4_factorial_1 : decode cX4_factorial 1 = .ok (.istore_n 1, 1) := by decide +kernel
theorem dX4_factorial_2 : decode cX4_factorial 2 = .ok (.iconst 2, 1) := by decide +kernel
theorem dX4_factorial_3 : decode cX4_factorial 3 = .ok (.istore_n 2, 1) := by decide +kernel
theorem dX4_factorial_4 : decode cX4_factorial 4 = .ok (.iload_n 2, 1) := by decide +kernel
theorem dX4_factorial_5 : decode cX4_factorial 5 = .ok (.iload_n 0, 1) := by decide +kernel
theorem dX4_factorial_6 : decode cX4_factorial 6 = .ok (.if_icmp .gt 13, 3) := by decide +kernel
theorem dX4_factorial_9 : decode cX4_factorial 9 = .ok (.iload_n 1, 1) := by decide +kernel
theorem dX4_factorial_10 : decode cX4_factorial 10 = .ok (.iload_n 2, 1) := by decide +kernel
theorem dX4_factorial_11 : decode cX4_factorial 11 = .ok (.imul, 1) := by decide +kernel
theorem dX4_factorial_12 : decode cX4_factorial 12 = .ok (.istore_n 1, 1) := by decide +kernel
theorem dX4_factorial_13 : decode cX4_factorial 13 = .ok (.iinc 2 1, 3) := by decide +kernel
theorem dX4_factorial_16 : decode cX4_factorial 16 = .ok (.goto (-12), 3) := by decide +kernel
theorem dX4_factorial_19 : decode cX4_factorial 19 = .ok (.iload_n 1, 1) := by decide +kernel
theorem dX4_factorial_20 : decode cX4_factorial 20 = .ok (.ireturn, 1) := by decide +kernel
set_option maxHeartbeats 4000000 in
set_option maxRecDepth 100000 in
theorem wm_factorial_4 {p : Program} {l : Launch} {e : Env} {s : State} {m : MethodId} {args : Array Value} {below : List Frame} {meth : Method} {c : Code} (C0 : gC cX4_factorial 3 (some .int) wsX4_factorial RX4 p s m args meth c) {rs : Int32} : ∀ (fu : Nat) (x0 : Int32) (x1 : Int32) (x2 : Int32) (ls : Array Slot), lv_has ls 3 [(0, .int x0), (1, .int x1), (2, .int x2)] → fm_factorial_4 fu x0 x1 x2 = some rs → W p l e { frames := 0, cells := 0, slots := 0, locals := 0 } s m args below meth c s.heap [] 0 0 (MQ below (qS rs) args s 0 0 (fun _ => False)) (F0 m 4 ls []) := by
  obtain ⟨hx, hb, hr, hml, hown, hts, hlk⟩ := id C0
  intro fu
  induction fu with
  | zero =>
    intro x0 x1 x2 ls hl hf
    rw [fm_factorial_4] at hf
    exact no_n hf
  | succ fu ih =>
    intro x0 x1 x2 ls hl hf
    rw [fm_factorial_4] at hf
    refine lv_iload_n hx hb dX4_factorial_4 rfl (lv_at hl 2 rfl) ?_
    refine lv_iload_n hx hb dX4_factorial_5 rfl (lv_at hl 0 rfl) ?_
    refine lv_icmp_gt (tgt := 19) hx hb dX4_factorial_6 (by decide) (fun c6 => ?_) (fun c6 => ?_)
    · replace hf := if_t hf c6
      refine lv_iload_n hx hb dX4_factorial_19 rfl (lv_at hl 1 rfl) ?_
      exact z_sret hx hb hr hlk hf dX4_factorial_20
    · replace hf := if_f hf c6
      refine lv_iload_n hx hb dX4_factorial_9 rfl (lv_at hl 1 rfl) ?_
      refine lv_iload_n hx hb dX4_factorial_10 rfl (lv_at hl 2 rfl) ?_
      refine lv_imul hx hb dX4_factorial_11 ?_
      refine lv_topi (fun v12 e12 => ?_)
      replace hf := lb_e hf e12
      refine lv_istore_n (lv' := [(1, .int v12), (0, .int x0), (2, .int x2)]) hx hb dX4_factorial_12 rfl hl (by decide) rfl (fun ls hl => ?_)
      refine lv_iinc (v := (x2 + 1)) (lv' := [(2, .int (x2 + 1)), (1, .int v12), (0, .int x0)]) hx hb dX4_factorial_13 hl (k := 2) rfl rfl (by decide) rfl (fun ls hl => ?_)
      refine lv_goto (tgt := 4) hx hb dX4_factorial_16 (by decide) ?_
      exact ih _ _ _ _ (lv_sub hl [2, 1, 0] rfl) hf
set_option maxHeartbeats 4000000 in
set_option maxRecDepth 100000 in
theorem wm_factorial_0 {p : Program} {l : Launch} {e : Env} {s : State} {m : MethodId} {args : Array Value} {below : List Frame} {meth : Method} {c : Code} (C0 : gC cX4_factorial 3 (some .int) wsX4_factorial RX4 p s m args meth c) {rs : Int32} : ∀ (x0 : Int32) (ls : Array Slot), lv_has ls 3 [(0, .int x0)] → fm_factorial x0 = some rs → W p l e { frames := 0, cells := 0, slots := 0, locals := 0 } s m args below meth c s.heap [] 0 0 (MQ below (qS rs) args s 0 0 (fun _ => False)) (F0 m 0 ls []) := by
  obtain ⟨hx, hb, hr, hml, hown, hts, hlk⟩ := id C0
  intro x0 ls hl hf
  unfold fm_factorial at hf
  refine lv_iconst (v := 1) hx hb dX4_factorial_0 (by decide) ?_
  refine lv_istore_n (lv' := [(1, .int 1), (0, .int x0)]) hx hb dX4_factorial_1 rfl hl (by decide) rfl (fun ls hl => ?_)
  refine lv_iconst (v := 2) hx hb dX4_factorial_2 (by decide) ?_
  refine lv_istore_n (lv' := [(2, .int 2), (1, .int 1), (0, .int x0)]) hx hb dX4_factorial_3 rfl hl (by decide) rfl (fun ls hl => ?_)
  exact wm_factorial_4 C0 _ _ _ _ _ (lv_sub hl [2, 1, 0] rfl) hf
set_option maxHeartbeats 4000000 in
set_option maxRecDepth 100000 in
theorem km_factorial (l : Launch) (x0 : Int32) {rs : Int32} (hf : fm_factorial x0 = some rs) : Met l yX4_factorial wsX4_factorial ({ frames := 0, cells := 0, slots := 0, locals := 0 }) (va_Pc [.int x0] (fun _ => True)) (qS rs) 0 0 (fun _ => False) := by
  refine g_met (cc := cX4_factorial) (nL := 3) (ret := (some .int)) (by decide) rfl (Nat.le_of_ble_eq_true rfl) (fun p e s m below meth c ls C0 _ hl => ?_)
  exact wm_factorial_0 C0 _ ls (lv_sub hl [0] rfl) hf
theorem dX4_common_0 : decode cX4_common 0 = .ok (.iload_n 0, 1) := by decide +kernel
theorem dX4_common_1 : decode cX4_common 1 = .ok (.ifCond .ge 8, 3) := by decide +kernel
theorem dX4_common_4 : decode cX4_common 4 = .ok (.iload_n 0, 1) := by decide +kernel
theorem dX4_common_5 : decode cX4_common 5 = .ok (.ineg, 1) := by decide +kernel
theorem dX4_common_6 : decode cX4_common 6 = .ok (.goto 4, 3) := by decide +kernel
theorem dX4_common_9 : decode cX4_common 9 = .ok (.iload_n 0, 1) := by decide +kernel
theorem dX4_common_10 : decode cX4_common 10 = .ok (.istore_n 2, 1) := by decide +kernel
theorem dX4_common_11 : decode cX4_common 11 = .ok (.iload_n 1, 1) := by decide +kernel
theorem dX4_common_12 : decode cX4_common 12 = .ok (.istore_n 3, 1) := by decide +kernel
theorem dX4_common_13 : decode cX4_common 13 = .ok (.iload_n 3, 1) := by decide +kernel
theorem dX4_common_14 : decode cX4_common 14 = .ok (.ifCond .eq 16, 3) := by decide +kernel
theorem dX4_common_17 : decode cX4_common 17 = .ok (.iload_n 2, 1) := by decide +kernel
theorem dX4_common_18 : decode cX4_common 18 = .ok (.iload_n 3, 1) := by decide +kernel
theorem dX4_common_19 : decode cX4_common 19 = .ok (.irem, 1) := by decide +kernel
theorem dX4_common_20 : decode cX4_common 20 = .ok (.istore 4, 2) := by decide +kernel
theorem dX4_common_22 : decode cX4_common 22 = .ok (.iload_n 3, 1) := by decide +kernel
theorem dX4_common_23 : decode cX4_common 23 = .ok (.istore_n 2, 1) := by decide +kernel
theorem dX4_common_24 : decode cX4_common 24 = .ok (.iload 4, 2) := by decide +kernel
theorem dX4_common_26 : decode cX4_common 26 = .ok (.istore_n 3, 1) := by decide +kernel
theorem dX4_common_27 : decode cX4_common 27 = .ok (.goto (-14), 3) := by decide +kernel
theorem dX4_common_30 : decode cX4_common 30 = .ok (.iload_n 2, 1) := by decide +kernel
theorem dX4_common_31 : decode cX4_common 31 = .ok (.ireturn, 1) := by decide +kernel
set_option maxHeartbeats 4000000 in
set_option maxRecDepth 100000 in
theorem wm_common_13 {p : Program} {l : Launch} {e : Env} {s : State} {m : MethodId} {args : Array Value} {below : List Frame} {meth : Method} {c : Code} (C0 : gC cX4_common 5 (some .int) wsX4_common RX4 p s m args meth c) {rs : Int32} : ∀ (fu : Nat) (x2 : Int32) (x3 : Int32) (ls : Array Slot), lv_has ls 5 [(2, .int x2), (3, .int x3)] → fm_common_13 fu x2 x3 = some rs → W p l e { frames := 0, cells := 0, slots := 0, locals := 0 } s m args below meth c s.heap [] 0 0 (MQ below (qS rs) args s 0 0 (fun _ => False)) (F0 m 13 ls []) := by
  obtain ⟨hx, hb, hr, hml, hown, hts, hlk⟩ := id C0
  intro fu
  induction fu with
  | zero =>
    intro x2 x3 ls hl hf
    rw [fm_common_13] at hf
    exact no_n hf
  | succ fu ih =>
    intro x2 x3 ls hl hf
    rw [fm_common_13] at hf
    refine lv_iload_n hx hb dX4_common_13 rfl (lv_at hl 1 rfl) ?_
    refine lv_if_eq (tgt := 30) hx hb dX4_common_14 (by decide) (fun c14 => ?_) (fun c14 => ?_)
    · replace hf := if_t hf c14
      refine lv_iload_n hx hb dX4_common_30 rfl (lv_at hl 0 rfl) ?_
      exact z_sret hx hb hr hlk hf dX4_common_31
    · replace hf := if_f hf c14
      refine lv_iload_n hx hb dX4_common_17 rfl (lv_at hl 0 rfl) ?_
      refine lv_iload_n hx hb dX4_common_18 rfl (lv_at hl 1 rfl) ?_
      obtain ⟨v19, h19, hf⟩ := bd_e hf
      obtain ⟨n19, j19⟩ := gm_e h19
      refine lv_irem hx hb dX4_common_19 n19 ?_
      rw [j19]
      refine lv_istore (lv' := [(4, .int v19), (2, .int x2), (3, .int x3)]) hx hb dX4_common_20 hl (by decide) rfl (fun ls hl => ?_)
      refine lv_iload_n hx hb dX4_common_22 rfl (lv_at hl 2 rfl) ?_
      refine lv_istore_n (lv' := [(2, .int x3), (4, .int v19), (3, .int x3)]) hx hb dX4_common_23 rfl hl (by decide) rfl (fun ls hl => ?_)
      refine lv_iload hx hb dX4_common_24 (lv_at hl 1 rfl) ?_
      refine lv_istore_n (lv' := [(3, .int v19), (2, .int x3), (4, .int v19)]) hx hb dX4_common_26 rfl hl (by decide) rfl (fun ls hl => ?_)
      refine lv_goto (tgt := 13) hx hb dX4_common_27 (by decide) ?_
      exact ih _ _ _ (lv_sub hl [1, 0] rfl) hf
set_option maxHeartbeats 4000000 in
set_option maxRecDepth 100000 in
theorem wm_common_10 {p : Program} {l : Launch} {e : Env} {s : State} {m : MethodId} {args : Array Value} {below : List Frame} {meth : Method} {c : Code} (C0 : gC cX4_common 5 (some .int) wsX4_common RX4 p s m args meth c) {rs : Int32} : ∀ (x1 : Int32) (s0 : Int32) (ls : Array Slot), lv_has ls 5 [(1, .int x1)] → fm_common_10 x1 s0 = some rs → W p l e { frames := 0, cells := 0, slots := 0, locals := 0 } s m args below meth c s.heap [] 0 0 (MQ below (qS rs) args s 0 0 (fun _ => False)) (F0 m 10 ls [.int s0]) := by
  obtain ⟨hx, hb, hr, hml, hown, hts, hlk⟩ := id C0
  intro x1 s0 ls hl hf
  unfold fm_common_10 at hf
  refine lv_istore_n (lv' := [(2, .int s0), (1, .int x1)]) hx hb dX4_common_10 rfl hl (by decide) rfl (fun ls hl => ?_)
  refine lv_iload_n hx hb dX4_common_11 rfl (lv_at hl 1 rfl) ?_
  refine lv_istore_n (lv' := [(3, .int x1), (2, .int s0), (1, .int x1)]) hx hb dX4_common_12 rfl hl (by decide) rfl (fun ls hl => ?_)
  exact wm_common_13 C0 _ _ _ _ (lv_sub hl [1, 0] rfl) hf
set_option maxHeartbeats 4000000 in
set_option maxRecDepth 100000 in
theorem wm_common_0 {p : Program} {l : Launch} {e : Env} {s : State} {m : MethodId} {args : Array Value} {below : List Frame} {meth : Method} {c : Code} (C0 : gC cX4_common 5 (some .int) wsX4_common RX4 p s m args meth c) {rs : Int32} : ∀ (x0 : Int32) (x1 : Int32) (ls : Array Slot), lv_has ls 5 [(0, .int x0), (1, .int x1)] → fm_common x0 x1 = some rs → W p l e { frames := 0, cells := 0, slots := 0, locals := 0 } s m args below meth c s.heap [] 0 0 (MQ below (qS rs) args s 0 0 (fun _ => False)) (F0 m 0 ls []) := by
  obtain ⟨hx, hb, hr, hml, hown, hts, hlk⟩ := id C0
  intro x0 x1 ls hl hf
  unfold fm_common at hf
  refine lv_iload_n hx hb dX4_common_0 rfl (lv_at hl 0 rfl) ?_
  refine lv_if_ge (tgt := 9) hx hb dX4_common_1 (by decide) (fun c1 => ?_) (fun c1 => ?_)
  · replace hf := if_t hf c1
    refine lv_iload_n hx hb dX4_common_9 rfl (lv_at hl 0 rfl) ?_
    exact wm_common_10 C0 _ _ _ (lv_sub hl [1] rfl) hf
  · replace hf := if_f hf c1
    refine lv_iload_n hx hb dX4_common_4 rfl (lv_at hl 0 rfl) ?_
    refine lv_ineg hx hb dX4_common_5 ?_
    refine lv_goto (tgt := 10) hx hb dX4_common_6 (by decide) ?_
    exact wm_common_10 C0 _ _ _ (lv_sub hl [1] rfl) hf
set_option maxHeartbeats 4000000 in
set_option maxRecDepth 100000 in
theorem km_common (l : Launch) (x0 : Int32) (x1 : Int32) {rs : Int32} (hf : fm_common x0 x1 = some rs) : Met l yX4_common wsX4_common ({ frames := 0, cells := 0, slots := 0, locals := 0 }) (va_Pc [.int x0, .int x1] (fun _ => True)) (qS rs) 0 0 (fun _ => False) := by
  refine g_met (cc := cX4_common) (nL := 5) (ret := (some .int)) (by decide) rfl (Nat.le_of_ble_eq_true rfl) (fun p e s m below meth c ls C0 _ hl => ?_)
  exact wm_common_0 C0 _ _ ls (lv_sub hl [0, 1] rfl) hf
