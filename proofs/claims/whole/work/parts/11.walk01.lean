set_option maxRecDepth 20000 in
theorem ggX3_firstFault_X3_fits : GoodIn wsX3_firstFault wsX3_fits := goodIn_r _ [6, 7, 8, 5, 9] (by decide +kernel) (by decide +kernel)
set_option maxRecDepth 20000 in
theorem gX3_firstFault_X3_fits : GoodIn wsX3_firstFault (va_wsS RX3 232 yX3_fits wsX3_fits) := goodIn_app (goodIn_of _ (by decide +kernel)) ggX3_firstFault_X3_fits
theorem dX3_firstFault_0 : decode cX3_firstFault 0 = .ok (.iconst 0, 1) := by decide +kernel
theorem dX3_firstFault_1 : decode cX3_firstFault 1 = .ok (.istore_n 1, 1) := by decide +kernel
theorem dX3_firstFault_2 : decode cX3_firstFault 2 = .ok (.iload_n 1, 1) := by decide +kernel
theorem dX3_firstFault_3 : decode cX3_firstFault 3 = .ok (.aload_n 0, 1) := by decide +kernel
theorem dX3_firstFault_4 : decode cX3_firstFault 4 = .ok (.getfield 58, 3) := by decide +kernel
theorem dX3_firstFault_7 : decode cX3_firstFault 7 = .ok (.if_icmp .ge 33, 3) := by decide +kernel
theorem dX3_firstFault_10 : decode cX3_firstFault 10 = .ok (.iload_n 1, 1) := by decide +kernel
theorem dX3_firstFault_11 : decode cX3_firstFault 11 = .ok (.aload_n 0, 1) := by decide +kernel
theorem dX3_firstFault_12 : decode cX3_firstFault 12 = .ok (.getfield 9, 3) := by decide +kernel
theorem dX3_firstFault_15 : decode cX3_firstFault 15 = .ok (.arraylength, 1) := by decide +kernel
theorem dX3_firstFault_16 : decode cX3_firstFault 16 = .ok (.if_icmp .ge 24, 3) := by decide +kernel
theorem dX3_firstFault_19 : decode cX3_firstFault 19 = .ok (.iload_n 1, 1) := by decide +kernel
theorem dX3_firstFault_20 : decode cX3_firstFault 20 = .ok (.aload_n 0, 1) := by decide +kernel
theorem dX3_firstFault_21 : decode cX3_firstFault 21 = .ok (.getfield 9, 3) := by decide +kernel
theorem dX3_firstFault_24 : decode cX3_firstFault 24 = .ok (.iload_n 1, 1) := by decide +kernel
theorem dX3_firstFault_25 : decode cX3_firstFault 25 = .ok (.caload, 1) := by decide +kernel
theorem dX3_firstFault_26 : decode cX3_firstFault 26 = .ok (.invokestatic 232, 3) := by decide +kernel
theorem dX3_firstFault_29 : decode cX3_firstFault 29 = .ok (.ifCond .ne 5, 3) := by decide +kernel
theorem dX3_firstFault_32 : decode cX3_firstFault 32 = .ok (.iload_n 1, 1) := by decide +kernel
theorem dX3_firstFault_33 : decode cX3_firstFault 33 = .ok (.ireturn, 1) := by decide +kernel
theorem dX3_firstFault_34 : decode cX3_firstFault 34 = .ok (.iinc 1 1, 3) := by decide +kernel
theorem dX3_firstFault_37 : decode cX3_firstFault 37 = .ok (.goto (-35), 3) := by decide +kernel
theorem dX3_firstFault_40 : decode cX3_firstFault 40 = .ok (.aload_n 0, 1) := by decide +kernel
theorem dX3_firstFault_41 : decode cX3_firstFault 41 = .ok (.getfield 58, 3) := by decide +kernel
theorem dX3_firstFault_44 : decode cX3_firstFault 44 = .ok (.iconst 2, 1) := by decide +kernel
theorem dX3_firstFault_45 : decode cX3_firstFault 45 = .ok (.if_icmp .lt 18, 3) := by decide +kernel
theorem dX3_firstFault_48 : decode cX3_firstFault 48 = .ok (.aload_n 0, 1) := by decide +kernel
theorem dX3_firstFault_49 : decode cX3_firstFault 49 = .ok (.getfield 58, 3) := by decide +kernel
theorem dX3_firstFault_52 : decode cX3_firstFault 52 = .ok (.iconst 2, 1) := by decide +kernel
theorem dX3_firstFault_53 : decode cX3_firstFault 53 = .ok (.isub, 1) := by decide +kernel
theorem dX3_firstFault_54 : decode cX3_firstFault 54 = .ok (.iconst 5, 1) := by decide +kernel
theorem dX3_firstFault_55 : decode cX3_firstFault 55 = .ok (.irem, 1) := by decide +kernel
theorem dX3_firstFault_56 : decode cX3_firstFault 56 = .ok (.ifCond .ne 7, 3) := by decide +kernel
theorem dX3_firstFault_59 : decode cX3_firstFault 59 = .ok (.iconst 1, 1) := by decide +kernel
theorem dX3_firstFault_60 : decode cX3_firstFault 60 = .ok (.goto 4, 3) := by decide +kernel
theorem dX3_firstFault_63 : decode cX3_firstFault 63 = .ok (.iconst 0, 1) := by decide +kernel
theorem dX3_firstFault_64 : decode cX3_firstFault 64 = .ok (.istore_n 1, 1) := by decide +kernel
theorem dX3_firstFault_65 : decode cX3_firstFault 65 = .ok (.iload_n 1, 1) := by decide +kernel
theorem dX3_firstFault_66 : decode cX3_firstFault 66 = .ok (.ifCond .eq 8, 3) := by decide +kernel
theorem dX3_firstFault_69 : decode cX3_firstFault 69 = .ok (.bipush (-9), 2) := by decide +kernel
theorem dX3_firstFault_71 : decode cX3_firstFault 71 = .ok (.goto 7, 3) := by decide +kernel
theorem dX3_firstFault_74 : decode cX3_firstFault 74 = .ok (.aload_n 0, 1) := by decide +kernel
theorem dX3_firstFault_75 : decode cX3_firstFault 75 = .ok (.getfield 58, 3) := by decide +kernel
theorem dX3_firstFault_78 : decode cX3_firstFault 78 = .ok (.ireturn, 1) := by decide +kernel
set_option maxRecDepth 20000 in
theorem hiX3_firstFault_X3 : ∀ w ∈ u_ws RX3 TX3 18, w ∈ wsX3_firstFault := by decide +kernel
set_option maxHeartbeats 4000000 in
set_option maxRecDepth 100000 in
theorem wx_firstFault_64 {p : Program} {l : Launch} {e : Env} {s : State} {m : MethodId} {args : Array Value} {below : List Frame} {meth : Method} {c : Code} {D : va_G} {L : Nat → Nat} {K : Nat → ClassId} {t0 : Nat} (hJ : gj L 81) (C0 : gC cX3_firstFault 2 (some .int) wsX3_firstFault RX3 p s m args meth c) (hK : va_K D vwCl (tyG K) s) (hE : eX L t0 s) {w9 : St} {rs : Int32} : ∀ (s0 : Int32) (w : St) (H : Heap) (locs : List Loc) (ls : Array Slot), va_P D vwCl (gl L 81 (cX L K w)) H → va_S (gA L 81) s.heap H locs → lv_has ls 2 [(0, .ref (L 0))] → fx_firstFault_64 s0 w = some (rs, w9) → W p l e { frames := 2, cells := 0, slots := 0, locals := 42 } s m args below meth c H locs 0 0 (MQ below (qI D L 81 (cX L K) rs w9) args s 0 0 (gA L 81)) (F0 m 64 ls [.int s0]) := by
  obtain ⟨hx, hb, hr, hml, hown, hts, hlk⟩ := id C0
  intro s0 w H locs ls hw hS hl hf
  unfold fx_firstFault_64 at hf
  refine lv_istore_n (lv' := [(1, .int s0), (0, .ref (L 0))]) hx hb dX3_firstFault_64 rfl hl (by decide) rfl (fun ls hl => ?_)
  refine lv_iload_n hx hb dX3_firstFault_65 rfl (lv_at hl 0 rfl) ?_
  refine lv_if_eq (tgt := 74) hx hb dX3_firstFault_66 (by decide) (fun c66 => ?_) (fun c66 => ?_)
  · replace hf := if_t hf c66
    refine lv_aload_n hx hb dX3_firstFault_74 rfl (lv_at hl 1 rfl) ?_
    refine z_get (v := .int (w.1 0 1)) hx hb hts hiX3_firstFault_X3 hown hK hw (k := 0) kc_0.2 ((cX_a0 kc_0.1) _) rfl 1 (by decide) (hts (.fieldLink RX3 58 "OneSentence" "letters" "I") (by decide +kernel)) rfl dX3_firstFault_75 ?_
    exact z_iret hx hb hr hlk hw hS hf dX3_firstFault_78
  · replace hf := if_f hf c66
    refine lv_bipush (v := (-9)) hx hb dX3_firstFault_69 (by decide) ?_
    refine lv_goto (tgt := 78) hx hb dX3_firstFault_71 (by decide) ?_
    exact z_iret hx hb hr hlk hw hS hf dX3_firstFault_78
set_option maxHeartbeats 4000000 in
set_option maxRecDepth 100000 in
theorem wx_firstFault_63 {p : Program} {l : Launch} {e : Env} {s : State} {m : MethodId} {args : Array Value} {below : List Frame} {meth : Method} {c : Code} {D : va_G} {L : Nat → Nat} {K : Nat → ClassId} {t0 : Nat} (hJ : gj L 81) (C0 : gC cX3_firstFault 2 (some .int) wsX3_firstFault RX3 p s m args meth c) (hK : va_K D vwCl (tyG K) s) (hE : eX L t0 s) {w9 : St} {rs : Int32} : ∀ (w : St) (H : Heap) (locs : List Loc) (ls : Array Slot), va_P D vwCl (gl L 81 (cX L K w)) H → va_S (gA L 81) s.heap H locs → lv_has ls 2 [(0, .ref (L 0))] → fx_firstFault_63 w = some (rs, w9) → W p l e { frames := 2, cells := 0, slots := 0, locals := 42 } s m args below meth c H locs 0 0 (MQ below (qI D L 81 (cX L K) rs w9) args s 0 0 (gA L 81)) (F0 m 63 ls []) := by
  obtain ⟨hx, hb, hr, hml, hown, hts, hlk⟩ := id C0
  intro w H locs ls hw hS hl hf
  unfold fx_firstFault_63 at hf
  refine lv_iconst (v := 0) hx hb dX3_firstFault_63 (by decide) ?_
  exact wx_firstFault_64 hJ C0 hK hE _ _ _ _ _ hw hS (lv_sub hl [0] rfl) hf
set_option maxHeartbeats 4000000 in
set_option maxRecDepth 100000 in
theorem wx_firstFault_40 {p : Program} {l : Launch} {e : Env} {s : State} {m : MethodId} {args : Array Value} {below : List Frame} {meth : Method} {c : Code} {D : va_G} {L : Nat → Nat} {K : Nat → ClassId} {t0 : Nat} (hJ : gj L 81) (C0 : gC cX3_firstFault 2 (some .int) wsX3_firstFault RX3 p s m args meth c) (hK : va_K D vwCl (tyG K) s) (hE : eX L t0 s) {w9 : St} {rs : Int32} : ∀ (w : St) (H : Heap) (locs : List Loc) (ls : Array Slot), va_P D vwCl (gl L 81 (cX L K w)) H → va_S (gA L 81) s.heap H locs → lv_has ls 2 [(0, .ref (L 0))] → fx_firstFault_40 w = some (rs, w9) → W p l e { frames := 2, cells := 0, slots := 0, locals := 42 } s m args below meth c H locs 0 0 (MQ below (qI D L 81 (cX L K) rs w9) args s 0 0 (gA L 81)) (F0 m 40 ls []) := by
  obtain ⟨hx, hb, hr, hml, hown, hts, hlk⟩ := id C0
  intro w H locs ls hw hS hl hf
  unfold fx_firstFault_40 at hf
  refine lv_aload_n hx hb dX3_firstFault_40 rfl (lv_at hl 0 rfl) ?_
  refine z_get (v := .int (w.1 0 1)) hx hb hts hiX3_firstFault_X3 hown hK hw (k := 0) kc_0.2 ((cX_a0 kc_0.1) _) rfl 1 (by decide) (hts (.fieldLink RX3 58 "OneSentence" "letters" "I") (by decide +kernel)) rfl dX3_firstFault_41 ?_
  refine lv_iconst (v := 2) hx hb dX3_firstFault_44 (by decide) ?_
  refine lv_icmp_lt (tgt := 63) hx hb dX3_firstFault_45 (by decide) (fun c45 => ?_) (fun c45 => ?_)
  · replace hf := if_t hf c45
    exact wx_firstFault_63 hJ C0 hK hE _ _ _ _ hw hS (lv_sub hl [0] rfl) hf
  · replace hf := if_f hf c45
    refine lv_aload_n hx hb dX3_firstFault_48 rfl (lv_at hl 0 rfl) ?_
    refine z_get (v := .int (w.1 0 1)) hx hb hts hiX3_firstFault_X3 hown hK hw (k := 0) kc_0.2 ((cX_a0 kc_0.1) _) rfl 1 (by decide) (hts (.fieldLink RX3 58 "OneSentence" "letters" "I") (by decide +kernel)) rfl dX3_firstFault_49 ?_
    refine lv_iconst (v := 2) hx hb dX3_firstFault_52 (by decide) ?_
    refine lv_isub hx hb dX3_firstFault_53 ?_
    refine lv_iconst (v := 5) hx hb dX3_firstFault_54 (by decide) ?_
    refine lv_irem hx hb dX3_firstFault_55 (by decide) ?_
    refine lv_if_ne (tgt := 63) hx hb dX3_firstFault_56 (by decide) (fun c56 => ?_) (fun c56 => ?_)
    · replace hf := if_f hf c56
      exact wx_firstFault_63 hJ C0 hK hE _ _ _ _ hw hS (lv_sub hl [0] rfl) hf
    · replace hf := if_t hf c56
      refine lv_iconst (v := 1) hx hb dX3_firstFault_59 (by decide) ?_
      refine lv_goto (tgt := 64) hx hb dX3_firstFault_60 (by decide) ?_
      exact wx_firstFault_64 hJ C0 hK hE _ _ _ _ _ hw hS (lv_sub hl [0] rfl) hf
set_option maxHeartbeats 4000000 in
set_option maxRecDepth 100000 in
theorem wx_firstFault_2 {p : Program} {l : Launch} {e : Env} {s : State} {m : MethodId} {args : Array Value} {below : List Frame} {meth : Method} {c : Code} {D : va_G} {L : Nat → Nat} {K : Nat → ClassId} {t0 : Nat} (hJ : gj L 81) (C0 : gC cX3_firstFault 2 (some .int) wsX3_firstFault RX3 p s m args meth c) (hK : va_K D vwCl (tyG K) s) (hE : eX L t0 s) {w9 : St} {rs : Int32} : ∀ (fu : Nat) (x1 : Int32) (w : St) (H : Heap) (locs : List Loc) (ls : Array Slot), va_P D vwCl (gl L 81 (cX L K w)) H → va_S (gA L 81) s.heap H locs → lv_has ls 2 [(0, .ref (L 0)), (1, .int x1)] → fx_firstFault_2 fu x1 w = some (rs, w9) → W p l e { frames := 2, cells := 0, slots := 0, locals := 42 } s m args below meth c H locs 0 0 (MQ below (qI D L 81 (cX L K) rs w9) args s 0 0 (gA L 81)) (F0 m 2 ls []) := by
  obtain ⟨hx, hb, hr, hml, hown, hts, hlk⟩ := id C0
  intro fu
  induction fu with
  | zero =>
    intro x1 w H locs ls hw hS hl hf
    rw [fx_firstFault_2] at hf
    exact no_n hf
  | succ fu ih =>
    intro x1 w H locs ls hw hS hl hf
    rw [fx_firstFault_2] at hf
    refine lv_iload_n hx hb dX3_firstFault_2 rfl (lv_at hl 1 rfl) ?_
    refine lv_aload_n hx hb dX3_firstFault_3 rfl (lv_at hl 0 rfl) ?_
    refine z_get (v := .int (w.1 0 1)) hx hb hts hiX3_firstFault_X3 hown hK hw (k := 0) kc_0.2 ((cX_a0 kc_0.1) _) rfl 1 (by decide) (hts (.fieldLink RX3 58 "OneSentence" "letters" "I") (by decide +kernel)) rfl dX3_firstFault_4 ?_
    refine lv_icmp_ge (tgt := 40) hx hb dX3_firstFault_7 (by decide) (fun c7 => ?_) (fun c7 => ?_)
    · replace hf := if_t hf c7
      exact wx_firstFault_40 hJ C0 hK hE _ _ _ _ hw hS (lv_sub hl [0] rfl) hf
    · replace hf := if_f hf c7
      refine lv_iload_n hx hb dX3_firstFault_10 rfl (lv_at hl 1 rfl) ?_
      refine lv_aload_n hx hb dX3_firstFault_11 rfl (lv_at hl 0 rfl) ?_
      refine z_get (v := .ref (L 1)) hx hb hts hiX3_firstFault_X3 hown hK hw (k := 0) kc_0.2 ((cX_a0 kc_0.1) _) rfl 0 (by decide) (hts (.fieldLink RX3 9 "OneSentence" "text" "[C") (by decide +kernel)) rfl dX3_firstFault_12 ?_
      refine z_alen (v := 40) hx hb hK hw 1 (k := 1) kc_1.2 ((cX_a6 kc_1.1) _) rfl rfl dX3_firstFault_15 ?_
      refine lv_icmp_ge (tgt := 40) hx hb dX3_firstFault_16 (by decide) (fun c16 => ?_) (fun c16 => ?_)
      · replace hf := if_t hf c16
        exact wx_firstFault_40 hJ C0 hK hE _ _ _ _ hw hS (lv_sub hl [0] rfl) hf
      · replace hf := if_f hf c16
        refine lv_iload_n hx hb dX3_firstFault_19 rfl (lv_at hl 1 rfl) ?_
        refine lv_aload_n hx hb dX3_firstFault_20 rfl (lv_at hl 0 rfl) ?_
        refine z_get (v := .ref (L 1)) hx hb hts hiX3_firstFault_X3 hown hK hw (k := 0) kc_0.2 ((cX_a0 kc_0.1) _) rfl 0 (by decide) (hts (.fieldLink RX3 9 "OneSentence" "text" "[C") (by decide +kernel)) rfl dX3_firstFault_21 ?_
        refine lv_iload_n hx hb dX3_firstFault_24 rfl (lv_at hl 1 rfl) ?_
        obtain ⟨v25, h25, hf⟩ := bd_e hf
        refine z_cald hx hb hK hw 1 (k := 1) kc_1.2 ((cX_a6 kc_1.1) _) rfl h25 dX3_firstFault_25 ?_
        obtain ⟨v26, h26, hf⟩ := bd_e hf
        refine z_calls (va_runS (As := [.int x1, .int v25]) (rest := []) ⟨hx, hb, hml, hown, hts⟩ (kx_fits l x1 v25 h26) (va_cwS 2 hts gX3_firstFault_X3_fits rfl rfl rfl (by decide +kernel) ⟨Nat.le_of_ble_eq_true rfl, Nat.le_of_ble_eq_true rfl⟩) z_preT rfl rfl hl.1 rfl (lv_room (Nat.le_of_ble_eq_true rfl)) dX3_firstFault_26 ⟨Nat.le_of_ble_eq_true rfl, Nat.le_of_ble_eq_true rfl⟩) ?_
        refine lv_if_ne (tgt := 34) hx hb dX3_firstFault_29 (by decide) (fun c29 => ?_) (fun c29 => ?_)
        · replace hf := if_f hf c29
          refine lv_iinc (v := (x1 + 1)) (lv' := [(1, .int (x1 + 1)), (0, .ref (L 0))]) hx hb dX3_firstFault_34 hl (k := 1) rfl rfl (by decide) rfl (fun ls hl => ?_)
          refine lv_goto (tgt := 2) hx hb dX3_firstFault_37 (by decide) ?_
          exact ih _ _ _ _ _ hw hS (lv_sub hl [1, 0] rfl) hf
        · replace hf := if_t hf c29
          refine lv_iload_n hx hb dX3_firstFault_32 rfl (lv_at hl 1 rfl) ?_
          exact z_iret hx hb hr hlk hw hS hf dX3_firstFault_33
set_option maxHeartbeats 4000000 in
set_option maxRecDepth 100000 in
theorem wx_firstFault_0 {p : Program} {l : Launch} {e : Env} {s : State} {m : MethodId} {args : Array Value} {below : List Frame} {meth : Method} {c : Code} {D : va_G} {L : Nat → Nat} {K : Nat → ClassId} {t0 : Nat} (hJ : gj L 81) (C0 : gC cX3_firstFault 2 (some .int) wsX3_firstFault RX3 p s m args meth c) (hK : va_K D vwCl (tyG K) s) (hE : eX L t0 s) {w9 : St} {rs : Int32} : ∀ (w : St) (H : Heap) (locs : List Loc) (ls : Array Slot), va_P D vwCl (gl L 81 (cX L K w)) H → va_S (gA L 81) s.heap H locs → lv_has ls 2 [(0, .ref (L 0))] → fx_firstFault w = some (rs, w9) → W p l e { frames := 2, cells := 0, slots := 0, locals := 42 } s m args below meth c H locs 0 0 (MQ below (qI D L 81 (cX L K) rs w9) args s 0 0 (gA L 81)) (F0 m 0 ls []) := by
  obtain ⟨hx, hb, hr, hml, hown, hts, hlk⟩ := id C0
  intro w H locs ls hw hS hl hf
  unfold fx_firstFault at hf
  refine lv_iconst (v := 0) hx hb dX3_firstFault_0 (by decide) ?_
  refine lv_istore_n (lv' := [(1, .int 0), (0, .ref (L 0))]) hx hb dX3_firstFault_1 rfl hl (by decide) rfl (fun ls hl => ?_)
  exact wx_firstFault_2 hJ C0 hK hE _ _ _ _ _ _ hw hS (lv_sub hl [1, 0] rfl) hf
set_option maxHeartbeats 4000000 in
set_option maxRecDepth 100000 in
theorem kx_firstFault (l : Launch) {D : va_G} {L : Nat → Nat} {K : Nat → ClassId} {t0 : Nat} (hJ : gj L 81) (w : St) {w9 : St} {rs : Int32} (hf : fx_firstFault w = some (rs, w9)) : Met l yX3_firstFault wsX3_firstFault ({ frames := 2, cells := 0, slots := 0, locals := 42 }) (va_Pc [.ref (L 0)] (xP D L K t0 w)) (qI D L 81 (cX L K) rs w9) 0 0 (gA L 81) := by
  refine g_met (cc := cX3_firstFault) (nL := 2) (ret := (some .int)) (by decide) rfl (Nat.le_of_ble_eq_true rfl) (fun p e s m below meth c ls C0 hP hl => ?_)
  exact wx_firstFault_0 hJ C0 hP.2.1 hP.2.2 w _ _ ls hP.1 va_S.rf (lv_sub hl [0] rfl) hf
set_option maxRecDepth 20000 in
theorem ggX3_fault_X3_firstFault : GoodIn wsX3_fault wsX3_firstFault := goodIn_r _ [5, 6, 7, 8, 9, 4, 10, 11, 12, 13, 14, 15, 16, 17, 18, 19, 20, 21, 22, 23, 24, 25, 26, 27, 28, 29, 30, 31] (by decide +kernel) (by decide +kernel)
set_option maxRecDepth 20000 in
theorem gX3_fault_X3_firstFault : GoodIn wsX3_fault (wsV RX3 62 RX3 yX3_firstFault wsX3_firstFault) := goodIn_app (goodIn_of _ (by decide +kernel)) ggX3_fault_X3_firstFault
theorem dX3_fault_0 : decode cX3_fault 0 = .ok (.aload_n 0, 1) := by decide +kernel
theorem dX3_fault_1 : decode cX3_fault 1 = .ok (.invokevirtual 62, 3) := by decide +kernel
theorem dX3_fault_4 : decode cX3_fault 4 = .ok (.ireturn, 1) := by decide +kernel
set_option maxHeartbeats 4000000 in
set_option maxRecDepth 100000 in
theorem wx_fault_0 {p : Program} {l : Launch} {e : Env} {s : State} {m : MethodId} {args : Array Value} {below : List Frame} {meth : Method} {c : Code} {D : va_G} {L : Nat → Nat} {K : Nat → ClassId} {t0 : Nat} (hJ : gj L 81) (C0 : gC cX3_fault 1 (some .int) wsX3_fault RX3 p s m args meth c) (hK : va_K D vwCl (tyG K) s) (hE : eX L t0 s) {w9 : St} {rs : Int32} : ∀ (w : St) (H : Heap) (locs : List Loc) (ls : Array Slot), va_P D vwCl (gl L 81 (cX L K w)) H → va_S (gA L 81) s.heap H locs → lv_has ls 1 [(0, .ref (L 0))] → fx_fault w = some (rs, w9) → W p l e { frames := 3, cells := 0, slots := 0, locals := 63 } s m args below meth c H locs 0 0 (MQ below (qI D L 81 (cX L K) rs w9) args s 0 0 (gA L 81)) (F0 m 0 ls []) := by
  obtain ⟨hx, hb, hr, hml, hown, hts, hlk⟩ := id C0
  intro w H locs ls hw hS hl hf
  unfold fx_fault at hf
  refine lv_aload_n hx hb dX3_fault_0 rfl (lv_at hl 0 rfl) ?_
  obtain ⟨q1, h1, hf⟩ := bd_e hf
  refine z_calli (va_runV (As := []) (rest := []) ⟨hx, hb, hml, hown, hts⟩ (kx_firstFault l (D := D) (K := K) (t0 := t0) hJ w  h1) (cwV 0 hts gX3_fault_X3_firstFault rfl rfl rfl (by decide +kernel) ⟨Nat.le_of_ble_eq_true rfl, Nat.le_of_ble_eq_true rfl⟩) (z_preV eX_ok hK hE hw hS kc_0.2 ((cX_a0 kc_0.1) _) (T := TX3) (M := 18) rfl) rfl rfl hl.1 rfl (lv_room (Nat.le_of_ble_eq_true rfl)) dX3_fault_1 ⟨Nat.le_of_ble_eq_true rfl, Nat.le_of_ble_eq_true rfl⟩) hS (fun H locs hw hS => ?_)
  exact z_iret hx hb hr hlk hw hS hf dX3_fault_4
set_option maxHeartbeats 4000000 in
set_option maxRecDepth 100000 in
theorem kx_fault (l : Launch) {D : va_G} {L : Nat → Nat} {K : Nat → ClassId} {t0 : Nat} (hJ : gj L 81) (w : St) {w9 : St} {rs : Int32} (hf : fx_fault w = some (rs, w9)) : Met l yX3_fault wsX3_fault ({ frames := 3, cells := 0, slots := 0, locals := 63 }) (va_Pc [.ref (L 0)] (xP D L K t0 w)) (qI D L 81 (cX L K) rs w9) 0 0 (gA L 81) := by
  refine g_met (cc := cX3_fault) (nL := 1) (ret := (some .int)) (by decide) rfl (Nat.le_of_ble_eq_true rfl) (fun p e s m below meth c ls C0 hP hl => ?_)
  exact wx_fault_0 hJ C0 hP.2.1 hP.2.2 w _ _ ls hP.1 va_S.rf (lv_sub hl [0] rfl) hf
theorem dX3_figureIn_0 : decode cX3_figureIn 0 = .ok (.iload_n 1, 1) := by decide +kernel
theorem dX3_figureIn_1 : decode cX3_figureIn 1 = .ok (.ifCond .lt 24, 3) := by decide +kernel
theorem dX3_figureIn_4 : decode cX3_figureIn 4 = .ok (.iload_n 1, 1) := by decide +kernel
theorem dX3_figureIn_5 : decode cX3_figureIn 5 = .ok (.aload_n 0, 1) := by decide +kernel
theorem dX3_figureIn_6 : decode cX3_figureIn 6 = .ok (.getfield 9, 3) := by decide +kernel
theorem dX3_figureIn_9 : decode cX3_figureIn 9 = .ok (.arraylength, 1) := by decide +kernel
theorem dX3_figureIn_10 : decode cX3_figureIn 10 = .ok (.if_icmp .ge 15, 3) := by decide +kernel
theorem dX3_figureIn_13 : decode cX3_figureIn 13 = .ok (.aload_n 0, 1) := by decide +kernel
theorem dX3_figureIn_14 : decode cX3_figureIn 14 = .ok (.getfield 9, 3) := by decide +kernel
theorem dX3_figureIn_17 : decode cX3_figureIn 17 = .ok (.iload_n 1, 1) := by decide +kernel
theorem dX3_figureIn_18 : decode cX3_figureIn 18 = .ok (.caload, 1) := by decide +kernel
theorem dX3_figureIn_19 : decode cX3_figureIn 19 = .ok (.bipush 48, 2) := by decide +kernel
theorem dX3_figureIn_21 : decode cX3_figureIn 21 = .ok (.isub, 1) := by decide +kernel
theorem dX3_figureIn_22 : decode cX3_figureIn 22 = .ok (.goto 4, 3) := by decide +kernel
theorem dX3_figureIn_25 : decode cX3_figureIn 25 = .ok (.iconst 0, 1) := by decide +kernel
theorem dX3_figureIn_26 : decode cX3_figureIn 26 = .ok (.ireturn, 1) := by decide +kernel
set_option maxRecDepth 20000 in
theorem hiX3_figureIn_X3 : ∀ w ∈ u_ws RX3 TX3 18, w ∈ wsX3_figureIn := by decide +kernel
set_option maxHeartbeats 4000000 in
set_option maxRecDepth 100000 in
theorem wx_figureIn_0 {p : Program} {l : Launch} {e : Env} {s : State} {m : MethodId} {args : Array Value} {below : List Frame} {meth : Method} {c : Code} {D : va_G} {L : Nat → Nat} {K : Nat → ClassId} {t0 : Nat} (hJ : gj L 81) (C0 : gC cX3_figureIn 2 (some .int) wsX3_figureIn RX3 p s m args meth c) (hK : va_K D vwCl (tyG K) s) (hE : eX L t0 s) {w9 : St} {rs : Int32} : ∀ (x1 : Int32) (w : St) (H : Heap) (locs : List Loc) (ls : Array Slot), va_P D vwCl (gl L 81 (cX L K w)) H → va_S (gA L 81) s.heap H locs → lv_has ls 2 [(0, .ref (L 0)), (1, .int x1)] → fx_figureIn x1 w = some (rs, w9) → W p l e { frames := 0, cells := 0, slots := 0, locals := 0 } s m args below meth c H locs 0 0 (MQ below (qI D L 81 (cX L K) rs w9) args s 0 0 (gA L 81)) (F0 m 0 ls []) := by
  obtain ⟨hx, hb, hr, hml, hown, hts, hlk⟩ := id C0
  intro x1 w H locs ls hw hS hl hf
  unfold fx_figureIn at hf
  refine lv_iload_n hx hb dX3_figureIn_0 rfl (lv_at hl 1 rfl) ?_
  refine lv_if_lt (tgt := 25) hx hb dX3_figureIn_1 (by decide) (fun c1 => ?_) (fun c1 => ?_)
  · replace hf := if_t hf c1
    refine lv_iconst (v := 0) hx hb dX3_figureIn_25 (by decide) ?_
    exact z_iret hx hb hr hlk hw hS hf dX3_figureIn_26
  · replace hf := if_f hf c1
    refine lv_iload_n hx hb dX3_figureIn_4 rfl (lv_at hl 1 rfl) ?_
    refine lv_aload_n hx hb dX3_figureIn_5 rfl (lv_at hl 0 rfl) ?_
    refine z_get (v := .ref (L 1)) hx hb hts hiX3_figureIn_X3 hown hK hw (k := 0) kc_0.2 ((cX_a0 kc_0.1) _) rfl 0 (by decide) (hts (.fieldLink RX3 9 "OneSentence" "text" "[C") (by decide +kernel)) rfl dX3_figureIn_6 ?_
    refine z_alen (v := 40) hx hb hK hw 1 (k := 1) kc_1.2 ((cX_a6 kc_1.1) _) rfl rfl dX3_figureIn_9 ?_
    refine lv_icmp_ge (tgt := 25) hx hb dX3_figureIn_10 (by decide) (fun c10 => ?_) (fun c10 => ?_)
    · replace hf := if_t hf c10
      refine lv_iconst (v := 0) hx hb dX3_figureIn_25 (by decide) ?_
      exact z_iret hx hb hr hlk hw hS hf dX3_figureIn_26
    · replace hf := if_f hf c10
      refine lv_aload_n hx hb dX3_figureIn_13 rfl (lv_at hl 0 rfl) ?_
      refine z_get (v := .ref (L 1)) hx hb hts hiX3_figureIn_X3 hown hK hw (k := 0) kc_0.2 ((cX_a0 kc_0.1) _) rfl 0 (by decide) (hts (.fieldLink RX3 9 "OneSentence" "text" "[C") (by decide +kernel)) rfl dX3_figureIn_14 ?_
      refine lv_iload_n hx hb dX3_figureIn_17 rfl (lv_at hl 1 rfl) ?_
      obtain ⟨v18, h18, hf⟩ := bd_e hf
      refine z_cald hx hb hK hw 1 (k := 1) kc_1.2 ((cX_a6 kc_1.1) _) rfl h18 dX3_figureIn_18 ?_
      refine lv_bipush (v := 48) hx hb dX3_figureIn_19 (by decide) ?_
      refine lv_isub hx hb dX3_figureIn_21 ?_
      refine lv_goto (tgt := 26) hx hb dX3_figureIn_22 (by decide) ?_
      exact z_iret hx hb hr hlk hw hS hf dX3_figureIn_26
set_option maxHeartbeats 4000000 in
set_option maxRecDepth 100000 in
theorem kx_figureIn (l : Launch) {D : va_G} {L : Nat → Nat} {K : Nat → ClassId} {t0 : Nat} (hJ : gj L 81) (x1 : Int32) (w : St) {w9 : St} {rs : Int32} (hf : fx_figureIn x1 w = some (rs, w9)) : Met l yX3_figureIn wsX3_figureIn ({ frames := 0, cells := 0, slots := 0, locals := 0 }) (va_Pc [.ref (L 0), .int x1] (xP D L K t0 w)) (qI D L 81 (cX L K) rs w9) 0 0 (gA L 81) := by
  refine g_met (cc := cX3_figureIn) (nL := 2) (ret := (some .int)) (by decide) rfl (Nat.le_of_ble_eq_true rfl) (fun p e s m below meth c ls C0 hP hl => ?_)
  exact wx_figureIn_0 hJ C0 hP.2.1 hP.2.2 _ w _ _ ls hP.1 va_S.rf (lv_sub hl [0, 1] rfl) hf
set_option maxRecDepth 20000 in
theorem ggX3_settle_X3_figureIn : GoodIn wsX3_settle wsX3_figureIn := goodIn_r _ [9, 10, 11, 12, 13, 14, 15, 16, 17, 18, 19, 20, 21, 22, 23, 24, 25, 26, 27, 28] (by decide +kernel) (by decide +kernel)
set_option maxRecDepth 20000 in
theorem gX3_settle_X3_figureIn : GoodIn wsX3_settle (wsV RX3 66 RX3 yX3_figureIn wsX3_figureIn) := goodIn_app (goodIn_of _ (by decide +kernel)) ggX3_settle_X3_figureIn
theorem dX3_settle_0 : decode cX3_settle 0 = .ok (.iload_n 1, 1) := by decide +kernel
theorem dX3_settle_1 : decode cX3_settle 1 = .ok (.ifCond .lt 9, 3) := by decide +kernel
theorem dX3_settle_4 : decode cX3_settle 4 = .ok (.iload_n 1, 1) := by decide +kernel
theorem dX3_settle_5 : decode cX3_settle 5 = .ok (.bipush 6, 2) := by decide +kernel
theorem dX3_settle_7 : decode cX3_settle 7 = .ok (.if_icmp .lt 4, 3) := by decide +kernel
theorem dX3_settle_10 : decode cX3_settle 10 = .ok (.return_, 1) := by decide +kernel
theorem dX3_settle_11 : decode cX3_settle 11 = .ok (.aload_n 0, 1) := by decide +kernel
theorem dX3_settle_12 : decode cX3_settle 12 = .ok (.getfield 13, 3) := by decide +kernel
theorem dX3_settle_15 : decode cX3_settle 15 = .ok (.iload_n 1, 1) := by decide +kernel
theorem dX3_settle_16 : decode cX3_settle 16 = .ok (.aload_n 0, 1) := by decide +kernel
theorem dX3_settle_17 : decode cX3_settle 17 = .ok (.iload_n 2, 1) := by decide +kernel
theorem dX3_settle_18 : decode cX3_settle 18 = .ok (.iconst 1, 1) := by decide +kernel
theorem dX3_settle_19 : decode cX3_settle 19 = .ok (.iadd, 1) := by decide +kernel
theorem dX3_settle_20 : decode cX3_settle 20 = .ok (.invokevirtual 66, 3) := by decide +kernel
theorem dX3_settle_23 : decode cX3_settle 23 = .ok (.iastore, 1) := by decide +kernel
theorem dX3_settle_24 : decode cX3_settle 24 = .ok (.aload_n 0, 1) := by decide +kernel
theorem dX3_settle_25 : decode cX3_settle 25 = .ok (.getfield 23, 3) := by decide +kernel
theorem dX3_settle_28 : decode cX3_settle 28 = .ok (.getfield 90, 3) := by decide +kernel
theorem dX3_settle_31 : decode cX3_settle 31 = .ok (.iload_n 1, 1) := by decide +kernel
theorem dX3_settle_32 : decode cX3_settle 32 = .ok (.bipush 10, 2) := by decide +kernel
theorem dX3_settle_34 : decode cX3_settle 34 = .ok (.aload_n 0, 1) := by decide +kernel
theorem dX3_settle_35 : decode cX3_settle 35 = .ok (.iload_n 2, 1) := by decide +kernel
theorem dX3_settle_36 : decode cX3_settle 36 = .ok (.iconst 2, 1) := by decide +kernel
theorem dX3_settle_37 : decode cX3_settle 37 = .ok (.iadd, 1) := by decide +kernel
theorem dX3_settle_38 : decode cX3_settle 38 = .ok (.invokevirtual 66, 3) := by decide +kernel
theorem dX3_settle_41 : decode cX3_settle 41 = .ok (.imul, 1) := by decide +kernel
theorem dX3_settle_42 : decode cX3_settle 42 = .ok (.aload_n 0, 1) := by decide +kernel
theorem dX3_settle_43 : decode cX3_settle 43 = .ok (.iload_n 2, 1) := by decide +kernel
theorem dX3_settle_44 : decode cX3_settle 44 = .ok (.iconst 3, 1) := by decide +kernel
theorem dX3_settle_45 : decode cX3_settle 45 = .ok (.iadd, 1) := by decide +kernel
theorem dX3_settle_46 : decode cX3_settle 46 = .ok (.invokevirtual 66, 3) := by decide +kernel
theorem dX3_settle_49 : decode cX3_settle 49 = .ok (.iadd, 1) := by decide +kernel
theorem dX3_settle_50 : decode cX3_settle 50 = .ok (.iastore, 1) := by decide +kernel
theorem dX3_settle_51 : decode cX3_settle 51 = .ok (.aload_n 0, 1) := by decide +kernel
theorem dX3_settle_52 : decode cX3_settle 52 = .ok (.getfield 17, 3) := by decide +kernel
theorem dX3_settle_55 : decode cX3_settle 55 = .ok (.iload_n 1, 1) := by decide +kernel
theorem dX3_settle_56 : decode cX3_settle 56 = .ok (.aload_n 0, 1) := by decide +kernel
theorem dX3_settle_57 : decode cX3_settle 57 = .ok (.iload_n 2, 1) := by decide +kernel
theorem dX3_settle_58 : decode cX3_settle 58 = .ok (.iconst 4, 1) := by decide +kernel
theorem dX3_settle_59 : decode cX3_settle 59 = .ok (.iadd, 1) := by decide +kernel
theorem dX3_settle_60 : decode cX3_settle 60 = .ok (.invokevirtual 66, 3) := by decide +kernel
theorem dX3_settle_63 : decode cX3_settle 63 = .ok (.iastore, 1) := by decide +kernel
theorem dX3_settle_64 : decode cX3_settle 64 = .ok (.aload_n 0, 1) := by decide +kernel
theorem dX3_settle_65 : decode cX3_settle 65 = .ok (.getfield 13, 3) := by decide +kernel
theorem dX3_settle_68 : decode cX3_settle 68 = .ok (.iload_n 1, 1) := by decide +kernel
theorem dX3_settle_69 : decode cX3_settle 69 = .ok (.iaload, 1) := by decide +kernel
theorem dX3_settle_70 : decode cX3_settle 70 = .ok (.aload_n 0, 1) := by decide +kernel
theorem dX3_settle_71 : decode cX3_settle 71 = .ok (.getfield 70, 3) := by decide +kernel
theorem dX3_settle_74 : decode cX3_settle 74 = .ok (.if_icmp .ne 18, 3) := by decide +kernel
theorem dX3_settle_77 : decode cX3_settle 77 = .ok (.aload_n 0, 1) := by decide +kernel
theorem dX3_settle_78 : decode cX3_settle 78 = .ok (.getfield 23, 3) := by decide +kernel
theorem dX3_settle_81 : decode cX3_settle 81 = .ok (.dup, 1) := by decide +kernel
theorem dX3_settle_82 : decode cX3_settle 82 = .ok (.getfield 93, 3) := by decide +kernel
theorem dX3_settle_85 : decode cX3_settle 85 = .ok (.iconst 1, 1) := by decide +kernel
theorem dX3_settle_86 : decode cX3_settle 86 = .ok (.iload_n 1, 1) := by decide +kernel
theorem dX3_settle_87 : decode cX3_settle 87 = .ok (.ishl, 1) := by decide +kernel
theorem dX3_settle_88 : decode cX3_settle 88 = .ok (.ior, 1) := by decide +kernel
theorem dX3_settle_89 : decode cX3_settle 89 = .ok (.putfield 93, 3) := by decide +kernel
theorem dX3_settle_92 : decode cX3_settle 92 = .ok (.return_, 1) := by decide +kernel
set_option maxRecDepth 20000 in
theorem hiX3_settle_X0 : ∀ w ∈ u_ws RX0 TX0 4, w ∈ wsX3_settle := by decide +kernel
set_option maxRecDepth 20000 in
theorem hiX3_settle_X3 : ∀ w ∈ u_ws RX3 TX3 18, w ∈ wsX3_settle := by decide +kernel
set_option maxHeartbeats 4000000 in
set_option maxRecDepth 100000 in
theorem wx_settle_0 {p : Program} {l : Launch} {e : Env} {s : State} {m : MethodId} {args : Array Value} {below : List Frame} {meth : Method} {c : Code} {D : va_G} {L : Nat → Nat} {K : Nat → ClassId} {t0 : Nat} (hJ : gj L 81) (C0 : gC cX3_settle 3 none wsX3_settle RX3 p s m args meth c) (hK : va_K D vwCl (tyG K) s) (hE : eX L t0 s) {w9 : St} : ∀ (x1 : Int32) (x2 : Int32) (w : St) (H : Heap) (locs : List Loc) (ls : Array Slot), va_P D vwCl (gl L 81 (cX L K w)) H → va_S (gA L 81) s.heap H locs → lv_has ls 3 [(0, .ref (L 0)), (1, .int x1), (2, .int x2)] → fx_settle x1 x2 w = some w9 → W p l e { frames := 1, cells := 0, slots := 0, locals := 21 } s m args below meth c H locs 0 0 (MQ below (qV D L 81 (cX L K) w9) args s 0 0 (gA L 81)) (F0 m 0 ls []) := by
  obtain ⟨hx, hb, hr, hml, hown, hts, hlk⟩ := id C0
  intro x1 x2 w H locs ls hw hS hl hf
  unfold fx_settle at hf
  refine lv_iload_n hx hb dX3_settle_0 rfl (lv_at hl 1 rfl) ?_
  refine lv_if_lt (tgt := 10) hx hb dX3_settle_1 (by decide) (fun c1 => ?_) (fun c1 => ?_)
  · replace hf := if_t hf c1
    exact z_vret hx hb hr hlk hw hS hf dX3_settle_10
  · replace hf := if_f hf c1
    refine lv_iload_n hx hb dX3_settle_4 rfl (lv_at hl 1 rfl) ?_
    refine lv_bipush (v := 6) hx hb dX3_settle_5 (by decide) ?_
    refine lv_icmp_lt (tgt := 11) hx hb dX3_settle_7 (by decide) (fun c7 => ?_) (fun c7 => ?_)
    · replace hf := if_t hf c7
      refine lv_aload_n hx hb dX3_settle_11 rfl (lv_at hl 0 rfl) ?_
      refine z_get (v := .ref (L 2)) hx hb hts hiX3_settle_X3 hown hK hw (k := 0) kc_0.2 ((cX_a0 kc_0.1) _) rfl 4 (by decide) (hts (.fieldLink RX3 13 "OneSentence" "home" "[I") (by decide +kernel)) rfl dX3_settle_12 ?_
      refine lv_iload_n hx hb dX3_settle_15 rfl (lv_at hl 1 rfl) ?_
      refine lv_aload_n hx hb dX3_settle_16 rfl (lv_at hl 0 rfl) ?_
      refine lv_iload_n hx hb dX3_settle_17 rfl (lv_at hl 2 rfl) ?_
      refine lv_iconst (v := 1) hx hb dX3_settle_18 (by decide) ?_
      refine lv_iadd hx hb dX3_settle_19 ?_
      obtain ⟨q20, h20, hf⟩ := bd_e hf
      refine z_calli (va_runV (As := [.int (x2 + (1 : Int32))]) (rest := [.int x1, .ref (L 2)]) ⟨hx, hb, hml, hown, hts⟩ (kx_figureIn l (D := D) (K := K) (t0 := t0) hJ (x2 + (1 : Int32)) w  h20) (cwV 1 hts gX3_settle_X3_figureIn rfl rfl rfl (by decide +kernel) ⟨Nat.le_of_ble_eq_true rfl, Nat.le_of_ble_eq_true rfl⟩) (z_preV eX_ok hK hE hw hS kc_0.2 ((cX_a0 kc_0.1) _) (T := TX3) (M := 18) rfl) rfl rfl hl.1 rfl (lv_room (Nat.le_of_ble_eq_true rfl)) dX3_settle_20 ⟨Nat.le_of_ble_eq_true rfl, Nat.le_of_ble_eq_true rfl⟩) hS (fun H locs hw hS => ?_)
      obtain ⟨w23, h23, hf⟩ := bd_e hf
      refine z_iast hx hb hK hJ hw hS 0 (k := 2) kc_2.2 cX_ne (cX_a4 kc_2.1) rfl h23 dX3_settle_23 (fun H locs hw hS => ?_)
      refine lv_aload_n hx hb dX3_settle_24 rfl (lv_at hl 0 rfl) ?_
      refine z_get (v := .ref (L 13)) hx hb hts hiX3_settle_X3 hown hK hw (k := 0) kc_0.2 ((cX_a0 kc_0.1) _) rfl 6 (by decide) (hts (.fieldLink RX3 23 "OneSentence" "today" "LOneSentence$Day;") (by decide +kernel)) rfl dX3_settle_25 ?_
      refine z_getN (v := .ref (L 16)) hx hb hts hiX3_settle_X0 hown hK hw (k := 13) kc_13.2 ((cX_a2 kc_13.1) _) rfl 3 (by decide) (hE.1 (RX3, 90, "OneSentence$Day", "sentence", "[I", "OneSentence") (by decide)) rfl dX3_settle_28 ?_
      refine lv_iload_n hx hb dX3_settle_31 rfl (lv_at hl 1 rfl) ?_
      refine lv_bipush (v := 10) hx hb dX3_settle_32 (by decide) ?_
      refine lv_aload_n hx hb dX3_settle_34 rfl (lv_at hl 0 rfl) ?_
      refine lv_iload_n hx hb dX3_settle_35 rfl (lv_at hl 2 rfl) ?_
      refine lv_iconst (v := 2) hx hb dX3_settle_36 (by decide) ?_
      refine lv_iadd hx hb dX3_settle_37 ?_
      obtain ⟨q38, h38, hf⟩ := bd_e hf
      refine z_calli (va_runV (As := [.int (x2 + (2 : Int32))]) (rest := [.int 10, .int x1, .ref (L 16)]) ⟨hx, hb, hml, hown, hts⟩ (kx_figureIn l (D := D) (K := K) (t0 := t0) hJ (x2 + (2 : Int32)) w23  h38) (cwV 1 hts gX3_settle_X3_figureIn rfl rfl rfl (by decide +kernel) ⟨Nat.le_of_ble_eq_true rfl, Nat.le_of_ble_eq_true rfl⟩) (z_preV eX_ok hK hE hw hS kc_0.2 ((cX_a0 kc_0.1) _) (T := TX3) (M := 18) rfl) rfl rfl hl.1 rfl (lv_room (Nat.le_of_ble_eq_true rfl)) dX3_settle_38 ⟨Nat.le_of_ble_eq_true rfl, Nat.le_of_ble_eq_true rfl⟩) hS (fun H locs hw hS => ?_)
      refine lv_imul hx hb dX3_settle_41 ?_
      refine lv_aload_n hx hb dX3_settle_42 rfl (lv_at hl 0 rfl) ?_
      refine lv_iload_n hx hb dX3_settle_43 rfl (lv_at hl 2 rfl) ?_
      refine lv_iconst (v := 3) hx hb dX3_settle_44 (by decide) ?_
      refine lv_iadd hx hb dX3_settle_45 ?_
      obtain ⟨q46, h46, hf⟩ := bd_e hf
      refine z_calli (va_runV (As := [.int (x2 + (3 : Int32))]) (rest := [.int ((10 : Int32) * q38.1), .int x1, .ref (L 16)]) ⟨hx, hb, hml, hown, hts⟩ (kx_figureIn l (D := D) (K := K) (t0 := t0) hJ (x2 + (3 : Int32)) (q38.2)  h46) (cwV 1 hts gX3_settle_X3_figureIn rfl rfl rfl (by decide +kernel) ⟨Nat.le_of_ble_eq_true rfl, Nat.le_of_ble_eq_true rfl⟩) (z_preV eX_ok hK hE hw hS kc_0.2 ((cX_a0 kc_0.1) _) (T := TX3) (M := 18) rfl) rfl rfl hl.1 rfl (lv_room (Nat.le_of_ble_eq_true rfl)) dX3_settle_46 ⟨Nat.le_of_ble_eq_true rfl, Nat.le_of_ble_eq_true rfl⟩) hS (fun H locs hw hS => ?_)
      refine lv_iadd hx hb dX3_settle_49 ?_
      obtain ⟨w50, h50, hf⟩ := bd_e hf
      refine z_iast hx hb hK hJ hw hS 0 (k := 16) kc_16.2 cX_ne (cX_a5 kc_16.1) rfl h50 dX3_settle_50 (fun H locs hw hS => ?_)
      refine lv_aload_n hx hb dX3_settle_51 rfl (lv_at hl 0 rfl) ?_
      refine z_get (v := .ref (L 3)) hx hb hts hiX3_settle_X3 hown hK hw (k := 0) kc_0.2 ((cX_a0 kc_0.1) _) rfl 5 (by decide) (hts (.fieldLink RX3 17 "OneSentence" "kind" "[I") (by decide +kernel)) rfl dX3_settle_52 ?_
      refine lv_iload_n hx hb dX3_settle_55 rfl (lv_at hl 1 rfl) ?_
      refine lv_aload_n hx hb dX3_settle_56 rfl (lv_at hl 0 rfl) ?_
      refine lv_iload_n hx hb dX3_settle_57 rfl (lv_at hl 2 rfl) ?_
      refine lv_iconst (v := 4) hx hb dX3_settle_58 (by decide) ?_
      refine lv_iadd hx hb dX3_settle_59 ?_
      obtain ⟨q60, h60, hf⟩ := bd_e hf
      refine z_calli (va_runV (As := [.int (x2 + (4 : Int32))]) (rest := [.int x1, .ref (L 3)]) ⟨hx, hb, hml, hown, hts⟩ (kx_figureIn l (D := D) (K := K) (t0 := t0) hJ (x2 + (4 : Int32)) w50  h60) (cwV 1 hts gX3_settle_X3_figureIn rfl rfl rfl (by decide +kernel) ⟨Nat.le_of_ble_eq_true rfl, Nat.le_of_ble_eq_true rfl⟩) (z_preV eX_ok hK hE hw hS kc_0.2 ((cX_a0 kc_0.1) _) (T := TX3) (M := 18) rfl) rfl rfl hl.1 rfl (lv_room (Nat.le_of_ble_eq_true rfl)) dX3_settle_60 ⟨Nat.le_of_ble_eq_true rfl, Nat.le_of_ble_eq_true rfl⟩) hS (fun H locs hw hS => ?_)
      obtain ⟨w63, h63, hf⟩ := bd_e hf
      refine z_iast hx hb hK hJ hw hS 0 (k := 3) kc_3.2 cX_ne (cX_a4 kc_3.1) rfl h63 dX3_settle_63 (fun H locs hw hS => ?_)
      refine lv_aload_n hx hb dX3_settle_64 rfl (lv_at hl 0 rfl) ?_
      refine z_get (v := .ref (L 2)) hx hb hts hiX3_settle_X3 hown hK hw (k := 0) kc_0.2 ((cX_a0 kc_0.1) _) rfl 4 (by decide) (hts (.fieldLink RX3 13 "OneSentence" "home" "[I") (by decide +kernel)) rfl dX3_settle_65 ?_
      refine lv_iload_n hx hb dX3_settle_68 rfl (lv_at hl 1 rfl) ?_
      obtain ⟨v69, h69, hf⟩ := bd_e hf
      refine z_iald hx hb hK hw 0 (k := 2) kc_2.2 ((cX_a4 kc_2.1) _) rfl h69 dX3_settle_69 ?_
      refine lv_aload_n hx hb dX3_settle_70 rfl (lv_at hl 0 rfl) ?_
      refine z_get (v := .int (w63.1 0 2)) hx hb hts hiX3_settle_X3 hown hK hw (k := 0) kc_0.2 ((cX_a0 kc_0.1) _) rfl 2 (by decide) (hts (.fieldLink RX3 70 "OneSentence" "market" "I") (by decide +kernel)) rfl dX3_settle_71 ?_
      refine lv_icmp_ne (tgt := 92) hx hb dX3_settle_74 (by decide) (fun c74 => ?_) (fun c74 => ?_)
      · replace hf := if_f hf c74
        exact z_vret hx hb hr hlk hw hS hf dX3_settle_92
      · replace hf := if_t hf c74
        refine lv_aload_n hx hb dX3_settle_77 rfl (lv_at hl 0 rfl) ?_
        refine z_get (v := .ref (L 13)) hx hb hts hiX3_settle_X3 hown hK hw (k := 0) kc_0.2 ((cX_a0 kc_0.1) _) rfl 6 (by decide) (hts (.fieldLink RX3 23 "OneSentence" "today" "LOneSentence$Day;") (by decide +kernel)) rfl dX3_settle_78 ?_
        refine lv_dup hx hb dX3_settle_81 rfl ?_
        refine z_getN (v := .int (w63.1 13 1)) hx hb hts hiX3_settle_X0 hown hK hw (k := 13) kc_13.2 ((cX_a2 kc_13.1) _) rfl 1 (by decide) (hE.1 (RX3, 93, "OneSentence$Day", "at", "I", "OneSentence") (by decide)) rfl dX3_settle_82 ?_
        refine lv_iconst (v := 1) hx hb dX3_settle_85 (by decide) ?_
        refine lv_iload_n hx hb dX3_settle_86 rfl (lv_at hl 1 rfl) ?_
        refine lv_ishl hx hb dX3_settle_87 ?_
        refine lv_ior hx hb dX3_settle_88 ?_
        refine z_putiN hx hb hts hiX3_settle_X0 tyX0 tyX0_ok nmX0 hown hK hJ hw hS (k := 13) kc_13.2 cX_ne (fs := (fX2 L 13)) (cX_a2 kc_13.1) rfl 1 (by decide) (hE.1 (RX3, 93, "OneSentence$Day", "at", "I", "OneSentence") (by decide)) rfl rfl (fun _ _ => ⟨Nat.le_of_ble_eq_true rfl, rfl⟩) dX3_settle_89 (fun H locs hw hS => ?_)
        exact z_vret hx hb hr hlk hw hS hf dX3_settle_92
    · replace hf := if_f hf c7
      exact z_vret hx hb hr hlk hw hS hf dX3_settle_10
set_option maxHeartbeats 4000000 in
set_option maxRecDepth 100000 in
theorem kx_settle (l : Launch) {D : va_G} {L : Nat → Nat} {K : Nat → ClassId} {t0 : Nat} (hJ : gj L 81) (x1 : Int32) (x2 : Int32) (w : St) {w9 : St} (hf : fx_settle x1 x2 w = some w9) : Met l yX3_settle wsX3_settle ({ frames := 1, cells := 0, slots := 0, locals := 21 }) (va_Pc [.ref (L 0), .int x1, .int x2] (xP D L K t0 w)) (qV D L 81 (cX L K) w9) 0 0 (gA L 81) := by
  refine g_met (cc := cX3_settle) (nL := 3) (ret := none) (by decide) rfl (Nat.le_of_ble_eq_true rfl) (fun p e s m below meth c ls C0 hP hl => ?_)
  exact wx_settle_0 hJ C0 hP.2.1 hP.2.2 _ _ w _ _ ls hP.1 va_S.rf (lv_sub hl [0, 1, 2] rfl) hf
theorem dX3_forgetActs_0 : decode cX3_forgetActs 0 = .ok (.aload_n 0, 1) := by decide +kernel
theorem dX3_forgetActs_1 : decode cX3_forgetActs 1 = .ok (.iconst 0, 1) := by decide +kernel
theorem dX3_forgetActs_2 : decode cX3_forgetActs 2 = .ok (.putfield 134, 3) := by decide +kernel
theorem dX3_forgetActs_5 : decode cX3_forgetActs 5 = .ok (.aload_n 0, 1) := by decide +kernel
theorem dX3_forgetActs_6 : decode cX3_forgetActs 6 = .ok (.iconst 0, 1) := by decide +kernel
theorem dX3_forgetActs_7 : decode cX3_forgetActs 7 = .ok (.putfield 131, 3) := by decide +kernel
theorem dX3_forgetActs_10 : decode cX3_forgetActs 10 = .ok (.return_, 1) := by decide +kernel
set_option maxRecDepth 20000 in
theorem hiX3_forgetActs_X3 : ∀ w ∈ u_ws RX3 TX3 18, w ∈ wsX3_forgetActs := by decide +kernel
set_option maxHeartbeats 4000000 in
set_option maxRecDepth 100000 in
theorem wx_forgetActs_0 {p : Program} {l : Launch} {e : Env} {s : State} {m : MethodId} {args : Array Value} {below : List Frame} {meth : Method} {c : Code} {D : va_G} {L : Nat → Nat} {K : Nat → ClassId} {t0 : Nat} (hJ : gj L 81) (C0 : gC cX3_forgetActs 1 none wsX3_forgetActs RX3 p s m args meth c) (hK : va_K D vwCl (tyG K) s) (hE : eX L t0 s) {w9 : St} : ∀ (w : St) (H : Heap) (locs : List Loc) (ls : Array Slot), va_P D vwCl (gl L 81 (cX L K w)) H → va_S (gA L 81) s.heap H locs → lv_has ls 1 [(0, .ref (L 0))] → fx_forgetActs w = some w9 → W p l e { frames := 0, cells := 0, slots := 0, locals := 0 } s m args below meth c H locs 0 0 (MQ below (qV D L 81 (cX L K) w9) args s 0 0 (gA L 81)) (F0 m 0 ls []) := by
  obtain ⟨hx, hb, hr, hml, hown, hts, hlk⟩ := id C0
  intro w H locs ls hw hS hl hf
  unfold fx_forgetActs at hf
  refine lv_aload_n hx hb dX3_forgetActs_0 rfl (lv_at hl 0 rfl) ?_
  refine lv_iconst (v := 0) hx hb dX3_forgetActs_1 (by decide) ?_
  refine z_puti hx hb hts hiX3_forgetActs_X3 tyX3 tyX3_ok nmX3 hown hK hJ hw hS (k := 0) kc_0.2 cX_ne (fs := (fX0 L)) (cX_a0 kc_0.1) rfl 8 (by decide) (hts (.fieldLink RX3 134 "OneSentence" "firstAct" "I") (by decide +kernel)) rfl rfl (fun _ _ => ⟨Nat.le_of_ble_eq_true rfl, rfl⟩) dX3_forgetActs_2 (fun H locs hw hS => ?_)
  refine lv_aload_n hx hb dX3_forgetActs_5 rfl (lv_at hl 0 rfl) ?_
  refine lv_iconst (v := 0) hx hb dX3_forgetActs_6 (by decide) ?_
  refine z_puti hx hb hts hiX3_forgetActs_X3 tyX3 tyX3_ok nmX3 hown hK hJ hw hS (k := 0) kc_0.2 cX_ne (fs := (fX0 L)) (cX_a0 kc_0.1) rfl 9 (by decide) (hts (.fieldLink RX3 131 "OneSentence" "acts" "I") (by decide +kernel)) rfl rfl (fun _ _ => ⟨Nat.le_of_ble_eq_true rfl, rfl⟩) dX3_forgetActs_7 (fun H locs hw hS => ?_)
  exact z_vret hx hb hr hlk hw hS hf dX3_forgetActs_10
set_option maxHeartbeats 4000000 in
set_option maxRecDepth 100000 in
theorem kx_forgetActs (l : Launch) {D : va_G} {L : Nat → Nat} {K : Nat → ClassId} {t0 : Nat} (hJ : gj L 81) (w : St) {w9 : St} (hf : fx_forgetActs w = some w9) : Met l yX3_forgetActs wsX3_forgetActs ({ frames := 0, cells := 0, slots := 0, locals := 0 }) (va_Pc [.ref (L 0)] (xP D L K t0 w)) (qV D L 81 (cX L K) w9) 0 0 (gA L 81) := by
  refine g_met (cc := cX3_forgetActs) (nL := 1) (ret := none) (by decide) rfl (Nat.le_of_ble_eq_true rfl) (fun p e s m below meth c ls C0 hP hl => ?_)
  exact wx_forgetActs_0 hJ C0 hP.2.1 hP.2.2 w _ _ ls hP.1 va_S.rf (lv_sub hl [0] rfl) hf
set_option maxRecDepth 20000 in
theorem ggX3_island_X3_firstFault : GoodIn wsX3_island wsX3_firstFault := goodIn_r _ [10, 2, 11, 12, 13, 9, 14, 15, 16, 17, 49, 50, 51, 52, 53, 54, 55, 56, 57, 58, 59, 60, 61, 62, 63, 64, 65, 66] (by decide +kernel) (by decide +kernel)
set_option maxRecDepth 20000 in
theorem gX3_island_X3_firstFault : GoodIn wsX3_island (wsV RX3 62 RX3 yX3_firstFault wsX3_firstFault) := goodIn_app (goodIn_of _ (by decide +kernel)) ggX3_island_X3_firstFault
set_option maxRecDepth 20000 in
theorem ggX3_island_X3_figureIn : GoodIn wsX3_island wsX3_figureIn := goodIn_r _ [21, 11, 49, 50, 51, 52, 53, 54, 55, 56, 57, 58, 59, 60, 61, 62, 63, 64, 65, 66] (by decide +kernel) (by decide +kernel)
set_option maxRecDepth 20000 in
theorem gX3_island_X3_figureIn : GoodIn wsX3_island (wsV RX3 66 RX3 yX3_figureIn wsX3_figureIn) := goodIn_app (goodIn_of _ (by decide +kernel)) ggX3_island_X3_figureIn
set_option maxRecDepth 20000 in
theorem ggX3_island_X0_begin : GoodIn wsX3_island wsX0_begin := goodIn_r _ [25, 26, 27, 28, 29, 30, 31, 32, 33, 34, 35, 36, 67, 68, 69, 70, 71, 72, 73, 74] (by decide +kernel) (by decide +kernel)
set_option maxRecDepth 20000 in
theorem gX3_island_X0_begin_n76 : GoodIn wsX3_island (wsX0_begin) := ggX3_island_X0_begin
set_option maxRecDepth 20000 in
theorem ggX3_island_X3_settle : GoodIn wsX3_island wsX3_settle := goodIn_r _ [40, 41, 4, 42, 1, 18, 19, 20, 9, 21, 11, 49, 50, 51, 52, 53, 54, 55, 56, 57, 58, 59, 60, 61, 62, 63, 64, 65, 66, 67, 68, 69, 70] (by decide +kernel) (by decide +kernel)
set_option maxRecDepth 20000 in
theorem gX3_island_X3_settle : GoodIn wsX3_island (wsV RX3 79 RX3 yX3_settle wsX3_settle) := goodIn_app (goodIn_of _ (by decide +kernel)) ggX3_island_X3_settle
set_option maxRecDepth 20000 in
theorem ggX3_island_X3_forgetActs : GoodIn wsX3_island wsX3_forgetActs := goodIn_r _ [46, 47, 48, 49, 50, 51, 52, 53, 54, 55, 56, 57, 58, 59, 60, 61, 62, 63, 64, 65, 66] (by decide +kernel) (by decide +kernel)
set_option maxRecDepth 20000 in
theorem gX3_island_X3_forgetActs : GoodIn wsX3_island (wsV RX3 83 RX3 yX3_forgetActs wsX3_forgetActs) := goodIn_app (goodIn_of _ (by decide +kernel)) ggX3_island_X3_forgetActs
theorem dX3_island_0 : decode cX3_island 0 = .ok (.aload_n 0, 1) := by decide +kernel
theorem dX3_island_1 : decode cX3_island 1 = .ok (.invokevirtual 62, 3) := by decide +kernel
theorem dX3_island_4 : decode cX3_island 4 = .ok (.bipush (-9), 2) := by decide +kernel
theorem dX3_island_6 : decode cX3_island 6 = .ok (.if_icmp .eq 6, 3) := by decide +kernel
theorem dX3_island_9 : decode cX3_island 9 = .ok (.bipush (-3), 2) := by decide +kernel
theorem dX3_island_11 : decode cX3_island 11 = .ok (.ireturn, 1) := by decide +kernel
theorem dX3_island_12 : decode cX3_island 12 = .ok (.aload_n 0, 1) := by decide +kernel
theorem dX3_island_13 : decode cX3_island 13 = .ok (.aload_n 0, 1) := by decide +kernel
theorem dX3_island_14 : decode cX3_island 14 = .ok (.iconst 1, 1) := by decide +kernel
theorem dX3_island_15 : decode cX3_island 15 = .ok (.invokevirtual 66, 3) := by decide +kernel
theorem dX3_island_18 : decode cX3_island 18 = .ok (.putfield 70, 3) := by decide +kernel
theorem dX3_island_21 : decode cX3_island 21 = .ok (.aload_n 0, 1) := by decide +kernel
theorem dX3_island_22 : decode cX3_island 22 = .ok (.aload_n 0, 1) := by decide +kernel
theorem dX3_island_23 : decode cX3_island 23 = .ok (.getfield 58, 3) := by decide +kernel
theorem dX3_island_26 : decode cX3_island 26 = .ok (.iconst 2, 1) := by decide +kernel
theorem dX3_island_27 : decode cX3_island 27 = .ok (.isub, 1) := by decide +kernel
theorem dX3_island_28 : decode cX3_island 28 = .ok (.iconst 5, 1) := by decide +kernel
theorem dX3_island_29 : decode cX3_island 29 = .ok (.idiv, 1) := by decide +kernel
theorem dX3_island_30 : decode cX3_island 30 = .ok (.putfield 73, 3) := by decide +kernel
theorem dX3_island_33 : decode cX3_island 33 = .ok (.aload_n 0, 1) := by decide +kernel
theorem dX3_island_34 : decode cX3_island 34 = .ok (.getfield 23, 3) := by decide +kernel
theorem dX3_island_37 : decode cX3_island 37 = .ok (.invokevirtual 76, 3) := by decide +kernel
theorem dX3_island_40 : decode cX3_island 40 = .ok (.iconst 0, 1) := by decide +kernel
theorem dX3_island_41 : decode cX3_island 41 = .ok (.istore_n 1, 1) := by decide +kernel
theorem dX3_island_42 : decode cX3_island 42 = .ok (.iload_n 1, 1) := by decide +kernel
theorem dX3_island_43 : decode cX3_island 43 = .ok (.aload_n 0, 1) := by decide +kernel
theorem dX3_island_44 : decode cX3_island 44 = .ok (.getfield 73, 3) := by decide +kernel
theorem dX3_island_47 : decode cX3_island 47 = .ok (.if_icmp .ge 19, 3) := by decide +kernel
theorem dX3_island_50 : decode cX3_island 50 = .ok (.aload_n 0, 1) := by decide +kernel
theorem dX3_island_51 : decode cX3_island 51 = .ok (.iload_n 1, 1) := by decide +kernel
theorem dX3_island_52 : decode cX3_island 52 = .ok (.iconst 2, 1) := by decide +kernel
theorem dX3_island_53 : decode cX3_island 53 = .ok (.iconst 5, 1) := by decide +kernel
theorem dX3_island_54 : decode cX3_island 54 = .ok (.iload_n 1, 1) := by decide +kernel
theorem dX3_island_55 : decode cX3_island 55 = .ok (.imul, 1) := by decide +kernel
theorem dX3_island_56 : decode cX3_island 56 = .ok (.iadd, 1) := by decide +kernel
theorem dX3_island_57 : decode cX3_island 57 = .ok (.invokevirtual 79, 3) := by decide +kernel
theorem dX3_island_60 : decode cX3_island 60 = .ok (.iinc 1 1, 3) := by decide +kernel
theorem dX3_island_63 : decode cX3_island 63 = .ok (.goto (-21), 3) := by decide +kernel
theorem dX3_island_66 : decode cX3_island 66 = .ok (.aload_n 0, 1) := by decide +kernel
theorem dX3_island_67 : decode cX3_island 67 = .ok (.invokevirtual 83, 3) := by decide +kernel
theorem dX3_island_70 : decode cX3_island 70 = .ok (.iconst 0, 1) := by decide +kernel
theorem dX3_island_71 : decode cX3_island 71 = .ok (.istore_n 1, 1) := by decide +kernel
theorem dX3_island_72 : decode cX3_island 72 = .ok (.iload_n 1, 1) := by decide +kernel
theorem dX3_island_73 : decode cX3_island 73 = .ok (.aload_n 0, 1) := by decide +kernel
theorem dX3_island_74 : decode cX3_island 74 = .ok (.getfield 34, 3) := by decide +kernel
theorem dX3_island_77 : decode cX3_island 77 = .ok (.arraylength, 1) := by decide +kernel
theorem dX3_island_78 : decode cX3_island 78 = .ok (.if_icmp .ge 16, 3) := by decide +kernel
theorem dX3_island_81 : decode cX3_island 81 = .ok (.aload_n 0, 1) := by decide +kernel
theorem dX3_island_82 : decode cX3_island 82 = .ok (.getfield 34, 3) := by decide +kernel
theorem dX3_island_85 : decode cX3_island 85 = .ok (.iload_n 1, 1) := by decide +kernel
theorem dX3_island_86 : decode cX3_island 86 = .ok (.iconst 0, 1) := by decide +kernel
theorem dX3_island_87 : decode cX3_island 87 = .ok (.bastore, 1) := by decide +kernel
theorem dX3_island_88 : decode cX3_island 88 = .ok (.iinc 1 1, 3) := by decide +kernel
theorem dX3_island_91 : decode cX3_island 91 = .ok (.goto (-19), 3) := by decide +kernel
theorem dX3_island_94 : decode cX3_island 94 = .ok (.aload_n 0, 1) := by decide +kernel
theorem dX3_island_95 : decode cX3_island 95 = .ok (.getfield 73, 3) := by decide +kernel
theorem dX3_island_98 : decode cX3_island 98 = .ok (.ireturn, 1) := by decide +kernel
set_option maxRecDepth 20000 in
theorem hiX3_island_X3 : ∀ w ∈ u_ws RX3 TX3 18, w ∈ wsX3_island := by decide +kernel
set_option maxHeartbeats 4000000 in
set_option maxRecDepth 100000 in
theorem wx_island_72 {p : Program} {l : Launch} {e : Env} {s : State} {m : MethodId} {args : Array Value} {below : List Frame} {meth : Method} {c : Code} {D : va_G} {L : Nat → Nat} {K : Nat → ClassId} {t0 : Nat} (hJ : gj L 81) (C0 : gC cX3_island 2 (some .int) wsX3_island RX3 p s m args meth c) (hK : va_K D vwCl (tyG K) s) (hE : eX L t0 s) {w9 : St} {rs : Int32} : ∀ (fu : Nat) (x1 : Int32) (w : St) (H : Heap) (locs : List Loc) (ls : Array Slot), va_P D vwCl (gl L 81 (cX L K w)) H → va_S (gA L 81) s.heap H locs → lv_has ls 2 [(0, .ref (L 0)), (1, .int x1)] → fx_island_72 fu x1 w = some (rs, w9) → W p l e { frames := 3, cells := 0, slots := 0, locals := 63 } s m args below meth c H locs 0 0 (MQ below (qI D L 81 (cX L K) rs w9) args s 0 0 (gA L 81)) (F0 m 72 ls []) := by
  obtain ⟨hx, hb, hr, hml, hown, hts, hlk⟩ := id C0
  intro fu
  induction fu with
  | zero =>
    intro x1 w H locs ls hw hS hl hf
    rw [fx_island_72] at hf
    exact no_n hf
  | succ fu ih =>
    intro x1 w H locs ls hw hS hl hf
    rw [fx_island_72] at hf
    refine lv_iload_n hx hb dX3_island_72 rfl (lv_at hl 1 rfl) ?_
    refine lv_aload_n hx hb dX3_island_73 rfl (lv_at hl 0 rfl) ?_
    refine z_get (v := .ref (L 6)) hx hb hts hiX3_island_X3 hown hK hw (k := 0) kc_0.2 ((cX_a0 kc_0.1) _) rfl 11 (by decide) (hts (.fieldLink RX3 34 "OneSentence" "isKept" "[Z") (by decide +kernel)) rfl dX3_island_74 ?_
    refine z_alen (v := 2) hx hb hK hw 2 (k := 6) kc_6.2 ((cX_a9 kc_6.1) _) rfl rfl dX3_island_77 ?_
    refine lv_icmp_ge (tgt := 94) hx hb dX3_island_78 (by decide) (fun c78 => ?_) (fun c78 => ?_)
    · replace hf := if_t hf c78
      refine lv_aload_n hx hb dX3_island_94 rfl (lv_at hl 0 rfl) ?_
      refine z_get (v := .int (w.1 0 3)) hx hb hts hiX3_island_X3 hown hK hw (k := 0) kc_0.2 ((cX_a0 kc_0.1) _) rfl 3 (by decide) (hts (.fieldLink RX3 73 "OneSentence" "people" "I") (by decide +kernel)) rfl dX3_island_95 ?_
      exact z_iret hx hb hr hlk hw hS hf dX3_island_98
    · replace hf := if_f hf c78
      refine lv_aload_n hx hb dX3_island_81 rfl (lv_at hl 0 rfl) ?_
      refine z_get (v := .ref (L 6)) hx hb hts hiX3_island_X3 hown hK hw (k := 0) kc_0.2 ((cX_a0 kc_0.1) _) rfl 11 (by decide) (hts (.fieldLink RX3 34 "OneSentence" "isKept" "[Z") (by decide +kernel)) rfl dX3_island_82 ?_
      refine lv_iload_n hx hb dX3_island_85 rfl (lv_at hl 1 rfl) ?_
      refine lv_iconst (v := 0) hx hb dX3_island_86 (by decide) ?_
      obtain ⟨w87, h87, hf⟩ := bd_e hf
      refine z_zast hx hb hK hJ hw hS 2 (k := 6) kc_6.2 cX_ne (cX_a9 kc_6.1) rfl (by decide) h87 dX3_island_87 (fun H locs hw hS => ?_)
      refine lv_iinc (v := (x1 + 1)) (lv' := [(1, .int (x1 + 1)), (0, .ref (L 0))]) hx hb dX3_island_88 hl (k := 1) rfl rfl (by decide) rfl (fun ls hl => ?_)
      refine lv_goto (tgt := 72) hx hb dX3_island_91 (by decide) ?_
      exact ih _ _ _ _ _ hw hS (lv_sub hl [1, 0] rfl) hf
set_option maxHeartbeats 4000000 in
set_option maxRecDepth 100000 in
theorem wx_island_42 {p : Program} {l : Launch} {e : Env} {s : State} {m : MethodId} {args : Array Value} {below : List Frame} {meth : Method} {c : Code} {D : va_G} {L : Nat → Nat} {K : Nat → ClassId} {t0 : Nat} (hJ : gj L 81) (C0 : gC cX3_island 2 (some .int) wsX3_island RX3 p s m args meth c) (hK : va_K D vwCl (tyG K) s) (hE : eX L t0 s) {w9 : St} {rs : Int32} : ∀ (fu : Nat) (x1 : Int32) (w : St) (H : Heap) (locs : List Loc) (ls : Array Slot), va_P D vwCl (gl L 81 (cX L K w)) H → va_S (gA L 81) s.heap H locs → lv_has ls 2 [(0, .ref (L 0)), (1, .int x1)] → fx_island_42 fu x1 w = some (rs, w9) → W p l e { frames := 3, cells := 0, slots := 0, locals := 63 } s m args below meth c H locs 0 0 (MQ below (qI D L 81 (cX L K) rs w9) args s 0 0 (gA L 81)) (F0 m 42 ls []) := by
  obtain ⟨hx, hb, hr, hml, hown, hts, hlk⟩ := id C0
  intro fu
  induction fu with
  | zero =>
    intro x1 w H locs ls hw hS hl hf
    rw [fx_island_42] at hf
    exact no_n hf
  | succ fu ih =>
    intro x1 w H locs ls hw hS hl hf
    rw [fx_island_42] at hf
    refine lv_iload_n hx hb dX3_island_42 rfl (lv_at hl 1 rfl) ?_
    refine lv_aload_n hx hb dX3_island_43 rfl (lv_at hl 0 rfl) ?_
    refine z_get (v := .int (w.1 0 3)) hx hb hts hiX3_island_X3 hown hK hw (k := 0) kc_0.2 ((cX_a0 kc_0.1) _) rfl 3 (by decide) (hts (.fieldLink RX3 73 "OneSentence" "people" "I") (by decide +kernel)) rfl dX3_island_44 ?_
    refine lv_icmp_ge (tgt := 66) hx hb dX3_island_47 (by decide) (fun c47 => ?_) (fun c47 => ?_)
    · replace hf := if_t hf c47
      refine lv_aload_n hx hb dX3_island_66 rfl (lv_at hl 0 rfl) ?_
      obtain ⟨w67, h67, hf⟩ := bd_e hf
      refine z_callv (va_runV (As := []) (rest := []) ⟨hx, hb, hml, hown, hts⟩ (kx_forgetActs l (D := D) (K := K) (t0 := t0) hJ w  h67) (cwV 0 hts gX3_island_X3_forgetActs rfl rfl rfl (by decide +kernel) ⟨Nat.le_of_ble_eq_true rfl, Nat.le_of_ble_eq_true rfl⟩) (z_preV eX_ok hK hE hw hS kc_0.2 ((cX_a0 kc_0.1) _) (T := TX3) (M := 18) rfl) rfl rfl hl.1 rfl (lv_room (Nat.le_of_ble_eq_true rfl)) dX3_island_67 ⟨Nat.le_of_ble_eq_true rfl, Nat.le_of_ble_eq_true rfl⟩) hS (fun H locs hw hS => ?_)
      refine lv_iconst (v := 0) hx hb dX3_island_70 (by decide) ?_
      refine lv_istore_n (lv' := [(1, .int 0), (0, .ref (L 0))]) hx hb dX3_island_71 rfl hl (by decide) rfl (fun ls hl => ?_)
      exact wx_island_72 hJ C0 hK hE _ _ _ _ _ _ hw hS (lv_sub hl [1, 0] rfl) hf
    · replace hf := if_f hf c47
      refine lv_aload_n hx hb dX3_island_50 rfl (lv_at hl 0 rfl) ?_
      refine lv_iload_n hx hb dX3_island_51 rfl (lv_at hl 1 rfl) ?_
      refine lv_iconst (v := 2) hx hb dX3_island_52 (by decide) ?_
      refine lv_iconst (v := 5) hx hb dX3_island_53 (by decide) ?_
      refine lv_iload_n hx hb dX3_island_54 rfl (lv_at hl 1 rfl) ?_
      refine lv_imul hx hb dX3_island_55 ?_
      refine lv_iadd hx hb dX3_island_56 ?_
      obtain ⟨w57, h57, hf⟩ := bd_e hf
      refine z_callv (va_runV (As := [.int x1, .int ((2 : Int32) + ((5 : Int32) * x1))]) (rest := []) ⟨hx, hb, hml, hown, hts⟩ (kx_settle l (D := D) (K := K) (t0 := t0) hJ x1 ((2 : Int32) + ((5 : Int32) * x1)) w  h57) (cwV 2 hts gX3_island_X3_settle rfl rfl rfl (by decide +kernel) ⟨Nat.le_of_ble_eq_true rfl, Nat.le_of_ble_eq_true rfl⟩) (z_preV eX_ok hK hE hw hS kc_0.2 ((cX_a0 kc_0.1) _) (T := TX3) (M := 18) rfl) rfl rfl hl.1 rfl (lv_room (Nat.le_of_ble_eq_true rfl)) dX3_island_57 ⟨Nat.le_of_ble_eq_true rfl, Nat.le_of_ble_eq_true rfl⟩) hS (fun H locs hw hS => ?_)
      refine lv_iinc (v := (x1 + 1)) (lv' := [(1, .int (x1 + 1)), (0, .ref (L 0))]) hx hb dX3_island_60 hl (k := 1) rfl rfl (by decide) rfl (fun ls hl => ?_)
      refine lv_goto (tgt := 42) hx hb dX3_island_63 (by decide) ?_
      exact ih _ _ _ _ _ hw hS (lv_sub hl [1, 0] rfl) hf
set_option maxHeartbeats 4000000 in
set_option maxRecDepth 100000 in
theorem wx_island_0 {p : Program} {l : Launch} {e : Env} {s : State} {m : MethodId} {args : Array Value} {below : List Frame} {meth : Method} {c : Code} {D : va_G} {L : Nat → Nat} {K : Nat → ClassId} {t0 : Nat} (hJ : gj L 81) (C0 : gC cX3_island 2 (some .int) wsX3_island RX3 p s m args meth c) (hK : va_K D vwCl (tyG K) s) (hE : eX L t0 s) {w9 : St} {rs : Int32} : ∀ (w : St) (H : Heap) (locs : List Loc) (ls : Array Slot), va_P D vwCl (gl L 81 (cX L K w)) H → va_S (gA L 81) s.heap H locs → lv_has ls 2 [(0, .ref (L 0))] → fx_island w = some (rs, w9) → W p l e { frames := 3, cells := 0, slots := 0, locals := 63 } s m args below meth c H locs 0 0 (MQ below (qI D L 81 (cX L K) rs w9) args s 0 0 (gA L 81)) (F0 m 0 ls []) := by
  obtain ⟨hx, hb, hr, hml, hown, hts, hlk⟩ := id C0
  intro w H locs ls hw hS hl hf
  unfold fx_island at hf
  refine lv_aload_n hx hb dX3_island_0 rfl (lv_at hl 0 rfl) ?_
  obtain ⟨q1, h1, hf⟩ := bd_e hf
  refine z_calli (va_runV (As := []) (rest := []) ⟨hx, hb, hml, hown, hts⟩ (kx_firstFault l (D := D) (K := K) (t0 := t0) hJ w  h1) (cwV 0 hts gX3_island_X3_firstFault rfl rfl rfl (by decide +kernel) ⟨Nat.le_of_ble_eq_true rfl, Nat.le_of_ble_eq_true rfl⟩) (z_preV eX_ok hK hE hw hS kc_0.2 ((cX_a0 kc_0.1) _) (T := TX3) (M := 18) rfl) rfl rfl hl.1 rfl (lv_room (Nat.le_of_ble_eq_true rfl)) dX3_island_1 ⟨Nat.le_of_ble_eq_true rfl, Nat.le_of_ble_eq_true rfl⟩) hS (fun H locs hw hS => ?_)
  refine lv_bipush (v := (-9)) hx hb dX3_island_4 (by decide) ?_
  refine lv_icmp_eq (tgt := 12) hx hb dX3_island_6 (by decide) (fun c6 => ?_) (fun c6 => ?_)
  · replace hf := if_t hf c6
    refine lv_aload_n hx hb dX3_island_12 rfl (lv_at hl 0 rfl) ?_
    refine lv_aload_n hx hb dX3_island_13 rfl (lv_at hl 0 rfl) ?_
    refine lv_iconst (v := 1) hx hb dX3_island_14 (by decide) ?_
    obtain ⟨q15, h15, hf⟩ := bd_e hf
    refine z_calli (va_runV (As := [.int 1]) (rest := [.ref (L 0)]) ⟨hx, hb, hml, hown, hts⟩ (kx_figureIn l (D := D) (K := K) (t0 := t0) hJ 1 (q1.2)  h15) (cwV 1 hts gX3_island_X3_figureIn rfl rfl rfl (by decide +kernel) ⟨Nat.le_of_ble_eq_true rfl, Nat.le_of_ble_eq_true rfl⟩) (z_preV eX_ok hK hE hw hS kc_0.2 ((cX_a0 kc_0.1) _) (T := TX3) (M := 18) rfl) rfl rfl hl.1 rfl (lv_room (Nat.le_of_ble_eq_true rfl)) dX3_island_15 ⟨Nat.le_of_ble_eq_true rfl, Nat.le_of_ble_eq_true rfl⟩) hS (fun H locs hw hS => ?_)
    refine z_puti hx hb hts hiX3_island_X3 tyX3 tyX3_ok nmX3 hown hK hJ hw hS (k := 0) kc_0.2 cX_ne (fs := (fX0 L)) (cX_a0 kc_0.1) rfl 2 (by decide) (hts (.fieldLink RX3 70 "OneSentence" "market" "I") (by decide +kernel)) rfl rfl (fun _ _ => ⟨Nat.le_of_ble_eq_true rfl, rfl⟩) dX3_island_18 (fun H locs hw hS => ?_)
    refine lv_aload_n hx hb dX3_island_21 rfl (lv_at hl 0 rfl) ?_
    refine lv_aload_n hx hb dX3_island_22 rfl (lv_at hl 0 rfl) ?_
    refine z_get (v := .int ((wr (q15.2) 0 2 (q15.1)).1 0 1)) hx hb hts hiX3_island_X3 hown hK hw (k := 0) kc_0.2 ((cX_a0 kc_0.1) _) rfl 1 (by decide) (hts (.fieldLink RX3 58 "OneSentence" "letters" "I") (by decide +kernel)) rfl dX3_island_23 ?_
    refine lv_iconst (v := 2) hx hb dX3_island_26 (by decide) ?_
    refine lv_isub hx hb dX3_island_27 ?_
    refine lv_iconst (v := 5) hx hb dX3_island_28 (by decide) ?_
    refine lv_idiv hx hb dX3_island_29 (by decide) ?_
    refine z_puti hx hb hts hiX3_island_X3 tyX3 tyX3_ok nmX3 hown hK hJ hw hS (k := 0) kc_0.2 cX_ne (fs := (fX0 L)) (cX_a0 kc_0.1) rfl 3 (by decide) (hts (.fieldLink RX3 73 "OneSentence" "people" "I") (by decide +kernel)) rfl rfl (fun _ _ => ⟨Nat.le_of_ble_eq_true rfl, rfl⟩) dX3_island_30 (fun H locs hw hS => ?_)
    refine lv_aload_n hx hb dX3_island_33 rfl (lv_at hl 0 rfl) ?_
    refine z_get (v := .ref (L 13)) hx hb hts hiX3_island_X3 hown hK hw (k := 0) kc_0.2 ((cX_a0 kc_0.1) _) rfl 6 (by decide) (hts (.fieldLink RX3 23 "OneSentence" "today" "LOneSentence$Day;") (by decide +kernel)) rfl dX3_island_34 ?_
    obtain ⟨w37, h37, hf⟩ := bd_e hf
    refine z_callv (va_runVN (As := []) (rest := []) ⟨hx, hb, hml, hown, hts⟩ (kd_begin l (D := D) (K := K) (t0 := t0) hJ 13 (wr (wr (q15.2) 0 2 (q15.1)) 0 3 ((((wr (q15.2) 0 2 (q15.1)).1 0 1) - (2 : Int32)) / 5)) kc_13 h37) ⟨va_cnB 0 hts gX3_island_X0_begin_n76 rfl rfl rfl (hE.2.1 (RX3, 76, yX0_begin, "OneSentence") (by decide)) (hts (.initialized RX0) (by decide +kernel)) (by decide +kernel) ⟨Nat.le_of_ble_eq_true rfl, Nat.le_of_ble_eq_true rfl⟩, hts (.instanceMethod yX0_begin) (by decide +kernel), hts (.selects RX0 yX0_begin yX0_begin) (by decide +kernel)⟩ (z_preV eX_ok hK hE hw hS kc_13.2 ((cX_a2 kc_13.1) _) (T := TX0) (M := 4) rfl) rfl rfl hl.1 rfl (lv_room (Nat.le_of_ble_eq_true rfl)) dX3_island_37 ⟨Nat.le_of_ble_eq_true rfl, Nat.le_of_ble_eq_true rfl⟩) hS (fun H locs hw hS => ?_)
    refine lv_iconst (v := 0) hx hb dX3_island_40 (by decide) ?_
    refine lv_istore_n (lv' := [(1, .int 0), (0, .ref (L 0))]) hx hb dX3_island_41 rfl hl (by decide) rfl (fun ls hl => ?_)
    exact wx_island_42 hJ C0 hK hE _ _ _ _ _ _ hw hS (lv_sub hl [1, 0] rfl) hf
  · replace hf := if_f hf c6
    refine lv_bipush (v := (-3)) hx hb dX3_island_9 (by decide) ?_
    exact z_iret hx hb hr hlk hw hS hf dX3_island_11
set_option maxHeartbeats 4000000 in
set_option maxRecDepth 100000 in
theorem kx_island (l : Launch) {D : va_G} {L : Nat → Nat} {K : Nat → ClassId} {t0 : Nat} (hJ : gj L 81) (w : St) {w9 : St} {rs : Int32} (hf : fx_island w = some (rs, w9)) : Met l yX3_island wsX3_island ({ frames := 3, cells := 0, slots := 0, locals := 63 }) (va_Pc [.ref (L 0)] (xP D L K t0 w)) (qI D L 81 (cX L K) rs w9) 0 0 (gA L 81) := by
  refine g_met (cc := cX3_island) (nL := 2) (ret := (some .int)) (by decide) rfl (Nat.le_of_ble_eq_true rfl) (fun p e s m below meth c ls C0 hP hl => ?_)
  exact wx_island_0 hJ C0 hP.2.1 hP.2.2 w _ _ ls hP.1 va_S.rf (lv_sub hl [0] rfl) hf
theorem dX3_isThere_0 : decode cX3_isThere 0 = .ok (.iload_n 1, 1) := by decide +kernel
theorem dX3_isThere_1 : decode cX3_isThere 1 = .ok (.ifCond .lt 21, 3) := by decide +kernel
theorem dX3_isThere_4 : decode cX3_isThere 4 = .ok (.iload_n 1, 1) := by decide +kernel
theorem dX3_isThere_5 : decode cX3_isThere 5 = .ok (.aload_n 0, 1) := by decide +kernel
theorem dX3_isThere_6 : decode cX3_isThere 6 = .ok (.getfield 73, 3) := by decide +kernel
theorem dX3_isThere_9 : decode cX3_isThere 9 = .ok (.if_icmp .ge 13, 3) := by decide +kernel
theorem dX3_isThere_12 : decode cX3_isThere 12 = .ok (.iload_n 1, 1) := by decide +kernel
theorem dX3_isThere_13 : decode cX3_isThere 13 = .ok (.bipush 6, 2) := by decide +kernel
theorem dX3_isThere_15 : decode cX3_isThere 15 = .ok (.if_icmp .ge 7, 3) := by decide +kernel
theorem dX3_isThere_18 : decode cX3_isThere 18 = .ok (.iconst 1, 1) := by decide +kernel
theorem dX3_isThere_19 : decode cX3_isThere 19 = .ok (.goto 4, 3) := by decide +kernel
theorem dX3_isThere_22 : decode cX3_isThere 22 = .ok (.iconst 0, 1) := by decide +kernel
theorem dX3_isThere_23 : decode cX3_isThere 23 = .ok (.ireturn, 1) := by decide +kernel
set_option maxRecDepth 20000 in
theorem hiX3_isThere_X3 : ∀ w ∈ u_ws RX3 TX3 18, w ∈ wsX3_isThere := by decide +kernel
set_option maxHeartbeats 4000000 in
set_option maxRecDepth 100000 in
theorem wx_isThere_0 {p : Program} {l : Launch} {e : Env} {s : State} {m : MethodId} {args : Array Value} {below : List Frame} {meth : Method} {c : Code} {D : va_G} {L : Nat → Nat} {K : Nat → ClassId} {t0 : Nat} (hJ : gj L 81) (C0 : gC cX3_isThere 2 (some .boolean) wsX3_isThere RX3 p s m args meth c) (hK : va_K D vwCl (tyG K) s) (hE : eX L t0 s) {w9 : St} {rs : Int32} : ∀ (x1 : Int32) (w : St) (H : Heap) (locs : List Loc) (ls : Array Slot), va_P D vwCl (gl L 81 (cX L K w)) H → va_S (gA L 81) s.heap H locs → lv_has ls 2 [(0, .ref (L 0)), (1, .int x1)] → fx_isThere x1 w = some (rs, w9) → W p l e { frames := 0, cells := 0, slots := 0, locals := 0 } s m args below meth c H locs 0 0 (MQ below (qI D L 81 (cX L K) rs w9) args s 0 0 (gA L 81)) (F0 m 0 ls []) := by
  obtain ⟨hx, hb, hr, hml, hown, hts, hlk⟩ := id C0
  intro x1 w H locs ls hw hS hl hf
  unfold fx_isThere at hf
  refine lv_iload_n hx hb dX3_isThere_0 rfl (lv_at hl 1 rfl) ?_
  refine lv_if_lt (tgt := 22) hx hb dX3_isThere_1 (by decide) (fun c1 => ?_) (fun c1 => ?_)
  · replace hf := if_t hf c1
    refine lv_iconst (v := 0) hx hb dX3_isThere_22 (by decide) ?_
    exact z_zret hx hb hr hlk rfl hw hS hf dX3_isThere_23
  · replace hf := if_f hf c1
    refine lv_iload_n hx hb dX3_isThere_4 rfl (lv_at hl 1 rfl) ?_
    refine lv_aload_n hx hb dX3_isThere_5 rfl (lv_at hl 0 rfl) ?_
    refine z_get (v := .int (w.1 0 3)) hx hb hts hiX3_isThere_X3 hown hK hw (k := 0) kc_0.2 ((cX_a0 kc_0.1) _) rfl 3 (by decide) (hts (.fieldLink RX3 73 "OneSentence" "people" "I") (by decide +kernel)) rfl dX3_isThere_6 ?_
    refine lv_icmp_ge (tgt := 22) hx hb dX3_isThere_9 (by decide) (fun c9 => ?_) (fun c9 => ?_)
    · replace hf := if_t hf c9
      refine lv_iconst (v := 0) hx hb dX3_isThere_22 (by decide) ?_
      exact z_zret hx hb hr hlk rfl hw hS hf dX3_isThere_23
    · replace hf := if_f hf c9
      refine lv_iload_n hx hb dX3_isThere_12 rfl (lv_at hl 1 rfl) ?_
      refine lv_bipush (v := 6) hx hb dX3_isThere_13 (by decide) ?_
      refine lv_icmp_ge (tgt := 22) hx hb dX3_isThere_15 (by decide) (fun c15 => ?_) (fun c15 => ?_)
      · replace hf := if_t hf c15
        refine lv_iconst (v := 0) hx hb dX3_isThere_22 (by decide) ?_
        exact z_zret hx hb hr hlk rfl hw hS hf dX3_isThere_23
      · replace hf := if_f hf c15
        refine lv_iconst (v := 1) hx hb dX3_isThere_18 (by decide) ?_
        refine lv_goto (tgt := 23) hx hb dX3_isThere_19 (by decide) ?_
        exact z_zret hx hb hr hlk rfl hw hS hf dX3_isThere_23
set_option maxHeartbeats 4000000 in
set_option maxRecDepth 100000 in
theorem kx_isThere (l : Launch) {D : va_G} {L : Nat → Nat} {K : Nat → ClassId} {t0 : Nat} (hJ : gj L 81) (x1 : Int32) (w : St) {w9 : St} {rs : Int32} (hf : fx_isThere x1 w = some (rs, w9)) : Met l yX3_isThere wsX3_isThere ({ frames := 0, cells := 0, slots := 0, locals := 0 }) (va_Pc [.ref (L 0), .int x1] (xP D L K t0 w)) (qI D L 81 (cX L K) rs w9) 0 0 (gA L 81) := by
  refine g_met (cc := cX3_isThere) (nL := 2) (ret := (some .boolean)) (by decide) rfl (Nat.le_of_ble_eq_true rfl) (fun p e s m below meth c ls C0 hP hl => ?_)
  exact wx_isThere_0 hJ C0 hP.2.1 hP.2.2 _ w _ _ ls hP.1 va_S.rf (lv_sub hl [0, 1] rfl) hf
set_option maxRecDepth 20000 in
theorem ggX3_maySpeak_X3_has : GoodIn wsX3_maySpeak wsX3_has := goodIn_r _ [5] (by decide +kernel) (by decide +kernel)
set_option maxRecDepth 20000 in
theorem gX3_maySpeak_X3_has : GoodIn wsX3_maySpeak (va_wsS RX3 96 yX3_has wsX3_has) := goodIn_app (goodIn_of _ (by decide +kernel)) ggX3_maySpeak_X3_has
theorem dX3_maySpeak_0 : decode cX3_maySpeak 0 = .ok (.iload_n 3, 1) := by decide +kernel
theorem dX3_maySpeak_1 : decode cX3_maySpeak 1 = .ok (.ifCond .lt 17, 3) := by decide +kernel
theorem dX3_maySpeak_4 : decode cX3_maySpeak 4 = .ok (.iload_n 3, 1) := by decide +kernel
theorem dX3_maySpeak_5 : decode cX3_maySpeak 5 = .ok (.bipush 7, 2) := by decide +kernel
theorem dX3_maySpeak_7 : decode cX3_maySpeak 7 = .ok (.if_icmp .ge 11, 3) := by decide +kernel
theorem dX3_maySpeak_10 : decode cX3_maySpeak 10 = .ok (.iload_n 2, 1) := by decide +kernel
theorem dX3_maySpeak_11 : decode cX3_maySpeak 11 = .ok (.iload_n 3, 1) := by decide +kernel
theorem dX3_maySpeak_12 : decode cX3_maySpeak 12 = .ok (.invokestatic 96, 3) := by decide +kernel
theorem dX3_maySpeak_15 : decode cX3_maySpeak 15 = .ok (.ifCond .ne 5, 3) := by decide +kernel
theorem dX3_maySpeak_18 : decode cX3_maySpeak 18 = .ok (.iconst 0, 1) := by decide +kernel
theorem dX3_maySpeak_19 : decode cX3_maySpeak 19 = .ok (.ireturn, 1) := by decide +kernel
theorem dX3_maySpeak_20 : decode cX3_maySpeak 20 = .ok (.aload_n 0, 1) := by decide +kernel
theorem dX3_maySpeak_21 : decode cX3_maySpeak 21 = .ok (.getfield 17, 3) := by decide +kernel
theorem dX3_maySpeak_24 : decode cX3_maySpeak 24 = .ok (.iload_n 3, 1) := by decide +kernel
theorem dX3_maySpeak_25 : decode cX3_maySpeak 25 = .ok (.iaload, 1) := by decide +kernel
theorem dX3_maySpeak_26 : decode cX3_maySpeak 26 = .ok (.iconst 1, 1) := by decide +kernel
theorem dX3_maySpeak_27 : decode cX3_maySpeak 27 = .ok (.if_icmp .ne 26, 3) := by decide +kernel
theorem dX3_maySpeak_30 : decode cX3_maySpeak 30 = .ok (.aload_n 1, 1) := by decide +kernel
theorem dX3_maySpeak_31 : decode cX3_maySpeak 31 = .ok (.getfield 229, 3) := by decide +kernel
theorem dX3_maySpeak_34 : decode cX3_maySpeak 34 = .ok (.bipush (-9), 2) := by decide +kernel
theorem dX3_maySpeak_36 : decode cX3_maySpeak 36 = .ok (.if_icmp .eq 15, 3) := by decide +kernel
theorem dX3_maySpeak_39 : decode cX3_maySpeak 39 = .ok (.aload_n 1, 1) := by decide +kernel
theorem dX3_maySpeak_40 : decode cX3_maySpeak 40 = .ok (.getfield 229, 3) := by decide +kernel
theorem dX3_maySpeak_43 : decode cX3_maySpeak 43 = .ok (.iload_n 3, 1) := by decide +kernel
theorem dX3_maySpeak_44 : decode cX3_maySpeak 44 = .ok (.if_icmp .eq 7, 3) := by decide +kernel
theorem dX3_maySpeak_47 : decode cX3_maySpeak 47 = .ok (.iconst 1, 1) := by decide +kernel
theorem dX3_maySpeak_48 : decode cX3_maySpeak 48 = .ok (.goto 4, 3) := by decide +kernel
theorem dX3_maySpeak_51 : decode cX3_maySpeak 51 = .ok (.iconst 0, 1) := by decide +kernel
theorem dX3_maySpeak_52 : decode cX3_maySpeak 52 = .ok (.ireturn, 1) := by decide +kernel
theorem dX3_maySpeak_53 : decode cX3_maySpeak 53 = .ok (.aload_n 0, 1) := by decide +kernel
theorem dX3_maySpeak_54 : decode cX3_maySpeak 54 = .ok (.getfield 17, 3) := by decide +kernel
theorem dX3_maySpeak_57 : decode cX3_maySpeak 57 = .ok (.iload_n 3, 1) := by decide +kernel
theorem dX3_maySpeak_58 : decode cX3_maySpeak 58 = .ok (.iaload, 1) := by decide +kernel
theorem dX3_maySpeak_59 : decode cX3_maySpeak 59 = .ok (.iconst 3, 1) := by decide +kernel
theorem dX3_maySpeak_60 : decode cX3_maySpeak 60 = .ok (.if_icmp .ne 12, 3) := by decide +kernel
theorem dX3_maySpeak_63 : decode cX3_maySpeak 63 = .ok (.aload_n 1, 1) := by decide +kernel
theorem dX3_maySpeak_64 : decode cX3_maySpeak 64 = .ok (.getfield 107, 3) := by decide +kernel
theorem dX3_maySpeak_67 : decode cX3_maySpeak 67 = .ok (.iload_n 3, 1) := by decide +kernel
theorem dX3_maySpeak_68 : decode cX3_maySpeak 68 = .ok (.iaload, 1) := by decide +kernel
theorem dX3_maySpeak_69 : decode cX3_maySpeak 69 = .ok (.ifCond .ne 7, 3) := by decide +kernel
theorem dX3_maySpeak_72 : decode cX3_maySpeak 72 = .ok (.iconst 1, 1) := by decide +kernel
theorem dX3_maySpeak_73 : decode cX3_maySpeak 73 = .ok (.goto 4, 3) := by decide +kernel
theorem dX3_maySpeak_76 : decode cX3_maySpeak 76 = .ok (.iconst 0, 1) := by decide +kernel
theorem dX3_maySpeak_77 : decode cX3_maySpeak 77 = .ok (.ireturn, 1) := by decide +kernel
set_option maxRecDepth 20000 in
theorem hiX3_maySpeak_X2 : ∀ w ∈ u_ws RX2 TX2 4, w ∈ wsX3_maySpeak := by decide +kernel
set_option maxRecDepth 20000 in
theorem hiX3_maySpeak_X3 : ∀ w ∈ u_ws RX3 TX3 18, w ∈ wsX3_maySpeak := by decide +kernel
set_option maxHeartbeats 4000000 in
set_option maxRecDepth 100000 in
theorem wx_maySpeak_0 {p : Program} {l : Launch} {e : Env} {s : State} {m : MethodId} {args : Array Value} {below : List Frame} {meth : Method} {c : Code} {D : va_G} {L : Nat → Nat} {K : Nat → ClassId} {t0 : Nat} (hJ : gj L 81) (C0 : gC cX3_maySpeak 4 (some .boolean) wsX3_maySpeak RX3 p s m args meth c) (hK : va_K D vwCl (tyG K) s) (hE : eX L t0 s) {w9 : St} {rs : Int32} : ∀ (x1 : Nat) (x2 : Int32) (x3 : Int32) (w : St) (H : Heap) (locs : List Loc) (ls : Array Slot), kX x1 = 1 ∧ x1 < 81 → va_P D vwCl (gl L 81 (cX L K w)) H → va_S (gA L 81) s.heap H locs → lv_has ls 4 [(0, .ref (L 0)), (1, .ref (L x1)), (2, .int x2), (3, .int x3)] → fx_maySpeak x1 x2 x3 w = some (rs, w9) → W p l e { frames := 1, cells := 0, slots := 0, locals := 21 } s m args below meth c H locs 0 0 (MQ below (qI D L 81 (cX L K) rs w9) args s 0 0 (gA L 81)) (F0 m 0 ls []) := by
  obtain ⟨hx, hb, hr, hml, hown, hts, hlk⟩ := id C0
  intro x1 x2 x3 w H locs ls h1 hw hS hl hf
  unfold fx_maySpeak at hf
  refine lv_iload_n hx hb dX3_maySpeak_0 rfl (lv_at hl 3 rfl) ?_
  refine lv_if_lt (tgt := 18) hx hb dX3_maySpeak_1 (by decide) (fun c1 => ?_) (fun c1 => ?_)
  · replace hf := if_t hf c1
    refine lv_iconst (v := 0) hx hb dX3_maySpeak_18 (by decide) ?_
    exact z_zret hx hb hr hlk rfl hw hS hf dX3_maySpeak_19
  · replace hf := if_f hf c1
    refine lv_iload_n hx hb dX3_maySpeak_4 rfl (lv_at hl 3 rfl) ?_
    refine lv_bipush (v := 7) hx hb dX3_maySpeak_5 (by decide) ?_
    refine lv_icmp_ge (tgt := 18) hx hb dX3_maySpeak_7 (by decide) (fun c7 => ?_) (fun c7 => ?_)
    · replace hf := if_t hf c7
      refine lv_iconst (v := 0) hx hb dX3_maySpeak_18 (by decide) ?_
      exact z_zret hx hb hr hlk rfl hw hS hf dX3_maySpeak_19
    · replace hf := if_f hf c7
      refine lv_iload_n hx hb dX3_maySpeak_10 rfl (lv_at hl 2 rfl) ?_
      refine lv_iload_n hx hb dX3_maySpeak_11 rfl (lv_at hl 3 rfl) ?_
      obtain ⟨v12, h12, hf⟩ := bd_e hf
      refine z_calls (va_runS (As := [.int x2, .int x3]) (rest := []) ⟨hx, hb, hml, hown, hts⟩ (kx_has l x2 x3 h12) (va_cwS 2 hts gX3_maySpeak_X3_has rfl rfl rfl (by decide +kernel) ⟨Nat.le_of_ble_eq_true rfl, Nat.le_of_ble_eq_true rfl⟩) z_preT rfl rfl hl.1 rfl (lv_room (Nat.le_of_ble_eq_true rfl)) dX3_maySpeak_12 ⟨Nat.le_of_ble_eq_true rfl, Nat.le_of_ble_eq_true rfl⟩) ?_
      refine lv_if_ne (tgt := 20) hx hb dX3_maySpeak_15 (by decide) (fun c15 => ?_) (fun c15 => ?_)
      · replace hf := if_f hf c15
        refine lv_aload_n hx hb dX3_maySpeak_20 rfl (lv_at hl 0 rfl) ?_
        refine z_get (v := .ref (L 3)) hx hb hts hiX3_maySpeak_X3 hown hK hw (k := 0) kc_0.2 ((cX_a0 kc_0.1) _) rfl 5 (by decide) (hts (.fieldLink RX3 17 "OneSentence" "kind" "[I") (by decide +kernel)) rfl dX3_maySpeak_21 ?_
        refine lv_iload_n hx hb dX3_maySpeak_24 rfl (lv_at hl 3 rfl) ?_
        obtain ⟨v25, h25, hf⟩ := bd_e hf
        refine z_iald hx hb hK hw 0 (k := 3) kc_3.2 ((cX_a4 kc_3.1) _) rfl h25 dX3_maySpeak_25 ?_
        refine lv_iconst (v := 1) hx hb dX3_maySpeak_26 (by decide) ?_
        refine lv_icmp_ne (tgt := 53) hx hb dX3_maySpeak_27 (by decide) (fun c27 => ?_) (fun c27 => ?_)
        · replace hf := if_f hf c27
          refine lv_aload_n hx hb dX3_maySpeak_53 rfl (lv_at hl 0 rfl) ?_
          refine z_get (v := .ref (L 3)) hx hb hts hiX3_maySpeak_X3 hown hK hw (k := 0) kc_0.2 ((cX_a0 kc_0.1) _) rfl 5 (by decide) (hts (.fieldLink RX3 17 "OneSentence" "kind" "[I") (by decide +kernel)) rfl dX3_maySpeak_54 ?_
          refine lv_iload_n hx hb dX3_maySpeak_57 rfl (lv_at hl 3 rfl) ?_
          obtain ⟨v58, h58, hf⟩ := bd_e hf
          refine z_iald hx hb hK hw 0 (k := 3) kc_3.2 ((cX_a4 kc_3.1) _) rfl h58 dX3_maySpeak_58 ?_
          refine lv_iconst (v := 3) hx hb dX3_maySpeak_59 (by decide) ?_
          refine lv_icmp_ne (tgt := 72) hx hb dX3_maySpeak_60 (by decide) (fun c60 => ?_) (fun c60 => ?_)
          · replace hf := if_f hf c60
            refine lv_iconst (v := 1) hx hb dX3_maySpeak_72 (by decide) ?_
            refine lv_goto (tgt := 77) hx hb dX3_maySpeak_73 (by decide) ?_
            exact z_zret hx hb hr hlk rfl hw hS hf dX3_maySpeak_77
          · replace hf := if_t hf c60
            refine lv_aload_n hx hb dX3_maySpeak_63 rfl (lv_at hl 1 rfl) ?_
            refine z_getN (v := .ref (L (x1 + 1))) hx hb hts hiX3_maySpeak_X2 hown hK hw (k := x1) h1.2 ((cX_a1 h1.1) _) rfl 3 (by decide) (hE.1 (RX3, 107, "OneSentence$Talk", "times", "[I", "OneSentence") (by decide)) rfl dX3_maySpeak_64 ?_
            refine lv_iload_n hx hb dX3_maySpeak_67 rfl (lv_at hl 3 rfl) ?_
            obtain ⟨v68, h68, hf⟩ := bd_e hf
            refine z_iald hx hb hK hw 0 (k := (x1 + 1)) (kX_times h1).2 ((cX_a4 (kX_times h1).1) _) rfl h68 dX3_maySpeak_68 ?_
            refine lv_if_ne (tgt := 76) hx hb dX3_maySpeak_69 (by decide) (fun c69 => ?_) (fun c69 => ?_)
            · replace hf := if_f hf c69
              refine lv_iconst (v := 0) hx hb dX3_maySpeak_76 (by decide) ?_
              exact z_zret hx hb hr hlk rfl hw hS hf dX3_maySpeak_77
            · replace hf := if_t hf c69
              refine lv_iconst (v := 1) hx hb dX3_maySpeak_72 (by decide) ?_
              refine lv_goto (tgt := 77) hx hb dX3_maySpeak_73 (by decide) ?_
              exact z_zret hx hb hr hlk rfl hw hS hf dX3_maySpeak_77
        · replace hf := if_t hf c27
          refine lv_aload_n hx hb dX3_maySpeak_30 rfl (lv_at hl 1 rfl) ?_
          refine z_getN (v := .int (w.1 x1 1)) hx hb hts hiX3_maySpeak_X2 hown hK hw (k := x1) h1.2 ((cX_a1 h1.1) _) rfl 1 (by decide) (hE.1 (RX3, 229, "OneSentence$Talk", "last", "I", "OneSentence") (by decide)) rfl dX3_maySpeak_31 ?_
          refine lv_bipush (v := (-9)) hx hb dX3_maySpeak_34 (by decide) ?_
          refine lv_icmp_eq (tgt := 51) hx hb dX3_maySpeak_36 (by decide) (fun c36 => ?_) (fun c36 => ?_)
          · replace hf := if_t hf c36
            refine lv_iconst (v := 0) hx hb dX3_maySpeak_51 (by decide) ?_
            exact z_zret hx hb hr hlk rfl hw hS hf dX3_maySpeak_52
          · replace hf := if_f hf c36
            refine lv_aload_n hx hb dX3_maySpeak_39 rfl (lv_at hl 1 rfl) ?_
            refine z_getN (v := .int (w.1 x1 1)) hx hb hts hiX3_maySpeak_X2 hown hK hw (k := x1) h1.2 ((cX_a1 h1.1) _) rfl 1 (by decide) (hE.1 (RX3, 229, "OneSentence$Talk", "last", "I", "OneSentence") (by decide)) rfl dX3_maySpeak_40 ?_
            refine lv_iload_n hx hb dX3_maySpeak_43 rfl (lv_at hl 3 rfl) ?_
            refine lv_icmp_eq (tgt := 51) hx hb dX3_maySpeak_44 (by decide) (fun c44 => ?_) (fun c44 => ?_)
            · replace hf := if_t hf c44
              refine lv_iconst (v := 0) hx hb dX3_maySpeak_51 (by decide) ?_
              exact z_zret hx hb hr hlk rfl hw hS hf dX3_maySpeak_52
            · replace hf := if_f hf c44
              refine lv_iconst (v := 1) hx hb dX3_maySpeak_47 (by decide) ?_
              refine lv_goto (tgt := 52) hx hb dX3_maySpeak_48 (by decide) ?_
              exact z_zret hx hb hr hlk rfl hw hS hf dX3_maySpeak_52
      · replace hf := if_t hf c15
        refine lv_iconst (v := 0) hx hb dX3_maySpeak_18 (by decide) ?_
        exact z_zret hx hb hr hlk rfl hw hS hf dX3_maySpeak_19
set_option maxHeartbeats 4000000 in
set_option maxRecDepth 100000 in
theorem kx_maySpeak (l : Launch) {D : va_G} {L : Nat → Nat} {K : Nat → ClassId} {t0 : Nat} (hJ : gj L 81) (x1 : Nat) (x2 : Int32) (x3 : Int32) (w : St) {w9 : St} {rs : Int32} (h1 : kX x1 = 1 ∧ x1 < 81) (hf : fx_maySpeak x1 x2 x3 w = some (rs, w9)) : Met l yX3_maySpeak wsX3_maySpeak ({ frames := 1, cells := 0, slots := 0, locals := 21 }) (va_Pc [.ref (L 0), .ref (L x1), .int x2, .int x3] (xP D L K t0 w)) (qI D L 81 (cX L K) rs w9) 0 0 (gA L 81) := by
  refine g_met (cc := cX3_maySpeak) (nL := 4) (ret := (some .boolean)) (by decide) rfl (Nat.le_of_ble_eq_true rfl) (fun p e s m below meth c ls C0 hP hl => ?_)
  exact wx_maySpeak_0 hJ C0 hP.2.1 hP.2.2 _ _ _ w _ _ ls h1 hP.1 va_S.rf (lv_sub hl [0, 1, 2, 3] rfl) hf
set_option maxRecDepth 20000 in
theorem ggX3_person_X3_isThere : GoodIn wsX3_person wsX3_isThere := goodIn_r _ [8, 9, 17, 18, 19, 20, 21, 22, 23, 24, 25, 26, 27, 28, 29, 30, 31, 32, 33, 34] (by decide +kernel) (by decide +kernel)
set_option maxRecDepth 20000 in
theorem gX3_person_X3_isThere : GoodIn wsX3_person (wsV RX3 86 RX3 yX3_isThere wsX3_isThere) := goodIn_app (goodIn_of _ (by decide +kernel)) ggX3_person_X3_isThere
set_option maxRecDepth 20000 in
theorem ggX3_person_X3_has : GoodIn wsX3_person wsX3_has := goodIn_r _ [12] (by decide +kernel) (by decide +kernel)
set_option maxRecDepth 20000 in
theorem gX3_person_X3_has : GoodIn wsX3_person (va_wsS RX3 96 yX3_has wsX3_has) := goodIn_app (goodIn_of _ (by decide +kernel)) ggX3_person_X3_has
set_option maxRecDepth 20000 in
theorem ggX3_person_X3_maySpeak : GoodIn wsX3_person wsX3_maySpeak := goodIn_r _ [16, 3, 10, 11, 7, 12, 17, 18, 19, 20, 21, 22, 23, 24, 25, 26, 27, 28, 29, 30, 31, 32, 33, 34, 39, 40, 41, 42] (by decide +kernel) (by decide +kernel)
set_option maxRecDepth 20000 in
theorem gX3_person_X3_maySpeak : GoodIn wsX3_person (wsV RX3 103 RX3 yX3_maySpeak wsX3_maySpeak) := goodIn_app (goodIn_of _ (by decide +kernel)) ggX3_person_X3_maySpeak
theorem dX3_person_0 : decode cX3_person 0 = .ok (.aload_n 0, 1) := by decide +kernel
theorem dX3_person_1 : decode cX3_person 1 = .ok (.iload_n 1, 1) := by decide +kernel
theorem dX3_person_2 : decode cX3_person 2 = .ok (.invokevirtual 86, 3) := by decide +kernel
theorem dX3_person_5 : decode cX3_person 5 = .ok (.ifCond .ne 5, 3) := by decide +kernel
theorem dX3_person_8 : decode cX3_person 8 = .ok (.iconst (-1), 1) := by decide +kernel
theorem dX3_person_9 : decode cX3_person 9 = .ok (.ireturn, 1) := by decide +kernel
theorem dX3_person_10 : decode cX3_person 10 = .ok (.iload_n 2, 1) := by decide +kernel
theorem dX3_person_11 : decode cX3_person 11 = .ok (.tableswitch 142 0 6 #[41, 48, 61, 74, 81, 101, 129], 41) := by decide +kernel
theorem dX3_person_52 : decode cX3_person 52 = .ok (.aload_n 0, 1) := by decide +kernel
theorem dX3_person_53 : decode cX3_person 53 = .ok (.getfield 13, 3) := by decide +kernel
theorem dX3_person_56 : decode cX3_person 56 = .ok (.iload_n 1, 1) := by decide +kernel
theorem dX3_person_57 : decode cX3_person 57 = .ok (.iaload, 1) := by decide +kernel
theorem dX3_person_58 : decode cX3_person 58 = .ok (.ireturn, 1) := by decide +kernel
theorem dX3_person_59 : decode cX3_person 59 = .ok (.aload_n 0, 1) := by decide +kernel
theorem dX3_person_60 : decode cX3_person 60 = .ok (.getfield 23, 3) := by decide +kernel
theorem dX3_person_63 : decode cX3_person 63 = .ok (.getfield 90, 3) := by decide +kernel
theorem dX3_person_66 : decode cX3_person 66 = .ok (.iload_n 1, 1) := by decide +kernel
theorem dX3_person_67 : decode cX3_person 67 = .ok (.iaload, 1) := by decide +kernel
theorem dX3_person_68 : decode cX3_person 68 = .ok (.bipush 10, 2) := by decide +kernel
theorem dX3_person_70 : decode cX3_person 70 = .ok (.idiv, 1) := by decide +kernel
theorem dX3_person_71 : decode cX3_person 71 = .ok (.ireturn, 1) := by decide +kernel
theorem dX3_person_72 : decode cX3_person 72 = .ok (.aload_n 0, 1) := by decide +kernel
theorem dX3_person_73 : decode cX3_person 73 = .ok (.getfield 23, 3) := by decide +kernel
theorem dX3_person_76 : decode cX3_person 76 = .ok (.getfield 90, 3) := by decide +kernel
theorem dX3_person_79 : decode cX3_person 79 = .ok (.iload_n 1, 1) := by decide +kernel
theorem dX3_person_80 : decode cX3_person 80 = .ok (.iaload, 1) := by decide +kernel
theorem dX3_person_81 : decode cX3_person 81 = .ok (.bipush 10, 2) := by decide +kernel
theorem dX3_person_83 : decode cX3_person 83 = .ok (.irem, 1) := by decide +kernel
theorem dX3_person_84 : decode cX3_person 84 = .ok (.ireturn, 1) := by decide +kernel
theorem dX3_person_85 : decode cX3_person 85 = .ok (.aload_n 0, 1) := by decide +kernel
theorem dX3_person_86 : decode cX3_person 86 = .ok (.getfield 17, 3) := by decide +kernel
theorem dX3_person_89 : decode cX3_person 89 = .ok (.iload_n 1, 1) := by decide +kernel
theorem dX3_person_90 : decode cX3_person 90 = .ok (.iaload, 1) := by decide +kernel
theorem dX3_person_91 : decode cX3_person 91 = .ok (.ireturn, 1) := by decide +kernel
theorem dX3_person_92 : decode cX3_person 92 = .ok (.aload_n 0, 1) := by decide +kernel
theorem dX3_person_93 : decode cX3_person 93 = .ok (.getfield 23, 3) := by decide +kernel
theorem dX3_person_96 : decode cX3_person 96 = .ok (.getfield 93, 3) := by decide +kernel
theorem dX3_person_99 : decode cX3_person 99 = .ok (.iload_n 1, 1) := by decide +kernel
theorem dX3_person_100 : decode cX3_person 100 = .ok (.invokestatic 96, 3) := by decide +kernel
theorem dX3_person_103 : decode cX3_person 103 = .ok (.ifCond .eq 7, 3) := by decide +kernel
theorem dX3_person_106 : decode cX3_person 106 = .ok (.iconst 1, 1) := by decide +kernel
theorem dX3_person_107 : decode cX3_person 107 = .ok (.goto 4, 3) := by decide +kernel
theorem dX3_person_110 : decode cX3_person 110 = .ok (.iconst 0, 1) := by decide +kernel
theorem dX3_person_111 : decode cX3_person 111 = .ok (.ireturn, 1) := by decide +kernel
theorem dX3_person_112 : decode cX3_person 112 = .ok (.aload_n 0, 1) := by decide +kernel
theorem dX3_person_113 : decode cX3_person 113 = .ok (.aload_n 0, 1) := by decide +kernel
theorem dX3_person_114 : decode cX3_person 114 = .ok (.getfield 23, 3) := by decide +kernel
theorem dX3_person_117 : decode cX3_person 117 = .ok (.getfield 100, 3) := by decide +kernel
theorem dX3_person_120 : decode cX3_person 120 = .ok (.aload_n 0, 1) := by decide +kernel
theorem dX3_person_121 : decode cX3_person 121 = .ok (.getfield 23, 3) := by decide +kernel
theorem dX3_person_124 : decode cX3_person 124 = .ok (.getfield 93, 3) := by decide +kernel
theorem dX3_person_127 : decode cX3_person 127 = .ok (.iload_n 1, 1) := by decide +kernel
theorem dX3_person_128 : decode cX3_person 128 = .ok (.invokevirtual 103, 3) := by decide +kernel
theorem dX3_person_131 : decode cX3_person 131 = .ok (.ifCond .eq 7, 3) := by decide +kernel
theorem dX3_person_134 : decode cX3_person 134 = .ok (.iconst 1, 1) := by decide +kernel
theorem dX3_person_135 : decode cX3_person 135 = .ok (.goto 4, 3) := by decide +kernel
theorem dX3_person_138 : decode cX3_person 138 = .ok (.iconst 0, 1) := by decide +kernel
theorem dX3_person_139 : decode cX3_person 139 = .ok (.ireturn, 1) := by decide +kernel
theorem dX3_person_140 : decode cX3_person 140 = .ok (.aload_n 0, 1) := by decide +kernel
theorem dX3_person_141 : decode cX3_person 141 = .ok (.getfield 23, 3) := by decide +kernel
theorem dX3_person_144 : decode cX3_person 144 = .ok (.getfield 100, 3) := by decide +kernel
theorem dX3_person_147 : decode cX3_person 147 = .ok (.getfield 107, 3) := by decide +kernel
theorem dX3_person_150 : decode cX3_person 150 = .ok (.iload_n 1, 1) := by decide +kernel
theorem dX3_person_151 : decode cX3_person 151 = .ok (.iaload, 1) := by decide +kernel
theorem dX3_person_152 : decode cX3_person 152 = .ok (.ireturn, 1) := by decide +kernel
theorem dX3_person_153 : decode cX3_person 153 = .ok (.bipush (-2), 2) := by decide +kernel
theorem dX3_person_155 : decode cX3_person 155 = .ok (.ireturn, 1) := by decide +kernel
set_option maxRecDepth 20000 in
theorem hiX3_person_X0 : ∀ w ∈ u_ws RX0 TX0 4, w ∈ wsX3_person := by decide +kernel
set_option maxRecDepth 20000 in
theorem hiX3_person_X2 : ∀ w ∈ u_ws RX2 TX2 4, w ∈ wsX3_person := by decide +kernel
set_option maxRecDepth 20000 in
theorem hiX3_person_X3 : ∀ w ∈ u_ws RX3 TX3 18, w ∈ wsX3_person := by decide +kernel
set_option maxHeartbeats 4000000 in
set_option maxRecDepth 100000 in
theorem wx_person_0 {p : Program} {l : Launch} {e : Env} {s : State} {m : MethodId} {args : Array Value} {below : List Frame} {meth : Method} {c : Code} {D : va_G} {L : Nat → Nat} {K : Nat → ClassId} {t0 : Nat} (hJ : gj L 81) (C0 : gC cX3_person 3 (some .int) wsX3_person RX3 p s m args meth c) (hK : va_K D vwCl (tyG K) s) (hE : eX L t0 s) {w9 : St} {rs : Int32} : ∀ (x1 : Int32) (x2 : Int32) (w : St) (H : Heap) (locs : List Loc) (ls : Array Slot), va_P D vwCl (gl L 81 (cX L K w)) H → va_S (gA L 81) s.heap H locs → lv_has ls 3 [(0, .ref (L 0)), (1, .int x1), (2, .int x2)] → fx_person x1 x2 w = some (rs, w9) → W p l e { frames := 2, cells := 0, slots := 0, locals := 44 } s m args below meth c H locs 0 0 (MQ below (qI D L 81 (cX L K) rs w9) args s 0 0 (gA L 81)) (F0 m 0 ls []) := by
  obtain ⟨hx, hb, hr, hml, hown, hts, hlk⟩ := id C0
  intro x1 x2 w H locs ls hw hS hl hf
  unfold fx_person at hf
  refine lv_aload_n hx hb dX3_person_0 rfl (lv_at hl 0 rfl) ?_
  refine lv_iload_n hx hb dX3_person_1 rfl (lv_at hl 1 rfl) ?_
  obtain ⟨q2, h2, hf⟩ := bd_e hf
  refine z_calli (va_runV (As := [.int x1]) (rest := []) ⟨hx, hb, hml, hown, hts⟩ (kx_isThere l (D := D) (K := K) (t0 := t0) hJ x1 w  h2) (cwV 1 hts gX3_person_X3_isThere rfl rfl rfl (by decide +kernel) ⟨Nat.le_of_ble_eq_true rfl, Nat.le_of_ble_eq_true rfl⟩) (z_preV eX_ok hK hE hw hS kc_0.2 ((cX_a0 kc_0.1) _) (T := TX3) (M := 18) rfl) rfl rfl hl.1 rfl (lv_room (Nat.le_of_ble_eq_true rfl)) dX3_person_2 ⟨Nat.le_of_ble_eq_true rfl, Nat.le_of_ble_eq_true rfl⟩) hS (fun H locs hw hS => ?_)
  refine lv_if_ne (tgt := 10) hx hb dX3_person_5 (by decide) (fun c5 => ?_) (fun c5 => ?_)
  · replace hf := if_f hf c5
    refine lv_iload_n hx hb dX3_person_10 rfl (lv_at hl 2 rfl) ?_
    by_cases c11_0 : x2 = 0
    · replace hf := if_t hf c11_0
      refine lv_tableIn (x := x2) (off := 41) (tgt := 52) hx hb dX3_person_11 (by rw [c11_0]; decide) (by rw [c11_0]; decide) (by rw [c11_0]; rfl) (by decide) ?_
      refine lv_aload_n hx hb dX3_person_52 rfl (lv_at hl 0 rfl) ?_
      refine z_get (v := .ref (L 2)) hx hb hts hiX3_person_X3 hown hK hw (k := 0) kc_0.2 ((cX_a0 kc_0.1) _) rfl 4 (by decide) (hts (.fieldLink RX3 13 "OneSentence" "home" "[I") (by decide +kernel)) rfl dX3_person_53 ?_
      refine lv_iload_n hx hb dX3_person_56 rfl (lv_at hl 1 rfl) ?_
      obtain ⟨v57, h57, hf⟩ := bd_e hf
      refine z_iald hx hb hK hw 0 (k := 2) kc_2.2 ((cX_a4 kc_2.1) _) rfl h57 dX3_person_57 ?_
      exact z_iret hx hb hr hlk hw hS hf dX3_person_58
    · replace hf := if_f hf c11_0
      by_cases c11_1 : x2 = 1
      · replace hf := if_t hf c11_1
        refine lv_tableIn (x := x2) (off := 48) (tgt := 59) hx hb dX3_person_11 (by rw [c11_1]; decide) (by rw [c11_1]; decide) (by rw [c11_1]; rfl) (by decide) ?_
        refine lv_aload_n hx hb dX3_person_59 rfl (lv_at hl 0 rfl) ?_
        refine z_get (v := .ref (L 13)) hx hb hts hiX3_person_X3 hown hK hw (k := 0) kc_0.2 ((cX_a0 kc_0.1) _) rfl 6 (by decide) (hts (.fieldLink RX3 23 "OneSentence" "today" "LOneSentence$Day;") (by decide +kernel)) rfl dX3_person_60 ?_
        refine z_getN (v := .ref (L 16)) hx hb hts hiX3_person_X0 hown hK hw (k := 13) kc_13.2 ((cX_a2 kc_13.1) _) rfl 3 (by decide) (hE.1 (RX3, 90, "OneSentence$Day", "sentence", "[I", "OneSentence") (by decide)) rfl dX3_person_63 ?_
        refine lv_iload_n hx hb dX3_person_66 rfl (lv_at hl 1 rfl) ?_
        obtain ⟨v67, h67, hf⟩ := bd_e hf
        refine z_iald hx hb hK hw 0 (k := 16) kc_16.2 ((cX_a5 kc_16.1) _) rfl h67 dX3_person_67 ?_
        refine lv_bipush (v := 10) hx hb dX3_person_68 (by decide) ?_
        refine lv_idiv hx hb dX3_person_70 (by decide) ?_
        exact z_iret hx hb hr hlk hw hS hf dX3_person_71
      · replace hf := if_f hf c11_1
        by_cases c11_2 : x2 = 2
        · replace hf := if_t hf c11_2
          refine lv_tableIn (x := x2) (off := 61) (tgt := 72) hx hb dX3_person_11 (by rw [c11_2]; decide) (by rw [c11_2]; decide) (by rw [c11_2]; rfl) (by decide) ?_
          refine lv_aload_n hx hb dX3_person_72 rfl (lv_at hl 0 rfl) ?_
          refine z_get (v := .ref (L 13)) hx hb hts hiX3_person_X3 hown hK hw (k := 0) kc_0.2 ((cX_a0 kc_0.1) _) rfl 6 (by decide) (hts (.fieldLink RX3 23 "OneSentence" "today" "LOneSentence$Day;") (by decide +kernel)) rfl dX3_person_73 ?_
          refine z_getN (v := .ref (L 16)) hx hb hts hiX3_person_X0 hown hK hw (k := 13) kc_13.2 ((cX_a2 kc_13.1) _) rfl 3 (by decide) (hE.1 (RX3, 90, "OneSentence$Day", "sentence", "[I", "OneSentence") (by decide)) rfl dX3_person_76 ?_
          refine lv_iload_n hx hb dX3_person_79 rfl (lv_at hl 1 rfl) ?_
          obtain ⟨v80, h80, hf⟩ := bd_e hf
          refine z_iald hx hb hK hw 0 (k := 16) kc_16.2 ((cX_a5 kc_16.1) _) rfl h80 dX3_person_80 ?_
          refine lv_bipush (v := 10) hx hb dX3_person_81 (by decide) ?_
          refine lv_irem hx hb dX3_person_83 (by decide) ?_
          exact z_iret hx hb hr hlk hw hS hf dX3_person_84
        · replace hf := if_f hf c11_2
          by_cases c11_3 : x2 = 3
          · replace hf := if_t hf c11_3
            refine lv_tableIn (x := x2) (off := 74) (tgt := 85) hx hb dX3_person_11 (by rw [c11_3]; decide) (by rw [c11_3]; decide) (by rw [c11_3]; rfl) (by decide) ?_
            refine lv_aload_n hx hb dX3_person_85 rfl (lv_at hl 0 rfl) ?_
            refine z_get (v := .ref (L 3)) hx hb hts hiX3_person_X3 hown hK hw (k := 0) kc_0.2 ((cX_a0 kc_0.1) _) rfl 5 (by decide) (hts (.fieldLink RX3 17 "OneSentence" "kind" "[I") (by decide +kernel)) rfl dX3_person_86 ?_
            refine lv_iload_n hx hb dX3_person_89 rfl (lv_at hl 1 rfl) ?_
            obtain ⟨v90, h90, hf⟩ := bd_e hf
            refine z_iald hx hb hK hw 0 (k := 3) kc_3.2 ((cX_a4 kc_3.1) _) rfl h90 dX3_person_90 ?_
            exact z_iret hx hb hr hlk hw hS hf dX3_person_91
          · replace hf := if_f hf c11_3
            by_cases c11_4 : x2 = 4
            · replace hf := if_t hf c11_4
              refine lv_tableIn (x := x2) (off := 81) (tgt := 92) hx hb dX3_person_11 (by rw [c11_4]; decide) (by rw [c11_4]; decide) (by rw [c11_4]; rfl) (by decide) ?_
              refine lv_aload_n hx hb dX3_person_92 rfl (lv_at hl 0 rfl) ?_
              refine z_get (v := .ref (L 13)) hx hb hts hiX3_person_X3 hown hK hw (k := 0) kc_0.2 ((cX_a0 kc_0.1) _) rfl 6 (by decide) (hts (.fieldLink RX3 23 "OneSentence" "today" "LOneSentence$Day;") (by decide +kernel)) rfl dX3_person_93 ?_
              refine z_getN (v := .int ((q2.2).1 13 1)) hx hb hts hiX3_person_X0 hown hK hw (k := 13) kc_13.2 ((cX_a2 kc_13.1) _) rfl 1 (by decide) (hE.1 (RX3, 93, "OneSentence$Day", "at", "I", "OneSentence") (by decide)) rfl dX3_person_96 ?_
              refine lv_iload_n hx hb dX3_person_99 rfl (lv_at hl 1 rfl) ?_
              obtain ⟨v100, h100, hf⟩ := bd_e hf
              refine z_calls (va_runS (As := [.int ((q2.2).1 13 1), .int x1]) (rest := []) ⟨hx, hb, hml, hown, hts⟩ (kx_has l ((q2.2).1 13 1) x1 h100) (va_cwS 2 hts gX3_person_X3_has rfl rfl rfl (by decide +kernel) ⟨Nat.le_of_ble_eq_true rfl, Nat.le_of_ble_eq_true rfl⟩) z_preT rfl rfl hl.1 rfl (lv_room (Nat.le_of_ble_eq_true rfl)) dX3_person_100 ⟨Nat.le_of_ble_eq_true rfl, Nat.le_of_ble_eq_true rfl⟩) ?_
              refine lv_if_eq (tgt := 110) hx hb dX3_person_103 (by decide) (fun c103 => ?_) (fun c103 => ?_)
              · replace hf := if_t hf c103
                refine lv_iconst (v := 0) hx hb dX3_person_110 (by decide) ?_
                exact z_iret hx hb hr hlk hw hS hf dX3_person_111
              · replace hf := if_f hf c103
                refine lv_iconst (v := 1) hx hb dX3_person_106 (by decide) ?_
                refine lv_goto (tgt := 111) hx hb dX3_person_107 (by decide) ?_
                exact z_iret hx hb hr hlk hw hS hf dX3_person_111
            · replace hf := if_f hf c11_4
              by_cases c11_5 : x2 = 5
              · replace hf := if_t hf c11_5
                refine lv_tableIn (x := x2) (off := 101) (tgt := 112) hx hb dX3_person_11 (by rw [c11_5]; decide) (by rw [c11_5]; decide) (by rw [c11_5]; rfl) (by decide) ?_
                refine lv_aload_n hx hb dX3_person_112 rfl (lv_at hl 0 rfl) ?_
                refine lv_aload_n hx hb dX3_person_113 rfl (lv_at hl 0 rfl) ?_
                refine z_get (v := .ref (L 13)) hx hb hts hiX3_person_X3 hown hK hw (k := 0) kc_0.2 ((cX_a0 kc_0.1) _) rfl 6 (by decide) (hts (.fieldLink RX3 23 "OneSentence" "today" "LOneSentence$Day;") (by decide +kernel)) rfl dX3_person_114 ?_
                refine z_getN (v := .ref (L 14)) hx hb hts hiX3_person_X0 hown hK hw (k := 13) kc_13.2 ((cX_a2 kc_13.1) _) rfl 0 (by decide) (hE.1 (RX3, 100, "OneSentence$Day", "talk", "LOneSentence$Talk;", "OneSentence") (by decide)) rfl dX3_person_117 ?_
                refine lv_aload_n hx hb dX3_person_120 rfl (lv_at hl 0 rfl) ?_
                refine z_get (v := .ref (L 13)) hx hb hts hiX3_person_X3 hown hK hw (k := 0) kc_0.2 ((cX_a0 kc_0.1) _) rfl 6 (by decide) (hts (.fieldLink RX3 23 "OneSentence" "today" "LOneSentence$Day;") (by decide +kernel)) rfl dX3_person_121 ?_
                refine z_getN (v := .int ((q2.2).1 13 1)) hx hb hts hiX3_person_X0 hown hK hw (k := 13) kc_13.2 ((cX_a2 kc_13.1) _) rfl 1 (by decide) (hE.1 (RX3, 93, "OneSentence$Day", "at", "I", "OneSentence") (by decide)) rfl dX3_person_124 ?_
                refine lv_iload_n hx hb dX3_person_127 rfl (lv_at hl 1 rfl) ?_
                obtain ⟨q128, h128, hf⟩ := bd_e hf
                refine z_calli (va_runV (As := [.ref (L 14), .int ((q2.2).1 13 1), .int x1]) (rest := []) ⟨hx, hb, hml, hown, hts⟩ (kx_maySpeak l (D := D) (K := K) (t0 := t0) hJ 14 ((q2.2).1 13 1) x1 (q2.2) kc_14 h128) (cwV 3 hts gX3_person_X3_maySpeak rfl rfl rfl (by decide +kernel) ⟨Nat.le_of_ble_eq_true rfl, Nat.le_of_ble_eq_true rfl⟩) (z_preV eX_ok hK hE hw hS kc_0.2 ((cX_a0 kc_0.1) _) (T := TX3) (M := 18) rfl) rfl rfl hl.1 rfl (lv_room (Nat.le_of_ble_eq_true rfl)) dX3_person_128 ⟨Nat.le_of_ble_eq_true rfl, Nat.le_of_ble_eq_true rfl⟩) hS (fun H locs hw hS => ?_)
                refine lv_if_eq (tgt := 138) hx hb dX3_person_131 (by decide) (fun c131 => ?_) (fun c131 => ?_)
                · replace hf := if_t hf c131
                  refine lv_iconst (v := 0) hx hb dX3_person_138 (by decide) ?_
                  exact z_iret hx hb hr hlk hw hS hf dX3_person_139
                · replace hf := if_f hf c131
                  refine lv_iconst (v := 1) hx hb dX3_person_134 (by decide) ?_
                  refine lv_goto (tgt := 139) hx hb dX3_person_135 (by decide) ?_
                  exact z_iret hx hb hr hlk hw hS hf dX3_person_139
              · replace hf := if_f hf c11_5
                by_cases c11_6 : x2 = 6
                · replace hf := if_t hf c11_6
                  refine lv_tableIn (x := x2) (off := 129) (tgt := 140) hx hb dX3_person_11 (by rw [c11_6]; decide) (by rw [c11_6]; decide) (by rw [c11_6]; rfl) (by decide) ?_
                  refine lv_aload_n hx hb dX3_person_140 rfl (lv_at hl 0 rfl) ?_
                  refine z_get (v := .ref (L 13)) hx hb hts hiX3_person_X3 hown hK hw (k := 0) kc_0.2 ((cX_a0 kc_0.1) _) rfl 6 (by decide) (hts (.fieldLink RX3 23 "OneSentence" "today" "LOneSentence$Day;") (by decide +kernel)) rfl dX3_person_141 ?_
                  refine z_getN (v := .ref (L 14)) hx hb hts hiX3_person_X0 hown hK hw (k := 13) kc_13.2 ((cX_a2 kc_13.1) _) rfl 0 (by decide) (hE.1 (RX3, 100, "OneSentence$Day", "talk", "LOneSentence$Talk;", "OneSentence") (by decide)) rfl dX3_person_144 ?_
                  refine z_getN (v := .ref (L 15)) hx hb hts hiX3_person_X2 hown hK hw (k := 14) kc_14.2 ((cX_a1 kc_14.1) _) rfl 3 (by decide) (hE.1 (RX3, 107, "OneSentence$Talk", "times", "[I", "OneSentence") (by decide)) rfl dX3_person_147 ?_
                  refine lv_iload_n hx hb dX3_person_150 rfl (lv_at hl 1 rfl) ?_
                  obtain ⟨v151, h151, hf⟩ := bd_e hf
                  refine z_iald hx hb hK hw 0 (k := 15) kc_15.2 ((cX_a4 kc_15.1) _) rfl h151 dX3_person_151 ?_
                  exact z_iret hx hb hr hlk hw hS hf dX3_person_152
                · replace hf := if_f hf c11_6
                  have z11 : ∀ z, z < 7 → ¬ x2 = nI z := by
                    intro z hz
                    rcases (show z = 0 ∨ z = 1 ∨ z = 2 ∨ z = 3 ∨ z = 4 ∨ z = 5 ∨ z = 6 by omega) with rfl | rfl | rfl | rfl | rfl | rfl | rfl
                    · exact c11_0
                    · exact c11_1
                    · exact c11_2
                    · exact c11_3
                    · exact c11_4
                    · exact c11_5
                    · exact c11_6
                  refine lv_tableOut (x := x2) (tgt := 153) hx hb dX3_person_11 (z_out (by decide) z11 rfl) (by decide) ?_
                  refine lv_bipush (v := (-2)) hx hb dX3_person_153 (by decide) ?_
                  exact z_iret hx hb hr hlk hw hS hf dX3_person_155
  · replace hf := if_t hf c5
    refine lv_iconst (v := (-1)) hx hb dX3_person_8 (by decide) ?_
    exact z_iret hx hb hr hlk hw hS hf dX3_person_9
set_option maxHeartbeats 4000000 in
set_option maxRecDepth 100000 in
theorem kx_person (l : Launch) {D : va_G} {L : Nat → Nat} {K : Nat → ClassId} {t0 : Nat} (hJ : gj L 81) (x1 : Int32) (x2 : Int32) (w : St) {w9 : St} {rs : Int32} (hf : fx_person x1 x2 w = some (rs, w9)) : Met l yX3_person wsX3_person ({ frames := 2, cells := 0, slots := 0, locals := 44 }) (va_Pc [.ref (L 0), .int x1, .int x2] (xP D L K t0 w)) (qI D L 81 (cX L K) rs w9) 0 0 (gA L 81) := by
  refine g_met (cc := cX3_person) (nL := 3) (ret := (some .int)) (by decide) rfl (Nat.le_of_ble_eq_true rfl) (fun p e s m below meth c ls C0 hP hl => ?_)
  exact wx_person_0 hJ C0 hP.2.1 hP.2.2 _ _ w _ _ ls hP.1 va_S.rf (lv_sub hl [0, 1, 2] rfl) hf
set_option maxRecDepth 20000 in
theorem ggX3_remember_X0_become : GoodIn wsX3_remember wsX0_become := goodIn_r _ [8, 9, 10, 11, 12, 13, 14, 15, 16, 17, 18, 19, 20, 39, 40, 41, 42, 43, 44, 45, 46] (by decide +kernel) (by decide +kernel)
set_option maxRecDepth 20000 in
theorem gX3_remember_X0_become_n137 : GoodIn wsX3_remember (wsX0_become) := ggX3_remember_X0_become
theorem dX3_remember_0 : decode cX3_remember 0 = .ok (.aload_n 0, 1) := by decide +kernel
theorem dX3_remember_1 : decode cX3_remember 1 = .ok (.getfield 134, 3) := by decide +kernel
theorem dX3_remember_4 : decode cX3_remember 4 = .ok (.aload_n 0, 1) := by decide +kernel
theorem dX3_remember_5 : decode cX3_remember 5 = .ok (.getfield 131, 3) := by decide +kernel
theorem dX3_remember_8 : decode cX3_remember 8 = .ok (.iadd, 1) := by decide +kernel
theorem dX3_remember_9 : decode cX3_remember 9 = .ok (.bipush 14, 2) := by decide +kernel
theorem dX3_remember_11 : decode cX3_remember 11 = .ok (.irem, 1) := by decide +kernel
theorem dX3_remember_12 : decode cX3_remember 12 = .ok (.istore_n 1, 1) := by decide +kernel
theorem dX3_remember_13 : decode cX3_remember 13 = .ok (.iload_n 1, 1) := by decide +kernel
theorem dX3_remember_14 : decode cX3_remember 14 = .ok (.ifCond .lt 25, 3) := by decide +kernel
theorem dX3_remember_17 : decode cX3_remember 17 = .ok (.iload_n 1, 1) := by decide +kernel
theorem dX3_remember_18 : decode cX3_remember 18 = .ok (.aload_n 0, 1) := by decide +kernel
theorem dX3_remember_19 : decode cX3_remember 19 = .ok (.getfield 27, 3) := by decide +kernel
theorem dX3_remember_22 : decode cX3_remember 22 = .ok (.arraylength, 1) := by decide +kernel
theorem dX3_remember_23 : decode cX3_remember 23 = .ok (.if_icmp .ge 16, 3) := by decide +kernel
theorem dX3_remember_26 : decode cX3_remember 26 = .ok (.aload_n 0, 1) := by decide +kernel
theorem dX3_remember_27 : decode cX3_remember 27 = .ok (.getfield 27, 3) := by decide +kernel
theorem dX3_remember_30 : decode cX3_remember 30 = .ok (.iload_n 1, 1) := by decide +kernel
theorem dX3_remember_31 : decode cX3_remember 31 = .ok (.aaload, 1) := by decide +kernel
theorem dX3_remember_32 : decode cX3_remember 32 = .ok (.aload_n 0, 1) := by decide +kernel
theorem dX3_remember_33 : decode cX3_remember 33 = .ok (.getfield 23, 3) := by decide +kernel
theorem dX3_remember_36 : decode cX3_remember 36 = .ok (.invokevirtual 137, 3) := by decide +kernel
theorem dX3_remember_39 : decode cX3_remember 39 = .ok (.aload_n 0, 1) := by decide +kernel
theorem dX3_remember_40 : decode cX3_remember 40 = .ok (.getfield 131, 3) := by decide +kernel
theorem dX3_remember_43 : decode cX3_remember 43 = .ok (.bipush 14, 2) := by decide +kernel
theorem dX3_remember_45 : decode cX3_remember 45 = .ok (.if_icmp .ge 16, 3) := by decide +kernel
theorem dX3_remember_48 : decode cX3_remember 48 = .ok (.aload_n 0, 1) := by decide +kernel
theorem dX3_remember_49 : decode cX3_remember 49 = .ok (.dup, 1) := by decide +kernel
theorem dX3_remember_50 : decode cX3_remember 50 = .ok (.getfield 131, 3) := by decide +kernel
theorem dX3_remember_53 : decode cX3_remember 53 = .ok (.iconst 1, 1) := by decide +kernel
theorem dX3_remember_54 : decode cX3_remember 54 = .ok (.iadd, 1) := by decide +kernel
theorem dX3_remember_55 : decode cX3_remember 55 = .ok (.putfield 131, 3) := by decide +kernel
theorem dX3_remember_58 : decode cX3_remember 58 = .ok (.goto 16, 3) := by decide +kernel
theorem dX3_remember_61 : decode cX3_remember 61 = .ok (.aload_n 0, 1) := by decide +kernel
theorem dX3_remember_62 : decode cX3_remember 62 = .ok (.aload_n 0, 1) := by decide +kernel
theorem dX3_remember_63 : decode cX3_remember 63 = .ok (.getfield 134, 3) := by decide +kernel
theorem dX3_remember_66 : decode cX3_remember 66 = .ok (.iconst 1, 1) := by decide +kernel
theorem dX3_remember_67 : decode cX3_remember 67 = .ok (.iadd, 1) := by decide +kernel
theorem dX3_remember_68 : decode cX3_remember 68 = .ok (.bipush 14, 2) := by decide +kernel
theorem dX3_remember_70 : decode cX3_remember 70 = .ok (.irem, 1) := by decide +kernel
theorem dX3_remember_71 : decode cX3_remember 71 = .ok (.putfield 134, 3) := by decide +kernel
theorem dX3_remember_74 : decode cX3_remember 74 = .ok (.return_, 1) := by decide +kernel
set_option maxRecDepth 20000 in
theorem hiX3_remember_X3 : ∀ w ∈ u_ws RX3 TX3 18, w ∈ wsX3_remember := by decide +kernel
set_option maxHeartbeats 4000000 in
set_option maxRecDepth 100000 in
theorem wx_remember_39 {p : Program} {l : Launch} {e : Env} {s : State} {m : MethodId} {args : Array Value} {below : List Frame} {meth : Method} {c : Code} {D : va_G} {L : Nat → Nat} {K : Nat → ClassId} {t0 : Nat} (hJ : gj L 81) (C0 : gC cX3_remember 2 none wsX3_remember RX3 p s m args meth c) (hK : va_K D vwCl (tyG K) s) (hE : eX L t0 s) {w9 : St} : ∀ (w : St) (H : Heap) (locs : List Loc) (ls : Array Slot), va_P D vwCl (gl L 81 (cX L K w)) H → va_S (gA L 81) s.heap H locs → lv_has ls 2 [(0, .ref (L 0))] → fx_remember_39 w = some w9 → W p l e { frames := 2, cells := 0, slots := 0, locals := 44 } s m args below meth c H locs 0 0 (MQ below (qV D L 81 (cX L K) w9) args s 0 0 (gA L 81)) (F0 m 39 ls []) := by
  obtain ⟨hx, hb, hr, hml, hown, hts, hlk⟩ := id C0
  intro w H locs ls hw hS hl hf
  unfold fx_remember_39 at hf
  refine lv_aload_n hx hb dX3_remember_39 rfl (lv_at hl 0 rfl) ?_
  refine z_get (v := .int (w.1 0 9)) hx hb hts hiX3_remember_X3 hown hK hw (k := 0) kc_0.2 ((cX_a0 kc_0.1) _) rfl 9 (by decide) (hts (.fieldLink RX3 131 "OneSentence" "acts" "I") (by decide +kernel)) rfl dX3_remember_40 ?_
  refine lv_bipush (v := 14) hx hb dX3_remember_43 (by decide) ?_
  refine lv_icmp_ge (tgt := 61) hx hb dX3_remember_45 (by decide) (fun c45 => ?_) (fun c45 => ?_)
  · replace hf := if_t hf c45
    refine lv_aload_n hx hb dX3_remember_61 rfl (lv_at hl 0 rfl) ?_
    refine lv_aload_n hx hb dX3_remember_62 rfl (lv_at hl 0 rfl) ?_
    refine z_get (v := .int (w.1 0 8)) hx hb hts hiX3_remember_X3 hown hK hw (k := 0) kc_0.2 ((cX_a0 kc_0.1) _) rfl 8 (by decide) (hts (.fieldLink RX3 134 "OneSentence" "firstAct" "I") (by decide +kernel)) rfl dX3_remember_63 ?_
    refine lv_iconst (v := 1) hx hb dX3_remember_66 (by decide) ?_
    refine lv_iadd hx hb dX3_remember_67 ?_
    refine lv_bipush (v := 14) hx hb dX3_remember_68 (by decide) ?_
    refine lv_irem hx hb dX3_remember_70 (by decide) ?_
    refine z_puti hx hb hts hiX3_remember_X3 tyX3 tyX3_ok nmX3 hown hK hJ hw hS (k := 0) kc_0.2 cX_ne (fs := (fX0 L)) (cX_a0 kc_0.1) rfl 8 (by decide) (hts (.fieldLink RX3 134 "OneSentence" "firstAct" "I") (by decide +kernel)) rfl rfl (fun _ _ => ⟨Nat.le_of_ble_eq_true rfl, rfl⟩) dX3_remember_71 (fun H locs hw hS => ?_)
    exact z_vret hx hb hr hlk hw hS hf dX3_remember_74
  · replace hf := if_f hf c45
    refine lv_aload_n hx hb dX3_remember_48 rfl (lv_at hl 0 rfl) ?_
    refine lv_dup hx hb dX3_remember_49 rfl ?_
    refine z_get (v := .int (w.1 0 9)) hx hb hts hiX3_remember_X3 hown hK hw (k := 0) kc_0.2 ((cX_a0 kc_0.1) _) rfl 9 (by decide) (hts (.fieldLink RX3 131 "OneSentence" "acts" "I") (by decide +kernel)) rfl dX3_remember_50 ?_
    refine lv_iconst (v := 1) hx hb dX3_remember_53 (by decide) ?_
    refine lv_iadd hx hb dX3_remember_54 ?_
    refine z_puti hx hb hts hiX3_remember_X3 tyX3 tyX3_ok nmX3 hown hK hJ hw hS (k := 0) kc_0.2 cX_ne (fs := (fX0 L)) (cX_a0 kc_0.1) rfl 9 (by decide) (hts (.fieldLink RX3 131 "OneSentence" "acts" "I") (by decide +kernel)) rfl rfl (fun _ _ => ⟨Nat.le_of_ble_eq_true rfl, rfl⟩) dX3_remember_55 (fun H locs hw hS => ?_)
    refine lv_goto (tgt := 74) hx hb dX3_remember_58 (by decide) ?_
    exact z_vret hx hb hr hlk hw hS hf dX3_remember_74
set_option maxHeartbeats 4000000 in
set_option maxRecDepth 100000 in
theorem wx_remember_0 {p : Program} {l : Launch} {e : Env} {s : State} {m : MethodId} {args : Array Value} {below : List Frame} {meth : Method} {c : Code} {D : va_G} {L : Nat → Nat} {K : Nat → ClassId} {t0 : Nat} (hJ : gj L 81) (C0 : gC cX3_remember 2 none wsX3_remember RX3 p s m args meth c) (hK : va_K D vwCl (tyG K) s) (hE : eX L t0 s) {w9 : St} : ∀ (w : St) (H : Heap) (locs : List Loc) (ls : Array Slot), va_P D vwCl (gl L 81 (cX L K w)) H → va_S (gA L 81) s.heap H locs → lv_has ls 2 [(0, .ref (L 0))] → fx_remember w = some w9 → W p l e { frames := 2, cells := 0, slots := 0, locals := 44 } s m args below meth c H locs 0 0 (MQ below (qV D L 81 (cX L K) w9) args s 0 0 (gA L 81)) (F0 m 0 ls []) := by
  obtain ⟨hx, hb, hr, hml, hown, hts, hlk⟩ := id C0
  intro w H locs ls hw hS hl hf
  unfold fx_remember at hf
  refine lv_aload_n hx hb dX3_remember_0 rfl (lv_at hl 0 rfl) ?_
  refine z_get (v := .int (w.1 0 8)) hx hb hts hiX3_remember_X3 hown hK hw (k := 0) kc_0.2 ((cX_a0 kc_0.1) _) rfl 8 (by decide) (hts (.fieldLink RX3 134 "OneSentence" "firstAct" "I") (by decide +kernel)) rfl dX3_remember_1 ?_
  refine lv_aload_n hx hb dX3_remember_4 rfl (lv_at hl 0 rfl) ?_
  refine z_get (v := .int (w.1 0 9)) hx hb hts hiX3_remember_X3 hown hK hw (k := 0) kc_0.2 ((cX_a0 kc_0.1) _) rfl 9 (by decide) (hts (.fieldLink RX3 131 "OneSentence" "acts" "I") (by decide +kernel)) rfl dX3_remember_5 ?_
  refine lv_iadd hx hb dX3_remember_8 ?_
  refine lv_bipush (v := 14) hx hb dX3_remember_9 (by decide) ?_
  refine lv_irem hx hb dX3_remember_11 (by decide) ?_
  refine lv_topi (fun v12 e12 => ?_)
  replace hf := lb_e hf e12
  refine lv_istore_n (lv' := [(1, .int v12), (0, .ref (L 0))]) hx hb dX3_remember_12 rfl hl (by decide) rfl (fun ls hl => ?_)
  refine lv_iload_n hx hb dX3_remember_13 rfl (lv_at hl 0 rfl) ?_
  refine lv_if_lt (tgt := 39) hx hb dX3_remember_14 (by decide) (fun c14 => ?_) (fun c14 => ?_)
  · replace hf := if_t hf c14
    exact wx_remember_39 hJ C0 hK hE _ _ _ _ hw hS (lv_sub hl [1] rfl) hf
  · replace hf := if_f hf c14
    refine lv_iload_n hx hb dX3_remember_17 rfl (lv_at hl 0 rfl) ?_
    refine lv_aload_n hx hb dX3_remember_18 rfl (lv_at hl 1 rfl) ?_
    refine z_get (v := .ref (L 4)) hx hb hts hiX3_remember_X3 hown hK hw (k := 0) kc_0.2 ((cX_a0 kc_0.1) _) rfl 7 (by decide) (hts (.fieldLink RX3 27 "OneSentence" "past" "[LOneSentence$Day;") (by decide +kernel)) rfl dX3_remember_19 ?_
    refine z_alen (v := 14) hx hb hK hw 3 (k := 4) kc_4.2 ((cX_a7 kc_4.1) _) rfl rfl dX3_remember_22 ?_
    refine lv_icmp_ge (tgt := 39) hx hb dX3_remember_23 (by decide) (fun c23 => ?_) (fun c23 => ?_)
    · replace hf := if_t hf c23
      exact wx_remember_39 hJ C0 hK hE _ _ _ _ hw hS (lv_sub hl [1] rfl) hf
    · replace hf := if_f hf c23
      refine lv_aload_n hx hb dX3_remember_26 rfl (lv_at hl 1 rfl) ?_
      refine z_get (v := .ref (L 4)) hx hb hts hiX3_remember_X3 hown hK hw (k := 0) kc_0.2 ((cX_a0 kc_0.1) _) rfl 7 (by decide) (hts (.fieldLink RX3 27 "OneSentence" "past" "[LOneSentence$Day;") (by decide +kernel)) rfl dX3_remember_27 ?_
      refine lv_iload_n hx hb dX3_remember_30 rfl (lv_at hl 0 rfl) ?_
      obtain ⟨q31, h31, hf⟩ := bd_e hf
      refine z_aald hx hb hK hw 3 (k := 4) kc_4.2 ((cX_a7 kc_4.1) _) rfl h31 dX3_remember_31 ?_
      refine lv_aload_n hx hb dX3_remember_32 rfl (lv_at hl 1 rfl) ?_
      refine z_get (v := .ref (L 13)) hx hb hts hiX3_remember_X3 hown hK hw (k := 0) kc_0.2 ((cX_a0 kc_0.1) _) rfl 6 (by decide) (hts (.fieldLink RX3 23 "OneSentence" "today" "LOneSentence$Day;") (by decide +kernel)) rfl dX3_remember_33 ?_
      obtain ⟨w36, h36, hf⟩ := bd_e hf
      refine z_callv (va_runVN (As := [.ref (L 13)]) (rest := []) ⟨hx, hb, hml, hown, hts⟩ (kd_become l (D := D) (K := K) (t0 := t0) hJ (17 + 4 * q31) 13 w (kX_past (gq_lt h31)) kc_13 h36) ⟨va_cnB 1 hts gX3_remember_X0_become_n137 rfl rfl rfl (hE.2.1 (RX3, 137, yX0_become, "OneSentence") (by decide)) (hts (.initialized RX0) (by decide +kernel)) (by decide +kernel) ⟨Nat.le_of_ble_eq_true rfl, Nat.le_of_ble_eq_true rfl⟩, hts (.instanceMethod yX0_become) (by decide +kernel), hts (.selects RX0 yX0_become yX0_become) (by decide +kernel)⟩ (z_preV eX_ok hK hE hw hS (kX_past (gq_lt h31)).2 ((cX_a2 (kX_past (gq_lt h31)).1) _) (T := TX0) (M := 4) rfl) rfl rfl hl.1 rfl (lv_room (Nat.le_of_ble_eq_true rfl)) dX3_remember_36 ⟨Nat.le_of_ble_eq_true rfl, Nat.le_of_ble_eq_true rfl⟩) hS (fun H locs hw hS => ?_)
      exact wx_remember_39 hJ C0 hK hE _ _ _ _ hw hS (lv_sub hl [1] rfl) hf
set_option maxHeartbeats 4000000 in
set_option maxRecDepth 100000 in
theorem kx_remember (l : Launch) {D : va_G} {L : Nat → Nat} {K : Nat → ClassId} {t0 : Nat} (hJ : gj L 81) (w : St) {w9 : St} (hf : fx_remember w = some w9) : Met l yX3_remember wsX3_remember ({ frames := 2, cells := 0, slots := 0, locals := 44 }) (va_Pc [.ref (L 0)] (xP D L K t0 w)) (qV D L 81 (cX L K) w9) 0 0 (gA L 81) := by
  refine g_met (cc := cX3_remember) (nL := 2) (ret := none) (by decide) rfl (Nat.le_of_ble_eq_true rfl) (fun p e s m below meth c ls C0 hP hl => ?_)
  exact wx_remember_0 hJ C0 hP.2.1 hP.2.2 w _ _ ls hP.1 va_S.rf (lv_sub hl [0] rfl) hf
set_option maxRecDepth 20000 in
theorem ggX3_hoursFrom_X3_isThere : GoodIn wsX3_hoursFrom wsX3_isThere := goodIn_r _ [11, 12, 13, 14, 15, 16, 17, 18, 19, 20, 21, 22, 23, 24, 25, 26, 27, 28, 29, 30] (by decide +kernel) (by decide +kernel)
set_option maxRecDepth 20000 in
theorem gX3_hoursFrom_X3_isThere : GoodIn wsX3_hoursFrom (wsV RX3 86 RX3 yX3_isThere wsX3_isThere) := goodIn_app (goodIn_of _ (by decide +kernel)) ggX3_hoursFrom_X3_isThere
theorem dX3_hoursFrom_0 : decode cX3_hoursFrom 0 = .ok (.aload_n 0, 1) := by decide +kernel
theorem dX3_hoursFrom_1 : decode cX3_hoursFrom 1 = .ok (.iload_n 1, 1) := by decide +kernel
theorem dX3_hoursFrom_2 : decode cX3_hoursFrom 2 = .ok (.invokevirtual 86, 3) := by decide +kernel
theorem dX3_hoursFrom_5 : decode cX3_hoursFrom 5 = .ok (.ifCond .eq 20, 3) := by decide +kernel
theorem dX3_hoursFrom_8 : decode cX3_hoursFrom 8 = .ok (.aload_n 0, 1) := by decide +kernel
theorem dX3_hoursFrom_9 : decode cX3_hoursFrom 9 = .ok (.getfield 13, 3) := by decide +kernel
theorem dX3_hoursFrom_12 : decode cX3_hoursFrom 12 = .ok (.iload_n 1, 1) := by decide +kernel
theorem dX3_hoursFrom_13 : decode cX3_hoursFrom 13 = .ok (.iaload, 1) := by decide +kernel
theorem dX3_hoursFrom_14 : decode cX3_hoursFrom 14 = .ok (.aload_n 0, 1) := by decide +kernel
theorem dX3_hoursFrom_15 : decode cX3_hoursFrom 15 = .ok (.getfield 70, 3) := by decide +kernel
theorem dX3_hoursFrom_18 : decode cX3_hoursFrom 18 = .ok (.isub, 1) := by decide +kernel
theorem dX3_hoursFrom_19 : decode cX3_hoursFrom 19 = .ok (.invokestatic 240, 3) := by decide +kernel
theorem dX3_hoursFrom_22 : decode cX3_hoursFrom 22 = .ok (.goto 4, 3) := by decide +kernel
theorem dX3_hoursFrom_25 : decode cX3_hoursFrom 25 = .ok (.iconst 0, 1) := by decide +kernel
theorem dX3_hoursFrom_26 : decode cX3_hoursFrom 26 = .ok (.ireturn, 1) := by decide +kernel
set_option maxRecDepth 20000 in
theorem hiX3_hoursFrom_X3 : ∀ w ∈ u_ws RX3 TX3 18, w ∈ wsX3_hoursFrom := by decide +kernel
set_option maxHeartbeats 4000000 in
set_option maxRecDepth 100000 in
theorem wx_hoursFrom_0 {p : Program} {l : Launch} {e : Env} {s : State} {m : MethodId} {args : Array Value} {below : List Frame} {meth : Method} {c : Code} {D : va_G} {L : Nat → Nat} {K : Nat → ClassId} {t0 : Nat} (hJ : gj L 81) (C0 : gC cX3_hoursFrom 2 (some .int) wsX3_hoursFrom RX3 p s m args meth c) (hK : va_K D vwCl (tyG K) s) (hE : eX L t0 s) {w9 : St} {rs : Int32} : ∀ (x1 : Int32) (w : St) (H : Heap) (locs : List Loc) (ls : Array Slot), va_P D vwCl (gl L 81 (cX L K w)) H → va_S (gA L 81) s.heap H locs → lv_has ls 2 [(0, .ref (L 0)), (1, .int x1)] → fx_hoursFrom x1 w = some (rs, w9) → W p l e { frames := 1, cells := 0, slots := 0, locals := 21 } s m args below meth c H locs 0 0 (MQ below (qI D L 81 (cX L K) rs w9) args s 0 0 (gA L 81)) (F0 m 0 ls []) := by
  obtain ⟨hx, hb, hr, hml, hown, hts, hlk⟩ := id C0
  intro x1 w H locs ls hw hS hl hf
  unfold fx_hoursFrom at hf
  refine lv_aload_n hx hb dX3_hoursFrom_0 rfl (lv_at hl 0 rfl) ?_
  refine lv_iload_n hx hb dX3_hoursFrom_1 rfl (lv_at hl 1 rfl) ?_
  obtain ⟨q2, h2, hf⟩ := bd_e hf
  refine z_calli (va_runV (As := [.int x1]) (rest := []) ⟨hx, hb, hml, hown, hts⟩ (kx_isThere l (D := D) (K := K) (t0 := t0) hJ x1 w  h2) (cwV 1 hts gX3_hoursFrom_X3_isThere rfl rfl rfl (by decide +kernel) ⟨Nat.le_of_ble_eq_true rfl, Nat.le_of_ble_eq_true rfl⟩) (z_preV eX_ok hK hE hw hS kc_0.2 ((cX_a0 kc_0.1) _) (T := TX3) (M := 18) rfl) rfl rfl hl.1 rfl (lv_room (Nat.le_of_ble_eq_true rfl)) dX3_hoursFrom_2 ⟨Nat.le_of_ble_eq_true rfl, Nat.le_of_ble_eq_true rfl⟩) hS (fun H locs hw hS => ?_)
  refine lv_if_eq (tgt := 25) hx hb dX3_hoursFrom_5 (by decide) (fun c5 => ?_) (fun c5 => ?_)
  · replace hf := if_t hf c5
    refine lv_iconst (v := 0) hx hb dX3_hoursFrom_25 (by decide) ?_
    exact z_iret hx hb hr hlk hw hS hf dX3_hoursFrom_26
  · replace hf := if_f hf c5
    refine lv_aload_n hx hb dX3_hoursFrom_8 rfl (lv_at hl 0 rfl) ?_
    refine z_get (v := .ref (L 2)) hx hb hts hiX3_hoursFrom_X3 hown hK hw (k := 0) kc_0.2 ((cX_a0 kc_0.1) _) rfl 4 (by decide) (hts (.fieldLink RX3 13 "OneSentence" "home" "[I") (by decide +kernel)) rfl dX3_hoursFrom_9 ?_
    refine lv_iload_n hx hb dX3_hoursFrom_12 rfl (lv_at hl 1 rfl) ?_
    obtain ⟨v13, h13, hf⟩ := bd_e hf
    refine z_iald hx hb hK hw 0 (k := 2) kc_2.2 ((cX_a4 kc_2.1) _) rfl h13 dX3_hoursFrom_13 ?_
    refine lv_aload_n hx hb dX3_hoursFrom_14 rfl (lv_at hl 0 rfl) ?_
    refine z_get (v := .int ((q2.2).1 0 2)) hx hb hts hiX3_hoursFrom_X3 hown hK hw (k := 0) kc_0.2 ((cX_a0 kc_0.1) _) rfl 2 (by decide) (hts (.fieldLink RX3 70 "OneSentence" "market" "I") (by decide +kernel)) rfl dX3_hoursFrom_15 ?_
    refine lv_isub hx hb dX3_hoursFrom_18 ?_
    refine va_mabs hx hb (by rw [hml]; exact hl.1.symm) hown (hts (.methodLink RX3 240 Lib.Math.abs.name) (by decide +kernel)) (hts (.static Lib.Math.abs.name) (by decide +kernel)) (hts (.initialized "java/lang/Math") (by decide +kernel)) (hts (.code Lib.Math.abs.name Lib.Math.abs.code 1 (some .int)) (by decide +kernel)) (Nat.le_of_ble_eq_true rfl) (Nat.le_of_ble_eq_true rfl) (Nat.le_of_ble_eq_true rfl) (Nat.le_of_ble_eq_true rfl) dX3_hoursFrom_19 ?_
    refine lv_goto (tgt := 26) hx hb dX3_hoursFrom_22 (by decide) ?_
    exact z_iret hx hb hr hlk hw hS hf dX3_hoursFrom_26
set_option maxHeartbeats 4000000 in
set_option maxRecDepth 100000 in
theorem kx_hoursFrom (l : Launch) {D : va_G} {L : Nat → Nat} {K : Nat → ClassId} {t0 : Nat} (hJ : gj L 81) (x1 : Int32) (w : St) {w9 : St} {rs : Int32} (hf : fx_hoursFrom x1 w = some (rs, w9)) : Met l yX3_hoursFrom wsX3_hoursFrom ({ frames := 1, cells := 0, slots := 0, locals := 21 }) (va_Pc [.ref (L 0), .int x1] (xP D L K t0 w)) (qI D L 81 (cX L K) rs w9) 0 0 (gA L 81) := by
  refine g_met (cc := cX3_hoursFrom) (nL := 2) (ret := (some .int)) (by decide) rfl (Nat.le_of_ble_eq_true rfl) (fun p e s m below meth c ls C0 hP hl => ?_)
  exact wx_hoursFrom_0 hJ C0 hP.2.1 hP.2.2 _ w _ _ ls hP.1 va_S.rf (lv_sub hl [0, 1] rfl) hf
