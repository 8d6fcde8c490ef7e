theorem dX2_begin_0 : decode cX2_begin 0 = .ok (.aload_n 0, 1) := by decide +kernel
theorem dX2_begin_1 : decode cX2_begin 1 = .ok (.iconst 0, 1) := by decide +kernel
theorem dX2_begin_2 : decode cX2_begin 2 = .ok (.putfield 22, 3) := by decide +kernel
theorem dX2_begin_5 : decode cX2_begin 5 = .ok (.aload_n 0, 1) := by decide +kernel
theorem dX2_begin_6 : decode cX2_begin 6 = .ok (.bipush (-9), 2) := by decide +kernel
theorem dX2_begin_8 : decode cX2_begin 8 = .ok (.putfield 9, 3) := by decide +kernel
theorem dX2_begin_11 : decode cX2_begin 11 = .ok (.aload_n 0, 1) := by decide +kernel
theorem dX2_begin_12 : decode cX2_begin 12 = .ok (.bipush (-9), 2) := by decide +kernel
theorem dX2_begin_14 : decode cX2_begin 14 = .ok (.putfield 15, 3) := by decide +kernel
theorem dX2_begin_17 : decode cX2_begin 17 = .ok (.iconst 0, 1) := by decide +kernel
theorem dX2_begin_18 : decode cX2_begin 18 = .ok (.istore_n 1, 1) := by decide +kernel
theorem dX2_begin_19 : decode cX2_begin 19 = .ok (.iload_n 1, 1) := by decide +kernel
theorem dX2_begin_20 : decode cX2_begin 20 = .ok (.aload_n 0, 1) := by decide +kernel
theorem dX2_begin_21 : decode cX2_begin 21 = .ok (.getfield 18, 3) := by decide +kernel
theorem dX2_begin_24 : decode cX2_begin 24 = .ok (.arraylength, 1) := by decide +kernel
theorem dX2_begin_25 : decode cX2_begin 25 = .ok (.if_icmp .ge 16, 3) := by decide +kernel
theorem dX2_begin_28 : decode cX2_begin 28 = .ok (.aload_n 0, 1) := by decide +kernel
theorem dX2_begin_29 : decode cX2_begin 29 = .ok (.getfield 18, 3) := by decide +kernel
theorem dX2_begin_32 : decode cX2_begin 32 = .ok (.iload_n 1, 1) := by decide +kernel
theorem dX2_begin_33 : decode cX2_begin 33 = .ok (.iconst 0, 1) := by decide +kernel
theorem dX2_begin_34 : decode cX2_begin 34 = .ok (.iastore, 1) := by decide +kernel
theorem dX2_begin_35 : decode cX2_begin 35 = .ok (.iinc 1 1, 3) := by decide +kernel
theorem dX2_begin_38 : decode cX2_begin 38 = .ok (.goto (-19), 3) := by decide +kernel
theorem dX2_begin_41 : decode cX2_begin 41 = .ok (.return_, 1) := by decide +kernel
set_option maxRecDepth 20000 in
theorem hiX2_begin_X2 : ∀ w ∈ u_ws RX2 TX2 4, w ∈ wsX2_begin := by decide +kernel
set_option maxHeartbeats 4000000 in
set_option maxRecDepth 100000 in
theorem wt_begin_19 {p : Program} {l : Launch} {e : Env} {s : State} {m : MethodId} {args : Array Value} {below : List Frame} {meth : Method} {c : Code} {D : va_G} {L : Nat → Nat} {K : Nat → ClassId} {t0 : Nat} (hJ : gj L 81) (C0 : gC cX2_begin 2 none wsX2_begin RX2 p s m args meth c) (hK : va_K D vwCl (tyG K) s) (hE : eX L t0 s) {w9 : St} : ∀ (fu : Nat) (x0 : Nat) (x1 : Int32) (w : St) (H : Heap) (locs : List Loc) (ls : Array Slot), kX x0 = 1 ∧ x0 < 81 → va_P D vwCl (gl L 81 (cX L K w)) H → va_S (gA L 81) s.heap H locs → lv_has ls 2 [(0, .ref (L x0)), (1, .int x1)] → ft_begin_19 fu x0 x1 w = some w9 → W p l e { frames := 0, cells := 0, slots := 0, locals := 0 } s m args below meth c H locs 0 0 (MQ below (qV D L 81 (cX L K) w9) args s 0 0 (gA L 81)) (F0 m 19 ls []) := by
  obtain ⟨hx, hb, hr, hml, hown, hts, hlk⟩ := id C0
  intro fu
  induction fu with
  | zero =>
    intro x0 x1 w H locs ls h0 hw hS hl hf
    rw [ft_begin_19] at hf
    exact no_n hf
  | succ fu ih =>
    intro x0 x1 w H locs ls h0 hw hS hl hf
    rw [ft_begin_19] at hf
    refine lv_iload_n hx hb dX2_begin_19 rfl (lv_at hl 1 rfl) ?_
    refine lv_aload_n hx hb dX2_begin_20 rfl (lv_at hl 0 rfl) ?_
    refine z_get (v := .ref (L (x0 + 1))) hx hb hts hiX2_begin_X2 hown hK hw (k := x0) h0.2 ((cX_a1 h0.1) _) rfl 3 (by decide) (hts (.fieldLink RX2 18 "OneSentence$Talk" "times" "[I") (by decide +kernel)) rfl dX2_begin_21 ?_
    refine z_alen (v := 7) hx hb hK hw 0 (k := (x0 + 1)) (kX_times h0).2 ((cX_a4 (kX_times h0).1) _) rfl rfl dX2_begin_24 ?_
    refine lv_icmp_ge (tgt := 41) hx hb dX2_begin_25 (by decide) (fun c25 => ?_) (fun c25 => ?_)
    · replace hf := if_t hf c25
      exact z_vret hx hb hr hlk hw hS hf dX2_begin_41
    · replace hf := if_f hf c25
      refine lv_aload_n hx hb dX2_begin_28 rfl (lv_at hl 0 rfl) ?_
      refine z_get (v := .ref (L (x0 + 1))) hx hb hts hiX2_begin_X2 hown hK hw (k := x0) h0.2 ((cX_a1 h0.1) _) rfl 3 (by decide) (hts (.fieldLink RX2 18 "OneSentence$Talk" "times" "[I") (by decide +kernel)) rfl dX2_begin_29 ?_
      refine lv_iload_n hx hb dX2_begin_32 rfl (lv_at hl 1 rfl) ?_
      refine lv_iconst (v := 0) hx hb dX2_begin_33 (by decide) ?_
      obtain ⟨w34, h34, hf⟩ := bd_e hf
      refine z_iast hx hb hK hJ hw hS 0 (k := (x0 + 1)) (kX_times h0).2 cX_ne (cX_a4 (kX_times h0).1) rfl h34 dX2_begin_34 (fun H locs hw hS => ?_)
      refine lv_iinc (v := (x1 + 1)) (lv' := [(1, .int (x1 + 1)), (0, .ref (L x0))]) hx hb dX2_begin_35 hl (k := 1) rfl rfl (by decide) rfl (fun ls hl => ?_)
      refine lv_goto (tgt := 19) hx hb dX2_begin_38 (by decide) ?_
      exact ih _ _ _ _ _ _ h0 hw hS (lv_sub hl [1, 0] rfl) hf
set_option maxHeartbeats 4000000 in
set_option maxRecDepth 100000 in
theorem wt_begin_0 {p : Program} {l : Launch} {e : Env} {s : State} {m : MethodId} {args : Array Value} {below : List Frame} {meth : Method} {c : Code} {D : va_G} {L : Nat → Nat} {K : Nat → ClassId} {t0 : Nat} (hJ : gj L 81) (C0 : gC cX2_begin 2 none wsX2_begin RX2 p s m args meth c) (hK : va_K D vwCl (tyG K) s) (hE : eX L t0 s) {w9 : St} : ∀ (x0 : Nat) (w : St) (H : Heap) (locs : List Loc) (ls : Array Slot), kX x0 = 1 ∧ x0 < 81 → va_P D vwCl (gl L 81 (cX L K w)) H → va_S (gA L 81) s.heap H locs → lv_has ls 2 [(0, .ref (L x0))] → ft_begin x0 w = some w9 → W p l e { frames := 0, cells := 0, slots := 0, locals := 0 } s m args below meth c H locs 0 0 (MQ below (qV D L 81 (cX L K) w9) args s 0 0 (gA L 81)) (F0 m 0 ls []) := by
  obtain ⟨hx, hb, hr, hml, hown, hts, hlk⟩ := id C0
  intro x0 w H locs ls h0 hw hS hl hf
  unfold ft_begin at hf
  refine lv_aload_n hx hb dX2_begin_0 rfl (lv_at hl 0 rfl) ?_
  refine lv_iconst (v := 0) hx hb dX2_begin_1 (by decide) ?_
  refine z_puti hx hb hts hiX2_begin_X2 tyX2 tyX2_ok nmX2 hown hK hJ hw hS (k := x0) h0.2 cX_ne (fs := (fX1 L x0)) (cX_a1 h0.1) rfl 0 (by decide) (hts (.fieldLink RX2 22 "OneSentence$Talk" "sense" "I") (by decide +kernel)) rfl rfl (fun _ _ => ⟨Nat.le_of_ble_eq_true rfl, rfl⟩) dX2_begin_2 (fun H locs hw hS => ?_)
  refine lv_aload_n hx hb dX2_begin_5 rfl (lv_at hl 0 rfl) ?_
  refine lv_bipush (v := (-9)) hx hb dX2_begin_6 (by decide) ?_
  refine z_puti hx hb hts hiX2_begin_X2 tyX2 tyX2_ok nmX2 hown hK hJ hw hS (k := x0) h0.2 cX_ne (fs := (fX1 L x0)) (cX_a1 h0.1) rfl 1 (by decide) (hts (.fieldLink RX2 9 "OneSentence$Talk" "last" "I") (by decide +kernel)) rfl rfl (fun _ _ => ⟨Nat.le_of_ble_eq_true rfl, rfl⟩) dX2_begin_8 (fun H locs hw hS => ?_)
  refine lv_aload_n hx hb dX2_begin_11 rfl (lv_at hl 0 rfl) ?_
  refine lv_bipush (v := (-9)) hx hb dX2_begin_12 (by decide) ?_
  refine z_puti hx hb hts hiX2_begin_X2 tyX2 tyX2_ok nmX2 hown hK hJ hw hS (k := x0) h0.2 cX_ne (fs := (fX1 L x0)) (cX_a1 h0.1) rfl 2 (by decide) (hts (.fieldLink RX2 15 "OneSentence$Talk" "lastNoEcho" "I") (by decide +kernel)) rfl rfl (fun _ _ => ⟨Nat.le_of_ble_eq_true rfl, rfl⟩) dX2_begin_14 (fun H locs hw hS => ?_)
  refine lv_iconst (v := 0) hx hb dX2_begin_17 (by decide) ?_
  refine lv_istore_n (lv' := [(1, .int 0), (0, .ref (L x0))]) hx hb dX2_begin_18 rfl hl (by decide) rfl (fun ls hl => ?_)
  exact wt_begin_19 hJ C0 hK hE _ _ _ _ _ _ _ h0 hw hS (lv_sub hl [1, 0] rfl) hf
set_option maxHeartbeats 4000000 in
set_option maxRecDepth 100000 in
theorem kt_begin (l : Launch) {D : va_G} {L : Nat → Nat} {K : Nat → ClassId} {t0 : Nat} (hJ : gj L 81) (x0 : Nat) (w : St) {w9 : St} (h0 : kX x0 = 1 ∧ x0 < 81) (hf : ft_begin x0 w = some w9) : Met l yX2_begin wsX2_begin ({ frames := 0, cells := 0, slots := 0, locals := 0 }) (va_Pc [.ref (L x0)] (xP D L K t0 w)) (qV D L 81 (cX L K) w9) 0 0 (gA L 81) := by
  refine g_met (cc := cX2_begin) (nL := 2) (ret := none) (by decide) rfl (Nat.le_of_ble_eq_true rfl) (fun p e s m below meth c ls C0 hP hl => ?_)
  exact wt_begin_0 hJ C0 hP.2.1 hP.2.2 _ w _ _ ls h0 hP.1 va_S.rf (lv_sub hl [0] rfl) hf
set_option maxRecDepth 20000 in
theorem ggX0_begin_X2_begin : GoodIn wsX0_begin wsX2_begin := goodIn_r _ [7, 8, 9, 10, 11, 16, 17, 18, 19] (by decide +kernel) (by decide +kernel)
set_option maxRecDepth 20000 in
theorem gX0_begin_X2_begin_n22 : GoodIn wsX0_begin (wsX2_begin) := ggX0_begin_X2_begin
theorem dX0_begin_0 : decode cX0_begin 0 = .ok (.aload_n 0, 1) := by decide +kernel
theorem dX0_begin_1 : decode cX0_begin 1 = .ok (.getfield 12, 3) := by decide +kernel
theorem dX0_begin_4 : decode cX0_begin 4 = .ok (.invokevirtual 22, 3) := by decide +kernel
theorem dX0_begin_7 : decode cX0_begin 7 = .ok (.aload_n 0, 1) := by decide +kernel
theorem dX0_begin_8 : decode cX0_begin 8 = .ok (.iconst 0, 1) := by decide +kernel
theorem dX0_begin_9 : decode cX0_begin 9 = .ok (.putfield 25, 3) := by decide +kernel
theorem dX0_begin_12 : decode cX0_begin 12 = .ok (.aload_n 0, 1) := by decide +kernel
theorem dX0_begin_13 : decode cX0_begin 13 = .ok (.iconst 0, 1) := by decide +kernel
theorem dX0_begin_14 : decode cX0_begin 14 = .ok (.putfield 29, 3) := by decide +kernel
theorem dX0_begin_17 : decode cX0_begin 17 = .ok (.return_, 1) := by decide +kernel
set_option maxRecDepth 20000 in
theorem hiX0_begin_X0 : ∀ w ∈ u_ws RX0 TX0 4, w ∈ wsX0_begin := by decide +kernel
set_option maxHeartbeats 4000000 in
set_option maxRecDepth 100000 in
theorem wd_begin_0 {p : Program} {l : Launch} {e : Env} {s : State} {m : MethodId} {args : Array Value} {below : List Frame} {meth : Method} {c : Code} {D : va_G} {L : Nat → Nat} {K : Nat → ClassId} {t0 : Nat} (hJ : gj L 81) (C0 : gC cX0_begin 1 none wsX0_begin RX0 p s m args meth c) (hK : va_K D vwCl (tyG K) s) (hE : eX L t0 s) {w9 : St} : ∀ (x0 : Nat) (w : St) (H : Heap) (locs : List Loc) (ls : Array Slot), kX x0 = 2 ∧ x0 < 81 → va_P D vwCl (gl L 81 (cX L K w)) H → va_S (gA L 81) s.heap H locs → lv_has ls 1 [(0, .ref (L x0))] → fd_begin x0 w = some w9 → W p l e { frames := 1, cells := 0, slots := 0, locals := 21 } s m args below meth c H locs 0 0 (MQ below (qV D L 81 (cX L K) w9) args s 0 0 (gA L 81)) (F0 m 0 ls []) := by
  obtain ⟨hx, hb, hr, hml, hown, hts, hlk⟩ := id C0
  intro x0 w H locs ls h0 hw hS hl hf
  unfold fd_begin at hf
  refine lv_aload_n hx hb dX0_begin_0 rfl (lv_at hl 0 rfl) ?_
  refine z_get (v := .ref (L (x0 + 1))) hx hb hts hiX0_begin_X0 hown hK hw (k := x0) h0.2 ((cX_a2 h0.1) _) rfl 0 (by decide) (hts (.fieldLink RX0 12 "OneSentence$Day" "talk" "LOneSentence$Talk;") (by decide +kernel)) rfl dX0_begin_1 ?_
  obtain ⟨w4, h4, hf⟩ := bd_e hf
  refine z_callv (va_runVN (As := []) (rest := []) ⟨hx, hb, hml, hown, hts⟩ (kt_begin l (D := D) (K := K) (t0 := t0) hJ (x0 + 1) w (kX_talk h0) h4) ⟨va_cnB 0 hts gX0_begin_X2_begin_n22 rfl rfl rfl (hE.2.1 (RX0, 22, yX2_begin, "OneSentence") (by decide)) (hts (.initialized RX2) (by decide +kernel)) (by decide +kernel) ⟨Nat.le_of_ble_eq_true rfl, Nat.le_of_ble_eq_true rfl⟩, hts (.instanceMethod yX2_begin) (by decide +kernel), hts (.selects RX2 yX2_begin yX2_begin) (by decide +kernel)⟩ (z_preV eX_ok hK hE hw hS (kX_talk h0).2 ((cX_a1 (kX_talk h0).1) _) (T := TX2) (M := 4) rfl) rfl rfl hl.1 rfl (lv_room (Nat.le_of_ble_eq_true rfl)) dX0_begin_4 ⟨Nat.le_of_ble_eq_true rfl, Nat.le_of_ble_eq_true rfl⟩) hS (fun H locs hw hS => ?_)
  refine lv_aload_n hx hb dX0_begin_7 rfl (lv_at hl 0 rfl) ?_
  refine lv_iconst (v := 0) hx hb dX0_begin_8 (by decide) ?_
  refine z_puti hx hb hts hiX0_begin_X0 tyX0 tyX0_ok nmX0 hown hK hJ hw hS (k := x0) h0.2 cX_ne (fs := (fX2 L x0)) (cX_a2 h0.1) rfl 1 (by decide) (hts (.fieldLink RX0 25 "OneSentence$Day" "at" "I") (by decide +kernel)) rfl rfl (fun _ _ => ⟨Nat.le_of_ble_eq_true rfl, rfl⟩) dX0_begin_9 (fun H locs hw hS => ?_)
  refine lv_aload_n hx hb dX0_begin_12 rfl (lv_at hl 0 rfl) ?_
  refine lv_iconst (v := 0) hx hb dX0_begin_13 (by decide) ?_
  refine z_puti hx hb hts hiX0_begin_X0 tyX0 tyX0_ok nmX0 hown hK hJ hw hS (k := x0) h0.2 cX_ne (fs := (fX2 L x0)) (cX_a2 h0.1) rfl 2 (by decide) (hts (.fieldLink RX0 29 "OneSentence$Day" "hour" "I") (by decide +kernel)) rfl rfl (fun _ _ => ⟨Nat.le_of_ble_eq_true rfl, rfl⟩) dX0_begin_14 (fun H locs hw hS => ?_)
  exact z_vret hx hb hr hlk hw hS hf dX0_begin_17
set_option maxHeartbeats 4000000 in
set_option maxRecDepth 100000 in
theorem kd_begin (l : Launch) {D : va_G} {L : Nat → Nat} {K : Nat → ClassId} {t0 : Nat} (hJ : gj L 81) (x0 : Nat) (w : St) {w9 : St} (h0 : kX x0 = 2 ∧ x0 < 81) (hf : fd_begin x0 w = some w9) : Met l yX0_begin wsX0_begin ({ frames := 1, cells := 0, slots := 0, locals := 21 }) (va_Pc [.ref (L x0)] (xP D L K t0 w)) (qV D L 81 (cX L K) w9) 0 0 (gA L 81) := by
  refine g_met (cc := cX0_begin) (nL := 1) (ret := none) (by decide) rfl (Nat.le_of_ble_eq_true rfl) (fun p e s m below meth c ls C0 hP hl => ?_)
  exact wd_begin_0 hJ C0 hP.2.1 hP.2.2 _ w _ _ ls h0 hP.1 va_S.rf (lv_sub hl [0] rfl) hf
theorem dX2_become_0 : decode cX2_become 0 = .ok (.aload_n 0, 1) := by decide +kernel
theorem dX2_become_1 : decode cX2_become 1 = .ok (.aload_n 1, 1) := by decide +kernel
theorem dX2_become_2 : decode cX2_become 2 = .ok (.getfield 22, 3) := by decide +kernel
theorem dX2_become_5 : decode cX2_become 5 = .ok (.putfield 22, 3) := by decide +kernel
theorem dX2_become_8 : decode cX2_become 8 = .ok (.aload_n 0, 1) := by decide +kernel
theorem dX2_become_9 : decode cX2_become 9 = .ok (.aload_n 1, 1) := by decide +kernel
theorem dX2_become_10 : decode cX2_become 10 = .ok (.getfield 9, 3) := by decide +kernel
theorem dX2_become_13 : decode cX2_become 13 = .ok (.putfield 9, 3) := by decide +kernel
theorem dX2_become_16 : decode cX2_become 16 = .ok (.aload_n 0, 1) := by decide +kernel
theorem dX2_become_17 : decode cX2_become 17 = .ok (.aload_n 1, 1) := by decide +kernel
theorem dX2_become_18 : decode cX2_become 18 = .ok (.getfield 15, 3) := by decide +kernel
theorem dX2_become_21 : decode cX2_become 21 = .ok (.putfield 15, 3) := by decide +kernel
theorem dX2_become_24 : decode cX2_become 24 = .ok (.iconst 0, 1) := by decide +kernel
theorem dX2_become_25 : decode cX2_become 25 = .ok (.istore_n 2, 1) := by decide +kernel
theorem dX2_become_26 : decode cX2_become 26 = .ok (.iload_n 2, 1) := by decide +kernel
theorem dX2_become_27 : decode cX2_become 27 = .ok (.aload_n 0, 1) := by decide +kernel
theorem dX2_become_28 : decode cX2_become 28 = .ok (.getfield 18, 3) := by decide +kernel
theorem dX2_become_31 : decode cX2_become 31 = .ok (.arraylength, 1) := by decide +kernel
theorem dX2_become_32 : decode cX2_become 32 = .ok (.if_icmp .ge 30, 3) := by decide +kernel
theorem dX2_become_35 : decode cX2_become 35 = .ok (.iload_n 2, 1) := by decide +kernel
theorem dX2_become_36 : decode cX2_become 36 = .ok (.aload_n 1, 1) := by decide +kernel
theorem dX2_become_37 : decode cX2_become 37 = .ok (.getfield 18, 3) := by decide +kernel
theorem dX2_become_40 : decode cX2_become 40 = .ok (.arraylength, 1) := by decide +kernel
theorem dX2_become_41 : decode cX2_become 41 = .ok (.if_icmp .ge 21, 3) := by decide +kernel
theorem dX2_become_44 : decode cX2_become 44 = .ok (.aload_n 0, 1) := by decide +kernel
theorem dX2_become_45 : decode cX2_become 45 = .ok (.getfield 18, 3) := by decide +kernel
theorem dX2_become_48 : decode cX2_become 48 = .ok (.iload_n 2, 1) := by decide +kernel
theorem dX2_become_49 : decode cX2_become 49 = .ok (.aload_n 1, 1) := by decide +kernel
theorem dX2_become_50 : decode cX2_become 50 = .ok (.getfield 18, 3) := by decide +kernel
theorem dX2_become_53 : decode cX2_become 53 = .ok (.iload_n 2, 1) := by decide +kernel
theorem dX2_become_54 : decode cX2_become 54 = .ok (.iaload, 1) := by decide +kernel
theorem dX2_become_55 : decode cX2_become 55 = .ok (.iastore, 1) := by decide +kernel
theorem dX2_become_56 : decode cX2_become 56 = .ok (.iinc 2 1, 3) := by decide +kernel
theorem dX2_become_59 : decode cX2_become 59 = .ok (.goto (-33), 3) := by decide +kernel
theorem dX2_become_62 : decode cX2_become 62 = .ok (.return_, 1) := by decide +kernel
set_option maxRecDepth 20000 in
theorem hiX2_become_X2 : ∀ w ∈ u_ws RX2 TX2 4, w ∈ wsX2_become := by decide +kernel
set_option maxHeartbeats 4000000 in
set_option maxRecDepth 100000 in
theorem wt_become_26 {p : Program} {l : Launch} {e : Env} {s : State} {m : MethodId} {args : Array Value} {below : List Frame} {meth : Method} {c : Code} {D : va_G} {L : Nat → Nat} {K : Nat → ClassId} {t0 : Nat} (hJ : gj L 81) (C0 : gC cX2_become 3 none wsX2_become RX2 p s m args meth c) (hK : va_K D vwCl (tyG K) s) (hE : eX L t0 s) {w9 : St} : ∀ (fu : Nat) (x0 : Nat) (x1 : Nat) (x2 : Int32) (w : St) (H : Heap) (locs : List Loc) (ls : Array Slot), kX x0 = 1 ∧ x0 < 81 → kX x1 = 1 ∧ x1 < 81 → va_P D vwCl (gl L 81 (cX L K w)) H → va_S (gA L 81) s.heap H locs → lv_has ls 3 [(0, .ref (L x0)), (1, .ref (L x1)), (2, .int x2)] → ft_become_26 fu x0 x1 x2 w = some w9 → W p l e { frames := 0, cells := 0, slots := 0, locals := 0 } s m args below meth c H locs 0 0 (MQ below (qV D L 81 (cX L K) w9) args s 0 0 (gA L 81)) (F0 m 26 ls []) := by
  obtain ⟨hx, hb, hr, hml, hown, hts, hlk⟩ := id C0
  intro fu
  induction fu with
  | zero =>
    intro x0 x1 x2 w H locs ls h0 h1 hw hS hl hf
    rw [ft_become_26] at hf
    exact no_n hf
  | succ fu ih =>
    intro x0 x1 x2 w H locs ls h0 h1 hw hS hl hf
    rw [ft_become_26] at hf
    refine lv_iload_n hx hb dX2_become_26 rfl (lv_at hl 2 rfl) ?_
    refine lv_aload_n hx hb dX2_become_27 rfl (lv_at hl 0 rfl) ?_
    refine z_get (v := .ref (L (x0 + 1))) hx hb hts hiX2_become_X2 hown hK hw (k := x0) h0.2 ((cX_a1 h0.1) _) rfl 3 (by decide) (hts (.fieldLink RX2 18 "OneSentence$Talk" "times" "[I") (by decide +kernel)) rfl dX2_become_28 ?_
    refine z_alen (v := 7) hx hb hK hw 0 (k := (x0 + 1)) (kX_times h0).2 ((cX_a4 (kX_times h0).1) _) rfl rfl dX2_become_31 ?_
    refine lv_icmp_ge (tgt := 62) hx hb dX2_become_32 (by decide) (fun c32 => ?_) (fun c32 => ?_)
    · replace hf := if_t hf c32
      exact z_vret hx hb hr hlk hw hS hf dX2_become_62
    · replace hf := if_f hf c32
      refine lv_iload_n hx hb dX2_become_35 rfl (lv_at hl 2 rfl) ?_
      refine lv_aload_n hx hb dX2_become_36 rfl (lv_at hl 1 rfl) ?_
      refine z_get (v := .ref (L (x1 + 1))) hx hb hts hiX2_become_X2 hown hK hw (k := x1) h1.2 ((cX_a1 h1.1) _) rfl 3 (by decide) (hts (.fieldLink RX2 18 "OneSentence$Talk" "times" "[I") (by decide +kernel)) rfl dX2_become_37 ?_
      refine z_alen (v := 7) hx hb hK hw 0 (k := (x1 + 1)) (kX_times h1).2 ((cX_a4 (kX_times h1).1) _) rfl rfl dX2_become_40 ?_
      refine lv_icmp_ge (tgt := 62) hx hb dX2_become_41 (by decide) (fun c41 => ?_) (fun c41 => ?_)
      · replace hf := if_t hf c41
        exact z_vret hx hb hr hlk hw hS hf dX2_become_62
      · replace hf := if_f hf c41
        refine lv_aload_n hx hb dX2_become_44 rfl (lv_at hl 0 rfl) ?_
        refine z_get (v := .ref (L (x0 + 1))) hx hb hts hiX2_become_X2 hown hK hw (k := x0) h0.2 ((cX_a1 h0.1) _) rfl 3 (by decide) (hts (.fieldLink RX2 18 "OneSentence$Talk" "times" "[I") (by decide +kernel)) rfl dX2_become_45 ?_
        refine lv_iload_n hx hb dX2_become_48 rfl (lv_at hl 2 rfl) ?_
        refine lv_aload_n hx hb dX2_become_49 rfl (lv_at hl 1 rfl) ?_
        refine z_get (v := .ref (L (x1 + 1))) hx hb hts hiX2_become_X2 hown hK hw (k := x1) h1.2 ((cX_a1 h1.1) _) rfl 3 (by decide) (hts (.fieldLink RX2 18 "OneSentence$Talk" "times" "[I") (by decide +kernel)) rfl dX2_become_50 ?_
        refine lv_iload_n hx hb dX2_become_53 rfl (lv_at hl 2 rfl) ?_
        obtain ⟨v54, h54, hf⟩ := bd_e hf
        refine z_iald hx hb hK hw 0 (k := (x1 + 1)) (kX_times h1).2 ((cX_a4 (kX_times h1).1) _) rfl h54 dX2_become_54 ?_
        obtain ⟨w55, h55, hf⟩ := bd_e hf
        refine z_iast hx hb hK hJ hw hS 0 (k := (x0 + 1)) (kX_times h0).2 cX_ne (cX_a4 (kX_times h0).1) rfl h55 dX2_become_55 (fun H locs hw hS => ?_)
        refine lv_iinc (v := (x2 + 1)) (lv' := [(2, .int (x2 + 1)), (0, .ref (L x0)), (1, .ref (L x1))]) hx hb dX2_become_56 hl (k := 2) rfl rfl (by decide) rfl (fun ls hl => ?_)
        refine lv_goto (tgt := 26) hx hb dX2_become_59 (by decide) ?_
        exact ih _ _ _ _ _ _ _ h0 h1 hw hS (lv_sub hl [1, 2, 0] rfl) hf
set_option maxHeartbeats 4000000 in
set_option maxRecDepth 100000 in
theorem wt_become_0 {p : Program} {l : Launch} {e : Env} {s : State} {m : MethodId} {args : Array Value} {below : List Frame} {meth : Method} {c : Code} {D : va_G} {L : Nat → Nat} {K : Nat → ClassId} {t0 : Nat} (hJ : gj L 81) (C0 : gC cX2_become 3 none wsX2_become RX2 p s m args meth c) (hK : va_K D vwCl (tyG K) s) (hE : eX L t0 s) {w9 : St} : ∀ (x0 : Nat) (x1 : Nat) (w : St) (H : Heap) (locs : List Loc) (ls : Array Slot), kX x0 = 1 ∧ x0 < 81 → kX x1 = 1 ∧ x1 < 81 → va_P D vwCl (gl L 81 (cX L K w)) H → va_S (gA L 81) s.heap H locs → lv_has ls 3 [(0, .ref (L x0)), (1, .ref (L x1))] → ft_become x0 x1 w = some w9 → W p l e { frames := 0, cells := 0, slots := 0, locals := 0 } s m args below meth c H locs 0 0 (MQ below (qV D L 81 (cX L K) w9) args s 0 0 (gA L 81)) (F0 m 0 ls []) := by
  obtain ⟨hx, hb, hr, hml, hown, hts, hlk⟩ := id C0
  intro x0 x1 w H locs ls h0 h1 hw hS hl hf
  unfold ft_become at hf
  refine lv_aload_n hx hb dX2_become_0 rfl (lv_at hl 0 rfl) ?_
  refine lv_aload_n hx hb dX2_become_1 rfl (lv_at hl 1 rfl) ?_
  refine z_get (v := .int (w.1 x1 0)) hx hb hts hiX2_become_X2 hown hK hw (k := x1) h1.2 ((cX_a1 h1.1) _) rfl 0 (by decide) (hts (.fieldLink RX2 22 "OneSentence$Talk" "sense" "I") (by decide +kernel)) rfl dX2_become_2 ?_
  refine z_puti hx hb hts hiX2_become_X2 tyX2 tyX2_ok nmX2 hown hK hJ hw hS (k := x0) h0.2 cX_ne (fs := (fX1 L x0)) (cX_a1 h0.1) rfl 0 (by decide) (hts (.fieldLink RX2 22 "OneSentence$Talk" "sense" "I") (by decide +kernel)) rfl rfl (fun _ _ => ⟨Nat.le_of_ble_eq_true rfl, rfl⟩) dX2_become_5 (fun H locs hw hS => ?_)
  refine lv_aload_n hx hb dX2_become_8 rfl (lv_at hl 0 rfl) ?_
  refine lv_aload_n hx hb dX2_become_9 rfl (lv_at hl 1 rfl) ?_
  refine z_get (v := .int ((wr w x0 0 (w.1 x1 0)).1 x1 1)) hx hb hts hiX2_become_X2 hown hK hw (k := x1) h1.2 ((cX_a1 h1.1) _) rfl 1 (by decide) (hts (.fieldLink RX2 9 "OneSentence$Talk" "last" "I") (by decide +kernel)) rfl dX2_become_10 ?_
  refine z_puti hx hb hts hiX2_become_X2 tyX2 tyX2_ok nmX2 hown hK hJ hw hS (k := x0) h0.2 cX_ne (fs := (fX1 L x0)) (cX_a1 h0.1) rfl 1 (by decide) (hts (.fieldLink RX2 9 "OneSentence$Talk" "last" "I") (by decide +kernel)) rfl rfl (fun _ _ => ⟨Nat.le_of_ble_eq_true rfl, rfl⟩) dX2_become_13 (fun H locs hw hS => ?_)
  refine lv_aload_n hx hb dX2_become_16 rfl (lv_at hl 0 rfl) ?_
  refine lv_aload_n hx hb dX2_become_17 rfl (lv_at hl 1 rfl) ?_
  refine z_get (v := .int ((wr (wr w x0 0 (w.1 x1 0)) x0 1 ((wr w x0 0 (w.1 x1 0)).1 x1 1)).1 x1 2)) hx hb hts hiX2_become_X2 hown hK hw (k := x1) h1.2 ((cX_a1 h1.1) _) rfl 2 (by decide) (hts (.fieldLink RX2 15 "OneSentence$Talk" "lastNoEcho" "I") (by decide +kernel)) rfl dX2_become_18 ?_
  refine z_puti hx hb hts hiX2_become_X2 tyX2 tyX2_ok nmX2 hown hK hJ hw hS (k := x0) h0.2 cX_ne (fs := (fX1 L x0)) (cX_a1 h0.1) rfl 2 (by decide) (hts (.fieldLink RX2 15 "OneSentence$Talk" "lastNoEcho" "I") (by decide +kernel)) rfl rfl (fun _ _ => ⟨Nat.le_of_ble_eq_true rfl, rfl⟩) dX2_become_21 (fun H locs hw hS => ?_)
  refine lv_iconst (v := 0) hx hb dX2_become_24 (by decide) ?_
  refine lv_istore_n (lv' := [(2, .int 0), (0, .ref (L x0)), (1, .ref (L x1))]) hx hb dX2_become_25 rfl hl (by decide) rfl (fun ls hl => ?_)
  exact wt_become_26 hJ C0 hK hE _ _ _ _ _ _ _ _ h0 h1 hw hS (lv_sub hl [1, 2, 0] rfl) hf
set_option maxHeartbeats 4000000 in
set_option maxRecDepth 100000 in
theorem kt_become (l : Launch) {D : va_G} {L : Nat → Nat} {K : Nat → ClassId} {t0 : Nat} (hJ : gj L 81) (x0 : Nat) (x1 : Nat) (w : St) {w9 : St} (h0 : kX x0 = 1 ∧ x0 < 81) (h1 : kX x1 = 1 ∧ x1 < 81) (hf : ft_become x0 x1 w = some w9) : Met l yX2_become wsX2_become ({ frames := 0, cells := 0, slots := 0, locals := 0 }) (va_Pc [.ref (L x0), .ref (L x1)] (xP D L K t0 w)) (qV D L 81 (cX L K) w9) 0 0 (gA L 81) := by
  refine g_met (cc := cX2_become) (nL := 3) (ret := none) (by decide) rfl (Nat.le_of_ble_eq_true rfl) (fun p e s m below meth c ls C0 hP hl => ?_)
  exact wt_become_0 hJ C0 hP.2.1 hP.2.2 _ _ w _ _ ls h0 h1 hP.1 va_S.rf (lv_sub hl [0, 1] rfl) hf
set_option maxRecDepth 20000 in
theorem ggX0_become_X2_become : GoodIn wsX0_become wsX2_become := goodIn_r _ [8, 9, 10, 11, 12, 17, 18, 19, 20] (by decide +kernel) (by decide +kernel)
set_option maxRecDepth 20000 in
theorem gX0_become_X2_become_n32 : GoodIn wsX0_become (wsX2_become) := ggX0_become_X2_become
theorem dX0_become_0 : decode cX0_become 0 = .ok (.aload_n 0, 1) := by decide +kernel
theorem dX0_become_1 : decode cX0_become 1 = .ok (.getfield 12, 3) := by decide +kernel
theorem dX0_become_4 : decode cX0_become 4 = .ok (.aload_n 1, 1) := by decide +kernel
theorem dX0_become_5 : decode cX0_become 5 = .ok (.getfield 12, 3) := by decide +kernel
theorem dX0_become_8 : decode cX0_become 8 = .ok (.invokevirtual 32, 3) := by decide +kernel
theorem dX0_become_11 : decode cX0_become 11 = .ok (.aload_n 0, 1) := by decide +kernel
theorem dX0_become_12 : decode cX0_become 12 = .ok (.aload_n 1, 1) := by decide +kernel
theorem dX0_become_13 : decode cX0_become 13 = .ok (.getfield 25, 3) := by decide +kernel
theorem dX0_become_16 : decode cX0_become 16 = .ok (.putfield 25, 3) := by decide +kernel
theorem dX0_become_19 : decode cX0_become 19 = .ok (.aload_n 0, 1) := by decide +kernel
theorem dX0_become_20 : decode cX0_become 20 = .ok (.aload_n 1, 1) := by decide +kernel
theorem dX0_become_21 : decode cX0_become 21 = .ok (.getfield 29, 3) := by decide +kernel
theorem dX0_become_24 : decode cX0_become 24 = .ok (.putfield 29, 3) := by decide +kernel
theorem dX0_become_27 : decode cX0_become 27 = .ok (.iconst 0, 1) := by decide +kernel
theorem dX0_become_28 : decode cX0_become 28 = .ok (.istore_n 2, 1) := by decide +kernel
theorem dX0_become_29 : decode cX0_become 29 = .ok (.iload_n 2, 1) := by decide +kernel
theorem dX0_become_30 : decode cX0_become 30 = .ok (.aload_n 0, 1) := by decide +kernel
theorem dX0_become_31 : decode cX0_become 31 = .ok (.getfield 18, 3) := by decide +kernel
theorem dX0_become_34 : decode cX0_become 34 = .ok (.arraylength, 1) := by decide +kernel
theorem dX0_become_35 : decode cX0_become 35 = .ok (.if_icmp .ge 30, 3) := by decide +kernel
theorem dX0_become_38 : decode cX0_become 38 = .ok (.iload_n 2, 1) := by decide +kernel
theorem dX0_become_39 : decode cX0_become 39 = .ok (.aload_n 1, 1) := by decide +kernel
theorem dX0_become_40 : decode cX0_become 40 = .ok (.getfield 18, 3) := by decide +kernel
theorem dX0_become_43 : decode cX0_become 43 = .ok (.arraylength, 1) := by decide +kernel
theorem dX0_become_44 : decode cX0_become 44 = .ok (.if_icmp .ge 21, 3) := by decide +kernel
theorem dX0_become_47 : decode cX0_become 47 = .ok (.aload_n 0, 1) := by decide +kernel
theorem dX0_become_48 : decode cX0_become 48 = .ok (.getfield 18, 3) := by decide +kernel
theorem dX0_become_51 : decode cX0_become 51 = .ok (.iload_n 2, 1) := by decide +kernel
theorem dX0_become_52 : decode cX0_become 52 = .ok (.aload_n 1, 1) := by decide +kernel
theorem dX0_become_53 : decode cX0_become 53 = .ok (.getfield 18, 3) := by decide +kernel
theorem dX0_become_56 : decode cX0_become 56 = .ok (.iload_n 2, 1) := by decide +kernel
theorem dX0_become_57 : decode cX0_become 57 = .ok (.iaload, 1) := by decide +kernel
theorem dX0_become_58 : decode cX0_become 58 = .ok (.iastore, 1) := by decide +kernel
theorem dX0_become_59 : decode cX0_become 59 = .ok (.iinc 2 1, 3) := by decide +kernel
theorem dX0_become_62 : decode cX0_become 62 = .ok (.goto (-33), 3) := by decide +kernel
theorem dX0_become_65 : decode cX0_become 65 = .ok (.return_, 1) := by decide +kernel
set_option maxRecDepth 20000 in
theorem hiX0_become_X0 : ∀ w ∈ u_ws RX0 TX0 4, w ∈ wsX0_become := by decide +kernel
set_option maxHeartbeats 4000000 in
set_option maxRecDepth 100000 in
theorem wd_become_29 {p : Program} {l : Launch} {e : Env} {s : State} {m : MethodId} {args : Array Value} {below : List Frame} {meth : Method} {c : Code} {D : va_G} {L : Nat → Nat} {K : Nat → ClassId} {t0 : Nat} (hJ : gj L 81) (C0 : gC cX0_become 3 none wsX0_become RX0 p s m args meth c) (hK : va_K D vwCl (tyG K) s) (hE : eX L t0 s) {w9 : St} : ∀ (fu : Nat) (x0 : Nat) (x1 : Nat) (x2 : Int32) (w : St) (H : Heap) (locs : List Loc) (ls : Array Slot), kX x0 = 2 ∧ x0 < 81 → kX x1 = 2 ∧ x1 < 81 → va_P D vwCl (gl L 81 (cX L K w)) H → va_S (gA L 81) s.heap H locs → lv_has ls 3 [(0, .ref (L x0)), (1, .ref (L x1)), (2, .int x2)] → fd_become_29 fu x0 x1 x2 w = some w9 → W p l e { frames := 1, cells := 0, slots := 0, locals := 22 } s m args below meth c H locs 0 0 (MQ below (qV D L 81 (cX L K) w9) args s 0 0 (gA L 81)) (F0 m 29 ls []) := by
  obtain ⟨hx, hb, hr, hml, hown, hts, hlk⟩ := id C0
  intro fu
  induction fu with
  | zero =>
    intro x0 x1 x2 w H locs ls h0 h1 hw hS hl hf
    rw [fd_become_29] at hf
    exact no_n hf
  | succ fu ih =>
    intro x0 x1 x2 w H locs ls h0 h1 hw hS hl hf
    rw [fd_become_29] at hf
    refine lv_iload_n hx hb dX0_become_29 rfl (lv_at hl 2 rfl) ?_
    refine lv_aload_n hx hb dX0_become_30 rfl (lv_at hl 0 rfl) ?_
    refine z_get (v := .ref (L (x0 + 3))) hx hb hts hiX0_become_X0 hown hK hw (k := x0) h0.2 ((cX_a2 h0.1) _) rfl 3 (by decide) (hts (.fieldLink RX0 18 "OneSentence$Day" "sentence" "[I") (by decide +kernel)) rfl dX0_become_31 ?_
    refine z_alen (v := 6) hx hb hK hw 0 (k := (x0 + 3)) (kX_sent h0).2 ((cX_a5 (kX_sent h0).1) _) rfl rfl dX0_become_34 ?_
    refine lv_icmp_ge (tgt := 65) hx hb dX0_become_35 (by decide) (fun c35 => ?_) (fun c35 => ?_)
    · replace hf := if_t hf c35
      exact z_vret hx hb hr hlk hw hS hf dX0_become_65
    · replace hf := if_f hf c35
      refine lv_iload_n hx hb dX0_become_38 rfl (lv_at hl 2 rfl) ?_
      refine lv_aload_n hx hb dX0_become_39 rfl (lv_at hl 1 rfl) ?_
      refine z_get (v := .ref (L (x1 + 3))) hx hb hts hiX0_become_X0 hown hK hw (k := x1) h1.2 ((cX_a2 h1.1) _) rfl 3 (by decide) (hts (.fieldLink RX0 18 "OneSentence$Day" "sentence" "[I") (by decide +kernel)) rfl dX0_become_40 ?_
      refine z_alen (v := 6) hx hb hK hw 0 (k := (x1 + 3)) (kX_sent h1).2 ((cX_a5 (kX_sent h1).1) _) rfl rfl dX0_become_43 ?_
      refine lv_icmp_ge (tgt := 65) hx hb dX0_become_44 (by decide) (fun c44 => ?_) (fun c44 => ?_)
      · replace hf := if_t hf c44
        exact z_vret hx hb hr hlk hw hS hf dX0_become_65
      · replace hf := if_f hf c44
        refine lv_aload_n hx hb dX0_become_47 rfl (lv_at hl 0 rfl) ?_
        refine z_get (v := .ref (L (x0 + 3))) hx hb hts hiX0_become_X0 hown hK hw (k := x0) h0.2 ((cX_a2 h0.1) _) rfl 3 (by decide) (hts (.fieldLink RX0 18 "OneSentence$Day" "sentence" "[I") (by decide +kernel)) rfl dX0_become_48 ?_
        refine lv_iload_n hx hb dX0_become_51 rfl (lv_at hl 2 rfl) ?_
        refine lv_aload_n hx hb dX0_become_52 rfl (lv_at hl 1 rfl) ?_
        refine z_get (v := .ref (L (x1 + 3))) hx hb hts hiX0_become_X0 hown hK hw (k := x1) h1.2 ((cX_a2 h1.1) _) rfl 3 (by decide) (hts (.fieldLink RX0 18 "OneSentence$Day" "sentence" "[I") (by decide +kernel)) rfl dX0_become_53 ?_
        refine lv_iload_n hx hb dX0_become_56 rfl (lv_at hl 2 rfl) ?_
        obtain ⟨v57, h57, hf⟩ := bd_e hf
        refine z_iald hx hb hK hw 0 (k := (x1 + 3)) (kX_sent h1).2 ((cX_a5 (kX_sent h1).1) _) rfl h57 dX0_become_57 ?_
        obtain ⟨w58, h58, hf⟩ := bd_e hf
        refine z_iast hx hb hK hJ hw hS 0 (k := (x0 + 3)) (kX_sent h0).2 cX_ne (cX_a5 (kX_sent h0).1) rfl h58 dX0_become_58 (fun H locs hw hS => ?_)
        refine lv_iinc (v := (x2 + 1)) (lv' := [(2, .int (x2 + 1)), (0, .ref (L x0)), (1, .ref (L x1))]) hx hb dX0_become_59 hl (k := 2) rfl rfl (by decide) rfl (fun ls hl => ?_)
        refine lv_goto (tgt := 29) hx hb dX0_become_62 (by decide) ?_
        exact ih _ _ _ _ _ _ _ h0 h1 hw hS (lv_sub hl [1, 2, 0] rfl) hf
set_option maxHeartbeats 4000000 in
set_option maxRecDepth 100000 in
theorem wd_become_0 {p : Program} {l : Launch} {e : Env} {s : State} {m : MethodId} {args : Array Value} {below : List Frame} {meth : Method} {c : Code} {D : va_G} {L : Nat → Nat} {K : Nat → ClassId} {t0 : Nat} (hJ : gj L 81) (C0 : gC cX0_become 3 none wsX0_become RX0 p s m args meth c) (hK : va_K D vwCl (tyG K) s) (hE : eX L t0 s) {w9 : St} : ∀ (x0 : Nat) (x1 : Nat) (w : St) (H : Heap) (locs : List Loc) (ls : Array Slot), kX x0 = 2 ∧ x0 < 81 → kX x1 = 2 ∧ x1 < 81 → va_P D vwCl (gl L 81 (cX L K w)) H → va_S (gA L 81) s.heap H locs → lv_has ls 3 [(0, .ref (L x0)), (1, .ref (L x1))] → fd_become x0 x1 w = some w9 → W p l e { frames := 1, cells := 0, slots := 0, locals := 22 } s m args below meth c H locs 0 0 (MQ below (qV D L 81 (cX L K) w9) args s 0 0 (gA L 81)) (F0 m 0 ls []) := by
  obtain ⟨hx, hb, hr, hml, hown, hts, hlk⟩ := id C0
  intro x0 x1 w H locs ls h0 h1 hw hS hl hf
  unfold fd_become at hf
  refine lv_aload_n hx hb dX0_become_0 rfl (lv_at hl 0 rfl) ?_
  refine z_get (v := .ref (L (x0 + 1))) hx hb hts hiX0_become_X0 hown hK hw (k := x0) h0.2 ((cX_a2 h0.1) _) rfl 0 (by decide) (hts (.fieldLink RX0 12 "OneSentence$Day" "talk" "LOneSentence$Talk;") (by decide +kernel)) rfl dX0_become_1 ?_
  refine lv_aload_n hx hb dX0_become_4 rfl (lv_at hl 1 rfl) ?_
  refine z_get (v := .ref (L (x1 + 1))) hx hb hts hiX0_become_X0 hown hK hw (k := x1) h1.2 ((cX_a2 h1.1) _) rfl 0 (by decide) (hts (.fieldLink RX0 12 "OneSentence$Day" "talk" "LOneSentence$Talk;") (by decide +kernel)) rfl dX0_become_5 ?_
  obtain ⟨w8, h8, hf⟩ := bd_e hf
  refine z_callv (va_runVN (As := [.ref (L (x1 + 1))]) (rest := []) ⟨hx, hb, hml, hown, hts⟩ (kt_become l (D := D) (K := K) (t0 := t0) hJ (x0 + 1) (x1 + 1) w (kX_talk h0) (kX_talk h1) h8) ⟨va_cnB 1 hts gX0_become_X2_become_n32 rfl rfl rfl (hE.2.1 (RX0, 32, yX2_become, "OneSentence") (by decide)) (hts (.initialized RX2) (by decide +kernel)) (by decide +kernel) ⟨Nat.le_of_ble_eq_true rfl, Nat.le_of_ble_eq_true rfl⟩, hts (.instanceMethod yX2_become) (by decide +kernel), hts (.selects RX2 yX2_become yX2_become) (by decide +kernel)⟩ (z_preV eX_ok hK hE hw hS (kX_talk h0).2 ((cX_a1 (kX_talk h0).1) _) (T := TX2) (M := 4) rfl) rfl rfl hl.1 rfl (lv_room (Nat.le_of_ble_eq_true rfl)) dX0_become_8 ⟨Nat.le_of_ble_eq_true rfl, Nat.le_of_ble_eq_true rfl⟩) hS (fun H locs hw hS => ?_)
  refine lv_aload_n hx hb dX0_become_11 rfl (lv_at hl 0 rfl) ?_
  refine lv_aload_n hx hb dX0_become_12 rfl (lv_at hl 1 rfl) ?_
  refine z_get (v := .int (w8.1 x1 1)) hx hb hts hiX0_become_X0 hown hK hw (k := x1) h1.2 ((cX_a2 h1.1) _) rfl 1 (by decide) (hts (.fieldLink RX0 25 "OneSentence$Day" "at" "I") (by decide +kernel)) rfl dX0_become_13 ?_
  refine z_puti hx hb hts hiX0_become_X0 tyX0 tyX0_ok nmX0 hown hK hJ hw hS (k := x0) h0.2 cX_ne (fs := (fX2 L x0)) (cX_a2 h0.1) rfl 1 (by decide) (hts (.fieldLink RX0 25 "OneSentence$Day" "at" "I") (by decide +kernel)) rfl rfl (fun _ _ => ⟨Nat.le_of_ble_eq_true rfl, rfl⟩) dX0_become_16 (fun H locs hw hS => ?_)
  refine lv_aload_n hx hb dX0_become_19 rfl (lv_at hl 0 rfl) ?_
  refine lv_aload_n hx hb dX0_become_20 rfl (lv_at hl 1 rfl) ?_
  refine z_get (v := .int ((wr w8 x0 1 (w8.1 x1 1)).1 x1 2)) hx hb hts hiX0_become_X0 hown hK hw (k := x1) h1.2 ((cX_a2 h1.1) _) rfl 2 (by decide) (hts (.fieldLink RX0 29 "OneSentence$Day" "hour" "I") (by decide +kernel)) rfl dX0_become_21 ?_
  refine z_puti hx hb hts hiX0_become_X0 tyX0 tyX0_ok nmX0 hown hK hJ hw hS (k := x0) h0.2 cX_ne (fs := (fX2 L x0)) (cX_a2 h0.1) rfl 2 (by decide) (hts (.fieldLink RX0 29 "OneSentence$Day" "hour" "I") (by decide +kernel)) rfl rfl (fun _ _ => ⟨Nat.le_of_ble_eq_true rfl, rfl⟩) dX0_become_24 (fun H locs hw hS => ?_)
  refine lv_iconst (v := 0) hx hb dX0_become_27 (by decide) ?_
  refine lv_istore_n (lv' := [(2, .int 0), (0, .ref (L x0)), (1, .ref (L x1))]) hx hb dX0_become_28 rfl hl (by decide) rfl (fun ls hl => ?_)
  exact wd_become_29 hJ C0 hK hE _ _ _ _ _ _ _ _ h0 h1 hw hS (lv_sub hl [1, 2, 0] rfl) hf
set_option maxHeartbeats 4000000 in
set_option maxRecDepth 100000 in
theorem kd_become (l : Launch) {D : va_G} {L : Nat → Nat} {K : Nat → ClassId} {t0 : Nat} (hJ : gj L 81) (x0 : Nat) (x1 : Nat) (w : St) {w9 : St} (h0 : kX x0 = 2 ∧ x0 < 81) (h1 : kX x1 = 2 ∧ x1 < 81) (hf : fd_become x0 x1 w = some w9) : Met l yX0_become wsX0_become ({ frames := 1, cells := 0, slots := 0, locals := 22 }) (va_Pc [.ref (L x0), .ref (L x1)] (xP D L K t0 w)) (qV D L 81 (cX L K) w9) 0 0 (gA L 81) := by
  refine g_met (cc := cX0_become) (nL := 3) (ret := none) (by decide) rfl (Nat.le_of_ble_eq_true rfl) (fun p e s m below meth c ls C0 hP hl => ?_)
  exact wd_become_0 hJ C0 hP.2.1 hP.2.2 _ _ w _ _ ls h0 h1 hP.1 va_S.rf (lv_sub hl [0, 1] rfl) hf
theorem dX3_has_0 : decode cX3_has 0 = .ok (.iload_n 0, 1) := by decide +kernel
theorem dX3_has_1 : decode cX3_has 1 = .ok (.iload_n 1, 1) := by decide +kernel
theorem dX3_has_2 : decode cX3_has 2 = .ok (.ishr, 1) := by decide +kernel
theorem dX3_has_3 : decode cX3_has 3 = .ok (.iconst 1, 1) := by decide +kernel
theorem dX3_has_4 : decode cX3_has 4 = .ok (.iand, 1) := by decide +kernel
theorem dX3_has_5 : decode cX3_has 5 = .ok (.iconst 1, 1) := by decide +kernel
theorem dX3_has_6 : decode cX3_has 6 = .ok (.if_icmp .ne 7, 3) := by decide +kernel
theorem dX3_has_9 : decode cX3_has 9 = .ok (.iconst 1, 1) := by decide +kernel
theorem dX3_has_10 : decode cX3_has 10 = .ok (.goto 4, 3) := by decide +kernel
theorem dX3_has_13 : decode cX3_has 13 = .ok (.iconst 0, 1) := by decide +kernel
theorem dX3_has_14 : decode cX3_has 14 = .ok (.ireturn, 1) := by decide +kernel
set_option maxHeartbeats 4000000 in
set_option maxRecDepth 100000 in
theorem wx_has_0 {p : Program} {l : Launch} {e : Env} {s : State} {m : MethodId} {args : Array Value} {below : List Frame} {meth : Method} {c : Code} (C0 : gC cX3_has 2 (some .boolean) wsX3_has RX3 p s m args meth c) {rs : Int32} : ∀ (x0 : Int32) (x1 : Int32) (ls : Array Slot), lv_has ls 2 [(0, .int x0), (1, .int x1)] → fx_has x0 x1 = some rs → W p l e { frames := 0, cells := 0, slots := 0, locals := 0 } s m args below meth c s.heap [] 0 0 (MQ below (qS rs) args s 0 0 (fun _ => False)) (F0 m 0 ls []) := by
  obtain ⟨hx, hb, hr, hml, hown, hts, hlk⟩ := id C0
  intro x0 x1 ls hl hf
  unfold fx_has at hf
  refine lv_iload_n hx hb dX3_has_0 rfl (lv_at hl 0 rfl) ?_
  refine lv_iload_n hx hb dX3_has_1 rfl (lv_at hl 1 rfl) ?_
  refine lv_ishr hx hb dX3_has_2 ?_
  refine lv_iconst (v := 1) hx hb dX3_has_3 (by decide) ?_
  refine lv_iand hx hb dX3_has_4 ?_
  refine lv_iconst (v := 1) hx hb dX3_has_5 (by decide) ?_
  refine lv_icmp_ne (tgt := 13) hx hb dX3_has_6 (by decide) (fun c6 => ?_) (fun c6 => ?_)
  · replace hf := if_f hf c6
    refine lv_iconst (v := 0) hx hb dX3_has_13 (by decide) ?_
    exact z_szret hx hb hr hlk rfl hf dX3_has_14
  · replace hf := if_t hf c6
    refine lv_iconst (v := 1) hx hb dX3_has_9 (by decide) ?_
    refine lv_goto (tgt := 14) hx hb dX3_has_10 (by decide) ?_
    exact z_szret hx hb hr hlk rfl hf dX3_has_14
set_option maxHeartbeats 4000000 in
set_option maxRecDepth 100000 in
theorem kx_has (l : Launch) (x0 : Int32) (x1 : Int32) {rs : Int32} (hf : fx_has x0 x1 = some rs) : Met l yX3_has wsX3_has ({ frames := 0, cells := 0, slots := 0, locals := 0 }) (va_Pc [.int x0, .int x1] (fun _ => True)) (qS rs) 0 0 (fun _ => False) := by
  refine g_met (cc := cX3_has) (nL := 2) (ret := (some .boolean)) (by decide) rfl (Nat.le_of_ble_eq_true rfl) (fun p e s m below meth c ls C0 _ hl => ?_)
  exact wx_has_0 C0 _ _ ls (lv_sub hl [0, 1] rfl) hf
set_option maxRecDepth 20000 in
theorem ggX1_by_X3_has : GoodIn wsX1_by wsX3_has := goodIn_r _ [5] (by decide +kernel) (by decide +kernel)
set_option maxRecDepth 20000 in
theorem gX1_by_X3_has_n19 : GoodIn wsX1_by (wsX3_has) := ggX1_by_X3_has
theorem dX1_by_0 : decode cX1_by 0 = .ok (.aload_n 0, 1) := by decide +kernel
theorem dX1_by_1 : decode cX1_by 1 = .ok (.iconst 0, 1) := by decide +kernel
theorem dX1_by_2 : decode cX1_by 2 = .ok (.putfield 15, 3) := by decide +kernel
theorem dX1_by_5 : decode cX1_by 5 = .ok (.iconst 0, 1) := by decide +kernel
theorem dX1_by_6 : decode cX1_by 6 = .ok (.istore_n 2, 1) := by decide +kernel
theorem dX1_by_7 : decode cX1_by 7 = .ok (.iload_n 2, 1) := by decide +kernel
theorem dX1_by_8 : decode cX1_by 8 = .ok (.bipush 7, 2) := by decide +kernel
theorem dX1_by_10 : decode cX1_by 10 = .ok (.if_icmp .ge 49, 3) := by decide +kernel
theorem dX1_by_13 : decode cX1_by 13 = .ok (.iload_n 1, 1) := by decide +kernel
theorem dX1_by_14 : decode cX1_by 14 = .ok (.iload_n 2, 1) := by decide +kernel
theorem dX1_by_15 : decode cX1_by 15 = .ok (.invokestatic 19, 3) := by decide +kernel
theorem dX1_by_18 : decode cX1_by 18 = .ok (.ifCond .eq 35, 3) := by decide +kernel
theorem dX1_by_21 : decode cX1_by 21 = .ok (.aload_n 0, 1) := by decide +kernel
theorem dX1_by_22 : decode cX1_by 22 = .ok (.getfield 15, 3) := by decide +kernel
theorem dX1_by_25 : decode cX1_by 25 = .ok (.aload_n 0, 1) := by decide +kernel
theorem dX1_by_26 : decode cX1_by 26 = .ok (.getfield 9, 3) := by decide +kernel
theorem dX1_by_29 : decode cX1_by 29 = .ok (.arraylength, 1) := by decide +kernel
theorem dX1_by_30 : decode cX1_by 30 = .ok (.if_icmp .ge 23, 3) := by decide +kernel
theorem dX1_by_33 : decode cX1_by 33 = .ok (.aload_n 0, 1) := by decide +kernel
theorem dX1_by_34 : decode cX1_by 34 = .ok (.getfield 9, 3) := by decide +kernel
theorem dX1_by_37 : decode cX1_by 37 = .ok (.aload_n 0, 1) := by decide +kernel
theorem dX1_by_38 : decode cX1_by 38 = .ok (.getfield 15, 3) := by decide +kernel
theorem dX1_by_41 : decode cX1_by 41 = .ok (.iload_n 2, 1) := by decide +kernel
theorem dX1_by_42 : decode cX1_by 42 = .ok (.iastore, 1) := by decide +kernel
theorem dX1_by_43 : decode cX1_by 43 = .ok (.aload_n 0, 1) := by decide +kernel
theorem dX1_by_44 : decode cX1_by 44 = .ok (.dup, 1) := by decide +kernel
theorem dX1_by_45 : decode cX1_by 45 = .ok (.getfield 15, 3) := by decide +kernel
theorem dX1_by_48 : decode cX1_by 48 = .ok (.iconst 1, 1) := by decide +kernel
theorem dX1_by_49 : decode cX1_by 49 = .ok (.iadd, 1) := by decide +kernel
theorem dX1_by_50 : decode cX1_by 50 = .ok (.putfield 15, 3) := by decide +kernel
theorem dX1_by_53 : decode cX1_by 53 = .ok (.iinc 2 1, 3) := by decide +kernel
theorem dX1_by_56 : decode cX1_by 56 = .ok (.goto (-49), 3) := by decide +kernel
theorem dX1_by_59 : decode cX1_by 59 = .ok (.return_, 1) := by decide +kernel
set_option maxRecDepth 20000 in
theorem hiX1_by_X1 : ∀ w ∈ u_ws RX1 TX1 2, w ∈ wsX1_by := by decide +kernel
set_option maxHeartbeats 4000000 in
set_option maxRecDepth 100000 in
theorem wr_by_53 {p : Program} {l : Launch} {e : Env} {s : State} {m : MethodId} {args : Array Value} {below : List Frame} {meth : Method} {c : Code} {D : va_G} {L : Nat → Nat} {K : Nat → ClassId} {t0 : Nat} (hJ : gj L 81) (C0 : gC cX1_by 3 none wsX1_by RX1 p s m args meth c) (hK : va_K D vwCl (tyG K) s) (hE : eX L t0 s) {w9 : St} (k7 : Int32 → Int32 → St → Option St) (i7 : ∀ (x1 : Int32) (x2 : Int32) (w : St) (H : Heap) (locs : List Loc) (ls : Array Slot), va_P D vwCl (gl L 81 (cX L K w)) H → va_S (gA L 81) s.heap H locs → lv_has ls 3 [(0, .ref (L 9)), (1, .int x1), (2, .int x2)] → k7 x1 x2 w = some w9 → W p l e { frames := 1, cells := 0, slots := 0, locals := 21 } s m args below meth c H locs 0 0 (MQ below (qV D L 81 (cX L K) w9) args s 0 0 (gA L 81)) (F0 m 7 ls [])) : ∀ (x1 : Int32) (x2 : Int32) (w : St) (H : Heap) (locs : List Loc) (ls : Array Slot), va_P D vwCl (gl L 81 (cX L K w)) H → va_S (gA L 81) s.heap H locs → lv_has ls 3 [(0, .ref (L 9)), (1, .int x1), (2, .int x2)] → fr_by_53 k7 x1 x2 w = some w9 → W p l e { frames := 1, cells := 0, slots := 0, locals := 21 } s m args below meth c H locs 0 0 (MQ below (qV D L 81 (cX L K) w9) args s 0 0 (gA L 81)) (F0 m 53 ls []) := by
  obtain ⟨hx, hb, hr, hml, hown, hts, hlk⟩ := id C0
  intro x1 x2 w H locs ls hw hS hl hf
  unfold fr_by_53 at hf
  refine lv_iinc (v := (x2 + 1)) (lv' := [(2, .int (x2 + 1)), (0, .ref (L 9)), (1, .int x1)]) hx hb dX1_by_53 hl (k := 2) rfl rfl (by decide) rfl (fun ls hl => ?_)
  refine lv_goto (tgt := 7) hx hb dX1_by_56 (by decide) ?_
  exact i7 _ _ _ _ _ _ hw hS (lv_sub hl [1, 2, 0] rfl) hf
set_option maxHeartbeats 4000000 in
set_option maxRecDepth 100000 in
theorem wr_by_7 {p : Program} {l : Launch} {e : Env} {s : State} {m : MethodId} {args : Array Value} {below : List Frame} {meth : Method} {c : Code} {D : va_G} {L : Nat → Nat} {K : Nat → ClassId} {t0 : Nat} (hJ : gj L 81) (C0 : gC cX1_by 3 none wsX1_by RX1 p s m args meth c) (hK : va_K D vwCl (tyG K) s) (hE : eX L t0 s) {w9 : St} : ∀ (fu : Nat) (x1 : Int32) (x2 : Int32) (w : St) (H : Heap) (locs : List Loc) (ls : Array Slot), va_P D vwCl (gl L 81 (cX L K w)) H → va_S (gA L 81) s.heap H locs → lv_has ls 3 [(0, .ref (L 9)), (1, .int x1), (2, .int x2)] → fr_by_7 fu x1 x2 w = some w9 → W p l e { frames := 1, cells := 0, slots := 0, locals := 21 } s m args below meth c H locs 0 0 (MQ below (qV D L 81 (cX L K) w9) args s 0 0 (gA L 81)) (F0 m 7 ls []) := by
  obtain ⟨hx, hb, hr, hml, hown, hts, hlk⟩ := id C0
  intro fu
  induction fu with
  | zero =>
    intro x1 x2 w H locs ls hw hS hl hf
    rw [fr_by_7] at hf
    exact no_n hf
  | succ fu ih =>
    intro x1 x2 w H locs ls hw hS hl hf
    rw [fr_by_7] at hf
    refine lv_iload_n hx hb dX1_by_7 rfl (lv_at hl 2 rfl) ?_
    refine lv_bipush (v := 7) hx hb dX1_by_8 (by decide) ?_
    refine lv_icmp_ge (tgt := 59) hx hb dX1_by_10 (by decide) (fun c10 => ?_) (fun c10 => ?_)
    · replace hf := if_t hf c10
      exact z_vret hx hb hr hlk hw hS hf dX1_by_59
    · replace hf := if_f hf c10
      refine lv_iload_n hx hb dX1_by_13 rfl (lv_at hl 1 rfl) ?_
      refine lv_iload_n hx hb dX1_by_14 rfl (lv_at hl 2 rfl) ?_
      obtain ⟨v15, h15, hf⟩ := bd_e hf
      refine z_calls (va_runSN (As := [.int x1, .int x2]) (rest := []) ⟨hx, hb, hml, hown, hts⟩ (kx_has l x1 x2 h15) ⟨va_cnB 2 hts gX1_by_X3_has_n19 rfl rfl rfl (hE.2.1 (RX1, 19, yX3_has, "OneSentence") (by decide)) (hts (.initialized RX3) (by decide +kernel)) (by decide +kernel) ⟨Nat.le_of_ble_eq_true rfl, Nat.le_of_ble_eq_true rfl⟩, hts (.static yX3_has) (by decide +kernel), trivial⟩ z_preT rfl rfl hl.1 rfl (lv_room (Nat.le_of_ble_eq_true rfl)) dX1_by_15 ⟨Nat.le_of_ble_eq_true rfl, Nat.le_of_ble_eq_true rfl⟩) ?_
      refine lv_if_eq (tgt := 53) hx hb dX1_by_18 (by decide) (fun c18 => ?_) (fun c18 => ?_)
      · replace hf := if_t hf c18
        exact wr_by_53 hJ C0 hK hE _ ih _ _ _ _ _ _ hw hS (lv_sub hl [0, 1, 2] rfl) hf
      · replace hf := if_f hf c18
        refine lv_aload_n hx hb dX1_by_21 rfl (lv_at hl 0 rfl) ?_
        refine z_get (v := .int (w.1 9 1)) hx hb hts hiX1_by_X1 hown hK hw (k := 9) kc_9.2 ((cX_a3 kc_9.1) _) rfl 1 (by decide) (hts (.fieldLink RX1 15 "OneSentence$Rows" "size" "I") (by decide +kernel)) rfl dX1_by_22 ?_
        refine lv_aload_n hx hb dX1_by_25 rfl (lv_at hl 0 rfl) ?_
        refine z_get (v := .ref (L 10)) hx hb hts hiX1_by_X1 hown hK hw (k := 9) kc_9.2 ((cX_a3 kc_9.1) _) rfl 0 (by decide) (hts (.fieldLink RX1 9 "OneSentence$Rows" "who" "[I") (by decide +kernel)) rfl dX1_by_26 ?_
        refine z_alen (v := 7) hx hb hK hw 0 (k := 10) kc_10.2 ((cX_a4 kc_10.1) _) rfl rfl dX1_by_29 ?_
        refine lv_icmp_ge (tgt := 53) hx hb dX1_by_30 (by decide) (fun c30 => ?_) (fun c30 => ?_)
        · replace hf := if_t hf c30
          exact wr_by_53 hJ C0 hK hE _ ih _ _ _ _ _ _ hw hS (lv_sub hl [0, 1, 2] rfl) hf
        · replace hf := if_f hf c30
          refine lv_aload_n hx hb dX1_by_33 rfl (lv_at hl 0 rfl) ?_
          refine z_get (v := .ref (L 10)) hx hb hts hiX1_by_X1 hown hK hw (k := 9) kc_9.2 ((cX_a3 kc_9.1) _) rfl 0 (by decide) (hts (.fieldLink RX1 9 "OneSentence$Rows" "who" "[I") (by decide +kernel)) rfl dX1_by_34 ?_
          refine lv_aload_n hx hb dX1_by_37 rfl (lv_at hl 0 rfl) ?_
          refine z_get (v := .int (w.1 9 1)) hx hb hts hiX1_by_X1 hown hK hw (k := 9) kc_9.2 ((cX_a3 kc_9.1) _) rfl 1 (by decide) (hts (.fieldLink RX1 15 "OneSentence$Rows" "size" "I") (by decide +kernel)) rfl dX1_by_38 ?_
          refine lv_iload_n hx hb dX1_by_41 rfl (lv_at hl 2 rfl) ?_
          obtain ⟨w42, h42, hf⟩ := bd_e hf
          refine z_iast hx hb hK hJ hw hS 0 (k := 10) kc_10.2 cX_ne (cX_a4 kc_10.1) rfl h42 dX1_by_42 (fun H locs hw hS => ?_)
          refine lv_aload_n hx hb dX1_by_43 rfl (lv_at hl 0 rfl) ?_
          refine lv_dup hx hb dX1_by_44 rfl ?_
          refine z_get (v := .int (w42.1 9 1)) hx hb hts hiX1_by_X1 hown hK hw (k := 9) kc_9.2 ((cX_a3 kc_9.1) _) rfl 1 (by decide) (hts (.fieldLink RX1 15 "OneSentence$Rows" "size" "I") (by decide +kernel)) rfl dX1_by_45 ?_
          refine lv_iconst (v := 1) hx hb dX1_by_48 (by decide) ?_
          refine lv_iadd hx hb dX1_by_49 ?_
          refine z_puti hx hb hts hiX1_by_X1 tyX1 tyX1_ok nmX1 hown hK hJ hw hS (k := 9) kc_9.2 cX_ne (fs := (fX3 L)) (cX_a3 kc_9.1) rfl 1 (by decide) (hts (.fieldLink RX1 15 "OneSentence$Rows" "size" "I") (by decide +kernel)) rfl rfl (fun _ _ => ⟨Nat.le_of_ble_eq_true rfl, rfl⟩) dX1_by_50 (fun H locs hw hS => ?_)
          exact wr_by_53 hJ C0 hK hE _ ih _ _ _ _ _ _ hw hS (lv_sub hl [0, 1, 2] rfl) hf
set_option maxHeartbeats 4000000 in
set_option maxRecDepth 100000 in
theorem wr_by_0 {p : Program} {l : Launch} {e : Env} {s : State} {m : MethodId} {args : Array Value} {below : List Frame} {meth : Method} {c : Code} {D : va_G} {L : Nat → Nat} {K : Nat → ClassId} {t0 : Nat} (hJ : gj L 81) (C0 : gC cX1_by 3 none wsX1_by RX1 p s m args meth c) (hK : va_K D vwCl (tyG K) s) (hE : eX L t0 s) {w9 : St} : ∀ (x1 : Int32) (w : St) (H : Heap) (locs : List Loc) (ls : Array Slot), va_P D vwCl (gl L 81 (cX L K w)) H → va_S (gA L 81) s.heap H locs → lv_has ls 3 [(0, .ref (L 9)), (1, .int x1)] → fr_by x1 w = some w9 → W p l e { frames := 1, cells := 0, slots := 0, locals := 21 } s m args below meth c H locs 0 0 (MQ below (qV D L 81 (cX L K) w9) args s 0 0 (gA L 81)) (F0 m 0 ls []) := by
  obtain ⟨hx, hb, hr, hml, hown, hts, hlk⟩ := id C0
  intro x1 w H locs ls hw hS hl hf
  unfold fr_by at hf
  refine lv_aload_n hx hb dX1_by_0 rfl (lv_at hl 0 rfl) ?_
  refine lv_iconst (v := 0) hx hb dX1_by_1 (by decide) ?_
  refine z_puti hx hb hts hiX1_by_X1 tyX1 tyX1_ok nmX1 hown hK hJ hw hS (k := 9) kc_9.2 cX_ne (fs := (fX3 L)) (cX_a3 kc_9.1) rfl 1 (by decide) (hts (.fieldLink RX1 15 "OneSentence$Rows" "size" "I") (by decide +kernel)) rfl rfl (fun _ _ => ⟨Nat.le_of_ble_eq_true rfl, rfl⟩) dX1_by_2 (fun H locs hw hS => ?_)
  refine lv_iconst (v := 0) hx hb dX1_by_5 (by decide) ?_
  refine lv_istore_n (lv' := [(2, .int 0), (0, .ref (L 9)), (1, .int x1)]) hx hb dX1_by_6 rfl hl (by decide) rfl (fun ls hl => ?_)
  exact wr_by_7 hJ C0 hK hE _ _ _ _ _ _ _ hw hS (lv_sub hl [1, 2, 0] rfl) hf
set_option maxHeartbeats 4000000 in
set_option maxRecDepth 100000 in
theorem kr_by (l : Launch) {D : va_G} {L : Nat → Nat} {K : Nat → ClassId} {t0 : Nat} (hJ : gj L 81) (x1 : Int32) (w : St) {w9 : St} (hf : fr_by x1 w = some w9) : Met l yX1_by wsX1_by ({ frames := 1, cells := 0, slots := 0, locals := 21 }) (va_Pc [.ref (L 9), .int x1] (xP D L K t0 w)) (qV D L 81 (cX L K) w9) 0 0 (gA L 81) := by
  refine g_met (cc := cX1_by) (nL := 3) (ret := none) (by decide) rfl (Nat.le_of_ble_eq_true rfl) (fun p e s m below meth c ls C0 hP hl => ?_)
  exact wr_by_0 hJ C0 hP.2.1 hP.2.2 _ w _ _ ls hP.1 va_S.rf (lv_sub hl [0, 1] rfl) hf
theorem dX3_power_0 : decode cX3_power 0 = .ok (.iconst 1, 1) := by decide +kernel
theorem dX3_power_1 : decode cX3_power 1 = .ok (.istore_n 2, 1) := by decide +kernel
theorem dX3_power_2 : decode cX3_power 2 = .ok (.iconst 0, 1) := by decide +kernel
theorem dX3_power_3 : decode cX3_power 3 = .ok (.istore_n 3, 1) := by decide +kernel
theorem dX3_power_4 : decode cX3_power 4 = .ok (.iload_n 3, 1) := by decide +kernel
theorem dX3_power_5 : decode cX3_power 5 = .ok (.iload_n 1, 1) := by decide +kernel
theorem dX3_power_6 : decode cX3_power 6 = .ok (.if_icmp .ge 13, 3) := by decide +kernel
theorem dX3_power_9 : decode cX3_power 9 = .ok (.iload_n 2, 1) := by decide +kernel
theorem dX3_power_10 : decode cX3_power 10 = .ok (.iload_n 0, 1) := by decide +kernel
theorem dX3_power_11 : decode cX3_power 11 = .ok (.imul, 1) := by decide +kernel
theorem dX3_power_12 : decode cX3_power 12 = .ok (.istore_n 2, 1) := by decide +kernel
theorem dX3_power_13 : decode cX3_power 13 = .ok (.iinc 3 1, 3) := by decide +kernel
theorem dX3_power_16 : decode cX3_power 16 = .ok (.goto (-12), 3) := by decide +kernel
theorem dX3_power_19 : decode cX3_power 19 = .ok (.iload_n 2, 1) := by decide +kernel
theorem dX3_power_20 : decode cX3_power 20 = .ok (.ireturn, 1) := by decide +kernel
set_option maxHeartbeats 4000000 in
set_option maxRecDepth 100000 in
theorem wx_power_4 {p : Program} {l : Launch} {e : Env} {s : State} {m : MethodId} {args : Array Value} {below : List Frame} {meth : Method} {c : Code} (C0 : gC cX3_power 4 (some .int) wsX3_power RX3 p s m args meth c) {rs : Int32} : ∀ (fu : Nat) (x0 : Int32) (x1 : Int32) (x2 : Int32) (x3 : Int32) (ls : Array Slot), lv_has ls 4 [(0, .int x0), (1, .int x1), (2, .int x2), (3, .int x3)] → fx_power_4 fu x0 x1 x2 x3 = some rs → W p l e { frames := 0, cells := 0, slots := 0, locals := 0 } s m args below meth c s.heap [] 0 0 (MQ below (qS rs) args s 0 0 (fun _ => False)) (F0 m 4 ls []) := by
  obtain ⟨hx, hb, hr, hml, hown, hts, hlk⟩ := id C0
  intro fu
  induction fu with
  | zero =>
    intro x0 x1 x2 x3 ls hl hf
    rw [fx_power_4] at hf
    exact no_n hf
  | succ fu ih =>
    intro x0 x1 x2 x3 ls hl hf
    rw [fx_power_4] at hf
    refine lv_iload_n hx hb dX3_power_4 rfl (lv_at hl 3 rfl) ?_
    refine lv_iload_n hx hb dX3_power_5 rfl (lv_at hl 1 rfl) ?_
    refine lv_icmp_ge (tgt := 19) hx hb dX3_power_6 (by decide) (fun c6 => ?_) (fun c6 => ?_)
    · replace hf := if_t hf c6
      refine lv_iload_n hx hb dX3_power_19 rfl (lv_at hl 2 rfl) ?_
      exact z_sret hx hb hr hlk hf dX3_power_20
    · replace hf := if_f hf c6
      refine lv_iload_n hx hb dX3_power_9 rfl (lv_at hl 2 rfl) ?_
      refine lv_iload_n hx hb dX3_power_10 rfl (lv_at hl 0 rfl) ?_
      refine lv_imul hx hb dX3_power_11 ?_
      refine lv_topi (fun v12 e12 => ?_)
      replace hf := lb_e hf e12
      refine lv_istore_n (lv' := [(2, .int v12), (0, .int x0), (1, .int x1), (3, .int x3)]) hx hb dX3_power_12 rfl hl (by decide) rfl (fun ls hl => ?_)
      refine lv_iinc (v := (x3 + 1)) (lv' := [(3, .int (x3 + 1)), (2, .int v12), (0, .int x0), (1, .int x1)]) hx hb dX3_power_13 hl (k := 3) rfl rfl (by decide) rfl (fun ls hl => ?_)
      refine lv_goto (tgt := 4) hx hb dX3_power_16 (by decide) ?_
      exact ih _ _ _ _ _ (lv_sub hl [2, 3, 1, 0] rfl) hf
set_option maxHeartbeats 4000000 in
set_option maxRecDepth 100000 in
theorem wx_power_0 {p : Program} {l : Launch} {e : Env} {s : State} {m : MethodId} {args : Array Value} {below : List Frame} {meth : Method} {c : Code} (C0 : gC cX3_power 4 (some .int) wsX3_power RX3 p s m args meth c) {rs : Int32} : ∀ (x0 : Int32) (x1 : Int32) (ls : Array Slot), lv_has ls 4 [(0, .int x0), (1, .int x1)] → fx_power x0 x1 = some rs → W p l e { frames := 0, cells := 0, slots := 0, locals := 0 } s m args below meth c s.heap [] 0 0 (MQ below (qS rs) args s 0 0 (fun _ => False)) (F0 m 0 ls []) := by
  obtain ⟨hx, hb, hr, hml, hown, hts, hlk⟩ := id C0
  intro x0 x1 ls hl hf
  unfold fx_power at hf
  refine lv_iconst (v := 1) hx hb dX3_power_0 (by decide) ?_
  refine lv_istore_n (lv' := [(2, .int 1), (0, .int x0), (1, .int x1)]) hx hb dX3_power_1 rfl hl (by decide) rfl (fun ls hl => ?_)
  refine lv_iconst (v := 0) hx hb dX3_power_2 (by decide) ?_
  refine lv_istore_n (lv' := [(3, .int 0), (2, .int 1), (0, .int x0), (1, .int x1)]) hx hb dX3_power_3 rfl hl (by decide) rfl (fun ls hl => ?_)
  exact wx_power_4 C0 _ _ _ _ _ _ (lv_sub hl [2, 3, 1, 0] rfl) hf
set_option maxHeartbeats 4000000 in
set_option maxRecDepth 100000 in
theorem kx_power (l : Launch) (x0 : Int32) (x1 : Int32) {rs : Int32} (hf : fx_power x0 x1 = some rs) : Met l yX3_power wsX3_power ({ frames := 0, cells := 0, slots := 0, locals := 0 }) (va_Pc [.int x0, .int x1] (fun _ => True)) (qS rs) 0 0 (fun _ => False) := by
  refine g_met (cc := cX3_power) (nL := 4) (ret := (some .int)) (by decide) rfl (Nat.le_of_ble_eq_true rfl) (fun p e s m below meth c ls C0 _ hl => ?_)
  exact wx_power_0 C0 _ _ ls (lv_sub hl [0, 1] rfl) hf
set_option maxRecDepth 20000 in
theorem ggX1_many_X3_power : GoodIn wsX1_many wsX3_power := goodIn_r _ [4] (by decide +kernel) (by decide +kernel)
set_option maxRecDepth 20000 in
theorem gX1_many_X3_power_n23 : GoodIn wsX1_many (wsX3_power) := ggX1_many_X3_power
theorem dX1_many_0 : decode cX1_many 0 = .ok (.aload_n 0, 1) := by decide +kernel
theorem dX1_many_1 : decode cX1_many 1 = .ok (.getfield 15, 3) := by decide +kernel
theorem dX1_many_4 : decode cX1_many 4 = .ok (.iload_n 1, 1) := by decide +kernel
theorem dX1_many_5 : decode cX1_many 5 = .ok (.invokestatic 23, 3) := by decide +kernel
theorem dX1_many_8 : decode cX1_many 8 = .ok (.ireturn, 1) := by decide +kernel
set_option maxRecDepth 20000 in
theorem hiX1_many_X1 : ∀ w ∈ u_ws RX1 TX1 2, w ∈ wsX1_many := by decide +kernel
set_option maxHeartbeats 4000000 in
set_option maxRecDepth 100000 in
theorem wr_many_0 {p : Program} {l : Launch} {e : Env} {s : State} {m : MethodId} {args : Array Value} {below : List Frame} {meth : Method} {c : Code} {D : va_G} {L : Nat → Nat} {K : Nat → ClassId} {t0 : Nat} (hJ : gj L 81) (C0 : gC cX1_many 2 (some .int) wsX1_many RX1 p s m args meth c) (hK : va_K D vwCl (tyG K) s) (hE : eX L t0 s) {w9 : St} {rs : Int32} : ∀ (x1 : Int32) (w : St) (H : Heap) (locs : List Loc) (ls : Array Slot), va_P D vwCl (gl L 81 (cX L K w)) H → va_S (gA L 81) s.heap H locs → lv_has ls 2 [(0, .ref (L 9)), (1, .int x1)] → fr_many x1 w = some (rs, w9) → W p l e { frames := 1, cells := 0, slots := 0, locals := 23 } s m args below meth c H locs 0 0 (MQ below (qI D L 81 (cX L K) rs w9) args s 0 0 (gA L 81)) (F0 m 0 ls []) := by
  obtain ⟨hx, hb, hr, hml, hown, hts, hlk⟩ := id C0
  intro x1 w H locs ls hw hS hl hf
  unfold fr_many at hf
  refine lv_aload_n hx hb dX1_many_0 rfl (lv_at hl 0 rfl) ?_
  refine z_get (v := .int (w.1 9 1)) hx hb hts hiX1_many_X1 hown hK hw (k := 9) kc_9.2 ((cX_a3 kc_9.1) _) rfl 1 (by decide) (hts (.fieldLink RX1 15 "OneSentence$Rows" "size" "I") (by decide +kernel)) rfl dX1_many_1 ?_
  refine lv_iload_n hx hb dX1_many_4 rfl (lv_at hl 1 rfl) ?_
  obtain ⟨v5, h5, hf⟩ := bd_e hf
  refine z_calls (va_runSN (As := [.int (w.1 9 1), .int x1]) (rest := []) ⟨hx, hb, hml, hown, hts⟩ (kx_power l (w.1 9 1) x1 h5) ⟨va_cnB 2 hts gX1_many_X3_power_n23 rfl rfl rfl (hE.2.1 (RX1, 23, yX3_power, "OneSentence") (by decide)) (hts (.initialized RX3) (by decide +kernel)) (by decide +kernel) ⟨Nat.le_of_ble_eq_true rfl, Nat.le_of_ble_eq_true rfl⟩, hts (.static yX3_power) (by decide +kernel), trivial⟩ z_preT rfl rfl hl.1 rfl (lv_room (Nat.le_of_ble_eq_true rfl)) dX1_many_5 ⟨Nat.le_of_ble_eq_true rfl, Nat.le_of_ble_eq_true rfl⟩) ?_
  exact z_iret hx hb hr hlk hw hS hf dX1_many_8
set_option maxHeartbeats 4000000 in
set_option maxRecDepth 100000 in
theorem kr_many (l : Launch) {D : va_G} {L : Nat → Nat} {K : Nat → ClassId} {t0 : Nat} (hJ : gj L 81) (x1 : Int32) (w : St) {w9 : St} {rs : Int32} (hf : fr_many x1 w = some (rs, w9)) : Met l yX1_many wsX1_many ({ frames := 1, cells := 0, slots := 0, locals := 23 }) (va_Pc [.ref (L 9), .int x1] (xP D L K t0 w)) (qI D L 81 (cX L K) rs w9) 0 0 (gA L 81) := by
  refine g_met (cc := cX1_many) (nL := 2) (ret := (some .int)) (by decide) rfl (Nat.le_of_ble_eq_true rfl) (fun p e s m below meth c ls C0 hP hl => ?_)
  exact wr_many_0 hJ C0 hP.2.1 hP.2.2 _ w _ _ ls hP.1 va_S.rf (lv_sub hl [0, 1] rfl) hf
theorem dX1_told_0 : decode cX1_told 0 = .ok (.aload_n 0, 1) := by decide +kernel
theorem dX1_told_1 : decode cX1_told 1 = .ok (.getfield 15, 3) := by decide +kernel
theorem dX1_told_4 : decode cX1_told 4 = .ok (.ifCond .le 7, 3) := by decide +kernel
theorem dX1_told_7 : decode cX1_told 7 = .ok (.iload_n 1, 1) := by decide +kernel
theorem dX1_told_8 : decode cX1_told 8 = .ok (.ifCond .ge 5, 3) := by decide +kernel
theorem dX1_told_11 : decode cX1_told 11 = .ok (.iconst 0, 1) := by decide +kernel
theorem dX1_told_12 : decode cX1_told 12 = .ok (.ireturn, 1) := by decide +kernel
theorem dX1_told_13 : decode cX1_told 13 = .ok (.iconst 0, 1) := by decide +kernel
theorem dX1_told_14 : decode cX1_told 14 = .ok (.istore_n 3, 1) := by decide +kernel
theorem dX1_told_15 : decode cX1_told 15 = .ok (.iload_n 1, 1) := by decide +kernel
theorem dX1_told_16 : decode cX1_told 16 = .ok (.istore 4, 2) := by decide +kernel
theorem dX1_told_18 : decode cX1_told 18 = .ok (.iconst 1, 1) := by decide +kernel
theorem dX1_told_19 : decode cX1_told 19 = .ok (.istore 5, 2) := by decide +kernel
theorem dX1_told_21 : decode cX1_told 21 = .ok (.iconst 0, 1) := by decide +kernel
theorem dX1_told_22 : decode cX1_told 22 = .ok (.istore 6, 2) := by decide +kernel
theorem dX1_told_24 : decode cX1_told 24 = .ok (.iload 6, 2) := by decide +kernel
theorem dX1_told_26 : decode cX1_told 26 = .ok (.iload_n 2, 1) := by decide +kernel
theorem dX1_told_27 : decode cX1_told 27 = .ok (.if_icmp .ge 45, 3) := by decide +kernel
theorem dX1_told_30 : decode cX1_told 30 = .ok (.iload_n 3, 1) := by decide +kernel
theorem dX1_told_31 : decode cX1_told 31 = .ok (.iload 5, 2) := by decide +kernel
theorem dX1_told_33 : decode cX1_told 33 = .ok (.aload_n 0, 1) := by decide +kernel
theorem dX1_told_34 : decode cX1_told 34 = .ok (.getfield 9, 3) := by decide +kernel
theorem dX1_told_37 : decode cX1_told 37 = .ok (.iload 4, 2) := by decide +kernel
theorem dX1_told_39 : decode cX1_told 39 = .ok (.aload_n 0, 1) := by decide +kernel
theorem dX1_told_40 : decode cX1_told 40 = .ok (.getfield 15, 3) := by decide +kernel
theorem dX1_told_43 : decode cX1_told 43 = .ok (.irem, 1) := by decide +kernel
theorem dX1_told_44 : decode cX1_told 44 = .ok (.iaload, 1) := by decide +kernel
theorem dX1_told_45 : decode cX1_told 45 = .ok (.iconst 1, 1) := by decide +kernel
theorem dX1_told_46 : decode cX1_told 46 = .ok (.iadd, 1) := by decide +kernel
theorem dX1_told_47 : decode cX1_told 47 = .ok (.imul, 1) := by decide +kernel
theorem dX1_told_48 : decode cX1_told 48 = .ok (.iadd, 1) := by decide +kernel
theorem dX1_told_49 : decode cX1_told 49 = .ok (.istore_n 3, 1) := by decide +kernel
theorem dX1_told_50 : decode cX1_told 50 = .ok (.iload 4, 2) := by decide +kernel
theorem dX1_told_52 : decode cX1_told 52 = .ok (.aload_n 0, 1) := by decide +kernel
theorem dX1_told_53 : decode cX1_told 53 = .ok (.getfield 15, 3) := by decide +kernel
theorem dX1_told_56 : decode cX1_told 56 = .ok (.idiv, 1) := by decide +kernel
theorem dX1_told_57 : decode cX1_told 57 = .ok (.istore 4, 2) := by decide +kernel
theorem dX1_told_59 : decode cX1_told 59 = .ok (.iload 5, 2) := by decide +kernel
theorem dX1_told_61 : decode cX1_told 61 = .ok (.bipush 10, 2) := by decide +kernel
theorem dX1_told_63 : decode cX1_told 63 = .ok (.imul, 1) := by decide +kernel
theorem dX1_told_64 : decode cX1_told 64 = .ok (.istore 5, 2) := by decide +kernel
theorem dX1_told_66 : decode cX1_told 66 = .ok (.iinc 6 1, 3) := by decide +kernel
theorem dX1_told_69 : decode cX1_told 69 = .ok (.goto (-45), 3) := by decide +kernel
theorem dX1_told_72 : decode cX1_told 72 = .ok (.iload_n 3, 1) := by decide +kernel
theorem dX1_told_73 : decode cX1_told 73 = .ok (.ireturn, 1) := by decide +kernel
set_option maxRecDepth 20000 in
theorem hiX1_told_X1 : ∀ w ∈ u_ws RX1 TX1 2, w ∈ wsX1_told := by decide +kernel
set_option maxHeartbeats 4000000 in
set_option maxRecDepth 100000 in
theorem wr_told_24 {p : Program} {l : Launch} {e : Env} {s : State} {m : MethodId} {args : Array Value} {below : List Frame} {meth : Method} {c : Code} {D : va_G} {L : Nat → Nat} {K : Nat → ClassId} {t0 : Nat} (hJ : gj L 81) (C0 : gC cX1_told 7 (some .int) wsX1_told RX1 p s m args meth c) (hK : va_K D vwCl (tyG K) s) (hE : eX L t0 s) {w9 : St} {rs : Int32} : ∀ (fu : Nat) (x2 : Int32) (x3 : Int32) (x4 : Int32) (x5 : Int32) (x6 : Int32) (w : St) (H : Heap) (locs : List Loc) (ls : Array Slot), va_P D vwCl (gl L 81 (cX L K w)) H → va_S (gA L 81) s.heap H locs → lv_has ls 7 [(0, .ref (L 9)), (2, .int x2), (3, .int x3), (4, .int x4), (5, .int x5), (6, .int x6)] → fr_told_24 fu x2 x3 x4 x5 x6 w = some (rs, w9) → W p l e { frames := 0, cells := 0, slots := 0, locals := 0 } s m args below meth c H locs 0 0 (MQ below (qI D L 81 (cX L K) rs w9) args s 0 0 (gA L 81)) (F0 m 24 ls []) := by
  obtain ⟨hx, hb, hr, hml, hown, hts, hlk⟩ := id C0
  intro fu
  induction fu with
  | zero =>
    intro x2 x3 x4 x5 x6 w H locs ls hw hS hl hf
    rw [fr_told_24] at hf
    exact no_n hf
  | succ fu ih =>
    intro x2 x3 x4 x5 x6 w H locs ls hw hS hl hf
    rw [fr_told_24] at hf
    refine lv_iload hx hb dX1_told_24 (lv_at hl 5 rfl) ?_
    refine lv_iload_n hx hb dX1_told_26 rfl (lv_at hl 1 rfl) ?_
    refine lv_icmp_ge (tgt := 72) hx hb dX1_told_27 (by decide) (fun c27 => ?_) (fun c27 => ?_)
    · replace hf := if_t hf c27
      refine lv_iload_n hx hb dX1_told_72 rfl (lv_at hl 2 rfl) ?_
      exact z_iret hx hb hr hlk hw hS hf dX1_told_73
    · replace hf := if_f hf c27
      refine lv_iload_n hx hb dX1_told_30 rfl (lv_at hl 2 rfl) ?_
      refine lv_iload hx hb dX1_told_31 (lv_at hl 4 rfl) ?_
      refine lv_aload_n hx hb dX1_told_33 rfl (lv_at hl 0 rfl) ?_
      refine z_get (v := .ref (L 10)) hx hb hts hiX1_told_X1 hown hK hw (k := 9) kc_9.2 ((cX_a3 kc_9.1) _) rfl 0 (by decide) (hts (.fieldLink RX1 9 "OneSentence$Rows" "who" "[I") (by decide +kernel)) rfl dX1_told_34 ?_
      refine lv_iload hx hb dX1_told_37 (lv_at hl 3 rfl) ?_
      refine lv_aload_n hx hb dX1_told_39 rfl (lv_at hl 0 rfl) ?_
      refine z_get (v := .int (w.1 9 1)) hx hb hts hiX1_told_X1 hown hK hw (k := 9) kc_9.2 ((cX_a3 kc_9.1) _) rfl 1 (by decide) (hts (.fieldLink RX1 15 "OneSentence$Rows" "size" "I") (by decide +kernel)) rfl dX1_told_40 ?_
      obtain ⟨v43, h43, hf⟩ := bd_e hf
      obtain ⟨n43, j43⟩ := gm_e h43
      refine lv_irem hx hb dX1_told_43 n43 ?_
      rw [j43]
      obtain ⟨v44, h44, hf⟩ := bd_e hf
      refine z_iald hx hb hK hw 0 (k := 10) kc_10.2 ((cX_a4 kc_10.1) _) rfl h44 dX1_told_44 ?_
      refine lv_iconst (v := 1) hx hb dX1_told_45 (by decide) ?_
      refine lv_iadd hx hb dX1_told_46 ?_
      refine lv_imul hx hb dX1_told_47 ?_
      refine lv_iadd hx hb dX1_told_48 ?_
      refine lv_topi (fun v49 e49 => ?_)
      replace hf := lb_e hf e49
      refine lv_istore_n (lv' := [(3, .int v49), (0, .ref (L 9)), (2, .int x2), (4, .int x4), (5, .int x5), (6, .int x6)]) hx hb dX1_told_49 rfl hl (by decide) rfl (fun ls hl => ?_)
      refine lv_iload hx hb dX1_told_50 (lv_at hl 3 rfl) ?_
      refine lv_aload_n hx hb dX1_told_52 rfl (lv_at hl 1 rfl) ?_
      refine z_get (v := .int (w.1 9 1)) hx hb hts hiX1_told_X1 hown hK hw (k := 9) kc_9.2 ((cX_a3 kc_9.1) _) rfl 1 (by decide) (hts (.fieldLink RX1 15 "OneSentence$Rows" "size" "I") (by decide +kernel)) rfl dX1_told_53 ?_
      obtain ⟨v56, h56, hf⟩ := bd_e hf
      obtain ⟨n56, j56⟩ := gd_e h56
      refine lv_idiv hx hb dX1_told_56 n56 ?_
      rw [j56]
      refine lv_istore (lv' := [(4, .int v56), (3, .int v49), (0, .ref (L 9)), (2, .int x2), (5, .int x5), (6, .int x6)]) hx hb dX1_told_57 hl (by decide) rfl (fun ls hl => ?_)
      refine lv_iload hx hb dX1_told_59 (lv_at hl 4 rfl) ?_
      refine lv_bipush (v := 10) hx hb dX1_told_61 (by decide) ?_
      refine lv_imul hx hb dX1_told_63 ?_
      refine lv_topi (fun v64 e64 => ?_)
      replace hf := lb_e hf e64
      refine lv_istore (lv' := [(5, .int v64), (4, .int v56), (3, .int v49), (0, .ref (L 9)), (2, .int x2), (6, .int x6)]) hx hb dX1_told_64 hl (by decide) rfl (fun ls hl => ?_)
      refine lv_iinc (v := (x6 + 1)) (lv' := [(6, .int (x6 + 1)), (5, .int v64), (4, .int v56), (3, .int v49), (0, .ref (L 9)), (2, .int x2)]) hx hb dX1_told_66 hl (k := 5) rfl rfl (by decide) rfl (fun ls hl => ?_)
      refine lv_goto (tgt := 24) hx hb dX1_told_69 (by decide) ?_
      exact ih _ _ _ _ _ _ _ _ _ hw hS (lv_sub hl [4, 5, 3, 2, 1, 0] rfl) hf
set_option maxHeartbeats 4000000 in
set_option maxRecDepth 100000 in
theorem wr_told_0 {p : Program} {l : Launch} {e : Env} {s : State} {m : MethodId} {args : Array Value} {below : List Frame} {meth : Method} {c : Code} {D : va_G} {L : Nat → Nat} {K : Nat → ClassId} {t0 : Nat} (hJ : gj L 81) (C0 : gC cX1_told 7 (some .int) wsX1_told RX1 p s m args meth c) (hK : va_K D vwCl (tyG K) s) (hE : eX L t0 s) {w9 : St} {rs : Int32} : ∀ (x1 : Int32) (x2 : Int32) (w : St) (H : Heap) (locs : List Loc) (ls : Array Slot), va_P D vwCl (gl L 81 (cX L K w)) H → va_S (gA L 81) s.heap H locs → lv_has ls 7 [(0, .ref (L 9)), (1, .int x1), (2, .int x2)] → fr_told x1 x2 w = some (rs, w9) → W p l e { frames := 0, cells := 0, slots := 0, locals := 0 } s m args below meth c H locs 0 0 (MQ below (qI D L 81 (cX L K) rs w9) args s 0 0 (gA L 81)) (F0 m 0 ls []) := by
  obtain ⟨hx, hb, hr, hml, hown, hts, hlk⟩ := id C0
  intro x1 x2 w H locs ls hw hS hl hf
  unfold fr_told at hf
  refine lv_aload_n hx hb dX1_told_0 rfl (lv_at hl 0 rfl) ?_
  refine z_get (v := .int (w.1 9 1)) hx hb hts hiX1_told_X1 hown hK hw (k := 9) kc_9.2 ((cX_a3 kc_9.1) _) rfl 1 (by decide) (hts (.fieldLink RX1 15 "OneSentence$Rows" "size" "I") (by decide +kernel)) rfl dX1_told_1 ?_
  refine lv_if_le (tgt := 11) hx hb dX1_told_4 (by decide) (fun c4 => ?_) (fun c4 => ?_)
  · replace hf := if_t hf c4
    refine lv_iconst (v := 0) hx hb dX1_told_11 (by decide) ?_
    exact z_iret hx hb hr hlk hw hS hf dX1_told_12
  · replace hf := if_f hf c4
    refine lv_iload_n hx hb dX1_told_7 rfl (lv_at hl 1 rfl) ?_
    refine lv_if_ge (tgt := 13) hx hb dX1_told_8 (by decide) (fun c8 => ?_) (fun c8 => ?_)
    · replace hf := if_t hf c8
      refine lv_iconst (v := 0) hx hb dX1_told_13 (by decide) ?_
      refine lv_istore_n (lv' := [(3, .int 0), (0, .ref (L 9)), (1, .int x1), (2, .int x2)]) hx hb dX1_told_14 rfl hl (by decide) rfl (fun ls hl => ?_)
      refine lv_iload_n hx hb dX1_told_15 rfl (lv_at hl 2 rfl) ?_
      refine lv_istore (lv' := [(4, .int x1), (3, .int 0), (0, .ref (L 9)), (1, .int x1), (2, .int x2)]) hx hb dX1_told_16 hl (by decide) rfl (fun ls hl => ?_)
      refine lv_iconst (v := 1) hx hb dX1_told_18 (by decide) ?_
      refine lv_istore (lv' := [(5, .int 1), (4, .int x1), (3, .int 0), (0, .ref (L 9)), (1, .int x1), (2, .int x2)]) hx hb dX1_told_19 hl (by decide) rfl (fun ls hl => ?_)
      refine lv_iconst (v := 0) hx hb dX1_told_21 (by decide) ?_
      refine lv_istore (lv' := [(6, .int 0), (5, .int 1), (4, .int x1), (3, .int 0), (0, .ref (L 9)), (1, .int x1), (2, .int x2)]) hx hb dX1_told_22 hl (by decide) rfl (fun ls hl => ?_)
      exact wr_told_24 hJ C0 hK hE _ _ _ _ _ _ _ _ _ _ hw hS (lv_sub hl [4, 6, 3, 2, 1, 0] rfl) hf
    · replace hf := if_f hf c8
      refine lv_iconst (v := 0) hx hb dX1_told_11 (by decide) ?_
      exact z_iret hx hb hr hlk hw hS hf dX1_told_12
set_option maxHeartbeats 4000000 in
set_option maxRecDepth 100000 in
theorem kr_told (l : Launch) {D : va_G} {L : Nat → Nat} {K : Nat → ClassId} {t0 : Nat} (hJ : gj L 81) (x1 : Int32) (x2 : Int32) (w : St) {w9 : St} {rs : Int32} (hf : fr_told x1 x2 w = some (rs, w9)) : Met l yX1_told wsX1_told ({ frames := 0, cells := 0, slots := 0, locals := 0 }) (va_Pc [.ref (L 9), .int x1, .int x2] (xP D L K t0 w)) (qI D L 81 (cX L K) rs w9) 0 0 (gA L 81) := by
  refine g_met (cc := cX1_told) (nL := 7) (ret := (some .int)) (by decide) rfl (Nat.le_of_ble_eq_true rfl) (fun p e s m below meth c ls C0 hP hl => ?_)
  exact wr_told_0 hJ C0 hP.2.1 hP.2.2 _ _ w _ _ ls hP.1 va_S.rf (lv_sub hl [0, 1, 2] rfl) hf
theorem dX2_made_0 : decode cX2_made 0 = .ok (.iload_n 1, 1) := by decide +kernel
theorem dX2_made_1 : decode cX2_made 1 = .ok (.bipush (-9), 2) := by decide +kernel
theorem dX2_made_3 : decode cX2_made 3 = .ok (.if_icmp .ne 5, 3) := by decide +kernel
theorem dX2_made_6 : decode cX2_made 6 = .ok (.iload_n 0, 1) := by decide +kernel
theorem dX2_made_7 : decode cX2_made 7 = .ok (.ireturn, 1) := by decide +kernel
theorem dX2_made_8 : decode cX2_made 8 = .ok (.iload_n 1, 1) := by decide +kernel
theorem dX2_made_9 : decode cX2_made 9 = .ok (.bipush 10, 2) := by decide +kernel
theorem dX2_made_11 : decode cX2_made 11 = .ok (.irem, 1) := by decide +kernel
theorem dX2_made_12 : decode cX2_made 12 = .ok (.istore_n 2, 1) := by decide +kernel
theorem dX2_made_13 : decode cX2_made 13 = .ok (.iload_n 1, 1) := by decide +kernel
theorem dX2_made_14 : decode cX2_made 14 = .ok (.bipush 10, 2) := by decide +kernel
theorem dX2_made_16 : decode cX2_made 16 = .ok (.idiv, 1) := by decide +kernel
theorem dX2_made_17 : decode cX2_made 17 = .ok (.tableswitch 41 0 2 #[27, 29, 36], 27) := by decide +kernel
theorem dX2_made_44 : decode cX2_made 44 = .ok (.iload_n 2, 1) := by decide +kernel
theorem dX2_made_45 : decode cX2_made 45 = .ok (.ireturn, 1) := by decide +kernel
theorem dX2_made_46 : decode cX2_made 46 = .ok (.iload_n 0, 1) := by decide +kernel
theorem dX2_made_47 : decode cX2_made 47 = .ok (.iload_n 2, 1) := by decide +kernel
theorem dX2_made_48 : decode cX2_made 48 = .ok (.iadd, 1) := by decide +kernel
theorem dX2_made_49 : decode cX2_made 49 = .ok (.bipush 10, 2) := by decide +kernel
theorem dX2_made_51 : decode cX2_made 51 = .ok (.irem, 1) := by decide +kernel
theorem dX2_made_52 : decode cX2_made 52 = .ok (.ireturn, 1) := by decide +kernel
theorem dX2_made_53 : decode cX2_made 53 = .ok (.bipush 9, 2) := by decide +kernel
theorem dX2_made_55 : decode cX2_made 55 = .ok (.iload_n 0, 1) := by decide +kernel
theorem dX2_made_56 : decode cX2_made 56 = .ok (.isub, 1) := by decide +kernel
theorem dX2_made_57 : decode cX2_made 57 = .ok (.ireturn, 1) := by decide +kernel
theorem dX2_made_58 : decode cX2_made 58 = .ok (.iload_n 0, 1) := by decide +kernel
theorem dX2_made_59 : decode cX2_made 59 = .ok (.ireturn, 1) := by decide +kernel
set_option maxHeartbeats 4000000 in
set_option maxRecDepth 100000 in
theorem wt_made_0 {p : Program} {l : Launch} {e : Env} {s : State} {m : MethodId} {args : Array Value} {below : List Frame} {meth : Method} {c : Code} (C0 : gC cX2_made 3 (some .int) wsX2_made RX2 p s m args meth c) {rs : Int32} : ∀ (x0 : Int32) (x1 : Int32) (ls : Array Slot), lv_has ls 3 [(0, .int x0), (1, .int x1)] → ft_made x0 x1 = some rs → W p l e { frames := 0, cells := 0, slots := 0, locals := 0 } s m args below meth c s.heap [] 0 0 (MQ below (qS rs) args s 0 0 (fun _ => False)) (F0 m 0 ls []) := by
  obtain ⟨hx, hb, hr, hml, hown, hts, hlk⟩ := id C0
  intro x0 x1 ls hl hf
  unfold ft_made at hf
  refine lv_iload_n hx hb dX2_made_0 rfl (lv_at hl 1 rfl) ?_
  refine lv_bipush (v := (-9)) hx hb dX2_made_1 (by decide) ?_
  refine lv_icmp_ne (tgt := 8) hx hb dX2_made_3 (by decide) (fun c3 => ?_) (fun c3 => ?_)
  · replace hf := if_f hf c3
    refine lv_iload_n hx hb dX2_made_8 rfl (lv_at hl 1 rfl) ?_
    refine lv_bipush (v := 10) hx hb dX2_made_9 (by decide) ?_
    refine lv_irem hx hb dX2_made_11 (by decide) ?_
    refine lv_topi (fun v12 e12 => ?_)
    replace hf := lb_e hf e12
    refine lv_istore_n (lv' := [(2, .int v12), (0, .int x0), (1, .int x1)]) hx hb dX2_made_12 rfl hl (by decide) rfl (fun ls hl => ?_)
    refine lv_iload_n hx hb dX2_made_13 rfl (lv_at hl 2 rfl) ?_
    refine lv_bipush (v := 10) hx hb dX2_made_14 (by decide) ?_
    refine lv_idiv hx hb dX2_made_16 (by decide) ?_
    by_cases c17_0 : (x1 / 10) = 0
    · replace hf := if_t hf c17_0
      refine lv_tableIn (x := (x1 / 10)) (off := 27) (tgt := 44) hx hb dX2_made_17 (by rw [c17_0]; decide) (by rw [c17_0]; decide) (by rw [c17_0]; rfl) (by decide) ?_
      refine lv_iload_n hx hb dX2_made_44 rfl (lv_at hl 0 rfl) ?_
      exact z_sret hx hb hr hlk hf dX2_made_45
    · replace hf := if_f hf c17_0
      by_cases c17_1 : (x1 / 10) = 1
      · replace hf := if_t hf c17_1
        refine lv_tableIn (x := (x1 / 10)) (off := 29) (tgt := 46) hx hb dX2_made_17 (by rw [c17_1]; decide) (by rw [c17_1]; decide) (by rw [c17_1]; rfl) (by decide) ?_
        refine lv_iload_n hx hb dX2_made_46 rfl (lv_at hl 1 rfl) ?_
        refine lv_iload_n hx hb dX2_made_47 rfl (lv_at hl 0 rfl) ?_
        refine lv_iadd hx hb dX2_made_48 ?_
        refine lv_bipush (v := 10) hx hb dX2_made_49 (by decide) ?_
        refine lv_irem hx hb dX2_made_51 (by decide) ?_
        exact z_sret hx hb hr hlk hf dX2_made_52
      · replace hf := if_f hf c17_1
        by_cases c17_2 : (x1 / 10) = 2
        · replace hf := if_t hf c17_2
          refine lv_tableIn (x := (x1 / 10)) (off := 36) (tgt := 53) hx hb dX2_made_17 (by rw [c17_2]; decide) (by rw [c17_2]; decide) (by rw [c17_2]; rfl) (by decide) ?_
          refine lv_bipush (v := 9) hx hb dX2_made_53 (by decide) ?_
          refine lv_iload_n hx hb dX2_made_55 rfl (lv_at hl 1 rfl) ?_
          refine lv_isub hx hb dX2_made_56 ?_
          exact z_sret hx hb hr hlk hf dX2_made_57
        · replace hf := if_f hf c17_2
          have z17 : ∀ z, z < 3 → ¬ (x1 / 10) = nI z := by
            intro z hz
            rcases (show z = 0 ∨ z = 1 ∨ z = 2 by omega) with rfl | rfl | rfl
            · exact c17_0
            · exact c17_1
            · exact c17_2
          refine lv_tableOut (x := (x1 / 10)) (tgt := 58) hx hb dX2_made_17 (z_out (by decide) z17 rfl) (by decide) ?_
          refine lv_iload_n hx hb dX2_made_58 rfl (lv_at hl 1 rfl) ?_
          exact z_sret hx hb hr hlk hf dX2_made_59
  · replace hf := if_t hf c3
    refine lv_iload_n hx hb dX2_made_6 rfl (lv_at hl 0 rfl) ?_
    exact z_sret hx hb hr hlk hf dX2_made_7
set_option maxHeartbeats 4000000 in
set_option maxRecDepth 100000 in
theorem kt_made (l : Launch) (x0 : Int32) (x1 : Int32) {rs : Int32} (hf : ft_made x0 x1 = some rs) : Met l yX2_made wsX2_made ({ frames := 0, cells := 0, slots := 0, locals := 0 }) (va_Pc [.int x0, .int x1] (fun _ => True)) (qS rs) 0 0 (fun _ => False) := by
  refine g_met (cc := cX2_made) (nL := 3) (ret := (some .int)) (by decide) rfl (Nat.le_of_ble_eq_true rfl) (fun p e s m below meth c ls C0 _ hl => ?_)
  exact wt_made_0 C0 _ _ ls (lv_sub hl [0, 1] rfl) hf
set_option maxRecDepth 20000 in
theorem ggX2_utter_X2_made : GoodIn wsX2_utter wsX2_made := goodIn_r _ [8] (by decide +kernel) (by decide +kernel)
set_option maxRecDepth 20000 in
theorem gX2_utter_X2_made : GoodIn wsX2_utter (va_wsS RX2 25 yX2_made wsX2_made) := goodIn_app (goodIn_of _ (by decide +kernel)) ggX2_utter_X2_made
theorem dX2_utter_0 : decode cX2_utter 0 = .ok (.iload_n 2, 1) := by decide +kernel
theorem dX2_utter_1 : decode cX2_utter 1 = .ok (.bipush 10, 2) := by decide +kernel
theorem dX2_utter_3 : decode cX2_utter 3 = .ok (.idiv, 1) := by decide +kernel
theorem dX2_utter_4 : decode cX2_utter 4 = .ok (.iconst 3, 1) := by decide +kernel
theorem dX2_utter_5 : decode cX2_utter 5 = .ok (.if_icmp .eq 8, 3) := by decide +kernel
theorem dX2_utter_8 : decode cX2_utter 8 = .ok (.aload_n 0, 1) := by decide +kernel
theorem dX2_utter_9 : decode cX2_utter 9 = .ok (.iload_n 2, 1) := by decide +kernel
theorem dX2_utter_10 : decode cX2_utter 10 = .ok (.putfield 15, 3) := by decide +kernel
theorem dX2_utter_13 : decode cX2_utter 13 = .ok (.iconst 0, 1) := by decide +kernel
theorem dX2_utter_14 : decode cX2_utter 14 = .ok (.istore 4, 2) := by decide +kernel
theorem dX2_utter_16 : decode cX2_utter 16 = .ok (.iload 4, 2) := by decide +kernel
theorem dX2_utter_18 : decode cX2_utter 18 = .ok (.iload_n 3, 1) := by decide +kernel
theorem dX2_utter_19 : decode cX2_utter 19 = .ok (.if_icmp .ge 24, 3) := by decide +kernel
theorem dX2_utter_22 : decode cX2_utter 22 = .ok (.aload_n 0, 1) := by decide +kernel
theorem dX2_utter_23 : decode cX2_utter 23 = .ok (.aload_n 0, 1) := by decide +kernel
theorem dX2_utter_24 : decode cX2_utter 24 = .ok (.getfield 22, 3) := by decide +kernel
theorem dX2_utter_27 : decode cX2_utter 27 = .ok (.aload_n 0, 1) := by decide +kernel
theorem dX2_utter_28 : decode cX2_utter 28 = .ok (.getfield 15, 3) := by decide +kernel
theorem dX2_utter_31 : decode cX2_utter 31 = .ok (.invokestatic 25, 3) := by decide +kernel
theorem dX2_utter_34 : decode cX2_utter 34 = .ok (.putfield 22, 3) := by decide +kernel
theorem dX2_utter_37 : decode cX2_utter 37 = .ok (.iinc 4 1, 3) := by decide +kernel
theorem dX2_utter_40 : decode cX2_utter 40 = .ok (.goto (-24), 3) := by decide +kernel
theorem dX2_utter_43 : decode cX2_utter 43 = .ok (.aload_n 0, 1) := by decide +kernel
theorem dX2_utter_44 : decode cX2_utter 44 = .ok (.iload_n 1, 1) := by decide +kernel
theorem dX2_utter_45 : decode cX2_utter 45 = .ok (.putfield 9, 3) := by decide +kernel
theorem dX2_utter_48 : decode cX2_utter 48 = .ok (.iload_n 1, 1) := by decide +kernel
theorem dX2_utter_49 : decode cX2_utter 49 = .ok (.ifCond .lt 22, 3) := by decide +kernel
theorem dX2_utter_52 : decode cX2_utter 52 = .ok (.iload_n 1, 1) := by decide +kernel
theorem dX2_utter_53 : decode cX2_utter 53 = .ok (.aload_n 0, 1) := by decide +kernel
theorem dX2_utter_54 : decode cX2_utter 54 = .ok (.getfield 18, 3) := by decide +kernel
theorem dX2_utter_57 : decode cX2_utter 57 = .ok (.arraylength, 1) := by decide +kernel
theorem dX2_utter_58 : decode cX2_utter 58 = .ok (.if_icmp .ge 13, 3) := by decide +kernel
theorem dX2_utter_61 : decode cX2_utter 61 = .ok (.aload_n 0, 1) := by decide +kernel
theorem dX2_utter_62 : decode cX2_utter 62 = .ok (.getfield 18, 3) := by decide +kernel
theorem dX2_utter_65 : decode cX2_utter 65 = .ok (.iload_n 1, 1) := by decide +kernel
theorem dX2_utter_66 : decode cX2_utter 66 = .ok (.dup2, 1) := by decide +kernel
theorem dX2_utter_67 : decode cX2_utter 67 = .ok (.iaload, 1) := by decide +kernel
theorem dX2_utter_68 : decode cX2_utter 68 = .ok (.iconst 1, 1) := by decide +kernel
theorem dX2_utter_69 : decode cX2_utter 69 = .ok (.iadd, 1) := by decide +kernel
theorem dX2_utter_70 : decode cX2_utter 70 = .ok (.iastore, 1) := by decide +kernel
theorem dX2_utter_71 : decode cX2_utter 71 = .ok (.return_, 1) := by decide +kernel
set_option maxRecDepth 20000 in
theorem hiX2_utter_X2 : ∀ w ∈ u_ws RX2 TX2 4, w ∈ wsX2_utter := by decide +kernel
set_option maxHeartbeats 4000000 in
set_option maxRecDepth 100000 in
theorem wt_utter_16 {p : Program} {l : Launch} {e : Env} {s : State} {m : MethodId} {args : Array Value} {below : List Frame} {meth : Method} {c : Code} {D : va_G} {L : Nat → Nat} {K : Nat → ClassId} {t0 : Nat} (hJ : gj L 81) (C0 : gC cX2_utter 5 none wsX2_utter RX2 p s m args meth c) (hK : va_K D vwCl (tyG K) s) (hE : eX L t0 s) {w9 : St} : ∀ (fu : Nat) (x0 : Nat) (x1 : Int32) (x3 : Int32) (x4 : Int32) (w : St) (H : Heap) (locs : List Loc) (ls : Array Slot), kX x0 = 1 ∧ x0 < 81 → va_P D vwCl (gl L 81 (cX L K w)) H → va_S (gA L 81) s.heap H locs → lv_has ls 5 [(0, .ref (L x0)), (1, .int x1), (3, .int x3), (4, .int x4)] → ft_utter_16 fu x0 x1 x3 x4 w = some w9 → W p l e { frames := 1, cells := 0, slots := 0, locals := 22 } s m args below meth c H locs 0 0 (MQ below (qV D L 81 (cX L K) w9) args s 0 0 (gA L 81)) (F0 m 16 ls []) := by
  obtain ⟨hx, hb, hr, hml, hown, hts, hlk⟩ := id C0
  intro fu
  induction fu with
  | zero =>
    intro x0 x1 x3 x4 w H locs ls h0 hw hS hl hf
    rw [ft_utter_16] at hf
    exact no_n hf
  | succ fu ih =>
    intro x0 x1 x3 x4 w H locs ls h0 hw hS hl hf
    rw [ft_utter_16] at hf
    refine lv_iload hx hb dX2_utter_16 (lv_at hl 3 rfl) ?_
    refine lv_iload_n hx hb dX2_utter_18 rfl (lv_at hl 2 rfl) ?_
    refine lv_icmp_ge (tgt := 43) hx hb dX2_utter_19 (by decide) (fun c19 => ?_) (fun c19 => ?_)
    · replace hf := if_t hf c19
      refine lv_aload_n hx hb dX2_utter_43 rfl (lv_at hl 0 rfl) ?_
      refine lv_iload_n hx hb dX2_utter_44 rfl (lv_at hl 1 rfl) ?_
      refine z_puti hx hb hts hiX2_utter_X2 tyX2 tyX2_ok nmX2 hown hK hJ hw hS (k := x0) h0.2 cX_ne (fs := (fX1 L x0)) (cX_a1 h0.1) rfl 1 (by decide) (hts (.fieldLink RX2 9 "OneSentence$Talk" "last" "I") (by decide +kernel)) rfl rfl (fun _ _ => ⟨Nat.le_of_ble_eq_true rfl, rfl⟩) dX2_utter_45 (fun H locs hw hS => ?_)
      refine lv_iload_n hx hb dX2_utter_48 rfl (lv_at hl 1 rfl) ?_
      refine lv_if_lt (tgt := 71) hx hb dX2_utter_49 (by decide) (fun c49 => ?_) (fun c49 => ?_)
      · replace hf := if_t hf c49
        exact z_vret hx hb hr hlk hw hS hf dX2_utter_71
      · replace hf := if_f hf c49
        refine lv_iload_n hx hb dX2_utter_52 rfl (lv_at hl 1 rfl) ?_
        refine lv_aload_n hx hb dX2_utter_53 rfl (lv_at hl 0 rfl) ?_
        refine z_get (v := .ref (L (x0 + 1))) hx hb hts hiX2_utter_X2 hown hK hw (k := x0) h0.2 ((cX_a1 h0.1) _) rfl 3 (by decide) (hts (.fieldLink RX2 18 "OneSentence$Talk" "times" "[I") (by decide +kernel)) rfl dX2_utter_54 ?_
        refine z_alen (v := 7) hx hb hK hw 0 (k := (x0 + 1)) (kX_times h0).2 ((cX_a4 (kX_times h0).1) _) rfl rfl dX2_utter_57 ?_
        refine lv_icmp_ge (tgt := 71) hx hb dX2_utter_58 (by decide) (fun c58 => ?_) (fun c58 => ?_)
        · replace hf := if_t hf c58
          exact z_vret hx hb hr hlk hw hS hf dX2_utter_71
        · replace hf := if_f hf c58
          refine lv_aload_n hx hb dX2_utter_61 rfl (lv_at hl 0 rfl) ?_
          refine z_get (v := .ref (L (x0 + 1))) hx hb hts hiX2_utter_X2 hown hK hw (k := x0) h0.2 ((cX_a1 h0.1) _) rfl 3 (by decide) (hts (.fieldLink RX2 18 "OneSentence$Talk" "times" "[I") (by decide +kernel)) rfl dX2_utter_62 ?_
          refine lv_iload_n hx hb dX2_utter_65 rfl (lv_at hl 1 rfl) ?_
          refine lv_dup2_11 hx hb dX2_utter_66 rfl rfl ?_
          obtain ⟨v67, h67, hf⟩ := bd_e hf
          refine z_iald hx hb hK hw 0 (k := (x0 + 1)) (kX_times h0).2 ((cX_a4 (kX_times h0).1) _) rfl h67 dX2_utter_67 ?_
          refine lv_iconst (v := 1) hx hb dX2_utter_68 (by decide) ?_
          refine lv_iadd hx hb dX2_utter_69 ?_
          obtain ⟨w70, h70, hf⟩ := bd_e hf
          refine z_iast hx hb hK hJ hw hS 0 (k := (x0 + 1)) (kX_times h0).2 cX_ne (cX_a4 (kX_times h0).1) rfl h70 dX2_utter_70 (fun H locs hw hS => ?_)
          exact z_vret hx hb hr hlk hw hS hf dX2_utter_71
    · replace hf := if_f hf c19
      refine lv_aload_n hx hb dX2_utter_22 rfl (lv_at hl 0 rfl) ?_
      refine lv_aload_n hx hb dX2_utter_23 rfl (lv_at hl 0 rfl) ?_
      refine z_get (v := .int (w.1 x0 0)) hx hb hts hiX2_utter_X2 hown hK hw (k := x0) h0.2 ((cX_a1 h0.1) _) rfl 0 (by decide) (hts (.fieldLink RX2 22 "OneSentence$Talk" "sense" "I") (by decide +kernel)) rfl dX2_utter_24 ?_
      refine lv_aload_n hx hb dX2_utter_27 rfl (lv_at hl 0 rfl) ?_
      refine z_get (v := .int (w.1 x0 2)) hx hb hts hiX2_utter_X2 hown hK hw (k := x0) h0.2 ((cX_a1 h0.1) _) rfl 2 (by decide) (hts (.fieldLink RX2 15 "OneSentence$Talk" "lastNoEcho" "I") (by decide +kernel)) rfl dX2_utter_28 ?_
      obtain ⟨v31, h31, hf⟩ := bd_e hf
      refine z_calls (va_runS (As := [.int (w.1 x0 0), .int (w.1 x0 2)]) (rest := [.ref (L x0)]) ⟨hx, hb, hml, hown, hts⟩ (kt_made l (w.1 x0 0) (w.1 x0 2) h31) (va_cwS 2 hts gX2_utter_X2_made rfl rfl rfl (by decide +kernel) ⟨Nat.le_of_ble_eq_true rfl, Nat.le_of_ble_eq_true rfl⟩) z_preT rfl rfl hl.1 rfl (lv_room (Nat.le_of_ble_eq_true rfl)) dX2_utter_31 ⟨Nat.le_of_ble_eq_true rfl, Nat.le_of_ble_eq_true rfl⟩) ?_
      refine z_puti hx hb hts hiX2_utter_X2 tyX2 tyX2_ok nmX2 hown hK hJ hw hS (k := x0) h0.2 cX_ne (fs := (fX1 L x0)) (cX_a1 h0.1) rfl 0 (by decide) (hts (.fieldLink RX2 22 "OneSentence$Talk" "sense" "I") (by decide +kernel)) rfl rfl (fun _ _ => ⟨Nat.le_of_ble_eq_true rfl, rfl⟩) dX2_utter_34 (fun H locs hw hS => ?_)
      refine lv_iinc (v := (x4 + 1)) (lv' := [(4, .int (x4 + 1)), (0, .ref (L x0)), (1, .int x1), (3, .int x3)]) hx hb dX2_utter_37 hl (k := 3) rfl rfl (by decide) rfl (fun ls hl => ?_)
      refine lv_goto (tgt := 16) hx hb dX2_utter_40 (by decide) ?_
      exact ih _ _ _ _ _ _ _ _ h0 hw hS (lv_sub hl [1, 2, 3, 0] rfl) hf
set_option maxHeartbeats 4000000 in
set_option maxRecDepth 100000 in
theorem wt_utter_13 {p : Program} {l : Launch} {e : Env} {s : State} {m : MethodId} {args : Array Value} {below : List Frame} {meth : Method} {c : Code} {D : va_G} {L : Nat → Nat} {K : Nat → ClassId} {t0 : Nat} (hJ : gj L 81) (C0 : gC cX2_utter 5 none wsX2_utter RX2 p s m args meth c) (hK : va_K D vwCl (tyG K) s) (hE : eX L t0 s) {w9 : St} : ∀ (x0 : Nat) (x1 : Int32) (x3 : Int32) (w : St) (H : Heap) (locs : List Loc) (ls : Array Slot), kX x0 = 1 ∧ x0 < 81 → va_P D vwCl (gl L 81 (cX L K w)) H → va_S (gA L 81) s.heap H locs → lv_has ls 5 [(0, .ref (L x0)), (1, .int x1), (3, .int x3)] → ft_utter_13 x0 x1 x3 w = some w9 → W p l e { frames := 1, cells := 0, slots := 0, locals := 22 } s m args below meth c H locs 0 0 (MQ below (qV D L 81 (cX L K) w9) args s 0 0 (gA L 81)) (F0 m 13 ls []) := by
  obtain ⟨hx, hb, hr, hml, hown, hts, hlk⟩ := id C0
  intro x0 x1 x3 w H locs ls h0 hw hS hl hf
  unfold ft_utter_13 at hf
  refine lv_iconst (v := 0) hx hb dX2_utter_13 (by decide) ?_
  refine lv_istore (lv' := [(4, .int 0), (0, .ref (L x0)), (1, .int x1), (3, .int x3)]) hx hb dX2_utter_14 hl (by decide) rfl (fun ls hl => ?_)
  exact wt_utter_16 hJ C0 hK hE _ _ _ _ _ _ _ _ _ h0 hw hS (lv_sub hl [1, 2, 3, 0] rfl) hf
set_option maxHeartbeats 4000000 in
set_option maxRecDepth 100000 in
theorem wt_utter_0 {p : Program} {l : Launch} {e : Env} {s : State} {m : MethodId} {args : Array Value} {below : List Frame} {meth : Method} {c : Code} {D : va_G} {L : Nat → Nat} {K : Nat → ClassId} {t0 : Nat} (hJ : gj L 81) (C0 : gC cX2_utter 5 none wsX2_utter RX2 p s m args meth c) (hK : va_K D vwCl (tyG K) s) (hE : eX L t0 s) {w9 : St} : ∀ (x0 : Nat) (x1 : Int32) (x2 : Int32) (x3 : Int32) (w : St) (H : Heap) (locs : List Loc) (ls : Array Slot), kX x0 = 1 ∧ x0 < 81 → va_P D vwCl (gl L 81 (cX L K w)) H → va_S (gA L 81) s.heap H locs → lv_has ls 5 [(0, .ref (L x0)), (1, .int x1), (2, .int x2), (3, .int x3)] → ft_utter x0 x1 x2 x3 w = some w9 → W p l e { frames := 1, cells := 0, slots := 0, locals := 22 } s m args below meth c H locs 0 0 (MQ below (qV D L 81 (cX L K) w9) args s 0 0 (gA L 81)) (F0 m 0 ls []) := by
  obtain ⟨hx, hb, hr, hml, hown, hts, hlk⟩ := id C0
  intro x0 x1 x2 x3 w H locs ls h0 hw hS hl hf
  unfold ft_utter at hf
  refine lv_iload_n hx hb dX2_utter_0 rfl (lv_at hl 2 rfl) ?_
  refine lv_bipush (v := 10) hx hb dX2_utter_1 (by decide) ?_
  refine lv_idiv hx hb dX2_utter_3 (by decide) ?_
  refine lv_iconst (v := 3) hx hb dX2_utter_4 (by decide) ?_
  refine lv_icmp_eq (tgt := 13) hx hb dX2_utter_5 (by decide) (fun c5 => ?_) (fun c5 => ?_)
  · replace hf := if_t hf c5
    exact wt_utter_13 hJ C0 hK hE _ _ _ _ _ _ _ h0 hw hS (lv_sub hl [0, 1, 3] rfl) hf
  · replace hf := if_f hf c5
    refine lv_aload_n hx hb dX2_utter_8 rfl (lv_at hl 0 rfl) ?_
    refine lv_iload_n hx hb dX2_utter_9 rfl (lv_at hl 2 rfl) ?_
    refine z_puti hx hb hts hiX2_utter_X2 tyX2 tyX2_ok nmX2 hown hK hJ hw hS (k := x0) h0.2 cX_ne (fs := (fX1 L x0)) (cX_a1 h0.1) rfl 2 (by decide) (hts (.fieldLink RX2 15 "OneSentence$Talk" "lastNoEcho" "I") (by decide +kernel)) rfl rfl (fun _ _ => ⟨Nat.le_of_ble_eq_true rfl, rfl⟩) dX2_utter_10 (fun H locs hw hS => ?_)
    exact wt_utter_13 hJ C0 hK hE _ _ _ _ _ _ _ h0 hw hS (lv_sub hl [0, 1, 3] rfl) hf
set_option maxHeartbeats 4000000 in
set_option maxRecDepth 100000 in
theorem kt_utter (l : Launch) {D : va_G} {L : Nat → Nat} {K : Nat → ClassId} {t0 : Nat} (hJ : gj L 81) (x0 : Nat) (x1 : Int32) (x2 : Int32) (x3 : Int32) (w : St) {w9 : St} (h0 : kX x0 = 1 ∧ x0 < 81) (hf : ft_utter x0 x1 x2 x3 w = some w9) : Met l yX2_utter wsX2_utter ({ frames := 1, cells := 0, slots := 0, locals := 22 }) (va_Pc [.ref (L x0), .int x1, .int x2, .int x3] (xP D L K t0 w)) (qV D L 81 (cX L K) w9) 0 0 (gA L 81) := by
  refine g_met (cc := cX2_utter) (nL := 5) (ret := none) (by decide) rfl (Nat.le_of_ble_eq_true rfl) (fun p e s m below meth c ls C0 hP hl => ?_)
  exact wt_utter_0 hJ C0 hP.2.1 hP.2.2 _ _ _ _ w _ _ ls h0 hP.1 va_S.rf (lv_sub hl [0, 1, 2, 3] rfl) hf
theorem dX3_write_0 : decode cX3_write 0 = .ok (.iload_n 1, 1) := by decide +kernel
theorem dX3_write_1 : decode cX3_write 1 = .ok (.ifCond .lt 10, 3) := by decide +kernel
theorem dX3_write_4 : decode cX3_write 4 = .ok (.iload_n 1, 1) := by decide +kernel
theorem dX3_write_5 : decode cX3_write 5 = .ok (.sipush 255, 3) := by decide +kernel
theorem dX3_write_8 : decode cX3_write 8 = .ok (.if_icmp .le 6, 3) := by decide +kernel
theorem dX3_write_11 : decode cX3_write 11 = .ok (.bipush (-2), 2) := by decide +kernel
theorem dX3_write_13 : decode cX3_write 13 = .ok (.ireturn, 1) := by decide +kernel
theorem dX3_write_14 : decode cX3_write 14 = .ok (.aload_n 0, 1) := by decide +kernel
theorem dX3_write_15 : decode cX3_write 15 = .ok (.getfield 58, 3) := by decide +kernel
theorem dX3_write_18 : decode cX3_write 18 = .ok (.ifCond .lt 15, 3) := by decide +kernel
theorem dX3_write_21 : decode cX3_write 21 = .ok (.aload_n 0, 1) := by decide +kernel
theorem dX3_write_22 : decode cX3_write 22 = .ok (.getfield 58, 3) := by decide +kernel
theorem dX3_write_25 : decode cX3_write 25 = .ok (.aload_n 0, 1) := by decide +kernel
theorem dX3_write_26 : decode cX3_write 26 = .ok (.getfield 9, 3) := by decide +kernel
theorem dX3_write_29 : decode cX3_write 29 = .ok (.arraylength, 1) := by decide +kernel
theorem dX3_write_30 : decode cX3_write 30 = .ok (.if_icmp .lt 6, 3) := by decide +kernel
theorem dX3_write_33 : decode cX3_write 33 = .ok (.bipush (-4), 2) := by decide +kernel
theorem dX3_write_35 : decode cX3_write 35 = .ok (.ireturn, 1) := by decide +kernel
theorem dX3_write_36 : decode cX3_write 36 = .ok (.aload_n 0, 1) := by decide +kernel
theorem dX3_write_37 : decode cX3_write 37 = .ok (.getfield 9, 3) := by decide +kernel
theorem dX3_write_40 : decode cX3_write 40 = .ok (.aload_n 0, 1) := by decide +kernel
theorem dX3_write_41 : decode cX3_write 41 = .ok (.getfield 58, 3) := by decide +kernel
theorem dX3_write_44 : decode cX3_write 44 = .ok (.iload_n 1, 1) := by decide +kernel
theorem dX3_write_45 : decode cX3_write 45 = .ok (.i2c, 1) := by decide +kernel
theorem dX3_write_46 : decode cX3_write 46 = .ok (.castore, 1) := by decide +kernel
theorem dX3_write_47 : decode cX3_write 47 = .ok (.aload_n 0, 1) := by decide +kernel
theorem dX3_write_48 : decode cX3_write 48 = .ok (.dup, 1) := by decide +kernel
theorem dX3_write_49 : decode cX3_write 49 = .ok (.getfield 58, 3) := by decide +kernel
theorem dX3_write_52 : decode cX3_write 52 = .ok (.iconst 1, 1) := by decide +kernel
theorem dX3_write_53 : decode cX3_write 53 = .ok (.iadd, 1) := by decide +kernel
theorem dX3_write_54 : decode cX3_write 54 = .ok (.putfield 58, 3) := by decide +kernel
theorem dX3_write_57 : decode cX3_write 57 = .ok (.aload_n 0, 1) := by decide +kernel
theorem dX3_write_58 : decode cX3_write 58 = .ok (.getfield 58, 3) := by decide +kernel
theorem dX3_write_61 : decode cX3_write 61 = .ok (.ireturn, 1) := by decide +kernel
set_option maxRecDepth 20000 in
theorem hiX3_write_X3 : ∀ w ∈ u_ws RX3 TX3 18, w ∈ wsX3_write := by decide +kernel
set_option maxHeartbeats 4000000 in
set_option maxRecDepth 100000 in
theorem wx_write_0 {p : Program} {l : Launch} {e : Env} {s : State} {m : MethodId} {args : Array Value} {below : List Frame} {meth : Method} {c : Code} {D : va_G} {L : Nat → Nat} {K : Nat → ClassId} {t0 : Nat} (hJ : gj L 81) (C0 : gC cX3_write 2 (some .int) wsX3_write RX3 p s m args meth c) (hK : va_K D vwCl (tyG K) s) (hE : eX L t0 s) {w9 : St} {rs : Int32} : ∀ (x1 : Int32) (w : St) (H : Heap) (locs : List Loc) (ls : Array Slot), va_P D vwCl (gl L 81 (cX L K w)) H → va_S (gA L 81) s.heap H locs → lv_has ls 2 [(0, .ref (L 0)), (1, .int x1)] → fx_write x1 w = some (rs, w9) → W p l e { frames := 0, cells := 0, slots := 0, locals := 0 } s m args below meth c H locs 0 0 (MQ below (qI D L 81 (cX L K) rs w9) args s 0 0 (gA L 81)) (F0 m 0 ls []) := by
  obtain ⟨hx, hb, hr, hml, hown, hts, hlk⟩ := id C0
  intro x1 w H locs ls hw hS hl hf
  unfold fx_write at hf
  refine lv_iload_n hx hb dX3_write_0 rfl (lv_at hl 1 rfl) ?_
  refine lv_if_lt (tgt := 11) hx hb dX3_write_1 (by decide) (fun c1 => ?_) (fun c1 => ?_)
  · replace hf := if_t hf c1
    refine lv_bipush (v := (-2)) hx hb dX3_write_11 (by decide) ?_
    exact z_iret hx hb hr hlk hw hS hf dX3_write_13
  · replace hf := if_f hf c1
    refine lv_iload_n hx hb dX3_write_4 rfl (lv_at hl 1 rfl) ?_
    refine lv_sipush (v := 255) hx hb dX3_write_5 (by decide) ?_
    refine lv_icmp_le (tgt := 14) hx hb dX3_write_8 (by decide) (fun c8 => ?_) (fun c8 => ?_)
    · replace hf := if_t hf c8
      refine lv_aload_n hx hb dX3_write_14 rfl (lv_at hl 0 rfl) ?_
      refine z_get (v := .int (w.1 0 1)) hx hb hts hiX3_write_X3 hown hK hw (k := 0) kc_0.2 ((cX_a0 kc_0.1) _) rfl 1 (by decide) (hts (.fieldLink RX3 58 "OneSentence" "letters" "I") (by decide +kernel)) rfl dX3_write_15 ?_
      refine lv_if_lt (tgt := 33) hx hb dX3_write_18 (by decide) (fun c18 => ?_) (fun c18 => ?_)
      · replace hf := if_t hf c18
        refine lv_bipush (v := (-4)) hx hb dX3_write_33 (by decide) ?_
        exact z_iret hx hb hr hlk hw hS hf dX3_write_35
      · replace hf := if_f hf c18
        refine lv_aload_n hx hb dX3_write_21 rfl (lv_at hl 0 rfl) ?_
        refine z_get (v := .int (w.1 0 1)) hx hb hts hiX3_write_X3 hown hK hw (k := 0) kc_0.2 ((cX_a0 kc_0.1) _) rfl 1 (by decide) (hts (.fieldLink RX3 58 "OneSentence" "letters" "I") (by decide +kernel)) rfl dX3_write_22 ?_
        refine lv_aload_n hx hb dX3_write_25 rfl (lv_at hl 0 rfl) ?_
        refine z_get (v := .ref (L 1)) hx hb hts hiX3_write_X3 hown hK hw (k := 0) kc_0.2 ((cX_a0 kc_0.1) _) rfl 0 (by decide) (hts (.fieldLink RX3 9 "OneSentence" "text" "[C") (by decide +kernel)) rfl dX3_write_26 ?_
        refine z_alen (v := 40) hx hb hK hw 1 (k := 1) kc_1.2 ((cX_a6 kc_1.1) _) rfl rfl dX3_write_29 ?_
        refine lv_icmp_lt (tgt := 36) hx hb dX3_write_30 (by decide) (fun c30 => ?_) (fun c30 => ?_)
        · replace hf := if_t hf c30
          refine lv_aload_n hx hb dX3_write_36 rfl (lv_at hl 0 rfl) ?_
          refine z_get (v := .ref (L 1)) hx hb hts hiX3_write_X3 hown hK hw (k := 0) kc_0.2 ((cX_a0 kc_0.1) _) rfl 0 (by decide) (hts (.fieldLink RX3 9 "OneSentence" "text" "[C") (by decide +kernel)) rfl dX3_write_37 ?_
          refine lv_aload_n hx hb dX3_write_40 rfl (lv_at hl 0 rfl) ?_
          refine z_get (v := .int (w.1 0 1)) hx hb hts hiX3_write_X3 hown hK hw (k := 0) kc_0.2 ((cX_a0 kc_0.1) _) rfl 1 (by decide) (hts (.fieldLink RX3 58 "OneSentence" "letters" "I") (by decide +kernel)) rfl dX3_write_41 ?_
          refine lv_iload_n hx hb dX3_write_44 rfl (lv_at hl 1 rfl) ?_
          refine lv_i2c (v := (i2c x1)) hx hb dX3_write_45 rfl ?_
          obtain ⟨w46, h46, hf⟩ := bd_e hf
          refine z_cast hx hb hK hJ hw hS 1 (k := 1) kc_1.2 cX_ne (cX_a6 kc_1.1) rfl (pk_vc _) h46 dX3_write_46 (fun H locs hw hS => ?_)
          refine lv_aload_n hx hb dX3_write_47 rfl (lv_at hl 0 rfl) ?_
          refine lv_dup hx hb dX3_write_48 rfl ?_
          refine z_get (v := .int (w46.1 0 1)) hx hb hts hiX3_write_X3 hown hK hw (k := 0) kc_0.2 ((cX_a0 kc_0.1) _) rfl 1 (by decide) (hts (.fieldLink RX3 58 "OneSentence" "letters" "I") (by decide +kernel)) rfl dX3_write_49 ?_
          refine lv_iconst (v := 1) hx hb dX3_write_52 (by decide) ?_
          refine lv_iadd hx hb dX3_write_53 ?_
          refine z_puti hx hb hts hiX3_write_X3 tyX3 tyX3_ok nmX3 hown hK hJ hw hS (k := 0) kc_0.2 cX_ne (fs := (fX0 L)) (cX_a0 kc_0.1) rfl 1 (by decide) (hts (.fieldLink RX3 58 "OneSentence" "letters" "I") (by decide +kernel)) rfl rfl (fun _ _ => ⟨Nat.le_of_ble_eq_true rfl, rfl⟩) dX3_write_54 (fun H locs hw hS => ?_)
          refine lv_aload_n hx hb dX3_write_57 rfl (lv_at hl 0 rfl) ?_
          refine z_get (v := .int ((wr w46 0 1 ((w46.1 0 1) + (1 : Int32))).1 0 1)) hx hb hts hiX3_write_X3 hown hK hw (k := 0) kc_0.2 ((cX_a0 kc_0.1) _) rfl 1 (by decide) (hts (.fieldLink RX3 58 "OneSentence" "letters" "I") (by decide +kernel)) rfl dX3_write_58 ?_
          exact z_iret hx hb hr hlk hw hS hf dX3_write_61
        · replace hf := if_f hf c30
          refine lv_bipush (v := (-4)) hx hb dX3_write_33 (by decide) ?_
          exact z_iret hx hb hr hlk hw hS hf dX3_write_35
    · replace hf := if_f hf c8
      refine lv_bipush (v := (-2)) hx hb dX3_write_11 (by decide) ?_
      exact z_iret hx hb hr hlk hw hS hf dX3_write_13
set_option maxHeartbeats 4000000 in
set_option maxRecDepth 100000 in
theorem kx_write (l : Launch) {D : va_G} {L : Nat → Nat} {K : Nat → ClassId} {t0 : Nat} (hJ : gj L 81) (x1 : Int32) (w : St) {w9 : St} {rs : Int32} (hf : fx_write x1 w = some (rs, w9)) : Met l yX3_write wsX3_write ({ frames := 0, cells := 0, slots := 0, locals := 0 }) (va_Pc [.ref (L 0), .int x1] (xP D L K t0 w)) (qI D L 81 (cX L K) rs w9) 0 0 (gA L 81) := by
  refine g_met (cc := cX3_write) (nL := 2) (ret := (some .int)) (by decide) rfl (Nat.le_of_ble_eq_true rfl) (fun p e s m below meth c ls C0 hP hl => ?_)
  exact wx_write_0 hJ C0 hP.2.1 hP.2.2 _ w _ _ ls hP.1 va_S.rf (lv_sub hl [0, 1] rfl) hf
theorem dX3_wipe_0 : decode cX3_wipe 0 = .ok (.aload_n 0, 1) := by decide +kernel
theorem dX3_wipe_1 : decode cX3_wipe 1 = .ok (.getfield 58, 3) := by decide +kernel
theorem dX3_wipe_4 : decode cX3_wipe 4 = .ok (.istore_n 1, 1) := by decide +kernel
theorem dX3_wipe_5 : decode cX3_wipe 5 = .ok (.aload_n 0, 1) := by decide +kernel
theorem dX3_wipe_6 : decode cX3_wipe 6 = .ok (.iconst 0, 1) := by decide +kernel
theorem dX3_wipe_7 : decode cX3_wipe 7 = .ok (.putfield 58, 3) := by decide +kernel
theorem dX3_wipe_10 : decode cX3_wipe 10 = .ok (.iload_n 1, 1) := by decide +kernel
theorem dX3_wipe_11 : decode cX3_wipe 11 = .ok (.ireturn, 1) := by decide +kernel
set_option maxRecDepth 20000 in
theorem hiX3_wipe_X3 : ∀ w ∈ u_ws RX3 TX3 18, w ∈ wsX3_wipe := by decide +kernel
set_option maxHeartbeats 4000000 in
set_option maxRecDepth 100000 in
theorem wx_wipe_0 {p : Program} {l : Launch} {e : Env} {s : State} {m : MethodId} {args : Array Value} {below : List Frame} {meth : Method} {c : Code} {D : va_G} {L : Nat → Nat} {K : Nat → ClassId} {t0 : Nat} (hJ : gj L 81) (C0 : gC cX3_wipe 2 (some .int) wsX3_wipe RX3 p s m args meth c) (hK : va_K D vwCl (tyG K) s) (hE : eX L t0 s) {w9 : St} {rs : Int32} : ∀ (w : St) (H : Heap) (locs : List Loc) (ls : Array Slot), va_P D vwCl (gl L 81 (cX L K w)) H → va_S (gA L 81) s.heap H locs → lv_has ls 2 [(0, .ref (L 0))] → fx_wipe w = some (rs, w9) → W p l e { frames := 0, cells := 0, slots := 0, locals := 0 } s m args below meth c H locs 0 0 (MQ below (qI D L 81 (cX L K) rs w9) args s 0 0 (gA L 81)) (F0 m 0 ls []) := by
  obtain ⟨hx, hb, hr, hml, hown, hts, hlk⟩ := id C0
  intro w H locs ls hw hS hl hf
  unfold fx_wipe at hf
  refine lv_aload_n hx hb dX3_wipe_0 rfl (lv_at hl 0 rfl) ?_
  refine z_get (v := .int (w.1 0 1)) hx hb hts hiX3_wipe_X3 hown hK hw (k := 0) kc_0.2 ((cX_a0 kc_0.1) _) rfl 1 (by decide) (hts (.fieldLink RX3 58 "OneSentence" "letters" "I") (by decide +kernel)) rfl dX3_wipe_1 ?_
  refine lv_topi (fun v4 e4 => ?_)
  replace hf := lb_e hf e4
  refine lv_istore_n (lv' := [(1, .int v4), (0, .ref (L 0))]) hx hb dX3_wipe_4 rfl hl (by decide) rfl (fun ls hl => ?_)
  refine lv_aload_n hx hb dX3_wipe_5 rfl (lv_at hl 1 rfl) ?_
  refine lv_iconst (v := 0) hx hb dX3_wipe_6 (by decide) ?_
  refine z_puti hx hb hts hiX3_wipe_X3 tyX3 tyX3_ok nmX3 hown hK hJ hw hS (k := 0) kc_0.2 cX_ne (fs := (fX0 L)) (cX_a0 kc_0.1) rfl 1 (by decide) (hts (.fieldLink RX3 58 "OneSentence" "letters" "I") (by decide +kernel)) rfl rfl (fun _ _ => ⟨Nat.le_of_ble_eq_true rfl, rfl⟩) dX3_wipe_7 (fun H locs hw hS => ?_)
  refine lv_iload_n hx hb dX3_wipe_10 rfl (lv_at hl 0 rfl) ?_
  exact z_iret hx hb hr hlk hw hS hf dX3_wipe_11
set_option maxHeartbeats 4000000 in
set_option maxRecDepth 100000 in
theorem kx_wipe (l : Launch) {D : va_G} {L : Nat → Nat} {K : Nat → ClassId} {t0 : Nat} (hJ : gj L 81) (w : St) {w9 : St} {rs : Int32} (hf : fx_wipe w = some (rs, w9)) : Met l yX3_wipe wsX3_wipe ({ frames := 0, cells := 0, slots := 0, locals := 0 }) (va_Pc [.ref (L 0)] (xP D L K t0 w)) (qI D L 81 (cX L K) rs w9) 0 0 (gA L 81) := by
  refine g_met (cc := cX3_wipe) (nL := 2) (ret := (some .int)) (by decide) rfl (Nat.le_of_ble_eq_true rfl) (fun p e s m below meth c ls C0 hP hl => ?_)
  exact wx_wipe_0 hJ C0 hP.2.1 hP.2.2 w _ _ ls hP.1 va_S.rf (lv_sub hl [0] rfl) hf
theorem dX3_isFigure_0 : decode cX3_isFigure 0 = .ok (.iload_n 0, 1) := by decide +kernel
theorem dX3_isFigure_1 : decode cX3_isFigure 1 = .ok (.bipush 48, 2) := by decide +kernel
theorem dX3_isFigure_3 : decode cX3_isFigure 3 = .ok (.if_icmp .lt 15, 3) := by decide +kernel
theorem dX3_isFigure_6 : decode cX3_isFigure 6 = .ok (.iload_n 0, 1) := by decide +kernel
theorem dX3_isFigure_7 : decode cX3_isFigure 7 = .ok (.bipush 48, 2) := by decide +kernel
theorem dX3_isFigure_9 : decode cX3_isFigure 9 = .ok (.iload_n 1, 1) := by decide +kernel
theorem dX3_isFigure_10 : decode cX3_isFigure 10 = .ok (.iadd, 1) := by decide +kernel
theorem dX3_isFigure_11 : decode cX3_isFigure 11 = .ok (.if_icmp .gt 7, 3) := by decide +kernel
theorem dX3_isFigure_14 : decode cX3_isFigure 14 = .ok (.iconst 1, 1) := by decide +kernel
theorem dX3_isFigure_15 : decode cX3_isFigure 15 = .ok (.goto 4, 3) := by decide +kernel
theorem dX3_isFigure_18 : decode cX3_isFigure 18 = .ok (.iconst 0, 1) := by decide +kernel
theorem dX3_isFigure_19 : decode cX3_isFigure 19 = .ok (.ireturn, 1) := by decide +kernel
set_option maxHeartbeats 4000000 in
set_option maxRecDepth 100000 in
theorem wx_isFigure_0 {p : Program} {l : Launch} {e : Env} {s : State} {m : MethodId} {args : Array Value} {below : List Frame} {meth : Method} {c : Code} (C0 : gC cX3_isFigure 2 (some .boolean) wsX3_isFigure RX3 p s m args meth c) {rs : Int32} : ∀ (x0 : Int32) (x1 : Int32) (ls : Array Slot), lv_has ls 2 [(0, .int x0), (1, .int x1)] → fx_isFigure x0 x1 = some rs → W p l e { frames := 0, cells := 0, slots := 0, locals := 0 } s m args below meth c s.heap [] 0 0 (MQ below (qS rs) args s 0 0 (fun _ => False)) (F0 m 0 ls []) := by
  obtain ⟨hx, hb, hr, hml, hown, hts, hlk⟩ := id C0
  intro x0 x1 ls hl hf
  unfold fx_isFigure at hf
  refine lv_iload_n hx hb dX3_isFigure_0 rfl (lv_at hl 0 rfl) ?_
  refine lv_bipush (v := 48) hx hb dX3_isFigure_1 (by decide) ?_
  refine lv_icmp_lt (tgt := 18) hx hb dX3_isFigure_3 (by decide) (fun c3 => ?_) (fun c3 => ?_)
  · replace hf := if_t hf c3
    refine lv_iconst (v := 0) hx hb dX3_isFigure_18 (by decide) ?_
    exact z_szret hx hb hr hlk rfl hf dX3_isFigure_19
  · replace hf := if_f hf c3
    refine lv_iload_n hx hb dX3_isFigure_6 rfl (lv_at hl 0 rfl) ?_
    refine lv_bipush (v := 48) hx hb dX3_isFigure_7 (by decide) ?_
    refine lv_iload_n hx hb dX3_isFigure_9 rfl (lv_at hl 1 rfl) ?_
    refine lv_iadd hx hb dX3_isFigure_10 ?_
    refine lv_icmp_gt (tgt := 18) hx hb dX3_isFigure_11 (by decide) (fun c11 => ?_) (fun c11 => ?_)
    · replace hf := if_t hf c11
      refine lv_iconst (v := 0) hx hb dX3_isFigure_18 (by decide) ?_
      exact z_szret hx hb hr hlk rfl hf dX3_isFigure_19
    · replace hf := if_f hf c11
      refine lv_iconst (v := 1) hx hb dX3_isFigure_14 (by decide) ?_
      refine lv_goto (tgt := 19) hx hb dX3_isFigure_15 (by decide) ?_
      exact z_szret hx hb hr hlk rfl hf dX3_isFigure_19
set_option maxHeartbeats 4000000 in
set_option maxRecDepth 100000 in
theorem kx_isFigure (l : Launch) (x0 : Int32) (x1 : Int32) {rs : Int32} (hf : fx_isFigure x0 x1 = some rs) : Met l yX3_isFigure wsX3_isFigure ({ frames := 0, cells := 0, slots := 0, locals := 0 }) (va_Pc [.int x0, .int x1] (fun _ => True)) (qS rs) 0 0 (fun _ => False) := by
  refine g_met (cc := cX3_isFigure) (nL := 2) (ret := (some .boolean)) (by decide) rfl (Nat.le_of_ble_eq_true rfl) (fun p e s m below meth c ls C0 _ hl => ?_)
  exact wx_isFigure_0 C0 _ _ ls (lv_sub hl [0, 1] rfl) hf
set_option maxRecDepth 20000 in
theorem ggX3_fits_X3_isFigure : GoodIn wsX3_fits wsX3_isFigure := goodIn_r _ [4] (by decide +kernel) (by decide +kernel)
set_option maxRecDepth 20000 in
theorem gX3_fits_X3_isFigure : GoodIn wsX3_fits (va_wsS RX3 236 yX3_isFigure wsX3_isFigure) := goodIn_app (goodIn_of _ (by decide +kernel)) ggX3_fits_X3_isFigure
theorem dX3_fits_0 : decode cX3_fits 0 = .ok (.iload_n 0, 1) := by decide +kernel
theorem dX3_fits_1 : decode cX3_fits 1 = .ok (.ifCond .ne 15, 3) := by decide +kernel
theorem dX3_fits_4 : decode cX3_fits 4 = .ok (.iload_n 1, 1) := by decide +kernel
theorem dX3_fits_5 : decode cX3_fits 5 = .ok (.bipush 73, 2) := by decide +kernel
theorem dX3_fits_7 : decode cX3_fits 7 = .ok (.if_icmp .ne 7, 3) := by decide +kernel
theorem dX3_fits_10 : decode cX3_fits 10 = .ok (.iconst 1, 1) := by decide +kernel
theorem dX3_fits_11 : decode cX3_fits 11 = .ok (.goto 4, 3) := by decide +kernel
theorem dX3_fits_14 : decode cX3_fits 14 = .ok (.iconst 0, 1) := by decide +kernel
theorem dX3_fits_15 : decode cX3_fits 15 = .ok (.ireturn, 1) := by decide +kernel
theorem dX3_fits_16 : decode cX3_fits 16 = .ok (.iload_n 0, 1) := by decide +kernel
theorem dX3_fits_17 : decode cX3_fits 17 = .ok (.iconst 1, 1) := by decide +kernel
theorem dX3_fits_18 : decode cX3_fits 18 = .ok (.if_icmp .ne 10, 3) := by decide +kernel
theorem dX3_fits_21 : decode cX3_fits 21 = .ok (.iload_n 1, 1) := by decide +kernel
theorem dX3_fits_22 : decode cX3_fits 22 = .ok (.bipush 9, 2) := by decide +kernel
theorem dX3_fits_24 : decode cX3_fits 24 = .ok (.invokestatic 236, 3) := by decide +kernel
theorem dX3_fits_27 : decode cX3_fits 27 = .ok (.ireturn, 1) := by decide +kernel
theorem dX3_fits_28 : decode cX3_fits 28 = .ok (.iload_n 0, 1) := by decide +kernel
theorem dX3_fits_29 : decode cX3_fits 29 = .ok (.bipush 32, 2) := by decide +kernel
theorem dX3_fits_31 : decode cX3_fits 31 = .ok (.if_icmp .lt 5, 3) := by decide +kernel
theorem dX3_fits_34 : decode cX3_fits 34 = .ok (.iconst 0, 1) := by decide +kernel
theorem dX3_fits_35 : decode cX3_fits 35 = .ok (.ireturn, 1) := by decide +kernel
theorem dX3_fits_36 : decode cX3_fits 36 = .ok (.iload_n 0, 1) := by decide +kernel
theorem dX3_fits_37 : decode cX3_fits 37 = .ok (.iconst 2, 1) := by decide +kernel
theorem dX3_fits_38 : decode cX3_fits 38 = .ok (.isub, 1) := by decide +kernel
theorem dX3_fits_39 : decode cX3_fits 39 = .ok (.iconst 5, 1) := by decide +kernel
theorem dX3_fits_40 : decode cX3_fits 40 = .ok (.irem, 1) := by decide +kernel
theorem dX3_fits_41 : decode cX3_fits 41 = .ok (.tableswitch 59 0 4 #[35, 59, 47, 59, 53], 35) := by decide +kernel
theorem dX3_fits_76 : decode cX3_fits 76 = .ok (.iload_n 1, 1) := by decide +kernel
theorem dX3_fits_77 : decode cX3_fits 77 = .ok (.bipush 80, 2) := by decide +kernel
theorem dX3_fits_79 : decode cX3_fits 79 = .ok (.if_icmp .ne 7, 3) := by decide +kernel
theorem dX3_fits_82 : decode cX3_fits 82 = .ok (.iconst 1, 1) := by decide +kernel
theorem dX3_fits_83 : decode cX3_fits 83 = .ok (.goto 4, 3) := by decide +kernel
theorem dX3_fits_86 : decode cX3_fits 86 = .ok (.iconst 0, 1) := by decide +kernel
theorem dX3_fits_87 : decode cX3_fits 87 = .ok (.ireturn, 1) := by decide +kernel
theorem dX3_fits_88 : decode cX3_fits 88 = .ok (.iload_n 1, 1) := by decide +kernel
theorem dX3_fits_89 : decode cX3_fits 89 = .ok (.iconst 3, 1) := by decide +kernel
theorem dX3_fits_90 : decode cX3_fits 90 = .ok (.invokestatic 236, 3) := by decide +kernel
theorem dX3_fits_93 : decode cX3_fits 93 = .ok (.ireturn, 1) := by decide +kernel
theorem dX3_fits_94 : decode cX3_fits 94 = .ok (.iload_n 1, 1) := by decide +kernel
theorem dX3_fits_95 : decode cX3_fits 95 = .ok (.iconst 3, 1) := by decide +kernel
theorem dX3_fits_96 : decode cX3_fits 96 = .ok (.invokestatic 236, 3) := by decide +kernel
theorem dX3_fits_99 : decode cX3_fits 99 = .ok (.ireturn, 1) := by decide +kernel
theorem dX3_fits_100 : decode cX3_fits 100 = .ok (.iload_n 1, 1) := by decide +kernel
theorem dX3_fits_101 : decode cX3_fits 101 = .ok (.bipush 9, 2) := by decide +kernel
theorem dX3_fits_103 : decode cX3_fits 103 = .ok (.invokestatic 236, 3) := by decide +kernel
theorem dX3_fits_106 : decode cX3_fits 106 = .ok (.ireturn, 1) := by decide +kernel
set_option maxHeartbeats 4000000 in
set_option maxRecDepth 100000 in
theorem wx_fits_0 {p : Program} {l : Launch} {e : Env} {s : State} {m : MethodId} {args : Array Value} {below : List Frame} {meth : Method} {c : Code} (C0 : gC cX3_fits 2 (some .boolean) wsX3_fits RX3 p s m args meth c) {rs : Int32} : ∀ (x0 : Int32) (x1 : Int32) (ls : Array Slot), lv_has ls 2 [(0, .int x0), (1, .int x1)] → fx_fits x0 x1 = some rs → W p l e { frames := 1, cells := 0, slots := 0, locals := 21 } s m args below meth c s.heap [] 0 0 (MQ below (qS rs) args s 0 0 (fun _ => False)) (F0 m 0 ls []) := by
  obtain ⟨hx, hb, hr, hml, hown, hts, hlk⟩ := id C0
  intro x0 x1 ls hl hf
  unfold fx_fits at hf
  refine lv_iload_n hx hb dX3_fits_0 rfl (lv_at hl 0 rfl) ?_
  refine lv_if_ne (tgt := 16) hx hb dX3_fits_1 (by decide) (fun c1 => ?_) (fun c1 => ?_)
  · replace hf := if_f hf c1
    refine lv_iload_n hx hb dX3_fits_16 rfl (lv_at hl 0 rfl) ?_
    refine lv_iconst (v := 1) hx hb dX3_fits_17 (by decide) ?_
    refine lv_icmp_ne (tgt := 28) hx hb dX3_fits_18 (by decide) (fun c18 => ?_) (fun c18 => ?_)
    · replace hf := if_f hf c18
      refine lv_iload_n hx hb dX3_fits_28 rfl (lv_at hl 0 rfl) ?_
      refine lv_bipush (v := 32) hx hb dX3_fits_29 (by decide) ?_
      refine lv_icmp_lt (tgt := 36) hx hb dX3_fits_31 (by decide) (fun c31 => ?_) (fun c31 => ?_)
      · replace hf := if_t hf c31
        refine lv_iload_n hx hb dX3_fits_36 rfl (lv_at hl 0 rfl) ?_
        refine lv_iconst (v := 2) hx hb dX3_fits_37 (by decide) ?_
        refine lv_isub hx hb dX3_fits_38 ?_
        refine lv_iconst (v := 5) hx hb dX3_fits_39 (by decide) ?_
        refine lv_irem hx hb dX3_fits_40 (by decide) ?_
        by_cases c41_0 : (ir (x0 - (2 : Int32)) 5) = 0
        · replace hf := if_t hf c41_0
          refine lv_tableIn (x := (ir (x0 - (2 : Int32)) 5)) (off := 35) (tgt := 76) hx hb dX3_fits_41 (by rw [c41_0]; decide) (by rw [c41_0]; decide) (by rw [c41_0]; rfl) (by decide) ?_
          refine lv_iload_n hx hb dX3_fits_76 rfl (lv_at hl 1 rfl) ?_
          refine lv_bipush (v := 80) hx hb dX3_fits_77 (by decide) ?_
          refine lv_icmp_ne (tgt := 86) hx hb dX3_fits_79 (by decide) (fun c79 => ?_) (fun c79 => ?_)
          · replace hf := if_f hf c79
            refine lv_iconst (v := 0) hx hb dX3_fits_86 (by decide) ?_
            exact z_szret hx hb hr hlk rfl hf dX3_fits_87
          · replace hf := if_t hf c79
            refine lv_iconst (v := 1) hx hb dX3_fits_82 (by decide) ?_
            refine lv_goto (tgt := 87) hx hb dX3_fits_83 (by decide) ?_
            exact z_szret hx hb hr hlk rfl hf dX3_fits_87
        · replace hf := if_f hf c41_0
          by_cases c41_1 : (ir (x0 - (2 : Int32)) 5) = 1
          · replace hf := if_t hf c41_1
            refine lv_tableIn (x := (ir (x0 - (2 : Int32)) 5)) (off := 59) (tgt := 100) hx hb dX3_fits_41 (by rw [c41_1]; decide) (by rw [c41_1]; decide) (by rw [c41_1]; rfl) (by decide) ?_
            refine lv_iload_n hx hb dX3_fits_100 rfl (lv_at hl 1 rfl) ?_
            refine lv_bipush (v := 9) hx hb dX3_fits_101 (by decide) ?_
            obtain ⟨v103, h103, hf⟩ := bd_e hf
            refine z_calls (va_runS (As := [.int x1, .int 9]) (rest := []) ⟨hx, hb, hml, hown, hts⟩ (kx_isFigure l x1 9 h103) (va_cwS 2 hts gX3_fits_X3_isFigure rfl rfl rfl (by decide +kernel) ⟨Nat.le_of_ble_eq_true rfl, Nat.le_of_ble_eq_true rfl⟩) z_preT rfl rfl hl.1 rfl (lv_room (Nat.le_of_ble_eq_true rfl)) dX3_fits_103 ⟨Nat.le_of_ble_eq_true rfl, Nat.le_of_ble_eq_true rfl⟩) ?_
            obtain ⟨v106, h106, hf⟩ := bd_e hf
            obtain ⟨rfl, hn⟩ := gz_e h106
            exact z_szret hx hb hr hlk hn hf dX3_fits_106
          · replace hf := if_f hf c41_1
            by_cases c41_2 : (ir (x0 - (2 : Int32)) 5) = 2
            · replace hf := if_t hf c41_2
              refine lv_tableIn (x := (ir (x0 - (2 : Int32)) 5)) (off := 47) (tgt := 88) hx hb dX3_fits_41 (by rw [c41_2]; decide) (by rw [c41_2]; decide) (by rw [c41_2]; rfl) (by decide) ?_
              refine lv_iload_n hx hb dX3_fits_88 rfl (lv_at hl 1 rfl) ?_
              refine lv_iconst (v := 3) hx hb dX3_fits_89 (by decide) ?_
              obtain ⟨v90, h90, hf⟩ := bd_e hf
              refine z_calls (va_runS (As := [.int x1, .int 3]) (rest := []) ⟨hx, hb, hml, hown, hts⟩ (kx_isFigure l x1 3 h90) (va_cwS 2 hts gX3_fits_X3_isFigure rfl rfl rfl (by decide +kernel) ⟨Nat.le_of_ble_eq_true rfl, Nat.le_of_ble_eq_true rfl⟩) z_preT rfl rfl hl.1 rfl (lv_room (Nat.le_of_ble_eq_true rfl)) dX3_fits_90 ⟨Nat.le_of_ble_eq_true rfl, Nat.le_of_ble_eq_true rfl⟩) ?_
              obtain ⟨v93, h93, hf⟩ := bd_e hf
              obtain ⟨rfl, hn⟩ := gz_e h93
              exact z_szret hx hb hr hlk hn hf dX3_fits_93
            · replace hf := if_f hf c41_2
              by_cases c41_3 : (ir (x0 - (2 : Int32)) 5) = 3
              · replace hf := if_t hf c41_3
                refine lv_tableIn (x := (ir (x0 - (2 : Int32)) 5)) (off := 59) (tgt := 100) hx hb dX3_fits_41 (by rw [c41_3]; decide) (by rw [c41_3]; decide) (by rw [c41_3]; rfl) (by decide) ?_
                refine lv_iload_n hx hb dX3_fits_100 rfl (lv_at hl 1 rfl) ?_
                refine lv_bipush (v := 9) hx hb dX3_fits_101 (by decide) ?_
                obtain ⟨v103, h103, hf⟩ := bd_e hf
                refine z_calls (va_runS (As := [.int x1, .int 9]) (rest := []) ⟨hx, hb, hml, hown, hts⟩ (kx_isFigure l x1 9 h103) (va_cwS 2 hts gX3_fits_X3_isFigure rfl rfl rfl (by decide +kernel) ⟨Nat.le_of_ble_eq_true rfl, Nat.le_of_ble_eq_true rfl⟩) z_preT rfl rfl hl.1 rfl (lv_room (Nat.le_of_ble_eq_true rfl)) dX3_fits_103 ⟨Nat.le_of_ble_eq_true rfl, Nat.le_of_ble_eq_true rfl⟩) ?_
                obtain ⟨v106, h106, hf⟩ := bd_e hf
                obtain ⟨rfl, hn⟩ := gz_e h106
                exact z_szret hx hb hr hlk hn hf dX3_fits_106
              · replace hf := if_f hf c41_3
                by_cases c41_4 : (ir (x0 - (2 : Int32)) 5) = 4
                · replace hf := if_t hf c41_4
                  refine lv_tableIn (x := (ir (x0 - (2 : Int32)) 5)) (off := 53) (tgt := 94) hx hb dX3_fits_41 (by rw [c41_4]; decide) (by rw [c41_4]; decide) (by rw [c41_4]; rfl) (by decide) ?_
                  refine lv_iload_n hx hb dX3_fits_94 rfl (lv_at hl 1 rfl) ?_
                  refine lv_iconst (v := 3) hx hb dX3_fits_95 (by decide) ?_
                  obtain ⟨v96, h96, hf⟩ := bd_e hf
                  refine z_calls (va_runS (As := [.int x1, .int 3]) (rest := []) ⟨hx, hb, hml, hown, hts⟩ (kx_isFigure l x1 3 h96) (va_cwS 2 hts gX3_fits_X3_isFigure rfl rfl rfl (by decide +kernel) ⟨Nat.le_of_ble_eq_true rfl, Nat.le_of_ble_eq_true rfl⟩) z_preT rfl rfl hl.1 rfl (lv_room (Nat.le_of_ble_eq_true rfl)) dX3_fits_96 ⟨Nat.le_of_ble_eq_true rfl, Nat.le_of_ble_eq_true rfl⟩) ?_
                  obtain ⟨v99, h99, hf⟩ := bd_e hf
                  obtain ⟨rfl, hn⟩ := gz_e h99
                  exact z_szret hx hb hr hlk hn hf dX3_fits_99
                · replace hf := if_f hf c41_4
                  have z41 : ∀ z, z < 5 → ¬ (ir (x0 - (2 : Int32)) 5) = nI z := by
                    intro z hz
                    rcases (show z = 0 ∨ z = 1 ∨ z = 2 ∨ z = 3 ∨ z = 4 by omega) with rfl | rfl | rfl | rfl | rfl
                    · exact c41_0
                    · exact c41_1
                    · exact c41_2
                    · exact c41_3
                    · exact c41_4
                  refine lv_tableOut (x := (ir (x0 - (2 : Int32)) 5)) (tgt := 100) hx hb dX3_fits_41 (z_out (by decide) z41 rfl) (by decide) ?_
                  refine lv_iload_n hx hb dX3_fits_100 rfl (lv_at hl 1 rfl) ?_
                  refine lv_bipush (v := 9) hx hb dX3_fits_101 (by decide) ?_
                  obtain ⟨v103, h103, hf⟩ := bd_e hf
                  refine z_calls (va_runS (As := [.int x1, .int 9]) (rest := []) ⟨hx, hb, hml, hown, hts⟩ (kx_isFigure l x1 9 h103) (va_cwS 2 hts gX3_fits_X3_isFigure rfl rfl rfl (by decide +kernel) ⟨Nat.le_of_ble_eq_true rfl, Nat.le_of_ble_eq_true rfl⟩) z_preT rfl rfl hl.1 rfl (lv_room (Nat.le_of_ble_eq_true rfl)) dX3_fits_103 ⟨Nat.le_of_ble_eq_true rfl, Nat.le_of_ble_eq_true rfl⟩) ?_
                  obtain ⟨v106, h106, hf⟩ := bd_e hf
                  obtain ⟨rfl, hn⟩ := gz_e h106
                  exact z_szret hx hb hr hlk hn hf dX3_fits_106
      · replace hf := if_f hf c31
        refine lv_iconst (v := 0) hx hb dX3_fits_34 (by decide) ?_
        exact z_szret hx hb hr hlk rfl hf dX3_fits_35
    · replace hf := if_t hf c18
      refine lv_iload_n hx hb dX3_fits_21 rfl (lv_at hl 1 rfl) ?_
      refine lv_bipush (v := 9) hx hb dX3_fits_22 (by decide) ?_
      obtain ⟨v24, h24, hf⟩ := bd_e hf
      refine z_calls (va_runS (As := [.int x1, .int 9]) (rest := []) ⟨hx, hb, hml, hown, hts⟩ (kx_isFigure l x1 9 h24) (va_cwS 2 hts gX3_fits_X3_isFigure rfl rfl rfl (by decide +kernel) ⟨Nat.le_of_ble_eq_true rfl, Nat.le_of_ble_eq_true rfl⟩) z_preT rfl rfl hl.1 rfl (lv_room (Nat.le_of_ble_eq_true rfl)) dX3_fits_24 ⟨Nat.le_of_ble_eq_true rfl, Nat.le_of_ble_eq_true rfl⟩) ?_
      obtain ⟨v27, h27, hf⟩ := bd_e hf
      obtain ⟨rfl, hn⟩ := gz_e h27
      exact z_szret hx hb hr hlk hn hf dX3_fits_27
  · replace hf := if_t hf c1
    refine lv_iload_n hx hb dX3_fits_4 rfl (lv_at hl 1 rfl) ?_
    refine lv_bipush (v := 73) hx hb dX3_fits_5 (by decide) ?_
    refine lv_icmp_ne (tgt := 14) hx hb dX3_fits_7 (by decide) (fun c7 => ?_) (fun c7 => ?_)
    · replace hf := if_f hf c7
      refine lv_iconst (v := 0) hx hb dX3_fits_14 (by decide) ?_
      exact z_szret hx hb hr hlk rfl hf dX3_fits_15
    · replace hf := if_t hf c7
      refine lv_iconst (v := 1) hx hb dX3_fits_10 (by decide) ?_
      refine lv_goto (tgt := 15) hx hb dX3_fits_11 (by decide) ?_
      exact z_szret hx hb hr hlk rfl hf dX3_fits_15
set_option maxHeartbeats 4000000 in
set_option maxRecDepth 100000 in
theorem kx_fits (l : Launch) (x0 : Int32) (x1 : Int32) {rs : Int32} (hf : fx_fits x0 x1 = some rs) : Met l yX3_fits wsX3_fits ({ frames := 1, cells := 0, slots := 0, locals := 21 }) (va_Pc [.int x0, .int x1] (fun _ => True)) (qS rs) 0 0 (fun _ => False) := by
  refine g_met (cc := cX3_fits) (nL := 2) (ret := (some .boolean)) (by decide) rfl (Nat.le_of_ble_eq_true rfl) (fun p e s m below meth c ls C0 _ hl => ?_)
  exact wx_fits_0 C0 _ _ ls (lv_sub hl [0, 1] rfl) hf
