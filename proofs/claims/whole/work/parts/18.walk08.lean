theorem dX4_keepAct_0 : decode cX4_keepAct 0 = .ok (.iconst 0, 1) := by decide +kernel
theorem dX4_keepAct_1 : decode cX4_keepAct 1 = .ok (.istore_n 1, 1) := by decide +kernel
theorem dX4_keepAct_2 : decode cX4_keepAct 2 = .ok (.iload_n 1, 1) := by decide +kernel
theorem dX4_keepAct_3 : decode cX4_keepAct 3 = .ok (.bipush 27, 2) := by decide +kernel
theorem dX4_keepAct_5 : decode cX4_keepAct 5 = .ok (.if_icmp .ge 29, 3) := by decide +kernel
theorem dX4_keepAct_8 : decode cX4_keepAct 8 = .ok (.aload_n 0, 1) := by decide +kernel
theorem dX4_keepAct_9 : decode cX4_keepAct 9 = .ok (.getfield 25, 3) := by decide +kernel
theorem dX4_keepAct_12 : decode cX4_keepAct 12 = .ok (.bipush 27, 2) := by decide +kernel
theorem dX4_keepAct_14 : decode cX4_keepAct 14 = .ok (.aload_n 0, 1) := by decide +kernel
theorem dX4_keepAct_15 : decode cX4_keepAct 15 = .ok (.getfield 102, 3) := by decide +kernel
theorem dX4_keepAct_18 : decode cX4_keepAct 18 = .ok (.imul, 1) := by decide +kernel
theorem dX4_keepAct_19 : decode cX4_keepAct 19 = .ok (.iload_n 1, 1) := by decide +kernel
theorem dX4_keepAct_20 : decode cX4_keepAct 20 = .ok (.iadd, 1) := by decide +kernel
theorem dX4_keepAct_21 : decode cX4_keepAct 21 = .ok (.aload_n 0, 1) := by decide +kernel
theorem dX4_keepAct_22 : decode cX4_keepAct 22 = .ok (.getfield 16, 3) := by decide +kernel
theorem dX4_keepAct_25 : decode cX4_keepAct 25 = .ok (.iload_n 1, 1) := by decide +kernel
theorem dX4_keepAct_26 : decode cX4_keepAct 26 = .ok (.iaload, 1) := by decide +kernel
theorem dX4_keepAct_27 : decode cX4_keepAct 27 = .ok (.iastore, 1) := by decide +kernel
theorem dX4_keepAct_28 : decode cX4_keepAct 28 = .ok (.iinc 1 1, 3) := by decide +kernel
theorem dX4_keepAct_31 : decode cX4_keepAct 31 = .ok (.goto (-29), 3) := by decide +kernel
theorem dX4_keepAct_34 : decode cX4_keepAct 34 = .ok (.aload_n 0, 1) := by decide +kernel
theorem dX4_keepAct_35 : decode cX4_keepAct 35 = .ok (.aload_n 0, 1) := by decide +kernel
theorem dX4_keepAct_36 : decode cX4_keepAct 36 = .ok (.getfield 102, 3) := by decide +kernel
theorem dX4_keepAct_39 : decode cX4_keepAct 39 = .ok (.iconst 1, 1) := by decide +kernel
theorem dX4_keepAct_40 : decode cX4_keepAct 40 = .ok (.iadd, 1) := by decide +kernel
theorem dX4_keepAct_41 : decode cX4_keepAct 41 = .ok (.bipush 14, 2) := by decide +kernel
theorem dX4_keepAct_43 : decode cX4_keepAct 43 = .ok (.irem, 1) := by decide +kernel
theorem dX4_keepAct_44 : decode cX4_keepAct 44 = .ok (.putfield 102, 3) := by decide +kernel
theorem dX4_keepAct_47 : decode cX4_keepAct 47 = .ok (.aload_n 0, 1) := by decide +kernel
theorem dX4_keepAct_48 : decode cX4_keepAct 48 = .ok (.aload_n 0, 1) := by decide +kernel
theorem dX4_keepAct_49 : decode cX4_keepAct 49 = .ok (.getfield 80, 3) := by decide +kernel
theorem dX4_keepAct_52 : decode cX4_keepAct 52 = .ok (.bipush 14, 2) := by decide +kernel
theorem dX4_keepAct_54 : decode cX4_keepAct 54 = .ok (.if_icmp .ge 12, 3) := by decide +kernel
theorem dX4_keepAct_57 : decode cX4_keepAct 57 = .ok (.aload_n 0, 1) := by decide +kernel
theorem dX4_keepAct_58 : decode cX4_keepAct 58 = .ok (.getfield 80, 3) := by decide +kernel
theorem dX4_keepAct_61 : decode cX4_keepAct 61 = .ok (.iconst 1, 1) := by decide +kernel
theorem dX4_keepAct_62 : decode cX4_keepAct 62 = .ok (.iadd, 1) := by decide +kernel
theorem dX4_keepAct_63 : decode cX4_keepAct 63 = .ok (.goto 5, 3) := by decide +kernel
theorem dX4_keepAct_66 : decode cX4_keepAct 66 = .ok (.bipush 14, 2) := by decide +kernel
theorem dX4_keepAct_68 : decode cX4_keepAct 68 = .ok (.putfield 80, 3) := by decide +kernel
theorem dX4_keepAct_71 : decode cX4_keepAct 71 = .ok (.return_, 1) := by decide +kernel
set_option maxRecDepth 20000 in
theorem hiX4_keepAct_X4 : ∀ w ∈ u_ws RX4 TX4 24, w ∈ wsX4_keepAct := by decide +kernel
set_option maxHeartbeats 4000000 in
set_option maxRecDepth 100000 in
theorem wm_keepAct_68 {p : Program} {l : Launch} {e : Env} {s : State} {m : MethodId} {args : Array Value} {below : List Frame} {meth : Method} {c : Code} {D : va_G} {L : Nat → Nat} {K : Nat → ClassId} (hJ : gj L 12) (C0 : gC cX4_keepAct 2 none wsX4_keepAct RX4 p s m args meth c) (hK : va_K D vwCl (tyG K) s) (hE : eM s) {w9 : St} : ∀ (s1 : Int32) (w : St) (H : Heap) (locs : List Loc) (ls : Array Slot), va_P D vwCl (gl L 12 (cM L K w)) H → va_S (gA L 12) s.heap H locs → lv_has ls 2 [] → fm_keepAct_68 s1 w = some w9 → W p l e { frames := 0, cells := 0, slots := 0, locals := 0 } s m args below meth c H locs 0 0 (MQ below (qV D L 12 (cM L K) w9) args s 0 0 (gA L 12)) (F0 m 68 ls [.int s1, .ref (L 0)]) := by
  obtain ⟨hx, hb, hr, hml, hown, hts, hlk⟩ := id C0
  intro s1 w H locs ls hw hS hl hf
  unfold fm_keepAct_68 at hf
  refine z_puti hx hb hts hiX4_keepAct_X4 tyX4 tyX4_ok nmX4 hown hK hJ hw hS (k := 0) (by decide) cM_ne (fs := fM0 L) (fun w => rfl) rfl 12 (by decide) (hts (.fieldLink RX4 80 "OneSentenceModel" "acts" "I") (by decide +kernel)) rfl rfl (fun _ _ => ⟨Nat.le_of_ble_eq_true rfl, rfl⟩) dX4_keepAct_68 (fun H locs hw hS => ?_)
  exact z_vret hx hb hr hlk hw hS hf dX4_keepAct_71
set_option maxHeartbeats 4000000 in
set_option maxRecDepth 100000 in
theorem wm_keepAct_2 {p : Program} {l : Launch} {e : Env} {s : State} {m : MethodId} {args : Array Value} {below : List Frame} {meth : Method} {c : Code} {D : va_G} {L : Nat → Nat} {K : Nat → ClassId} (hJ : gj L 12) (C0 : gC cX4_keepAct 2 none wsX4_keepAct RX4 p s m args meth c) (hK : va_K D vwCl (tyG K) s) (hE : eM s) {w9 : St} : ∀ (fu : Nat) (x1 : Int32) (w : St) (H : Heap) (locs : List Loc) (ls : Array Slot), va_P D vwCl (gl L 12 (cM L K w)) H → va_S (gA L 12) s.heap H locs → lv_has ls 2 [(0, .ref (L 0)), (1, .int x1)] → fm_keepAct_2 fu x1 w = some w9 → W p l e { frames := 0, cells := 0, slots := 0, locals := 0 } s m args below meth c H locs 0 0 (MQ below (qV D L 12 (cM L K) w9) args s 0 0 (gA L 12)) (F0 m 2 ls []) := by
  obtain ⟨hx, hb, hr, hml, hown, hts, hlk⟩ := id C0
  intro fu
  induction fu with
  | zero =>
    intro x1 w H locs ls hw hS hl hf
    rw [fm_keepAct_2] at hf
    exact no_n hf
  | succ fu ih =>
    intro x1 w H locs ls hw hS hl hf
    rw [fm_keepAct_2] at hf
    refine lv_iload_n hx hb dX4_keepAct_2 rfl (lv_at hl 1 rfl) ?_
    refine lv_bipush (v := 27) hx hb dX4_keepAct_3 (by decide) ?_
    refine lv_icmp_ge (tgt := 34) hx hb dX4_keepAct_5 (by decide) (fun c5 => ?_) (fun c5 => ?_)
    · replace hf := if_t hf c5
      refine lv_aload_n hx hb dX4_keepAct_34 rfl (lv_at hl 0 rfl) ?_
      refine lv_aload_n hx hb dX4_keepAct_35 rfl (lv_at hl 0 rfl) ?_
      refine z_get (v := .int (w.1 0 13)) hx hb hts hiX4_keepAct_X4 hown hK hw (k := 0) (by decide) ((fun w => rfl) _) rfl 13 (by decide) (hts (.fieldLink RX4 102 "OneSentenceModel" "next" "I") (by decide +kernel)) rfl dX4_keepAct_36 ?_
      refine lv_iconst (v := 1) hx hb dX4_keepAct_39 (by decide) ?_
      refine lv_iadd hx hb dX4_keepAct_40 ?_
      refine lv_bipush (v := 14) hx hb dX4_keepAct_41 (by decide) ?_
      refine lv_irem hx hb dX4_keepAct_43 (by decide) ?_
      refine z_puti hx hb hts hiX4_keepAct_X4 tyX4 tyX4_ok nmX4 hown hK hJ hw hS (k := 0) (by decide) cM_ne (fs := fM0 L) (fun w => rfl) rfl 13 (by decide) (hts (.fieldLink RX4 102 "OneSentenceModel" "next" "I") (by decide +kernel)) rfl rfl (fun _ _ => ⟨Nat.le_of_ble_eq_true rfl, rfl⟩) dX4_keepAct_44 (fun H locs hw hS => ?_)
      refine lv_aload_n hx hb dX4_keepAct_47 rfl (lv_at hl 0 rfl) ?_
      refine lv_aload_n hx hb dX4_keepAct_48 rfl (lv_at hl 0 rfl) ?_
      refine z_get (v := .int ((wr w 0 13 (ir ((w.1 0 13) + (1 : Int32)) 14)).1 0 12)) hx hb hts hiX4_keepAct_X4 hown hK hw (k := 0) (by decide) ((fun w => rfl) _) rfl 12 (by decide) (hts (.fieldLink RX4 80 "OneSentenceModel" "acts" "I") (by decide +kernel)) rfl dX4_keepAct_49 ?_
      refine lv_bipush (v := 14) hx hb dX4_keepAct_52 (by decide) ?_
      refine lv_icmp_ge (tgt := 66) hx hb dX4_keepAct_54 (by decide) (fun c54 => ?_) (fun c54 => ?_)
      · replace hf := if_t hf c54
        refine lv_bipush (v := 14) hx hb dX4_keepAct_66 (by decide) ?_
        exact wm_keepAct_68 hJ C0 hK hE _ _ _ _ _ hw hS (lv_sub hl [] rfl) hf
      · replace hf := if_f hf c54
        refine lv_aload_n hx hb dX4_keepAct_57 rfl (lv_at hl 0 rfl) ?_
        refine z_get (v := .int ((wr w 0 13 (ir ((w.1 0 13) + (1 : Int32)) 14)).1 0 12)) hx hb hts hiX4_keepAct_X4 hown hK hw (k := 0) (by decide) ((fun w => rfl) _) rfl 12 (by decide) (hts (.fieldLink RX4 80 "OneSentenceModel" "acts" "I") (by decide +kernel)) rfl dX4_keepAct_58 ?_
        refine lv_iconst (v := 1) hx hb dX4_keepAct_61 (by decide) ?_
        refine lv_iadd hx hb dX4_keepAct_62 ?_
        refine lv_goto (tgt := 68) hx hb dX4_keepAct_63 (by decide) ?_
        exact wm_keepAct_68 hJ C0 hK hE _ _ _ _ _ hw hS (lv_sub hl [] rfl) hf
    · replace hf := if_f hf c5
      refine lv_aload_n hx hb dX4_keepAct_8 rfl (lv_at hl 0 rfl) ?_
      refine z_get (v := .ref (L 6)) hx hb hts hiX4_keepAct_X4 hown hK hw (k := 0) (by decide) ((fun w => rfl) _) rfl 14 (by decide) (hts (.fieldLink RX4 25 "OneSentenceModel" "row" "[I") (by decide +kernel)) rfl dX4_keepAct_9 ?_
      refine lv_bipush (v := 27) hx hb dX4_keepAct_12 (by decide) ?_
      refine lv_aload_n hx hb dX4_keepAct_14 rfl (lv_at hl 0 rfl) ?_
      refine z_get (v := .int (w.1 0 13)) hx hb hts hiX4_keepAct_X4 hown hK hw (k := 0) (by decide) ((fun w => rfl) _) rfl 13 (by decide) (hts (.fieldLink RX4 102 "OneSentenceModel" "next" "I") (by decide +kernel)) rfl dX4_keepAct_15 ?_
      refine lv_imul hx hb dX4_keepAct_18 ?_
      refine lv_iload_n hx hb dX4_keepAct_19 rfl (lv_at hl 1 rfl) ?_
      refine lv_iadd hx hb dX4_keepAct_20 ?_
      refine lv_aload_n hx hb dX4_keepAct_21 rfl (lv_at hl 0 rfl) ?_
      refine z_get (v := .ref (L 3)) hx hb hts hiX4_keepAct_X4 hown hK hw (k := 0) (by decide) ((fun w => rfl) _) rfl 4 (by decide) (hts (.fieldLink RX4 16 "OneSentenceModel" "now" "[I") (by decide +kernel)) rfl dX4_keepAct_22 ?_
      refine lv_iload_n hx hb dX4_keepAct_25 rfl (lv_at hl 1 rfl) ?_
      obtain ⟨v26, h26, hf⟩ := bd_e hf
      refine z_iald hx hb hK hw 0 (k := 3) (by decide) ((fun w => rfl) _) rfl h26 dX4_keepAct_26 ?_
      obtain ⟨w27, h27, hf⟩ := bd_e hf
      refine z_iast hx hb hK hJ hw hS 0 (k := 6) (by decide) cM_ne (fun w => rfl) rfl h27 dX4_keepAct_27 (fun H locs hw hS => ?_)
      refine lv_iinc (v := (x1 + 1)) (lv' := [(1, .int (x1 + 1)), (0, .ref (L 0))]) hx hb dX4_keepAct_28 hl (k := 1) rfl rfl (by decide) rfl (fun ls hl => ?_)
      refine lv_goto (tgt := 2) hx hb dX4_keepAct_31 (by decide) ?_
      exact ih _ _ _ _ _ hw hS (lv_sub hl [1, 0] rfl) hf
set_option maxHeartbeats 4000000 in
set_option maxRecDepth 100000 in
theorem wm_keepAct_0 {p : Program} {l : Launch} {e : Env} {s : State} {m : MethodId} {args : Array Value} {below : List Frame} {meth : Method} {c : Code} {D : va_G} {L : Nat → Nat} {K : Nat → ClassId} (hJ : gj L 12) (C0 : gC cX4_keepAct 2 none wsX4_keepAct RX4 p s m args meth c) (hK : va_K D vwCl (tyG K) s) (hE : eM s) {w9 : St} : ∀ (w : St) (H : Heap) (locs : List Loc) (ls : Array Slot), va_P D vwCl (gl L 12 (cM L K w)) H → va_S (gA L 12) s.heap H locs → lv_has ls 2 [(0, .ref (L 0))] → fm_keepAct w = some w9 → W p l e { frames := 0, cells := 0, slots := 0, locals := 0 } s m args below meth c H locs 0 0 (MQ below (qV D L 12 (cM L K) w9) args s 0 0 (gA L 12)) (F0 m 0 ls []) := by
  obtain ⟨hx, hb, hr, hml, hown, hts, hlk⟩ := id C0
  intro w H locs ls hw hS hl hf
  unfold fm_keepAct at hf
  refine lv_iconst (v := 0) hx hb dX4_keepAct_0 (by decide) ?_
  refine lv_istore_n (lv' := [(1, .int 0), (0, .ref (L 0))]) hx hb dX4_keepAct_1 rfl hl (by decide) rfl (fun ls hl => ?_)
  exact wm_keepAct_2 hJ C0 hK hE _ _ _ _ _ _ hw hS (lv_sub hl [1, 0] rfl) hf
set_option maxHeartbeats 4000000 in
set_option maxRecDepth 100000 in
theorem km_keepAct (l : Launch) {D : va_G} {L : Nat → Nat} {K : Nat → ClassId} (hJ : gj L 12) (w : St) {w9 : St} (hf : fm_keepAct w = some w9) : Met l yX4_keepAct wsX4_keepAct ({ frames := 0, cells := 0, slots := 0, locals := 0 }) (va_Pc [.ref (L 0)] (mP D L K w)) (qV D L 12 (cM L K) w9) 0 0 (gA L 12) := by
  refine g_met (cc := cX4_keepAct) (nL := 2) (ret := none) (by decide) rfl (Nat.le_of_ble_eq_true rfl) (fun p e s m below meth c ls C0 hP hl => ?_)
  exact wm_keepAct_0 hJ C0 hP.2.1 hP.2.2 w _ _ ls hP.1 va_S.rf (lv_sub hl [0] rfl) hf
theorem dX4_far_0 : decode cX4_far 0 = .ok (.aload_n 0, 1) := by decide +kernel
theorem dX4_far_1 : decode cX4_far 1 = .ok (.getfield 7, 3) := by decide +kernel
theorem dX4_far_4 : decode cX4_far 4 = .ok (.iload_n 1, 1) := by decide +kernel
theorem dX4_far_5 : decode cX4_far 5 = .ok (.iaload, 1) := by decide +kernel
theorem dX4_far_6 : decode cX4_far 6 = .ok (.aload_n 0, 1) := by decide +kernel
theorem dX4_far_7 : decode cX4_far 7 = .ok (.getfield 77, 3) := by decide +kernel
theorem dX4_far_10 : decode cX4_far 10 = .ok (.if_icmp .ge 17, 3) := by decide +kernel
theorem dX4_far_13 : decode cX4_far 13 = .ok (.aload_n 0, 1) := by decide +kernel
theorem dX4_far_14 : decode cX4_far 14 = .ok (.getfield 77, 3) := by decide +kernel
theorem dX4_far_17 : decode cX4_far 17 = .ok (.aload_n 0, 1) := by decide +kernel
theorem dX4_far_18 : decode cX4_far 18 = .ok (.getfield 7, 3) := by decide +kernel
theorem dX4_far_21 : decode cX4_far 21 = .ok (.iload_n 1, 1) := by decide +kernel
theorem dX4_far_22 : decode cX4_far 22 = .ok (.iaload, 1) := by decide +kernel
theorem dX4_far_23 : decode cX4_far 23 = .ok (.isub, 1) := by decide +kernel
theorem dX4_far_24 : decode cX4_far 24 = .ok (.goto 14, 3) := by decide +kernel
theorem dX4_far_27 : decode cX4_far 27 = .ok (.aload_n 0, 1) := by decide +kernel
theorem dX4_far_28 : decode cX4_far 28 = .ok (.getfield 7, 3) := by decide +kernel
theorem dX4_far_31 : decode cX4_far 31 = .ok (.iload_n 1, 1) := by decide +kernel
theorem dX4_far_32 : decode cX4_far 32 = .ok (.iaload, 1) := by decide +kernel
theorem dX4_far_33 : decode cX4_far 33 = .ok (.aload_n 0, 1) := by decide +kernel
theorem dX4_far_34 : decode cX4_far 34 = .ok (.getfield 77, 3) := by decide +kernel
theorem dX4_far_37 : decode cX4_far 37 = .ok (.isub, 1) := by decide +kernel
theorem dX4_far_38 : decode cX4_far 38 = .ok (.ireturn, 1) := by decide +kernel
set_option maxRecDepth 20000 in
theorem hiX4_far_X4 : ∀ w ∈ u_ws RX4 TX4 24, w ∈ wsX4_far := by decide +kernel
set_option maxHeartbeats 4000000 in
set_option maxRecDepth 100000 in
theorem wm_far_0 {p : Program} {l : Launch} {e : Env} {s : State} {m : MethodId} {args : Array Value} {below : List Frame} {meth : Method} {c : Code} {D : va_G} {L : Nat → Nat} {K : Nat → ClassId} (hJ : gj L 12) (C0 : gC cX4_far 2 (some .int) wsX4_far RX4 p s m args meth c) (hK : va_K D vwCl (tyG K) s) (hE : eM s) {w9 : St} {rs : Int32} : ∀ (x1 : Int32) (w : St) (H : Heap) (locs : List Loc) (ls : Array Slot), va_P D vwCl (gl L 12 (cM L K w)) H → va_S (gA L 12) s.heap H locs → lv_has ls 2 [(0, .ref (L 0)), (1, .int x1)] → fm_far x1 w = some (rs, w9) → W p l e { frames := 0, cells := 0, slots := 0, locals := 0 } s m args below meth c H locs 0 0 (MQ below (qI D L 12 (cM L K) rs w9) args s 0 0 (gA L 12)) (F0 m 0 ls []) := by
  obtain ⟨hx, hb, hr, hml, hown, hts, hlk⟩ := id C0
  intro x1 w H locs ls hw hS hl hf
  unfold fm_far at hf
  refine lv_aload_n hx hb dX4_far_0 rfl (lv_at hl 0 rfl) ?_
  refine z_get (v := .ref (L 1)) hx hb hts hiX4_far_X4 hown hK hw (k := 0) (by decide) ((fun w => rfl) _) rfl 2 (by decide) (hts (.fieldLink RX4 7 "OneSentenceModel" "home" "[I") (by decide +kernel)) rfl dX4_far_1 ?_
  refine lv_iload_n hx hb dX4_far_4 rfl (lv_at hl 1 rfl) ?_
  obtain ⟨v5, h5, hf⟩ := bd_e hf
  refine z_iald hx hb hK hw 0 (k := 1) (by decide) ((fun w => rfl) _) rfl h5 dX4_far_5 ?_
  refine lv_aload_n hx hb dX4_far_6 rfl (lv_at hl 0 rfl) ?_
  refine z_get (v := .int (w.1 0 1)) hx hb hts hiX4_far_X4 hown hK hw (k := 0) (by decide) ((fun w => rfl) _) rfl 1 (by decide) (hts (.fieldLink RX4 77 "OneSentenceModel" "market" "I") (by decide +kernel)) rfl dX4_far_7 ?_
  refine lv_icmp_ge (tgt := 27) hx hb dX4_far_10 (by decide) (fun c10 => ?_) (fun c10 => ?_)
  · replace hf := if_t hf c10
    refine lv_aload_n hx hb dX4_far_27 rfl (lv_at hl 0 rfl) ?_
    refine z_get (v := .ref (L 1)) hx hb hts hiX4_far_X4 hown hK hw (k := 0) (by decide) ((fun w => rfl) _) rfl 2 (by decide) (hts (.fieldLink RX4 7 "OneSentenceModel" "home" "[I") (by decide +kernel)) rfl dX4_far_28 ?_
    refine lv_iload_n hx hb dX4_far_31 rfl (lv_at hl 1 rfl) ?_
    obtain ⟨v32, h32, hf⟩ := bd_e hf
    refine z_iald hx hb hK hw 0 (k := 1) (by decide) ((fun w => rfl) _) rfl h32 dX4_far_32 ?_
    refine lv_aload_n hx hb dX4_far_33 rfl (lv_at hl 0 rfl) ?_
    refine z_get (v := .int (w.1 0 1)) hx hb hts hiX4_far_X4 hown hK hw (k := 0) (by decide) ((fun w => rfl) _) rfl 1 (by decide) (hts (.fieldLink RX4 77 "OneSentenceModel" "market" "I") (by decide +kernel)) rfl dX4_far_34 ?_
    refine lv_isub hx hb dX4_far_37 ?_
    exact z_iret hx hb hr hlk hw hS hf dX4_far_38
  · replace hf := if_f hf c10
    refine lv_aload_n hx hb dX4_far_13 rfl (lv_at hl 0 rfl) ?_
    refine z_get (v := .int (w.1 0 1)) hx hb hts hiX4_far_X4 hown hK hw (k := 0) (by decide) ((fun w => rfl) _) rfl 1 (by decide) (hts (.fieldLink RX4 77 "OneSentenceModel" "market" "I") (by decide +kernel)) rfl dX4_far_14 ?_
    refine lv_aload_n hx hb dX4_far_17 rfl (lv_at hl 0 rfl) ?_
    refine z_get (v := .ref (L 1)) hx hb hts hiX4_far_X4 hown hK hw (k := 0) (by decide) ((fun w => rfl) _) rfl 2 (by decide) (hts (.fieldLink RX4 7 "OneSentenceModel" "home" "[I") (by decide +kernel)) rfl dX4_far_18 ?_
    refine lv_iload_n hx hb dX4_far_21 rfl (lv_at hl 1 rfl) ?_
    obtain ⟨v22, h22, hf⟩ := bd_e hf
    refine z_iald hx hb hK hw 0 (k := 1) (by decide) ((fun w => rfl) _) rfl h22 dX4_far_22 ?_
    refine lv_isub hx hb dX4_far_23 ?_
    refine lv_goto (tgt := 38) hx hb dX4_far_24 (by decide) ?_
    exact z_iret hx hb hr hlk hw hS hf dX4_far_38
set_option maxHeartbeats 4000000 in
set_option maxRecDepth 100000 in
theorem km_far (l : Launch) {D : va_G} {L : Nat → Nat} {K : Nat → ClassId} (hJ : gj L 12) (x1 : Int32) (w : St) {w9 : St} {rs : Int32} (hf : fm_far x1 w = some (rs, w9)) : Met l yX4_far wsX4_far ({ frames := 0, cells := 0, slots := 0, locals := 0 }) (va_Pc [.ref (L 0), .int x1] (mP D L K w)) (qI D L 12 (cM L K) rs w9) 0 0 (gA L 12) := by
  refine g_met (cc := cX4_far) (nL := 2) (ret := (some .int)) (by decide) rfl (Nat.le_of_ble_eq_true rfl) (fun p e s m below meth c ls C0 hP hl => ?_)
  exact wm_far_0 hJ C0 hP.2.1 hP.2.2 _ w _ _ ls hP.1 va_S.rf (lv_sub hl [0, 1] rfl) hf
set_option maxRecDepth 20000 in
theorem ggX4_fetch_X4_isPerson : GoodIn wsX4_fetch wsX4_isPerson := goodIn_r _ [6, 7, 8, 9, 5, 10, 27, 28, 29, 30, 31, 32, 33, 34, 35, 36, 37, 38, 39, 40, 41, 42, 43, 44, 45, 46, 47, 48, 49, 50] (by decide +kernel) (by decide +kernel)
set_option maxRecDepth 20000 in
theorem gX4_fetch_X4_isPerson : GoodIn wsX4_fetch (wsV RX4 95 RX4 yX4_isPerson wsX4_isPerson) := goodIn_app (goodIn_of _ (by decide +kernel)) ggX4_fetch_X4_isPerson
set_option maxRecDepth 20000 in
theorem ggX4_fetch_X4_has : GoodIn wsX4_fetch wsX4_has := goodIn_r _ [13] (by decide +kernel) (by decide +kernel)
set_option maxRecDepth 20000 in
theorem gX4_fetch_X4_has : GoodIn wsX4_fetch (va_wsS RX4 83 yX4_has wsX4_has) := goodIn_app (goodIn_of _ (by decide +kernel)) ggX4_fetch_X4_has
set_option maxRecDepth 20000 in
theorem ggX4_fetch_X4_keepAct : GoodIn wsX4_fetch wsX4_keepAct := goodIn_r _ [17, 18, 19, 1, 20, 27, 28, 29, 30, 31, 32, 33, 34, 35, 36, 37, 38, 39, 40, 41, 42, 43, 44, 45, 46, 47, 48, 49, 50] (by decide +kernel) (by decide +kernel)
set_option maxRecDepth 20000 in
theorem gX4_fetch_X4_keepAct : GoodIn wsX4_fetch (wsV RX4 105 RX4 yX4_keepAct wsX4_keepAct) := goodIn_app (goodIn_of _ (by decide +kernel)) ggX4_fetch_X4_keepAct
set_option maxRecDepth 20000 in
theorem ggX4_fetch_X4_far : GoodIn wsX4_fetch wsX4_far := goodIn_r _ [24, 25, 26, 27, 28, 29, 30, 31, 32, 33, 34, 35, 36, 37, 38, 39, 40, 41, 42, 43, 44, 45, 46, 47, 48, 49, 50] (by decide +kernel) (by decide +kernel)
set_option maxRecDepth 20000 in
theorem gX4_fetch_X4_far : GoodIn wsX4_fetch (wsV RX4 108 RX4 yX4_far wsX4_far) := goodIn_app (goodIn_of _ (by decide +kernel)) ggX4_fetch_X4_far
theorem dX4_fetch_0 : decode cX4_fetch 0 = .ok (.aload_n 0, 1) := by decide +kernel
theorem dX4_fetch_1 : decode cX4_fetch 1 = .ok (.iload_n 1, 1) := by decide +kernel
theorem dX4_fetch_2 : decode cX4_fetch 2 = .ok (.invokevirtual 95, 3) := by decide +kernel
theorem dX4_fetch_5 : decode cX4_fetch 5 = .ok (.ifCond .ne 5, 3) := by decide +kernel
theorem dX4_fetch_8 : decode cX4_fetch 8 = .ok (.iconst (-1), 1) := by decide +kernel
theorem dX4_fetch_9 : decode cX4_fetch 9 = .ok (.ireturn, 1) := by decide +kernel
theorem dX4_fetch_10 : decode cX4_fetch 10 = .ok (.aload_n 0, 1) := by decide +kernel
theorem dX4_fetch_11 : decode cX4_fetch 11 = .ok (.getfield 16, 3) := by decide +kernel
theorem dX4_fetch_14 : decode cX4_fetch 14 = .ok (.iconst 0, 1) := by decide +kernel
theorem dX4_fetch_15 : decode cX4_fetch 15 = .ok (.iaload, 1) := by decide +kernel
theorem dX4_fetch_16 : decode cX4_fetch 16 = .ok (.iload_n 1, 1) := by decide +kernel
theorem dX4_fetch_17 : decode cX4_fetch 17 = .ok (.invokestatic 83, 3) := by decide +kernel
theorem dX4_fetch_20 : decode cX4_fetch 20 = .ok (.ifCond .eq 6, 3) := by decide +kernel
theorem dX4_fetch_23 : decode cX4_fetch 23 = .ok (.bipush (-3), 2) := by decide +kernel
theorem dX4_fetch_25 : decode cX4_fetch 25 = .ok (.ireturn, 1) := by decide +kernel
theorem dX4_fetch_26 : decode cX4_fetch 26 = .ok (.aload_n 0, 1) := by decide +kernel
theorem dX4_fetch_27 : decode cX4_fetch 27 = .ok (.invokevirtual 105, 3) := by decide +kernel
theorem dX4_fetch_30 : decode cX4_fetch 30 = .ok (.aload_n 0, 1) := by decide +kernel
theorem dX4_fetch_31 : decode cX4_fetch 31 = .ok (.getfield 16, 3) := by decide +kernel
theorem dX4_fetch_34 : decode cX4_fetch 34 = .ok (.iconst 0, 1) := by decide +kernel
theorem dX4_fetch_35 : decode cX4_fetch 35 = .ok (.dup2, 1) := by decide +kernel
theorem dX4_fetch_36 : decode cX4_fetch 36 = .ok (.iaload, 1) := by decide +kernel
theorem dX4_fetch_37 : decode cX4_fetch 37 = .ok (.iconst 1, 1) := by decide +kernel
theorem dX4_fetch_38 : decode cX4_fetch 38 = .ok (.iload_n 1, 1) := by decide +kernel
theorem dX4_fetch_39 : decode cX4_fetch 39 = .ok (.ishl, 1) := by decide +kernel
theorem dX4_fetch_40 : decode cX4_fetch 40 = .ok (.ior, 1) := by decide +kernel
theorem dX4_fetch_41 : decode cX4_fetch 41 = .ok (.iastore, 1) := by decide +kernel
theorem dX4_fetch_42 : decode cX4_fetch 42 = .ok (.aload_n 0, 1) := by decide +kernel
theorem dX4_fetch_43 : decode cX4_fetch 43 = .ok (.getfield 16, 3) := by decide +kernel
theorem dX4_fetch_46 : decode cX4_fetch 46 = .ok (.bipush 26, 2) := by decide +kernel
theorem dX4_fetch_48 : decode cX4_fetch 48 = .ok (.dup2, 1) := by decide +kernel
theorem dX4_fetch_49 : decode cX4_fetch 49 = .ok (.iaload, 1) := by decide +kernel
theorem dX4_fetch_50 : decode cX4_fetch 50 = .ok (.aload_n 0, 1) := by decide +kernel
theorem dX4_fetch_51 : decode cX4_fetch 51 = .ok (.iload_n 1, 1) := by decide +kernel
theorem dX4_fetch_52 : decode cX4_fetch 52 = .ok (.invokevirtual 108, 3) := by decide +kernel
theorem dX4_fetch_55 : decode cX4_fetch 55 = .ok (.iadd, 1) := by decide +kernel
theorem dX4_fetch_56 : decode cX4_fetch 56 = .ok (.iastore, 1) := by decide +kernel
theorem dX4_fetch_57 : decode cX4_fetch 57 = .ok (.aload_n 0, 1) := by decide +kernel
theorem dX4_fetch_58 : decode cX4_fetch 58 = .ok (.getfield 16, 3) := by decide +kernel
theorem dX4_fetch_61 : decode cX4_fetch 61 = .ok (.bipush 26, 2) := by decide +kernel
theorem dX4_fetch_63 : decode cX4_fetch 63 = .ok (.iaload, 1) := by decide +kernel
theorem dX4_fetch_64 : decode cX4_fetch 64 = .ok (.ireturn, 1) := by decide +kernel
set_option maxRecDepth 20000 in
theorem hiX4_fetch_X4 : ∀ w ∈ u_ws RX4 TX4 24, w ∈ wsX4_fetch := by decide +kernel
set_option maxHeartbeats 4000000 in
set_option maxRecDepth 100000 in
theorem wm_fetch_0 {p : Program} {l : Launch} {e : Env} {s : State} {m : MethodId} {args : Array Value} {below : List Frame} {meth : Method} {c : Code} {D : va_G} {L : Nat → Nat} {K : Nat → ClassId} (hJ : gj L 12) (C0 : gC cX4_fetch 2 (some .int) wsX4_fetch RX4 p s m args meth c) (hK : va_K D vwCl (tyG K) s) (hE : eM s) {w9 : St} {rs : Int32} : ∀ (x1 : Int32) (w : St) (H : Heap) (locs : List Loc) (ls : Array Slot), va_P D vwCl (gl L 12 (cM L K w)) H → va_S (gA L 12) s.heap H locs → lv_has ls 2 [(0, .ref (L 0)), (1, .int x1)] → fm_fetch x1 w = some (rs, w9) → W p l e { frames := 2, cells := 0, slots := 0, locals := 46 } s m args below meth c H locs 0 0 (MQ below (qI D L 12 (cM L K) rs w9) args s 0 0 (gA L 12)) (F0 m 0 ls []) := by
  obtain ⟨hx, hb, hr, hml, hown, hts, hlk⟩ := id C0
  intro x1 w H locs ls hw hS hl hf
  unfold fm_fetch at hf
  refine lv_aload_n hx hb dX4_fetch_0 rfl (lv_at hl 0 rfl) ?_
  refine lv_iload_n hx hb dX4_fetch_1 rfl (lv_at hl 1 rfl) ?_
  obtain ⟨q2, h2, hf⟩ := bd_e hf
  refine z_calli (va_runV (As := [.int x1]) (rest := []) ⟨hx, hb, hml, hown, hts⟩ (km_isPerson l (D := D) (K := K) hJ x1 w  h2) (cwV 1 hts gX4_fetch_X4_isPerson rfl rfl rfl (by decide +kernel) ⟨Nat.le_of_ble_eq_true rfl, Nat.le_of_ble_eq_true rfl⟩) (z_preV eM_ok hK hE hw hS (by decide) ((fun w => rfl) _) (T := TX4) (M := 24) rfl) rfl rfl hl.1 rfl (lv_room (Nat.le_of_ble_eq_true rfl)) dX4_fetch_2 ⟨Nat.le_of_ble_eq_true rfl, Nat.le_of_ble_eq_true rfl⟩) hS (fun H locs hw hS => ?_)
  refine lv_if_ne (tgt := 10) hx hb dX4_fetch_5 (by decide) (fun c5 => ?_) (fun c5 => ?_)
  · replace hf := if_f hf c5
    refine lv_aload_n hx hb dX4_fetch_10 rfl (lv_at hl 0 rfl) ?_
    refine z_get (v := .ref (L 3)) hx hb hts hiX4_fetch_X4 hown hK hw (k := 0) (by decide) ((fun w => rfl) _) rfl 4 (by decide) (hts (.fieldLink RX4 16 "OneSentenceModel" "now" "[I") (by decide +kernel)) rfl dX4_fetch_11 ?_
    refine lv_iconst (v := 0) hx hb dX4_fetch_14 (by decide) ?_
    obtain ⟨v15, h15, hf⟩ := bd_e hf
    refine z_iald hx hb hK hw 0 (k := 3) (by decide) ((fun w => rfl) _) rfl h15 dX4_fetch_15 ?_
    refine lv_iload_n hx hb dX4_fetch_16 rfl (lv_at hl 1 rfl) ?_
    obtain ⟨v17, h17, hf⟩ := bd_e hf
    refine z_calls (va_runS (As := [.int v15, .int x1]) (rest := []) ⟨hx, hb, hml, hown, hts⟩ (km_has l v15 x1 h17) (va_cwS 2 hts gX4_fetch_X4_has rfl rfl rfl (by decide +kernel) ⟨Nat.le_of_ble_eq_true rfl, Nat.le_of_ble_eq_true rfl⟩) z_preT rfl rfl hl.1 rfl (lv_room (Nat.le_of_ble_eq_true rfl)) dX4_fetch_17 ⟨Nat.le_of_ble_eq_true rfl, Nat.le_of_ble_eq_true rfl⟩) ?_
    refine lv_if_eq (tgt := 26) hx hb dX4_fetch_20 (by decide) (fun c20 => ?_) (fun c20 => ?_)
    · replace hf := if_t hf c20
      refine lv_aload_n hx hb dX4_fetch_26 rfl (lv_at hl 0 rfl) ?_
      obtain ⟨w27, h27, hf⟩ := bd_e hf
      refine z_callv (va_runV (As := []) (rest := []) ⟨hx, hb, hml, hown, hts⟩ (km_keepAct l (D := D) (K := K) hJ (q2.2)  h27) (cwV 0 hts gX4_fetch_X4_keepAct rfl rfl rfl (by decide +kernel) ⟨Nat.le_of_ble_eq_true rfl, Nat.le_of_ble_eq_true rfl⟩) (z_preV eM_ok hK hE hw hS (by decide) ((fun w => rfl) _) (T := TX4) (M := 24) rfl) rfl rfl hl.1 rfl (lv_room (Nat.le_of_ble_eq_true rfl)) dX4_fetch_27 ⟨Nat.le_of_ble_eq_true rfl, Nat.le_of_ble_eq_true rfl⟩) hS (fun H locs hw hS => ?_)
      refine lv_aload_n hx hb dX4_fetch_30 rfl (lv_at hl 0 rfl) ?_
      refine z_get (v := .ref (L 3)) hx hb hts hiX4_fetch_X4 hown hK hw (k := 0) (by decide) ((fun w => rfl) _) rfl 4 (by decide) (hts (.fieldLink RX4 16 "OneSentenceModel" "now" "[I") (by decide +kernel)) rfl dX4_fetch_31 ?_
      refine lv_iconst (v := 0) hx hb dX4_fetch_34 (by decide) ?_
      refine lv_dup2_11 hx hb dX4_fetch_35 rfl rfl ?_
      obtain ⟨v36, h36, hf⟩ := bd_e hf
      refine z_iald hx hb hK hw 0 (k := 3) (by decide) ((fun w => rfl) _) rfl h36 dX4_fetch_36 ?_
      refine lv_iconst (v := 1) hx hb dX4_fetch_37 (by decide) ?_
      refine lv_iload_n hx hb dX4_fetch_38 rfl (lv_at hl 1 rfl) ?_
      refine lv_ishl hx hb dX4_fetch_39 ?_
      refine lv_ior hx hb dX4_fetch_40 ?_
      obtain ⟨w41, h41, hf⟩ := bd_e hf
      refine z_iast hx hb hK hJ hw hS 0 (k := 3) (by decide) cM_ne (fun w => rfl) rfl h41 dX4_fetch_41 (fun H locs hw hS => ?_)
      refine lv_aload_n hx hb dX4_fetch_42 rfl (lv_at hl 0 rfl) ?_
      refine z_get (v := .ref (L 3)) hx hb hts hiX4_fetch_X4 hown hK hw (k := 0) (by decide) ((fun w => rfl) _) rfl 4 (by decide) (hts (.fieldLink RX4 16 "OneSentenceModel" "now" "[I") (by decide +kernel)) rfl dX4_fetch_43 ?_
      refine lv_bipush (v := 26) hx hb dX4_fetch_46 (by decide) ?_
      refine lv_dup2_11 hx hb dX4_fetch_48 rfl rfl ?_
      obtain ⟨v49, h49, hf⟩ := bd_e hf
      refine z_iald hx hb hK hw 0 (k := 3) (by decide) ((fun w => rfl) _) rfl h49 dX4_fetch_49 ?_
      refine lv_aload_n hx hb dX4_fetch_50 rfl (lv_at hl 0 rfl) ?_
      refine lv_iload_n hx hb dX4_fetch_51 rfl (lv_at hl 1 rfl) ?_
      obtain ⟨q52, h52, hf⟩ := bd_e hf
      refine z_calli (va_runV (As := [.int x1]) (rest := [.int v49, .int 26, .ref (L 3)]) ⟨hx, hb, hml, hown, hts⟩ (km_far l (D := D) (K := K) hJ x1 w41  h52) (cwV 1 hts gX4_fetch_X4_far rfl rfl rfl (by decide +kernel) ⟨Nat.le_of_ble_eq_true rfl, Nat.le_of_ble_eq_true rfl⟩) (z_preV eM_ok hK hE hw hS (by decide) ((fun w => rfl) _) (T := TX4) (M := 24) rfl) rfl rfl hl.1 rfl (lv_room (Nat.le_of_ble_eq_true rfl)) dX4_fetch_52 ⟨Nat.le_of_ble_eq_true rfl, Nat.le_of_ble_eq_true rfl⟩) hS (fun H locs hw hS => ?_)
      refine lv_iadd hx hb dX4_fetch_55 ?_
      obtain ⟨w56, h56, hf⟩ := bd_e hf
      refine z_iast hx hb hK hJ hw hS 0 (k := 3) (by decide) cM_ne (fun w => rfl) rfl h56 dX4_fetch_56 (fun H locs hw hS => ?_)
      refine lv_aload_n hx hb dX4_fetch_57 rfl (lv_at hl 0 rfl) ?_
      refine z_get (v := .ref (L 3)) hx hb hts hiX4_fetch_X4 hown hK hw (k := 0) (by decide) ((fun w => rfl) _) rfl 4 (by decide) (hts (.fieldLink RX4 16 "OneSentenceModel" "now" "[I") (by decide +kernel)) rfl dX4_fetch_58 ?_
      refine lv_bipush (v := 26) hx hb dX4_fetch_61 (by decide) ?_
      obtain ⟨v63, h63, hf⟩ := bd_e hf
      refine z_iald hx hb hK hw 0 (k := 3) (by decide) ((fun w => rfl) _) rfl h63 dX4_fetch_63 ?_
      exact z_iret hx hb hr hlk hw hS hf dX4_fetch_64
    · replace hf := if_f hf c20
      refine lv_bipush (v := (-3)) hx hb dX4_fetch_23 (by decide) ?_
      exact z_iret hx hb hr hlk hw hS hf dX4_fetch_25
  · replace hf := if_t hf c5
    refine lv_iconst (v := (-1)) hx hb dX4_fetch_8 (by decide) ?_
    exact z_iret hx hb hr hlk hw hS hf dX4_fetch_9
set_option maxHeartbeats 4000000 in
set_option maxRecDepth 100000 in
theorem km_fetch (l : Launch) {D : va_G} {L : Nat → Nat} {K : Nat → ClassId} (hJ : gj L 12) (x1 : Int32) (w : St) {w9 : St} {rs : Int32} (hf : fm_fetch x1 w = some (rs, w9)) : Met l yX4_fetch wsX4_fetch ({ frames := 2, cells := 0, slots := 0, locals := 46 }) (va_Pc [.ref (L 0), .int x1] (mP D L K w)) (qI D L 12 (cM L K) rs w9) 0 0 (gA L 12) := by
  refine g_met (cc := cX4_fetch) (nL := 2) (ret := (some .int)) (by decide) rfl (Nat.le_of_ble_eq_true rfl) (fun p e s m below meth c ls C0 hP hl => ?_)
  exact wm_fetch_0 hJ C0 hP.2.1 hP.2.2 _ w _ _ ls hP.1 va_S.rf (lv_sub hl [0, 1] rfl) hf
set_option maxRecDepth 20000 in
theorem ggX4_send_X4_isPerson : GoodIn wsX4_send wsX4_isPerson := goodIn_r _ [8, 9, 10, 11, 7, 12, 26, 27, 28, 29, 30, 31, 32, 33, 34, 35, 36, 37, 38, 39, 40, 41, 42, 43, 44, 45, 46, 47, 48, 49] (by decide +kernel) (by decide +kernel)
set_option maxRecDepth 20000 in
theorem gX4_send_X4_isPerson : GoodIn wsX4_send (wsV RX4 95 RX4 yX4_isPerson wsX4_isPerson) := goodIn_app (goodIn_of _ (by decide +kernel)) ggX4_send_X4_isPerson
set_option maxRecDepth 20000 in
theorem ggX4_send_X4_has : GoodIn wsX4_send wsX4_has := goodIn_r _ [15] (by decide +kernel) (by decide +kernel)
set_option maxRecDepth 20000 in
theorem gX4_send_X4_has : GoodIn wsX4_send (va_wsS RX4 83 yX4_has wsX4_has) := goodIn_app (goodIn_of _ (by decide +kernel)) ggX4_send_X4_has
set_option maxRecDepth 20000 in
theorem ggX4_send_X4_keepAct : GoodIn wsX4_send wsX4_keepAct := goodIn_r _ [19, 20, 21, 1, 22, 26, 27, 28, 29, 30, 31, 32, 33, 34, 35, 36, 37, 38, 39, 40, 41, 42, 43, 44, 45, 46, 47, 48, 49] (by decide +kernel) (by decide +kernel)
set_option maxRecDepth 20000 in
theorem gX4_send_X4_keepAct : GoodIn wsX4_send (wsV RX4 105 RX4 yX4_keepAct wsX4_keepAct) := goodIn_app (goodIn_of _ (by decide +kernel)) ggX4_send_X4_keepAct
set_option maxRecDepth 20000 in
theorem ggX4_send_X4_ones : GoodIn wsX4_send wsX4_ones := goodIn_r _ [25] (by decide +kernel) (by decide +kernel)
set_option maxRecDepth 20000 in
theorem gX4_send_X4_ones : GoodIn wsX4_send (va_wsS RX4 111 yX4_ones wsX4_ones) := goodIn_app (goodIn_of _ (by decide +kernel)) ggX4_send_X4_ones
theorem dX4_send_0 : decode cX4_send 0 = .ok (.aload_n 0, 1) := by decide +kernel
theorem dX4_send_1 : decode cX4_send 1 = .ok (.iload_n 1, 1) := by decide +kernel
theorem dX4_send_2 : decode cX4_send 2 = .ok (.invokevirtual 95, 3) := by decide +kernel
theorem dX4_send_5 : decode cX4_send 5 = .ok (.ifCond .ne 5, 3) := by decide +kernel
theorem dX4_send_8 : decode cX4_send 8 = .ok (.iconst (-1), 1) := by decide +kernel
theorem dX4_send_9 : decode cX4_send 9 = .ok (.ireturn, 1) := by decide +kernel
theorem dX4_send_10 : decode cX4_send 10 = .ok (.aload_n 0, 1) := by decide +kernel
theorem dX4_send_11 : decode cX4_send 11 = .ok (.getfield 16, 3) := by decide +kernel
theorem dX4_send_14 : decode cX4_send 14 = .ok (.iconst 0, 1) := by decide +kernel
theorem dX4_send_15 : decode cX4_send 15 = .ok (.iaload, 1) := by decide +kernel
theorem dX4_send_16 : decode cX4_send 16 = .ok (.iload_n 1, 1) := by decide +kernel
theorem dX4_send_17 : decode cX4_send 17 = .ok (.invokestatic 83, 3) := by decide +kernel
theorem dX4_send_20 : decode cX4_send 20 = .ok (.ifCond .eq 16, 3) := by decide +kernel
theorem dX4_send_23 : decode cX4_send 23 = .ok (.aload_n 0, 1) := by decide +kernel
theorem dX4_send_24 : decode cX4_send 24 = .ok (.getfield 7, 3) := by decide +kernel
theorem dX4_send_27 : decode cX4_send 27 = .ok (.iload_n 1, 1) := by decide +kernel
theorem dX4_send_28 : decode cX4_send 28 = .ok (.iaload, 1) := by decide +kernel
theorem dX4_send_29 : decode cX4_send 29 = .ok (.aload_n 0, 1) := by decide +kernel
theorem dX4_send_30 : decode cX4_send 30 = .ok (.getfield 77, 3) := by decide +kernel
theorem dX4_send_33 : decode cX4_send 33 = .ok (.if_icmp .ne 6, 3) := by decide +kernel
theorem dX4_send_36 : decode cX4_send 36 = .ok (.bipush (-3), 2) := by decide +kernel
theorem dX4_send_38 : decode cX4_send 38 = .ok (.ireturn, 1) := by decide +kernel
theorem dX4_send_39 : decode cX4_send 39 = .ok (.aload_n 0, 1) := by decide +kernel
theorem dX4_send_40 : decode cX4_send 40 = .ok (.invokevirtual 105, 3) := by decide +kernel
theorem dX4_send_43 : decode cX4_send 43 = .ok (.aload_n 0, 1) := by decide +kernel
theorem dX4_send_44 : decode cX4_send 44 = .ok (.getfield 16, 3) := by decide +kernel
theorem dX4_send_47 : decode cX4_send 47 = .ok (.iconst 0, 1) := by decide +kernel
theorem dX4_send_48 : decode cX4_send 48 = .ok (.dup2, 1) := by decide +kernel
theorem dX4_send_49 : decode cX4_send 49 = .ok (.iaload, 1) := by decide +kernel
theorem dX4_send_50 : decode cX4_send 50 = .ok (.iconst 1, 1) := by decide +kernel
theorem dX4_send_51 : decode cX4_send 51 = .ok (.iload_n 1, 1) := by decide +kernel
theorem dX4_send_52 : decode cX4_send 52 = .ok (.ishl, 1) := by decide +kernel
theorem dX4_send_53 : decode cX4_send 53 = .ok (.iconst (-1), 1) := by decide +kernel
theorem dX4_send_54 : decode cX4_send 54 = .ok (.ixor, 1) := by decide +kernel
theorem dX4_send_55 : decode cX4_send 55 = .ok (.iand, 1) := by decide +kernel
theorem dX4_send_56 : decode cX4_send 56 = .ok (.iastore, 1) := by decide +kernel
theorem dX4_send_57 : decode cX4_send 57 = .ok (.aload_n 0, 1) := by decide +kernel
theorem dX4_send_58 : decode cX4_send 58 = .ok (.getfield 16, 3) := by decide +kernel
theorem dX4_send_61 : decode cX4_send 61 = .ok (.iconst 0, 1) := by decide +kernel
theorem dX4_send_62 : decode cX4_send 62 = .ok (.iaload, 1) := by decide +kernel
theorem dX4_send_63 : decode cX4_send 63 = .ok (.invokestatic 111, 3) := by decide +kernel
theorem dX4_send_66 : decode cX4_send 66 = .ok (.ireturn, 1) := by decide +kernel
set_option maxRecDepth 20000 in
theorem hiX4_send_X4 : ∀ w ∈ u_ws RX4 TX4 24, w ∈ wsX4_send := by decide +kernel
set_option maxHeartbeats 4000000 in
set_option maxRecDepth 100000 in
theorem wm_send_0 {p : Program} {l : Launch} {e : Env} {s : State} {m : MethodId} {args : Array Value} {below : List Frame} {meth : Method} {c : Code} {D : va_G} {L : Nat → Nat} {K : Nat → ClassId} (hJ : gj L 12) (C0 : gC cX4_send 2 (some .int) wsX4_send RX4 p s m args meth c) (hK : va_K D vwCl (tyG K) s) (hE : eM s) {w9 : St} {rs : Int32} : ∀ (x1 : Int32) (w : St) (H : Heap) (locs : List Loc) (ls : Array Slot), va_P D vwCl (gl L 12 (cM L K w)) H → va_S (gA L 12) s.heap H locs → lv_has ls 2 [(0, .ref (L 0)), (1, .int x1)] → fm_send x1 w = some (rs, w9) → W p l e { frames := 2, cells := 0, slots := 0, locals := 46 } s m args below meth c H locs 0 0 (MQ below (qI D L 12 (cM L K) rs w9) args s 0 0 (gA L 12)) (F0 m 0 ls []) := by
  obtain ⟨hx, hb, hr, hml, hown, hts, hlk⟩ := id C0
  intro x1 w H locs ls hw hS hl hf
  unfold fm_send at hf
  refine lv_aload_n hx hb dX4_send_0 rfl (lv_at hl 0 rfl) ?_
  refine lv_iload_n hx hb dX4_send_1 rfl (lv_at hl 1 rfl) ?_
  obtain ⟨q2, h2, hf⟩ := bd_e hf
  refine z_calli (va_runV (As := [.int x1]) (rest := []) ⟨hx, hb, hml, hown, hts⟩ (km_isPerson l (D := D) (K := K) hJ x1 w  h2) (cwV 1 hts gX4_send_X4_isPerson rfl rfl rfl (by decide +kernel) ⟨Nat.le_of_ble_eq_true rfl, Nat.le_of_ble_eq_true rfl⟩) (z_preV eM_ok hK hE hw hS (by decide) ((fun w => rfl) _) (T := TX4) (M := 24) rfl) rfl rfl hl.1 rfl (lv_room (Nat.le_of_ble_eq_true rfl)) dX4_send_2 ⟨Nat.le_of_ble_eq_true rfl, Nat.le_of_ble_eq_true rfl⟩) hS (fun H locs hw hS => ?_)
  refine lv_if_ne (tgt := 10) hx hb dX4_send_5 (by decide) (fun c5 => ?_) (fun c5 => ?_)
  · replace hf := if_f hf c5
    refine lv_aload_n hx hb dX4_send_10 rfl (lv_at hl 0 rfl) ?_
    refine z_get (v := .ref (L 3)) hx hb hts hiX4_send_X4 hown hK hw (k := 0) (by decide) ((fun w => rfl) _) rfl 4 (by decide) (hts (.fieldLink RX4 16 "OneSentenceModel" "now" "[I") (by decide +kernel)) rfl dX4_send_11 ?_
    refine lv_iconst (v := 0) hx hb dX4_send_14 (by decide) ?_
    obtain ⟨v15, h15, hf⟩ := bd_e hf
    refine z_iald hx hb hK hw 0 (k := 3) (by decide) ((fun w => rfl) _) rfl h15 dX4_send_15 ?_
    refine lv_iload_n hx hb dX4_send_16 rfl (lv_at hl 1 rfl) ?_
    obtain ⟨v17, h17, hf⟩ := bd_e hf
    refine z_calls (va_runS (As := [.int v15, .int x1]) (rest := []) ⟨hx, hb, hml, hown, hts⟩ (km_has l v15 x1 h17) (va_cwS 2 hts gX4_send_X4_has rfl rfl rfl (by decide +kernel) ⟨Nat.le_of_ble_eq_true rfl, Nat.le_of_ble_eq_true rfl⟩) z_preT rfl rfl hl.1 rfl (lv_room (Nat.le_of_ble_eq_true rfl)) dX4_send_17 ⟨Nat.le_of_ble_eq_true rfl, Nat.le_of_ble_eq_true rfl⟩) ?_
    refine lv_if_eq (tgt := 36) hx hb dX4_send_20 (by decide) (fun c20 => ?_) (fun c20 => ?_)
    · replace hf := if_t hf c20
      refine lv_bipush (v := (-3)) hx hb dX4_send_36 (by decide) ?_
      exact z_iret hx hb hr hlk hw hS hf dX4_send_38
    · replace hf := if_f hf c20
      refine lv_aload_n hx hb dX4_send_23 rfl (lv_at hl 0 rfl) ?_
      refine z_get (v := .ref (L 1)) hx hb hts hiX4_send_X4 hown hK hw (k := 0) (by decide) ((fun w => rfl) _) rfl 2 (by decide) (hts (.fieldLink RX4 7 "OneSentenceModel" "home" "[I") (by decide +kernel)) rfl dX4_send_24 ?_
      refine lv_iload_n hx hb dX4_send_27 rfl (lv_at hl 1 rfl) ?_
      obtain ⟨v28, h28, hf⟩ := bd_e hf
      refine z_iald hx hb hK hw 0 (k := 1) (by decide) ((fun w => rfl) _) rfl h28 dX4_send_28 ?_
      refine lv_aload_n hx hb dX4_send_29 rfl (lv_at hl 0 rfl) ?_
      refine z_get (v := .int ((q2.2).1 0 1)) hx hb hts hiX4_send_X4 hown hK hw (k := 0) (by decide) ((fun w => rfl) _) rfl 1 (by decide) (hts (.fieldLink RX4 77 "OneSentenceModel" "market" "I") (by decide +kernel)) rfl dX4_send_30 ?_
      refine lv_icmp_ne (tgt := 39) hx hb dX4_send_33 (by decide) (fun c33 => ?_) (fun c33 => ?_)
      · replace hf := if_f hf c33
        refine lv_aload_n hx hb dX4_send_39 rfl (lv_at hl 0 rfl) ?_
        obtain ⟨w40, h40, hf⟩ := bd_e hf
        refine z_callv (va_runV (As := []) (rest := []) ⟨hx, hb, hml, hown, hts⟩ (km_keepAct l (D := D) (K := K) hJ (q2.2)  h40) (cwV 0 hts gX4_send_X4_keepAct rfl rfl rfl (by decide +kernel) ⟨Nat.le_of_ble_eq_true rfl, Nat.le_of_ble_eq_true rfl⟩) (z_preV eM_ok hK hE hw hS (by decide) ((fun w => rfl) _) (T := TX4) (M := 24) rfl) rfl rfl hl.1 rfl (lv_room (Nat.le_of_ble_eq_true rfl)) dX4_send_40 ⟨Nat.le_of_ble_eq_true rfl, Nat.le_of_ble_eq_true rfl⟩) hS (fun H locs hw hS => ?_)
        refine lv_aload_n hx hb dX4_send_43 rfl (lv_at hl 0 rfl) ?_
        refine z_get (v := .ref (L 3)) hx hb hts hiX4_send_X4 hown hK hw (k := 0) (by decide) ((fun w => rfl) _) rfl 4 (by decide) (hts (.fieldLink RX4 16 "OneSentenceModel" "now" "[I") (by decide +kernel)) rfl dX4_send_44 ?_
        refine lv_iconst (v := 0) hx hb dX4_send_47 (by decide) ?_
        refine lv_dup2_11 hx hb dX4_send_48 rfl rfl ?_
        obtain ⟨v49, h49, hf⟩ := bd_e hf
        refine z_iald hx hb hK hw 0 (k := 3) (by decide) ((fun w => rfl) _) rfl h49 dX4_send_49 ?_
        refine lv_iconst (v := 1) hx hb dX4_send_50 (by decide) ?_
        refine lv_iload_n hx hb dX4_send_51 rfl (lv_at hl 1 rfl) ?_
        refine lv_ishl hx hb dX4_send_52 ?_
        refine lv_iconst (v := (-1)) hx hb dX4_send_53 (by decide) ?_
        refine lv_ixor hx hb dX4_send_54 ?_
        refine lv_iand hx hb dX4_send_55 ?_
        obtain ⟨w56, h56, hf⟩ := bd_e hf
        refine z_iast hx hb hK hJ hw hS 0 (k := 3) (by decide) cM_ne (fun w => rfl) rfl h56 dX4_send_56 (fun H locs hw hS => ?_)
        refine lv_aload_n hx hb dX4_send_57 rfl (lv_at hl 0 rfl) ?_
        refine z_get (v := .ref (L 3)) hx hb hts hiX4_send_X4 hown hK hw (k := 0) (by decide) ((fun w => rfl) _) rfl 4 (by decide) (hts (.fieldLink RX4 16 "OneSentenceModel" "now" "[I") (by decide +kernel)) rfl dX4_send_58 ?_
        refine lv_iconst (v := 0) hx hb dX4_send_61 (by decide) ?_
        obtain ⟨v62, h62, hf⟩ := bd_e hf
        refine z_iald hx hb hK hw 0 (k := 3) (by decide) ((fun w => rfl) _) rfl h62 dX4_send_62 ?_
        obtain ⟨v63, h63, hf⟩ := bd_e hf
        refine z_calls (va_runS (As := [.int v62]) (rest := []) ⟨hx, hb, hml, hown, hts⟩ (km_ones l v62 h63) (va_cwS 1 hts gX4_send_X4_ones rfl rfl rfl (by decide +kernel) ⟨Nat.le_of_ble_eq_true rfl, Nat.le_of_ble_eq_true rfl⟩) z_preT rfl rfl hl.1 rfl (lv_room (Nat.le_of_ble_eq_true rfl)) dX4_send_63 ⟨Nat.le_of_ble_eq_true rfl, Nat.le_of_ble_eq_true rfl⟩) ?_
        exact z_iret hx hb hr hlk hw hS hf dX4_send_66
      · replace hf := if_t hf c33
        refine lv_bipush (v := (-3)) hx hb dX4_send_36 (by decide) ?_
        exact z_iret hx hb hr hlk hw hS hf dX4_send_38
  · replace hf := if_t hf c5
    refine lv_iconst (v := (-1)) hx hb dX4_send_8 (by decide) ?_
    exact z_iret hx hb hr hlk hw hS hf dX4_send_9
set_option maxHeartbeats 4000000 in
set_option maxRecDepth 100000 in
theorem km_send (l : Launch) {D : va_G} {L : Nat → Nat} {K : Nat → ClassId} (hJ : gj L 12) (x1 : Int32) (w : St) {w9 : St} {rs : Int32} (hf : fm_send x1 w = some (rs, w9)) : Met l yX4_send wsX4_send ({ frames := 2, cells := 0, slots := 0, locals := 46 }) (va_Pc [.ref (L 0), .int x1] (mP D L K w)) (qI D L 12 (cM L K) rs w9) 0 0 (gA L 12) := by
  refine g_met (cc := cX4_send) (nL := 2) (ret := (some .int)) (by decide) rfl (Nat.le_of_ble_eq_true rfl) (fun p e s m below meth c ls C0 hP hl => ?_)
  exact wm_send_0 hJ C0 hP.2.1 hP.2.2 _ w _ _ ls hP.1 va_S.rf (lv_sub hl [0, 1] rfl) hf
set_option maxRecDepth 20000 in
theorem ggX4_say_X4_isPerson : GoodIn wsX4_say wsX4_isPerson := goodIn_r _ [6, 7, 8, 9, 5, 10, 37, 38, 39, 40, 41, 42, 43, 44, 45, 46, 47, 48, 49, 50, 51, 52, 53, 54, 55, 56, 57, 58, 59, 60] (by decide +kernel) (by decide +kernel)
set_option maxRecDepth 20000 in
theorem gX4_say_X4_isPerson : GoodIn wsX4_say (wsV RX4 95 RX4 yX4_isPerson wsX4_isPerson) := goodIn_app (goodIn_of _ (by decide +kernel)) ggX4_say_X4_isPerson
set_option maxRecDepth 20000 in
theorem ggX4_say_X4_may : GoodIn wsX4_say wsX4_may := goodIn_r _ [14, 1, 15, 16, 17, 5, 18, 37, 38, 39, 40, 41, 42, 43, 44, 45, 46, 47, 48, 49, 50, 51, 52, 53, 54, 55, 56, 57, 58, 59, 60] (by decide +kernel) (by decide +kernel)
set_option maxRecDepth 20000 in
theorem gX4_say_X4_may : GoodIn wsX4_say (wsV RX4 99 RX4 yX4_may wsX4_may) := goodIn_app (goodIn_of _ (by decide +kernel)) ggX4_say_X4_may
set_option maxRecDepth 20000 in
theorem ggX4_say_X4_keepAct : GoodIn wsX4_say wsX4_keepAct := goodIn_r _ [22, 23, 24, 1, 25, 37, 38, 39, 40, 41, 42, 43, 44, 45, 46, 47, 48, 49, 50, 51, 52, 53, 54, 55, 56, 57, 58, 59, 60] (by decide +kernel) (by decide +kernel)
set_option maxRecDepth 20000 in
theorem gX4_say_X4_keepAct : GoodIn wsX4_say (wsV RX4 105 RX4 yX4_keepAct wsX4_keepAct) := goodIn_app (goodIn_of _ (by decide +kernel)) ggX4_say_X4_keepAct
set_option maxRecDepth 20000 in
theorem ggX4_say_X4_sayOn : GoodIn wsX4_say wsX4_sayOn := goodIn_r _ [29, 15, 1, 30, 31, 32, 5, 33, 34, 35, 36, 37, 38, 39, 40, 41, 42, 43, 44, 45, 46, 47, 48, 49, 50, 51, 52, 53, 54, 55, 56, 57, 58, 59, 60] (by decide +kernel) (by decide +kernel)
set_option maxRecDepth 20000 in
theorem gX4_say_X4_sayOn : GoodIn wsX4_say (wsV RX4 114 RX4 yX4_sayOn wsX4_sayOn) := goodIn_app (goodIn_of _ (by decide +kernel)) ggX4_say_X4_sayOn
theorem dX4_say_0 : decode cX4_say 0 = .ok (.aload_n 0, 1) := by decide +kernel
theorem dX4_say_1 : decode cX4_say 1 = .ok (.iload_n 1, 1) := by decide +kernel
theorem dX4_say_2 : decode cX4_say 2 = .ok (.invokevirtual 95, 3) := by decide +kernel
theorem dX4_say_5 : decode cX4_say 5 = .ok (.ifCond .ne 5, 3) := by decide +kernel
theorem dX4_say_8 : decode cX4_say 8 = .ok (.iconst (-1), 1) := by decide +kernel
theorem dX4_say_9 : decode cX4_say 9 = .ok (.ireturn, 1) := by decide +kernel
theorem dX4_say_10 : decode cX4_say 10 = .ok (.aload_n 0, 1) := by decide +kernel
theorem dX4_say_11 : decode cX4_say 11 = .ok (.iconst 0, 1) := by decide +kernel
theorem dX4_say_12 : decode cX4_say 12 = .ok (.iload_n 1, 1) := by decide +kernel
theorem dX4_say_13 : decode cX4_say 13 = .ok (.invokevirtual 99, 3) := by decide +kernel
theorem dX4_say_16 : decode cX4_say 16 = .ok (.ifCond .ne 6, 3) := by decide +kernel
theorem dX4_say_19 : decode cX4_say 19 = .ok (.bipush (-3), 2) := by decide +kernel
theorem dX4_say_21 : decode cX4_say 21 = .ok (.ireturn, 1) := by decide +kernel
theorem dX4_say_22 : decode cX4_say 22 = .ok (.aload_n 0, 1) := by decide +kernel
theorem dX4_say_23 : decode cX4_say 23 = .ok (.invokevirtual 105, 3) := by decide +kernel
theorem dX4_say_26 : decode cX4_say 26 = .ok (.aload_n 0, 1) := by decide +kernel
theorem dX4_say_27 : decode cX4_say 27 = .ok (.iconst 0, 1) := by decide +kernel
theorem dX4_say_28 : decode cX4_say 28 = .ok (.iload_n 1, 1) := by decide +kernel
theorem dX4_say_29 : decode cX4_say 29 = .ok (.invokevirtual 114, 3) := by decide +kernel
theorem dX4_say_32 : decode cX4_say 32 = .ok (.aload_n 0, 1) := by decide +kernel
theorem dX4_say_33 : decode cX4_say 33 = .ok (.getfield 16, 3) := by decide +kernel
theorem dX4_say_36 : decode cX4_say 36 = .ok (.bipush 26, 2) := by decide +kernel
theorem dX4_say_38 : decode cX4_say 38 = .ok (.dup2, 1) := by decide +kernel
theorem dX4_say_39 : decode cX4_say 39 = .ok (.iaload, 1) := by decide +kernel
theorem dX4_say_40 : decode cX4_say 40 = .ok (.iconst 1, 1) := by decide +kernel
theorem dX4_say_41 : decode cX4_say 41 = .ok (.iadd, 1) := by decide +kernel
theorem dX4_say_42 : decode cX4_say 42 = .ok (.iastore, 1) := by decide +kernel
theorem dX4_say_43 : decode cX4_say 43 = .ok (.aload_n 0, 1) := by decide +kernel
theorem dX4_say_44 : decode cX4_say 44 = .ok (.getfield 16, 3) := by decide +kernel
theorem dX4_say_47 : decode cX4_say 47 = .ok (.bipush 22, 2) := by decide +kernel
theorem dX4_say_49 : decode cX4_say 49 = .ok (.iaload, 1) := by decide +kernel
theorem dX4_say_50 : decode cX4_say 50 = .ok (.ireturn, 1) := by decide +kernel
set_option maxRecDepth 20000 in
theorem hiX4_say_X4 : ∀ w ∈ u_ws RX4 TX4 24, w ∈ wsX4_say := by decide +kernel
set_option maxHeartbeats 4000000 in
set_option maxRecDepth 100000 in
theorem wm_say_0 {p : Program} {l : Launch} {e : Env} {s : State} {m : MethodId} {args : Array Value} {below : List Frame} {meth : Method} {c : Code} {D : va_G} {L : Nat → Nat} {K : Nat → ClassId} (hJ : gj L 12) (C0 : gC cX4_say 2 (some .int) wsX4_say RX4 p s m args meth c) (hK : va_K D vwCl (tyG K) s) (hE : eM s) {w9 : St} {rs : Int32} : ∀ (x1 : Int32) (w : St) (H : Heap) (locs : List Loc) (ls : Array Slot), va_P D vwCl (gl L 12 (cM L K w)) H → va_S (gA L 12) s.heap H locs → lv_has ls 2 [(0, .ref (L 0)), (1, .int x1)] → fm_say x1 w = some (rs, w9) → W p l e { frames := 3, cells := 0, slots := 0, locals := 67 } s m args below meth c H locs 0 0 (MQ below (qI D L 12 (cM L K) rs w9) args s 0 0 (gA L 12)) (F0 m 0 ls []) := by
  obtain ⟨hx, hb, hr, hml, hown, hts, hlk⟩ := id C0
  intro x1 w H locs ls hw hS hl hf
  unfold fm_say at hf
  refine lv_aload_n hx hb dX4_say_0 rfl (lv_at hl 0 rfl) ?_
  refine lv_iload_n hx hb dX4_say_1 rfl (lv_at hl 1 rfl) ?_
  obtain ⟨q2, h2, hf⟩ := bd_e hf
  refine z_calli (va_runV (As := [.int x1]) (rest := []) ⟨hx, hb, hml, hown, hts⟩ (km_isPerson l (D := D) (K := K) hJ x1 w  h2) (cwV 1 hts gX4_say_X4_isPerson rfl rfl rfl (by decide +kernel) ⟨Nat.le_of_ble_eq_true rfl, Nat.le_of_ble_eq_true rfl⟩) (z_preV eM_ok hK hE hw hS (by decide) ((fun w => rfl) _) (T := TX4) (M := 24) rfl) rfl rfl hl.1 rfl (lv_room (Nat.le_of_ble_eq_true rfl)) dX4_say_2 ⟨Nat.le_of_ble_eq_true rfl, Nat.le_of_ble_eq_true rfl⟩) hS (fun H locs hw hS => ?_)
  refine lv_if_ne (tgt := 10) hx hb dX4_say_5 (by decide) (fun c5 => ?_) (fun c5 => ?_)
  · replace hf := if_f hf c5
    refine lv_aload_n hx hb dX4_say_10 rfl (lv_at hl 0 rfl) ?_
    refine lv_iconst (v := 0) hx hb dX4_say_11 (by decide) ?_
    refine lv_iload_n hx hb dX4_say_12 rfl (lv_at hl 1 rfl) ?_
    obtain ⟨q13, h13, hf⟩ := bd_e hf
    refine z_calli (va_runV (As := [.int 0, .int x1]) (rest := []) ⟨hx, hb, hml, hown, hts⟩ (km_may l (D := D) (K := K) hJ 0 x1 (q2.2)  h13) (cwV 2 hts gX4_say_X4_may rfl rfl rfl (by decide +kernel) ⟨Nat.le_of_ble_eq_true rfl, Nat.le_of_ble_eq_true rfl⟩) (z_preV eM_ok hK hE hw hS (by decide) ((fun w => rfl) _) (T := TX4) (M := 24) rfl) rfl rfl hl.1 rfl (lv_room (Nat.le_of_ble_eq_true rfl)) dX4_say_13 ⟨Nat.le_of_ble_eq_true rfl, Nat.le_of_ble_eq_true rfl⟩) hS (fun H locs hw hS => ?_)
    refine lv_if_ne (tgt := 22) hx hb dX4_say_16 (by decide) (fun c16 => ?_) (fun c16 => ?_)
    · replace hf := if_f hf c16
      refine lv_aload_n hx hb dX4_say_22 rfl (lv_at hl 0 rfl) ?_
      obtain ⟨w23, h23, hf⟩ := bd_e hf
      refine z_callv (va_runV (As := []) (rest := []) ⟨hx, hb, hml, hown, hts⟩ (km_keepAct l (D := D) (K := K) hJ (q13.2)  h23) (cwV 0 hts gX4_say_X4_keepAct rfl rfl rfl (by decide +kernel) ⟨Nat.le_of_ble_eq_true rfl, Nat.le_of_ble_eq_true rfl⟩) (z_preV eM_ok hK hE hw hS (by decide) ((fun w => rfl) _) (T := TX4) (M := 24) rfl) rfl rfl hl.1 rfl (lv_room (Nat.le_of_ble_eq_true rfl)) dX4_say_23 ⟨Nat.le_of_ble_eq_true rfl, Nat.le_of_ble_eq_true rfl⟩) hS (fun H locs hw hS => ?_)
      refine lv_aload_n hx hb dX4_say_26 rfl (lv_at hl 0 rfl) ?_
      refine lv_iconst (v := 0) hx hb dX4_say_27 (by decide) ?_
      refine lv_iload_n hx hb dX4_say_28 rfl (lv_at hl 1 rfl) ?_
      obtain ⟨w29, h29, hf⟩ := bd_e hf
      refine z_callv (va_runV (As := [.int 0, .int x1]) (rest := []) ⟨hx, hb, hml, hown, hts⟩ (km_sayOn l (D := D) (K := K) hJ 0 x1 w23  h29) (cwV 2 hts gX4_say_X4_sayOn rfl rfl rfl (by decide +kernel) ⟨Nat.le_of_ble_eq_true rfl, Nat.le_of_ble_eq_true rfl⟩) (z_preV eM_ok hK hE hw hS (by decide) ((fun w => rfl) _) (T := TX4) (M := 24) rfl) rfl rfl hl.1 rfl (lv_room (Nat.le_of_ble_eq_true rfl)) dX4_say_29 ⟨Nat.le_of_ble_eq_true rfl, Nat.le_of_ble_eq_true rfl⟩) hS (fun H locs hw hS => ?_)
      refine lv_aload_n hx hb dX4_say_32 rfl (lv_at hl 0 rfl) ?_
      refine z_get (v := .ref (L 3)) hx hb hts hiX4_say_X4 hown hK hw (k := 0) (by decide) ((fun w => rfl) _) rfl 4 (by decide) (hts (.fieldLink RX4 16 "OneSentenceModel" "now" "[I") (by decide +kernel)) rfl dX4_say_33 ?_
      refine lv_bipush (v := 26) hx hb dX4_say_36 (by decide) ?_
      refine lv_dup2_11 hx hb dX4_say_38 rfl rfl ?_
      obtain ⟨v39, h39, hf⟩ := bd_e hf
      refine z_iald hx hb hK hw 0 (k := 3) (by decide) ((fun w => rfl) _) rfl h39 dX4_say_39 ?_
      refine lv_iconst (v := 1) hx hb dX4_say_40 (by decide) ?_
      refine lv_iadd hx hb dX4_say_41 ?_
      obtain ⟨w42, h42, hf⟩ := bd_e hf
      refine z_iast hx hb hK hJ hw hS 0 (k := 3) (by decide) cM_ne (fun w => rfl) rfl h42 dX4_say_42 (fun H locs hw hS => ?_)
      refine lv_aload_n hx hb dX4_say_43 rfl (lv_at hl 0 rfl) ?_
      refine z_get (v := .ref (L 3)) hx hb hts hiX4_say_X4 hown hK hw (k := 0) (by decide) ((fun w => rfl) _) rfl 4 (by decide) (hts (.fieldLink RX4 16 "OneSentenceModel" "now" "[I") (by decide +kernel)) rfl dX4_say_44 ?_
      refine lv_bipush (v := 22) hx hb dX4_say_47 (by decide) ?_
      obtain ⟨v49, h49, hf⟩ := bd_e hf
      refine z_iald hx hb hK hw 0 (k := 3) (by decide) ((fun w => rfl) _) rfl h49 dX4_say_49 ?_
      exact z_iret hx hb hr hlk hw hS hf dX4_say_50
    · replace hf := if_t hf c16
      refine lv_bipush (v := (-3)) hx hb dX4_say_19 (by decide) ?_
      exact z_iret hx hb hr hlk hw hS hf dX4_say_21
  · replace hf := if_t hf c5
    refine lv_iconst (v := (-1)) hx hb dX4_say_8 (by decide) ?_
    exact z_iret hx hb hr hlk hw hS hf dX4_say_9
set_option maxHeartbeats 4000000 in
set_option maxRecDepth 100000 in
theorem km_say (l : Launch) {D : va_G} {L : Nat → Nat} {K : Nat → ClassId} (hJ : gj L 12) (x1 : Int32) (w : St) {w9 : St} {rs : Int32} (hf : fm_say x1 w = some (rs, w9)) : Met l yX4_say wsX4_say ({ frames := 3, cells := 0, slots := 0, locals := 67 }) (va_Pc [.ref (L 0), .int x1] (mP D L K w)) (qI D L 12 (cM L K) rs w9) 0 0 (gA L 12) := by
  refine g_met (cc := cX4_say) (nL := 2) (ret := (some .int)) (by decide) rfl (Nat.le_of_ble_eq_true rfl) (fun p e s m below meth c ls C0 hP hl => ?_)
  exact wm_say_0 hJ C0 hP.2.1 hP.2.2 _ w _ _ ls hP.1 va_S.rf (lv_sub hl [0, 1] rfl) hf
set_option maxRecDepth 20000 in
theorem ggX4_name_X4_isPerson : GoodIn wsX4_name wsX4_isPerson := goodIn_r _ [8, 9, 10, 11, 7, 12, 20, 21, 22, 23, 24, 25, 26, 27, 28, 29, 30, 31, 32, 33, 34, 35, 36, 37, 38, 39, 40, 41, 42, 43] (by decide +kernel) (by decide +kernel)
set_option maxRecDepth 20000 in
theorem gX4_name_X4_isPerson : GoodIn wsX4_name (wsV RX4 95 RX4 yX4_isPerson wsX4_isPerson) := goodIn_app (goodIn_of _ (by decide +kernel)) ggX4_name_X4_isPerson
set_option maxRecDepth 20000 in
theorem ggX4_name_X4_in : GoodIn wsX4_name wsX4_in := goodIn_r _ [12] (by decide +kernel) (by decide +kernel)
set_option maxRecDepth 20000 in
theorem gX4_name_X4_in : GoodIn wsX4_name (va_wsS RX4 46 yX4_in wsX4_in) := goodIn_app (goodIn_of _ (by decide +kernel)) ggX4_name_X4_in
set_option maxRecDepth 20000 in
theorem ggX4_name_X4_keepAct : GoodIn wsX4_name wsX4_keepAct := goodIn_r _ [16, 17, 18, 3, 19, 20, 21, 22, 23, 24, 25, 26, 27, 28, 29, 30, 31, 32, 33, 34, 35, 36, 37, 38, 39, 40, 41, 42, 43] (by decide +kernel) (by decide +kernel)
set_option maxRecDepth 20000 in
theorem gX4_name_X4_keepAct : GoodIn wsX4_name (wsV RX4 105 RX4 yX4_keepAct wsX4_keepAct) := goodIn_app (goodIn_of _ (by decide +kernel)) ggX4_name_X4_keepAct
theorem dX4_name_0 : decode cX4_name 0 = .ok (.aload_n 0, 1) := by decide +kernel
theorem dX4_name_1 : decode cX4_name 1 = .ok (.iload_n 1, 1) := by decide +kernel
theorem dX4_name_2 : decode cX4_name 2 = .ok (.invokevirtual 95, 3) := by decide +kernel
theorem dX4_name_5 : decode cX4_name 5 = .ok (.ifCond .ne 5, 3) := by decide +kernel
theorem dX4_name_8 : decode cX4_name 8 = .ok (.iconst (-1), 1) := by decide +kernel
theorem dX4_name_9 : decode cX4_name 9 = .ok (.ireturn, 1) := by decide +kernel
theorem dX4_name_10 : decode cX4_name 10 = .ok (.iload_n 2, 1) := by decide +kernel
theorem dX4_name_11 : decode cX4_name 11 = .ok (.i2l, 1) := by decide +kernel
theorem dX4_name_12 : decode cX4_name 12 = .ok (.lconst 0, 1) := by decide +kernel
theorem dX4_name_13 : decode cX4_name 13 = .ok (.ldc2_w 117, 3) := by decide +kernel
theorem dX4_name_16 : decode cX4_name 16 = .ok (.invokestatic 46, 3) := by decide +kernel
theorem dX4_name_19 : decode cX4_name 19 = .ok (.ifCond .eq 15, 3) := by decide +kernel
theorem dX4_name_22 : decode cX4_name 22 = .ok (.iload_n 3, 1) := by decide +kernel
theorem dX4_name_23 : decode cX4_name 23 = .ok (.i2l, 1) := by decide +kernel
theorem dX4_name_24 : decode cX4_name 24 = .ok (.lconst 0, 1) := by decide +kernel
theorem dX4_name_25 : decode cX4_name 25 = .ok (.ldc2_w 119, 3) := by decide +kernel
theorem dX4_name_28 : decode cX4_name 28 = .ok (.invokestatic 46, 3) := by decide +kernel
theorem dX4_name_31 : decode cX4_name 31 = .ok (.ifCond .ne 6, 3) := by decide +kernel
theorem dX4_name_34 : decode cX4_name 34 = .ok (.bipush (-2), 2) := by decide +kernel
theorem dX4_name_36 : decode cX4_name 36 = .ok (.ireturn, 1) := by decide +kernel
theorem dX4_name_37 : decode cX4_name 37 = .ok (.bipush 10, 2) := by decide +kernel
theorem dX4_name_39 : decode cX4_name 39 = .ok (.aload_n 0, 1) := by decide +kernel
theorem dX4_name_40 : decode cX4_name 40 = .ok (.getfield 16, 3) := by decide +kernel
theorem dX4_name_43 : decode cX4_name 43 = .ok (.iconst 1, 1) := by decide +kernel
theorem dX4_name_44 : decode cX4_name 44 = .ok (.iload_n 1, 1) := by decide +kernel
theorem dX4_name_45 : decode cX4_name 45 = .ok (.iadd, 1) := by decide +kernel
theorem dX4_name_46 : decode cX4_name 46 = .ok (.iaload, 1) := by decide +kernel
theorem dX4_name_47 : decode cX4_name 47 = .ok (.imul, 1) := by decide +kernel
theorem dX4_name_48 : decode cX4_name 48 = .ok (.aload_n 0, 1) := by decide +kernel
theorem dX4_name_49 : decode cX4_name 49 = .ok (.getfield 16, 3) := by decide +kernel
theorem dX4_name_52 : decode cX4_name 52 = .ok (.bipush 8, 2) := by decide +kernel
theorem dX4_name_54 : decode cX4_name 54 = .ok (.iload_n 1, 1) := by decide +kernel
theorem dX4_name_55 : decode cX4_name 55 = .ok (.iadd, 1) := by decide +kernel
theorem dX4_name_56 : decode cX4_name 56 = .ok (.iaload, 1) := by decide +kernel
theorem dX4_name_57 : decode cX4_name 57 = .ok (.iadd, 1) := by decide +kernel
theorem dX4_name_58 : decode cX4_name 58 = .ok (.istore 4, 2) := by decide +kernel
theorem dX4_name_60 : decode cX4_name 60 = .ok (.iload 4, 2) := by decide +kernel
theorem dX4_name_62 : decode cX4_name 62 = .ok (.bipush 10, 2) := by decide +kernel
theorem dX4_name_64 : decode cX4_name 64 = .ok (.iload_n 2, 1) := by decide +kernel
theorem dX4_name_65 : decode cX4_name 65 = .ok (.imul, 1) := by decide +kernel
theorem dX4_name_66 : decode cX4_name 66 = .ok (.iload_n 3, 1) := by decide +kernel
theorem dX4_name_67 : decode cX4_name 67 = .ok (.iadd, 1) := by decide +kernel
theorem dX4_name_68 : decode cX4_name 68 = .ok (.if_icmp .ne 6, 3) := by decide +kernel
theorem dX4_name_71 : decode cX4_name 71 = .ok (.bipush (-3), 2) := by decide +kernel
theorem dX4_name_73 : decode cX4_name 73 = .ok (.ireturn, 1) := by decide +kernel
theorem dX4_name_74 : decode cX4_name 74 = .ok (.aload_n 0, 1) := by decide +kernel
theorem dX4_name_75 : decode cX4_name 75 = .ok (.invokevirtual 105, 3) := by decide +kernel
theorem dX4_name_78 : decode cX4_name 78 = .ok (.aload_n 0, 1) := by decide +kernel
theorem dX4_name_79 : decode cX4_name 79 = .ok (.getfield 16, 3) := by decide +kernel
theorem dX4_name_82 : decode cX4_name 82 = .ok (.iconst 1, 1) := by decide +kernel
theorem dX4_name_83 : decode cX4_name 83 = .ok (.iload_n 1, 1) := by decide +kernel
theorem dX4_name_84 : decode cX4_name 84 = .ok (.iadd, 1) := by decide +kernel
theorem dX4_name_85 : decode cX4_name 85 = .ok (.iload_n 2, 1) := by decide +kernel
theorem dX4_name_86 : decode cX4_name 86 = .ok (.iastore, 1) := by decide +kernel
theorem dX4_name_87 : decode cX4_name 87 = .ok (.aload_n 0, 1) := by decide +kernel
theorem dX4_name_88 : decode cX4_name 88 = .ok (.getfield 16, 3) := by decide +kernel
theorem dX4_name_91 : decode cX4_name 91 = .ok (.bipush 8, 2) := by decide +kernel
theorem dX4_name_93 : decode cX4_name 93 = .ok (.iload_n 1, 1) := by decide +kernel
theorem dX4_name_94 : decode cX4_name 94 = .ok (.iadd, 1) := by decide +kernel
theorem dX4_name_95 : decode cX4_name 95 = .ok (.iload_n 3, 1) := by decide +kernel
theorem dX4_name_96 : decode cX4_name 96 = .ok (.iastore, 1) := by decide +kernel
theorem dX4_name_97 : decode cX4_name 97 = .ok (.iload 4, 2) := by decide +kernel
theorem dX4_name_99 : decode cX4_name 99 = .ok (.ireturn, 1) := by decide +kernel
set_option maxRecDepth 20000 in
theorem hiX4_name_X4 : ∀ w ∈ u_ws RX4 TX4 24, w ∈ wsX4_name := by decide +kernel
set_option maxHeartbeats 4000000 in
set_option maxRecDepth 100000 in
theorem wm_name_0 {p : Program} {l : Launch} {e : Env} {s : State} {m : MethodId} {args : Array Value} {below : List Frame} {meth : Method} {c : Code} {D : va_G} {L : Nat → Nat} {K : Nat → ClassId} (hJ : gj L 12) (C0 : gC cX4_name 5 (some .int) wsX4_name RX4 p s m args meth c) (hK : va_K D vwCl (tyG K) s) (hE : eM s) {w9 : St} {rs : Int32} : ∀ (x1 : Int32) (x2 : Int32) (x3 : Int32) (w : St) (H : Heap) (locs : List Loc) (ls : Array Slot), va_P D vwCl (gl L 12 (cM L K w)) H → va_S (gA L 12) s.heap H locs → lv_has ls 5 [(0, .ref (L 0)), (1, .int x1), (2, .int x2), (3, .int x3)] → fm_name x1 x2 x3 w = some (rs, w9) → W p l e { frames := 2, cells := 0, slots := 0, locals := 46 } s m args below meth c H locs 0 0 (MQ below (qI D L 12 (cM L K) rs w9) args s 0 0 (gA L 12)) (F0 m 0 ls []) := by
  obtain ⟨hx, hb, hr, hml, hown, hts, hlk⟩ := id C0
  intro x1 x2 x3 w H locs ls hw hS hl hf
  unfold fm_name at hf
  refine lv_aload_n hx hb dX4_name_0 rfl (lv_at hl 0 rfl) ?_
  refine lv_iload_n hx hb dX4_name_1 rfl (lv_at hl 1 rfl) ?_
  obtain ⟨q2, h2, hf⟩ := bd_e hf
  refine z_calli (va_runV (As := [.int x1]) (rest := []) ⟨hx, hb, hml, hown, hts⟩ (km_isPerson l (D := D) (K := K) hJ x1 w  h2) (cwV 1 hts gX4_name_X4_isPerson rfl rfl rfl (by decide +kernel) ⟨Nat.le_of_ble_eq_true rfl, Nat.le_of_ble_eq_true rfl⟩) (z_preV eM_ok hK hE hw hS (by decide) ((fun w => rfl) _) (T := TX4) (M := 24) rfl) rfl rfl hl.1 rfl (lv_room (Nat.le_of_ble_eq_true rfl)) dX4_name_2 ⟨Nat.le_of_ble_eq_true rfl, Nat.le_of_ble_eq_true rfl⟩) hS (fun H locs hw hS => ?_)
  refine lv_if_ne (tgt := 10) hx hb dX4_name_5 (by decide) (fun c5 => ?_) (fun c5 => ?_)
  · replace hf := if_f hf c5
    refine lv_iload_n hx hb dX4_name_10 rfl (lv_at hl 2 rfl) ?_
    refine lv_i2l (v := x2.toInt64) hx hb dX4_name_11 rfl ?_
    refine lv_lconst (v := 0) hx hb dX4_name_12 (by decide) ?_
    refine lv_ldc2 (v := 3) hx hb hown (hts (.constantLong RX4 117 3) (by decide +kernel)) dX4_name_13 ?_
    obtain ⟨v16, h16, hf⟩ := bd_e hf
    refine z_calls (va_runS (As := [.long (x2.toInt64), .long 0, .long 3]) (rest := []) ⟨hx, hb, hml, hown, hts⟩ (km_in l (x2.toInt64) 0 3 h16) (va_cwS 3 hts gX4_name_X4_in rfl rfl rfl (by decide +kernel) ⟨Nat.le_of_ble_eq_true rfl, Nat.le_of_ble_eq_true rfl⟩) z_preT rfl rfl hl.1 rfl (lv_room (Nat.le_of_ble_eq_true rfl)) dX4_name_16 ⟨Nat.le_of_ble_eq_true rfl, Nat.le_of_ble_eq_true rfl⟩) ?_
    refine lv_if_eq (tgt := 34) hx hb dX4_name_19 (by decide) (fun c19 => ?_) (fun c19 => ?_)
    · replace hf := if_t hf c19
      refine lv_bipush (v := (-2)) hx hb dX4_name_34 (by decide) ?_
      exact z_iret hx hb hr hlk hw hS hf dX4_name_36
    · replace hf := if_f hf c19
      refine lv_iload_n hx hb dX4_name_22 rfl (lv_at hl 3 rfl) ?_
      refine lv_i2l (v := x3.toInt64) hx hb dX4_name_23 rfl ?_
      refine lv_lconst (v := 0) hx hb dX4_name_24 (by decide) ?_
      refine lv_ldc2 (v := 9) hx hb hown (hts (.constantLong RX4 119 9) (by decide +kernel)) dX4_name_25 ?_
      obtain ⟨v28, h28, hf⟩ := bd_e hf
      refine z_calls (va_runS (As := [.long (x3.toInt64), .long 0, .long 9]) (rest := []) ⟨hx, hb, hml, hown, hts⟩ (km_in l (x3.toInt64) 0 9 h28) (va_cwS 3 hts gX4_name_X4_in rfl rfl rfl (by decide +kernel) ⟨Nat.le_of_ble_eq_true rfl, Nat.le_of_ble_eq_true rfl⟩) z_preT rfl rfl hl.1 rfl (lv_room (Nat.le_of_ble_eq_true rfl)) dX4_name_28 ⟨Nat.le_of_ble_eq_true rfl, Nat.le_of_ble_eq_true rfl⟩) ?_
      refine lv_if_ne (tgt := 37) hx hb dX4_name_31 (by decide) (fun c31 => ?_) (fun c31 => ?_)
      · replace hf := if_f hf c31
        refine lv_bipush (v := 10) hx hb dX4_name_37 (by decide) ?_
        refine lv_aload_n hx hb dX4_name_39 rfl (lv_at hl 0 rfl) ?_
        refine z_get (v := .ref (L 3)) hx hb hts hiX4_name_X4 hown hK hw (k := 0) (by decide) ((fun w => rfl) _) rfl 4 (by decide) (hts (.fieldLink RX4 16 "OneSentenceModel" "now" "[I") (by decide +kernel)) rfl dX4_name_40 ?_
        refine lv_iconst (v := 1) hx hb dX4_name_43 (by decide) ?_
        refine lv_iload_n hx hb dX4_name_44 rfl (lv_at hl 1 rfl) ?_
        refine lv_iadd hx hb dX4_name_45 ?_
        obtain ⟨v46, h46, hf⟩ := bd_e hf
        refine z_iald hx hb hK hw 0 (k := 3) (by decide) ((fun w => rfl) _) rfl h46 dX4_name_46 ?_
        refine lv_imul hx hb dX4_name_47 ?_
        refine lv_aload_n hx hb dX4_name_48 rfl (lv_at hl 0 rfl) ?_
        refine z_get (v := .ref (L 3)) hx hb hts hiX4_name_X4 hown hK hw (k := 0) (by decide) ((fun w => rfl) _) rfl 4 (by decide) (hts (.fieldLink RX4 16 "OneSentenceModel" "now" "[I") (by decide +kernel)) rfl dX4_name_49 ?_
        refine lv_bipush (v := 8) hx hb dX4_name_52 (by decide) ?_
        refine lv_iload_n hx hb dX4_name_54 rfl (lv_at hl 1 rfl) ?_
        refine lv_iadd hx hb dX4_name_55 ?_
        obtain ⟨v56, h56, hf⟩ := bd_e hf
        refine z_iald hx hb hK hw 0 (k := 3) (by decide) ((fun w => rfl) _) rfl h56 dX4_name_56 ?_
        refine lv_iadd hx hb dX4_name_57 ?_
        refine lv_topi (fun v58 e58 => ?_)
        replace hf := lb_e hf e58
        refine lv_istore (lv' := [(4, .int v58), (0, .ref (L 0)), (1, .int x1), (2, .int x2), (3, .int x3)]) hx hb dX4_name_58 hl (by decide) rfl (fun ls hl => ?_)
        refine lv_iload hx hb dX4_name_60 (lv_at hl 0 rfl) ?_
        refine lv_bipush (v := 10) hx hb dX4_name_62 (by decide) ?_
        refine lv_iload_n hx hb dX4_name_64 rfl (lv_at hl 3 rfl) ?_
        refine lv_imul hx hb dX4_name_65 ?_
        refine lv_iload_n hx hb dX4_name_66 rfl (lv_at hl 4 rfl) ?_
        refine lv_iadd hx hb dX4_name_67 ?_
        refine lv_icmp_ne (tgt := 74) hx hb dX4_name_68 (by decide) (fun c68 => ?_) (fun c68 => ?_)
        · replace hf := if_f hf c68
          refine lv_aload_n hx hb dX4_name_74 rfl (lv_at hl 1 rfl) ?_
          obtain ⟨w75, h75, hf⟩ := bd_e hf
          refine z_callv (va_runV (As := []) (rest := []) ⟨hx, hb, hml, hown, hts⟩ (km_keepAct l (D := D) (K := K) hJ (q2.2)  h75) (cwV 0 hts gX4_name_X4_keepAct rfl rfl rfl (by decide +kernel) ⟨Nat.le_of_ble_eq_true rfl, Nat.le_of_ble_eq_true rfl⟩) (z_preV eM_ok hK hE hw hS (by decide) ((fun w => rfl) _) (T := TX4) (M := 24) rfl) rfl rfl hl.1 rfl (lv_room (Nat.le_of_ble_eq_true rfl)) dX4_name_75 ⟨Nat.le_of_ble_eq_true rfl, Nat.le_of_ble_eq_true rfl⟩) hS (fun H locs hw hS => ?_)
          refine lv_aload_n hx hb dX4_name_78 rfl (lv_at hl 1 rfl) ?_
          refine z_get (v := .ref (L 3)) hx hb hts hiX4_name_X4 hown hK hw (k := 0) (by decide) ((fun w => rfl) _) rfl 4 (by decide) (hts (.fieldLink RX4 16 "OneSentenceModel" "now" "[I") (by decide +kernel)) rfl dX4_name_79 ?_
          refine lv_iconst (v := 1) hx hb dX4_name_82 (by decide) ?_
          refine lv_iload_n hx hb dX4_name_83 rfl (lv_at hl 2 rfl) ?_
          refine lv_iadd hx hb dX4_name_84 ?_
          refine lv_iload_n hx hb dX4_name_85 rfl (lv_at hl 3 rfl) ?_
          obtain ⟨w86, h86, hf⟩ := bd_e hf
          refine z_iast hx hb hK hJ hw hS 0 (k := 3) (by decide) cM_ne (fun w => rfl) rfl h86 dX4_name_86 (fun H locs hw hS => ?_)
          refine lv_aload_n hx hb dX4_name_87 rfl (lv_at hl 1 rfl) ?_
          refine z_get (v := .ref (L 3)) hx hb hts hiX4_name_X4 hown hK hw (k := 0) (by decide) ((fun w => rfl) _) rfl 4 (by decide) (hts (.fieldLink RX4 16 "OneSentenceModel" "now" "[I") (by decide +kernel)) rfl dX4_name_88 ?_
          refine lv_bipush (v := 8) hx hb dX4_name_91 (by decide) ?_
          refine lv_iload_n hx hb dX4_name_93 rfl (lv_at hl 2 rfl) ?_
          refine lv_iadd hx hb dX4_name_94 ?_
          refine lv_iload_n hx hb dX4_name_95 rfl (lv_at hl 4 rfl) ?_
          obtain ⟨w96, h96, hf⟩ := bd_e hf
          refine z_iast hx hb hK hJ hw hS 0 (k := 3) (by decide) cM_ne (fun w => rfl) rfl h96 dX4_name_96 (fun H locs hw hS => ?_)
          refine lv_iload hx hb dX4_name_97 (lv_at hl 0 rfl) ?_
          exact z_iret hx hb hr hlk hw hS hf dX4_name_99
        · replace hf := if_t hf c68
          refine lv_bipush (v := (-3)) hx hb dX4_name_71 (by decide) ?_
          exact z_iret hx hb hr hlk hw hS hf dX4_name_73
      · replace hf := if_t hf c31
        refine lv_bipush (v := (-2)) hx hb dX4_name_34 (by decide) ?_
        exact z_iret hx hb hr hlk hw hS hf dX4_name_36
  · replace hf := if_t hf c5
    refine lv_iconst (v := (-1)) hx hb dX4_name_8 (by decide) ?_
    exact z_iret hx hb hr hlk hw hS hf dX4_name_9
set_option maxHeartbeats 4000000 in
set_option maxRecDepth 100000 in
theorem km_name (l : Launch) {D : va_G} {L : Nat → Nat} {K : Nat → ClassId} (hJ : gj L 12) (x1 : Int32) (x2 : Int32) (x3 : Int32) (w : St) {w9 : St} {rs : Int32} (hf : fm_name x1 x2 x3 w = some (rs, w9)) : Met l yX4_name wsX4_name ({ frames := 2, cells := 0, slots := 0, locals := 46 }) (va_Pc [.ref (L 0), .int x1, .int x2, .int x3] (mP D L K w)) (qI D L 12 (cM L K) rs w9) 0 0 (gA L 12) := by
  refine g_met (cc := cX4_name) (nL := 5) (ret := (some .int)) (by decide) rfl (Nat.le_of_ble_eq_true rfl) (fun p e s m below meth c ls C0 hP hl => ?_)
  exact wm_name_0 hJ C0 hP.2.1 hP.2.2 _ _ _ w _ _ ls hP.1 va_S.rf (lv_sub hl [0, 1, 2, 3] rfl) hf
theorem dX4_undo_0 : decode cX4_undo 0 = .ok (.aload_n 0, 1) := by decide +kernel
theorem dX4_undo_1 : decode cX4_undo 1 = .ok (.getfield 80, 3) := by decide +kernel
theorem dX4_undo_4 : decode cX4_undo 4 = .ok (.ifCond .ne 6, 3) := by decide +kernel
theorem dX4_undo_7 : decode cX4_undo 7 = .ok (.bipush (-3), 2) := by decide +kernel
theorem dX4_undo_9 : decode cX4_undo 9 = .ok (.ireturn, 1) := by decide +kernel
theorem dX4_undo_10 : decode cX4_undo 10 = .ok (.aload_n 0, 1) := by decide +kernel
theorem dX4_undo_11 : decode cX4_undo 11 = .ok (.dup, 1) := by decide +kernel
theorem dX4_undo_12 : decode cX4_undo 12 = .ok (.getfield 80, 3) := by decide +kernel
theorem dX4_undo_15 : decode cX4_undo 15 = .ok (.iconst 1, 1) := by decide +kernel
theorem dX4_undo_16 : decode cX4_undo 16 = .ok (.isub, 1) := by decide +kernel
theorem dX4_undo_17 : decode cX4_undo 17 = .ok (.putfield 80, 3) := by decide +kernel
theorem dX4_undo_20 : decode cX4_undo 20 = .ok (.aload_n 0, 1) := by decide +kernel
theorem dX4_undo_21 : decode cX4_undo 21 = .ok (.aload_n 0, 1) := by decide +kernel
theorem dX4_undo_22 : decode cX4_undo 22 = .ok (.getfield 102, 3) := by decide +kernel
theorem dX4_undo_25 : decode cX4_undo 25 = .ok (.bipush 13, 2) := by decide +kernel
theorem dX4_undo_27 : decode cX4_undo 27 = .ok (.iadd, 1) := by decide +kernel
theorem dX4_undo_28 : decode cX4_undo 28 = .ok (.bipush 14, 2) := by decide +kernel
theorem dX4_undo_30 : decode cX4_undo 30 = .ok (.irem, 1) := by decide +kernel
theorem dX4_undo_31 : decode cX4_undo 31 = .ok (.putfield 102, 3) := by decide +kernel
theorem dX4_undo_34 : decode cX4_undo 34 = .ok (.iconst 0, 1) := by decide +kernel
theorem dX4_undo_35 : decode cX4_undo 35 = .ok (.istore_n 1, 1) := by decide +kernel
theorem dX4_undo_36 : decode cX4_undo 36 = .ok (.iload_n 1, 1) := by decide +kernel
theorem dX4_undo_37 : decode cX4_undo 37 = .ok (.bipush 27, 2) := by decide +kernel
theorem dX4_undo_39 : decode cX4_undo 39 = .ok (.if_icmp .ge 29, 3) := by decide +kernel
theorem dX4_undo_42 : decode cX4_undo 42 = .ok (.aload_n 0, 1) := by decide +kernel
theorem dX4_undo_43 : decode cX4_undo 43 = .ok (.getfield 16, 3) := by decide +kernel
theorem dX4_undo_46 : decode cX4_undo 46 = .ok (.iload_n 1, 1) := by decide +kernel
theorem dX4_undo_47 : decode cX4_undo 47 = .ok (.aload_n 0, 1) := by decide +kernel
theorem dX4_undo_48 : decode cX4_undo 48 = .ok (.getfield 25, 3) := by decide +kernel
theorem dX4_undo_51 : decode cX4_undo 51 = .ok (.bipush 27, 2) := by decide +kernel
theorem dX4_undo_53 : decode cX4_undo 53 = .ok (.aload_n 0, 1) := by decide +kernel
theorem dX4_undo_54 : decode cX4_undo 54 = .ok (.getfield 102, 3) := by decide +kernel
theorem dX4_undo_57 : decode cX4_undo 57 = .ok (.imul, 1) := by decide +kernel
theorem dX4_undo_58 : decode cX4_undo 58 = .ok (.iload_n 1, 1) := by decide +kernel
theorem dX4_undo_59 : decode cX4_undo 59 = .ok (.iadd, 1) := by decide +kernel
theorem dX4_undo_60 : decode cX4_undo 60 = .ok (.iaload, 1) := by decide +kernel
theorem dX4_undo_61 : decode cX4_undo 61 = .ok (.iastore, 1) := by decide +kernel
theorem dX4_undo_62 : decode cX4_undo 62 = .ok (.iinc 1 1, 3) := by decide +kernel
theorem dX4_undo_65 : decode cX4_undo 65 = .ok (.goto (-29), 3) := by decide +kernel
theorem dX4_undo_68 : decode cX4_undo 68 = .ok (.aload_n 0, 1) := by decide +kernel
theorem dX4_undo_69 : decode cX4_undo 69 = .ok (.getfield 80, 3) := by decide +kernel
theorem dX4_undo_72 : decode cX4_undo 72 = .ok (.ireturn, 1) := by decide +kernel
set_option maxRecDepth 20000 in
theorem hiX4_undo_X4 : ∀ w ∈ u_ws RX4 TX4 24, w ∈ wsX4_undo := by decide +kernel
set_option maxHeartbeats 4000000 in
set_option maxRecDepth 100000 in
theorem wm_undo_36 {p : Program} {l : Launch} {e : Env} {s : State} {m : MethodId} {args : Array Value} {below : List Frame} {meth : Method} {c : Code} {D : va_G} {L : Nat → Nat} {K : Nat → ClassId} (hJ : gj L 12) (C0 : gC cX4_undo 2 (some .int) wsX4_undo RX4 p s m args meth c) (hK : va_K D vwCl (tyG K) s) (hE : eM s) {w9 : St} {rs : Int32} : ∀ (fu : Nat) (x1 : Int32) (w : St) (H : Heap) (locs : List Loc) (ls : Array Slot), va_P D vwCl (gl L 12 (cM L K w)) H → va_S (gA L 12) s.heap H locs → lv_has ls 2 [(0, .ref (L 0)), (1, .int x1)] → fm_undo_36 fu x1 w = some (rs, w9) → W p l e { frames := 0, cells := 0, slots := 0, locals := 0 } s m args below meth c H locs 0 0 (MQ below (qI D L 12 (cM L K) rs w9) args s 0 0 (gA L 12)) (F0 m 36 ls []) := by
  obtain ⟨hx, hb, hr, hml, hown, hts, hlk⟩ := id C0
  intro fu
  induction fu with
  | zero =>
    intro x1 w H locs ls hw hS hl hf
    rw [fm_undo_36] at hf
    exact no_n hf
  | succ fu ih =>
    intro x1 w H locs ls hw hS hl hf
    rw [fm_undo_36] at hf
    refine lv_iload_n hx hb dX4_undo_36 rfl (lv_at hl 1 rfl) ?_
    refine lv_bipush (v := 27) hx hb dX4_undo_37 (by decide) ?_
    refine lv_icmp_ge (tgt := 68) hx hb dX4_undo_39 (by decide) (fun c39 => ?_) (fun c39 => ?_)
    · replace hf := if_t hf c39
      refine lv_aload_n hx hb dX4_undo_68 rfl (lv_at hl 0 rfl) ?_
      refine z_get (v := .int (w.1 0 12)) hx hb hts hiX4_undo_X4 hown hK hw (k := 0) (by decide) ((fun w => rfl) _) rfl 12 (by decide) (hts (.fieldLink RX4 80 "OneSentenceModel" "acts" "I") (by decide +kernel)) rfl dX4_undo_69 ?_
      exact z_iret hx hb hr hlk hw hS hf dX4_undo_72
    · replace hf := if_f hf c39
      refine lv_aload_n hx hb dX4_undo_42 rfl (lv_at hl 0 rfl) ?_
      refine z_get (v := .ref (L 3)) hx hb hts hiX4_undo_X4 hown hK hw (k := 0) (by decide) ((fun w => rfl) _) rfl 4 (by decide) (hts (.fieldLink RX4 16 "OneSentenceModel" "now" "[I") (by decide +kernel)) rfl dX4_undo_43 ?_
      refine lv_iload_n hx hb dX4_undo_46 rfl (lv_at hl 1 rfl) ?_
      refine lv_aload_n hx hb dX4_undo_47 rfl (lv_at hl 0 rfl) ?_
      refine z_get (v := .ref (L 6)) hx hb hts hiX4_undo_X4 hown hK hw (k := 0) (by decide) ((fun w => rfl) _) rfl 14 (by decide) (hts (.fieldLink RX4 25 "OneSentenceModel" "row" "[I") (by decide +kernel)) rfl dX4_undo_48 ?_
      refine lv_bipush (v := 27) hx hb dX4_undo_51 (by decide) ?_
      refine lv_aload_n hx hb dX4_undo_53 rfl (lv_at hl 0 rfl) ?_
      refine z_get (v := .int (w.1 0 13)) hx hb hts hiX4_undo_X4 hown hK hw (k := 0) (by decide) ((fun w => rfl) _) rfl 13 (by decide) (hts (.fieldLink RX4 102 "OneSentenceModel" "next" "I") (by decide +kernel)) rfl dX4_undo_54 ?_
      refine lv_imul hx hb dX4_undo_57 ?_
      refine lv_iload_n hx hb dX4_undo_58 rfl (lv_at hl 1 rfl) ?_
      refine lv_iadd hx hb dX4_undo_59 ?_
      obtain ⟨v60, h60, hf⟩ := bd_e hf
      refine z_iald hx hb hK hw 0 (k := 6) (by decide) ((fun w => rfl) _) rfl h60 dX4_undo_60 ?_
      obtain ⟨w61, h61, hf⟩ := bd_e hf
      refine z_iast hx hb hK hJ hw hS 0 (k := 3) (by decide) cM_ne (fun w => rfl) rfl h61 dX4_undo_61 (fun H locs hw hS => ?_)
      refine lv_iinc (v := (x1 + 1)) (lv' := [(1, .int (x1 + 1)), (0, .ref (L 0))]) hx hb dX4_undo_62 hl (k := 1) rfl rfl (by decide) rfl (fun ls hl => ?_)
      refine lv_goto (tgt := 36) hx hb dX4_undo_65 (by decide) ?_
      exact ih _ _ _ _ _ hw hS (lv_sub hl [1, 0] rfl) hf
set_option maxHeartbeats 4000000 in
set_option maxRecDepth 100000 in
theorem wm_undo_0 {p : Program} {l : Launch} {e : Env} {s : State} {m : MethodId} {args : Array Value} {below : List Frame} {meth : Method} {c : Code} {D : va_G} {L : Nat → Nat} {K : Nat → ClassId} (hJ : gj L 12) (C0 : gC cX4_undo 2 (some .int) wsX4_undo RX4 p s m args meth c) (hK : va_K D vwCl (tyG K) s) (hE : eM s) {w9 : St} {rs : Int32} : ∀ (w : St) (H : Heap) (locs : List Loc) (ls : Array Slot), va_P D vwCl (gl L 12 (cM L K w)) H → va_S (gA L 12) s.heap H locs → lv_has ls 2 [(0, .ref (L 0))] → fm_undo w = some (rs, w9) → W p l e { frames := 0, cells := 0, slots := 0, locals := 0 } s m args below meth c H locs 0 0 (MQ below (qI D L 12 (cM L K) rs w9) args s 0 0 (gA L 12)) (F0 m 0 ls []) := by
  obtain ⟨hx, hb, hr, hml, hown, hts, hlk⟩ := id C0
  intro w H locs ls hw hS hl hf
  unfold fm_undo at hf
  refine lv_aload_n hx hb dX4_undo_0 rfl (lv_at hl 0 rfl) ?_
  refine z_get (v := .int (w.1 0 12)) hx hb hts hiX4_undo_X4 hown hK hw (k := 0) (by decide) ((fun w => rfl) _) rfl 12 (by decide) (hts (.fieldLink RX4 80 "OneSentenceModel" "acts" "I") (by decide +kernel)) rfl dX4_undo_1 ?_
  refine lv_if_ne (tgt := 10) hx hb dX4_undo_4 (by decide) (fun c4 => ?_) (fun c4 => ?_)
  · replace hf := if_f hf c4
    refine lv_aload_n hx hb dX4_undo_10 rfl (lv_at hl 0 rfl) ?_
    refine lv_dup hx hb dX4_undo_11 rfl ?_
    refine z_get (v := .int (w.1 0 12)) hx hb hts hiX4_undo_X4 hown hK hw (k := 0) (by decide) ((fun w => rfl) _) rfl 12 (by decide) (hts (.fieldLink RX4 80 "OneSentenceModel" "acts" "I") (by decide +kernel)) rfl dX4_undo_12 ?_
    refine lv_iconst (v := 1) hx hb dX4_undo_15 (by decide) ?_
    refine lv_isub hx hb dX4_undo_16 ?_
    refine z_puti hx hb hts hiX4_undo_X4 tyX4 tyX4_ok nmX4 hown hK hJ hw hS (k := 0) (by decide) cM_ne (fs := fM0 L) (fun w => rfl) rfl 12 (by decide) (hts (.fieldLink RX4 80 "OneSentenceModel" "acts" "I") (by decide +kernel)) rfl rfl (fun _ _ => ⟨Nat.le_of_ble_eq_true rfl, rfl⟩) dX4_undo_17 (fun H locs hw hS => ?_)
    refine lv_aload_n hx hb dX4_undo_20 rfl (lv_at hl 0 rfl) ?_
    refine lv_aload_n hx hb dX4_undo_21 rfl (lv_at hl 0 rfl) ?_
    refine z_get (v := .int ((wr w 0 12 ((w.1 0 12) - (1 : Int32))).1 0 13)) hx hb hts hiX4_undo_X4 hown hK hw (k := 0) (by decide) ((fun w => rfl) _) rfl 13 (by decide) (hts (.fieldLink RX4 102 "OneSentenceModel" "next" "I") (by decide +kernel)) rfl dX4_undo_22 ?_
    refine lv_bipush (v := 13) hx hb dX4_undo_25 (by decide) ?_
    refine lv_iadd hx hb dX4_undo_27 ?_
    refine lv_bipush (v := 14) hx hb dX4_undo_28 (by decide) ?_
    refine lv_irem hx hb dX4_undo_30 (by decide) ?_
    refine z_puti hx hb hts hiX4_undo_X4 tyX4 tyX4_ok nmX4 hown hK hJ hw hS (k := 0) (by decide) cM_ne (fs := fM0 L) (fun w => rfl) rfl 13 (by decide) (hts (.fieldLink RX4 102 "OneSentenceModel" "next" "I") (by decide +kernel)) rfl rfl (fun _ _ => ⟨Nat.le_of_ble_eq_true rfl, rfl⟩) dX4_undo_31 (fun H locs hw hS => ?_)
    refine lv_iconst (v := 0) hx hb dX4_undo_34 (by decide) ?_
    refine lv_istore_n (lv' := [(1, .int 0), (0, .ref (L 0))]) hx hb dX4_undo_35 rfl hl (by decide) rfl (fun ls hl => ?_)
    exact wm_undo_36 hJ C0 hK hE _ _ _ _ _ _ hw hS (lv_sub hl [1, 0] rfl) hf
  · replace hf := if_t hf c4
    refine lv_bipush (v := (-3)) hx hb dX4_undo_7 (by decide) ?_
    exact z_iret hx hb hr hlk hw hS hf dX4_undo_9
set_option maxHeartbeats 4000000 in
set_option maxRecDepth 100000 in
theorem km_undo (l : Launch) {D : va_G} {L : Nat → Nat} {K : Nat → ClassId} (hJ : gj L 12) (w : St) {w9 : St} {rs : Int32} (hf : fm_undo w = some (rs, w9)) : Met l yX4_undo wsX4_undo ({ frames := 0, cells := 0, slots := 0, locals := 0 }) (va_Pc [.ref (L 0)] (mP D L K w)) (qI D L 12 (cM L K) rs w9) 0 0 (gA L 12) := by
  refine g_met (cc := cX4_undo) (nL := 2) (ret := (some .int)) (by decide) rfl (Nat.le_of_ble_eq_true rfl) (fun p e s m below meth c ls C0 hP hl => ?_)
  exact wm_undo_0 hJ C0 hP.2.1 hP.2.2 w _ _ ls hP.1 va_S.rf (lv_sub hl [0] rfl) hf
theorem dX4_layTrial_0 : decode cX4_layTrial 0 = .ok (.iconst 0, 1) := by decide +kernel
theorem dX4_layTrial_1 : decode cX4_layTrial 1 = .ok (.istore_n 2, 1) := by decide +kernel
theorem dX4_layTrial_2 : decode cX4_layTrial 2 = .ok (.iload_n 2, 1) := by decide +kernel
theorem dX4_layTrial_3 : decode cX4_layTrial 3 = .ok (.bipush 27, 2) := by decide +kernel
theorem dX4_layTrial_5 : decode cX4_layTrial 5 = .ok (.if_icmp .ge 24, 3) := by decide +kernel
theorem dX4_layTrial_8 : decode cX4_layTrial 8 = .ok (.aload_n 0, 1) := by decide +kernel
theorem dX4_layTrial_9 : decode cX4_layTrial 9 = .ok (.getfield 16, 3) := by decide +kernel
theorem dX4_layTrial_12 : decode cX4_layTrial 12 = .ok (.bipush 27, 2) := by decide +kernel
theorem dX4_layTrial_14 : decode cX4_layTrial 14 = .ok (.iload_n 2, 1) := by decide +kernel
theorem dX4_layTrial_15 : decode cX4_layTrial 15 = .ok (.iadd, 1) := by decide +kernel
theorem dX4_layTrial_16 : decode cX4_layTrial 16 = .ok (.aload_n 0, 1) := by decide +kernel
theorem dX4_layTrial_17 : decode cX4_layTrial 17 = .ok (.getfield 16, 3) := by decide +kernel
theorem dX4_layTrial_20 : decode cX4_layTrial 20 = .ok (.iload_n 2, 1) := by decide +kernel
theorem dX4_layTrial_21 : decode cX4_layTrial 21 = .ok (.iaload, 1) := by decide +kernel
theorem dX4_layTrial_22 : decode cX4_layTrial 22 = .ok (.iastore, 1) := by decide +kernel
theorem dX4_layTrial_23 : decode cX4_layTrial 23 = .ok (.iinc 2 1, 3) := by decide +kernel
theorem dX4_layTrial_26 : decode cX4_layTrial 26 = .ok (.goto (-24), 3) := by decide +kernel
theorem dX4_layTrial_29 : decode cX4_layTrial 29 = .ok (.aload_n 0, 1) := by decide +kernel
theorem dX4_layTrial_30 : decode cX4_layTrial 30 = .ok (.getfield 16, 3) := by decide +kernel
theorem dX4_layTrial_33 : decode cX4_layTrial 33 = .ok (.bipush 27, 2) := by decide +kernel
theorem dX4_layTrial_35 : decode cX4_layTrial 35 = .ok (.iload_n 1, 1) := by decide +kernel
theorem dX4_layTrial_36 : decode cX4_layTrial 36 = .ok (.iastore, 1) := by decide +kernel
theorem dX4_layTrial_37 : decode cX4_layTrial 37 = .ok (.aload_n 0, 1) := by decide +kernel
theorem dX4_layTrial_38 : decode cX4_layTrial 38 = .ok (.getfield 16, 3) := by decide +kernel
theorem dX4_layTrial_41 : decode cX4_layTrial 41 = .ok (.bipush 34, 2) := by decide +kernel
theorem dX4_layTrial_43 : decode cX4_layTrial 43 = .ok (.aload_n 0, 1) := by decide +kernel
theorem dX4_layTrial_44 : decode cX4_layTrial 44 = .ok (.getfield 121, 3) := by decide +kernel
theorem dX4_layTrial_47 : decode cX4_layTrial 47 = .ok (.iastore, 1) := by decide +kernel
theorem dX4_layTrial_48 : decode cX4_layTrial 48 = .ok (.aload_n 0, 1) := by decide +kernel
theorem dX4_layTrial_49 : decode cX4_layTrial 49 = .ok (.getfield 16, 3) := by decide +kernel
theorem dX4_layTrial_52 : decode cX4_layTrial 52 = .ok (.bipush 41, 2) := by decide +kernel
theorem dX4_layTrial_54 : decode cX4_layTrial 54 = .ok (.aload_n 0, 1) := by decide +kernel
theorem dX4_layTrial_55 : decode cX4_layTrial 55 = .ok (.getfield 124, 3) := by decide +kernel
theorem dX4_layTrial_58 : decode cX4_layTrial 58 = .ok (.iastore, 1) := by decide +kernel
theorem dX4_layTrial_59 : decode cX4_layTrial 59 = .ok (.aload_n 0, 1) := by decide +kernel
theorem dX4_layTrial_60 : decode cX4_layTrial 60 = .ok (.getfield 16, 3) := by decide +kernel
theorem dX4_layTrial_63 : decode cX4_layTrial 63 = .ok (.bipush 48, 2) := by decide +kernel
theorem dX4_layTrial_65 : decode cX4_layTrial 65 = .ok (.iconst 0, 1) := by decide +kernel
theorem dX4_layTrial_66 : decode cX4_layTrial 66 = .ok (.iastore, 1) := by decide +kernel
theorem dX4_layTrial_67 : decode cX4_layTrial 67 = .ok (.return_, 1) := by decide +kernel
set_option maxRecDepth 20000 in
theorem hiX4_layTrial_X4 : ∀ w ∈ u_ws RX4 TX4 24, w ∈ wsX4_layTrial := by decide +kernel
set_option maxHeartbeats 4000000 in
set_option maxRecDepth 100000 in
theorem wm_layTrial_2 {p : Program} {l : Launch} {e : Env} {s : State} {m : MethodId} {args : Array Value} {below : List Frame} {meth : Method} {c : Code} {D : va_G} {L : Nat → Nat} {K : Nat → ClassId} (hJ : gj L 12) (C0 : gC cX4_layTrial 3 none wsX4_layTrial RX4 p s m args meth c) (hK : va_K D vwCl (tyG K) s) (hE : eM s) {w9 : St} : ∀ (fu : Nat) (x1 : Int32) (x2 : Int32) (w : St) (H : Heap) (locs : List Loc) (ls : Array Slot), va_P D vwCl (gl L 12 (cM L K w)) H → va_S (gA L 12) s.heap H locs → lv_has ls 3 [(0, .ref (L 0)), (1, .int x1), (2, .int x2)] → fm_layTrial_2 fu x1 x2 w = some w9 → W p l e { frames := 0, cells := 0, slots := 0, locals := 0 } s m args below meth c H locs 0 0 (MQ below (qV D L 12 (cM L K) w9) args s 0 0 (gA L 12)) (F0 m 2 ls []) := by
  obtain ⟨hx, hb, hr, hml, hown, hts, hlk⟩ := id C0
  intro fu
  induction fu with
  | zero =>
    intro x1 x2 w H locs ls hw hS hl hf
    rw [fm_layTrial_2] at hf
    exact no_n hf
  | succ fu ih =>
    intro x1 x2 w H locs ls hw hS hl hf
    rw [fm_layTrial_2] at hf
    refine lv_iload_n hx hb dX4_layTrial_2 rfl (lv_at hl 2 rfl) ?_
    refine lv_bipush (v := 27) hx hb dX4_layTrial_3 (by decide) ?_
    refine lv_icmp_ge (tgt := 29) hx hb dX4_layTrial_5 (by decide) (fun c5 => ?_) (fun c5 => ?_)
    · replace hf := if_t hf c5
      refine lv_aload_n hx hb dX4_layTrial_29 rfl (lv_at hl 0 rfl) ?_
      refine z_get (v := .ref (L 3)) hx hb hts hiX4_layTrial_X4 hown hK hw (k := 0) (by decide) ((fun w => rfl) _) rfl 4 (by decide) (hts (.fieldLink RX4 16 "OneSentenceModel" "now" "[I") (by decide +kernel)) rfl dX4_layTrial_30 ?_
      refine lv_bipush (v := 27) hx hb dX4_layTrial_33 (by decide) ?_
      refine lv_iload_n hx hb dX4_layTrial_35 rfl (lv_at hl 1 rfl) ?_
      obtain ⟨w36, h36, hf⟩ := bd_e hf
      refine z_iast hx hb hK hJ hw hS 0 (k := 3) (by decide) cM_ne (fun w => rfl) rfl h36 dX4_layTrial_36 (fun H locs hw hS => ?_)
      refine lv_aload_n hx hb dX4_layTrial_37 rfl (lv_at hl 0 rfl) ?_
      refine z_get (v := .ref (L 3)) hx hb hts hiX4_layTrial_X4 hown hK hw (k := 0) (by decide) ((fun w => rfl) _) rfl 4 (by decide) (hts (.fieldLink RX4 16 "OneSentenceModel" "now" "[I") (by decide +kernel)) rfl dX4_layTrial_38 ?_
      refine lv_bipush (v := 34) hx hb dX4_layTrial_41 (by decide) ?_
      refine lv_aload_n hx hb dX4_layTrial_43 rfl (lv_at hl 0 rfl) ?_
      refine z_get (v := .int (w36.1 0 15)) hx hb hts hiX4_layTrial_X4 hown hK hw (k := 0) (by decide) ((fun w => rfl) _) rfl 15 (by decide) (hts (.fieldLink RX4 121 "OneSentenceModel" "newSort" "I") (by decide +kernel)) rfl dX4_layTrial_44 ?_
      obtain ⟨w47, h47, hf⟩ := bd_e hf
      refine z_iast hx hb hK hJ hw hS 0 (k := 3) (by decide) cM_ne (fun w => rfl) rfl h47 dX4_layTrial_47 (fun H locs hw hS => ?_)
      refine lv_aload_n hx hb dX4_layTrial_48 rfl (lv_at hl 0 rfl) ?_
      refine z_get (v := .ref (L 3)) hx hb hts hiX4_layTrial_X4 hown hK hw (k := 0) (by decide) ((fun w => rfl) _) rfl 4 (by decide) (hts (.fieldLink RX4 16 "OneSentenceModel" "now" "[I") (by decide +kernel)) rfl dX4_layTrial_49 ?_
      refine lv_bipush (v := 41) hx hb dX4_layTrial_52 (by decide) ?_
      refine lv_aload_n hx hb dX4_layTrial_54 rfl (lv_at hl 0 rfl) ?_
      refine z_get (v := .int (w47.1 0 16)) hx hb hts hiX4_layTrial_X4 hown hK hw (k := 0) (by decide) ((fun w => rfl) _) rfl 16 (by decide) (hts (.fieldLink RX4 124 "OneSentenceModel" "newFigure" "I") (by decide +kernel)) rfl dX4_layTrial_55 ?_
      obtain ⟨w58, h58, hf⟩ := bd_e hf
      refine z_iast hx hb hK hJ hw hS 0 (k := 3) (by decide) cM_ne (fun w => rfl) rfl h58 dX4_layTrial_58 (fun H locs hw hS => ?_)
      refine lv_aload_n hx hb dX4_layTrial_59 rfl (lv_at hl 0 rfl) ?_
      refine z_get (v := .ref (L 3)) hx hb hts hiX4_layTrial_X4 hown hK hw (k := 0) (by decide) ((fun w => rfl) _) rfl 4 (by decide) (hts (.fieldLink RX4 16 "OneSentenceModel" "now" "[I") (by decide +kernel)) rfl dX4_layTrial_60 ?_
      refine lv_bipush (v := 48) hx hb dX4_layTrial_63 (by decide) ?_
      refine lv_iconst (v := 0) hx hb dX4_layTrial_65 (by decide) ?_
      obtain ⟨w66, h66, hf⟩ := bd_e hf
      refine z_iast hx hb hK hJ hw hS 0 (k := 3) (by decide) cM_ne (fun w => rfl) rfl h66 dX4_layTrial_66 (fun H locs hw hS => ?_)
      exact z_vret hx hb hr hlk hw hS hf dX4_layTrial_67
    · replace hf := if_f hf c5
      refine lv_aload_n hx hb dX4_layTrial_8 rfl (lv_at hl 0 rfl) ?_
      refine z_get (v := .ref (L 3)) hx hb hts hiX4_layTrial_X4 hown hK hw (k := 0) (by decide) ((fun w => rfl) _) rfl 4 (by decide) (hts (.fieldLink RX4 16 "OneSentenceModel" "now" "[I") (by decide +kernel)) rfl dX4_layTrial_9 ?_
      refine lv_bipush (v := 27) hx hb dX4_layTrial_12 (by decide) ?_
      refine lv_iload_n hx hb dX4_layTrial_14 rfl (lv_at hl 2 rfl) ?_
      refine lv_iadd hx hb dX4_layTrial_15 ?_
      refine lv_aload_n hx hb dX4_layTrial_16 rfl (lv_at hl 0 rfl) ?_
      refine z_get (v := .ref (L 3)) hx hb hts hiX4_layTrial_X4 hown hK hw (k := 0) (by decide) ((fun w => rfl) _) rfl 4 (by decide) (hts (.fieldLink RX4 16 "OneSentenceModel" "now" "[I") (by decide +kernel)) rfl dX4_layTrial_17 ?_
      refine lv_iload_n hx hb dX4_layTrial_20 rfl (lv_at hl 2 rfl) ?_
      obtain ⟨v21, h21, hf⟩ := bd_e hf
      refine z_iald hx hb hK hw 0 (k := 3) (by decide) ((fun w => rfl) _) rfl h21 dX4_layTrial_21 ?_
      obtain ⟨w22, h22, hf⟩ := bd_e hf
      refine z_iast hx hb hK hJ hw hS 0 (k := 3) (by decide) cM_ne (fun w => rfl) rfl h22 dX4_layTrial_22 (fun H locs hw hS => ?_)
      refine lv_iinc (v := (x2 + 1)) (lv' := [(2, .int (x2 + 1)), (0, .ref (L 0)), (1, .int x1)]) hx hb dX4_layTrial_23 hl (k := 2) rfl rfl (by decide) rfl (fun ls hl => ?_)
      refine lv_goto (tgt := 2) hx hb dX4_layTrial_26 (by decide) ?_
      exact ih _ _ _ _ _ _ hw hS (lv_sub hl [1, 2, 0] rfl) hf
set_option maxHeartbeats 4000000 in
set_option maxRecDepth 100000 in
theorem wm_layTrial_0 {p : Program} {l : Launch} {e : Env} {s : State} {m : MethodId} {args : Array Value} {below : List Frame} {meth : Method} {c : Code} {D : va_G} {L : Nat → Nat} {K : Nat → ClassId} (hJ : gj L 12) (C0 : gC cX4_layTrial 3 none wsX4_layTrial RX4 p s m args meth c) (hK : va_K D vwCl (tyG K) s) (hE : eM s) {w9 : St} : ∀ (x1 : Int32) (w : St) (H : Heap) (locs : List Loc) (ls : Array Slot), va_P D vwCl (gl L 12 (cM L K w)) H → va_S (gA L 12) s.heap H locs → lv_has ls 3 [(0, .ref (L 0)), (1, .int x1)] → fm_layTrial x1 w = some w9 → W p l e { frames := 0, cells := 0, slots := 0, locals := 0 } s m args below meth c H locs 0 0 (MQ below (qV D L 12 (cM L K) w9) args s 0 0 (gA L 12)) (F0 m 0 ls []) := by
  obtain ⟨hx, hb, hr, hml, hown, hts, hlk⟩ := id C0
  intro x1 w H locs ls hw hS hl hf
  unfold fm_layTrial at hf
  refine lv_iconst (v := 0) hx hb dX4_layTrial_0 (by decide) ?_
  refine lv_istore_n (lv' := [(2, .int 0), (0, .ref (L 0)), (1, .int x1)]) hx hb dX4_layTrial_1 rfl hl (by decide) rfl (fun ls hl => ?_)
  exact wm_layTrial_2 hJ C0 hK hE _ _ _ _ _ _ _ hw hS (lv_sub hl [1, 2, 0] rfl) hf
set_option maxHeartbeats 4000000 in
set_option maxRecDepth 100000 in
theorem km_layTrial (l : Launch) {D : va_G} {L : Nat → Nat} {K : Nat → ClassId} (hJ : gj L 12) (x1 : Int32) (w : St) {w9 : St} (hf : fm_layTrial x1 w = some w9) : Met l yX4_layTrial wsX4_layTrial ({ frames := 0, cells := 0, slots := 0, locals := 0 }) (va_Pc [.ref (L 0), .int x1] (mP D L K w)) (qV D L 12 (cM L K) w9) 0 0 (gA L 12) := by
  refine g_met (cc := cX4_layTrial) (nL := 3) (ret := none) (by decide) rfl (Nat.le_of_ble_eq_true rfl) (fun p e s m below meth c ls C0 hP hl => ?_)
  exact wm_layTrial_0 hJ C0 hP.2.1 hP.2.2 _ w _ _ ls hP.1 va_S.rf (lv_sub hl [0, 1] rfl) hf
theorem dX4_tenTo_0 : decode cX4_tenTo 0 = .ok (.iconst 1, 1) := by decide +kernel
theorem dX4_tenTo_1 : decode cX4_tenTo 1 = .ok (.istore_n 1, 1) := by decide +kernel
theorem dX4_tenTo_2 : decode cX4_tenTo 2 = .ok (.iconst 0, 1) := by decide +kernel
theorem dX4_tenTo_3 : decode cX4_tenTo 3 = .ok (.istore_n 2, 1) := by decide +kernel
theorem dX4_tenTo_4 : decode cX4_tenTo 4 = .ok (.iload_n 2, 1) := by decide +kernel
theorem dX4_tenTo_5 : decode cX4_tenTo 5 = .ok (.iload_n 0, 1) := by decide +kernel
theorem dX4_tenTo_6 : decode cX4_tenTo 6 = .ok (.if_icmp .ge 14, 3) := by decide +kernel
theorem dX4_tenTo_9 : decode cX4_tenTo 9 = .ok (.iload_n 1, 1) := by decide +kernel
theorem dX4_tenTo_10 : decode cX4_tenTo 10 = .ok (.bipush 10, 2) := by decide +kernel
theorem dX4_tenTo_12 : decode cX4_tenTo 12 = .ok (.imul, 1) := by decide +kernel
theorem dX4_tenTo_13 : decode cX4_tenTo 13 = .ok (.istore_n 1, 1) := by decide +kernel
theorem dX4_tenTo_14 : decode cX4_tenTo 14 = .ok (.iinc 2 1, 3) := by decide +kernel
theorem dX4_tenTo_17 : decode cX4_tenTo 17 = .ok (.goto (-13), 3) := by decide +kernel
theorem dX4_tenTo_20 : decode cX4_tenTo 20 = .ok (.iload_n 1, 1) := by decide +kernel
theorem dX4_tenTo_21 : decode cX4_tenTo 21 = .ok (.ireturn, 1) := by decide +kernel
set_option maxHeartbeats 4000000 in
set_option maxRecDepth 100000 in
theorem wm_tenTo_4 {p : Program} {l : Launch} {e : Env} {s : State} {m : MethodId} {args : Array Value} {below : List Frame} {meth : Method} {c : Code} (C0 : gC cX4_tenTo 3 (some .int) wsX4_tenTo RX4 p s m args meth c) {rs : Int32} : ∀ (fu : Nat) (x0 : Int32) (x1 : Int32) (x2 : Int32) (ls : Array Slot), lv_has ls 3 [(0, .int x0), (1, .int x1), (2, .int x2)] → fm_tenTo_4 fu x0 x1 x2 = some rs → W p l e { frames := 0, cells := 0, slots := 0, locals := 0 } s m args below meth c s.heap [] 0 0 (MQ below (qS rs) args s 0 0 (fun _ => False)) (F0 m 4 ls []) := by
  obtain ⟨hx, hb, hr, hml, hown, hts, hlk⟩ := id C0
  intro fu
  induction fu with
  | zero =>
    intro x0 x1 x2 ls hl hf
    rw [fm_tenTo_4] at hf
    exact no_n hf
  | succ fu ih =>
    intro x0 x1 x2 ls hl hf
    rw [fm_tenTo_4] at hf
    refine lv_iload_n hx hb dX4_tenTo_4 rfl (lv_at hl 2 rfl) ?_
    refine lv_iload_n hx hb dX4_tenTo_5 rfl (lv_at hl 0 rfl) ?_
    refine lv_icmp_ge (tgt := 20) hx hb dX4_tenTo_6 (by decide) (fun c6 => ?_) (fun c6 => ?_)
    · replace hf := if_t hf c6
      refine lv_iload_n hx hb dX4_tenTo_20 rfl (lv_at hl 1 rfl) ?_
      exact z_sret hx hb hr hlk hf dX4_tenTo_21
    · replace hf := if_f hf c6
      refine lv_iload_n hx hb dX4_tenTo_9 rfl (lv_at hl 1 rfl) ?_
      refine lv_bipush (v := 10) hx hb dX4_tenTo_10 (by decide) ?_
      refine lv_imul hx hb dX4_tenTo_12 ?_
      refine lv_topi (fun v13 e13 => ?_)
      replace hf := lb_e hf e13
      refine lv_istore_n (lv' := [(1, .int v13), (0, .int x0), (2, .int x2)]) hx hb dX4_tenTo_13 rfl hl (by decide) rfl (fun ls hl => ?_)
      refine lv_iinc (v := (x2 + 1)) (lv' := [(2, .int (x2 + 1)), (1, .int v13), (0, .int x0)]) hx hb dX4_tenTo_14 hl (k := 2) rfl rfl (by decide) rfl (fun ls hl => ?_)
      refine lv_goto (tgt := 4) hx hb dX4_tenTo_17 (by decide) ?_
      exact ih _ _ _ _ (lv_sub hl [2, 1, 0] rfl) hf
set_option maxHeartbeats 4000000 in
set_option maxRecDepth 100000 in
theorem wm_tenTo_0 {p : Program} {l : Launch} {e : Env} {s : State} {m : MethodId} {args : Array Value} {below : List Frame} {meth : Method} {c : Code} (C0 : gC cX4_tenTo 3 (some .int) wsX4_tenTo RX4 p s m args meth c) {rs : Int32} : ∀ (x0 : Int32) (ls : Array Slot), lv_has ls 3 [(0, .int x0)] → fm_tenTo x0 = some rs → W p l e { frames := 0, cells := 0, slots := 0, locals := 0 } s m args below meth c s.heap [] 0 0 (MQ below (qS rs) args s 0 0 (fun _ => False)) (F0 m 0 ls []) := by
  obtain ⟨hx, hb, hr, hml, hown, hts, hlk⟩ := id C0
  intro x0 ls hl hf
  unfold fm_tenTo at hf
  refine lv_iconst (v := 1) hx hb dX4_tenTo_0 (by decide) ?_
  refine lv_istore_n (lv' := [(1, .int 1), (0, .int x0)]) hx hb dX4_tenTo_1 rfl hl (by decide) rfl (fun ls hl => ?_)
  refine lv_iconst (v := 0) hx hb dX4_tenTo_2 (by decide) ?_
  refine lv_istore_n (lv' := [(2, .int 0), (1, .int 1), (0, .int x0)]) hx hb dX4_tenTo_3 rfl hl (by decide) rfl (fun ls hl => ?_)
  exact wm_tenTo_4 C0 _ _ _ _ _ (lv_sub hl [2, 1, 0] rfl) hf
set_option maxHeartbeats 4000000 in
set_option maxRecDepth 100000 in
theorem km_tenTo (l : Launch) (x0 : Int32) {rs : Int32} (hf : fm_tenTo x0 = some rs) : Met l yX4_tenTo wsX4_tenTo ({ frames := 0, cells := 0, slots := 0, locals := 0 }) (va_Pc [.int x0] (fun _ => True)) (qS rs) 0 0 (fun _ => False) := by
  refine g_met (cc := cX4_tenTo) (nL := 3) (ret := (some .int)) (by decide) rfl (Nat.le_of_ble_eq_true rfl) (fun p e s m below meth c ls C0 _ hl => ?_)
  exact wm_tenTo_0 C0 _ ls (lv_sub hl [0] rfl) hf
set_option maxRecDepth 20000 in
theorem ggX4_sayRow_X4_layTrial : GoodIn wsX4_sayRow wsX4_layTrial := goodIn_r _ [6, 7, 8, 9, 35, 36, 37, 38, 39, 40, 41, 42, 43, 44, 45, 46, 47, 48, 49, 50, 51, 52, 53, 54, 55, 56, 57, 58] (by decide +kernel) (by decide +kernel)
set_option maxRecDepth 20000 in
theorem gX4_sayRow_X4_layTrial : GoodIn wsX4_sayRow (wsV RX4 127 RX4 yX4_layTrial wsX4_layTrial) := goodIn_app (goodIn_of _ (by decide +kernel)) ggX4_sayRow_X4_layTrial
set_option maxRecDepth 20000 in
theorem ggX4_sayRow_X4_tenTo : GoodIn wsX4_sayRow wsX4_tenTo := goodIn_r _ [12] (by decide +kernel) (by decide +kernel)
set_option maxRecDepth 20000 in
theorem gX4_sayRow_X4_tenTo : GoodIn wsX4_sayRow (va_wsS RX4 131 yX4_tenTo wsX4_tenTo) := goodIn_app (goodIn_of _ (by decide +kernel)) ggX4_sayRow_X4_tenTo
set_option maxRecDepth 20000 in
theorem ggX4_sayRow_X4_in : GoodIn wsX4_sayRow wsX4_in := goodIn_r _ [15] (by decide +kernel) (by decide +kernel)
set_option maxRecDepth 20000 in
theorem gX4_sayRow_X4_in : GoodIn wsX4_sayRow (va_wsS RX4 46 yX4_in wsX4_in) := goodIn_app (goodIn_of _ (by decide +kernel)) ggX4_sayRow_X4_in
set_option maxRecDepth 20000 in
theorem ggX4_sayRow_X4_may : GoodIn wsX4_sayRow wsX4_may := goodIn_r _ [19, 7, 20, 21, 22, 5, 23, 35, 36, 37, 38, 39, 40, 41, 42, 43, 44, 45, 46, 47, 48, 49, 50, 51, 52, 53, 54, 55, 56, 57, 58] (by decide +kernel) (by decide +kernel)
set_option maxRecDepth 20000 in
theorem gX4_sayRow_X4_may : GoodIn wsX4_sayRow (wsV RX4 99 RX4 yX4_may wsX4_may) := goodIn_app (goodIn_of _ (by decide +kernel)) ggX4_sayRow_X4_may
set_option maxRecDepth 20000 in
theorem ggX4_sayRow_X4_sayOn : GoodIn wsX4_sayRow wsX4_sayOn := goodIn_r _ [27, 20, 7, 28, 29, 30, 5, 31, 32, 33, 34, 35, 36, 37, 38, 39, 40, 41, 42, 43, 44, 45, 46, 47, 48, 49, 50, 51, 52, 53, 54, 55, 56, 57, 58] (by decide +kernel) (by decide +kernel)
set_option maxRecDepth 20000 in
theorem gX4_sayRow_X4_sayOn : GoodIn wsX4_sayRow (wsV RX4 114 RX4 yX4_sayOn wsX4_sayOn) := goodIn_app (goodIn_of _ (by decide +kernel)) ggX4_sayRow_X4_sayOn
theorem dX4_sayRow_0 : decode cX4_sayRow 0 = .ok (.aload_n 0, 1) := by decide +kernel
theorem dX4_sayRow_1 : decode cX4_sayRow 1 = .ok (.iload_n 1, 1) := by decide +kernel
theorem dX4_sayRow_2 : decode cX4_sayRow 2 = .ok (.invokevirtual 127, 3) := by decide +kernel
theorem dX4_sayRow_5 : decode cX4_sayRow 5 = .ok (.iconst 0, 1) := by decide +kernel
theorem dX4_sayRow_6 : decode cX4_sayRow 6 = .ok (.istore 4, 2) := by decide +kernel
theorem dX4_sayRow_8 : decode cX4_sayRow 8 = .ok (.iload 4, 2) := by decide +kernel
theorem dX4_sayRow_10 : decode cX4_sayRow 10 = .ok (.iload_n 2, 1) := by decide +kernel
theorem dX4_sayRow_11 : decode cX4_sayRow 11 = .ok (.if_icmp .ge 60, 3) := by decide +kernel
theorem dX4_sayRow_14 : decode cX4_sayRow 14 = .ok (.iload_n 3, 1) := by decide +kernel
theorem dX4_sayRow_15 : decode cX4_sayRow 15 = .ok (.iload_n 2, 1) := by decide +kernel
theorem dX4_sayRow_16 : decode cX4_sayRow 16 = .ok (.iconst 1, 1) := by decide +kernel
theorem dX4_sayRow_17 : decode cX4_sayRow 17 = .ok (.isub, 1) := by decide +kernel
theorem dX4_sayRow_18 : decode cX4_sayRow 18 = .ok (.iload 4, 2) := by decide +kernel
theorem dX4_sayRow_20 : decode cX4_sayRow 20 = .ok (.isub, 1) := by decide +kernel
theorem dX4_sayRow_21 : decode cX4_sayRow 21 = .ok (.invokestatic 131, 3) := by decide +kernel
theorem dX4_sayRow_24 : decode cX4_sayRow 24 = .ok (.idiv, 1) := by decide +kernel
theorem dX4_sayRow_25 : decode cX4_sayRow 25 = .ok (.bipush 10, 2) := by decide +kernel
theorem dX4_sayRow_27 : decode cX4_sayRow 27 = .ok (.irem, 1) := by decide +kernel
theorem dX4_sayRow_28 : decode cX4_sayRow 28 = .ok (.iconst 1, 1) := by decide +kernel
theorem dX4_sayRow_29 : decode cX4_sayRow 29 = .ok (.isub, 1) := by decide +kernel
theorem dX4_sayRow_30 : decode cX4_sayRow 30 = .ok (.istore 5, 2) := by decide +kernel
theorem dX4_sayRow_32 : decode cX4_sayRow 32 = .ok (.iload 5, 2) := by decide +kernel
theorem dX4_sayRow_34 : decode cX4_sayRow 34 = .ok (.i2l, 1) := by decide +kernel
theorem dX4_sayRow_35 : decode cX4_sayRow 35 = .ok (.lconst 0, 1) := by decide +kernel
theorem dX4_sayRow_36 : decode cX4_sayRow 36 = .ok (.ldc2_w 134, 3) := by decide +kernel
theorem dX4_sayRow_39 : decode cX4_sayRow 39 = .ok (.invokestatic 46, 3) := by decide +kernel
theorem dX4_sayRow_42 : decode cX4_sayRow 42 = .ok (.ifCond .eq 13, 3) := by decide +kernel
theorem dX4_sayRow_45 : decode cX4_sayRow 45 = .ok (.aload_n 0, 1) := by decide +kernel
theorem dX4_sayRow_46 : decode cX4_sayRow 46 = .ok (.iconst 1, 1) := by decide +kernel
theorem dX4_sayRow_47 : decode cX4_sayRow 47 = .ok (.iload 5, 2) := by decide +kernel
theorem dX4_sayRow_49 : decode cX4_sayRow 49 = .ok (.invokevirtual 99, 3) := by decide +kernel
theorem dX4_sayRow_52 : decode cX4_sayRow 52 = .ok (.ifCond .ne 6, 3) := by decide +kernel
theorem dX4_sayRow_55 : decode cX4_sayRow 55 = .ok (.iload 4, 2) := by decide +kernel
theorem dX4_sayRow_57 : decode cX4_sayRow 57 = .ok (.ireturn, 1) := by decide +kernel
theorem dX4_sayRow_58 : decode cX4_sayRow 58 = .ok (.aload_n 0, 1) := by decide +kernel
theorem dX4_sayRow_59 : decode cX4_sayRow 59 = .ok (.iconst 1, 1) := by decide +kernel
theorem dX4_sayRow_60 : decode cX4_sayRow 60 = .ok (.iload 5, 2) := by decide +kernel
theorem dX4_sayRow_62 : decode cX4_sayRow 62 = .ok (.invokevirtual 114, 3) := by decide +kernel
theorem dX4_sayRow_65 : decode cX4_sayRow 65 = .ok (.iinc 4 1, 3) := by decide +kernel
theorem dX4_sayRow_68 : decode cX4_sayRow 68 = .ok (.goto (-60), 3) := by decide +kernel
theorem dX4_sayRow_71 : decode cX4_sayRow 71 = .ok (.bipush (-9), 2) := by decide +kernel
theorem dX4_sayRow_73 : decode cX4_sayRow 73 = .ok (.ireturn, 1) := by decide +kernel
set_option maxHeartbeats 4000000 in
set_option maxRecDepth 100000 in
theorem wm_sayRow_8 {p : Program} {l : Launch} {e : Env} {s : State} {m : MethodId} {args : Array Value} {below : List Frame} {meth : Method} {c : Code} {D : va_G} {L : Nat → Nat} {K : Nat → ClassId} (hJ : gj L 12) (C0 : gC cX4_sayRow 6 (some .int) wsX4_sayRow RX4 p s m args meth c) (hK : va_K D vwCl (tyG K) s) (hE : eM s) {w9 : St} {rs : Int32} : ∀ (fu : Nat) (x2 : Int32) (x3 : Int32) (x4 : Int32) (w : St) (H : Heap) (locs : List Loc) (ls : Array Slot), va_P D vwCl (gl L 12 (cM L K w)) H → va_S (gA L 12) s.heap H locs → lv_has ls 6 [(0, .ref (L 0)), (2, .int x2), (3, .int x3), (4, .int x4)] → fm_sayRow_8 fu x2 x3 x4 w = some (rs, w9) → W p l e { frames := 3, cells := 0, slots := 0, locals := 67 } s m args below meth c H locs 0 0 (MQ below (qI D L 12 (cM L K) rs w9) args s 0 0 (gA L 12)) (F0 m 8 ls []) := by
  obtain ⟨hx, hb, hr, hml, hown, hts, hlk⟩ := id C0
  intro fu
  induction fu with
  | zero =>
    intro x2 x3 x4 w H locs ls hw hS hl hf
    rw [fm_sayRow_8] at hf
    exact no_n hf
  | succ fu ih =>
    intro x2 x3 x4 w H locs ls hw hS hl hf
    rw [fm_sayRow_8] at hf
    refine lv_iload hx hb dX4_sayRow_8 (lv_at hl 3 rfl) ?_
    refine lv_iload_n hx hb dX4_sayRow_10 rfl (lv_at hl 1 rfl) ?_
    refine lv_icmp_ge (tgt := 71) hx hb dX4_sayRow_11 (by decide) (fun c11 => ?_) (fun c11 => ?_)
    · replace hf := if_t hf c11
      refine lv_bipush (v := (-9)) hx hb dX4_sayRow_71 (by decide) ?_
      exact z_iret hx hb hr hlk hw hS hf dX4_sayRow_73
    · replace hf := if_f hf c11
      refine lv_iload_n hx hb dX4_sayRow_14 rfl (lv_at hl 2 rfl) ?_
      refine lv_iload_n hx hb dX4_sayRow_15 rfl (lv_at hl 1 rfl) ?_
      refine lv_iconst (v := 1) hx hb dX4_sayRow_16 (by decide) ?_
      refine lv_isub hx hb dX4_sayRow_17 ?_
      refine lv_iload hx hb dX4_sayRow_18 (lv_at hl 3 rfl) ?_
      refine lv_isub hx hb dX4_sayRow_20 ?_
      obtain ⟨v21, h21, hf⟩ := bd_e hf
      refine z_calls (va_runS (As := [.int ((x2 - (1 : Int32)) - x4)]) (rest := [.int x3]) ⟨hx, hb, hml, hown, hts⟩ (km_tenTo l ((x2 - (1 : Int32)) - x4) h21) (va_cwS 1 hts gX4_sayRow_X4_tenTo rfl rfl rfl (by decide +kernel) ⟨Nat.le_of_ble_eq_true rfl, Nat.le_of_ble_eq_true rfl⟩) z_preT rfl rfl hl.1 rfl (lv_room (Nat.le_of_ble_eq_true rfl)) dX4_sayRow_21 ⟨Nat.le_of_ble_eq_true rfl, Nat.le_of_ble_eq_true rfl⟩) ?_
      obtain ⟨v24, h24, hf⟩ := bd_e hf
      obtain ⟨n24, j24⟩ := gd_e h24
      refine lv_idiv hx hb dX4_sayRow_24 n24 ?_
      rw [j24]
      refine lv_bipush (v := 10) hx hb dX4_sayRow_25 (by decide) ?_
      refine lv_irem hx hb dX4_sayRow_27 (by decide) ?_
      refine lv_iconst (v := 1) hx hb dX4_sayRow_28 (by decide) ?_
      refine lv_isub hx hb dX4_sayRow_29 ?_
      refine lv_topi (fun v30 e30 => ?_)
      replace hf := lb_e hf e30
      refine lv_istore (lv' := [(5, .int v30), (0, .ref (L 0)), (2, .int x2), (3, .int x3), (4, .int x4)]) hx hb dX4_sayRow_30 hl (by decide) rfl (fun ls hl => ?_)
      refine lv_iload hx hb dX4_sayRow_32 (lv_at hl 0 rfl) ?_
      refine lv_i2l (v := v30.toInt64) hx hb dX4_sayRow_34 rfl ?_
      refine lv_lconst (v := 0) hx hb dX4_sayRow_35 (by decide) ?_
      refine lv_ldc2 (v := 6) hx hb hown (hts (.constantLong RX4 134 6) (by decide +kernel)) dX4_sayRow_36 ?_
      obtain ⟨v39, h39, hf⟩ := bd_e hf
      refine z_calls (va_runS (As := [.long (v30.toInt64), .long 0, .long 6]) (rest := []) ⟨hx, hb, hml, hown, hts⟩ (km_in l (v30.toInt64) 0 6 h39) (va_cwS 3 hts gX4_sayRow_X4_in rfl rfl rfl (by decide +kernel) ⟨Nat.le_of_ble_eq_true rfl, Nat.le_of_ble_eq_true rfl⟩) z_preT rfl rfl hl.1 rfl (lv_room (Nat.le_of_ble_eq_true rfl)) dX4_sayRow_39 ⟨Nat.le_of_ble_eq_true rfl, Nat.le_of_ble_eq_true rfl⟩) ?_
      refine lv_if_eq (tgt := 55) hx hb dX4_sayRow_42 (by decide) (fun c42 => ?_) (fun c42 => ?_)
      · replace hf := if_t hf c42
        refine lv_iload hx hb dX4_sayRow_55 (lv_at hl 4 rfl) ?_
        exact z_iret hx hb hr hlk hw hS hf dX4_sayRow_57
      · replace hf := if_f hf c42
        refine lv_aload_n hx hb dX4_sayRow_45 rfl (lv_at hl 1 rfl) ?_
        refine lv_iconst (v := 1) hx hb dX4_sayRow_46 (by decide) ?_
        refine lv_iload hx hb dX4_sayRow_47 (lv_at hl 0 rfl) ?_
        obtain ⟨q49, h49, hf⟩ := bd_e hf
        refine z_calli (va_runV (As := [.int 1, .int v30]) (rest := []) ⟨hx, hb, hml, hown, hts⟩ (km_may l (D := D) (K := K) hJ 1 v30 w  h49) (cwV 2 hts gX4_sayRow_X4_may rfl rfl rfl (by decide +kernel) ⟨Nat.le_of_ble_eq_true rfl, Nat.le_of_ble_eq_true rfl⟩) (z_preV eM_ok hK hE hw hS (by decide) ((fun w => rfl) _) (T := TX4) (M := 24) rfl) rfl rfl hl.1 rfl (lv_room (Nat.le_of_ble_eq_true rfl)) dX4_sayRow_49 ⟨Nat.le_of_ble_eq_true rfl, Nat.le_of_ble_eq_true rfl⟩) hS (fun H locs hw hS => ?_)
        refine lv_if_ne (tgt := 58) hx hb dX4_sayRow_52 (by decide) (fun c52 => ?_) (fun c52 => ?_)
        · replace hf := if_f hf c52
          refine lv_aload_n hx hb dX4_sayRow_58 rfl (lv_at hl 1 rfl) ?_
          refine lv_iconst (v := 1) hx hb dX4_sayRow_59 (by decide) ?_
          refine lv_iload hx hb dX4_sayRow_60 (lv_at hl 0 rfl) ?_
          obtain ⟨w62, h62, hf⟩ := bd_e hf
          refine z_callv (va_runV (As := [.int 1, .int v30]) (rest := []) ⟨hx, hb, hml, hown, hts⟩ (km_sayOn l (D := D) (K := K) hJ 1 v30 (q49.2)  h62) (cwV 2 hts gX4_sayRow_X4_sayOn rfl rfl rfl (by decide +kernel) ⟨Nat.le_of_ble_eq_true rfl, Nat.le_of_ble_eq_true rfl⟩) (z_preV eM_ok hK hE hw hS (by decide) ((fun w => rfl) _) (T := TX4) (M := 24) rfl) rfl rfl hl.1 rfl (lv_room (Nat.le_of_ble_eq_true rfl)) dX4_sayRow_62 ⟨Nat.le_of_ble_eq_true rfl, Nat.le_of_ble_eq_true rfl⟩) hS (fun H locs hw hS => ?_)
          refine lv_iinc (v := (x4 + 1)) (lv' := [(4, .int (x4 + 1)), (5, .int v30), (0, .ref (L 0)), (2, .int x2), (3, .int x3)]) hx hb dX4_sayRow_65 hl (k := 4) rfl rfl (by decide) rfl (fun ls hl => ?_)
          refine lv_goto (tgt := 8) hx hb dX4_sayRow_68 (by decide) ?_
          exact ih _ _ _ _ _ _ _ hw hS (lv_sub hl [2, 3, 4, 0] rfl) hf
        · replace hf := if_t hf c52
          refine lv_iload hx hb dX4_sayRow_55 (lv_at hl 4 rfl) ?_
          exact z_iret hx hb hr hlk hw hS hf dX4_sayRow_57
set_option maxHeartbeats 4000000 in
set_option maxRecDepth 100000 in
theorem wm_sayRow_0 {p : Program} {l : Launch} {e : Env} {s : State} {m : MethodId} {args : Array Value} {below : List Frame} {meth : Method} {c : Code} {D : va_G} {L : Nat → Nat} {K : Nat → ClassId} (hJ : gj L 12) (C0 : gC cX4_sayRow 6 (some .int) wsX4_sayRow RX4 p s m args meth c) (hK : va_K D vwCl (tyG K) s) (hE : eM s) {w9 : St} {rs : Int32} : ∀ (x1 : Int32) (x2 : Int32) (x3 : Int32) (w : St) (H : Heap) (locs : List Loc) (ls : Array Slot), va_P D vwCl (gl L 12 (cM L K w)) H → va_S (gA L 12) s.heap H locs → lv_has ls 6 [(0, .ref (L 0)), (1, .int x1), (2, .int x2), (3, .int x3)] → fm_sayRow x1 x2 x3 w = some (rs, w9) → W p l e { frames := 3, cells := 0, slots := 0, locals := 67 } s m args below meth c H locs 0 0 (MQ below (qI D L 12 (cM L K) rs w9) args s 0 0 (gA L 12)) (F0 m 0 ls []) := by
  obtain ⟨hx, hb, hr, hml, hown, hts, hlk⟩ := id C0
  intro x1 x2 x3 w H locs ls hw hS hl hf
  unfold fm_sayRow at hf
  refine lv_aload_n hx hb dX4_sayRow_0 rfl (lv_at hl 0 rfl) ?_
  refine lv_iload_n hx hb dX4_sayRow_1 rfl (lv_at hl 1 rfl) ?_
  obtain ⟨w2, h2, hf⟩ := bd_e hf
  refine z_callv (va_runV (As := [.int x1]) (rest := []) ⟨hx, hb, hml, hown, hts⟩ (km_layTrial l (D := D) (K := K) hJ x1 w  h2) (cwV 1 hts gX4_sayRow_X4_layTrial rfl rfl rfl (by decide +kernel) ⟨Nat.le_of_ble_eq_true rfl, Nat.le_of_ble_eq_true rfl⟩) (z_preV eM_ok hK hE hw hS (by decide) ((fun w => rfl) _) (T := TX4) (M := 24) rfl) rfl rfl hl.1 rfl (lv_room (Nat.le_of_ble_eq_true rfl)) dX4_sayRow_2 ⟨Nat.le_of_ble_eq_true rfl, Nat.le_of_ble_eq_true rfl⟩) hS (fun H locs hw hS => ?_)
  refine lv_iconst (v := 0) hx hb dX4_sayRow_5 (by decide) ?_
  refine lv_istore (lv' := [(4, .int 0), (0, .ref (L 0)), (1, .int x1), (2, .int x2), (3, .int x3)]) hx hb dX4_sayRow_6 hl (by decide) rfl (fun ls hl => ?_)
  exact wm_sayRow_8 hJ C0 hK hE _ _ _ _ _ _ _ _ hw hS (lv_sub hl [1, 3, 4, 0] rfl) hf
set_option maxHeartbeats 4000000 in
set_option maxRecDepth 100000 in
theorem km_sayRow (l : Launch) {D : va_G} {L : Nat → Nat} {K : Nat → ClassId} (hJ : gj L 12) (x1 : Int32) (x2 : Int32) (x3 : Int32) (w : St) {w9 : St} {rs : Int32} (hf : fm_sayRow x1 x2 x3 w = some (rs, w9)) : Met l yX4_sayRow wsX4_sayRow ({ frames := 3, cells := 0, slots := 0, locals := 67 }) (va_Pc [.ref (L 0), .int x1, .int x2, .int x3] (mP D L K w)) (qI D L 12 (cM L K) rs w9) 0 0 (gA L 12) := by
  refine g_met (cc := cX4_sayRow) (nL := 6) (ret := (some .int)) (by decide) rfl (Nat.le_of_ble_eq_true rfl) (fun p e s m below meth c ls C0 hP hl => ?_)
  exact wm_sayRow_0 hJ C0 hP.2.1 hP.2.2 _ _ _ w _ _ ls hP.1 va_S.rf (lv_sub hl [0, 1, 2, 3] rfl) hf
