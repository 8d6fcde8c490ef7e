set_option maxRecDepth 20000 in
theorem ggX4_island_X4_readText : GoodIn wsX4_island wsX4_readText := goodIn_r _ [15, 16, 17, 1, 18, 19, 3, 7, 20, 21, 22, 14, 23, 24, 25, 26, 27, 28, 29, 30, 31, 32, 33, 34, 35, 36, 37, 38, 39, 40, 41, 42, 43, 44, 45, 46, 47, 48, 49, 50] (by decide +kernel) (by decide +kernel)
set_option maxRecDepth 20000 in
theorem gX4_island_X4_readText : GoodIn wsX4_island (wsV RX4 70 RX4 yX4_readText wsX4_readText) := goodIn_app (goodIn_of _ (by decide +kernel)) ggX4_island_X4_readText
theorem dX4_island_0 : decode cX4_island 0 = .ok (.aload_n 0, 1) := by decide +kernel
theorem dX4_island_1 : decode cX4_island 1 = .ok (.invokevirtual 70, 3) := by decide +kernel
theorem dX4_island_4 : decode cX4_island 4 = .ok (.bipush (-9), 2) := by decide +kernel
theorem dX4_island_6 : decode cX4_island 6 = .ok (.if_icmp .eq 6, 3) := by decide +kernel
theorem dX4_island_9 : decode cX4_island 9 = .ok (.bipush (-3), 2) := by decide +kernel
theorem dX4_island_11 : decode cX4_island 11 = .ok (.ireturn, 1) := by decide +kernel
theorem dX4_island_12 : decode cX4_island 12 = .ok (.aload_n 0, 1) := by decide +kernel
theorem dX4_island_13 : decode cX4_island 13 = .ok (.aload_n 0, 1) := by decide +kernel
theorem dX4_island_14 : decode cX4_island 14 = .ok (.getfield 60, 3) := by decide +kernel
theorem dX4_island_17 : decode cX4_island 17 = .ok (.putfield 74, 3) := by decide +kernel
theorem dX4_island_20 : decode cX4_island 20 = .ok (.aload_n 0, 1) := by decide +kernel
theorem dX4_island_21 : decode cX4_island 21 = .ok (.aload_n 0, 1) := by decide +kernel
theorem dX4_island_22 : decode cX4_island 22 = .ok (.getfield 67, 3) := by decide +kernel
theorem dX4_island_25 : decode cX4_island 25 = .ok (.putfield 77, 3) := by decide +kernel
theorem dX4_island_28 : decode cX4_island 28 = .ok (.iconst 0, 1) := by decide +kernel
theorem dX4_island_29 : decode cX4_island 29 = .ok (.istore_n 1, 1) := by decide +kernel
theorem dX4_island_30 : decode cX4_island 30 = .ok (.iload_n 1, 1) := by decide +kernel
theorem dX4_island_31 : decode cX4_island 31 = .ok (.bipush 27, 2) := by decide +kernel
theorem dX4_island_33 : decode cX4_island 33 = .ok (.if_icmp .ge 16, 3) := by decide +kernel
theorem dX4_island_36 : decode cX4_island 36 = .ok (.aload_n 0, 1) := by decide +kernel
theorem dX4_island_37 : decode cX4_island 37 = .ok (.getfield 16, 3) := by decide +kernel
theorem dX4_island_40 : decode cX4_island 40 = .ok (.iload_n 1, 1) := by decide +kernel
theorem dX4_island_41 : decode cX4_island 41 = .ok (.iconst 0, 1) := by decide +kernel
theorem dX4_island_42 : decode cX4_island 42 = .ok (.iastore, 1) := by decide +kernel
theorem dX4_island_43 : decode cX4_island 43 = .ok (.iinc 1 1, 3) := by decide +kernel
theorem dX4_island_46 : decode cX4_island 46 = .ok (.goto (-16), 3) := by decide +kernel
theorem dX4_island_49 : decode cX4_island 49 = .ok (.aload_n 0, 1) := by decide +kernel
theorem dX4_island_50 : decode cX4_island 50 = .ok (.getfield 16, 3) := by decide +kernel
theorem dX4_island_53 : decode cX4_island 53 = .ok (.bipush 23, 2) := by decide +kernel
theorem dX4_island_55 : decode cX4_island 55 = .ok (.bipush (-9), 2) := by decide +kernel
theorem dX4_island_57 : decode cX4_island 57 = .ok (.iastore, 1) := by decide +kernel
theorem dX4_island_58 : decode cX4_island 58 = .ok (.aload_n 0, 1) := by decide +kernel
theorem dX4_island_59 : decode cX4_island 59 = .ok (.getfield 16, 3) := by decide +kernel
theorem dX4_island_62 : decode cX4_island 62 = .ok (.bipush 24, 2) := by decide +kernel
theorem dX4_island_64 : decode cX4_island 64 = .ok (.bipush (-9), 2) := by decide +kernel
theorem dX4_island_66 : decode cX4_island 66 = .ok (.iastore, 1) := by decide +kernel
theorem dX4_island_67 : decode cX4_island 67 = .ok (.iconst 0, 1) := by decide +kernel
theorem dX4_island_68 : decode cX4_island 68 = .ok (.istore_n 1, 1) := by decide +kernel
theorem dX4_island_69 : decode cX4_island 69 = .ok (.iload_n 1, 1) := by decide +kernel
theorem dX4_island_70 : decode cX4_island 70 = .ok (.aload_n 0, 1) := by decide +kernel
theorem dX4_island_71 : decode cX4_island 71 = .ok (.getfield 74, 3) := by decide +kernel
theorem dX4_island_74 : decode cX4_island 74 = .ok (.if_icmp .ge 105, 3) := by decide +kernel
theorem dX4_island_77 : decode cX4_island 77 = .ok (.aload_n 0, 1) := by decide +kernel
theorem dX4_island_78 : decode cX4_island 78 = .ok (.getfield 7, 3) := by decide +kernel
theorem dX4_island_81 : decode cX4_island 81 = .ok (.iload_n 1, 1) := by decide +kernel
theorem dX4_island_82 : decode cX4_island 82 = .ok (.aload_n 0, 1) := by decide +kernel
theorem dX4_island_83 : decode cX4_island 83 = .ok (.getfield 19, 3) := by decide +kernel
theorem dX4_island_86 : decode cX4_island 86 = .ok (.iconst 4, 1) := by decide +kernel
theorem dX4_island_87 : decode cX4_island 87 = .ok (.iload_n 1, 1) := by decide +kernel
theorem dX4_island_88 : decode cX4_island 88 = .ok (.imul, 1) := by decide +kernel
theorem dX4_island_89 : decode cX4_island 89 = .ok (.iaload, 1) := by decide +kernel
theorem dX4_island_90 : decode cX4_island 90 = .ok (.iastore, 1) := by decide +kernel
theorem dX4_island_91 : decode cX4_island 91 = .ok (.aload_n 0, 1) := by decide +kernel
theorem dX4_island_92 : decode cX4_island 92 = .ok (.getfield 16, 3) := by decide +kernel
theorem dX4_island_95 : decode cX4_island 95 = .ok (.iconst 1, 1) := by decide +kernel
theorem dX4_island_96 : decode cX4_island 96 = .ok (.iload_n 1, 1) := by decide +kernel
theorem dX4_island_97 : decode cX4_island 97 = .ok (.iadd, 1) := by decide +kernel
theorem dX4_island_98 : decode cX4_island 98 = .ok (.aload_n 0, 1) := by decide +kernel
theorem dX4_island_99 : decode cX4_island 99 = .ok (.getfield 19, 3) := by decide +kernel
theorem dX4_island_102 : decode cX4_island 102 = .ok (.iconst 4, 1) := by decide +kernel
theorem dX4_island_103 : decode cX4_island 103 = .ok (.iload_n 1, 1) := by decide +kernel
theorem dX4_island_104 : decode cX4_island 104 = .ok (.imul, 1) := by decide +kernel
theorem dX4_island_105 : decode cX4_island 105 = .ok (.iconst 1, 1) := by decide +kernel
theorem dX4_island_106 : decode cX4_island 106 = .ok (.iadd, 1) := by decide +kernel
theorem dX4_island_107 : decode cX4_island 107 = .ok (.iaload, 1) := by decide +kernel
theorem dX4_island_108 : decode cX4_island 108 = .ok (.iastore, 1) := by decide +kernel
theorem dX4_island_109 : decode cX4_island 109 = .ok (.aload_n 0, 1) := by decide +kernel
theorem dX4_island_110 : decode cX4_island 110 = .ok (.getfield 16, 3) := by decide +kernel
theorem dX4_island_113 : decode cX4_island 113 = .ok (.bipush 8, 2) := by decide +kernel
theorem dX4_island_115 : decode cX4_island 115 = .ok (.iload_n 1, 1) := by decide +kernel
theorem dX4_island_116 : decode cX4_island 116 = .ok (.iadd, 1) := by decide +kernel
theorem dX4_island_117 : decode cX4_island 117 = .ok (.aload_n 0, 1) := by decide +kernel
theorem dX4_island_118 : decode cX4_island 118 = .ok (.getfield 19, 3) := by decide +kernel
theorem dX4_island_121 : decode cX4_island 121 = .ok (.iconst 4, 1) := by decide +kernel
theorem dX4_island_122 : decode cX4_island 122 = .ok (.iload_n 1, 1) := by decide +kernel
theorem dX4_island_123 : decode cX4_island 123 = .ok (.imul, 1) := by decide +kernel
theorem dX4_island_124 : decode cX4_island 124 = .ok (.iconst 2, 1) := by decide +kernel
theorem dX4_island_125 : decode cX4_island 125 = .ok (.iadd, 1) := by decide +kernel
theorem dX4_island_126 : decode cX4_island 126 = .ok (.iaload, 1) := by decide +kernel
theorem dX4_island_127 : decode cX4_island 127 = .ok (.iastore, 1) := by decide +kernel
theorem dX4_island_128 : decode cX4_island 128 = .ok (.aload_n 0, 1) := by decide +kernel
theorem dX4_island_129 : decode cX4_island 129 = .ok (.getfield 13, 3) := by decide +kernel
theorem dX4_island_132 : decode cX4_island 132 = .ok (.iload_n 1, 1) := by decide +kernel
theorem dX4_island_133 : decode cX4_island 133 = .ok (.aload_n 0, 1) := by decide +kernel
theorem dX4_island_134 : decode cX4_island 134 = .ok (.getfield 19, 3) := by decide +kernel
theorem dX4_island_137 : decode cX4_island 137 = .ok (.iconst 4, 1) := by decide +kernel
theorem dX4_island_138 : decode cX4_island 138 = .ok (.iload_n 1, 1) := by decide +kernel
theorem dX4_island_139 : decode cX4_island 139 = .ok (.imul, 1) := by decide +kernel
theorem dX4_island_140 : decode cX4_island 140 = .ok (.iconst 3, 1) := by decide +kernel
theorem dX4_island_141 : decode cX4_island 141 = .ok (.iadd, 1) := by decide +kernel
theorem dX4_island_142 : decode cX4_island 142 = .ok (.iaload, 1) := by decide +kernel
theorem dX4_island_143 : decode cX4_island 143 = .ok (.iastore, 1) := by decide +kernel
theorem dX4_island_144 : decode cX4_island 144 = .ok (.aload_n 0, 1) := by decide +kernel
theorem dX4_island_145 : decode cX4_island 145 = .ok (.getfield 16, 3) := by decide +kernel
theorem dX4_island_148 : decode cX4_island 148 = .ok (.iconst 0, 1) := by decide +kernel
theorem dX4_island_149 : decode cX4_island 149 = .ok (.dup2, 1) := by decide +kernel
theorem dX4_island_150 : decode cX4_island 150 = .ok (.iaload, 1) := by decide +kernel
theorem dX4_island_151 : decode cX4_island 151 = .ok (.aload_n 0, 1) := by decide +kernel
theorem dX4_island_152 : decode cX4_island 152 = .ok (.getfield 7, 3) := by decide +kernel
theorem dX4_island_155 : decode cX4_island 155 = .ok (.iload_n 1, 1) := by decide +kernel
theorem dX4_island_156 : decode cX4_island 156 = .ok (.iaload, 1) := by decide +kernel
theorem dX4_island_157 : decode cX4_island 157 = .ok (.aload_n 0, 1) := by decide +kernel
theorem dX4_island_158 : decode cX4_island 158 = .ok (.getfield 77, 3) := by decide +kernel
theorem dX4_island_161 : decode cX4_island 161 = .ok (.if_icmp .ne 9, 3) := by decide +kernel
theorem dX4_island_164 : decode cX4_island 164 = .ok (.iconst 1, 1) := by decide +kernel
theorem dX4_island_165 : decode cX4_island 165 = .ok (.iload_n 1, 1) := by decide +kernel
theorem dX4_island_166 : decode cX4_island 166 = .ok (.ishl, 1) := by decide +kernel
theorem dX4_island_167 : decode cX4_island 167 = .ok (.goto 4, 3) := by decide +kernel
theorem dX4_island_170 : decode cX4_island 170 = .ok (.iconst 0, 1) := by decide +kernel
theorem dX4_island_171 : decode cX4_island 171 = .ok (.ior, 1) := by decide +kernel
theorem dX4_island_172 : decode cX4_island 172 = .ok (.iastore, 1) := by decide +kernel
theorem dX4_island_173 : decode cX4_island 173 = .ok (.iinc 1 1, 3) := by decide +kernel
theorem dX4_island_176 : decode cX4_island 176 = .ok (.goto (-107), 3) := by decide +kernel
theorem dX4_island_179 : decode cX4_island 179 = .ok (.aload_n 0, 1) := by decide +kernel
theorem dX4_island_180 : decode cX4_island 180 = .ok (.iconst 0, 1) := by decide +kernel
theorem dX4_island_181 : decode cX4_island 181 = .ok (.putfield 80, 3) := by decide +kernel
theorem dX4_island_184 : decode cX4_island 184 = .ok (.aload_n 0, 1) := by decide +kernel
theorem dX4_island_185 : decode cX4_island 185 = .ok (.getfield 37, 3) := by decide +kernel
theorem dX4_island_188 : decode cX4_island 188 = .ok (.iconst 0, 1) := by decide +kernel
theorem dX4_island_189 : decode cX4_island 189 = .ok (.iconst 0, 1) := by decide +kernel
theorem dX4_island_190 : decode cX4_island 190 = .ok (.bastore, 1) := by decide +kernel
theorem dX4_island_191 : decode cX4_island 191 = .ok (.aload_n 0, 1) := by decide +kernel
theorem dX4_island_192 : decode cX4_island 192 = .ok (.getfield 37, 3) := by decide +kernel
theorem dX4_island_195 : decode cX4_island 195 = .ok (.iconst 1, 1) := by decide +kernel
theorem dX4_island_196 : decode cX4_island 196 = .ok (.iconst 0, 1) := by decide +kernel
theorem dX4_island_197 : decode cX4_island 197 = .ok (.bastore, 1) := by decide +kernel
theorem dX4_island_198 : decode cX4_island 198 = .ok (.aload_n 0, 1) := by decide +kernel
theorem dX4_island_199 : decode cX4_island 199 = .ok (.getfield 74, 3) := by decide +kernel
theorem dX4_island_202 : decode cX4_island 202 = .ok (.ireturn, 1) := by decide +kernel
set_option maxRecDepth 20000 in
theorem hiX4_island_X4 : ∀ w ∈ u_ws RX4 TX4 24, w ∈ wsX4_island := by decide +kernel
set_option maxHeartbeats 4000000 in
set_option maxRecDepth 100000 in
theorem wm_island_171 {p : Program} {l : Launch} {e : Env} {s : State} {m : MethodId} {args : Array Value} {below : List Frame} {meth : Method} {c : Code} {D : va_G} {L : Nat → Nat} {K : Nat → ClassId} (hJ : gj L 12) (C0 : gC cX4_island 2 (some .int) wsX4_island RX4 p s m args meth c) (hK : va_K D vwCl (tyG K) s) (hE : eM s) {w9 : St} {rs : Int32} (k69 : Int32 → St → Option (Int32 × St)) (i69 : ∀ (x1 : Int32) (w : St) (H : Heap) (locs : List Loc) (ls : Array Slot), va_P D vwCl (gl L 12 (cM L K w)) H → va_S (gA L 12) s.heap H locs → lv_has ls 2 [(0, .ref (L 0)), (1, .int x1)] → k69 x1 w = some (rs, w9) → W p l e { frames := 3, cells := 0, slots := 0, locals := 67 } s m args below meth c H locs 0 0 (MQ below (qI D L 12 (cM L K) rs w9) args s 0 0 (gA L 12)) (F0 m 69 ls [])) : ∀ (x1 : Int32) (s1 : Int32) (s2 : Int32) (s3 : Int32) (w : St) (H : Heap) (locs : List Loc) (ls : Array Slot), va_P D vwCl (gl L 12 (cM L K w)) H → va_S (gA L 12) s.heap H locs → lv_has ls 2 [(0, .ref (L 0)), (1, .int x1)] → fm_island_171 k69 x1 s1 s2 s3 w = some (rs, w9) → W p l e { frames := 3, cells := 0, slots := 0, locals := 67 } s m args below meth c H locs 0 0 (MQ below (qI D L 12 (cM L K) rs w9) args s 0 0 (gA L 12)) (F0 m 171 ls [.int s3, .int s2, .int s1, .ref (L 3)]) := by
  obtain ⟨hx, hb, hr, hml, hown, hts, hlk⟩ := id C0
  intro x1 s1 s2 s3 w H locs ls hw hS hl hf
  unfold fm_island_171 at hf
  refine lv_ior hx hb dX4_island_171 ?_
  obtain ⟨w172, h172, hf⟩ := bd_e hf
  refine z_iast hx hb hK hJ hw hS 0 (k := 3) (by decide) cM_ne (fun w => rfl) rfl h172 dX4_island_172 (fun H locs hw hS => ?_)
  refine lv_iinc (v := (x1 + 1)) (lv' := [(1, .int (x1 + 1)), (0, .ref (L 0))]) hx hb dX4_island_173 hl (k := 1) rfl rfl (by decide) rfl (fun ls hl => ?_)
  refine lv_goto (tgt := 69) hx hb dX4_island_176 (by decide) ?_
  exact i69 _ _ _ _ _ hw hS (lv_sub hl [1, 0] rfl) hf
set_option maxHeartbeats 4000000 in
set_option maxRecDepth 100000 in
theorem wm_island_69 {p : Program} {l : Launch} {e : Env} {s : State} {m : MethodId} {args : Array Value} {below : List Frame} {meth : Method} {c : Code} {D : va_G} {L : Nat → Nat} {K : Nat → ClassId} (hJ : gj L 12) (C0 : gC cX4_island 2 (some .int) wsX4_island RX4 p s m args meth c) (hK : va_K D vwCl (tyG K) s) (hE : eM s) {w9 : St} {rs : Int32} : ∀ (fu : Nat) (x1 : Int32) (w : St) (H : Heap) (locs : List Loc) (ls : Array Slot), va_P D vwCl (gl L 12 (cM L K w)) H → va_S (gA L 12) s.heap H locs → lv_has ls 2 [(0, .ref (L 0)), (1, .int x1)] → fm_island_69 fu x1 w = some (rs, w9) → W p l e { frames := 3, cells := 0, slots := 0, locals := 67 } s m args below meth c H locs 0 0 (MQ below (qI D L 12 (cM L K) rs w9) args s 0 0 (gA L 12)) (F0 m 69 ls []) := by
  obtain ⟨hx, hb, hr, hml, hown, hts, hlk⟩ := id C0
  intro fu
  induction fu with
  | zero =>
    intro x1 w H locs ls hw hS hl hf
    rw [fm_island_69] at hf
    exact no_n hf
  | succ fu ih =>
    intro x1 w H locs ls hw hS hl hf
    rw [fm_island_69] at hf
    refine lv_iload_n hx hb dX4_island_69 rfl (lv_at hl 1 rfl) ?_
    refine lv_aload_n hx hb dX4_island_70 rfl (lv_at hl 0 rfl) ?_
    refine z_get (v := .int (w.1 0 0)) hx hb hts hiX4_island_X4 hown hK hw (k := 0) (by decide) ((fun w => rfl) _) rfl 0 (by decide) (hts (.fieldLink RX4 74 "OneSentenceModel" "people" "I") (by decide +kernel)) rfl dX4_island_71 ?_
    refine lv_icmp_ge (tgt := 179) hx hb dX4_island_74 (by decide) (fun c74 => ?_) (fun c74 => ?_)
    · replace hf := if_t hf c74
      refine lv_aload_n hx hb dX4_island_179 rfl (lv_at hl 0 rfl) ?_
      refine lv_iconst (v := 0) hx hb dX4_island_180 (by decide) ?_
      refine z_puti hx hb hts hiX4_island_X4 tyX4 tyX4_ok nmX4 hown hK hJ hw hS (k := 0) (by decide) cM_ne (fs := fM0 L) (fun w => rfl) rfl 12 (by decide) (hts (.fieldLink RX4 80 "OneSentenceModel" "acts" "I") (by decide +kernel)) rfl rfl (fun _ _ => ⟨Nat.le_of_ble_eq_true rfl, rfl⟩) dX4_island_181 (fun H locs hw hS => ?_)
      refine lv_aload_n hx hb dX4_island_184 rfl (lv_at hl 0 rfl) ?_
      refine z_get (v := .ref (L 10)) hx hb hts hiX4_island_X4 hown hK hw (k := 0) (by decide) ((fun w => rfl) _) rfl 22 (by decide) (hts (.fieldLink RX4 37 "OneSentenceModel" "isKept" "[Z") (by decide +kernel)) rfl dX4_island_185 ?_
      refine lv_iconst (v := 0) hx hb dX4_island_188 (by decide) ?_
      refine lv_iconst (v := 0) hx hb dX4_island_189 (by decide) ?_
      obtain ⟨w190, h190, hf⟩ := bd_e hf
      refine z_zast hx hb hK hJ hw hS 2 (k := 10) (by decide) cM_ne (fun w => rfl) rfl (by decide) h190 dX4_island_190 (fun H locs hw hS => ?_)
      refine lv_aload_n hx hb dX4_island_191 rfl (lv_at hl 0 rfl) ?_
      refine z_get (v := .ref (L 10)) hx hb hts hiX4_island_X4 hown hK hw (k := 0) (by decide) ((fun w => rfl) _) rfl 22 (by decide) (hts (.fieldLink RX4 37 "OneSentenceModel" "isKept" "[Z") (by decide +kernel)) rfl dX4_island_192 ?_
      refine lv_iconst (v := 1) hx hb dX4_island_195 (by decide) ?_
      refine lv_iconst (v := 0) hx hb dX4_island_196 (by decide) ?_
      obtain ⟨w197, h197, hf⟩ := bd_e hf
      refine z_zast hx hb hK hJ hw hS 2 (k := 10) (by decide) cM_ne (fun w => rfl) rfl (by decide) h197 dX4_island_197 (fun H locs hw hS => ?_)
      refine lv_aload_n hx hb dX4_island_198 rfl (lv_at hl 0 rfl) ?_
      refine z_get (v := .int (w197.1 0 0)) hx hb hts hiX4_island_X4 hown hK hw (k := 0) (by decide) ((fun w => rfl) _) rfl 0 (by decide) (hts (.fieldLink RX4 74 "OneSentenceModel" "people" "I") (by decide +kernel)) rfl dX4_island_199 ?_
      exact z_iret hx hb hr hlk hw hS hf dX4_island_202
    · replace hf := if_f hf c74
      refine lv_aload_n hx hb dX4_island_77 rfl (lv_at hl 0 rfl) ?_
      refine z_get (v := .ref (L 1)) hx hb hts hiX4_island_X4 hown hK hw (k := 0) (by decide) ((fun w => rfl) _) rfl 2 (by decide) (hts (.fieldLink RX4 7 "OneSentenceModel" "home" "[I") (by decide +kernel)) rfl dX4_island_78 ?_
      refine lv_iload_n hx hb dX4_island_81 rfl (lv_at hl 1 rfl) ?_
      refine lv_aload_n hx hb dX4_island_82 rfl (lv_at hl 0 rfl) ?_
      refine z_get (v := .ref (L 4)) hx hb hts hiX4_island_X4 hown hK hw (k := 0) (by decide) ((fun w => rfl) _) rfl 5 (by decide) (hts (.fieldLink RX4 19 "OneSentenceModel" "readOf" "[I") (by decide +kernel)) rfl dX4_island_83 ?_
      refine lv_iconst (v := 4) hx hb dX4_island_86 (by decide) ?_
      refine lv_iload_n hx hb dX4_island_87 rfl (lv_at hl 1 rfl) ?_
      refine lv_imul hx hb dX4_island_88 ?_
      obtain ⟨v89, h89, hf⟩ := bd_e hf
      refine z_iald hx hb hK hw 0 (k := 4) (by decide) ((fun w => rfl) _) rfl h89 dX4_island_89 ?_
      obtain ⟨w90, h90, hf⟩ := bd_e hf
      refine z_iast hx hb hK hJ hw hS 0 (k := 1) (by decide) cM_ne (fun w => rfl) rfl h90 dX4_island_90 (fun H locs hw hS => ?_)
      refine lv_aload_n hx hb dX4_island_91 rfl (lv_at hl 0 rfl) ?_
      refine z_get (v := .ref (L 3)) hx hb hts hiX4_island_X4 hown hK hw (k := 0) (by decide) ((fun w => rfl) _) rfl 4 (by decide) (hts (.fieldLink RX4 16 "OneSentenceModel" "now" "[I") (by decide +kernel)) rfl dX4_island_92 ?_
      refine lv_iconst (v := 1) hx hb dX4_island_95 (by decide) ?_
      refine lv_iload_n hx hb dX4_island_96 rfl (lv_at hl 1 rfl) ?_
      refine lv_iadd hx hb dX4_island_97 ?_
      refine lv_aload_n hx hb dX4_island_98 rfl (lv_at hl 0 rfl) ?_
      refine z_get (v := .ref (L 4)) hx hb hts hiX4_island_X4 hown hK hw (k := 0) (by decide) ((fun w => rfl) _) rfl 5 (by decide) (hts (.fieldLink RX4 19 "OneSentenceModel" "readOf" "[I") (by decide +kernel)) rfl dX4_island_99 ?_
      refine lv_iconst (v := 4) hx hb dX4_island_102 (by decide) ?_
      refine lv_iload_n hx hb dX4_island_103 rfl (lv_at hl 1 rfl) ?_
      refine lv_imul hx hb dX4_island_104 ?_
      refine lv_iconst (v := 1) hx hb dX4_island_105 (by decide) ?_
      refine lv_iadd hx hb dX4_island_106 ?_
      obtain ⟨v107, h107, hf⟩ := bd_e hf
      refine z_iald hx hb hK hw 0 (k := 4) (by decide) ((fun w => rfl) _) rfl h107 dX4_island_107 ?_
      obtain ⟨w108, h108, hf⟩ := bd_e hf
      refine z_iast hx hb hK hJ hw hS 0 (k := 3) (by decide) cM_ne (fun w => rfl) rfl h108 dX4_island_108 (fun H locs hw hS => ?_)
      refine lv_aload_n hx hb dX4_island_109 rfl (lv_at hl 0 rfl) ?_
      refine z_get (v := .ref (L 3)) hx hb hts hiX4_island_X4 hown hK hw (k := 0) (by decide) ((fun w => rfl) _) rfl 4 (by decide) (hts (.fieldLink RX4 16 "OneSentenceModel" "now" "[I") (by decide +kernel)) rfl dX4_island_110 ?_
      refine lv_bipush (v := 8) hx hb dX4_island_113 (by decide) ?_
      refine lv_iload_n hx hb dX4_island_115 rfl (lv_at hl 1 rfl) ?_
      refine lv_iadd hx hb dX4_island_116 ?_
      refine lv_aload_n hx hb dX4_island_117 rfl (lv_at hl 0 rfl) ?_
      refine z_get (v := .ref (L 4)) hx hb hts hiX4_island_X4 hown hK hw (k := 0) (by decide) ((fun w => rfl) _) rfl 5 (by decide) (hts (.fieldLink RX4 19 "OneSentenceModel" "readOf" "[I") (by decide +kernel)) rfl dX4_island_118 ?_
      refine lv_iconst (v := 4) hx hb dX4_island_121 (by decide) ?_
      refine lv_iload_n hx hb dX4_island_122 rfl (lv_at hl 1 rfl) ?_
      refine lv_imul hx hb dX4_island_123 ?_
      refine lv_iconst (v := 2) hx hb dX4_island_124 (by decide) ?_
      refine lv_iadd hx hb dX4_island_125 ?_
      obtain ⟨v126, h126, hf⟩ := bd_e hf
      refine z_iald hx hb hK hw 0 (k := 4) (by decide) ((fun w => rfl) _) rfl h126 dX4_island_126 ?_
      obtain ⟨w127, h127, hf⟩ := bd_e hf
      refine z_iast hx hb hK hJ hw hS 0 (k := 3) (by decide) cM_ne (fun w => rfl) rfl h127 dX4_island_127 (fun H locs hw hS => ?_)
      refine lv_aload_n hx hb dX4_island_128 rfl (lv_at hl 0 rfl) ?_
      refine z_get (v := .ref (L 2)) hx hb hts hiX4_island_X4 hown hK hw (k := 0) (by decide) ((fun w => rfl) _) rfl 3 (by decide) (hts (.fieldLink RX4 13 "OneSentenceModel" "kind" "[I") (by decide +kernel)) rfl dX4_island_129 ?_
      refine lv_iload_n hx hb dX4_island_132 rfl (lv_at hl 1 rfl) ?_
      refine lv_aload_n hx hb dX4_island_133 rfl (lv_at hl 0 rfl) ?_
      refine z_get (v := .ref (L 4)) hx hb hts hiX4_island_X4 hown hK hw (k := 0) (by decide) ((fun w => rfl) _) rfl 5 (by decide) (hts (.fieldLink RX4 19 "OneSentenceModel" "readOf" "[I") (by decide +kernel)) rfl dX4_island_134 ?_
      refine lv_iconst (v := 4) hx hb dX4_island_137 (by decide) ?_
      refine lv_iload_n hx hb dX4_island_138 rfl (lv_at hl 1 rfl) ?_
      refine lv_imul hx hb dX4_island_139 ?_
      refine lv_iconst (v := 3) hx hb dX4_island_140 (by decide) ?_
      refine lv_iadd hx hb dX4_island_141 ?_
      obtain ⟨v142, h142, hf⟩ := bd_e hf
      refine z_iald hx hb hK hw 0 (k := 4) (by decide) ((fun w => rfl) _) rfl h142 dX4_island_142 ?_
      obtain ⟨w143, h143, hf⟩ := bd_e hf
      refine z_iast hx hb hK hJ hw hS 0 (k := 2) (by decide) cM_ne (fun w => rfl) rfl h143 dX4_island_143 (fun H locs hw hS => ?_)
      refine lv_aload_n hx hb dX4_island_144 rfl (lv_at hl 0 rfl) ?_
      refine z_get (v := .ref (L 3)) hx hb hts hiX4_island_X4 hown hK hw (k := 0) (by decide) ((fun w => rfl) _) rfl 4 (by decide) (hts (.fieldLink RX4 16 "OneSentenceModel" "now" "[I") (by decide +kernel)) rfl dX4_island_145 ?_
      refine lv_iconst (v := 0) hx hb dX4_island_148 (by decide) ?_
      refine lv_dup2_11 hx hb dX4_island_149 rfl rfl ?_
      obtain ⟨v150, h150, hf⟩ := bd_e hf
      refine z_iald hx hb hK hw 0 (k := 3) (by decide) ((fun w => rfl) _) rfl h150 dX4_island_150 ?_
      refine lv_aload_n hx hb dX4_island_151 rfl (lv_at hl 0 rfl) ?_
      refine z_get (v := .ref (L 1)) hx hb hts hiX4_island_X4 hown hK hw (k := 0) (by decide) ((fun w => rfl) _) rfl 2 (by decide) (hts (.fieldLink RX4 7 "OneSentenceModel" "home" "[I") (by decide +kernel)) rfl dX4_island_152 ?_
      refine lv_iload_n hx hb dX4_island_155 rfl (lv_at hl 1 rfl) ?_
      obtain ⟨v156, h156, hf⟩ := bd_e hf
      refine z_iald hx hb hK hw 0 (k := 1) (by decide) ((fun w => rfl) _) rfl h156 dX4_island_156 ?_
      refine lv_aload_n hx hb dX4_island_157 rfl (lv_at hl 0 rfl) ?_
      refine z_get (v := .int (w143.1 0 1)) hx hb hts hiX4_island_X4 hown hK hw (k := 0) (by decide) ((fun w => rfl) _) rfl 1 (by decide) (hts (.fieldLink RX4 77 "OneSentenceModel" "market" "I") (by decide +kernel)) rfl dX4_island_158 ?_
      refine lv_icmp_ne (tgt := 170) hx hb dX4_island_161 (by decide) (fun c161 => ?_) (fun c161 => ?_)
      · replace hf := if_f hf c161
        refine lv_iconst (v := 0) hx hb dX4_island_170 (by decide) ?_
        exact wm_island_171 hJ C0 hK hE _ ih _ _ _ _ _ _ _ _ hw hS (lv_sub hl [0, 1] rfl) hf
      · replace hf := if_t hf c161
        refine lv_iconst (v := 1) hx hb dX4_island_164 (by decide) ?_
        refine lv_iload_n hx hb dX4_island_165 rfl (lv_at hl 1 rfl) ?_
        refine lv_ishl hx hb dX4_island_166 ?_
        refine lv_goto (tgt := 171) hx hb dX4_island_167 (by decide) ?_
        exact wm_island_171 hJ C0 hK hE _ ih _ _ _ _ _ _ _ _ hw hS (lv_sub hl [0, 1] rfl) hf
set_option maxHeartbeats 4000000 in
set_option maxRecDepth 100000 in
theorem wm_island_30 {p : Program} {l : Launch} {e : Env} {s : State} {m : MethodId} {args : Array Value} {below : List Frame} {meth : Method} {c : Code} {D : va_G} {L : Nat → Nat} {K : Nat → ClassId} (hJ : gj L 12) (C0 : gC cX4_island 2 (some .int) wsX4_island RX4 p s m args meth c) (hK : va_K D vwCl (tyG K) s) (hE : eM s) {w9 : St} {rs : Int32} : ∀ (fu : Nat) (x1 : Int32) (w : St) (H : Heap) (locs : List Loc) (ls : Array Slot), va_P D vwCl (gl L 12 (cM L K w)) H → va_S (gA L 12) s.heap H locs → lv_has ls 2 [(0, .ref (L 0)), (1, .int x1)] → fm_island_30 fu x1 w = some (rs, w9) → W p l e { frames := 3, cells := 0, slots := 0, locals := 67 } s m args below meth c H locs 0 0 (MQ below (qI D L 12 (cM L K) rs w9) args s 0 0 (gA L 12)) (F0 m 30 ls []) := by
  obtain ⟨hx, hb, hr, hml, hown, hts, hlk⟩ := id C0
  intro fu
  induction fu with
  | zero =>
    intro x1 w H locs ls hw hS hl hf
    rw [fm_island_30] at hf
    exact no_n hf
  | succ fu ih =>
    intro x1 w H locs ls hw hS hl hf
    rw [fm_island_30] at hf
    refine lv_iload_n hx hb dX4_island_30 rfl (lv_at hl 1 rfl) ?_
    refine lv_bipush (v := 27) hx hb dX4_island_31 (by decide) ?_
    refine lv_icmp_ge (tgt := 49) hx hb dX4_island_33 (by decide) (fun c33 => ?_) (fun c33 => ?_)
    · replace hf := if_t hf c33
      refine lv_aload_n hx hb dX4_island_49 rfl (lv_at hl 0 rfl) ?_
      refine z_get (v := .ref (L 3)) hx hb hts hiX4_island_X4 hown hK hw (k := 0) (by decide) ((fun w => rfl) _) rfl 4 (by decide) (hts (.fieldLink RX4 16 "OneSentenceModel" "now" "[I") (by decide +kernel)) rfl dX4_island_50 ?_
      refine lv_bipush (v := 23) hx hb dX4_island_53 (by decide) ?_
      refine lv_bipush (v := (-9)) hx hb dX4_island_55 (by decide) ?_
      obtain ⟨w57, h57, hf⟩ := bd_e hf
      refine z_iast hx hb hK hJ hw hS 0 (k := 3) (by decide) cM_ne (fun w => rfl) rfl h57 dX4_island_57 (fun H locs hw hS => ?_)
      refine lv_aload_n hx hb dX4_island_58 rfl (lv_at hl 0 rfl) ?_
      refine z_get (v := .ref (L 3)) hx hb hts hiX4_island_X4 hown hK hw (k := 0) (by decide) ((fun w => rfl) _) rfl 4 (by decide) (hts (.fieldLink RX4 16 "OneSentenceModel" "now" "[I") (by decide +kernel)) rfl dX4_island_59 ?_
      refine lv_bipush (v := 24) hx hb dX4_island_62 (by decide) ?_
      refine lv_bipush (v := (-9)) hx hb dX4_island_64 (by decide) ?_
      obtain ⟨w66, h66, hf⟩ := bd_e hf
      refine z_iast hx hb hK hJ hw hS 0 (k := 3) (by decide) cM_ne (fun w => rfl) rfl h66 dX4_island_66 (fun H locs hw hS => ?_)
      refine lv_iconst (v := 0) hx hb dX4_island_67 (by decide) ?_
      refine lv_istore_n (lv' := [(1, .int 0), (0, .ref (L 0))]) hx hb dX4_island_68 rfl hl (by decide) rfl (fun ls hl => ?_)
      exact wm_island_69 hJ C0 hK hE _ _ _ _ _ _ hw hS (lv_sub hl [1, 0] rfl) hf
    · replace hf := if_f hf c33
      refine lv_aload_n hx hb dX4_island_36 rfl (lv_at hl 0 rfl) ?_
      refine z_get (v := .ref (L 3)) hx hb hts hiX4_island_X4 hown hK hw (k := 0) (by decide) ((fun w => rfl) _) rfl 4 (by decide) (hts (.fieldLink RX4 16 "OneSentenceModel" "now" "[I") (by decide +kernel)) rfl dX4_island_37 ?_
      refine lv_iload_n hx hb dX4_island_40 rfl (lv_at hl 1 rfl) ?_
      refine lv_iconst (v := 0) hx hb dX4_island_41 (by decide) ?_
      obtain ⟨w42, h42, hf⟩ := bd_e hf
      refine z_iast hx hb hK hJ hw hS 0 (k := 3) (by decide) cM_ne (fun w => rfl) rfl h42 dX4_island_42 (fun H locs hw hS => ?_)
      refine lv_iinc (v := (x1 + 1)) (lv' := [(1, .int (x1 + 1)), (0, .ref (L 0))]) hx hb dX4_island_43 hl (k := 1) rfl rfl (by decide) rfl (fun ls hl => ?_)
      refine lv_goto (tgt := 30) hx hb dX4_island_46 (by decide) ?_
      exact ih _ _ _ _ _ hw hS (lv_sub hl [1, 0] rfl) hf
set_option maxHeartbeats 4000000 in
set_option maxRecDepth 100000 in
theorem wm_island_0 {p : Program} {l : Launch} {e : Env} {s : State} {m : MethodId} {args : Array Value} {below : List Frame} {meth : Method} {c : Code} {D : va_G} {L : Nat → Nat} {K : Nat → ClassId} (hJ : gj L 12) (C0 : gC cX4_island 2 (some .int) wsX4_island RX4 p s m args meth c) (hK : va_K D vwCl (tyG K) s) (hE : eM s) {w9 : St} {rs : Int32} : ∀ (w : St) (H : Heap) (locs : List Loc) (ls : Array Slot), va_P D vwCl (gl L 12 (cM L K w)) H → va_S (gA L 12) s.heap H locs → lv_has ls 2 [(0, .ref (L 0))] → fm_island w = some (rs, w9) → W p l e { frames := 3, cells := 0, slots := 0, locals := 67 } s m args below meth c H locs 0 0 (MQ below (qI D L 12 (cM L K) rs w9) args s 0 0 (gA L 12)) (F0 m 0 ls []) := by
  obtain ⟨hx, hb, hr, hml, hown, hts, hlk⟩ := id C0
  intro w H locs ls hw hS hl hf
  unfold fm_island at hf
  refine lv_aload_n hx hb dX4_island_0 rfl (lv_at hl 0 rfl) ?_
  obtain ⟨q1, h1, hf⟩ := bd_e hf
  refine z_calli (va_runV (As := []) (rest := []) ⟨hx, hb, hml, hown, hts⟩ (km_readText l (D := D) (K := K) hJ w  h1) (cwV 0 hts gX4_island_X4_readText rfl rfl rfl (by decide +kernel) ⟨Nat.le_of_ble_eq_true rfl, Nat.le_of_ble_eq_true rfl⟩) (z_preV eM_ok hK hE hw hS (by decide) ((fun w => rfl) _) (T := TX4) (M := 24) rfl) rfl rfl hl.1 rfl (lv_room (Nat.le_of_ble_eq_true rfl)) dX4_island_1 ⟨Nat.le_of_ble_eq_true rfl, Nat.le_of_ble_eq_true rfl⟩) hS (fun H locs hw hS => ?_)
  refine lv_bipush (v := (-9)) hx hb dX4_island_4 (by decide) ?_
  refine lv_icmp_eq (tgt := 12) hx hb dX4_island_6 (by decide) (fun c6 => ?_) (fun c6 => ?_)
  · replace hf := if_t hf c6
    refine lv_aload_n hx hb dX4_island_12 rfl (lv_at hl 0 rfl) ?_
    refine lv_aload_n hx hb dX4_island_13 rfl (lv_at hl 0 rfl) ?_
    refine z_get (v := .int ((q1.2).1 0 6)) hx hb hts hiX4_island_X4 hown hK hw (k := 0) (by decide) ((fun w => rfl) _) rfl 6 (by decide) (hts (.fieldLink RX4 60 "OneSentenceModel" "readPeople" "I") (by decide +kernel)) rfl dX4_island_14 ?_
    refine z_puti hx hb hts hiX4_island_X4 tyX4 tyX4_ok nmX4 hown hK hJ hw hS (k := 0) (by decide) cM_ne (fs := fM0 L) (fun w => rfl) rfl 0 (by decide) (hts (.fieldLink RX4 74 "OneSentenceModel" "people" "I") (by decide +kernel)) rfl rfl (fun _ _ => ⟨Nat.le_of_ble_eq_true rfl, rfl⟩) dX4_island_17 (fun H locs hw hS => ?_)
    refine lv_aload_n hx hb dX4_island_20 rfl (lv_at hl 0 rfl) ?_
    refine lv_aload_n hx hb dX4_island_21 rfl (lv_at hl 0 rfl) ?_
    refine z_get (v := .int ((wr (q1.2) 0 0 ((q1.2).1 0 6)).1 0 7)) hx hb hts hiX4_island_X4 hown hK hw (k := 0) (by decide) ((fun w => rfl) _) rfl 7 (by decide) (hts (.fieldLink RX4 67 "OneSentenceModel" "readMarket" "I") (by decide +kernel)) rfl dX4_island_22 ?_
    refine z_puti hx hb hts hiX4_island_X4 tyX4 tyX4_ok nmX4 hown hK hJ hw hS (k := 0) (by decide) cM_ne (fs := fM0 L) (fun w => rfl) rfl 1 (by decide) (hts (.fieldLink RX4 77 "OneSentenceModel" "market" "I") (by decide +kernel)) rfl rfl (fun _ _ => ⟨Nat.le_of_ble_eq_true rfl, rfl⟩) dX4_island_25 (fun H locs hw hS => ?_)
    refine lv_iconst (v := 0) hx hb dX4_island_28 (by decide) ?_
    refine lv_istore_n (lv' := [(1, .int 0), (0, .ref (L 0))]) hx hb dX4_island_29 rfl hl (by decide) rfl (fun ls hl => ?_)
    exact wm_island_30 hJ C0 hK hE _ _ _ _ _ _ hw hS (lv_sub hl [1, 0] rfl) hf
  · replace hf := if_f hf c6
    refine lv_bipush (v := (-3)) hx hb dX4_island_9 (by decide) ?_
    exact z_iret hx hb hr hlk hw hS hf dX4_island_11
set_option maxHeartbeats 4000000 in
set_option maxRecDepth 100000 in
theorem km_island (l : Launch) {D : va_G} {L : Nat → Nat} {K : Nat → ClassId} (hJ : gj L 12) (w : St) {w9 : St} {rs : Int32} (hf : fm_island w = some (rs, w9)) : Met l yX4_island wsX4_island ({ frames := 3, cells := 0, slots := 0, locals := 67 }) (va_Pc [.ref (L 0)] (mP D L K w)) (qI D L 12 (cM L K) rs w9) 0 0 (gA L 12) := by
  refine g_met (cc := cX4_island) (nL := 2) (ret := (some .int)) (by decide) rfl (Nat.le_of_ble_eq_true rfl) (fun p e s m below meth c ls C0 hP hl => ?_)
  exact wm_island_0 hJ C0 hP.2.1 hP.2.2 w _ _ ls hP.1 va_S.rf (lv_sub hl [0] rfl) hf
set_option maxRecDepth 20000 in
theorem ggX4_isPerson_X4_in : GoodIn wsX4_isPerson wsX4_in := goodIn_r _ [5] (by decide +kernel) (by decide +kernel)
set_option maxRecDepth 20000 in
theorem gX4_isPerson_X4_in : GoodIn wsX4_isPerson (va_wsS RX4 46 yX4_in wsX4_in) := goodIn_app (goodIn_of _ (by decide +kernel)) ggX4_isPerson_X4_in
theorem dX4_isPerson_0 : decode cX4_isPerson 0 = .ok (.iload_n 1, 1) := by decide +kernel
theorem dX4_isPerson_1 : decode cX4_isPerson 1 = .ok (.i2l, 1) := by decide +kernel
theorem dX4_isPerson_2 : decode cX4_isPerson 2 = .ok (.lconst 0, 1) := by decide +kernel
theorem dX4_isPerson_3 : decode cX4_isPerson 3 = .ok (.aload_n 0, 1) := by decide +kernel
theorem dX4_isPerson_4 : decode cX4_isPerson 4 = .ok (.getfield 74, 3) := by decide +kernel
theorem dX4_isPerson_7 : decode cX4_isPerson 7 = .ok (.iconst 1, 1) := by decide +kernel
theorem dX4_isPerson_8 : decode cX4_isPerson 8 = .ok (.isub, 1) := by decide +kernel
theorem dX4_isPerson_9 : decode cX4_isPerson 9 = .ok (.i2l, 1) := by decide +kernel
theorem dX4_isPerson_10 : decode cX4_isPerson 10 = .ok (.invokestatic 46, 3) := by decide +kernel
theorem dX4_isPerson_13 : decode cX4_isPerson 13 = .ok (.ireturn, 1) := by decide +kernel
set_option maxRecDepth 20000 in
theorem hiX4_isPerson_X4 : ∀ w ∈ u_ws RX4 TX4 24, w ∈ wsX4_isPerson := by decide +kernel
set_option maxHeartbeats 4000000 in
set_option maxRecDepth 100000 in
theorem wm_isPerson_0 {p : Program} {l : Launch} {e : Env} {s : State} {m : MethodId} {args : Array Value} {below : List Frame} {meth : Method} {c : Code} {D : va_G} {L : Nat → Nat} {K : Nat → ClassId} (hJ : gj L 12) (C0 : gC cX4_isPerson 2 (some .boolean) wsX4_isPerson RX4 p s m args meth c) (hK : va_K D vwCl (tyG K) s) (hE : eM s) {w9 : St} {rs : Int32} : ∀ (x1 : Int32) (w : St) (H : Heap) (locs : List Loc) (ls : Array Slot), va_P D vwCl (gl L 12 (cM L K w)) H → va_S (gA L 12) s.heap H locs → lv_has ls 2 [(0, .ref (L 0)), (1, .int x1)] → fm_isPerson x1 w = some (rs, w9) → W p l e { frames := 1, cells := 0, slots := 0, locals := 25 } s m args below meth c H locs 0 0 (MQ below (qI D L 12 (cM L K) rs w9) args s 0 0 (gA L 12)) (F0 m 0 ls []) := by
  obtain ⟨hx, hb, hr, hml, hown, hts, hlk⟩ := id C0
  intro x1 w H locs ls hw hS hl hf
  unfold fm_isPerson at hf
  refine lv_iload_n hx hb dX4_isPerson_0 rfl (lv_at hl 1 rfl) ?_
  refine lv_i2l (v := x1.toInt64) hx hb dX4_isPerson_1 rfl ?_
  refine lv_lconst (v := 0) hx hb dX4_isPerson_2 (by decide) ?_
  refine lv_aload_n hx hb dX4_isPerson_3 rfl (lv_at hl 0 rfl) ?_
  refine z_get (v := .int (w.1 0 0)) hx hb hts hiX4_isPerson_X4 hown hK hw (k := 0) (by decide) ((fun w => rfl) _) rfl 0 (by decide) (hts (.fieldLink RX4 74 "OneSentenceModel" "people" "I") (by decide +kernel)) rfl dX4_isPerson_4 ?_
  refine lv_iconst (v := 1) hx hb dX4_isPerson_7 (by decide) ?_
  refine lv_isub hx hb dX4_isPerson_8 ?_
  refine lv_i2l (v := ((w.1 0 0) - (1 : Int32)).toInt64) hx hb dX4_isPerson_9 rfl ?_
  obtain ⟨v10, h10, hf⟩ := bd_e hf
  refine z_calls (va_runS (As := [.long (x1.toInt64), .long 0, .long (((w.1 0 0) - (1 : Int32)).toInt64)]) (rest := []) ⟨hx, hb, hml, hown, hts⟩ (km_in l (x1.toInt64) 0 (((w.1 0 0) - (1 : Int32)).toInt64) h10) (va_cwS 3 hts gX4_isPerson_X4_in rfl rfl rfl (by decide +kernel) ⟨Nat.le_of_ble_eq_true rfl, Nat.le_of_ble_eq_true rfl⟩) z_preT rfl rfl hl.1 rfl (lv_room (Nat.le_of_ble_eq_true rfl)) dX4_isPerson_10 ⟨Nat.le_of_ble_eq_true rfl, Nat.le_of_ble_eq_true rfl⟩) ?_
  obtain ⟨v13, h13, hf⟩ := bd_e hf
  obtain ⟨rfl, hn⟩ := gz_e h13
  exact z_zret hx hb hr hlk hn hw hS hf dX4_isPerson_13
set_option maxHeartbeats 4000000 in
set_option maxRecDepth 100000 in
theorem km_isPerson (l : Launch) {D : va_G} {L : Nat → Nat} {K : Nat → ClassId} (hJ : gj L 12) (x1 : Int32) (w : St) {w9 : St} {rs : Int32} (hf : fm_isPerson x1 w = some (rs, w9)) : Met l yX4_isPerson wsX4_isPerson ({ frames := 1, cells := 0, slots := 0, locals := 25 }) (va_Pc [.ref (L 0), .int x1] (mP D L K w)) (qI D L 12 (cM L K) rs w9) 0 0 (gA L 12) := by
  refine g_met (cc := cX4_isPerson) (nL := 2) (ret := (some .boolean)) (by decide) rfl (Nat.le_of_ble_eq_true rfl) (fun p e s m below meth c ls C0 hP hl => ?_)
  exact wm_isPerson_0 hJ C0 hP.2.1 hP.2.2 _ w _ _ ls hP.1 va_S.rf (lv_sub hl [0, 1] rfl) hf
set_option maxRecDepth 20000 in
theorem ggX4_may_X4_has : GoodIn wsX4_may wsX4_has := goodIn_r _ [6] (by decide +kernel) (by decide +kernel)
set_option maxRecDepth 20000 in
theorem gX4_may_X4_has : GoodIn wsX4_may (va_wsS RX4 83 yX4_has wsX4_has) := goodIn_app (goodIn_of _ (by decide +kernel)) ggX4_may_X4_has
theorem dX4_may_0 : decode cX4_may 0 = .ok (.bipush 27, 2) := by decide +kernel
theorem dX4_may_2 : decode cX4_may 2 = .ok (.iload_n 1, 1) := by decide +kernel
theorem dX4_may_3 : decode cX4_may 3 = .ok (.imul, 1) := by decide +kernel
theorem dX4_may_4 : decode cX4_may 4 = .ok (.istore_n 3, 1) := by decide +kernel
theorem dX4_may_5 : decode cX4_may 5 = .ok (.aload_n 0, 1) := by decide +kernel
theorem dX4_may_6 : decode cX4_may 6 = .ok (.getfield 16, 3) := by decide +kernel
theorem dX4_may_9 : decode cX4_may 9 = .ok (.iload_n 3, 1) := by decide +kernel
theorem dX4_may_10 : decode cX4_may 10 = .ok (.iaload, 1) := by decide +kernel
theorem dX4_may_11 : decode cX4_may 11 = .ok (.iload_n 2, 1) := by decide +kernel
theorem dX4_may_12 : decode cX4_may 12 = .ok (.invokestatic 83, 3) := by decide +kernel
theorem dX4_may_15 : decode cX4_may 15 = .ok (.ifCond .ne 5, 3) := by decide +kernel
theorem dX4_may_18 : decode cX4_may 18 = .ok (.iconst 0, 1) := by decide +kernel
theorem dX4_may_19 : decode cX4_may 19 = .ok (.ireturn, 1) := by decide +kernel
theorem dX4_may_20 : decode cX4_may 20 = .ok (.aload_n 0, 1) := by decide +kernel
theorem dX4_may_21 : decode cX4_may 21 = .ok (.getfield 16, 3) := by decide +kernel
theorem dX4_may_24 : decode cX4_may 24 = .ok (.iload_n 3, 1) := by decide +kernel
theorem dX4_may_25 : decode cX4_may 25 = .ok (.bipush 23, 2) := by decide +kernel
theorem dX4_may_27 : decode cX4_may 27 = .ok (.iadd, 1) := by decide +kernel
theorem dX4_may_28 : decode cX4_may 28 = .ok (.iaload, 1) := by decide +kernel
theorem dX4_may_29 : decode cX4_may 29 = .ok (.bipush (-9), 2) := by decide +kernel
theorem dX4_may_31 : decode cX4_may 31 = .ok (.if_icmp .eq 20, 3) := by decide +kernel
theorem dX4_may_34 : decode cX4_may 34 = .ok (.aload_n 0, 1) := by decide +kernel
theorem dX4_may_35 : decode cX4_may 35 = .ok (.getfield 16, 3) := by decide +kernel
theorem dX4_may_38 : decode cX4_may 38 = .ok (.iload_n 3, 1) := by decide +kernel
theorem dX4_may_39 : decode cX4_may 39 = .ok (.bipush 23, 2) := by decide +kernel
theorem dX4_may_41 : decode cX4_may 41 = .ok (.iadd, 1) := by decide +kernel
theorem dX4_may_42 : decode cX4_may 42 = .ok (.iaload, 1) := by decide +kernel
theorem dX4_may_43 : decode cX4_may 43 = .ok (.iload_n 2, 1) := by decide +kernel
theorem dX4_may_44 : decode cX4_may 44 = .ok (.if_icmp .eq 7, 3) := by decide +kernel
theorem dX4_may_47 : decode cX4_may 47 = .ok (.iconst 1, 1) := by decide +kernel
theorem dX4_may_48 : decode cX4_may 48 = .ok (.goto 4, 3) := by decide +kernel
theorem dX4_may_51 : decode cX4_may 51 = .ok (.iconst 0, 1) := by decide +kernel
theorem dX4_may_52 : decode cX4_may 52 = .ok (.istore 4, 2) := by decide +kernel
theorem dX4_may_54 : decode cX4_may 54 = .ok (.aload_n 0, 1) := by decide +kernel
theorem dX4_may_55 : decode cX4_may 55 = .ok (.getfield 13, 3) := by decide +kernel
theorem dX4_may_58 : decode cX4_may 58 = .ok (.iload_n 2, 1) := by decide +kernel
theorem dX4_may_59 : decode cX4_may 59 = .ok (.iaload, 1) := by decide +kernel
theorem dX4_may_60 : decode cX4_may 60 = .ok (.iconst 1, 1) := by decide +kernel
theorem dX4_may_61 : decode cX4_may 61 = .ok (.if_icmp .ne 8, 3) := by decide +kernel
theorem dX4_may_64 : decode cX4_may 64 = .ok (.iload 4, 2) := by decide +kernel
theorem dX4_may_66 : decode cX4_may 66 = .ok (.goto 32, 3) := by decide +kernel
theorem dX4_may_69 : decode cX4_may 69 = .ok (.aload_n 0, 1) := by decide +kernel
theorem dX4_may_70 : decode cX4_may 70 = .ok (.getfield 13, 3) := by decide +kernel
theorem dX4_may_73 : decode cX4_may 73 = .ok (.iload_n 2, 1) := by decide +kernel
theorem dX4_may_74 : decode cX4_may 74 = .ok (.iaload, 1) := by decide +kernel
theorem dX4_may_75 : decode cX4_may 75 = .ok (.iconst 3, 1) := by decide +kernel
theorem dX4_may_76 : decode cX4_may 76 = .ok (.if_icmp .ne 17, 3) := by decide +kernel
theorem dX4_may_79 : decode cX4_may 79 = .ok (.aload_n 0, 1) := by decide +kernel
theorem dX4_may_80 : decode cX4_may 80 = .ok (.getfield 16, 3) := by decide +kernel
theorem dX4_may_83 : decode cX4_may 83 = .ok (.iload_n 3, 1) := by decide +kernel
theorem dX4_may_84 : decode cX4_may 84 = .ok (.bipush 15, 2) := by decide +kernel
theorem dX4_may_86 : decode cX4_may 86 = .ok (.iadd, 1) := by decide +kernel
theorem dX4_may_87 : decode cX4_may 87 = .ok (.iload_n 2, 1) := by decide +kernel
theorem dX4_may_88 : decode cX4_may 88 = .ok (.iadd, 1) := by decide +kernel
theorem dX4_may_89 : decode cX4_may 89 = .ok (.iaload, 1) := by decide +kernel
theorem dX4_may_90 : decode cX4_may 90 = .ok (.ifCond .ne 7, 3) := by decide +kernel
theorem dX4_may_93 : decode cX4_may 93 = .ok (.iconst 1, 1) := by decide +kernel
theorem dX4_may_94 : decode cX4_may 94 = .ok (.goto 4, 3) := by decide +kernel
theorem dX4_may_97 : decode cX4_may 97 = .ok (.iconst 0, 1) := by decide +kernel
theorem dX4_may_98 : decode cX4_may 98 = .ok (.ireturn, 1) := by decide +kernel
set_option maxRecDepth 20000 in
theorem hiX4_may_X4 : ∀ w ∈ u_ws RX4 TX4 24, w ∈ wsX4_may := by decide +kernel
set_option maxHeartbeats 4000000 in
set_option maxRecDepth 100000 in
theorem wm_may_52 {p : Program} {l : Launch} {e : Env} {s : State} {m : MethodId} {args : Array Value} {below : List Frame} {meth : Method} {c : Code} {D : va_G} {L : Nat → Nat} {K : Nat → ClassId} (hJ : gj L 12) (C0 : gC cX4_may 5 (some .boolean) wsX4_may RX4 p s m args meth c) (hK : va_K D vwCl (tyG K) s) (hE : eM s) {w9 : St} {rs : Int32} : ∀ (x2 : Int32) (x3 : Int32) (s0 : Int32) (w : St) (H : Heap) (locs : List Loc) (ls : Array Slot), va_P D vwCl (gl L 12 (cM L K w)) H → va_S (gA L 12) s.heap H locs → lv_has ls 5 [(0, .ref (L 0)), (2, .int x2), (3, .int x3)] → fm_may_52 x2 x3 s0 w = some (rs, w9) → W p l e { frames := 1, cells := 0, slots := 0, locals := 21 } s m args below meth c H locs 0 0 (MQ below (qI D L 12 (cM L K) rs w9) args s 0 0 (gA L 12)) (F0 m 52 ls [.int s0]) := by
  obtain ⟨hx, hb, hr, hml, hown, hts, hlk⟩ := id C0
  intro x2 x3 s0 w H locs ls hw hS hl hf
  unfold fm_may_52 at hf
  refine lv_istore (lv' := [(4, .int s0), (0, .ref (L 0)), (2, .int x2), (3, .int x3)]) hx hb dX4_may_52 hl (by decide) rfl (fun ls hl => ?_)
  refine lv_aload_n hx hb dX4_may_54 rfl (lv_at hl 1 rfl) ?_
  refine z_get (v := .ref (L 2)) hx hb hts hiX4_may_X4 hown hK hw (k := 0) (by decide) ((fun w => rfl) _) rfl 3 (by decide) (hts (.fieldLink RX4 13 "OneSentenceModel" "kind" "[I") (by decide +kernel)) rfl dX4_may_55 ?_
  refine lv_iload_n hx hb dX4_may_58 rfl (lv_at hl 2 rfl) ?_
  obtain ⟨v59, h59, hf⟩ := bd_e hf
  refine z_iald hx hb hK hw 0 (k := 2) (by decide) ((fun w => rfl) _) rfl h59 dX4_may_59 ?_
  refine lv_iconst (v := 1) hx hb dX4_may_60 (by decide) ?_
  refine lv_icmp_ne (tgt := 69) hx hb dX4_may_61 (by decide) (fun c61 => ?_) (fun c61 => ?_)
  · replace hf := if_f hf c61
    refine lv_aload_n hx hb dX4_may_69 rfl (lv_at hl 1 rfl) ?_
    refine z_get (v := .ref (L 2)) hx hb hts hiX4_may_X4 hown hK hw (k := 0) (by decide) ((fun w => rfl) _) rfl 3 (by decide) (hts (.fieldLink RX4 13 "OneSentenceModel" "kind" "[I") (by decide +kernel)) rfl dX4_may_70 ?_
    refine lv_iload_n hx hb dX4_may_73 rfl (lv_at hl 2 rfl) ?_
    obtain ⟨v74, h74, hf⟩ := bd_e hf
    refine z_iald hx hb hK hw 0 (k := 2) (by decide) ((fun w => rfl) _) rfl h74 dX4_may_74 ?_
    refine lv_iconst (v := 3) hx hb dX4_may_75 (by decide) ?_
    refine lv_icmp_ne (tgt := 93) hx hb dX4_may_76 (by decide) (fun c76 => ?_) (fun c76 => ?_)
    · replace hf := if_f hf c76
      refine lv_iconst (v := 1) hx hb dX4_may_93 (by decide) ?_
      refine lv_goto (tgt := 98) hx hb dX4_may_94 (by decide) ?_
      exact z_zret hx hb hr hlk rfl hw hS hf dX4_may_98
    · replace hf := if_t hf c76
      refine lv_aload_n hx hb dX4_may_79 rfl (lv_at hl 1 rfl) ?_
      refine z_get (v := .ref (L 3)) hx hb hts hiX4_may_X4 hown hK hw (k := 0) (by decide) ((fun w => rfl) _) rfl 4 (by decide) (hts (.fieldLink RX4 16 "OneSentenceModel" "now" "[I") (by decide +kernel)) rfl dX4_may_80 ?_
      refine lv_iload_n hx hb dX4_may_83 rfl (lv_at hl 3 rfl) ?_
      refine lv_bipush (v := 15) hx hb dX4_may_84 (by decide) ?_
      refine lv_iadd hx hb dX4_may_86 ?_
      refine lv_iload_n hx hb dX4_may_87 rfl (lv_at hl 2 rfl) ?_
      refine lv_iadd hx hb dX4_may_88 ?_
      obtain ⟨v89, h89, hf⟩ := bd_e hf
      refine z_iald hx hb hK hw 0 (k := 3) (by decide) ((fun w => rfl) _) rfl h89 dX4_may_89 ?_
      refine lv_if_ne (tgt := 97) hx hb dX4_may_90 (by decide) (fun c90 => ?_) (fun c90 => ?_)
      · replace hf := if_f hf c90
        refine lv_iconst (v := 0) hx hb dX4_may_97 (by decide) ?_
        exact z_zret hx hb hr hlk rfl hw hS hf dX4_may_98
      · replace hf := if_t hf c90
        refine lv_iconst (v := 1) hx hb dX4_may_93 (by decide) ?_
        refine lv_goto (tgt := 98) hx hb dX4_may_94 (by decide) ?_
        exact z_zret hx hb hr hlk rfl hw hS hf dX4_may_98
  · replace hf := if_t hf c61
    refine lv_iload hx hb dX4_may_64 (lv_at hl 0 rfl) ?_
    refine lv_goto (tgt := 98) hx hb dX4_may_66 (by decide) ?_
    obtain ⟨v98, h98, hf⟩ := bd_e hf
    obtain ⟨rfl, hn⟩ := gz_e h98
    exact z_zret hx hb hr hlk hn hw hS hf dX4_may_98
set_option maxHeartbeats 4000000 in
set_option maxRecDepth 100000 in
theorem wm_may_51 {p : Program} {l : Launch} {e : Env} {s : State} {m : MethodId} {args : Array Value} {below : List Frame} {meth : Method} {c : Code} {D : va_G} {L : Nat → Nat} {K : Nat → ClassId} (hJ : gj L 12) (C0 : gC cX4_may 5 (some .boolean) wsX4_may RX4 p s m args meth c) (hK : va_K D vwCl (tyG K) s) (hE : eM s) {w9 : St} {rs : Int32} : ∀ (x2 : Int32) (x3 : Int32) (w : St) (H : Heap) (locs : List Loc) (ls : Array Slot), va_P D vwCl (gl L 12 (cM L K w)) H → va_S (gA L 12) s.heap H locs → lv_has ls 5 [(0, .ref (L 0)), (2, .int x2), (3, .int x3)] → fm_may_51 x2 x3 w = some (rs, w9) → W p l e { frames := 1, cells := 0, slots := 0, locals := 21 } s m args below meth c H locs 0 0 (MQ below (qI D L 12 (cM L K) rs w9) args s 0 0 (gA L 12)) (F0 m 51 ls []) := by
  obtain ⟨hx, hb, hr, hml, hown, hts, hlk⟩ := id C0
  intro x2 x3 w H locs ls hw hS hl hf
  unfold fm_may_51 at hf
  refine lv_iconst (v := 0) hx hb dX4_may_51 (by decide) ?_
  exact wm_may_52 hJ C0 hK hE _ _ _ _ _ _ _ hw hS (lv_sub hl [0, 1, 2] rfl) hf
set_option maxHeartbeats 4000000 in
set_option maxRecDepth 100000 in
theorem wm_may_0 {p : Program} {l : Launch} {e : Env} {s : State} {m : MethodId} {args : Array Value} {below : List Frame} {meth : Method} {c : Code} {D : va_G} {L : Nat → Nat} {K : Nat → ClassId} (hJ : gj L 12) (C0 : gC cX4_may 5 (some .boolean) wsX4_may RX4 p s m args meth c) (hK : va_K D vwCl (tyG K) s) (hE : eM s) {w9 : St} {rs : Int32} : ∀ (x1 : Int32) (x2 : Int32) (w : St) (H : Heap) (locs : List Loc) (ls : Array Slot), va_P D vwCl (gl L 12 (cM L K w)) H → va_S (gA L 12) s.heap H locs → lv_has ls 5 [(0, .ref (L 0)), (1, .int x1), (2, .int x2)] → fm_may x1 x2 w = some (rs, w9) → W p l e { frames := 1, cells := 0, slots := 0, locals := 21 } s m args below meth c H locs 0 0 (MQ below (qI D L 12 (cM L K) rs w9) args s 0 0 (gA L 12)) (F0 m 0 ls []) := by
  obtain ⟨hx, hb, hr, hml, hown, hts, hlk⟩ := id C0
  intro x1 x2 w H locs ls hw hS hl hf
  unfold fm_may at hf
  refine lv_bipush (v := 27) hx hb dX4_may_0 (by decide) ?_
  refine lv_iload_n hx hb dX4_may_2 rfl (lv_at hl 1 rfl) ?_
  refine lv_imul hx hb dX4_may_3 ?_
  refine lv_topi (fun v4 e4 => ?_)
  replace hf := lb_e hf e4
  refine lv_istore_n (lv' := [(3, .int v4), (0, .ref (L 0)), (1, .int x1), (2, .int x2)]) hx hb dX4_may_4 rfl hl (by decide) rfl (fun ls hl => ?_)
  refine lv_aload_n hx hb dX4_may_5 rfl (lv_at hl 1 rfl) ?_
  refine z_get (v := .ref (L 3)) hx hb hts hiX4_may_X4 hown hK hw (k := 0) (by decide) ((fun w => rfl) _) rfl 4 (by decide) (hts (.fieldLink RX4 16 "OneSentenceModel" "now" "[I") (by decide +kernel)) rfl dX4_may_6 ?_
  refine lv_iload_n hx hb dX4_may_9 rfl (lv_at hl 0 rfl) ?_
  obtain ⟨v10, h10, hf⟩ := bd_e hf
  refine z_iald hx hb hK hw 0 (k := 3) (by decide) ((fun w => rfl) _) rfl h10 dX4_may_10 ?_
  refine lv_iload_n hx hb dX4_may_11 rfl (lv_at hl 3 rfl) ?_
  obtain ⟨v12, h12, hf⟩ := bd_e hf
  refine z_calls (va_runS (As := [.int v10, .int x2]) (rest := []) ⟨hx, hb, hml, hown, hts⟩ (km_has l v10 x2 h12) (va_cwS 2 hts gX4_may_X4_has rfl rfl rfl (by decide +kernel) ⟨Nat.le_of_ble_eq_true rfl, Nat.le_of_ble_eq_true rfl⟩) z_preT rfl rfl hl.1 rfl (lv_room (Nat.le_of_ble_eq_true rfl)) dX4_may_12 ⟨Nat.le_of_ble_eq_true rfl, Nat.le_of_ble_eq_true rfl⟩) ?_
  refine lv_if_ne (tgt := 20) hx hb dX4_may_15 (by decide) (fun c15 => ?_) (fun c15 => ?_)
  · replace hf := if_f hf c15
    refine lv_aload_n hx hb dX4_may_20 rfl (lv_at hl 1 rfl) ?_
    refine z_get (v := .ref (L 3)) hx hb hts hiX4_may_X4 hown hK hw (k := 0) (by decide) ((fun w => rfl) _) rfl 4 (by decide) (hts (.fieldLink RX4 16 "OneSentenceModel" "now" "[I") (by decide +kernel)) rfl dX4_may_21 ?_
    refine lv_iload_n hx hb dX4_may_24 rfl (lv_at hl 0 rfl) ?_
    refine lv_bipush (v := 23) hx hb dX4_may_25 (by decide) ?_
    refine lv_iadd hx hb dX4_may_27 ?_
    obtain ⟨v28, h28, hf⟩ := bd_e hf
    refine z_iald hx hb hK hw 0 (k := 3) (by decide) ((fun w => rfl) _) rfl h28 dX4_may_28 ?_
    refine lv_bipush (v := (-9)) hx hb dX4_may_29 (by decide) ?_
    refine lv_icmp_eq (tgt := 51) hx hb dX4_may_31 (by decide) (fun c31 => ?_) (fun c31 => ?_)
    · replace hf := if_t hf c31
      exact wm_may_51 hJ C0 hK hE _ _ _ _ _ _ hw hS (lv_sub hl [1, 3, 0] rfl) hf
    · replace hf := if_f hf c31
      refine lv_aload_n hx hb dX4_may_34 rfl (lv_at hl 1 rfl) ?_
      refine z_get (v := .ref (L 3)) hx hb hts hiX4_may_X4 hown hK hw (k := 0) (by decide) ((fun w => rfl) _) rfl 4 (by decide) (hts (.fieldLink RX4 16 "OneSentenceModel" "now" "[I") (by decide +kernel)) rfl dX4_may_35 ?_
      refine lv_iload_n hx hb dX4_may_38 rfl (lv_at hl 0 rfl) ?_
      refine lv_bipush (v := 23) hx hb dX4_may_39 (by decide) ?_
      refine lv_iadd hx hb dX4_may_41 ?_
      obtain ⟨v42, h42, hf⟩ := bd_e hf
      refine z_iald hx hb hK hw 0 (k := 3) (by decide) ((fun w => rfl) _) rfl h42 dX4_may_42 ?_
      refine lv_iload_n hx hb dX4_may_43 rfl (lv_at hl 3 rfl) ?_
      refine lv_icmp_eq (tgt := 51) hx hb dX4_may_44 (by decide) (fun c44 => ?_) (fun c44 => ?_)
      · replace hf := if_t hf c44
        exact wm_may_51 hJ C0 hK hE _ _ _ _ _ _ hw hS (lv_sub hl [1, 3, 0] rfl) hf
      · replace hf := if_f hf c44
        refine lv_iconst (v := 1) hx hb dX4_may_47 (by decide) ?_
        refine lv_goto (tgt := 52) hx hb dX4_may_48 (by decide) ?_
        exact wm_may_52 hJ C0 hK hE _ _ _ _ _ _ _ hw hS (lv_sub hl [1, 3, 0] rfl) hf
  · replace hf := if_t hf c15
    refine lv_iconst (v := 0) hx hb dX4_may_18 (by decide) ?_
    exact z_zret hx hb hr hlk rfl hw hS hf dX4_may_19
set_option maxHeartbeats 4000000 in
set_option maxRecDepth 100000 in
theorem km_may (l : Launch) {D : va_G} {L : Nat → Nat} {K : Nat → ClassId} (hJ : gj L 12) (x1 : Int32) (x2 : Int32) (w : St) {w9 : St} {rs : Int32} (hf : fm_may x1 x2 w = some (rs, w9)) : Met l yX4_may wsX4_may ({ frames := 1, cells := 0, slots := 0, locals := 21 }) (va_Pc [.ref (L 0), .int x1, .int x2] (mP D L K w)) (qI D L 12 (cM L K) rs w9) 0 0 (gA L 12) := by
  refine g_met (cc := cX4_may) (nL := 5) (ret := (some .boolean)) (by decide) rfl (Nat.le_of_ble_eq_true rfl) (fun p e s m below meth c ls C0 hP hl => ?_)
  exact wm_may_0 hJ C0 hP.2.1 hP.2.2 _ _ w _ _ ls hP.1 va_S.rf (lv_sub hl [0, 1, 2] rfl) hf
theorem dX4_made_0 : decode cX4_made 0 = .ok (.iload_n 1, 1) := by decide +kernel
theorem dX4_made_1 : decode cX4_made 1 = .ok (.ifCond .ne 7, 3) := by decide +kernel
theorem dX4_made_4 : decode cX4_made 4 = .ok (.iload_n 2, 1) := by decide +kernel
theorem dX4_made_5 : decode cX4_made 5 = .ok (.goto 30, 3) := by decide +kernel
theorem dX4_made_8 : decode cX4_made 8 = .ok (.iload_n 1, 1) := by decide +kernel
theorem dX4_made_9 : decode cX4_made 9 = .ok (.iconst 1, 1) := by decide +kernel
theorem dX4_made_10 : decode cX4_made 10 = .ok (.if_icmp .ne 12, 3) := by decide +kernel
theorem dX4_made_13 : decode cX4_made 13 = .ok (.iload_n 0, 1) := by decide +kernel
theorem dX4_made_14 : decode cX4_made 14 = .ok (.iload_n 2, 1) := by decide +kernel
theorem dX4_made_15 : decode cX4_made 15 = .ok (.iadd, 1) := by decide +kernel
theorem dX4_made_16 : decode cX4_made 16 = .ok (.bipush 10, 2) := by decide +kernel
theorem dX4_made_18 : decode cX4_made 18 = .ok (.irem, 1) := by decide +kernel
theorem dX4_made_19 : decode cX4_made 19 = .ok (.goto 16, 3) := by decide +kernel
theorem dX4_made_22 : decode cX4_made 22 = .ok (.iload_n 1, 1) := by decide +kernel
theorem dX4_made_23 : decode cX4_made 23 = .ok (.iconst 2, 1) := by decide +kernel
theorem dX4_made_24 : decode cX4_made 24 = .ok (.if_icmp .ne 10, 3) := by decide +kernel
theorem dX4_made_27 : decode cX4_made 27 = .ok (.bipush 9, 2) := by decide +kernel
theorem dX4_made_29 : decode cX4_made 29 = .ok (.iload_n 0, 1) := by decide +kernel
theorem dX4_made_30 : decode cX4_made 30 = .ok (.isub, 1) := by decide +kernel
theorem dX4_made_31 : decode cX4_made 31 = .ok (.goto 4, 3) := by decide +kernel
theorem dX4_made_34 : decode cX4_made 34 = .ok (.iload_n 0, 1) := by decide +kernel
theorem dX4_made_35 : decode cX4_made 35 = .ok (.ireturn, 1) := by decide +kernel
set_option maxHeartbeats 4000000 in
set_option maxRecDepth 100000 in
theorem wm_made_0 {p : Program} {l : Launch} {e : Env} {s : State} {m : MethodId} {args : Array Value} {below : List Frame} {meth : Method} {c : Code} (C0 : gC cX4_made 3 (some .int) wsX4_made RX4 p s m args meth c) {rs : Int32} : ∀ (x0 : Int32) (x1 : Int32) (x2 : Int32) (ls : Array Slot), lv_has ls 3 [(0, .int x0), (1, .int x1), (2, .int x2)] → fm_made x0 x1 x2 = some rs → W p l e { frames := 0, cells := 0, slots := 0, locals := 0 } s m args below meth c s.heap [] 0 0 (MQ below (qS rs) args s 0 0 (fun _ => False)) (F0 m 0 ls []) := by
  obtain ⟨hx, hb, hr, hml, hown, hts, hlk⟩ := id C0
  intro x0 x1 x2 ls hl hf
  unfold fm_made at hf
  refine lv_iload_n hx hb dX4_made_0 rfl (lv_at hl 1 rfl) ?_
  refine lv_if_ne (tgt := 8) hx hb dX4_made_1 (by decide) (fun c1 => ?_) (fun c1 => ?_)
  · replace hf := if_f hf c1
    refine lv_iload_n hx hb dX4_made_8 rfl (lv_at hl 1 rfl) ?_
    refine lv_iconst (v := 1) hx hb dX4_made_9 (by decide) ?_
    refine lv_icmp_ne (tgt := 22) hx hb dX4_made_10 (by decide) (fun c10 => ?_) (fun c10 => ?_)
    · replace hf := if_f hf c10
      refine lv_iload_n hx hb dX4_made_22 rfl (lv_at hl 1 rfl) ?_
      refine lv_iconst (v := 2) hx hb dX4_made_23 (by decide) ?_
      refine lv_icmp_ne (tgt := 34) hx hb dX4_made_24 (by decide) (fun c24 => ?_) (fun c24 => ?_)
      · replace hf := if_f hf c24
        refine lv_iload_n hx hb dX4_made_34 rfl (lv_at hl 0 rfl) ?_
        exact z_sret hx hb hr hlk hf dX4_made_35
      · replace hf := if_t hf c24
        refine lv_bipush (v := 9) hx hb dX4_made_27 (by decide) ?_
        refine lv_iload_n hx hb dX4_made_29 rfl (lv_at hl 0 rfl) ?_
        refine lv_isub hx hb dX4_made_30 ?_
        refine lv_goto (tgt := 35) hx hb dX4_made_31 (by decide) ?_
        exact z_sret hx hb hr hlk hf dX4_made_35
    · replace hf := if_t hf c10
      refine lv_iload_n hx hb dX4_made_13 rfl (lv_at hl 0 rfl) ?_
      refine lv_iload_n hx hb dX4_made_14 rfl (lv_at hl 2 rfl) ?_
      refine lv_iadd hx hb dX4_made_15 ?_
      refine lv_bipush (v := 10) hx hb dX4_made_16 (by decide) ?_
      refine lv_irem hx hb dX4_made_18 (by decide) ?_
      refine lv_goto (tgt := 35) hx hb dX4_made_19 (by decide) ?_
      exact z_sret hx hb hr hlk hf dX4_made_35
  · replace hf := if_t hf c1
    refine lv_iload_n hx hb dX4_made_4 rfl (lv_at hl 2 rfl) ?_
    refine lv_goto (tgt := 35) hx hb dX4_made_5 (by decide) ?_
    exact z_sret hx hb hr hlk hf dX4_made_35
set_option maxHeartbeats 4000000 in
set_option maxRecDepth 100000 in
theorem km_made (l : Launch) (x0 : Int32) (x1 : Int32) (x2 : Int32) {rs : Int32} (hf : fm_made x0 x1 x2 = some rs) : Met l yX4_made wsX4_made ({ frames := 0, cells := 0, slots := 0, locals := 0 }) (va_Pc [.int x0, .int x1, .int x2] (fun _ => True)) (qS rs) 0 0 (fun _ => False) := by
  refine g_met (cc := cX4_made) (nL := 3) (ret := (some .int)) (by decide) rfl (Nat.le_of_ble_eq_true rfl) (fun p e s m below meth c ls C0 _ hl => ?_)
  exact wm_made_0 C0 _ _ _ ls (lv_sub hl [0, 1, 2] rfl) hf
set_option maxRecDepth 20000 in
theorem ggX4_speakOn_X4_made : GoodIn wsX4_speakOn wsX4_made := goodIn_r _ [5] (by decide +kernel) (by decide +kernel)
set_option maxRecDepth 20000 in
theorem gX4_speakOn_X4_made : GoodIn wsX4_speakOn (va_wsS RX4 87 yX4_made wsX4_made) := goodIn_app (goodIn_of _ (by decide +kernel)) ggX4_speakOn_X4_made
theorem dX4_speakOn_0 : decode cX4_speakOn 0 = .ok (.bipush 27, 2) := by decide +kernel
theorem dX4_speakOn_2 : decode cX4_speakOn 2 = .ok (.iload_n 1, 1) := by decide +kernel
theorem dX4_speakOn_3 : decode cX4_speakOn 3 = .ok (.imul, 1) := by decide +kernel
theorem dX4_speakOn_4 : decode cX4_speakOn 4 = .ok (.istore_n 3, 1) := by decide +kernel
theorem dX4_speakOn_5 : decode cX4_speakOn 5 = .ok (.aload_n 0, 1) := by decide +kernel
theorem dX4_speakOn_6 : decode cX4_speakOn 6 = .ok (.getfield 16, 3) := by decide +kernel
theorem dX4_speakOn_9 : decode cX4_speakOn 9 = .ok (.iload_n 3, 1) := by decide +kernel
theorem dX4_speakOn_10 : decode cX4_speakOn 10 = .ok (.iconst 1, 1) := by decide +kernel
theorem dX4_speakOn_11 : decode cX4_speakOn 11 = .ok (.iadd, 1) := by decide +kernel
theorem dX4_speakOn_12 : decode cX4_speakOn 12 = .ok (.iload_n 2, 1) := by decide +kernel
theorem dX4_speakOn_13 : decode cX4_speakOn 13 = .ok (.iadd, 1) := by decide +kernel
theorem dX4_speakOn_14 : decode cX4_speakOn 14 = .ok (.iaload, 1) := by decide +kernel
theorem dX4_speakOn_15 : decode cX4_speakOn 15 = .ok (.iconst 3, 1) := by decide +kernel
theorem dX4_speakOn_16 : decode cX4_speakOn 16 = .ok (.if_icmp .eq 42, 3) := by decide +kernel
theorem dX4_speakOn_19 : decode cX4_speakOn 19 = .ok (.aload_n 0, 1) := by decide +kernel
theorem dX4_speakOn_20 : decode cX4_speakOn 20 = .ok (.getfield 16, 3) := by decide +kernel
theorem dX4_speakOn_23 : decode cX4_speakOn 23 = .ok (.iload_n 3, 1) := by decide +kernel
theorem dX4_speakOn_24 : decode cX4_speakOn 24 = .ok (.bipush 24, 2) := by decide +kernel
theorem dX4_speakOn_26 : decode cX4_speakOn 26 = .ok (.iadd, 1) := by decide +kernel
theorem dX4_speakOn_27 : decode cX4_speakOn 27 = .ok (.aload_n 0, 1) := by decide +kernel
theorem dX4_speakOn_28 : decode cX4_speakOn 28 = .ok (.getfield 16, 3) := by decide +kernel
theorem dX4_speakOn_31 : decode cX4_speakOn 31 = .ok (.iload_n 3, 1) := by decide +kernel
theorem dX4_speakOn_32 : decode cX4_speakOn 32 = .ok (.iconst 1, 1) := by decide +kernel
theorem dX4_speakOn_33 : decode cX4_speakOn 33 = .ok (.iadd, 1) := by decide +kernel
theorem dX4_speakOn_34 : decode cX4_speakOn 34 = .ok (.iload_n 2, 1) := by decide +kernel
theorem dX4_speakOn_35 : decode cX4_speakOn 35 = .ok (.iadd, 1) := by decide +kernel
theorem dX4_speakOn_36 : decode cX4_speakOn 36 = .ok (.iaload, 1) := by decide +kernel
theorem dX4_speakOn_37 : decode cX4_speakOn 37 = .ok (.iastore, 1) := by decide +kernel
theorem dX4_speakOn_38 : decode cX4_speakOn 38 = .ok (.aload_n 0, 1) := by decide +kernel
theorem dX4_speakOn_39 : decode cX4_speakOn 39 = .ok (.getfield 16, 3) := by decide +kernel
theorem dX4_speakOn_42 : decode cX4_speakOn 42 = .ok (.iload_n 3, 1) := by decide +kernel
theorem dX4_speakOn_43 : decode cX4_speakOn 43 = .ok (.bipush 25, 2) := by decide +kernel
theorem dX4_speakOn_45 : decode cX4_speakOn 45 = .ok (.iadd, 1) := by decide +kernel
theorem dX4_speakOn_46 : decode cX4_speakOn 46 = .ok (.aload_n 0, 1) := by decide +kernel
theorem dX4_speakOn_47 : decode cX4_speakOn 47 = .ok (.getfield 16, 3) := by decide +kernel
theorem dX4_speakOn_50 : decode cX4_speakOn 50 = .ok (.iload_n 3, 1) := by decide +kernel
theorem dX4_speakOn_51 : decode cX4_speakOn 51 = .ok (.bipush 8, 2) := by decide +kernel
theorem dX4_speakOn_53 : decode cX4_speakOn 53 = .ok (.iadd, 1) := by decide +kernel
theorem dX4_speakOn_54 : decode cX4_speakOn 54 = .ok (.iload_n 2, 1) := by decide +kernel
theorem dX4_speakOn_55 : decode cX4_speakOn 55 = .ok (.iadd, 1) := by decide +kernel
theorem dX4_speakOn_56 : decode cX4_speakOn 56 = .ok (.iaload, 1) := by decide +kernel
theorem dX4_speakOn_57 : decode cX4_speakOn 57 = .ok (.iastore, 1) := by decide +kernel
theorem dX4_speakOn_58 : decode cX4_speakOn 58 = .ok (.aload_n 0, 1) := by decide +kernel
theorem dX4_speakOn_59 : decode cX4_speakOn 59 = .ok (.getfield 16, 3) := by decide +kernel
theorem dX4_speakOn_62 : decode cX4_speakOn 62 = .ok (.iload_n 3, 1) := by decide +kernel
theorem dX4_speakOn_63 : decode cX4_speakOn 63 = .ok (.bipush 24, 2) := by decide +kernel
theorem dX4_speakOn_65 : decode cX4_speakOn 65 = .ok (.iadd, 1) := by decide +kernel
theorem dX4_speakOn_66 : decode cX4_speakOn 66 = .ok (.iaload, 1) := by decide +kernel
theorem dX4_speakOn_67 : decode cX4_speakOn 67 = .ok (.bipush (-9), 2) := by decide +kernel
theorem dX4_speakOn_69 : decode cX4_speakOn 69 = .ok (.if_icmp .eq 42, 3) := by decide +kernel
theorem dX4_speakOn_72 : decode cX4_speakOn 72 = .ok (.aload_n 0, 1) := by decide +kernel
theorem dX4_speakOn_73 : decode cX4_speakOn 73 = .ok (.getfield 16, 3) := by decide +kernel
theorem dX4_speakOn_76 : decode cX4_speakOn 76 = .ok (.iload_n 3, 1) := by decide +kernel
theorem dX4_speakOn_77 : decode cX4_speakOn 77 = .ok (.bipush 22, 2) := by decide +kernel
theorem dX4_speakOn_79 : decode cX4_speakOn 79 = .ok (.iadd, 1) := by decide +kernel
theorem dX4_speakOn_80 : decode cX4_speakOn 80 = .ok (.aload_n 0, 1) := by decide +kernel
theorem dX4_speakOn_81 : decode cX4_speakOn 81 = .ok (.getfield 16, 3) := by decide +kernel
theorem dX4_speakOn_84 : decode cX4_speakOn 84 = .ok (.iload_n 3, 1) := by decide +kernel
theorem dX4_speakOn_85 : decode cX4_speakOn 85 = .ok (.bipush 22, 2) := by decide +kernel
theorem dX4_speakOn_87 : decode cX4_speakOn 87 = .ok (.iadd, 1) := by decide +kernel
theorem dX4_speakOn_88 : decode cX4_speakOn 88 = .ok (.iaload, 1) := by decide +kernel
theorem dX4_speakOn_89 : decode cX4_speakOn 89 = .ok (.aload_n 0, 1) := by decide +kernel
theorem dX4_speakOn_90 : decode cX4_speakOn 90 = .ok (.getfield 16, 3) := by decide +kernel
theorem dX4_speakOn_93 : decode cX4_speakOn 93 = .ok (.iload_n 3, 1) := by decide +kernel
theorem dX4_speakOn_94 : decode cX4_speakOn 94 = .ok (.bipush 24, 2) := by decide +kernel
theorem dX4_speakOn_96 : decode cX4_speakOn 96 = .ok (.iadd, 1) := by decide +kernel
theorem dX4_speakOn_97 : decode cX4_speakOn 97 = .ok (.iaload, 1) := by decide +kernel
theorem dX4_speakOn_98 : decode cX4_speakOn 98 = .ok (.aload_n 0, 1) := by decide +kernel
theorem dX4_speakOn_99 : decode cX4_speakOn 99 = .ok (.getfield 16, 3) := by decide +kernel
theorem dX4_speakOn_102 : decode cX4_speakOn 102 = .ok (.iload_n 3, 1) := by decide +kernel
theorem dX4_speakOn_103 : decode cX4_speakOn 103 = .ok (.bipush 25, 2) := by decide +kernel
theorem dX4_speakOn_105 : decode cX4_speakOn 105 = .ok (.iadd, 1) := by decide +kernel
theorem dX4_speakOn_106 : decode cX4_speakOn 106 = .ok (.iaload, 1) := by decide +kernel
theorem dX4_speakOn_107 : decode cX4_speakOn 107 = .ok (.invokestatic 87, 3) := by decide +kernel
theorem dX4_speakOn_110 : decode cX4_speakOn 110 = .ok (.iastore, 1) := by decide +kernel
theorem dX4_speakOn_111 : decode cX4_speakOn 111 = .ok (.return_, 1) := by decide +kernel
set_option maxRecDepth 20000 in
theorem hiX4_speakOn_X4 : ∀ w ∈ u_ws RX4 TX4 24, w ∈ wsX4_speakOn := by decide +kernel
set_option maxHeartbeats 4000000 in
set_option maxRecDepth 100000 in
theorem wm_speakOn_58 {p : Program} {l : Launch} {e : Env} {s : State} {m : MethodId} {args : Array Value} {below : List Frame} {meth : Method} {c : Code} {D : va_G} {L : Nat → Nat} {K : Nat → ClassId} (hJ : gj L 12) (C0 : gC cX4_speakOn 4 none wsX4_speakOn RX4 p s m args meth c) (hK : va_K D vwCl (tyG K) s) (hE : eM s) {w9 : St} : ∀ (x3 : Int32) (w : St) (H : Heap) (locs : List Loc) (ls : Array Slot), va_P D vwCl (gl L 12 (cM L K w)) H → va_S (gA L 12) s.heap H locs → lv_has ls 4 [(0, .ref (L 0)), (3, .int x3)] → fm_speakOn_58 x3 w = some w9 → W p l e { frames := 1, cells := 0, slots := 0, locals := 22 } s m args below meth c H locs 0 0 (MQ below (qV D L 12 (cM L K) w9) args s 0 0 (gA L 12)) (F0 m 58 ls []) := by
  obtain ⟨hx, hb, hr, hml, hown, hts, hlk⟩ := id C0
  intro x3 w H locs ls hw hS hl hf
  unfold fm_speakOn_58 at hf
  refine lv_aload_n hx hb dX4_speakOn_58 rfl (lv_at hl 0 rfl) ?_
  refine z_get (v := .ref (L 3)) hx hb hts hiX4_speakOn_X4 hown hK hw (k := 0) (by decide) ((fun w => rfl) _) rfl 4 (by decide) (hts (.fieldLink RX4 16 "OneSentenceModel" "now" "[I") (by decide +kernel)) rfl dX4_speakOn_59 ?_
  refine lv_iload_n hx hb dX4_speakOn_62 rfl (lv_at hl 1 rfl) ?_
  refine lv_bipush (v := 24) hx hb dX4_speakOn_63 (by decide) ?_
  refine lv_iadd hx hb dX4_speakOn_65 ?_
  obtain ⟨v66, h66, hf⟩ := bd_e hf
  refine z_iald hx hb hK hw 0 (k := 3) (by decide) ((fun w => rfl) _) rfl h66 dX4_speakOn_66 ?_
  refine lv_bipush (v := (-9)) hx hb dX4_speakOn_67 (by decide) ?_
  refine lv_icmp_eq (tgt := 111) hx hb dX4_speakOn_69 (by decide) (fun c69 => ?_) (fun c69 => ?_)
  · replace hf := if_t hf c69
    exact z_vret hx hb hr hlk hw hS hf dX4_speakOn_111
  · replace hf := if_f hf c69
    refine lv_aload_n hx hb dX4_speakOn_72 rfl (lv_at hl 0 rfl) ?_
    refine z_get (v := .ref (L 3)) hx hb hts hiX4_speakOn_X4 hown hK hw (k := 0) (by decide) ((fun w => rfl) _) rfl 4 (by decide) (hts (.fieldLink RX4 16 "OneSentenceModel" "now" "[I") (by decide +kernel)) rfl dX4_speakOn_73 ?_
    refine lv_iload_n hx hb dX4_speakOn_76 rfl (lv_at hl 1 rfl) ?_
    refine lv_bipush (v := 22) hx hb dX4_speakOn_77 (by decide) ?_
    refine lv_iadd hx hb dX4_speakOn_79 ?_
    refine lv_aload_n hx hb dX4_speakOn_80 rfl (lv_at hl 0 rfl) ?_
    refine z_get (v := .ref (L 3)) hx hb hts hiX4_speakOn_X4 hown hK hw (k := 0) (by decide) ((fun w => rfl) _) rfl 4 (by decide) (hts (.fieldLink RX4 16 "OneSentenceModel" "now" "[I") (by decide +kernel)) rfl dX4_speakOn_81 ?_
    refine lv_iload_n hx hb dX4_speakOn_84 rfl (lv_at hl 1 rfl) ?_
    refine lv_bipush (v := 22) hx hb dX4_speakOn_85 (by decide) ?_
    refine lv_iadd hx hb dX4_speakOn_87 ?_
    obtain ⟨v88, h88, hf⟩ := bd_e hf
    refine z_iald hx hb hK hw 0 (k := 3) (by decide) ((fun w => rfl) _) rfl h88 dX4_speakOn_88 ?_
    refine lv_aload_n hx hb dX4_speakOn_89 rfl (lv_at hl 0 rfl) ?_
    refine z_get (v := .ref (L 3)) hx hb hts hiX4_speakOn_X4 hown hK hw (k := 0) (by decide) ((fun w => rfl) _) rfl 4 (by decide) (hts (.fieldLink RX4 16 "OneSentenceModel" "now" "[I") (by decide +kernel)) rfl dX4_speakOn_90 ?_
    refine lv_iload_n hx hb dX4_speakOn_93 rfl (lv_at hl 1 rfl) ?_
    refine lv_bipush (v := 24) hx hb dX4_speakOn_94 (by decide) ?_
    refine lv_iadd hx hb dX4_speakOn_96 ?_
    obtain ⟨v97, h97, hf⟩ := bd_e hf
    refine z_iald hx hb hK hw 0 (k := 3) (by decide) ((fun w => rfl) _) rfl h97 dX4_speakOn_97 ?_
    refine lv_aload_n hx hb dX4_speakOn_98 rfl (lv_at hl 0 rfl) ?_
    refine z_get (v := .ref (L 3)) hx hb hts hiX4_speakOn_X4 hown hK hw (k := 0) (by decide) ((fun w => rfl) _) rfl 4 (by decide) (hts (.fieldLink RX4 16 "OneSentenceModel" "now" "[I") (by decide +kernel)) rfl dX4_speakOn_99 ?_
    refine lv_iload_n hx hb dX4_speakOn_102 rfl (lv_at hl 1 rfl) ?_
    refine lv_bipush (v := 25) hx hb dX4_speakOn_103 (by decide) ?_
    refine lv_iadd hx hb dX4_speakOn_105 ?_
    obtain ⟨v106, h106, hf⟩ := bd_e hf
    refine z_iald hx hb hK hw 0 (k := 3) (by decide) ((fun w => rfl) _) rfl h106 dX4_speakOn_106 ?_
    obtain ⟨v107, h107, hf⟩ := bd_e hf
    refine z_calls (va_runS (As := [.int v88, .int v97, .int v106]) (rest := [.int (x3 + (22 : Int32)), .ref (L 3)]) ⟨hx, hb, hml, hown, hts⟩ (km_made l v88 v97 v106 h107) (va_cwS 3 hts gX4_speakOn_X4_made rfl rfl rfl (by decide +kernel) ⟨Nat.le_of_ble_eq_true rfl, Nat.le_of_ble_eq_true rfl⟩) z_preT rfl rfl hl.1 rfl (lv_room (Nat.le_of_ble_eq_true rfl)) dX4_speakOn_107 ⟨Nat.le_of_ble_eq_true rfl, Nat.le_of_ble_eq_true rfl⟩) ?_
    obtain ⟨w110, h110, hf⟩ := bd_e hf
    refine z_iast hx hb hK hJ hw hS 0 (k := 3) (by decide) cM_ne (fun w => rfl) rfl h110 dX4_speakOn_110 (fun H locs hw hS => ?_)
    exact z_vret hx hb hr hlk hw hS hf dX4_speakOn_111
set_option maxHeartbeats 4000000 in
set_option maxRecDepth 100000 in
theorem wm_speakOn_0 {p : Program} {l : Launch} {e : Env} {s : State} {m : MethodId} {args : Array Value} {below : List Frame} {meth : Method} {c : Code} {D : va_G} {L : Nat → Nat} {K : Nat → ClassId} (hJ : gj L 12) (C0 : gC cX4_speakOn 4 none wsX4_speakOn RX4 p s m args meth c) (hK : va_K D vwCl (tyG K) s) (hE : eM s) {w9 : St} : ∀ (x1 : Int32) (x2 : Int32) (w : St) (H : Heap) (locs : List Loc) (ls : Array Slot), va_P D vwCl (gl L 12 (cM L K w)) H → va_S (gA L 12) s.heap H locs → lv_has ls 4 [(0, .ref (L 0)), (1, .int x1), (2, .int x2)] → fm_speakOn x1 x2 w = some w9 → W p l e { frames := 1, cells := 0, slots := 0, locals := 22 } s m args below meth c H locs 0 0 (MQ below (qV D L 12 (cM L K) w9) args s 0 0 (gA L 12)) (F0 m 0 ls []) := by
  obtain ⟨hx, hb, hr, hml, hown, hts, hlk⟩ := id C0
  intro x1 x2 w H locs ls hw hS hl hf
  unfold fm_speakOn at hf
  refine lv_bipush (v := 27) hx hb dX4_speakOn_0 (by decide) ?_
  refine lv_iload_n hx hb dX4_speakOn_2 rfl (lv_at hl 1 rfl) ?_
  refine lv_imul hx hb dX4_speakOn_3 ?_
  refine lv_topi (fun v4 e4 => ?_)
  replace hf := lb_e hf e4
  refine lv_istore_n (lv' := [(3, .int v4), (0, .ref (L 0)), (1, .int x1), (2, .int x2)]) hx hb dX4_speakOn_4 rfl hl (by decide) rfl (fun ls hl => ?_)
  refine lv_aload_n hx hb dX4_speakOn_5 rfl (lv_at hl 1 rfl) ?_
  refine z_get (v := .ref (L 3)) hx hb hts hiX4_speakOn_X4 hown hK hw (k := 0) (by decide) ((fun w => rfl) _) rfl 4 (by decide) (hts (.fieldLink RX4 16 "OneSentenceModel" "now" "[I") (by decide +kernel)) rfl dX4_speakOn_6 ?_
  refine lv_iload_n hx hb dX4_speakOn_9 rfl (lv_at hl 0 rfl) ?_
  refine lv_iconst (v := 1) hx hb dX4_speakOn_10 (by decide) ?_
  refine lv_iadd hx hb dX4_speakOn_11 ?_
  refine lv_iload_n hx hb dX4_speakOn_12 rfl (lv_at hl 3 rfl) ?_
  refine lv_iadd hx hb dX4_speakOn_13 ?_
  obtain ⟨v14, h14, hf⟩ := bd_e hf
  refine z_iald hx hb hK hw 0 (k := 3) (by decide) ((fun w => rfl) _) rfl h14 dX4_speakOn_14 ?_
  refine lv_iconst (v := 3) hx hb dX4_speakOn_15 (by decide) ?_
  refine lv_icmp_eq (tgt := 58) hx hb dX4_speakOn_16 (by decide) (fun c16 => ?_) (fun c16 => ?_)
  · replace hf := if_t hf c16
    exact wm_speakOn_58 hJ C0 hK hE _ _ _ _ _ hw hS (lv_sub hl [1, 0] rfl) hf
  · replace hf := if_f hf c16
    refine lv_aload_n hx hb dX4_speakOn_19 rfl (lv_at hl 1 rfl) ?_
    refine z_get (v := .ref (L 3)) hx hb hts hiX4_speakOn_X4 hown hK hw (k := 0) (by decide) ((fun w => rfl) _) rfl 4 (by decide) (hts (.fieldLink RX4 16 "OneSentenceModel" "now" "[I") (by decide +kernel)) rfl dX4_speakOn_20 ?_
    refine lv_iload_n hx hb dX4_speakOn_23 rfl (lv_at hl 0 rfl) ?_
    refine lv_bipush (v := 24) hx hb dX4_speakOn_24 (by decide) ?_
    refine lv_iadd hx hb dX4_speakOn_26 ?_
    refine lv_aload_n hx hb dX4_speakOn_27 rfl (lv_at hl 1 rfl) ?_
    refine z_get (v := .ref (L 3)) hx hb hts hiX4_speakOn_X4 hown hK hw (k := 0) (by decide) ((fun w => rfl) _) rfl 4 (by decide) (hts (.fieldLink RX4 16 "OneSentenceModel" "now" "[I") (by decide +kernel)) rfl dX4_speakOn_28 ?_
    refine lv_iload_n hx hb dX4_speakOn_31 rfl (lv_at hl 0 rfl) ?_
    refine lv_iconst (v := 1) hx hb dX4_speakOn_32 (by decide) ?_
    refine lv_iadd hx hb dX4_speakOn_33 ?_
    refine lv_iload_n hx hb dX4_speakOn_34 rfl (lv_at hl 3 rfl) ?_
    refine lv_iadd hx hb dX4_speakOn_35 ?_
    obtain ⟨v36, h36, hf⟩ := bd_e hf
    refine z_iald hx hb hK hw 0 (k := 3) (by decide) ((fun w => rfl) _) rfl h36 dX4_speakOn_36 ?_
    obtain ⟨w37, h37, hf⟩ := bd_e hf
    refine z_iast hx hb hK hJ hw hS 0 (k := 3) (by decide) cM_ne (fun w => rfl) rfl h37 dX4_speakOn_37 (fun H locs hw hS => ?_)
    refine lv_aload_n hx hb dX4_speakOn_38 rfl (lv_at hl 1 rfl) ?_
    refine z_get (v := .ref (L 3)) hx hb hts hiX4_speakOn_X4 hown hK hw (k := 0) (by decide) ((fun w => rfl) _) rfl 4 (by decide) (hts (.fieldLink RX4 16 "OneSentenceModel" "now" "[I") (by decide +kernel)) rfl dX4_speakOn_39 ?_
    refine lv_iload_n hx hb dX4_speakOn_42 rfl (lv_at hl 0 rfl) ?_
    refine lv_bipush (v := 25) hx hb dX4_speakOn_43 (by decide) ?_
    refine lv_iadd hx hb dX4_speakOn_45 ?_
    refine lv_aload_n hx hb dX4_speakOn_46 rfl (lv_at hl 1 rfl) ?_
    refine z_get (v := .ref (L 3)) hx hb hts hiX4_speakOn_X4 hown hK hw (k := 0) (by decide) ((fun w => rfl) _) rfl 4 (by decide) (hts (.fieldLink RX4 16 "OneSentenceModel" "now" "[I") (by decide +kernel)) rfl dX4_speakOn_47 ?_
    refine lv_iload_n hx hb dX4_speakOn_50 rfl (lv_at hl 0 rfl) ?_
    refine lv_bipush (v := 8) hx hb dX4_speakOn_51 (by decide) ?_
    refine lv_iadd hx hb dX4_speakOn_53 ?_
    refine lv_iload_n hx hb dX4_speakOn_54 rfl (lv_at hl 3 rfl) ?_
    refine lv_iadd hx hb dX4_speakOn_55 ?_
    obtain ⟨v56, h56, hf⟩ := bd_e hf
    refine z_iald hx hb hK hw 0 (k := 3) (by decide) ((fun w => rfl) _) rfl h56 dX4_speakOn_56 ?_
    obtain ⟨w57, h57, hf⟩ := bd_e hf
    refine z_iast hx hb hK hJ hw hS 0 (k := 3) (by decide) cM_ne (fun w => rfl) rfl h57 dX4_speakOn_57 (fun H locs hw hS => ?_)
    exact wm_speakOn_58 hJ C0 hK hE _ _ _ _ _ hw hS (lv_sub hl [1, 0] rfl) hf
set_option maxHeartbeats 4000000 in
set_option maxRecDepth 100000 in
theorem km_speakOn (l : Launch) {D : va_G} {L : Nat → Nat} {K : Nat → ClassId} (hJ : gj L 12) (x1 : Int32) (x2 : Int32) (w : St) {w9 : St} (hf : fm_speakOn x1 x2 w = some w9) : Met l yX4_speakOn wsX4_speakOn ({ frames := 1, cells := 0, slots := 0, locals := 22 }) (va_Pc [.ref (L 0), .int x1, .int x2] (mP D L K w)) (qV D L 12 (cM L K) w9) 0 0 (gA L 12) := by
  refine g_met (cc := cX4_speakOn) (nL := 4) (ret := none) (by decide) rfl (Nat.le_of_ble_eq_true rfl) (fun p e s m below meth c ls C0 hP hl => ?_)
  exact wm_speakOn_0 hJ C0 hP.2.1 hP.2.2 _ _ w _ _ ls hP.1 va_S.rf (lv_sub hl [0, 1, 2] rfl) hf
set_option maxRecDepth 20000 in
theorem ggX4_sayOn_X4_speakOn : GoodIn wsX4_sayOn wsX4_speakOn := goodIn_r _ [7, 2, 8, 9, 6, 10, 11, 12, 13, 14, 15, 16, 17, 18, 19, 20, 21, 22, 23, 24, 25, 26, 27, 28, 29, 30, 31, 32, 33, 34] (by decide +kernel) (by decide +kernel)
set_option maxRecDepth 20000 in
theorem gX4_sayOn_X4_speakOn : GoodIn wsX4_sayOn (wsV RX4 91 RX4 yX4_speakOn wsX4_speakOn) := goodIn_app (goodIn_of _ (by decide +kernel)) ggX4_sayOn_X4_speakOn
theorem dX4_sayOn_0 : decode cX4_sayOn 0 = .ok (.aload_n 0, 1) := by decide +kernel
theorem dX4_sayOn_1 : decode cX4_sayOn 1 = .ok (.iload_n 1, 1) := by decide +kernel
theorem dX4_sayOn_2 : decode cX4_sayOn 2 = .ok (.iload_n 2, 1) := by decide +kernel
theorem dX4_sayOn_3 : decode cX4_sayOn 3 = .ok (.invokevirtual 91, 3) := by decide +kernel
theorem dX4_sayOn_6 : decode cX4_sayOn 6 = .ok (.aload_n 0, 1) := by decide +kernel
theorem dX4_sayOn_7 : decode cX4_sayOn 7 = .ok (.getfield 13, 3) := by decide +kernel
theorem dX4_sayOn_10 : decode cX4_sayOn 10 = .ok (.iload_n 2, 1) := by decide +kernel
theorem dX4_sayOn_11 : decode cX4_sayOn 11 = .ok (.iaload, 1) := by decide +kernel
theorem dX4_sayOn_12 : decode cX4_sayOn 12 = .ok (.iconst 2, 1) := by decide +kernel
theorem dX4_sayOn_13 : decode cX4_sayOn 13 = .ok (.if_icmp .ne 9, 3) := by decide +kernel
theorem dX4_sayOn_16 : decode cX4_sayOn 16 = .ok (.aload_n 0, 1) := by decide +kernel
theorem dX4_sayOn_17 : decode cX4_sayOn 17 = .ok (.iload_n 1, 1) := by decide +kernel
theorem dX4_sayOn_18 : decode cX4_sayOn 18 = .ok (.iload_n 2, 1) := by decide +kernel
theorem dX4_sayOn_19 : decode cX4_sayOn 19 = .ok (.invokevirtual 91, 3) := by decide +kernel
theorem dX4_sayOn_22 : decode cX4_sayOn 22 = .ok (.aload_n 0, 1) := by decide +kernel
theorem dX4_sayOn_23 : decode cX4_sayOn 23 = .ok (.getfield 16, 3) := by decide +kernel
theorem dX4_sayOn_26 : decode cX4_sayOn 26 = .ok (.bipush 27, 2) := by decide +kernel
theorem dX4_sayOn_28 : decode cX4_sayOn 28 = .ok (.iload_n 1, 1) := by decide +kernel
theorem dX4_sayOn_29 : decode cX4_sayOn 29 = .ok (.imul, 1) := by decide +kernel
theorem dX4_sayOn_30 : decode cX4_sayOn 30 = .ok (.bipush 15, 2) := by decide +kernel
theorem dX4_sayOn_32 : decode cX4_sayOn 32 = .ok (.iadd, 1) := by decide +kernel
theorem dX4_sayOn_33 : decode cX4_sayOn 33 = .ok (.iload_n 2, 1) := by decide +kernel
theorem dX4_sayOn_34 : decode cX4_sayOn 34 = .ok (.iadd, 1) := by decide +kernel
theorem dX4_sayOn_35 : decode cX4_sayOn 35 = .ok (.dup2, 1) := by decide +kernel
theorem dX4_sayOn_36 : decode cX4_sayOn 36 = .ok (.iaload, 1) := by decide +kernel
theorem dX4_sayOn_37 : decode cX4_sayOn 37 = .ok (.iconst 1, 1) := by decide +kernel
theorem dX4_sayOn_38 : decode cX4_sayOn 38 = .ok (.iadd, 1) := by decide +kernel
theorem dX4_sayOn_39 : decode cX4_sayOn 39 = .ok (.iastore, 1) := by decide +kernel
theorem dX4_sayOn_40 : decode cX4_sayOn 40 = .ok (.aload_n 0, 1) := by decide +kernel
theorem dX4_sayOn_41 : decode cX4_sayOn 41 = .ok (.getfield 16, 3) := by decide +kernel
theorem dX4_sayOn_44 : decode cX4_sayOn 44 = .ok (.bipush 27, 2) := by decide +kernel
theorem dX4_sayOn_46 : decode cX4_sayOn 46 = .ok (.iload_n 1, 1) := by decide +kernel
theorem dX4_sayOn_47 : decode cX4_sayOn 47 = .ok (.imul, 1) := by decide +kernel
theorem dX4_sayOn_48 : decode cX4_sayOn 48 = .ok (.bipush 23, 2) := by decide +kernel
theorem dX4_sayOn_50 : decode cX4_sayOn 50 = .ok (.iadd, 1) := by decide +kernel
theorem dX4_sayOn_51 : decode cX4_sayOn 51 = .ok (.iload_n 2, 1) := by decide +kernel
theorem dX4_sayOn_52 : decode cX4_sayOn 52 = .ok (.iastore, 1) := by decide +kernel
theorem dX4_sayOn_53 : decode cX4_sayOn 53 = .ok (.return_, 1) := by decide +kernel
set_option maxRecDepth 20000 in
theorem hiX4_sayOn_X4 : ∀ w ∈ u_ws RX4 TX4 24, w ∈ wsX4_sayOn := by decide +kernel
set_option maxHeartbeats 4000000 in
set_option maxRecDepth 100000 in
theorem wm_sayOn_22 {p : Program} {l : Launch} {e : Env} {s : State} {m : MethodId} {args : Array Value} {below : List Frame} {meth : Method} {c : Code} {D : va_G} {L : Nat → Nat} {K : Nat → ClassId} (hJ : gj L 12) (C0 : gC cX4_sayOn 3 none wsX4_sayOn RX4 p s m args meth c) (hK : va_K D vwCl (tyG K) s) (hE : eM s) {w9 : St} : ∀ (x1 : Int32) (x2 : Int32) (w : St) (H : Heap) (locs : List Loc) (ls : Array Slot), va_P D vwCl (gl L 12 (cM L K w)) H → va_S (gA L 12) s.heap H locs → lv_has ls 3 [(0, .ref (L 0)), (1, .int x1), (2, .int x2)] → fm_sayOn_22 x1 x2 w = some w9 → W p l e { frames := 2, cells := 0, slots := 0, locals := 45 } s m args below meth c H locs 0 0 (MQ below (qV D L 12 (cM L K) w9) args s 0 0 (gA L 12)) (F0 m 22 ls []) := by
  obtain ⟨hx, hb, hr, hml, hown, hts, hlk⟩ := id C0
  intro x1 x2 w H locs ls hw hS hl hf
  unfold fm_sayOn_22 at hf
  refine lv_aload_n hx hb dX4_sayOn_22 rfl (lv_at hl 0 rfl) ?_
  refine z_get (v := .ref (L 3)) hx hb hts hiX4_sayOn_X4 hown hK hw (k := 0) (by decide) ((fun w => rfl) _) rfl 4 (by decide) (hts (.fieldLink RX4 16 "OneSentenceModel" "now" "[I") (by decide +kernel)) rfl dX4_sayOn_23 ?_
  refine lv_bipush (v := 27) hx hb dX4_sayOn_26 (by decide) ?_
  refine lv_iload_n hx hb dX4_sayOn_28 rfl (lv_at hl 1 rfl) ?_
  refine lv_imul hx hb dX4_sayOn_29 ?_
  refine lv_bipush (v := 15) hx hb dX4_sayOn_30 (by decide) ?_
  refine lv_iadd hx hb dX4_sayOn_32 ?_
  refine lv_iload_n hx hb dX4_sayOn_33 rfl (lv_at hl 2 rfl) ?_
  refine lv_iadd hx hb dX4_sayOn_34 ?_
  refine lv_dup2_11 hx hb dX4_sayOn_35 rfl rfl ?_
  obtain ⟨v36, h36, hf⟩ := bd_e hf
  refine z_iald hx hb hK hw 0 (k := 3) (by decide) ((fun w => rfl) _) rfl h36 dX4_sayOn_36 ?_
  refine lv_iconst (v := 1) hx hb dX4_sayOn_37 (by decide) ?_
  refine lv_iadd hx hb dX4_sayOn_38 ?_
  obtain ⟨w39, h39, hf⟩ := bd_e hf
  refine z_iast hx hb hK hJ hw hS 0 (k := 3) (by decide) cM_ne (fun w => rfl) rfl h39 dX4_sayOn_39 (fun H locs hw hS => ?_)
  refine lv_aload_n hx hb dX4_sayOn_40 rfl (lv_at hl 0 rfl) ?_
  refine z_get (v := .ref (L 3)) hx hb hts hiX4_sayOn_X4 hown hK hw (k := 0) (by decide) ((fun w => rfl) _) rfl 4 (by decide) (hts (.fieldLink RX4 16 "OneSentenceModel" "now" "[I") (by decide +kernel)) rfl dX4_sayOn_41 ?_
  refine lv_bipush (v := 27) hx hb dX4_sayOn_44 (by decide) ?_
  refine lv_iload_n hx hb dX4_sayOn_46 rfl (lv_at hl 1 rfl) ?_
  refine lv_imul hx hb dX4_sayOn_47 ?_
  refine lv_bipush (v := 23) hx hb dX4_sayOn_48 (by decide) ?_
  refine lv_iadd hx hb dX4_sayOn_50 ?_
  refine lv_iload_n hx hb dX4_sayOn_51 rfl (lv_at hl 2 rfl) ?_
  obtain ⟨w52, h52, hf⟩ := bd_e hf
  refine z_iast hx hb hK hJ hw hS 0 (k := 3) (by decide) cM_ne (fun w => rfl) rfl h52 dX4_sayOn_52 (fun H locs hw hS => ?_)
  exact z_vret hx hb hr hlk hw hS hf dX4_sayOn_53
set_option maxHeartbeats 4000000 in
set_option maxRecDepth 100000 in
theorem wm_sayOn_0 {p : Program} {l : Launch} {e : Env} {s : State} {m : MethodId} {args : Array Value} {below : List Frame} {meth : Method} {c : Code} {D : va_G} {L : Nat → Nat} {K : Nat → ClassId} (hJ : gj L 12) (C0 : gC cX4_sayOn 3 none wsX4_sayOn RX4 p s m args meth c) (hK : va_K D vwCl (tyG K) s) (hE : eM s) {w9 : St} : ∀ (x1 : Int32) (x2 : Int32) (w : St) (H : Heap) (locs : List Loc) (ls : Array Slot), va_P D vwCl (gl L 12 (cM L K w)) H → va_S (gA L 12) s.heap H locs → lv_has ls 3 [(0, .ref (L 0)), (1, .int x1), (2, .int x2)] → fm_sayOn x1 x2 w = some w9 → W p l e { frames := 2, cells := 0, slots := 0, locals := 45 } s m args below meth c H locs 0 0 (MQ below (qV D L 12 (cM L K) w9) args s 0 0 (gA L 12)) (F0 m 0 ls []) := by
  obtain ⟨hx, hb, hr, hml, hown, hts, hlk⟩ := id C0
  intro x1 x2 w H locs ls hw hS hl hf
  unfold fm_sayOn at hf
  refine lv_aload_n hx hb dX4_sayOn_0 rfl (lv_at hl 0 rfl) ?_
  refine lv_iload_n hx hb dX4_sayOn_1 rfl (lv_at hl 1 rfl) ?_
  refine lv_iload_n hx hb dX4_sayOn_2 rfl (lv_at hl 2 rfl) ?_
  obtain ⟨w3, h3, hf⟩ := bd_e hf
  refine z_callv (va_runV (As := [.int x1, .int x2]) (rest := []) ⟨hx, hb, hml, hown, hts⟩ (km_speakOn l (D := D) (K := K) hJ x1 x2 w  h3) (cwV 2 hts gX4_sayOn_X4_speakOn rfl rfl rfl (by decide +kernel) ⟨Nat.le_of_ble_eq_true rfl, Nat.le_of_ble_eq_true rfl⟩) (z_preV eM_ok hK hE hw hS (by decide) ((fun w => rfl) _) (T := TX4) (M := 24) rfl) rfl rfl hl.1 rfl (lv_room (Nat.le_of_ble_eq_true rfl)) dX4_sayOn_3 ⟨Nat.le_of_ble_eq_true rfl, Nat.le_of_ble_eq_true rfl⟩) hS (fun H locs hw hS => ?_)
  refine lv_aload_n hx hb dX4_sayOn_6 rfl (lv_at hl 0 rfl) ?_
  refine z_get (v := .ref (L 2)) hx hb hts hiX4_sayOn_X4 hown hK hw (k := 0) (by decide) ((fun w => rfl) _) rfl 3 (by decide) (hts (.fieldLink RX4 13 "OneSentenceModel" "kind" "[I") (by decide +kernel)) rfl dX4_sayOn_7 ?_
  refine lv_iload_n hx hb dX4_sayOn_10 rfl (lv_at hl 2 rfl) ?_
  obtain ⟨v11, h11, hf⟩ := bd_e hf
  refine z_iald hx hb hK hw 0 (k := 2) (by decide) ((fun w => rfl) _) rfl h11 dX4_sayOn_11 ?_
  refine lv_iconst (v := 2) hx hb dX4_sayOn_12 (by decide) ?_
  refine lv_icmp_ne (tgt := 22) hx hb dX4_sayOn_13 (by decide) (fun c13 => ?_) (fun c13 => ?_)
  · replace hf := if_f hf c13
    exact wm_sayOn_22 hJ C0 hK hE _ _ _ _ _ _ hw hS (lv_sub hl [0, 1, 2] rfl) hf
  · replace hf := if_t hf c13
    refine lv_aload_n hx hb dX4_sayOn_16 rfl (lv_at hl 0 rfl) ?_
    refine lv_iload_n hx hb dX4_sayOn_17 rfl (lv_at hl 1 rfl) ?_
    refine lv_iload_n hx hb dX4_sayOn_18 rfl (lv_at hl 2 rfl) ?_
    obtain ⟨w19, h19, hf⟩ := bd_e hf
    refine z_callv (va_runV (As := [.int x1, .int x2]) (rest := []) ⟨hx, hb, hml, hown, hts⟩ (km_speakOn l (D := D) (K := K) hJ x1 x2 w3  h19) (cwV 2 hts gX4_sayOn_X4_speakOn rfl rfl rfl (by decide +kernel) ⟨Nat.le_of_ble_eq_true rfl, Nat.le_of_ble_eq_true rfl⟩) (z_preV eM_ok hK hE hw hS (by decide) ((fun w => rfl) _) (T := TX4) (M := 24) rfl) rfl rfl hl.1 rfl (lv_room (Nat.le_of_ble_eq_true rfl)) dX4_sayOn_19 ⟨Nat.le_of_ble_eq_true rfl, Nat.le_of_ble_eq_true rfl⟩) hS (fun H locs hw hS => ?_)
    exact wm_sayOn_22 hJ C0 hK hE _ _ _ _ _ _ hw hS (lv_sub hl [0, 1, 2] rfl) hf
set_option maxHeartbeats 4000000 in
set_option maxRecDepth 100000 in
theorem km_sayOn (l : Launch) {D : va_G} {L : Nat → Nat} {K : Nat → ClassId} (hJ : gj L 12) (x1 : Int32) (x2 : Int32) (w : St) {w9 : St} (hf : fm_sayOn x1 x2 w = some w9) : Met l yX4_sayOn wsX4_sayOn ({ frames := 2, cells := 0, slots := 0, locals := 45 }) (va_Pc [.ref (L 0), .int x1, .int x2] (mP D L K w)) (qV D L 12 (cM L K) w9) 0 0 (gA L 12) := by
  refine g_met (cc := cX4_sayOn) (nL := 3) (ret := none) (by decide) rfl (Nat.le_of_ble_eq_true rfl) (fun p e s m below meth c ls C0 hP hl => ?_)
  exact wm_sayOn_0 hJ C0 hP.2.1 hP.2.2 _ _ w _ _ ls hP.1 va_S.rf (lv_sub hl [0, 1, 2] rfl) hf
set_option maxRecDepth 20000 in
theorem ggX4_person_X4_isPerson : GoodIn wsX4_person wsX4_isPerson := goodIn_r _ [8, 9, 10, 11, 7, 12, 20, 21, 22, 23, 24, 25, 26, 27, 28, 29, 30, 31, 32, 33, 34, 35, 36, 37, 38, 39, 40, 41, 42, 43] (by decide +kernel) (by decide +kernel)
set_option maxRecDepth 20000 in
theorem gX4_person_X4_isPerson : GoodIn wsX4_person (wsV RX4 95 RX4 yX4_isPerson wsX4_isPerson) := goodIn_app (goodIn_of _ (by decide +kernel)) ggX4_person_X4_isPerson
set_option maxRecDepth 20000 in
theorem ggX4_person_X4_may : GoodIn wsX4_person wsX4_may := goodIn_r _ [16, 2, 3, 17, 18, 7, 19, 20, 21, 22, 23, 24, 25, 26, 27, 28, 29, 30, 31, 32, 33, 34, 35, 36, 37, 38, 39, 40, 41, 42, 43] (by decide +kernel) (by decide +kernel)
set_option maxRecDepth 20000 in
theorem gX4_person_X4_may : GoodIn wsX4_person (wsV RX4 99 RX4 yX4_may wsX4_may) := goodIn_app (goodIn_of _ (by decide +kernel)) ggX4_person_X4_may
theorem dX4_person_0 : decode cX4_person 0 = .ok (.aload_n 0, 1) := by decide +kernel
theorem dX4_person_1 : decode cX4_person 1 = .ok (.iload_n 1, 1) := by decide +kernel
theorem dX4_person_2 : decode cX4_person 2 = .ok (.invokevirtual 95, 3) := by decide +kernel
theorem dX4_person_5 : decode cX4_person 5 = .ok (.ifCond .ne 5, 3) := by decide +kernel
theorem dX4_person_8 : decode cX4_person 8 = .ok (.iconst (-1), 1) := by decide +kernel
theorem dX4_person_9 : decode cX4_person 9 = .ok (.ireturn, 1) := by decide +kernel
theorem dX4_person_10 : decode cX4_person 10 = .ok (.iload_n 2, 1) := by decide +kernel
theorem dX4_person_11 : decode cX4_person 11 = .ok (.tableswitch 110 0 6 #[41, 48, 57, 67, 74, 85, 100], 41) := by decide +kernel
theorem dX4_person_52 : decode cX4_person 52 = .ok (.aload_n 0, 1) := by decide +kernel
theorem dX4_person_53 : decode cX4_person 53 = .ok (.getfield 7, 3) := by decide +kernel
theorem dX4_person_56 : decode cX4_person 56 = .ok (.iload_n 1, 1) := by decide +kernel
theorem dX4_person_57 : decode cX4_person 57 = .ok (.iaload, 1) := by decide +kernel
theorem dX4_person_58 : decode cX4_person 58 = .ok (.ireturn, 1) := by decide +kernel
theorem dX4_person_59 : decode cX4_person 59 = .ok (.aload_n 0, 1) := by decide +kernel
theorem dX4_person_60 : decode cX4_person 60 = .ok (.getfield 16, 3) := by decide +kernel
theorem dX4_person_63 : decode cX4_person 63 = .ok (.iconst 1, 1) := by decide +kernel
theorem dX4_person_64 : decode cX4_person 64 = .ok (.iload_n 1, 1) := by decide +kernel
theorem dX4_person_65 : decode cX4_person 65 = .ok (.iadd, 1) := by decide +kernel
theorem dX4_person_66 : decode cX4_person 66 = .ok (.iaload, 1) := by decide +kernel
theorem dX4_person_67 : decode cX4_person 67 = .ok (.ireturn, 1) := by decide +kernel
theorem dX4_person_68 : decode cX4_person 68 = .ok (.aload_n 0, 1) := by decide +kernel
theorem dX4_person_69 : decode cX4_person 69 = .ok (.getfield 16, 3) := by decide +kernel
theorem dX4_person_72 : decode cX4_person 72 = .ok (.bipush 8, 2) := by decide +kernel
theorem dX4_person_74 : decode cX4_person 74 = .ok (.iload_n 1, 1) := by decide +kernel
theorem dX4_person_75 : decode cX4_person 75 = .ok (.iadd, 1) := by decide +kernel
theorem dX4_person_76 : decode cX4_person 76 = .ok (.iaload, 1) := by decide +kernel
theorem dX4_person_77 : decode cX4_person 77 = .ok (.ireturn, 1) := by decide +kernel
theorem dX4_person_78 : decode cX4_person 78 = .ok (.aload_n 0, 1) := by decide +kernel
theorem dX4_person_79 : decode cX4_person 79 = .ok (.getfield 13, 3) := by decide +kernel
theorem dX4_person_82 : decode cX4_person 82 = .ok (.iload_n 1, 1) := by decide +kernel
theorem dX4_person_83 : decode cX4_person 83 = .ok (.iaload, 1) := by decide +kernel
theorem dX4_person_84 : decode cX4_person 84 = .ok (.ireturn, 1) := by decide +kernel
theorem dX4_person_85 : decode cX4_person 85 = .ok (.aload_n 0, 1) := by decide +kernel
theorem dX4_person_86 : decode cX4_person 86 = .ok (.getfield 16, 3) := by decide +kernel
theorem dX4_person_89 : decode cX4_person 89 = .ok (.iconst 0, 1) := by decide +kernel
theorem dX4_person_90 : decode cX4_person 90 = .ok (.iaload, 1) := by decide +kernel
theorem dX4_person_91 : decode cX4_person 91 = .ok (.iload_n 1, 1) := by decide +kernel
theorem dX4_person_92 : decode cX4_person 92 = .ok (.ishr, 1) := by decide +kernel
theorem dX4_person_93 : decode cX4_person 93 = .ok (.iconst 1, 1) := by decide +kernel
theorem dX4_person_94 : decode cX4_person 94 = .ok (.iand, 1) := by decide +kernel
theorem dX4_person_95 : decode cX4_person 95 = .ok (.ireturn, 1) := by decide +kernel
theorem dX4_person_96 : decode cX4_person 96 = .ok (.aload_n 0, 1) := by decide +kernel
theorem dX4_person_97 : decode cX4_person 97 = .ok (.iconst 0, 1) := by decide +kernel
theorem dX4_person_98 : decode cX4_person 98 = .ok (.iload_n 1, 1) := by decide +kernel
theorem dX4_person_99 : decode cX4_person 99 = .ok (.invokevirtual 99, 3) := by decide +kernel
theorem dX4_person_102 : decode cX4_person 102 = .ok (.ifCond .eq 7, 3) := by decide +kernel
theorem dX4_person_105 : decode cX4_person 105 = .ok (.iconst 1, 1) := by decide +kernel
theorem dX4_person_106 : decode cX4_person 106 = .ok (.goto 4, 3) := by decide +kernel
theorem dX4_person_109 : decode cX4_person 109 = .ok (.iconst 0, 1) := by decide +kernel
theorem dX4_person_110 : decode cX4_person 110 = .ok (.ireturn, 1) := by decide +kernel
theorem dX4_person_111 : decode cX4_person 111 = .ok (.aload_n 0, 1) := by decide +kernel
theorem dX4_person_112 : decode cX4_person 112 = .ok (.getfield 16, 3) := by decide +kernel
theorem dX4_person_115 : decode cX4_person 115 = .ok (.bipush 15, 2) := by decide +kernel
theorem dX4_person_117 : decode cX4_person 117 = .ok (.iload_n 1, 1) := by decide +kernel
theorem dX4_person_118 : decode cX4_person 118 = .ok (.iadd, 1) := by decide +kernel
theorem dX4_person_119 : decode cX4_person 119 = .ok (.iaload, 1) := by decide +kernel
theorem dX4_person_120 : decode cX4_person 120 = .ok (.ireturn, 1) := by decide +kernel
theorem dX4_person_121 : decode cX4_person 121 = .ok (.bipush (-2), 2) := by decide +kernel
theorem dX4_person_123 : decode cX4_person 123 = .ok (.ireturn, 1) := by decide +kernel
set_option maxRecDepth 20000 in
theorem hiX4_person_X4 : ∀ w ∈ u_ws RX4 TX4 24, w ∈ wsX4_person := by decide +kernel
set_option maxHeartbeats 4000000 in
set_option maxRecDepth 100000 in
theorem wm_person_0 {p : Program} {l : Launch} {e : Env} {s : State} {m : MethodId} {args : Array Value} {below : List Frame} {meth : Method} {c : Code} {D : va_G} {L : Nat → Nat} {K : Nat → ClassId} (hJ : gj L 12) (C0 : gC cX4_person 3 (some .int) wsX4_person RX4 p s m args meth c) (hK : va_K D vwCl (tyG K) s) (hE : eM s) {w9 : St} {rs : Int32} : ∀ (x1 : Int32) (x2 : Int32) (w : St) (H : Heap) (locs : List Loc) (ls : Array Slot), va_P D vwCl (gl L 12 (cM L K w)) H → va_S (gA L 12) s.heap H locs → lv_has ls 3 [(0, .ref (L 0)), (1, .int x1), (2, .int x2)] → fm_person x1 x2 w = some (rs, w9) → W p l e { frames := 2, cells := 0, slots := 0, locals := 46 } s m args below meth c H locs 0 0 (MQ below (qI D L 12 (cM L K) rs w9) args s 0 0 (gA L 12)) (F0 m 0 ls []) := by
  obtain ⟨hx, hb, hr, hml, hown, hts, hlk⟩ := id C0
  intro x1 x2 w H locs ls hw hS hl hf
  unfold fm_person at hf
  refine lv_aload_n hx hb dX4_person_0 rfl (lv_at hl 0 rfl) ?_
  refine lv_iload_n hx hb dX4_person_1 rfl (lv_at hl 1 rfl) ?_
  obtain ⟨q2, h2, hf⟩ := bd_e hf
  refine z_calli (va_runV (As := [.int x1]) (rest := []) ⟨hx, hb, hml, hown, hts⟩ (km_isPerson l (D := D) (K := K) hJ x1 w  h2) (cwV 1 hts gX4_person_X4_isPerson rfl rfl rfl (by decide +kernel) ⟨Nat.le_of_ble_eq_true rfl, Nat.le_of_ble_eq_true rfl⟩) (z_preV eM_ok hK hE hw hS (by decide) ((fun w => rfl) _) (T := TX4) (M := 24) rfl) rfl rfl hl.1 rfl (lv_room (Nat.le_of_ble_eq_true rfl)) dX4_person_2 ⟨Nat.le_of_ble_eq_true rfl, Nat.le_of_ble_eq_true rfl⟩) hS (fun H locs hw hS => ?_)
  refine lv_if_ne (tgt := 10) hx hb dX4_person_5 (by decide) (fun c5 => ?_) (fun c5 => ?_)
  · replace hf := if_f hf c5
    refine lv_iload_n hx hb dX4_person_10 rfl (lv_at hl 2 rfl) ?_
    by_cases c11_0 : x2 = 0
    · replace hf := if_t hf c11_0
      refine lv_tableIn (x := x2) (off := 41) (tgt := 52) hx hb dX4_person_11 (by rw [c11_0]; decide) (by rw [c11_0]; decide) (by rw [c11_0]; rfl) (by decide) ?_
      refine lv_aload_n hx hb dX4_person_52 rfl (lv_at hl 0 rfl) ?_
      refine z_get (v := .ref (L 1)) hx hb hts hiX4_person_X4 hown hK hw (k := 0) (by decide) ((fun w => rfl) _) rfl 2 (by decide) (hts (.fieldLink RX4 7 "OneSentenceModel" "home" "[I") (by decide +kernel)) rfl dX4_person_53 ?_
      refine lv_iload_n hx hb dX4_person_56 rfl (lv_at hl 1 rfl) ?_
      obtain ⟨v57, h57, hf⟩ := bd_e hf
      refine z_iald hx hb hK hw 0 (k := 1) (by decide) ((fun w => rfl) _) rfl h57 dX4_person_57 ?_
      exact z_iret hx hb hr hlk hw hS hf dX4_person_58
    · replace hf := if_f hf c11_0
      by_cases c11_1 : x2 = 1
      · replace hf := if_t hf c11_1
        refine lv_tableIn (x := x2) (off := 48) (tgt := 59) hx hb dX4_person_11 (by rw [c11_1]; decide) (by rw [c11_1]; decide) (by rw [c11_1]; rfl) (by decide) ?_
        refine lv_aload_n hx hb dX4_person_59 rfl (lv_at hl 0 rfl) ?_
        refine z_get (v := .ref (L 3)) hx hb hts hiX4_person_X4 hown hK hw (k := 0) (by decide) ((fun w => rfl) _) rfl 4 (by decide) (hts (.fieldLink RX4 16 "OneSentenceModel" "now" "[I") (by decide +kernel)) rfl dX4_person_60 ?_
        refine lv_iconst (v := 1) hx hb dX4_person_63 (by decide) ?_
        refine lv_iload_n hx hb dX4_person_64 rfl (lv_at hl 1 rfl) ?_
        refine lv_iadd hx hb dX4_person_65 ?_
        obtain ⟨v66, h66, hf⟩ := bd_e hf
        refine z_iald hx hb hK hw 0 (k := 3) (by decide) ((fun w => rfl) _) rfl h66 dX4_person_66 ?_
        exact z_iret hx hb hr hlk hw hS hf dX4_person_67
      · replace hf := if_f hf c11_1
        by_cases c11_2 : x2 = 2
        · replace hf := if_t hf c11_2
          refine lv_tableIn (x := x2) (off := 57) (tgt := 68) hx hb dX4_person_11 (by rw [c11_2]; decide) (by rw [c11_2]; decide) (by rw [c11_2]; rfl) (by decide) ?_
          refine lv_aload_n hx hb dX4_person_68 rfl (lv_at hl 0 rfl) ?_
          refine z_get (v := .ref (L 3)) hx hb hts hiX4_person_X4 hown hK hw (k := 0) (by decide) ((fun w => rfl) _) rfl 4 (by decide) (hts (.fieldLink RX4 16 "OneSentenceModel" "now" "[I") (by decide +kernel)) rfl dX4_person_69 ?_
          refine lv_bipush (v := 8) hx hb dX4_person_72 (by decide) ?_
          refine lv_iload_n hx hb dX4_person_74 rfl (lv_at hl 1 rfl) ?_
          refine lv_iadd hx hb dX4_person_75 ?_
          obtain ⟨v76, h76, hf⟩ := bd_e hf
          refine z_iald hx hb hK hw 0 (k := 3) (by decide) ((fun w => rfl) _) rfl h76 dX4_person_76 ?_
          exact z_iret hx hb hr hlk hw hS hf dX4_person_77
        · replace hf := if_f hf c11_2
          by_cases c11_3 : x2 = 3
          · replace hf := if_t hf c11_3
            refine lv_tableIn (x := x2) (off := 67) (tgt := 78) hx hb dX4_person_11 (by rw [c11_3]; decide) (by rw [c11_3]; decide) (by rw [c11_3]; rfl) (by decide) ?_
            refine lv_aload_n hx hb dX4_person_78 rfl (lv_at hl 0 rfl) ?_
            refine z_get (v := .ref (L 2)) hx hb hts hiX4_person_X4 hown hK hw (k := 0) (by decide) ((fun w => rfl) _) rfl 3 (by decide) (hts (.fieldLink RX4 13 "OneSentenceModel" "kind" "[I") (by decide +kernel)) rfl dX4_person_79 ?_
            refine lv_iload_n hx hb dX4_person_82 rfl (lv_at hl 1 rfl) ?_
            obtain ⟨v83, h83, hf⟩ := bd_e hf
            refine z_iald hx hb hK hw 0 (k := 2) (by decide) ((fun w => rfl) _) rfl h83 dX4_person_83 ?_
            exact z_iret hx hb hr hlk hw hS hf dX4_person_84
          · replace hf := if_f hf c11_3
            by_cases c11_4 : x2 = 4
            · replace hf := if_t hf c11_4
              refine lv_tableIn (x := x2) (off := 74) (tgt := 85) hx hb dX4_person_11 (by rw [c11_4]; decide) (by rw [c11_4]; decide) (by rw [c11_4]; rfl) (by decide) ?_
              refine lv_aload_n hx hb dX4_person_85 rfl (lv_at hl 0 rfl) ?_
              refine z_get (v := .ref (L 3)) hx hb hts hiX4_person_X4 hown hK hw (k := 0) (by decide) ((fun w => rfl) _) rfl 4 (by decide) (hts (.fieldLink RX4 16 "OneSentenceModel" "now" "[I") (by decide +kernel)) rfl dX4_person_86 ?_
              refine lv_iconst (v := 0) hx hb dX4_person_89 (by decide) ?_
              obtain ⟨v90, h90, hf⟩ := bd_e hf
              refine z_iald hx hb hK hw 0 (k := 3) (by decide) ((fun w => rfl) _) rfl h90 dX4_person_90 ?_
              refine lv_iload_n hx hb dX4_person_91 rfl (lv_at hl 1 rfl) ?_
              refine lv_ishr hx hb dX4_person_92 ?_
              refine lv_iconst (v := 1) hx hb dX4_person_93 (by decide) ?_
              refine lv_iand hx hb dX4_person_94 ?_
              exact z_iret hx hb hr hlk hw hS hf dX4_person_95
            · replace hf := if_f hf c11_4
              by_cases c11_5 : x2 = 5
              · replace hf := if_t hf c11_5
                refine lv_tableIn (x := x2) (off := 85) (tgt := 96) hx hb dX4_person_11 (by rw [c11_5]; decide) (by rw [c11_5]; decide) (by rw [c11_5]; rfl) (by decide) ?_
                refine lv_aload_n hx hb dX4_person_96 rfl (lv_at hl 0 rfl) ?_
                refine lv_iconst (v := 0) hx hb dX4_person_97 (by decide) ?_
                refine lv_iload_n hx hb dX4_person_98 rfl (lv_at hl 1 rfl) ?_
                obtain ⟨q99, h99, hf⟩ := bd_e hf
                refine z_calli (va_runV (As := [.int 0, .int x1]) (rest := []) ⟨hx, hb, hml, hown, hts⟩ (km_may l (D := D) (K := K) hJ 0 x1 (q2.2)  h99) (cwV 2 hts gX4_person_X4_may rfl rfl rfl (by decide +kernel) ⟨Nat.le_of_ble_eq_true rfl, Nat.le_of_ble_eq_true rfl⟩) (z_preV eM_ok hK hE hw hS (by decide) ((fun w => rfl) _) (T := TX4) (M := 24) rfl) rfl rfl hl.1 rfl (lv_room (Nat.le_of_ble_eq_true rfl)) dX4_person_99 ⟨Nat.le_of_ble_eq_true rfl, Nat.le_of_ble_eq_true rfl⟩) hS (fun H locs hw hS => ?_)
                refine lv_if_eq (tgt := 109) hx hb dX4_person_102 (by decide) (fun c102 => ?_) (fun c102 => ?_)
                · replace hf := if_t hf c102
                  refine lv_iconst (v := 0) hx hb dX4_person_109 (by decide) ?_
                  exact z_iret hx hb hr hlk hw hS hf dX4_person_110
                · replace hf := if_f hf c102
                  refine lv_iconst (v := 1) hx hb dX4_person_105 (by decide) ?_
                  refine lv_goto (tgt := 110) hx hb dX4_person_106 (by decide) ?_
                  exact z_iret hx hb hr hlk hw hS hf dX4_person_110
              · replace hf := if_f hf c11_5
                by_cases c11_6 : x2 = 6
                · replace hf := if_t hf c11_6
                  refine lv_tableIn (x := x2) (off := 100) (tgt := 111) hx hb dX4_person_11 (by rw [c11_6]; decide) (by rw [c11_6]; decide) (by rw [c11_6]; rfl) (by decide) ?_
                  refine lv_aload_n hx hb dX4_person_111 rfl (lv_at hl 0 rfl) ?_
                  refine z_get (v := .ref (L 3)) hx hb hts hiX4_person_X4 hown hK hw (k := 0) (by decide) ((fun w => rfl) _) rfl 4 (by decide) (hts (.fieldLink RX4 16 "OneSentenceModel" "now" "[I") (by decide +kernel)) rfl dX4_person_112 ?_
                  refine lv_bipush (v := 15) hx hb dX4_person_115 (by decide) ?_
                  refine lv_iload_n hx hb dX4_person_117 rfl (lv_at hl 1 rfl) ?_
                  refine lv_iadd hx hb dX4_person_118 ?_
                  obtain ⟨v119, h119, hf⟩ := bd_e hf
                  refine z_iald hx hb hK hw 0 (k := 3) (by decide) ((fun w => rfl) _) rfl h119 dX4_person_119 ?_
                  exact z_iret hx hb hr hlk hw hS hf dX4_person_120
                · replace hf := if_f hf c11_6
                  have z11 : ∀ z, z < 7 → ¬ x2 = nI z := by
                    intro z hz
                    rcases (show z = 0 ∨ z = 1 ∨ z = 2 ∨ z = 3 ∨ z = 4 ∨ z = 5 ∨ z = 6 by omega) with rfl | rfl | rfl | rfl | rfl | rfl | rfl
                    · exact c11_0
                    · exact c11_1
                    · exact c11_2
                    · exact c11_3
                    · exact c11_4
                    · exact c11_5
                    · exact c11_6
                  refine lv_tableOut (x := x2) (tgt := 121) hx hb dX4_person_11 (z_out (by decide) z11 rfl) (by decide) ?_
                  refine lv_bipush (v := (-2)) hx hb dX4_person_121 (by decide) ?_
                  exact z_iret hx hb hr hlk hw hS hf dX4_person_123
  · replace hf := if_t hf c5
    refine lv_iconst (v := (-1)) hx hb dX4_person_8 (by decide) ?_
    exact z_iret hx hb hr hlk hw hS hf dX4_person_9
set_option maxHeartbeats 4000000 in
set_option maxRecDepth 100000 in
theorem km_person (l : Launch) {D : va_G} {L : Nat → Nat} {K : Nat → ClassId} (hJ : gj L 12) (x1 : Int32) (x2 : Int32) (w : St) {w9 : St} {rs : Int32} (hf : fm_person x1 x2 w = some (rs, w9)) : Met l yX4_person wsX4_person ({ frames := 2, cells := 0, slots := 0, locals := 46 }) (va_Pc [.ref (L 0), .int x1, .int x2] (mP D L K w)) (qI D L 12 (cM L K) rs w9) 0 0 (gA L 12) := by
  refine g_met (cc := cX4_person) (nL := 3) (ret := (some .int)) (by decide) rfl (Nat.le_of_ble_eq_true rfl) (fun p e s m below meth c ls C0 hP hl => ?_)
  exact wm_person_0 hJ C0 hP.2.1 hP.2.2 _ _ w _ _ ls hP.1 va_S.rf (lv_sub hl [0, 1, 2] rfl) hf
