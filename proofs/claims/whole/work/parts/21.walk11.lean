set_option maxRecDepth 20000 in
theorem ggX4_share_X4_isPerson : GoodIn wsX4_share wsX4_isPerson := goodIn_r _ [8, 9, 10, 11, 7, 12, 65, 66, 67, 68, 69, 70, 71, 72, 73, 74, 75, 76, 77, 78, 79, 80, 81, 82, 83, 84, 85, 86, 87, 88] (by decide +kernel) (by decide +kernel)
set_option maxRecDepth 20000 in
theorem gX4_share_X4_isPerson : GoodIn wsX4_share (wsV RX4 95 RX4 yX4_isPerson wsX4_isPerson) := goodIn_app (goodIn_of _ (by decide +kernel)) ggX4_share_X4_isPerson
set_option maxRecDepth 20000 in
theorem ggX4_share_X4_in : GoodIn wsX4_share wsX4_in := goodIn_r _ [12] (by decide +kernel) (by decide +kernel)
set_option maxRecDepth 20000 in
theorem gX4_share_X4_in : GoodIn wsX4_share (va_wsS RX4 46 yX4_in wsX4_in) := goodIn_app (goodIn_of _ (by decide +kernel)) ggX4_share_X4_in
set_option maxRecDepth 20000 in
theorem ggX4_share_X4_has : GoodIn wsX4_share wsX4_has := goodIn_r _ [15] (by decide +kernel) (by decide +kernel)
set_option maxRecDepth 20000 in
theorem gX4_share_X4_has : GoodIn wsX4_share (va_wsS RX4 83 yX4_has wsX4_has) := goodIn_app (goodIn_of _ (by decide +kernel)) ggX4_share_X4_has
set_option maxRecDepth 20000 in
theorem ggX4_share_X4_canBy : GoodIn wsX4_share wsX4_canBy := goodIn_r _ [19, 2, 20, 21, 7, 22, 23, 24, 25, 26, 27, 28, 29, 30, 31, 32, 33, 34, 35, 36, 37, 38, 39, 10, 11, 12, 40, 41, 42, 43, 44, 13, 14, 15, 45, 46, 47, 48, 49, 50, 51, 52, 53, 54, 55, 65, 66, 67, 68, 69, 70, 71, 72, 73, 74, 75, 76, 77, 78, 79, 80, 81, 82, 83, 84, 85, 86, 87, 88] (by decide +kernel) (by decide +kernel)
set_option maxRecDepth 20000 in
theorem gX4_share_X4_canBy : GoodIn wsX4_share (wsV RX4 154 RX4 yX4_canBy wsX4_canBy) := goodIn_app (goodIn_of _ (by decide +kernel)) ggX4_share_X4_canBy
set_option maxRecDepth 20000 in
theorem ggX4_share_X4_ones : GoodIn wsX4_share wsX4_ones := goodIn_r _ [58] (by decide +kernel) (by decide +kernel)
set_option maxRecDepth 20000 in
theorem gX4_share_X4_ones : GoodIn wsX4_share (va_wsS RX4 111 yX4_ones wsX4_ones) := goodIn_app (goodIn_of _ (by decide +kernel)) ggX4_share_X4_ones
set_option maxRecDepth 20000 in
theorem ggX4_share_X4_factorial : GoodIn wsX4_share wsX4_factorial := goodIn_r _ [61] (by decide +kernel) (by decide +kernel)
set_option maxRecDepth 20000 in
theorem gX4_share_X4_factorial : GoodIn wsX4_share (va_wsS RX4 167 yX4_factorial wsX4_factorial) := goodIn_app (goodIn_of _ (by decide +kernel)) ggX4_share_X4_factorial
set_option maxRecDepth 20000 in
theorem ggX4_share_X4_common : GoodIn wsX4_share wsX4_common := goodIn_r _ [64] (by decide +kernel) (by decide +kernel)
set_option maxRecDepth 20000 in
theorem gX4_share_X4_common : GoodIn wsX4_share (va_wsS RX4 170 yX4_common wsX4_common) := goodIn_app (goodIn_of _ (by decide +kernel)) ggX4_share_X4_common
theorem dX4_share_0 : decode cX4_share 0 = .ok (.aload_n 0, 1) := by decide +kernel
theorem dX4_share_1 : decode cX4_share 1 = .ok (.iload_n 1, 1) := by decide +kernel
theorem dX4_share_2 : decode cX4_share 2 = .ok (.invokevirtual 95, 3) := by decide +kernel
theorem dX4_share_5 : decode cX4_share 5 = .ok (.ifCond .ne 5, 3) := by decide +kernel
theorem dX4_share_8 : decode cX4_share 8 = .ok (.iconst (-1), 1) := by decide +kernel
theorem dX4_share_9 : decode cX4_share 9 = .ok (.ireturn, 1) := by decide +kernel
theorem dX4_share_10 : decode cX4_share 10 = .ok (.iload_n 2, 1) := by decide +kernel
theorem dX4_share_11 : decode cX4_share 11 = .ok (.i2l, 1) := by decide +kernel
theorem dX4_share_12 : decode cX4_share 12 = .ok (.lconst 1, 1) := by decide +kernel
theorem dX4_share_13 : decode cX4_share 13 = .ok (.ldc2_w 117, 3) := by decide +kernel
theorem dX4_share_16 : decode cX4_share 16 = .ok (.invokestatic 46, 3) := by decide +kernel
theorem dX4_share_19 : decode cX4_share 19 = .ok (.ifCond .ne 6, 3) := by decide +kernel
theorem dX4_share_22 : decode cX4_share 22 = .ok (.bipush (-2), 2) := by decide +kernel
theorem dX4_share_24 : decode cX4_share 24 = .ok (.ireturn, 1) := by decide +kernel
theorem dX4_share_25 : decode cX4_share 25 = .ok (.aload_n 0, 1) := by decide +kernel
theorem dX4_share_26 : decode cX4_share 26 = .ok (.getfield 16, 3) := by decide +kernel
theorem dX4_share_29 : decode cX4_share 29 = .ok (.iconst 0, 1) := by decide +kernel
theorem dX4_share_30 : decode cX4_share 30 = .ok (.iaload, 1) := by decide +kernel
theorem dX4_share_31 : decode cX4_share 31 = .ok (.istore 4, 2) := by decide +kernel
theorem dX4_share_33 : decode cX4_share 33 = .ok (.iload 4, 2) := by decide +kernel
theorem dX4_share_35 : decode cX4_share 35 = .ok (.iload_n 1, 1) := by decide +kernel
theorem dX4_share_36 : decode cX4_share 36 = .ok (.invokestatic 83, 3) := by decide +kernel
theorem dX4_share_39 : decode cX4_share 39 = .ok (.ifCond .ne 13, 3) := by decide +kernel
theorem dX4_share_42 : decode cX4_share 42 = .ok (.iload_n 3, 1) := by decide +kernel
theorem dX4_share_43 : decode cX4_share 43 = .ok (.ifCond .eq 7, 3) := by decide +kernel
theorem dX4_share_46 : decode cX4_share 46 = .ok (.iconst 0, 1) := by decide +kernel
theorem dX4_share_47 : decode cX4_share 47 = .ok (.goto 4, 3) := by decide +kernel
theorem dX4_share_50 : decode cX4_share 50 = .ok (.iconst 1, 1) := by decide +kernel
theorem dX4_share_51 : decode cX4_share 51 = .ok (.ireturn, 1) := by decide +kernel
theorem dX4_share_52 : decode cX4_share 52 = .ok (.iconst 0, 1) := by decide +kernel
theorem dX4_share_53 : decode cX4_share 53 = .ok (.istore 5, 2) := by decide +kernel
theorem dX4_share_55 : decode cX4_share 55 = .ok (.iload 5, 2) := by decide +kernel
theorem dX4_share_57 : decode cX4_share 57 = .ok (.iload 4, 2) := by decide +kernel
theorem dX4_share_59 : decode cX4_share 59 = .ok (.if_icmp .gt 40, 3) := by decide +kernel
theorem dX4_share_62 : decode cX4_share 62 = .ok (.aload_n 0, 1) := by decide +kernel
theorem dX4_share_63 : decode cX4_share 63 = .ok (.getfield 31, 3) := by decide +kernel
theorem dX4_share_66 : decode cX4_share 66 = .ok (.iload 5, 2) := by decide +kernel
theorem dX4_share_68 : decode cX4_share 68 = .ok (.iload 5, 2) := by decide +kernel
theorem dX4_share_70 : decode cX4_share 70 = .ok (.iload 4, 2) := by decide +kernel
theorem dX4_share_72 : decode cX4_share 72 = .ok (.iconst (-1), 1) := by decide +kernel
theorem dX4_share_73 : decode cX4_share 73 = .ok (.ixor, 1) := by decide +kernel
theorem dX4_share_74 : decode cX4_share 74 = .ok (.iand, 1) := by decide +kernel
theorem dX4_share_75 : decode cX4_share 75 = .ok (.ifCond .ne 16, 3) := by decide +kernel
theorem dX4_share_78 : decode cX4_share 78 = .ok (.aload_n 0, 1) := by decide +kernel
theorem dX4_share_79 : decode cX4_share 79 = .ok (.iload 5, 2) := by decide +kernel
theorem dX4_share_81 : decode cX4_share 81 = .ok (.iload_n 2, 1) := by decide +kernel
theorem dX4_share_82 : decode cX4_share 82 = .ok (.invokevirtual 154, 3) := by decide +kernel
theorem dX4_share_85 : decode cX4_share 85 = .ok (.invokestatic 111, 3) := by decide +kernel
theorem dX4_share_88 : decode cX4_share 88 = .ok (.goto 4, 3) := by decide +kernel
theorem dX4_share_91 : decode cX4_share 91 = .ok (.iconst 0, 1) := by decide +kernel
theorem dX4_share_92 : decode cX4_share 92 = .ok (.iastore, 1) := by decide +kernel
theorem dX4_share_93 : decode cX4_share 93 = .ok (.iinc 5 1, 3) := by decide +kernel
theorem dX4_share_96 : decode cX4_share 96 = .ok (.goto (-41), 3) := by decide +kernel
theorem dX4_share_99 : decode cX4_share 99 = .ok (.iconst 0, 1) := by decide +kernel
theorem dX4_share_100 : decode cX4_share 100 = .ok (.istore 5, 2) := by decide +kernel
theorem dX4_share_102 : decode cX4_share 102 = .ok (.iconst 0, 1) := by decide +kernel
theorem dX4_share_103 : decode cX4_share 103 = .ok (.istore 6, 2) := by decide +kernel
theorem dX4_share_105 : decode cX4_share 105 = .ok (.iload 6, 2) := by decide +kernel
theorem dX4_share_107 : decode cX4_share 107 = .ok (.iload 4, 2) := by decide +kernel
theorem dX4_share_109 : decode cX4_share 109 = .ok (.if_icmp .gt 82, 3) := by decide +kernel
theorem dX4_share_112 : decode cX4_share 112 = .ok (.iload 6, 2) := by decide +kernel
theorem dX4_share_114 : decode cX4_share 114 = .ok (.iload 4, 2) := by decide +kernel
theorem dX4_share_116 : decode cX4_share 116 = .ok (.iconst (-1), 1) := by decide +kernel
theorem dX4_share_117 : decode cX4_share 117 = .ok (.ixor, 1) := by decide +kernel
theorem dX4_share_118 : decode cX4_share 118 = .ok (.iand, 1) := by decide +kernel
theorem dX4_share_119 : decode cX4_share 119 = .ok (.ifCond .ne 66, 3) := by decide +kernel
theorem dX4_share_122 : decode cX4_share 122 = .ok (.iload 6, 2) := by decide +kernel
theorem dX4_share_124 : decode cX4_share 124 = .ok (.iload_n 1, 1) := by decide +kernel
theorem dX4_share_125 : decode cX4_share 125 = .ok (.invokestatic 83, 3) := by decide +kernel
theorem dX4_share_128 : decode cX4_share 128 = .ok (.ifCond .ne 57, 3) := by decide +kernel
theorem dX4_share_131 : decode cX4_share 131 = .ok (.iload 6, 2) := by decide +kernel
theorem dX4_share_133 : decode cX4_share 133 = .ok (.invokestatic 111, 3) := by decide +kernel
theorem dX4_share_136 : decode cX4_share 136 = .ok (.invokestatic 167, 3) := by decide +kernel
theorem dX4_share_139 : decode cX4_share 139 = .ok (.iload 4, 2) := by decide +kernel
theorem dX4_share_141 : decode cX4_share 141 = .ok (.invokestatic 111, 3) := by decide +kernel
theorem dX4_share_144 : decode cX4_share 144 = .ok (.iconst 1, 1) := by decide +kernel
theorem dX4_share_145 : decode cX4_share 145 = .ok (.isub, 1) := by decide +kernel
theorem dX4_share_146 : decode cX4_share 146 = .ok (.iload 6, 2) := by decide +kernel
theorem dX4_share_148 : decode cX4_share 148 = .ok (.invokestatic 111, 3) := by decide +kernel
theorem dX4_share_151 : decode cX4_share 151 = .ok (.isub, 1) := by decide +kernel
theorem dX4_share_152 : decode cX4_share 152 = .ok (.invokestatic 167, 3) := by decide +kernel
theorem dX4_share_155 : decode cX4_share 155 = .ok (.imul, 1) := by decide +kernel
theorem dX4_share_156 : decode cX4_share 156 = .ok (.istore 7, 2) := by decide +kernel
theorem dX4_share_158 : decode cX4_share 158 = .ok (.iload 5, 2) := by decide +kernel
theorem dX4_share_160 : decode cX4_share 160 = .ok (.iload 7, 2) := by decide +kernel
theorem dX4_share_162 : decode cX4_share 162 = .ok (.aload_n 0, 1) := by decide +kernel
theorem dX4_share_163 : decode cX4_share 163 = .ok (.getfield 31, 3) := by decide +kernel
theorem dX4_share_166 : decode cX4_share 166 = .ok (.iload 6, 2) := by decide +kernel
theorem dX4_share_168 : decode cX4_share 168 = .ok (.iconst 1, 1) := by decide +kernel
theorem dX4_share_169 : decode cX4_share 169 = .ok (.iload_n 1, 1) := by decide +kernel
theorem dX4_share_170 : decode cX4_share 170 = .ok (.ishl, 1) := by decide +kernel
theorem dX4_share_171 : decode cX4_share 171 = .ok (.ior, 1) := by decide +kernel
theorem dX4_share_172 : decode cX4_share 172 = .ok (.iaload, 1) := by decide +kernel
theorem dX4_share_173 : decode cX4_share 173 = .ok (.aload_n 0, 1) := by decide +kernel
theorem dX4_share_174 : decode cX4_share 174 = .ok (.getfield 31, 3) := by decide +kernel
theorem dX4_share_177 : decode cX4_share 177 = .ok (.iload 6, 2) := by decide +kernel
theorem dX4_share_179 : decode cX4_share 179 = .ok (.iaload, 1) := by decide +kernel
theorem dX4_share_180 : decode cX4_share 180 = .ok (.isub, 1) := by decide +kernel
theorem dX4_share_181 : decode cX4_share 181 = .ok (.imul, 1) := by decide +kernel
theorem dX4_share_182 : decode cX4_share 182 = .ok (.iadd, 1) := by decide +kernel
theorem dX4_share_183 : decode cX4_share 183 = .ok (.istore 5, 2) := by decide +kernel
theorem dX4_share_185 : decode cX4_share 185 = .ok (.iinc 6 1, 3) := by decide +kernel
theorem dX4_share_188 : decode cX4_share 188 = .ok (.goto (-83), 3) := by decide +kernel
theorem dX4_share_191 : decode cX4_share 191 = .ok (.iload 5, 2) := by decide +kernel
theorem dX4_share_193 : decode cX4_share 193 = .ok (.iload 4, 2) := by decide +kernel
theorem dX4_share_195 : decode cX4_share 195 = .ok (.invokestatic 111, 3) := by decide +kernel
theorem dX4_share_198 : decode cX4_share 198 = .ok (.invokestatic 167, 3) := by decide +kernel
theorem dX4_share_201 : decode cX4_share 201 = .ok (.invokestatic 170, 3) := by decide +kernel
theorem dX4_share_204 : decode cX4_share 204 = .ok (.istore 6, 2) := by decide +kernel
theorem dX4_share_206 : decode cX4_share 206 = .ok (.iload_n 3, 1) := by decide +kernel
theorem dX4_share_207 : decode cX4_share 207 = .ok (.ifCond .eq 11, 3) := by decide +kernel
theorem dX4_share_210 : decode cX4_share 210 = .ok (.iload 5, 2) := by decide +kernel
theorem dX4_share_212 : decode cX4_share 212 = .ok (.iload 6, 2) := by decide +kernel
theorem dX4_share_214 : decode cX4_share 214 = .ok (.idiv, 1) := by decide +kernel
theorem dX4_share_215 : decode cX4_share 215 = .ok (.goto 14, 3) := by decide +kernel
theorem dX4_share_218 : decode cX4_share 218 = .ok (.iload 4, 2) := by decide +kernel
theorem dX4_share_220 : decode cX4_share 220 = .ok (.invokestatic 111, 3) := by decide +kernel
theorem dX4_share_223 : decode cX4_share 223 = .ok (.invokestatic 167, 3) := by decide +kernel
theorem dX4_share_226 : decode cX4_share 226 = .ok (.iload 6, 2) := by decide +kernel
theorem dX4_share_228 : decode cX4_share 228 = .ok (.idiv, 1) := by decide +kernel
theorem dX4_share_229 : decode cX4_share 229 = .ok (.ireturn, 1) := by decide +kernel
set_option maxRecDepth 20000 in
theorem hiX4_share_X4 : ∀ w ∈ u_ws RX4 TX4 24, w ∈ wsX4_share := by decide +kernel
set_option maxHeartbeats 4000000 in
set_option maxRecDepth 100000 in
theorem wm_share_185 {p : Program} {l : Launch} {e : Env} {s : State} {m : MethodId} {args : Array Value} {below : List Frame} {meth : Method} {c : Code} {D : va_G} {L : Nat → Nat} {K : Nat → ClassId} (hJ : gj L 12) (C0 : gC cX4_share 8 (some .int) wsX4_share RX4 p s m args meth c) (hK : va_K D vwCl (tyG K) s) (hE : eM s) {w9 : St} {rs : Int32} (k105 : Int32 → Int32 → Int32 → Int32 → Int32 → St → Option (Int32 × St)) (i105 : ∀ (x1 : Int32) (x3 : Int32) (x4 : Int32) (x5 : Int32) (x6 : Int32) (w : St) (H : Heap) (locs : List Loc) (ls : Array Slot), va_P D vwCl (gl L 12 (cM L K w)) H → va_S (gA L 12) s.heap H locs → lv_has ls 8 [(0, .ref (L 0)), (1, .int x1), (3, .int x3), (4, .int x4), (5, .int x5), (6, .int x6)] → k105 x1 x3 x4 x5 x6 w = some (rs, w9) → W p l e { frames := 5, cells := 0, slots := 0, locals := 117 } s m args below meth c H locs 0 0 (MQ below (qI D L 12 (cM L K) rs w9) args s 0 0 (gA L 12)) (F0 m 105 ls [])) : ∀ (x1 : Int32) (x3 : Int32) (x4 : Int32) (x5 : Int32) (x6 : Int32) (w : St) (H : Heap) (locs : List Loc) (ls : Array Slot), va_P D vwCl (gl L 12 (cM L K w)) H → va_S (gA L 12) s.heap H locs → lv_has ls 8 [(0, .ref (L 0)), (1, .int x1), (3, .int x3), (4, .int x4), (5, .int x5), (6, .int x6)] → fm_share_185 k105 x1 x3 x4 x5 x6 w = some (rs, w9) → W p l e { frames := 5, cells := 0, slots := 0, locals := 117 } s m args below meth c H locs 0 0 (MQ below (qI D L 12 (cM L K) rs w9) args s 0 0 (gA L 12)) (F0 m 185 ls []) := by
  obtain ⟨hx, hb, hr, hml, hown, hts, hlk⟩ := id C0
  intro x1 x3 x4 x5 x6 w H locs ls hw hS hl hf
  unfold fm_share_185 at hf
  refine lv_iinc (v := (x6 + 1)) (lv' := [(6, .int (x6 + 1)), (0, .ref (L 0)), (1, .int x1), (3, .int x3), (4, .int x4), (5, .int x5)]) hx hb dX4_share_185 hl (k := 5) rfl rfl (by decide) rfl (fun ls hl => ?_)
  refine lv_goto (tgt := 105) hx hb dX4_share_188 (by decide) ?_
  exact i105 _ _ _ _ _ _ _ _ _ hw hS (lv_sub hl [1, 2, 3, 4, 5, 0] rfl) hf
set_option maxHeartbeats 4000000 in
set_option maxRecDepth 100000 in
theorem wm_share_105 {p : Program} {l : Launch} {e : Env} {s : State} {m : MethodId} {args : Array Value} {below : List Frame} {meth : Method} {c : Code} {D : va_G} {L : Nat → Nat} {K : Nat → ClassId} (hJ : gj L 12) (C0 : gC cX4_share 8 (some .int) wsX4_share RX4 p s m args meth c) (hK : va_K D vwCl (tyG K) s) (hE : eM s) {w9 : St} {rs : Int32} : ∀ (fu : Nat) (x1 : Int32) (x3 : Int32) (x4 : Int32) (x5 : Int32) (x6 : Int32) (w : St) (H : Heap) (locs : List Loc) (ls : Array Slot), va_P D vwCl (gl L 12 (cM L K w)) H → va_S (gA L 12) s.heap H locs → lv_has ls 8 [(0, .ref (L 0)), (1, .int x1), (3, .int x3), (4, .int x4), (5, .int x5), (6, .int x6)] → fm_share_105 fu x1 x3 x4 x5 x6 w = some (rs, w9) → W p l e { frames := 5, cells := 0, slots := 0, locals := 117 } s m args below meth c H locs 0 0 (MQ below (qI D L 12 (cM L K) rs w9) args s 0 0 (gA L 12)) (F0 m 105 ls []) := by
  obtain ⟨hx, hb, hr, hml, hown, hts, hlk⟩ := id C0
  intro fu
  induction fu with
  | zero =>
    intro x1 x3 x4 x5 x6 w H locs ls hw hS hl hf
    rw [fm_share_105] at hf
    exact no_n hf
  | succ fu ih =>
    intro x1 x3 x4 x5 x6 w H locs ls hw hS hl hf
    rw [fm_share_105] at hf
    refine lv_iload hx hb dX4_share_105 (lv_at hl 5 rfl) ?_
    refine lv_iload hx hb dX4_share_107 (lv_at hl 3 rfl) ?_
    refine lv_icmp_gt (tgt := 191) hx hb dX4_share_109 (by decide) (fun c109 => ?_) (fun c109 => ?_)
    · replace hf := if_t hf c109
      refine lv_iload hx hb dX4_share_191 (lv_at hl 4 rfl) ?_
      refine lv_iload hx hb dX4_share_193 (lv_at hl 3 rfl) ?_
      obtain ⟨v195, h195, hf⟩ := bd_e hf
      refine z_calls (va_runS (As := [.int x4]) (rest := [.int x5]) ⟨hx, hb, hml, hown, hts⟩ (km_ones l x4 h195) (va_cwS 1 hts gX4_share_X4_ones rfl rfl rfl (by decide +kernel) ⟨Nat.le_of_ble_eq_true rfl, Nat.le_of_ble_eq_true rfl⟩) z_preT rfl rfl hl.1 rfl (lv_room (Nat.le_of_ble_eq_true rfl)) dX4_share_195 ⟨Nat.le_of_ble_eq_true rfl, Nat.le_of_ble_eq_true rfl⟩) ?_
      obtain ⟨v198, h198, hf⟩ := bd_e hf
      refine z_calls (va_runS (As := [.int v195]) (rest := [.int x5]) ⟨hx, hb, hml, hown, hts⟩ (km_factorial l v195 h198) (va_cwS 1 hts gX4_share_X4_factorial rfl rfl rfl (by decide +kernel) ⟨Nat.le_of_ble_eq_true rfl, Nat.le_of_ble_eq_true rfl⟩) z_preT rfl rfl hl.1 rfl (lv_room (Nat.le_of_ble_eq_true rfl)) dX4_share_198 ⟨Nat.le_of_ble_eq_true rfl, Nat.le_of_ble_eq_true rfl⟩) ?_
      obtain ⟨v201, h201, hf⟩ := bd_e hf
      refine z_calls (va_runS (As := [.int x5, .int v198]) (rest := []) ⟨hx, hb, hml, hown, hts⟩ (km_common l x5 v198 h201) (va_cwS 2 hts gX4_share_X4_common rfl rfl rfl (by decide +kernel) ⟨Nat.le_of_ble_eq_true rfl, Nat.le_of_ble_eq_true rfl⟩) z_preT rfl rfl hl.1 rfl (lv_room (Nat.le_of_ble_eq_true rfl)) dX4_share_201 ⟨Nat.le_of_ble_eq_true rfl, Nat.le_of_ble_eq_true rfl⟩) ?_
      refine lv_istore (lv' := [(6, .int v201), (0, .ref (L 0)), (1, .int x1), (3, .int x3), (4, .int x4), (5, .int x5)]) hx hb dX4_share_204 hl (by decide) rfl (fun ls hl => ?_)
      refine lv_iload_n hx hb dX4_share_206 rfl (lv_at hl 3 rfl) ?_
      refine lv_if_eq (tgt := 218) hx hb dX4_share_207 (by decide) (fun c207 => ?_) (fun c207 => ?_)
      · replace hf := if_t hf c207
        refine lv_iload hx hb dX4_share_218 (lv_at hl 4 rfl) ?_
        obtain ⟨v220, h220, hf⟩ := bd_e hf
        refine z_calls (va_runS (As := [.int x4]) (rest := []) ⟨hx, hb, hml, hown, hts⟩ (km_ones l x4 h220) (va_cwS 1 hts gX4_share_X4_ones rfl rfl rfl (by decide +kernel) ⟨Nat.le_of_ble_eq_true rfl, Nat.le_of_ble_eq_true rfl⟩) z_preT rfl rfl hl.1 rfl (lv_room (Nat.le_of_ble_eq_true rfl)) dX4_share_220 ⟨Nat.le_of_ble_eq_true rfl, Nat.le_of_ble_eq_true rfl⟩) ?_
        obtain ⟨v223, h223, hf⟩ := bd_e hf
        refine z_calls (va_runS (As := [.int v220]) (rest := []) ⟨hx, hb, hml, hown, hts⟩ (km_factorial l v220 h223) (va_cwS 1 hts gX4_share_X4_factorial rfl rfl rfl (by decide +kernel) ⟨Nat.le_of_ble_eq_true rfl, Nat.le_of_ble_eq_true rfl⟩) z_preT rfl rfl hl.1 rfl (lv_room (Nat.le_of_ble_eq_true rfl)) dX4_share_223 ⟨Nat.le_of_ble_eq_true rfl, Nat.le_of_ble_eq_true rfl⟩) ?_
        refine lv_iload hx hb dX4_share_226 (lv_at hl 0 rfl) ?_
        obtain ⟨v228, h228, hf⟩ := bd_e hf
        obtain ⟨n228, j228⟩ := gd_e h228
        refine lv_idiv hx hb dX4_share_228 n228 ?_
        rw [j228]
        exact z_iret hx hb hr hlk hw hS hf dX4_share_229
      · replace hf := if_f hf c207
        refine lv_iload hx hb dX4_share_210 (lv_at hl 5 rfl) ?_
        refine lv_iload hx hb dX4_share_212 (lv_at hl 0 rfl) ?_
        obtain ⟨v214, h214, hf⟩ := bd_e hf
        obtain ⟨n214, j214⟩ := gd_e h214
        refine lv_idiv hx hb dX4_share_214 n214 ?_
        rw [j214]
        refine lv_goto (tgt := 229) hx hb dX4_share_215 (by decide) ?_
        exact z_iret hx hb hr hlk hw hS hf dX4_share_229
    · replace hf := if_f hf c109
      refine lv_iload hx hb dX4_share_112 (lv_at hl 5 rfl) ?_
      refine lv_iload hx hb dX4_share_114 (lv_at hl 3 rfl) ?_
      refine lv_iconst (v := (-1)) hx hb dX4_share_116 (by decide) ?_
      refine lv_ixor hx hb dX4_share_117 ?_
      refine lv_iand hx hb dX4_share_118 ?_
      refine lv_if_ne (tgt := 185) hx hb dX4_share_119 (by decide) (fun c119 => ?_) (fun c119 => ?_)
      · replace hf := if_f hf c119
        exact wm_share_185 hJ C0 hK hE _ ih _ _ _ _ _ _ _ _ _ hw hS (lv_sub hl [0, 1, 2, 3, 4, 5] rfl) hf
      · replace hf := if_t hf c119
        refine lv_iload hx hb dX4_share_122 (lv_at hl 5 rfl) ?_
        refine lv_iload_n hx hb dX4_share_124 rfl (lv_at hl 1 rfl) ?_
        obtain ⟨v125, h125, hf⟩ := bd_e hf
        refine z_calls (va_runS (As := [.int x6, .int x1]) (rest := []) ⟨hx, hb, hml, hown, hts⟩ (km_has l x6 x1 h125) (va_cwS 2 hts gX4_share_X4_has rfl rfl rfl (by decide +kernel) ⟨Nat.le_of_ble_eq_true rfl, Nat.le_of_ble_eq_true rfl⟩) z_preT rfl rfl hl.1 rfl (lv_room (Nat.le_of_ble_eq_true rfl)) dX4_share_125 ⟨Nat.le_of_ble_eq_true rfl, Nat.le_of_ble_eq_true rfl⟩) ?_
        refine lv_if_ne (tgt := 185) hx hb dX4_share_128 (by decide) (fun c128 => ?_) (fun c128 => ?_)
        · replace hf := if_f hf c128
          exact wm_share_185 hJ C0 hK hE _ ih _ _ _ _ _ _ _ _ _ hw hS (lv_sub hl [0, 1, 2, 3, 4, 5] rfl) hf
        · replace hf := if_t hf c128
          refine lv_iload hx hb dX4_share_131 (lv_at hl 5 rfl) ?_
          obtain ⟨v133, h133, hf⟩ := bd_e hf
          refine z_calls (va_runS (As := [.int x6]) (rest := []) ⟨hx, hb, hml, hown, hts⟩ (km_ones l x6 h133) (va_cwS 1 hts gX4_share_X4_ones rfl rfl rfl (by decide +kernel) ⟨Nat.le_of_ble_eq_true rfl, Nat.le_of_ble_eq_true rfl⟩) z_preT rfl rfl hl.1 rfl (lv_room (Nat.le_of_ble_eq_true rfl)) dX4_share_133 ⟨Nat.le_of_ble_eq_true rfl, Nat.le_of_ble_eq_true rfl⟩) ?_
          obtain ⟨v136, h136, hf⟩ := bd_e hf
          refine z_calls (va_runS (As := [.int v133]) (rest := []) ⟨hx, hb, hml, hown, hts⟩ (km_factorial l v133 h136) (va_cwS 1 hts gX4_share_X4_factorial rfl rfl rfl (by decide +kernel) ⟨Nat.le_of_ble_eq_true rfl, Nat.le_of_ble_eq_true rfl⟩) z_preT rfl rfl hl.1 rfl (lv_room (Nat.le_of_ble_eq_true rfl)) dX4_share_136 ⟨Nat.le_of_ble_eq_true rfl, Nat.le_of_ble_eq_true rfl⟩) ?_
          refine lv_iload hx hb dX4_share_139 (lv_at hl 3 rfl) ?_
          obtain ⟨v141, h141, hf⟩ := bd_e hf
          refine z_calls (va_runS (As := [.int x4]) (rest := [.int v136]) ⟨hx, hb, hml, hown, hts⟩ (km_ones l x4 h141) (va_cwS 1 hts gX4_share_X4_ones rfl rfl rfl (by decide +kernel) ⟨Nat.le_of_ble_eq_true rfl, Nat.le_of_ble_eq_true rfl⟩) z_preT rfl rfl hl.1 rfl (lv_room (Nat.le_of_ble_eq_true rfl)) dX4_share_141 ⟨Nat.le_of_ble_eq_true rfl, Nat.le_of_ble_eq_true rfl⟩) ?_
          refine lv_iconst (v := 1) hx hb dX4_share_144 (by decide) ?_
          refine lv_isub hx hb dX4_share_145 ?_
          refine lv_iload hx hb dX4_share_146 (lv_at hl 5 rfl) ?_
          obtain ⟨v148, h148, hf⟩ := bd_e hf
          refine z_calls (va_runS (As := [.int x6]) (rest := [.int (v141 - (1 : Int32)), .int v136]) ⟨hx, hb, hml, hown, hts⟩ (km_ones l x6 h148) (va_cwS 1 hts gX4_share_X4_ones rfl rfl rfl (by decide +kernel) ⟨Nat.le_of_ble_eq_true rfl, Nat.le_of_ble_eq_true rfl⟩) z_preT rfl rfl hl.1 rfl (lv_room (Nat.le_of_ble_eq_true rfl)) dX4_share_148 ⟨Nat.le_of_ble_eq_true rfl, Nat.le_of_ble_eq_true rfl⟩) ?_
          refine lv_isub hx hb dX4_share_151 ?_
          obtain ⟨v152, h152, hf⟩ := bd_e hf
          refine z_calls (va_runS (As := [.int ((v141 - (1 : Int32)) - v148)]) (rest := [.int v136]) ⟨hx, hb, hml, hown, hts⟩ (km_factorial l ((v141 - (1 : Int32)) - v148) h152) (va_cwS 1 hts gX4_share_X4_factorial rfl rfl rfl (by decide +kernel) ⟨Nat.le_of_ble_eq_true rfl, Nat.le_of_ble_eq_true rfl⟩) z_preT rfl rfl hl.1 rfl (lv_room (Nat.le_of_ble_eq_true rfl)) dX4_share_152 ⟨Nat.le_of_ble_eq_true rfl, Nat.le_of_ble_eq_true rfl⟩) ?_
          refine lv_imul hx hb dX4_share_155 ?_
          refine lv_topi (fun v156 e156 => ?_)
          replace hf := lb_e hf e156
          refine lv_istore (lv' := [(7, .int v156), (0, .ref (L 0)), (1, .int x1), (3, .int x3), (4, .int x4), (5, .int x5), (6, .int x6)]) hx hb dX4_share_156 hl (by decide) rfl (fun ls hl => ?_)
          refine lv_iload hx hb dX4_share_158 (lv_at hl 5 rfl) ?_
          refine lv_iload hx hb dX4_share_160 (lv_at hl 0 rfl) ?_
          refine lv_aload_n hx hb dX4_share_162 rfl (lv_at hl 1 rfl) ?_
          refine z_get (v := .ref (L 8)) hx hb hts hiX4_share_X4 hown hK hw (k := 0) (by decide) ((fun w => rfl) _) rfl 19 (by decide) (hts (.fieldLink RX4 31 "OneSentenceModel" "manys" "[I") (by decide +kernel)) rfl dX4_share_163 ?_
          refine lv_iload hx hb dX4_share_166 (lv_at hl 6 rfl) ?_
          refine lv_iconst (v := 1) hx hb dX4_share_168 (by decide) ?_
          refine lv_iload_n hx hb dX4_share_169 rfl (lv_at hl 2 rfl) ?_
          refine lv_ishl hx hb dX4_share_170 ?_
          refine lv_ior hx hb dX4_share_171 ?_
          obtain ⟨v172, h172, hf⟩ := bd_e hf
          refine z_iald hx hb hK hw 0 (k := 8) (by decide) ((fun w => rfl) _) rfl h172 dX4_share_172 ?_
          refine lv_aload_n hx hb dX4_share_173 rfl (lv_at hl 1 rfl) ?_
          refine z_get (v := .ref (L 8)) hx hb hts hiX4_share_X4 hown hK hw (k := 0) (by decide) ((fun w => rfl) _) rfl 19 (by decide) (hts (.fieldLink RX4 31 "OneSentenceModel" "manys" "[I") (by decide +kernel)) rfl dX4_share_174 ?_
          refine lv_iload hx hb dX4_share_177 (lv_at hl 6 rfl) ?_
          obtain ⟨v179, h179, hf⟩ := bd_e hf
          refine z_iald hx hb hK hw 0 (k := 8) (by decide) ((fun w => rfl) _) rfl h179 dX4_share_179 ?_
          refine lv_isub hx hb dX4_share_180 ?_
          refine lv_imul hx hb dX4_share_181 ?_
          refine lv_iadd hx hb dX4_share_182 ?_
          refine lv_topi (fun v183 e183 => ?_)
          replace hf := lb_e hf e183
          refine lv_istore (lv' := [(5, .int v183), (7, .int v156), (0, .ref (L 0)), (1, .int x1), (3, .int x3), (4, .int x4), (6, .int x6)]) hx hb dX4_share_183 hl (by decide) rfl (fun ls hl => ?_)
          exact wm_share_185 hJ C0 hK hE _ ih _ _ _ _ _ _ _ _ _ hw hS (lv_sub hl [2, 3, 4, 5, 0, 6] rfl) hf
set_option maxHeartbeats 4000000 in
set_option maxRecDepth 100000 in
theorem wm_share_92 {p : Program} {l : Launch} {e : Env} {s : State} {m : MethodId} {args : Array Value} {below : List Frame} {meth : Method} {c : Code} {D : va_G} {L : Nat → Nat} {K : Nat → ClassId} (hJ : gj L 12) (C0 : gC cX4_share 8 (some .int) wsX4_share RX4 p s m args meth c) (hK : va_K D vwCl (tyG K) s) (hE : eM s) {w9 : St} {rs : Int32} (k55 : Int32 → Int32 → Int32 → Int32 → Int32 → St → Option (Int32 × St)) (i55 : ∀ (x1 : Int32) (x2 : Int32) (x3 : Int32) (x4 : Int32) (x5 : Int32) (w : St) (H : Heap) (locs : List Loc) (ls : Array Slot), va_P D vwCl (gl L 12 (cM L K w)) H → va_S (gA L 12) s.heap H locs → lv_has ls 8 [(0, .ref (L 0)), (1, .int x1), (2, .int x2), (3, .int x3), (4, .int x4), (5, .int x5)] → k55 x1 x2 x3 x4 x5 w = some (rs, w9) → W p l e { frames := 5, cells := 0, slots := 0, locals := 117 } s m args below meth c H locs 0 0 (MQ below (qI D L 12 (cM L K) rs w9) args s 0 0 (gA L 12)) (F0 m 55 ls [])) : ∀ (x1 : Int32) (x2 : Int32) (x3 : Int32) (x4 : Int32) (x5 : Int32) (s1 : Int32) (s2 : Int32) (w : St) (H : Heap) (locs : List Loc) (ls : Array Slot), va_P D vwCl (gl L 12 (cM L K w)) H → va_S (gA L 12) s.heap H locs → lv_has ls 8 [(0, .ref (L 0)), (1, .int x1), (2, .int x2), (3, .int x3), (4, .int x4), (5, .int x5)] → fm_share_92 k55 x1 x2 x3 x4 x5 s1 s2 w = some (rs, w9) → W p l e { frames := 5, cells := 0, slots := 0, locals := 117 } s m args below meth c H locs 0 0 (MQ below (qI D L 12 (cM L K) rs w9) args s 0 0 (gA L 12)) (F0 m 92 ls [.int s2, .int s1, .ref (L 8)]) := by
  obtain ⟨hx, hb, hr, hml, hown, hts, hlk⟩ := id C0
  intro x1 x2 x3 x4 x5 s1 s2 w H locs ls hw hS hl hf
  unfold fm_share_92 at hf
  obtain ⟨w92, h92, hf⟩ := bd_e hf
  refine z_iast hx hb hK hJ hw hS 0 (k := 8) (by decide) cM_ne (fun w => rfl) rfl h92 dX4_share_92 (fun H locs hw hS => ?_)
  refine lv_iinc (v := (x5 + 1)) (lv' := [(5, .int (x5 + 1)), (0, .ref (L 0)), (1, .int x1), (2, .int x2), (3, .int x3), (4, .int x4)]) hx hb dX4_share_93 hl (k := 5) rfl rfl (by decide) rfl (fun ls hl => ?_)
  refine lv_goto (tgt := 55) hx hb dX4_share_96 (by decide) ?_
  exact i55 _ _ _ _ _ _ _ _ _ hw hS (lv_sub hl [1, 2, 3, 4, 5, 0] rfl) hf
set_option maxHeartbeats 4000000 in
set_option maxRecDepth 100000 in
theorem wm_share_55 {p : Program} {l : Launch} {e : Env} {s : State} {m : MethodId} {args : Array Value} {below : List Frame} {meth : Method} {c : Code} {D : va_G} {L : Nat → Nat} {K : Nat → ClassId} (hJ : gj L 12) (C0 : gC cX4_share 8 (some .int) wsX4_share RX4 p s m args meth c) (hK : va_K D vwCl (tyG K) s) (hE : eM s) {w9 : St} {rs : Int32} : ∀ (fu : Nat) (x1 : Int32) (x2 : Int32) (x3 : Int32) (x4 : Int32) (x5 : Int32) (w : St) (H : Heap) (locs : List Loc) (ls : Array Slot), va_P D vwCl (gl L 12 (cM L K w)) H → va_S (gA L 12) s.heap H locs → lv_has ls 8 [(0, .ref (L 0)), (1, .int x1), (2, .int x2), (3, .int x3), (4, .int x4), (5, .int x5)] → fm_share_55 fu x1 x2 x3 x4 x5 w = some (rs, w9) → W p l e { frames := 5, cells := 0, slots := 0, locals := 117 } s m args below meth c H locs 0 0 (MQ below (qI D L 12 (cM L K) rs w9) args s 0 0 (gA L 12)) (F0 m 55 ls []) := by
  obtain ⟨hx, hb, hr, hml, hown, hts, hlk⟩ := id C0
  intro fu
  induction fu with
  | zero =>
    intro x1 x2 x3 x4 x5 w H locs ls hw hS hl hf
    rw [fm_share_55] at hf
    exact no_n hf
  | succ fu ih =>
    intro x1 x2 x3 x4 x5 w H locs ls hw hS hl hf
    rw [fm_share_55] at hf
    refine lv_iload hx hb dX4_share_55 (lv_at hl 5 rfl) ?_
    refine lv_iload hx hb dX4_share_57 (lv_at hl 4 rfl) ?_
    refine lv_icmp_gt (tgt := 99) hx hb dX4_share_59 (by decide) (fun c59 => ?_) (fun c59 => ?_)
    · replace hf := if_t hf c59
      refine lv_iconst (v := 0) hx hb dX4_share_99 (by decide) ?_
      refine lv_istore (lv' := [(5, .int 0), (0, .ref (L 0)), (1, .int x1), (2, .int x2), (3, .int x3), (4, .int x4)]) hx hb dX4_share_100 hl (by decide) rfl (fun ls hl => ?_)
      refine lv_iconst (v := 0) hx hb dX4_share_102 (by decide) ?_
      refine lv_istore (lv' := [(6, .int 0), (5, .int 0), (0, .ref (L 0)), (1, .int x1), (2, .int x2), (3, .int x3), (4, .int x4)]) hx hb dX4_share_103 hl (by decide) rfl (fun ls hl => ?_)
      exact wm_share_105 hJ C0 hK hE _ _ _ _ _ _ _ _ _ _ hw hS (lv_sub hl [2, 3, 5, 6, 1, 0] rfl) hf
    · replace hf := if_f hf c59
      refine lv_aload_n hx hb dX4_share_62 rfl (lv_at hl 0 rfl) ?_
      refine z_get (v := .ref (L 8)) hx hb hts hiX4_share_X4 hown hK hw (k := 0) (by decide) ((fun w => rfl) _) rfl 19 (by decide) (hts (.fieldLink RX4 31 "OneSentenceModel" "manys" "[I") (by decide +kernel)) rfl dX4_share_63 ?_
      refine lv_iload hx hb dX4_share_66 (lv_at hl 5 rfl) ?_
      refine lv_iload hx hb dX4_share_68 (lv_at hl 5 rfl) ?_
      refine lv_iload hx hb dX4_share_70 (lv_at hl 4 rfl) ?_
      refine lv_iconst (v := (-1)) hx hb dX4_share_72 (by decide) ?_
      refine lv_ixor hx hb dX4_share_73 ?_
      refine lv_iand hx hb dX4_share_74 ?_
      refine lv_if_ne (tgt := 91) hx hb dX4_share_75 (by decide) (fun c75 => ?_) (fun c75 => ?_)
      · replace hf := if_f hf c75
        refine lv_iconst (v := 0) hx hb dX4_share_91 (by decide) ?_
        exact wm_share_92 hJ C0 hK hE _ ih _ _ _ _ _ _ _ _ _ _ _ hw hS (lv_sub hl [0, 1, 2, 3, 4, 5] rfl) hf
      · replace hf := if_t hf c75
        refine lv_aload_n hx hb dX4_share_78 rfl (lv_at hl 0 rfl) ?_
        refine lv_iload hx hb dX4_share_79 (lv_at hl 5 rfl) ?_
        refine lv_iload_n hx hb dX4_share_81 rfl (lv_at hl 2 rfl) ?_
        obtain ⟨q82, h82, hf⟩ := bd_e hf
        refine z_calli (va_runV (As := [.int x5, .int x2]) (rest := [.int x5, .ref (L 8)]) ⟨hx, hb, hml, hown, hts⟩ (km_canBy l (D := D) (K := K) hJ x5 x2 w  h82) (cwV 2 hts gX4_share_X4_canBy rfl rfl rfl (by decide +kernel) ⟨Nat.le_of_ble_eq_true rfl, Nat.le_of_ble_eq_true rfl⟩) (z_preV eM_ok hK hE hw hS (by decide) ((fun w => rfl) _) (T := TX4) (M := 24) rfl) rfl rfl hl.1 rfl (lv_room (Nat.le_of_ble_eq_true rfl)) dX4_share_82 ⟨Nat.le_of_ble_eq_true rfl, Nat.le_of_ble_eq_true rfl⟩) hS (fun H locs hw hS => ?_)
        obtain ⟨v85, h85, hf⟩ := bd_e hf
        refine z_calls (va_runS (As := [.int (q82.1)]) (rest := [.int x5, .ref (L 8)]) ⟨hx, hb, hml, hown, hts⟩ (km_ones l (q82.1) h85) (va_cwS 1 hts gX4_share_X4_ones rfl rfl rfl (by decide +kernel) ⟨Nat.le_of_ble_eq_true rfl, Nat.le_of_ble_eq_true rfl⟩) z_preT rfl rfl hl.1 rfl (lv_room (Nat.le_of_ble_eq_true rfl)) dX4_share_85 ⟨Nat.le_of_ble_eq_true rfl, Nat.le_of_ble_eq_true rfl⟩) ?_
        refine lv_goto (tgt := 92) hx hb dX4_share_88 (by decide) ?_
        exact wm_share_92 hJ C0 hK hE _ ih _ _ _ _ _ _ _ _ _ _ _ hw hS (lv_sub hl [0, 1, 2, 3, 4, 5] rfl) hf
set_option maxHeartbeats 4000000 in
set_option maxRecDepth 100000 in
theorem wm_share_0 {p : Program} {l : Launch} {e : Env} {s : State} {m : MethodId} {args : Array Value} {below : List Frame} {meth : Method} {c : Code} {D : va_G} {L : Nat → Nat} {K : Nat → ClassId} (hJ : gj L 12) (C0 : gC cX4_share 8 (some .int) wsX4_share RX4 p s m args meth c) (hK : va_K D vwCl (tyG K) s) (hE : eM s) {w9 : St} {rs : Int32} : ∀ (x1 : Int32) (x2 : Int32) (x3 : Int32) (w : St) (H : Heap) (locs : List Loc) (ls : Array Slot), va_P D vwCl (gl L 12 (cM L K w)) H → va_S (gA L 12) s.heap H locs → lv_has ls 8 [(0, .ref (L 0)), (1, .int x1), (2, .int x2), (3, .int x3)] → fm_share x1 x2 x3 w = some (rs, w9) → W p l e { frames := 5, cells := 0, slots := 0, locals := 117 } s m args below meth c H locs 0 0 (MQ below (qI D L 12 (cM L K) rs w9) args s 0 0 (gA L 12)) (F0 m 0 ls []) := by
  obtain ⟨hx, hb, hr, hml, hown, hts, hlk⟩ := id C0
  intro x1 x2 x3 w H locs ls hw hS hl hf
  unfold fm_share at hf
  refine lv_aload_n hx hb dX4_share_0 rfl (lv_at hl 0 rfl) ?_
  refine lv_iload_n hx hb dX4_share_1 rfl (lv_at hl 1 rfl) ?_
  obtain ⟨q2, h2, hf⟩ := bd_e hf
  refine z_calli (va_runV (As := [.int x1]) (rest := []) ⟨hx, hb, hml, hown, hts⟩ (km_isPerson l (D := D) (K := K) hJ x1 w  h2) (cwV 1 hts gX4_share_X4_isPerson rfl rfl rfl (by decide +kernel) ⟨Nat.le_of_ble_eq_true rfl, Nat.le_of_ble_eq_true rfl⟩) (z_preV eM_ok hK hE hw hS (by decide) ((fun w => rfl) _) (T := TX4) (M := 24) rfl) rfl rfl hl.1 rfl (lv_room (Nat.le_of_ble_eq_true rfl)) dX4_share_2 ⟨Nat.le_of_ble_eq_true rfl, Nat.le_of_ble_eq_true rfl⟩) hS (fun H locs hw hS => ?_)
  refine lv_if_ne (tgt := 10) hx hb dX4_share_5 (by decide) (fun c5 => ?_) (fun c5 => ?_)
  · replace hf := if_f hf c5
    refine lv_iload_n hx hb dX4_share_10 rfl (lv_at hl 2 rfl) ?_
    refine lv_i2l (v := x2.toInt64) hx hb dX4_share_11 rfl ?_
    refine lv_lconst (v := 1) hx hb dX4_share_12 (by decide) ?_
    refine lv_ldc2 (v := 3) hx hb hown (hts (.constantLong RX4 117 3) (by decide +kernel)) dX4_share_13 ?_
    obtain ⟨v16, h16, hf⟩ := bd_e hf
    refine z_calls (va_runS (As := [.long (x2.toInt64), .long 1, .long 3]) (rest := []) ⟨hx, hb, hml, hown, hts⟩ (km_in l (x2.toInt64) 1 3 h16) (va_cwS 3 hts gX4_share_X4_in rfl rfl rfl (by decide +kernel) ⟨Nat.le_of_ble_eq_true rfl, Nat.le_of_ble_eq_true rfl⟩) z_preT rfl rfl hl.1 rfl (lv_room (Nat.le_of_ble_eq_true rfl)) dX4_share_16 ⟨Nat.le_of_ble_eq_true rfl, Nat.le_of_ble_eq_true rfl⟩) ?_
    refine lv_if_ne (tgt := 25) hx hb dX4_share_19 (by decide) (fun c19 => ?_) (fun c19 => ?_)
    · replace hf := if_f hf c19
      refine lv_aload_n hx hb dX4_share_25 rfl (lv_at hl 0 rfl) ?_
      refine z_get (v := .ref (L 3)) hx hb hts hiX4_share_X4 hown hK hw (k := 0) (by decide) ((fun w => rfl) _) rfl 4 (by decide) (hts (.fieldLink RX4 16 "OneSentenceModel" "now" "[I") (by decide +kernel)) rfl dX4_share_26 ?_
      refine lv_iconst (v := 0) hx hb dX4_share_29 (by decide) ?_
      obtain ⟨v30, h30, hf⟩ := bd_e hf
      refine z_iald hx hb hK hw 0 (k := 3) (by decide) ((fun w => rfl) _) rfl h30 dX4_share_30 ?_
      refine lv_istore (lv' := [(4, .int v30), (0, .ref (L 0)), (1, .int x1), (2, .int x2), (3, .int x3)]) hx hb dX4_share_31 hl (by decide) rfl (fun ls hl => ?_)
      refine lv_iload hx hb dX4_share_33 (lv_at hl 0 rfl) ?_
      refine lv_iload_n hx hb dX4_share_35 rfl (lv_at hl 2 rfl) ?_
      obtain ⟨v36, h36, hf⟩ := bd_e hf
      refine z_calls (va_runS (As := [.int v30, .int x1]) (rest := []) ⟨hx, hb, hml, hown, hts⟩ (km_has l v30 x1 h36) (va_cwS 2 hts gX4_share_X4_has rfl rfl rfl (by decide +kernel) ⟨Nat.le_of_ble_eq_true rfl, Nat.le_of_ble_eq_true rfl⟩) z_preT rfl rfl hl.1 rfl (lv_room (Nat.le_of_ble_eq_true rfl)) dX4_share_36 ⟨Nat.le_of_ble_eq_true rfl, Nat.le_of_ble_eq_true rfl⟩) ?_
      refine lv_if_ne (tgt := 52) hx hb dX4_share_39 (by decide) (fun c39 => ?_) (fun c39 => ?_)
      · replace hf := if_f hf c39
        refine lv_iconst (v := 0) hx hb dX4_share_52 (by decide) ?_
        refine lv_istore (lv' := [(5, .int 0), (4, .int v30), (0, .ref (L 0)), (1, .int x1), (2, .int x2), (3, .int x3)]) hx hb dX4_share_53 hl (by decide) rfl (fun ls hl => ?_)
        exact wm_share_55 hJ C0 hK hE _ _ _ _ _ _ _ _ _ _ hw hS (lv_sub hl [2, 3, 4, 5, 1, 0] rfl) hf
      · replace hf := if_t hf c39
        refine lv_iload_n hx hb dX4_share_42 rfl (lv_at hl 4 rfl) ?_
        refine lv_if_eq (tgt := 50) hx hb dX4_share_43 (by decide) (fun c43 => ?_) (fun c43 => ?_)
        · replace hf := if_t hf c43
          refine lv_iconst (v := 1) hx hb dX4_share_50 (by decide) ?_
          exact z_iret hx hb hr hlk hw hS hf dX4_share_51
        · replace hf := if_f hf c43
          refine lv_iconst (v := 0) hx hb dX4_share_46 (by decide) ?_
          refine lv_goto (tgt := 51) hx hb dX4_share_47 (by decide) ?_
          exact z_iret hx hb hr hlk hw hS hf dX4_share_51
    · replace hf := if_t hf c19
      refine lv_bipush (v := (-2)) hx hb dX4_share_22 (by decide) ?_
      exact z_iret hx hb hr hlk hw hS hf dX4_share_24
  · replace hf := if_t hf c5
    refine lv_iconst (v := (-1)) hx hb dX4_share_8 (by decide) ?_
    exact z_iret hx hb hr hlk hw hS hf dX4_share_9
set_option maxHeartbeats 4000000 in
set_option maxRecDepth 100000 in
theorem km_share (l : Launch) {D : va_G} {L : Nat → Nat} {K : Nat → ClassId} (hJ : gj L 12) (x1 : Int32) (x2 : Int32) (x3 : Int32) (w : St) {w9 : St} {rs : Int32} (hf : fm_share x1 x2 x3 w = some (rs, w9)) : Met l yX4_share wsX4_share ({ frames := 5, cells := 0, slots := 0, locals := 117 }) (va_Pc [.ref (L 0), .int x1, .int x2, .int x3] (mP D L K w)) (qI D L 12 (cM L K) rs w9) 0 0 (gA L 12) := by
  refine g_met (cc := cX4_share) (nL := 8) (ret := (some .int)) (by decide) rfl (Nat.le_of_ble_eq_true rfl) (fun p e s m below meth c ls C0 hP hl => ?_)
  exact wm_share_0 hJ C0 hP.2.1 hP.2.2 _ _ _ w _ _ ls hP.1 va_S.rf (lv_sub hl [0, 1, 2, 3] rfl) hf
theorem dX4_apart_0 : decode cX4_apart 0 = .ok (.iload_n 0, 1) := by decide +kernel
theorem dX4_apart_1 : decode cX4_apart 1 = .ok (.iload_n 1, 1) := by decide +kernel
theorem dX4_apart_2 : decode cX4_apart 2 = .ok (.if_icmp .ge 9, 3) := by decide +kernel
theorem dX4_apart_5 : decode cX4_apart 5 = .ok (.iload_n 1, 1) := by decide +kernel
theorem dX4_apart_6 : decode cX4_apart 6 = .ok (.iload_n 0, 1) := by decide +kernel
theorem dX4_apart_7 : decode cX4_apart 7 = .ok (.isub, 1) := by decide +kernel
theorem dX4_apart_8 : decode cX4_apart 8 = .ok (.goto 6, 3) := by decide +kernel
theorem dX4_apart_11 : decode cX4_apart 11 = .ok (.iload_n 0, 1) := by decide +kernel
theorem dX4_apart_12 : decode cX4_apart 12 = .ok (.iload_n 1, 1) := by decide +kernel
theorem dX4_apart_13 : decode cX4_apart 13 = .ok (.isub, 1) := by decide +kernel
theorem dX4_apart_14 : decode cX4_apart 14 = .ok (.ireturn, 1) := by decide +kernel
set_option maxHeartbeats 4000000 in
set_option maxRecDepth 100000 in
theorem wm_apart_0 {p : Program} {l : Launch} {e : Env} {s : State} {m : MethodId} {args : Array Value} {below : List Frame} {meth : Method} {c : Code} (C0 : gC cX4_apart 2 (some .int) wsX4_apart RX4 p s m args meth c) {rs : Int32} : ∀ (x0 : Int32) (x1 : Int32) (ls : Array Slot), lv_has ls 2 [(0, .int x0), (1, .int x1)] → fm_apart x0 x1 = some rs → W p l e { frames := 0, cells := 0, slots := 0, locals := 0 } s m args below meth c s.heap [] 0 0 (MQ below (qS rs) args s 0 0 (fun _ => False)) (F0 m 0 ls []) := by
  obtain ⟨hx, hb, hr, hml, hown, hts, hlk⟩ := id C0
  intro x0 x1 ls hl hf
  unfold fm_apart at hf
  refine lv_iload_n hx hb dX4_apart_0 rfl (lv_at hl 0 rfl) ?_
  refine lv_iload_n hx hb dX4_apart_1 rfl (lv_at hl 1 rfl) ?_
  refine lv_icmp_ge (tgt := 11) hx hb dX4_apart_2 (by decide) (fun c2 => ?_) (fun c2 => ?_)
  · replace hf := if_t hf c2
    refine lv_iload_n hx hb dX4_apart_11 rfl (lv_at hl 0 rfl) ?_
    refine lv_iload_n hx hb dX4_apart_12 rfl (lv_at hl 1 rfl) ?_
    refine lv_isub hx hb dX4_apart_13 ?_
    exact z_sret hx hb hr hlk hf dX4_apart_14
  · replace hf := if_f hf c2
    refine lv_iload_n hx hb dX4_apart_5 rfl (lv_at hl 1 rfl) ?_
    refine lv_iload_n hx hb dX4_apart_6 rfl (lv_at hl 0 rfl) ?_
    refine lv_isub hx hb dX4_apart_7 ?_
    refine lv_goto (tgt := 14) hx hb dX4_apart_8 (by decide) ?_
    exact z_sret hx hb hr hlk hf dX4_apart_14
set_option maxHeartbeats 4000000 in
set_option maxRecDepth 100000 in
theorem km_apart (l : Launch) (x0 : Int32) (x1 : Int32) {rs : Int32} (hf : fm_apart x0 x1 = some rs) : Met l yX4_apart wsX4_apart ({ frames := 0, cells := 0, slots := 0, locals := 0 }) (va_Pc [.int x0, .int x1] (fun _ => True)) (qS rs) 0 0 (fun _ => False) := by
  refine g_met (cc := cX4_apart) (nL := 2) (ret := (some .int)) (by decide) rfl (Nat.le_of_ble_eq_true rfl) (fun p e s m below meth c ls C0 _ hl => ?_)
  exact wm_apart_0 C0 _ _ ls (lv_sub hl [0, 1] rfl) hf
set_option maxRecDepth 20000 in
theorem ggX4_isRest_X4_apart : GoodIn wsX4_isRest wsX4_apart := goodIn_r _ [5] (by decide +kernel) (by decide +kernel)
set_option maxRecDepth 20000 in
theorem gX4_isRest_X4_apart : GoodIn wsX4_isRest (va_wsS RX4 173 yX4_apart wsX4_apart) := goodIn_app (goodIn_of _ (by decide +kernel)) ggX4_isRest_X4_apart
theorem dX4_isRest_0 : decode cX4_isRest 0 = .ok (.iconst 1, 1) := by decide +kernel
theorem dX4_isRest_1 : decode cX4_isRest 1 = .ok (.istore 4, 2) := by decide +kernel
theorem dX4_isRest_3 : decode cX4_isRest 3 = .ok (.iconst 0, 1) := by decide +kernel
theorem dX4_isRest_4 : decode cX4_isRest 4 = .ok (.istore 5, 2) := by decide +kernel
theorem dX4_isRest_6 : decode cX4_isRest 6 = .ok (.iload 5, 2) := by decide +kernel
theorem dX4_isRest_8 : decode cX4_isRest 8 = .ok (.iconst 4, 1) := by decide +kernel
theorem dX4_isRest_9 : decode cX4_isRest 9 = .ok (.if_icmp .ge 107, 3) := by decide +kernel
theorem dX4_isRest_12 : decode cX4_isRest 12 = .ok (.iload 4, 2) := by decide +kernel
theorem dX4_isRest_14 : decode cX4_isRest 14 = .ok (.ifCond .eq 44, 3) := by decide +kernel
theorem dX4_isRest_17 : decode cX4_isRest 17 = .ok (.aload_n 0, 1) := by decide +kernel
theorem dX4_isRest_18 : decode cX4_isRest 18 = .ok (.getfield 34, 3) := by decide +kernel
theorem dX4_isRest_21 : decode cX4_isRest 21 = .ok (.iconst 4, 1) := by decide +kernel
theorem dX4_isRest_22 : decode cX4_isRest 22 = .ok (.iload 5, 2) := by decide +kernel
theorem dX4_isRest_24 : decode cX4_isRest 24 = .ok (.imul, 1) := by decide +kernel
theorem dX4_isRest_25 : decode cX4_isRest 25 = .ok (.iload_n 1, 1) := by decide +kernel
theorem dX4_isRest_26 : decode cX4_isRest 26 = .ok (.iconst 4, 1) := by decide +kernel
theorem dX4_isRest_27 : decode cX4_isRest 27 = .ok (.irem, 1) := by decide +kernel
theorem dX4_isRest_28 : decode cX4_isRest 28 = .ok (.iadd, 1) := by decide +kernel
theorem dX4_isRest_29 : decode cX4_isRest 29 = .ok (.iaload, 1) := by decide +kernel
theorem dX4_isRest_30 : decode cX4_isRest 30 = .ok (.iload_n 2, 1) := by decide +kernel
theorem dX4_isRest_31 : decode cX4_isRest 31 = .ok (.invokestatic 173, 3) := by decide +kernel
theorem dX4_isRest_34 : decode cX4_isRest 34 = .ok (.iload 5, 2) := by decide +kernel
theorem dX4_isRest_36 : decode cX4_isRest 36 = .ok (.iadd, 1) := by decide +kernel
theorem dX4_isRest_37 : decode cX4_isRest 37 = .ok (.aload_n 0, 1) := by decide +kernel
theorem dX4_isRest_38 : decode cX4_isRest 38 = .ok (.getfield 34, 3) := by decide +kernel
theorem dX4_isRest_41 : decode cX4_isRest 41 = .ok (.iload_n 1, 1) := by decide +kernel
theorem dX4_isRest_42 : decode cX4_isRest 42 = .ok (.iaload, 1) := by decide +kernel
theorem dX4_isRest_43 : decode cX4_isRest 43 = .ok (.iload_n 2, 1) := by decide +kernel
theorem dX4_isRest_44 : decode cX4_isRest 44 = .ok (.invokestatic 173, 3) := by decide +kernel
theorem dX4_isRest_47 : decode cX4_isRest 47 = .ok (.iload_n 1, 1) := by decide +kernel
theorem dX4_isRest_48 : decode cX4_isRest 48 = .ok (.iconst 4, 1) := by decide +kernel
theorem dX4_isRest_49 : decode cX4_isRest 49 = .ok (.idiv, 1) := by decide +kernel
theorem dX4_isRest_50 : decode cX4_isRest 50 = .ok (.iadd, 1) := by decide +kernel
theorem dX4_isRest_51 : decode cX4_isRest 51 = .ok (.if_icmp .lt 7, 3) := by decide +kernel
theorem dX4_isRest_54 : decode cX4_isRest 54 = .ok (.iconst 1, 1) := by decide +kernel
theorem dX4_isRest_55 : decode cX4_isRest 55 = .ok (.goto 4, 3) := by decide +kernel
theorem dX4_isRest_58 : decode cX4_isRest 58 = .ok (.iconst 0, 1) := by decide +kernel
theorem dX4_isRest_59 : decode cX4_isRest 59 = .ok (.istore 4, 2) := by decide +kernel
theorem dX4_isRest_61 : decode cX4_isRest 61 = .ok (.iload 4, 2) := by decide +kernel
theorem dX4_isRest_63 : decode cX4_isRest 63 = .ok (.ifCond .eq 44, 3) := by decide +kernel
theorem dX4_isRest_66 : decode cX4_isRest 66 = .ok (.aload_n 0, 1) := by decide +kernel
theorem dX4_isRest_67 : decode cX4_isRest 67 = .ok (.getfield 34, 3) := by decide +kernel
theorem dX4_isRest_70 : decode cX4_isRest 70 = .ok (.iload_n 1, 1) := by decide +kernel
theorem dX4_isRest_71 : decode cX4_isRest 71 = .ok (.iload_n 1, 1) := by decide +kernel
theorem dX4_isRest_72 : decode cX4_isRest 72 = .ok (.iconst 4, 1) := by decide +kernel
theorem dX4_isRest_73 : decode cX4_isRest 73 = .ok (.irem, 1) := by decide +kernel
theorem dX4_isRest_74 : decode cX4_isRest 74 = .ok (.isub, 1) := by decide +kernel
theorem dX4_isRest_75 : decode cX4_isRest 75 = .ok (.iload 5, 2) := by decide +kernel
theorem dX4_isRest_77 : decode cX4_isRest 77 = .ok (.iadd, 1) := by decide +kernel
theorem dX4_isRest_78 : decode cX4_isRest 78 = .ok (.iaload, 1) := by decide +kernel
theorem dX4_isRest_79 : decode cX4_isRest 79 = .ok (.iload_n 3, 1) := by decide +kernel
theorem dX4_isRest_80 : decode cX4_isRest 80 = .ok (.invokestatic 173, 3) := by decide +kernel
theorem dX4_isRest_83 : decode cX4_isRest 83 = .ok (.iload 5, 2) := by decide +kernel
theorem dX4_isRest_85 : decode cX4_isRest 85 = .ok (.iadd, 1) := by decide +kernel
theorem dX4_isRest_86 : decode cX4_isRest 86 = .ok (.aload_n 0, 1) := by decide +kernel
theorem dX4_isRest_87 : decode cX4_isRest 87 = .ok (.getfield 34, 3) := by decide +kernel
theorem dX4_isRest_90 : decode cX4_isRest 90 = .ok (.iload_n 1, 1) := by decide +kernel
theorem dX4_isRest_91 : decode cX4_isRest 91 = .ok (.iaload, 1) := by decide +kernel
theorem dX4_isRest_92 : decode cX4_isRest 92 = .ok (.iload_n 3, 1) := by decide +kernel
theorem dX4_isRest_93 : decode cX4_isRest 93 = .ok (.invokestatic 173, 3) := by decide +kernel
theorem dX4_isRest_96 : decode cX4_isRest 96 = .ok (.iload_n 1, 1) := by decide +kernel
theorem dX4_isRest_97 : decode cX4_isRest 97 = .ok (.iconst 4, 1) := by decide +kernel
theorem dX4_isRest_98 : decode cX4_isRest 98 = .ok (.irem, 1) := by decide +kernel
theorem dX4_isRest_99 : decode cX4_isRest 99 = .ok (.iadd, 1) := by decide +kernel
theorem dX4_isRest_100 : decode cX4_isRest 100 = .ok (.if_icmp .lt 7, 3) := by decide +kernel
theorem dX4_isRest_103 : decode cX4_isRest 103 = .ok (.iconst 1, 1) := by decide +kernel
theorem dX4_isRest_104 : decode cX4_isRest 104 = .ok (.goto 4, 3) := by decide +kernel
theorem dX4_isRest_107 : decode cX4_isRest 107 = .ok (.iconst 0, 1) := by decide +kernel
theorem dX4_isRest_108 : decode cX4_isRest 108 = .ok (.istore 4, 2) := by decide +kernel
theorem dX4_isRest_110 : decode cX4_isRest 110 = .ok (.iinc 5 1, 3) := by decide +kernel
theorem dX4_isRest_113 : decode cX4_isRest 113 = .ok (.goto (-107), 3) := by decide +kernel
theorem dX4_isRest_116 : decode cX4_isRest 116 = .ok (.iload 4, 2) := by decide +kernel
theorem dX4_isRest_118 : decode cX4_isRest 118 = .ok (.ireturn, 1) := by decide +kernel
set_option maxRecDepth 20000 in
theorem hiX4_isRest_X4 : ∀ w ∈ u_ws RX4 TX4 24, w ∈ wsX4_isRest := by decide +kernel
set_option maxHeartbeats 4000000 in
set_option maxRecDepth 100000 in
theorem wm_isRest_108 {p : Program} {l : Launch} {e : Env} {s : State} {m : MethodId} {args : Array Value} {below : List Frame} {meth : Method} {c : Code} {D : va_G} {L : Nat → Nat} {K : Nat → ClassId} (hJ : gj L 12) (C0 : gC cX4_isRest 6 (some .boolean) wsX4_isRest RX4 p s m args meth c) (hK : va_K D vwCl (tyG K) s) (hE : eM s) {w9 : St} {rs : Int32} (k6 : Int32 → Int32 → Int32 → Int32 → Int32 → St → Option (Int32 × St)) (i6 : ∀ (x1 : Int32) (x2 : Int32) (x3 : Int32) (x4 : Int32) (x5 : Int32) (w : St) (H : Heap) (locs : List Loc) (ls : Array Slot), va_P D vwCl (gl L 12 (cM L K w)) H → va_S (gA L 12) s.heap H locs → lv_has ls 6 [(0, .ref (L 0)), (1, .int x1), (2, .int x2), (3, .int x3), (4, .int x4), (5, .int x5)] → k6 x1 x2 x3 x4 x5 w = some (rs, w9) → W p l e { frames := 1, cells := 0, slots := 0, locals := 21 } s m args below meth c H locs 0 0 (MQ below (qI D L 12 (cM L K) rs w9) args s 0 0 (gA L 12)) (F0 m 6 ls [])) : ∀ (x1 : Int32) (x2 : Int32) (x3 : Int32) (x5 : Int32) (s0 : Int32) (w : St) (H : Heap) (locs : List Loc) (ls : Array Slot), va_P D vwCl (gl L 12 (cM L K w)) H → va_S (gA L 12) s.heap H locs → lv_has ls 6 [(0, .ref (L 0)), (1, .int x1), (2, .int x2), (3, .int x3), (5, .int x5)] → fm_isRest_108 k6 x1 x2 x3 x5 s0 w = some (rs, w9) → W p l e { frames := 1, cells := 0, slots := 0, locals := 21 } s m args below meth c H locs 0 0 (MQ below (qI D L 12 (cM L K) rs w9) args s 0 0 (gA L 12)) (F0 m 108 ls [.int s0]) := by
  obtain ⟨hx, hb, hr, hml, hown, hts, hlk⟩ := id C0
  intro x1 x2 x3 x5 s0 w H locs ls hw hS hl hf
  unfold fm_isRest_108 at hf
  refine lv_istore (lv' := [(4, .int s0), (0, .ref (L 0)), (1, .int x1), (2, .int x2), (3, .int x3), (5, .int x5)]) hx hb dX4_isRest_108 hl (by decide) rfl (fun ls hl => ?_)
  refine lv_iinc (v := (x5 + 1)) (lv' := [(5, .int (x5 + 1)), (4, .int s0), (0, .ref (L 0)), (1, .int x1), (2, .int x2), (3, .int x3)]) hx hb dX4_isRest_110 hl (k := 5) rfl rfl (by decide) rfl (fun ls hl => ?_)
  refine lv_goto (tgt := 6) hx hb dX4_isRest_113 (by decide) ?_
  exact i6 _ _ _ _ _ _ _ _ _ hw hS (lv_sub hl [2, 3, 4, 5, 1, 0] rfl) hf
set_option maxHeartbeats 4000000 in
set_option maxRecDepth 100000 in
theorem wm_isRest_107 {p : Program} {l : Launch} {e : Env} {s : State} {m : MethodId} {args : Array Value} {below : List Frame} {meth : Method} {c : Code} {D : va_G} {L : Nat → Nat} {K : Nat → ClassId} (hJ : gj L 12) (C0 : gC cX4_isRest 6 (some .boolean) wsX4_isRest RX4 p s m args meth c) (hK : va_K D vwCl (tyG K) s) (hE : eM s) {w9 : St} {rs : Int32} (k6 : Int32 → Int32 → Int32 → Int32 → Int32 → St → Option (Int32 × St)) (i6 : ∀ (x1 : Int32) (x2 : Int32) (x3 : Int32) (x4 : Int32) (x5 : Int32) (w : St) (H : Heap) (locs : List Loc) (ls : Array Slot), va_P D vwCl (gl L 12 (cM L K w)) H → va_S (gA L 12) s.heap H locs → lv_has ls 6 [(0, .ref (L 0)), (1, .int x1), (2, .int x2), (3, .int x3), (4, .int x4), (5, .int x5)] → k6 x1 x2 x3 x4 x5 w = some (rs, w9) → W p l e { frames := 1, cells := 0, slots := 0, locals := 21 } s m args below meth c H locs 0 0 (MQ below (qI D L 12 (cM L K) rs w9) args s 0 0 (gA L 12)) (F0 m 6 ls [])) : ∀ (x1 : Int32) (x2 : Int32) (x3 : Int32) (x5 : Int32) (w : St) (H : Heap) (locs : List Loc) (ls : Array Slot), va_P D vwCl (gl L 12 (cM L K w)) H → va_S (gA L 12) s.heap H locs → lv_has ls 6 [(0, .ref (L 0)), (1, .int x1), (2, .int x2), (3, .int x3), (5, .int x5)] → fm_isRest_107 k6 x1 x2 x3 x5 w = some (rs, w9) → W p l e { frames := 1, cells := 0, slots := 0, locals := 21 } s m args below meth c H locs 0 0 (MQ below (qI D L 12 (cM L K) rs w9) args s 0 0 (gA L 12)) (F0 m 107 ls []) := by
  obtain ⟨hx, hb, hr, hml, hown, hts, hlk⟩ := id C0
  intro x1 x2 x3 x5 w H locs ls hw hS hl hf
  unfold fm_isRest_107 at hf
  refine lv_iconst (v := 0) hx hb dX4_isRest_107 (by decide) ?_
  exact wm_isRest_108 hJ C0 hK hE _ i6 _ _ _ _ _ _ _ _ _ hw hS (lv_sub hl [0, 1, 2, 3, 4] rfl) hf
set_option maxHeartbeats 4000000 in
set_option maxRecDepth 100000 in
theorem wm_isRest_59 {p : Program} {l : Launch} {e : Env} {s : State} {m : MethodId} {args : Array Value} {below : List Frame} {meth : Method} {c : Code} {D : va_G} {L : Nat → Nat} {K : Nat → ClassId} (hJ : gj L 12) (C0 : gC cX4_isRest 6 (some .boolean) wsX4_isRest RX4 p s m args meth c) (hK : va_K D vwCl (tyG K) s) (hE : eM s) {w9 : St} {rs : Int32} (k6 : Int32 → Int32 → Int32 → Int32 → Int32 → St → Option (Int32 × St)) (i6 : ∀ (x1 : Int32) (x2 : Int32) (x3 : Int32) (x4 : Int32) (x5 : Int32) (w : St) (H : Heap) (locs : List Loc) (ls : Array Slot), va_P D vwCl (gl L 12 (cM L K w)) H → va_S (gA L 12) s.heap H locs → lv_has ls 6 [(0, .ref (L 0)), (1, .int x1), (2, .int x2), (3, .int x3), (4, .int x4), (5, .int x5)] → k6 x1 x2 x3 x4 x5 w = some (rs, w9) → W p l e { frames := 1, cells := 0, slots := 0, locals := 21 } s m args below meth c H locs 0 0 (MQ below (qI D L 12 (cM L K) rs w9) args s 0 0 (gA L 12)) (F0 m 6 ls [])) : ∀ (x1 : Int32) (x2 : Int32) (x3 : Int32) (x5 : Int32) (s0 : Int32) (w : St) (H : Heap) (locs : List Loc) (ls : Array Slot), va_P D vwCl (gl L 12 (cM L K w)) H → va_S (gA L 12) s.heap H locs → lv_has ls 6 [(0, .ref (L 0)), (1, .int x1), (2, .int x2), (3, .int x3), (5, .int x5)] → fm_isRest_59 k6 x1 x2 x3 x5 s0 w = some (rs, w9) → W p l e { frames := 1, cells := 0, slots := 0, locals := 21 } s m args below meth c H locs 0 0 (MQ below (qI D L 12 (cM L K) rs w9) args s 0 0 (gA L 12)) (F0 m 59 ls [.int s0]) := by
  obtain ⟨hx, hb, hr, hml, hown, hts, hlk⟩ := id C0
  intro x1 x2 x3 x5 s0 w H locs ls hw hS hl hf
  unfold fm_isRest_59 at hf
  refine lv_istore (lv' := [(4, .int s0), (0, .ref (L 0)), (1, .int x1), (2, .int x2), (3, .int x3), (5, .int x5)]) hx hb dX4_isRest_59 hl (by decide) rfl (fun ls hl => ?_)
  refine lv_iload hx hb dX4_isRest_61 (lv_at hl 0 rfl) ?_
  refine lv_if_eq (tgt := 107) hx hb dX4_isRest_63 (by decide) (fun c63 => ?_) (fun c63 => ?_)
  · replace hf := if_t hf c63
    exact wm_isRest_107 hJ C0 hK hE _ i6 _ _ _ _ _ _ _ _ hw hS (lv_sub hl [1, 2, 3, 4, 5] rfl) hf
  · replace hf := if_f hf c63
    refine lv_aload_n hx hb dX4_isRest_66 rfl (lv_at hl 1 rfl) ?_
    refine z_get (v := .ref (L 9)) hx hb hts hiX4_isRest_X4 hown hK hw (k := 0) (by decide) ((fun w => rfl) _) rfl 20 (by decide) (hts (.fieldLink RX4 34 "OneSentenceModel" "senses" "[I") (by decide +kernel)) rfl dX4_isRest_67 ?_
    refine lv_iload_n hx hb dX4_isRest_70 rfl (lv_at hl 2 rfl) ?_
    refine lv_iload_n hx hb dX4_isRest_71 rfl (lv_at hl 2 rfl) ?_
    refine lv_iconst (v := 4) hx hb dX4_isRest_72 (by decide) ?_
    refine lv_irem hx hb dX4_isRest_73 (by decide) ?_
    refine lv_isub hx hb dX4_isRest_74 ?_
    refine lv_iload hx hb dX4_isRest_75 (lv_at hl 5 rfl) ?_
    refine lv_iadd hx hb dX4_isRest_77 ?_
    obtain ⟨v78, h78, hf⟩ := bd_e hf
    refine z_iald hx hb hK hw 0 (k := 9) (by decide) ((fun w => rfl) _) rfl h78 dX4_isRest_78 ?_
    refine lv_iload_n hx hb dX4_isRest_79 rfl (lv_at hl 4 rfl) ?_
    obtain ⟨v80, h80, hf⟩ := bd_e hf
    refine z_calls (va_runS (As := [.int v78, .int x3]) (rest := []) ⟨hx, hb, hml, hown, hts⟩ (km_apart l v78 x3 h80) (va_cwS 2 hts gX4_isRest_X4_apart rfl rfl rfl (by decide +kernel) ⟨Nat.le_of_ble_eq_true rfl, Nat.le_of_ble_eq_true rfl⟩) z_preT rfl rfl hl.1 rfl (lv_room (Nat.le_of_ble_eq_true rfl)) dX4_isRest_80 ⟨Nat.le_of_ble_eq_true rfl, Nat.le_of_ble_eq_true rfl⟩) ?_
    refine lv_iload hx hb dX4_isRest_83 (lv_at hl 5 rfl) ?_
    refine lv_iadd hx hb dX4_isRest_85 ?_
    refine lv_aload_n hx hb dX4_isRest_86 rfl (lv_at hl 1 rfl) ?_
    refine z_get (v := .ref (L 9)) hx hb hts hiX4_isRest_X4 hown hK hw (k := 0) (by decide) ((fun w => rfl) _) rfl 20 (by decide) (hts (.fieldLink RX4 34 "OneSentenceModel" "senses" "[I") (by decide +kernel)) rfl dX4_isRest_87 ?_
    refine lv_iload_n hx hb dX4_isRest_90 rfl (lv_at hl 2 rfl) ?_
    obtain ⟨v91, h91, hf⟩ := bd_e hf
    refine z_iald hx hb hK hw 0 (k := 9) (by decide) ((fun w => rfl) _) rfl h91 dX4_isRest_91 ?_
    refine lv_iload_n hx hb dX4_isRest_92 rfl (lv_at hl 4 rfl) ?_
    obtain ⟨v93, h93, hf⟩ := bd_e hf
    refine z_calls (va_runS (As := [.int v91, .int x3]) (rest := [.int (v80 + x5)]) ⟨hx, hb, hml, hown, hts⟩ (km_apart l v91 x3 h93) (va_cwS 2 hts gX4_isRest_X4_apart rfl rfl rfl (by decide +kernel) ⟨Nat.le_of_ble_eq_true rfl, Nat.le_of_ble_eq_true rfl⟩) z_preT rfl rfl hl.1 rfl (lv_room (Nat.le_of_ble_eq_true rfl)) dX4_isRest_93 ⟨Nat.le_of_ble_eq_true rfl, Nat.le_of_ble_eq_true rfl⟩) ?_
    refine lv_iload_n hx hb dX4_isRest_96 rfl (lv_at hl 2 rfl) ?_
    refine lv_iconst (v := 4) hx hb dX4_isRest_97 (by decide) ?_
    refine lv_irem hx hb dX4_isRest_98 (by decide) ?_
    refine lv_iadd hx hb dX4_isRest_99 ?_
    refine lv_icmp_lt (tgt := 107) hx hb dX4_isRest_100 (by decide) (fun c100 => ?_) (fun c100 => ?_)
    · replace hf := if_t hf c100
      exact wm_isRest_107 hJ C0 hK hE _ i6 _ _ _ _ _ _ _ _ hw hS (lv_sub hl [1, 2, 3, 4, 5] rfl) hf
    · replace hf := if_f hf c100
      refine lv_iconst (v := 1) hx hb dX4_isRest_103 (by decide) ?_
      refine lv_goto (tgt := 108) hx hb dX4_isRest_104 (by decide) ?_
      exact wm_isRest_108 hJ C0 hK hE _ i6 _ _ _ _ _ _ _ _ _ hw hS (lv_sub hl [1, 2, 3, 4, 5] rfl) hf
set_option maxHeartbeats 4000000 in
set_option maxRecDepth 100000 in
theorem wm_isRest_58 {p : Program} {l : Launch} {e : Env} {s : State} {m : MethodId} {args : Array Value} {below : List Frame} {meth : Method} {c : Code} {D : va_G} {L : Nat → Nat} {K : Nat → ClassId} (hJ : gj L 12) (C0 : gC cX4_isRest 6 (some .boolean) wsX4_isRest RX4 p s m args meth c) (hK : va_K D vwCl (tyG K) s) (hE : eM s) {w9 : St} {rs : Int32} (k6 : Int32 → Int32 → Int32 → Int32 → Int32 → St → Option (Int32 × St)) (i6 : ∀ (x1 : Int32) (x2 : Int32) (x3 : Int32) (x4 : Int32) (x5 : Int32) (w : St) (H : Heap) (locs : List Loc) (ls : Array Slot), va_P D vwCl (gl L 12 (cM L K w)) H → va_S (gA L 12) s.heap H locs → lv_has ls 6 [(0, .ref (L 0)), (1, .int x1), (2, .int x2), (3, .int x3), (4, .int x4), (5, .int x5)] → k6 x1 x2 x3 x4 x5 w = some (rs, w9) → W p l e { frames := 1, cells := 0, slots := 0, locals := 21 } s m args below meth c H locs 0 0 (MQ below (qI D L 12 (cM L K) rs w9) args s 0 0 (gA L 12)) (F0 m 6 ls [])) : ∀ (x1 : Int32) (x2 : Int32) (x3 : Int32) (x5 : Int32) (w : St) (H : Heap) (locs : List Loc) (ls : Array Slot), va_P D vwCl (gl L 12 (cM L K w)) H → va_S (gA L 12) s.heap H locs → lv_has ls 6 [(0, .ref (L 0)), (1, .int x1), (2, .int x2), (3, .int x3), (5, .int x5)] → fm_isRest_58 k6 x1 x2 x3 x5 w = some (rs, w9) → W p l e { frames := 1, cells := 0, slots := 0, locals := 21 } s m args below meth c H locs 0 0 (MQ below (qI D L 12 (cM L K) rs w9) args s 0 0 (gA L 12)) (F0 m 58 ls []) := by
  obtain ⟨hx, hb, hr, hml, hown, hts, hlk⟩ := id C0
  intro x1 x2 x3 x5 w H locs ls hw hS hl hf
  unfold fm_isRest_58 at hf
  refine lv_iconst (v := 0) hx hb dX4_isRest_58 (by decide) ?_
  exact wm_isRest_59 hJ C0 hK hE _ i6 _ _ _ _ _ _ _ _ _ hw hS (lv_sub hl [0, 1, 2, 3, 4] rfl) hf
set_option maxHeartbeats 4000000 in
set_option maxRecDepth 100000 in
theorem wm_isRest_6 {p : Program} {l : Launch} {e : Env} {s : State} {m : MethodId} {args : Array Value} {below : List Frame} {meth : Method} {c : Code} {D : va_G} {L : Nat → Nat} {K : Nat → ClassId} (hJ : gj L 12) (C0 : gC cX4_isRest 6 (some .boolean) wsX4_isRest RX4 p s m args meth c) (hK : va_K D vwCl (tyG K) s) (hE : eM s) {w9 : St} {rs : Int32} : ∀ (fu : Nat) (x1 : Int32) (x2 : Int32) (x3 : Int32) (x4 : Int32) (x5 : Int32) (w : St) (H : Heap) (locs : List Loc) (ls : Array Slot), va_P D vwCl (gl L 12 (cM L K w)) H → va_S (gA L 12) s.heap H locs → lv_has ls 6 [(0, .ref (L 0)), (1, .int x1), (2, .int x2), (3, .int x3), (4, .int x4), (5, .int x5)] → fm_isRest_6 fu x1 x2 x3 x4 x5 w = some (rs, w9) → W p l e { frames := 1, cells := 0, slots := 0, locals := 21 } s m args below meth c H locs 0 0 (MQ below (qI D L 12 (cM L K) rs w9) args s 0 0 (gA L 12)) (F0 m 6 ls []) := by
  obtain ⟨hx, hb, hr, hml, hown, hts, hlk⟩ := id C0
  intro fu
  induction fu with
  | zero =>
    intro x1 x2 x3 x4 x5 w H locs ls hw hS hl hf
    rw [fm_isRest_6] at hf
    exact no_n hf
  | succ fu ih =>
    intro x1 x2 x3 x4 x5 w H locs ls hw hS hl hf
    rw [fm_isRest_6] at hf
    refine lv_iload hx hb dX4_isRest_6 (lv_at hl 5 rfl) ?_
    refine lv_iconst (v := 4) hx hb dX4_isRest_8 (by decide) ?_
    refine lv_icmp_ge (tgt := 116) hx hb dX4_isRest_9 (by decide) (fun c9 => ?_) (fun c9 => ?_)
    · replace hf := if_t hf c9
      refine lv_iload hx hb dX4_isRest_116 (lv_at hl 4 rfl) ?_
      obtain ⟨v118, h118, hf⟩ := bd_e hf
      obtain ⟨rfl, hn⟩ := gz_e h118
      exact z_zret hx hb hr hlk hn hw hS hf dX4_isRest_118
    · replace hf := if_f hf c9
      refine lv_iload hx hb dX4_isRest_12 (lv_at hl 4 rfl) ?_
      refine lv_if_eq (tgt := 58) hx hb dX4_isRest_14 (by decide) (fun c14 => ?_) (fun c14 => ?_)
      · replace hf := if_t hf c14
        exact wm_isRest_58 hJ C0 hK hE _ ih _ _ _ _ _ _ _ _ hw hS (lv_sub hl [0, 1, 2, 3, 5] rfl) hf
      · replace hf := if_f hf c14
        refine lv_aload_n hx hb dX4_isRest_17 rfl (lv_at hl 0 rfl) ?_
        refine z_get (v := .ref (L 9)) hx hb hts hiX4_isRest_X4 hown hK hw (k := 0) (by decide) ((fun w => rfl) _) rfl 20 (by decide) (hts (.fieldLink RX4 34 "OneSentenceModel" "senses" "[I") (by decide +kernel)) rfl dX4_isRest_18 ?_
        refine lv_iconst (v := 4) hx hb dX4_isRest_21 (by decide) ?_
        refine lv_iload hx hb dX4_isRest_22 (lv_at hl 5 rfl) ?_
        refine lv_imul hx hb dX4_isRest_24 ?_
        refine lv_iload_n hx hb dX4_isRest_25 rfl (lv_at hl 1 rfl) ?_
        refine lv_iconst (v := 4) hx hb dX4_isRest_26 (by decide) ?_
        refine lv_irem hx hb dX4_isRest_27 (by decide) ?_
        refine lv_iadd hx hb dX4_isRest_28 ?_
        obtain ⟨v29, h29, hf⟩ := bd_e hf
        refine z_iald hx hb hK hw 0 (k := 9) (by decide) ((fun w => rfl) _) rfl h29 dX4_isRest_29 ?_
        refine lv_iload_n hx hb dX4_isRest_30 rfl (lv_at hl 2 rfl) ?_
        obtain ⟨v31, h31, hf⟩ := bd_e hf
        refine z_calls (va_runS (As := [.int v29, .int x2]) (rest := []) ⟨hx, hb, hml, hown, hts⟩ (km_apart l v29 x2 h31) (va_cwS 2 hts gX4_isRest_X4_apart rfl rfl rfl (by decide +kernel) ⟨Nat.le_of_ble_eq_true rfl, Nat.le_of_ble_eq_true rfl⟩) z_preT rfl rfl hl.1 rfl (lv_room (Nat.le_of_ble_eq_true rfl)) dX4_isRest_31 ⟨Nat.le_of_ble_eq_true rfl, Nat.le_of_ble_eq_true rfl⟩) ?_
        refine lv_iload hx hb dX4_isRest_34 (lv_at hl 5 rfl) ?_
        refine lv_iadd hx hb dX4_isRest_36 ?_
        refine lv_aload_n hx hb dX4_isRest_37 rfl (lv_at hl 0 rfl) ?_
        refine z_get (v := .ref (L 9)) hx hb hts hiX4_isRest_X4 hown hK hw (k := 0) (by decide) ((fun w => rfl) _) rfl 20 (by decide) (hts (.fieldLink RX4 34 "OneSentenceModel" "senses" "[I") (by decide +kernel)) rfl dX4_isRest_38 ?_
        refine lv_iload_n hx hb dX4_isRest_41 rfl (lv_at hl 1 rfl) ?_
        obtain ⟨v42, h42, hf⟩ := bd_e hf
        refine z_iald hx hb hK hw 0 (k := 9) (by decide) ((fun w => rfl) _) rfl h42 dX4_isRest_42 ?_
        refine lv_iload_n hx hb dX4_isRest_43 rfl (lv_at hl 2 rfl) ?_
        obtain ⟨v44, h44, hf⟩ := bd_e hf
        refine z_calls (va_runS (As := [.int v42, .int x2]) (rest := [.int (v31 + x5)]) ⟨hx, hb, hml, hown, hts⟩ (km_apart l v42 x2 h44) (va_cwS 2 hts gX4_isRest_X4_apart rfl rfl rfl (by decide +kernel) ⟨Nat.le_of_ble_eq_true rfl, Nat.le_of_ble_eq_true rfl⟩) z_preT rfl rfl hl.1 rfl (lv_room (Nat.le_of_ble_eq_true rfl)) dX4_isRest_44 ⟨Nat.le_of_ble_eq_true rfl, Nat.le_of_ble_eq_true rfl⟩) ?_
        refine lv_iload_n hx hb dX4_isRest_47 rfl (lv_at hl 1 rfl) ?_
        refine lv_iconst (v := 4) hx hb dX4_isRest_48 (by decide) ?_
        refine lv_idiv hx hb dX4_isRest_49 (by decide) ?_
        refine lv_iadd hx hb dX4_isRest_50 ?_
        refine lv_icmp_lt (tgt := 58) hx hb dX4_isRest_51 (by decide) (fun c51 => ?_) (fun c51 => ?_)
        · replace hf := if_t hf c51
          exact wm_isRest_58 hJ C0 hK hE _ ih _ _ _ _ _ _ _ _ hw hS (lv_sub hl [0, 1, 2, 3, 5] rfl) hf
        · replace hf := if_f hf c51
          refine lv_iconst (v := 1) hx hb dX4_isRest_54 (by decide) ?_
          refine lv_goto (tgt := 59) hx hb dX4_isRest_55 (by decide) ?_
          exact wm_isRest_59 hJ C0 hK hE _ ih _ _ _ _ _ _ _ _ _ hw hS (lv_sub hl [0, 1, 2, 3, 5] rfl) hf
set_option maxHeartbeats 4000000 in
set_option maxRecDepth 100000 in
theorem wm_isRest_0 {p : Program} {l : Launch} {e : Env} {s : State} {m : MethodId} {args : Array Value} {below : List Frame} {meth : Method} {c : Code} {D : va_G} {L : Nat → Nat} {K : Nat → ClassId} (hJ : gj L 12) (C0 : gC cX4_isRest 6 (some .boolean) wsX4_isRest RX4 p s m args meth c) (hK : va_K D vwCl (tyG K) s) (hE : eM s) {w9 : St} {rs : Int32} : ∀ (x1 : Int32) (x2 : Int32) (x3 : Int32) (w : St) (H : Heap) (locs : List Loc) (ls : Array Slot), va_P D vwCl (gl L 12 (cM L K w)) H → va_S (gA L 12) s.heap H locs → lv_has ls 6 [(0, .ref (L 0)), (1, .int x1), (2, .int x2), (3, .int x3)] → fm_isRest x1 x2 x3 w = some (rs, w9) → W p l e { frames := 1, cells := 0, slots := 0, locals := 21 } s m args below meth c H locs 0 0 (MQ below (qI D L 12 (cM L K) rs w9) args s 0 0 (gA L 12)) (F0 m 0 ls []) := by
  obtain ⟨hx, hb, hr, hml, hown, hts, hlk⟩ := id C0
  intro x1 x2 x3 w H locs ls hw hS hl hf
  unfold fm_isRest at hf
  refine lv_iconst (v := 1) hx hb dX4_isRest_0 (by decide) ?_
  refine lv_istore (lv' := [(4, .int 1), (0, .ref (L 0)), (1, .int x1), (2, .int x2), (3, .int x3)]) hx hb dX4_isRest_1 hl (by decide) rfl (fun ls hl => ?_)
  refine lv_iconst (v := 0) hx hb dX4_isRest_3 (by decide) ?_
  refine lv_istore (lv' := [(5, .int 0), (4, .int 1), (0, .ref (L 0)), (1, .int x1), (2, .int x2), (3, .int x3)]) hx hb dX4_isRest_4 hl (by decide) rfl (fun ls hl => ?_)
  exact wm_isRest_6 hJ C0 hK hE _ _ _ _ _ _ _ _ _ _ hw hS (lv_sub hl [2, 3, 4, 5, 1, 0] rfl) hf
set_option maxHeartbeats 4000000 in
set_option maxRecDepth 100000 in
theorem km_isRest (l : Launch) {D : va_G} {L : Nat → Nat} {K : Nat → ClassId} (hJ : gj L 12) (x1 : Int32) (x2 : Int32) (x3 : Int32) (w : St) {w9 : St} {rs : Int32} (hf : fm_isRest x1 x2 x3 w = some (rs, w9)) : Met l yX4_isRest wsX4_isRest ({ frames := 1, cells := 0, slots := 0, locals := 21 }) (va_Pc [.ref (L 0), .int x1, .int x2, .int x3] (mP D L K w)) (qI D L 12 (cM L K) rs w9) 0 0 (gA L 12) := by
  refine g_met (cc := cX4_isRest) (nL := 6) (ret := (some .boolean)) (by decide) rfl (Nat.le_of_ble_eq_true rfl) (fun p e s m below meth c ls C0 hP hl => ?_)
  exact wm_isRest_0 hJ C0 hP.2.1 hP.2.2 _ _ _ w _ _ ls hP.1 va_S.rf (lv_sub hl [0, 1, 2, 3] rfl) hf
set_option maxRecDepth 20000 in
theorem ggX4_laySenses_X4_layTrial : GoodIn wsX4_laySenses wsX4_layTrial := goodIn_r _ [7, 1, 8, 9, 17, 18, 19, 20, 21, 22, 23, 24, 25, 26, 27, 28, 29, 30, 31, 32, 33, 34, 35, 36, 37, 38, 39, 40] (by decide +kernel) (by decide +kernel)
set_option maxRecDepth 20000 in
theorem gX4_laySenses_X4_layTrial : GoodIn wsX4_laySenses (wsV RX4 127 RX4 yX4_layTrial wsX4_layTrial) := goodIn_app (goodIn_of _ (by decide +kernel)) ggX4_laySenses_X4_layTrial
set_option maxRecDepth 20000 in
theorem ggX4_laySenses_X4_speakOn : GoodIn wsX4_laySenses wsX4_speakOn := goodIn_r _ [13, 1, 14, 15, 6, 16, 17, 18, 19, 20, 21, 22, 23, 24, 25, 26, 27, 28, 29, 30, 31, 32, 33, 34, 35, 36, 37, 38, 39, 40] (by decide +kernel) (by decide +kernel)
set_option maxRecDepth 20000 in
theorem gX4_laySenses_X4_speakOn : GoodIn wsX4_laySenses (wsV RX4 91 RX4 yX4_speakOn wsX4_speakOn) := goodIn_app (goodIn_of _ (by decide +kernel)) ggX4_laySenses_X4_speakOn
theorem dX4_laySenses_0 : decode cX4_laySenses 0 = .ok (.iconst 0, 1) := by decide +kernel
theorem dX4_laySenses_1 : decode cX4_laySenses 1 = .ok (.istore_n 3, 1) := by decide +kernel
theorem dX4_laySenses_2 : decode cX4_laySenses 2 = .ok (.iload_n 3, 1) := by decide +kernel
theorem dX4_laySenses_3 : decode cX4_laySenses 3 = .ok (.bipush 16, 2) := by decide +kernel
theorem dX4_laySenses_5 : decode cX4_laySenses 5 = .ok (.if_icmp .ge 78, 3) := by decide +kernel
theorem dX4_laySenses_8 : decode cX4_laySenses 8 = .ok (.aload_n 0, 1) := by decide +kernel
theorem dX4_laySenses_9 : decode cX4_laySenses 9 = .ok (.aload_n 0, 1) := by decide +kernel
theorem dX4_laySenses_10 : decode cX4_laySenses 10 = .ok (.getfield 16, 3) := by decide +kernel
theorem dX4_laySenses_13 : decode cX4_laySenses 13 = .ok (.iconst 0, 1) := by decide +kernel
theorem dX4_laySenses_14 : decode cX4_laySenses 14 = .ok (.iaload, 1) := by decide +kernel
theorem dX4_laySenses_15 : decode cX4_laySenses 15 = .ok (.invokevirtual 127, 3) := by decide +kernel
theorem dX4_laySenses_18 : decode cX4_laySenses 18 = .ok (.iconst 0, 1) := by decide +kernel
theorem dX4_laySenses_19 : decode cX4_laySenses 19 = .ok (.istore 4, 2) := by decide +kernel
theorem dX4_laySenses_21 : decode cX4_laySenses 21 = .ok (.iload 4, 2) := by decide +kernel
theorem dX4_laySenses_23 : decode cX4_laySenses 23 = .ok (.iload_n 3, 1) := by decide +kernel
theorem dX4_laySenses_24 : decode cX4_laySenses 24 = .ok (.iconst 4, 1) := by decide +kernel
theorem dX4_laySenses_25 : decode cX4_laySenses 25 = .ok (.idiv, 1) := by decide +kernel
theorem dX4_laySenses_26 : decode cX4_laySenses 26 = .ok (.if_icmp .ge 15, 3) := by decide +kernel
theorem dX4_laySenses_29 : decode cX4_laySenses 29 = .ok (.aload_n 0, 1) := by decide +kernel
theorem dX4_laySenses_30 : decode cX4_laySenses 30 = .ok (.iconst 1, 1) := by decide +kernel
theorem dX4_laySenses_31 : decode cX4_laySenses 31 = .ok (.iload_n 1, 1) := by decide +kernel
theorem dX4_laySenses_32 : decode cX4_laySenses 32 = .ok (.invokevirtual 91, 3) := by decide +kernel
theorem dX4_laySenses_35 : decode cX4_laySenses 35 = .ok (.iinc 4 1, 3) := by decide +kernel
theorem dX4_laySenses_38 : decode cX4_laySenses 38 = .ok (.goto (-17), 3) := by decide +kernel
theorem dX4_laySenses_41 : decode cX4_laySenses 41 = .ok (.iconst 0, 1) := by decide +kernel
theorem dX4_laySenses_42 : decode cX4_laySenses 42 = .ok (.istore 4, 2) := by decide +kernel
theorem dX4_laySenses_44 : decode cX4_laySenses 44 = .ok (.iload 4, 2) := by decide +kernel
theorem dX4_laySenses_46 : decode cX4_laySenses 46 = .ok (.iload_n 3, 1) := by decide +kernel
theorem dX4_laySenses_47 : decode cX4_laySenses 47 = .ok (.iconst 4, 1) := by decide +kernel
theorem dX4_laySenses_48 : decode cX4_laySenses 48 = .ok (.irem, 1) := by decide +kernel
theorem dX4_laySenses_49 : decode cX4_laySenses 49 = .ok (.if_icmp .ge 15, 3) := by decide +kernel
theorem dX4_laySenses_52 : decode cX4_laySenses 52 = .ok (.aload_n 0, 1) := by decide +kernel
theorem dX4_laySenses_53 : decode cX4_laySenses 53 = .ok (.iconst 1, 1) := by decide +kernel
theorem dX4_laySenses_54 : decode cX4_laySenses 54 = .ok (.iload_n 2, 1) := by decide +kernel
theorem dX4_laySenses_55 : decode cX4_laySenses 55 = .ok (.invokevirtual 91, 3) := by decide +kernel
theorem dX4_laySenses_58 : decode cX4_laySenses 58 = .ok (.iinc 4 1, 3) := by decide +kernel
theorem dX4_laySenses_61 : decode cX4_laySenses 61 = .ok (.goto (-17), 3) := by decide +kernel
theorem dX4_laySenses_64 : decode cX4_laySenses 64 = .ok (.aload_n 0, 1) := by decide +kernel
theorem dX4_laySenses_65 : decode cX4_laySenses 65 = .ok (.getfield 34, 3) := by decide +kernel
theorem dX4_laySenses_68 : decode cX4_laySenses 68 = .ok (.iload_n 3, 1) := by decide +kernel
theorem dX4_laySenses_69 : decode cX4_laySenses 69 = .ok (.aload_n 0, 1) := by decide +kernel
theorem dX4_laySenses_70 : decode cX4_laySenses 70 = .ok (.getfield 16, 3) := by decide +kernel
theorem dX4_laySenses_73 : decode cX4_laySenses 73 = .ok (.bipush 49, 2) := by decide +kernel
theorem dX4_laySenses_75 : decode cX4_laySenses 75 = .ok (.iaload, 1) := by decide +kernel
theorem dX4_laySenses_76 : decode cX4_laySenses 76 = .ok (.iastore, 1) := by decide +kernel
theorem dX4_laySenses_77 : decode cX4_laySenses 77 = .ok (.iinc 3 1, 3) := by decide +kernel
theorem dX4_laySenses_80 : decode cX4_laySenses 80 = .ok (.goto (-78), 3) := by decide +kernel
theorem dX4_laySenses_83 : decode cX4_laySenses 83 = .ok (.return_, 1) := by decide +kernel
set_option maxRecDepth 20000 in
theorem hiX4_laySenses_X4 : ∀ w ∈ u_ws RX4 TX4 24, w ∈ wsX4_laySenses := by decide +kernel
set_option maxHeartbeats 4000000 in
set_option maxRecDepth 100000 in
theorem wm_laySenses_44 {p : Program} {l : Launch} {e : Env} {s : State} {m : MethodId} {args : Array Value} {below : List Frame} {meth : Method} {c : Code} {D : va_G} {L : Nat → Nat} {K : Nat → ClassId} (hJ : gj L 12) (C0 : gC cX4_laySenses 5 none wsX4_laySenses RX4 p s m args meth c) (hK : va_K D vwCl (tyG K) s) (hE : eM s) {w9 : St} (k2 : Int32 → Int32 → Int32 → St → Option St) (i2 : ∀ (x1 : Int32) (x2 : Int32) (x3 : Int32) (w : St) (H : Heap) (locs : List Loc) (ls : Array Slot), va_P D vwCl (gl L 12 (cM L K w)) H → va_S (gA L 12) s.heap H locs → lv_has ls 5 [(0, .ref (L 0)), (1, .int x1), (2, .int x2), (3, .int x3)] → k2 x1 x2 x3 w = some w9 → W p l e { frames := 2, cells := 0, slots := 0, locals := 45 } s m args below meth c H locs 0 0 (MQ below (qV D L 12 (cM L K) w9) args s 0 0 (gA L 12)) (F0 m 2 ls [])) : ∀ (fu : Nat) (x1 : Int32) (x2 : Int32) (x3 : Int32) (x4 : Int32) (w : St) (H : Heap) (locs : List Loc) (ls : Array Slot), va_P D vwCl (gl L 12 (cM L K w)) H → va_S (gA L 12) s.heap H locs → lv_has ls 5 [(0, .ref (L 0)), (1, .int x1), (2, .int x2), (3, .int x3), (4, .int x4)] → fm_laySenses_44 k2 fu x1 x2 x3 x4 w = some w9 → W p l e { frames := 2, cells := 0, slots := 0, locals := 45 } s m args below meth c H locs 0 0 (MQ below (qV D L 12 (cM L K) w9) args s 0 0 (gA L 12)) (F0 m 44 ls []) := by
  obtain ⟨hx, hb, hr, hml, hown, hts, hlk⟩ := id C0
  intro fu
  induction fu with
  | zero =>
    intro x1 x2 x3 x4 w H locs ls hw hS hl hf
    rw [fm_laySenses_44] at hf
    exact no_n hf
  | succ fu ih =>
    intro x1 x2 x3 x4 w H locs ls hw hS hl hf
    rw [fm_laySenses_44] at hf
    refine lv_iload hx hb dX4_laySenses_44 (lv_at hl 4 rfl) ?_
    refine lv_iload_n hx hb dX4_laySenses_46 rfl (lv_at hl 3 rfl) ?_
    refine lv_iconst (v := 4) hx hb dX4_laySenses_47 (by decide) ?_
    refine lv_irem hx hb dX4_laySenses_48 (by decide) ?_
    refine lv_icmp_ge (tgt := 64) hx hb dX4_laySenses_49 (by decide) (fun c49 => ?_) (fun c49 => ?_)
    · replace hf := if_t hf c49
      refine lv_aload_n hx hb dX4_laySenses_64 rfl (lv_at hl 0 rfl) ?_
      refine z_get (v := .ref (L 9)) hx hb hts hiX4_laySenses_X4 hown hK hw (k := 0) (by decide) ((fun w => rfl) _) rfl 20 (by decide) (hts (.fieldLink RX4 34 "OneSentenceModel" "senses" "[I") (by decide +kernel)) rfl dX4_laySenses_65 ?_
      refine lv_iload_n hx hb dX4_laySenses_68 rfl (lv_at hl 3 rfl) ?_
      refine lv_aload_n hx hb dX4_laySenses_69 rfl (lv_at hl 0 rfl) ?_
      refine z_get (v := .ref (L 3)) hx hb hts hiX4_laySenses_X4 hown hK hw (k := 0) (by decide) ((fun w => rfl) _) rfl 4 (by decide) (hts (.fieldLink RX4 16 "OneSentenceModel" "now" "[I") (by decide +kernel)) rfl dX4_laySenses_70 ?_
      refine lv_bipush (v := 49) hx hb dX4_laySenses_73 (by decide) ?_
      obtain ⟨v75, h75, hf⟩ := bd_e hf
      refine z_iald hx hb hK hw 0 (k := 3) (by decide) ((fun w => rfl) _) rfl h75 dX4_laySenses_75 ?_
      obtain ⟨w76, h76, hf⟩ := bd_e hf
      refine z_iast hx hb hK hJ hw hS 0 (k := 9) (by decide) cM_ne (fun w => rfl) rfl h76 dX4_laySenses_76 (fun H locs hw hS => ?_)
      refine lv_iinc (v := (x3 + 1)) (lv' := [(3, .int (x3 + 1)), (0, .ref (L 0)), (1, .int x1), (2, .int x2), (4, .int x4)]) hx hb dX4_laySenses_77 hl (k := 3) rfl rfl (by decide) rfl (fun ls hl => ?_)
      refine lv_goto (tgt := 2) hx hb dX4_laySenses_80 (by decide) ?_
      exact i2 _ _ _ _ _ _ _ hw hS (lv_sub hl [1, 2, 3, 0] rfl) hf
    · replace hf := if_f hf c49
      refine lv_aload_n hx hb dX4_laySenses_52 rfl (lv_at hl 0 rfl) ?_
      refine lv_iconst (v := 1) hx hb dX4_laySenses_53 (by decide) ?_
      refine lv_iload_n hx hb dX4_laySenses_54 rfl (lv_at hl 2 rfl) ?_
      obtain ⟨w55, h55, hf⟩ := bd_e hf
      refine z_callv (va_runV (As := [.int 1, .int x2]) (rest := []) ⟨hx, hb, hml, hown, hts⟩ (km_speakOn l (D := D) (K := K) hJ 1 x2 w  h55) (cwV 2 hts gX4_laySenses_X4_speakOn rfl rfl rfl (by decide +kernel) ⟨Nat.le_of_ble_eq_true rfl, Nat.le_of_ble_eq_true rfl⟩) (z_preV eM_ok hK hE hw hS (by decide) ((fun w => rfl) _) (T := TX4) (M := 24) rfl) rfl rfl hl.1 rfl (lv_room (Nat.le_of_ble_eq_true rfl)) dX4_laySenses_55 ⟨Nat.le_of_ble_eq_true rfl, Nat.le_of_ble_eq_true rfl⟩) hS (fun H locs hw hS => ?_)
      refine lv_iinc (v := (x4 + 1)) (lv' := [(4, .int (x4 + 1)), (0, .ref (L 0)), (1, .int x1), (2, .int x2), (3, .int x3)]) hx hb dX4_laySenses_58 hl (k := 4) rfl rfl (by decide) rfl (fun ls hl => ?_)
      refine lv_goto (tgt := 44) hx hb dX4_laySenses_61 (by decide) ?_
      exact ih _ _ _ _ _ _ _ _ hw hS (lv_sub hl [1, 2, 3, 4, 0] rfl) hf
set_option maxHeartbeats 4000000 in
set_option maxRecDepth 100000 in
theorem wm_laySenses_21 {p : Program} {l : Launch} {e : Env} {s : State} {m : MethodId} {args : Array Value} {below : List Frame} {meth : Method} {c : Code} {D : va_G} {L : Nat → Nat} {K : Nat → ClassId} (hJ : gj L 12) (C0 : gC cX4_laySenses 5 none wsX4_laySenses RX4 p s m args meth c) (hK : va_K D vwCl (tyG K) s) (hE : eM s) {w9 : St} (k2 : Int32 → Int32 → Int32 → St → Option St) (i2 : ∀ (x1 : Int32) (x2 : Int32) (x3 : Int32) (w : St) (H : Heap) (locs : List Loc) (ls : Array Slot), va_P D vwCl (gl L 12 (cM L K w)) H → va_S (gA L 12) s.heap H locs → lv_has ls 5 [(0, .ref (L 0)), (1, .int x1), (2, .int x2), (3, .int x3)] → k2 x1 x2 x3 w = some w9 → W p l e { frames := 2, cells := 0, slots := 0, locals := 45 } s m args below meth c H locs 0 0 (MQ below (qV D L 12 (cM L K) w9) args s 0 0 (gA L 12)) (F0 m 2 ls [])) : ∀ (fu : Nat) (x1 : Int32) (x2 : Int32) (x3 : Int32) (x4 : Int32) (w : St) (H : Heap) (locs : List Loc) (ls : Array Slot), va_P D vwCl (gl L 12 (cM L K w)) H → va_S (gA L 12) s.heap H locs → lv_has ls 5 [(0, .ref (L 0)), (1, .int x1), (2, .int x2), (3, .int x3), (4, .int x4)] → fm_laySenses_21 k2 fu x1 x2 x3 x4 w = some w9 → W p l e { frames := 2, cells := 0, slots := 0, locals := 45 } s m args below meth c H locs 0 0 (MQ below (qV D L 12 (cM L K) w9) args s 0 0 (gA L 12)) (F0 m 21 ls []) := by
  obtain ⟨hx, hb, hr, hml, hown, hts, hlk⟩ := id C0
  intro fu
  induction fu with
  | zero =>
    intro x1 x2 x3 x4 w H locs ls hw hS hl hf
    rw [fm_laySenses_21] at hf
    exact no_n hf
  | succ fu ih =>
    intro x1 x2 x3 x4 w H locs ls hw hS hl hf
    rw [fm_laySenses_21] at hf
    refine lv_iload hx hb dX4_laySenses_21 (lv_at hl 4 rfl) ?_
    refine lv_iload_n hx hb dX4_laySenses_23 rfl (lv_at hl 3 rfl) ?_
    refine lv_iconst (v := 4) hx hb dX4_laySenses_24 (by decide) ?_
    refine lv_idiv hx hb dX4_laySenses_25 (by decide) ?_
    refine lv_icmp_ge (tgt := 41) hx hb dX4_laySenses_26 (by decide) (fun c26 => ?_) (fun c26 => ?_)
    · replace hf := if_t hf c26
      refine lv_iconst (v := 0) hx hb dX4_laySenses_41 (by decide) ?_
      refine lv_istore (lv' := [(4, .int 0), (0, .ref (L 0)), (1, .int x1), (2, .int x2), (3, .int x3)]) hx hb dX4_laySenses_42 hl (by decide) rfl (fun ls hl => ?_)
      exact wm_laySenses_44 hJ C0 hK hE _ i2 _ _ _ _ _ _ _ _ _ hw hS (lv_sub hl [1, 2, 3, 4, 0] rfl) hf
    · replace hf := if_f hf c26
      refine lv_aload_n hx hb dX4_laySenses_29 rfl (lv_at hl 0 rfl) ?_
      refine lv_iconst (v := 1) hx hb dX4_laySenses_30 (by decide) ?_
      refine lv_iload_n hx hb dX4_laySenses_31 rfl (lv_at hl 1 rfl) ?_
      obtain ⟨w32, h32, hf⟩ := bd_e hf
      refine z_callv (va_runV (As := [.int 1, .int x1]) (rest := []) ⟨hx, hb, hml, hown, hts⟩ (km_speakOn l (D := D) (K := K) hJ 1 x1 w  h32) (cwV 2 hts gX4_laySenses_X4_speakOn rfl rfl rfl (by decide +kernel) ⟨Nat.le_of_ble_eq_true rfl, Nat.le_of_ble_eq_true rfl⟩) (z_preV eM_ok hK hE hw hS (by decide) ((fun w => rfl) _) (T := TX4) (M := 24) rfl) rfl rfl hl.1 rfl (lv_room (Nat.le_of_ble_eq_true rfl)) dX4_laySenses_32 ⟨Nat.le_of_ble_eq_true rfl, Nat.le_of_ble_eq_true rfl⟩) hS (fun H locs hw hS => ?_)
      refine lv_iinc (v := (x4 + 1)) (lv' := [(4, .int (x4 + 1)), (0, .ref (L 0)), (1, .int x1), (2, .int x2), (3, .int x3)]) hx hb dX4_laySenses_35 hl (k := 4) rfl rfl (by decide) rfl (fun ls hl => ?_)
      refine lv_goto (tgt := 21) hx hb dX4_laySenses_38 (by decide) ?_
      exact ih _ _ _ _ _ _ _ _ hw hS (lv_sub hl [1, 2, 3, 4, 0] rfl) hf
set_option maxHeartbeats 4000000 in
set_option maxRecDepth 100000 in
theorem wm_laySenses_2 {p : Program} {l : Launch} {e : Env} {s : State} {m : MethodId} {args : Array Value} {below : List Frame} {meth : Method} {c : Code} {D : va_G} {L : Nat → Nat} {K : Nat → ClassId} (hJ : gj L 12) (C0 : gC cX4_laySenses 5 none wsX4_laySenses RX4 p s m args meth c) (hK : va_K D vwCl (tyG K) s) (hE : eM s) {w9 : St} : ∀ (fu : Nat) (x1 : Int32) (x2 : Int32) (x3 : Int32) (w : St) (H : Heap) (locs : List Loc) (ls : Array Slot), va_P D vwCl (gl L 12 (cM L K w)) H → va_S (gA L 12) s.heap H locs → lv_has ls 5 [(0, .ref (L 0)), (1, .int x1), (2, .int x2), (3, .int x3)] → fm_laySenses_2 fu x1 x2 x3 w = some w9 → W p l e { frames := 2, cells := 0, slots := 0, locals := 45 } s m args below meth c H locs 0 0 (MQ below (qV D L 12 (cM L K) w9) args s 0 0 (gA L 12)) (F0 m 2 ls []) := by
  obtain ⟨hx, hb, hr, hml, hown, hts, hlk⟩ := id C0
  intro fu
  induction fu with
  | zero =>
    intro x1 x2 x3 w H locs ls hw hS hl hf
    rw [fm_laySenses_2] at hf
    exact no_n hf
  | succ fu ih =>
    intro x1 x2 x3 w H locs ls hw hS hl hf
    rw [fm_laySenses_2] at hf
    refine lv_iload_n hx hb dX4_laySenses_2 rfl (lv_at hl 3 rfl) ?_
    refine lv_bipush (v := 16) hx hb dX4_laySenses_3 (by decide) ?_
    refine lv_icmp_ge (tgt := 83) hx hb dX4_laySenses_5 (by decide) (fun c5 => ?_) (fun c5 => ?_)
    · replace hf := if_t hf c5
      exact z_vret hx hb hr hlk hw hS hf dX4_laySenses_83
    · replace hf := if_f hf c5
      refine lv_aload_n hx hb dX4_laySenses_8 rfl (lv_at hl 0 rfl) ?_
      refine lv_aload_n hx hb dX4_laySenses_9 rfl (lv_at hl 0 rfl) ?_
      refine z_get (v := .ref (L 3)) hx hb hts hiX4_laySenses_X4 hown hK hw (k := 0) (by decide) ((fun w => rfl) _) rfl 4 (by decide) (hts (.fieldLink RX4 16 "OneSentenceModel" "now" "[I") (by decide +kernel)) rfl dX4_laySenses_10 ?_
      refine lv_iconst (v := 0) hx hb dX4_laySenses_13 (by decide) ?_
      obtain ⟨v14, h14, hf⟩ := bd_e hf
      refine z_iald hx hb hK hw 0 (k := 3) (by decide) ((fun w => rfl) _) rfl h14 dX4_laySenses_14 ?_
      obtain ⟨w15, h15, hf⟩ := bd_e hf
      refine z_callv (va_runV (As := [.int v14]) (rest := []) ⟨hx, hb, hml, hown, hts⟩ (km_layTrial l (D := D) (K := K) hJ v14 w  h15) (cwV 1 hts gX4_laySenses_X4_layTrial rfl rfl rfl (by decide +kernel) ⟨Nat.le_of_ble_eq_true rfl, Nat.le_of_ble_eq_true rfl⟩) (z_preV eM_ok hK hE hw hS (by decide) ((fun w => rfl) _) (T := TX4) (M := 24) rfl) rfl rfl hl.1 rfl (lv_room (Nat.le_of_ble_eq_true rfl)) dX4_laySenses_15 ⟨Nat.le_of_ble_eq_true rfl, Nat.le_of_ble_eq_true rfl⟩) hS (fun H locs hw hS => ?_)
      refine lv_iconst (v := 0) hx hb dX4_laySenses_18 (by decide) ?_
      refine lv_istore (lv' := [(4, .int 0), (0, .ref (L 0)), (1, .int x1), (2, .int x2), (3, .int x3)]) hx hb dX4_laySenses_19 hl (by decide) rfl (fun ls hl => ?_)
      exact wm_laySenses_21 hJ C0 hK hE _ ih _ _ _ _ _ _ _ _ _ hw hS (lv_sub hl [1, 2, 3, 4, 0] rfl) hf
set_option maxHeartbeats 4000000 in
set_option maxRecDepth 100000 in
theorem wm_laySenses_0 {p : Program} {l : Launch} {e : Env} {s : State} {m : MethodId} {args : Array Value} {below : List Frame} {meth : Method} {c : Code} {D : va_G} {L : Nat → Nat} {K : Nat → ClassId} (hJ : gj L 12) (C0 : gC cX4_laySenses 5 none wsX4_laySenses RX4 p s m args meth c) (hK : va_K D vwCl (tyG K) s) (hE : eM s) {w9 : St} : ∀ (x1 : Int32) (x2 : Int32) (w : St) (H : Heap) (locs : List Loc) (ls : Array Slot), va_P D vwCl (gl L 12 (cM L K w)) H → va_S (gA L 12) s.heap H locs → lv_has ls 5 [(0, .ref (L 0)), (1, .int x1), (2, .int x2)] → fm_laySenses x1 x2 w = some w9 → W p l e { frames := 2, cells := 0, slots := 0, locals := 45 } s m args below meth c H locs 0 0 (MQ below (qV D L 12 (cM L K) w9) args s 0 0 (gA L 12)) (F0 m 0 ls []) := by
  obtain ⟨hx, hb, hr, hml, hown, hts, hlk⟩ := id C0
  intro x1 x2 w H locs ls hw hS hl hf
  unfold fm_laySenses at hf
  refine lv_iconst (v := 0) hx hb dX4_laySenses_0 (by decide) ?_
  refine lv_istore_n (lv' := [(3, .int 0), (0, .ref (L 0)), (1, .int x1), (2, .int x2)]) hx hb dX4_laySenses_1 rfl hl (by decide) rfl (fun ls hl => ?_)
  exact wm_laySenses_2 hJ C0 hK hE _ _ _ _ _ _ _ _ hw hS (lv_sub hl [1, 2, 3, 0] rfl) hf
set_option maxHeartbeats 4000000 in
set_option maxRecDepth 100000 in
theorem km_laySenses (l : Launch) {D : va_G} {L : Nat → Nat} {K : Nat → ClassId} (hJ : gj L 12) (x1 : Int32) (x2 : Int32) (w : St) {w9 : St} (hf : fm_laySenses x1 x2 w = some w9) : Met l yX4_laySenses wsX4_laySenses ({ frames := 2, cells := 0, slots := 0, locals := 45 }) (va_Pc [.ref (L 0), .int x1, .int x2] (mP D L K w)) (qV D L 12 (cM L K) w9) 0 0 (gA L 12) := by
  refine g_met (cc := cX4_laySenses) (nL := 5) (ret := none) (by decide) rfl (Nat.le_of_ble_eq_true rfl) (fun p e s m below meth c ls C0 hP hl => ?_)
  exact wm_laySenses_0 hJ C0 hP.2.1 hP.2.2 _ _ w _ _ ls hP.1 va_S.rf (lv_sub hl [0, 1, 2] rfl) hf
set_option maxRecDepth 20000 in
theorem ggX4_rests_X4_isPerson : GoodIn wsX4_rests wsX4_isPerson := goodIn_r _ [6, 7, 8, 9, 5, 10, 37, 38, 39, 40, 41, 42, 43, 44, 45, 46, 47, 48, 49, 50, 51, 52, 53, 54, 55, 56, 57, 58, 59, 60] (by decide +kernel) (by decide +kernel)
set_option maxRecDepth 20000 in
theorem gX4_rests_X4_isPerson : GoodIn wsX4_rests (wsV RX4 95 RX4 yX4_isPerson wsX4_isPerson) := goodIn_app (goodIn_of _ (by decide +kernel)) ggX4_rests_X4_isPerson
set_option maxRecDepth 20000 in
theorem ggX4_rests_X4_in : GoodIn wsX4_rests wsX4_in := goodIn_r _ [10] (by decide +kernel) (by decide +kernel)
set_option maxRecDepth 20000 in
theorem gX4_rests_X4_in : GoodIn wsX4_rests (va_wsS RX4 46 yX4_in wsX4_in) := goodIn_app (goodIn_of _ (by decide +kernel)) ggX4_rests_X4_in
set_option maxRecDepth 20000 in
theorem ggX4_rests_X4_laySenses : GoodIn wsX4_rests wsX4_laySenses := goodIn_r _ [14, 15, 16, 17, 18, 19, 5, 20, 21, 22, 23, 24, 25, 26, 27, 28, 29, 37, 38, 39, 40, 41, 42, 43, 44, 45, 46, 47, 48, 49, 50, 51, 52, 53, 54, 55, 56, 57, 58, 59, 60] (by decide +kernel) (by decide +kernel)
set_option maxRecDepth 20000 in
theorem gX4_rests_X4_laySenses : GoodIn wsX4_rests (wsV RX4 176 RX4 yX4_laySenses wsX4_laySenses) := goodIn_app (goodIn_of _ (by decide +kernel)) ggX4_rests_X4_laySenses
set_option maxRecDepth 20000 in
theorem ggX4_rests_X4_isRest : GoodIn wsX4_rests wsX4_isRest := goodIn_r _ [33, 16, 34, 35, 5, 36, 37, 38, 39, 40, 41, 42, 43, 44, 45, 46, 47, 48, 49, 50, 51, 52, 53, 54, 55, 56, 57, 58, 59, 60] (by decide +kernel) (by decide +kernel)
set_option maxRecDepth 20000 in
theorem gX4_rests_X4_isRest : GoodIn wsX4_rests (wsV RX4 179 RX4 yX4_isRest wsX4_isRest) := goodIn_app (goodIn_of _ (by decide +kernel)) ggX4_rests_X4_isRest
theorem dX4_rests_0 : decode cX4_rests 0 = .ok (.aload_n 0, 1) := by decide +kernel
theorem dX4_rests_1 : decode cX4_rests 1 = .ok (.iload_n 1, 1) := by decide +kernel
theorem dX4_rests_2 : decode cX4_rests 2 = .ok (.invokevirtual 95, 3) := by decide +kernel
theorem dX4_rests_5 : decode cX4_rests 5 = .ok (.ifCond .eq 11, 3) := by decide +kernel
theorem dX4_rests_8 : decode cX4_rests 8 = .ok (.aload_n 0, 1) := by decide +kernel
theorem dX4_rests_9 : decode cX4_rests 9 = .ok (.iload_n 2, 1) := by decide +kernel
theorem dX4_rests_10 : decode cX4_rests 10 = .ok (.invokevirtual 95, 3) := by decide +kernel
theorem dX4_rests_13 : decode cX4_rests 13 = .ok (.ifCond .ne 5, 3) := by decide +kernel
theorem dX4_rests_16 : decode cX4_rests 16 = .ok (.iconst (-1), 1) := by decide +kernel
theorem dX4_rests_17 : decode cX4_rests 17 = .ok (.ireturn, 1) := by decide +kernel
theorem dX4_rests_18 : decode cX4_rests 18 = .ok (.iload_n 1, 1) := by decide +kernel
theorem dX4_rests_19 : decode cX4_rests 19 = .ok (.iload_n 2, 1) := by decide +kernel
theorem dX4_rests_20 : decode cX4_rests 20 = .ok (.if_icmp .eq 39, 3) := by decide +kernel
theorem dX4_rests_23 : decode cX4_rests 23 = .ok (.iload_n 3, 1) := by decide +kernel
theorem dX4_rests_24 : decode cX4_rests 24 = .ok (.i2l, 1) := by decide +kernel
theorem dX4_rests_25 : decode cX4_rests 25 = .ok (.lconst 0, 1) := by decide +kernel
theorem dX4_rests_26 : decode cX4_rests 26 = .ok (.ldc2_w 119, 3) := by decide +kernel
theorem dX4_rests_29 : decode cX4_rests 29 = .ok (.invokestatic 46, 3) := by decide +kernel
theorem dX4_rests_32 : decode cX4_rests 32 = .ok (.ifCond .eq 27, 3) := by decide +kernel
theorem dX4_rests_35 : decode cX4_rests 35 = .ok (.iload 4, 2) := by decide +kernel
theorem dX4_rests_37 : decode cX4_rests 37 = .ok (.i2l, 1) := by decide +kernel
theorem dX4_rests_38 : decode cX4_rests 38 = .ok (.lconst 0, 1) := by decide +kernel
theorem dX4_rests_39 : decode cX4_rests 39 = .ok (.ldc2_w 119, 3) := by decide +kernel
theorem dX4_rests_42 : decode cX4_rests 42 = .ok (.invokestatic 46, 3) := by decide +kernel
theorem dX4_rests_45 : decode cX4_rests 45 = .ok (.ifCond .eq 14, 3) := by decide +kernel
theorem dX4_rests_48 : decode cX4_rests 48 = .ok (.iload 5, 2) := by decide +kernel
theorem dX4_rests_50 : decode cX4_rests 50 = .ok (.i2l, 1) := by decide +kernel
theorem dX4_rests_51 : decode cX4_rests 51 = .ok (.lconst 0, 1) := by decide +kernel
theorem dX4_rests_52 : decode cX4_rests 52 = .ok (.lconst 1, 1) := by decide +kernel
theorem dX4_rests_53 : decode cX4_rests 53 = .ok (.invokestatic 46, 3) := by decide +kernel
theorem dX4_rests_56 : decode cX4_rests 56 = .ok (.ifCond .ne 6, 3) := by decide +kernel
theorem dX4_rests_59 : decode cX4_rests 59 = .ok (.bipush (-2), 2) := by decide +kernel
theorem dX4_rests_61 : decode cX4_rests 61 = .ok (.ireturn, 1) := by decide +kernel
theorem dX4_rests_62 : decode cX4_rests 62 = .ok (.aload_n 0, 1) := by decide +kernel
theorem dX4_rests_63 : decode cX4_rests 63 = .ok (.iload_n 1, 1) := by decide +kernel
theorem dX4_rests_64 : decode cX4_rests 64 = .ok (.iload_n 2, 1) := by decide +kernel
theorem dX4_rests_65 : decode cX4_rests 65 = .ok (.invokevirtual 176, 3) := by decide +kernel
theorem dX4_rests_68 : decode cX4_rests 68 = .ok (.iconst 0, 1) := by decide +kernel
theorem dX4_rests_69 : decode cX4_rests 69 = .ok (.istore 6, 2) := by decide +kernel
theorem dX4_rests_71 : decode cX4_rests 71 = .ok (.bipush (-9), 2) := by decide +kernel
theorem dX4_rests_73 : decode cX4_rests 73 = .ok (.istore 7, 2) := by decide +kernel
theorem dX4_rests_75 : decode cX4_rests 75 = .ok (.iconst 0, 1) := by decide +kernel
theorem dX4_rests_76 : decode cX4_rests 76 = .ok (.istore 8, 2) := by decide +kernel
theorem dX4_rests_78 : decode cX4_rests 78 = .ok (.iload 8, 2) := by decide +kernel
theorem dX4_rests_80 : decode cX4_rests 80 = .ok (.bipush 16, 2) := by decide +kernel
theorem dX4_rests_82 : decode cX4_rests 82 = .ok (.if_icmp .ge 48, 3) := by decide +kernel
theorem dX4_rests_85 : decode cX4_rests 85 = .ok (.aload_n 0, 1) := by decide +kernel
theorem dX4_rests_86 : decode cX4_rests 86 = .ok (.iload 8, 2) := by decide +kernel
theorem dX4_rests_88 : decode cX4_rests 88 = .ok (.iload_n 3, 1) := by decide +kernel
theorem dX4_rests_89 : decode cX4_rests 89 = .ok (.iload 4, 2) := by decide +kernel
theorem dX4_rests_91 : decode cX4_rests 91 = .ok (.invokevirtual 179, 3) := by decide +kernel
theorem dX4_rests_94 : decode cX4_rests 94 = .ok (.ifCond .eq 30, 3) := by decide +kernel
theorem dX4_rests_97 : decode cX4_rests 97 = .ok (.iload 6, 2) := by decide +kernel
theorem dX4_rests_99 : decode cX4_rests 99 = .ok (.ifCond .ne 18, 3) := by decide +kernel
theorem dX4_rests_102 : decode cX4_rests 102 = .ok (.bipush 10, 2) := by decide +kernel
theorem dX4_rests_104 : decode cX4_rests 104 = .ok (.iload 8, 2) := by decide +kernel
theorem dX4_rests_106 : decode cX4_rests 106 = .ok (.iconst 4, 1) := by decide +kernel
theorem dX4_rests_107 : decode cX4_rests 107 = .ok (.idiv, 1) := by decide +kernel
theorem dX4_rests_108 : decode cX4_rests 108 = .ok (.imul, 1) := by decide +kernel
theorem dX4_rests_109 : decode cX4_rests 109 = .ok (.iload 8, 2) := by decide +kernel
theorem dX4_rests_111 : decode cX4_rests 111 = .ok (.iconst 4, 1) := by decide +kernel
theorem dX4_rests_112 : decode cX4_rests 112 = .ok (.irem, 1) := by decide +kernel
theorem dX4_rests_113 : decode cX4_rests 113 = .ok (.iadd, 1) := by decide +kernel
theorem dX4_rests_114 : decode cX4_rests 114 = .ok (.goto 5, 3) := by decide +kernel
theorem dX4_rests_117 : decode cX4_rests 117 = .ok (.iload 7, 2) := by decide +kernel
theorem dX4_rests_119 : decode cX4_rests 119 = .ok (.istore 7, 2) := by decide +kernel
theorem dX4_rests_121 : decode cX4_rests 121 = .ok (.iinc 6 1, 3) := by decide +kernel
theorem dX4_rests_124 : decode cX4_rests 124 = .ok (.iinc 8 1, 3) := by decide +kernel
theorem dX4_rests_127 : decode cX4_rests 127 = .ok (.goto (-49), 3) := by decide +kernel
theorem dX4_rests_130 : decode cX4_rests 130 = .ok (.iload 5, 2) := by decide +kernel
theorem dX4_rests_132 : decode cX4_rests 132 = .ok (.ifCond .ne 8, 3) := by decide +kernel
theorem dX4_rests_135 : decode cX4_rests 135 = .ok (.iload 6, 2) := by decide +kernel
theorem dX4_rests_137 : decode cX4_rests 137 = .ok (.goto 5, 3) := by decide +kernel
theorem dX4_rests_140 : decode cX4_rests 140 = .ok (.iload 7, 2) := by decide +kernel
theorem dX4_rests_142 : decode cX4_rests 142 = .ok (.ireturn, 1) := by decide +kernel
set_option maxHeartbeats 4000000 in
set_option maxRecDepth 100000 in
theorem wm_rests_124 {p : Program} {l : Launch} {e : Env} {s : State} {m : MethodId} {args : Array Value} {below : List Frame} {meth : Method} {c : Code} {D : va_G} {L : Nat → Nat} {K : Nat → ClassId} (hJ : gj L 12) (C0 : gC cX4_rests 9 (some .int) wsX4_rests RX4 p s m args meth c) (hK : va_K D vwCl (tyG K) s) (hE : eM s) {w9 : St} {rs : Int32} (k78 : Int32 → Int32 → Int32 → Int32 → Int32 → Int32 → St → Option (Int32 × St)) (i78 : ∀ (x3 : Int32) (x4 : Int32) (x5 : Int32) (x6 : Int32) (x7 : Int32) (x8 : Int32) (w : St) (H : Heap) (locs : List Loc) (ls : Array Slot), va_P D vwCl (gl L 12 (cM L K w)) H → va_S (gA L 12) s.heap H locs → lv_has ls 9 [(0, .ref (L 0)), (3, .int x3), (4, .int x4), (5, .int x5), (6, .int x6), (7, .int x7), (8, .int x8)] → k78 x3 x4 x5 x6 x7 x8 w = some (rs, w9) → W p l e { frames := 3, cells := 0, slots := 0, locals := 69 } s m args below meth c H locs 0 0 (MQ below (qI D L 12 (cM L K) rs w9) args s 0 0 (gA L 12)) (F0 m 78 ls [])) : ∀ (x3 : Int32) (x4 : Int32) (x5 : Int32) (x6 : Int32) (x7 : Int32) (x8 : Int32) (w : St) (H : Heap) (locs : List Loc) (ls : Array Slot), va_P D vwCl (gl L 12 (cM L K w)) H → va_S (gA L 12) s.heap H locs → lv_has ls 9 [(0, .ref (L 0)), (3, .int x3), (4, .int x4), (5, .int x5), (6, .int x6), (7, .int x7), (8, .int x8)] → fm_rests_124 k78 x3 x4 x5 x6 x7 x8 w = some (rs, w9) → W p l e { frames := 3, cells := 0, slots := 0, locals := 69 } s m args below meth c H locs 0 0 (MQ below (qI D L 12 (cM L K) rs w9) args s 0 0 (gA L 12)) (F0 m 124 ls []) := by
  obtain ⟨hx, hb, hr, hml, hown, hts, hlk⟩ := id C0
  intro x3 x4 x5 x6 x7 x8 w H locs ls hw hS hl hf
  unfold fm_rests_124 at hf
  refine lv_iinc (v := (x8 + 1)) (lv' := [(8, .int (x8 + 1)), (0, .ref (L 0)), (3, .int x3), (4, .int x4), (5, .int x5), (6, .int x6), (7, .int x7)]) hx hb dX4_rests_124 hl (k := 6) rfl rfl (by decide) rfl (fun ls hl => ?_)
  refine lv_goto (tgt := 78) hx hb dX4_rests_127 (by decide) ?_
  exact i78 _ _ _ _ _ _ _ _ _ _ hw hS (lv_sub hl [1, 2, 3, 4, 5, 6, 0] rfl) hf
set_option maxHeartbeats 4000000 in
set_option maxRecDepth 100000 in
theorem wm_rests_119 {p : Program} {l : Launch} {e : Env} {s : State} {m : MethodId} {args : Array Value} {below : List Frame} {meth : Method} {c : Code} {D : va_G} {L : Nat → Nat} {K : Nat → ClassId} (hJ : gj L 12) (C0 : gC cX4_rests 9 (some .int) wsX4_rests RX4 p s m args meth c) (hK : va_K D vwCl (tyG K) s) (hE : eM s) {w9 : St} {rs : Int32} (k78 : Int32 → Int32 → Int32 → Int32 → Int32 → Int32 → St → Option (Int32 × St)) (i78 : ∀ (x3 : Int32) (x4 : Int32) (x5 : Int32) (x6 : Int32) (x7 : Int32) (x8 : Int32) (w : St) (H : Heap) (locs : List Loc) (ls : Array Slot), va_P D vwCl (gl L 12 (cM L K w)) H → va_S (gA L 12) s.heap H locs → lv_has ls 9 [(0, .ref (L 0)), (3, .int x3), (4, .int x4), (5, .int x5), (6, .int x6), (7, .int x7), (8, .int x8)] → k78 x3 x4 x5 x6 x7 x8 w = some (rs, w9) → W p l e { frames := 3, cells := 0, slots := 0, locals := 69 } s m args below meth c H locs 0 0 (MQ below (qI D L 12 (cM L K) rs w9) args s 0 0 (gA L 12)) (F0 m 78 ls [])) : ∀ (x3 : Int32) (x4 : Int32) (x5 : Int32) (x6 : Int32) (x8 : Int32) (s0 : Int32) (w : St) (H : Heap) (locs : List Loc) (ls : Array Slot), va_P D vwCl (gl L 12 (cM L K w)) H → va_S (gA L 12) s.heap H locs → lv_has ls 9 [(0, .ref (L 0)), (3, .int x3), (4, .int x4), (5, .int x5), (6, .int x6), (8, .int x8)] → fm_rests_119 k78 x3 x4 x5 x6 x8 s0 w = some (rs, w9) → W p l e { frames := 3, cells := 0, slots := 0, locals := 69 } s m args below meth c H locs 0 0 (MQ below (qI D L 12 (cM L K) rs w9) args s 0 0 (gA L 12)) (F0 m 119 ls [.int s0]) := by
  obtain ⟨hx, hb, hr, hml, hown, hts, hlk⟩ := id C0
  intro x3 x4 x5 x6 x8 s0 w H locs ls hw hS hl hf
  unfold fm_rests_119 at hf
  refine lv_istore (lv' := [(7, .int s0), (0, .ref (L 0)), (3, .int x3), (4, .int x4), (5, .int x5), (6, .int x6), (8, .int x8)]) hx hb dX4_rests_119 hl (by decide) rfl (fun ls hl => ?_)
  refine lv_iinc (v := (x6 + 1)) (lv' := [(6, .int (x6 + 1)), (7, .int s0), (0, .ref (L 0)), (3, .int x3), (4, .int x4), (5, .int x5), (8, .int x8)]) hx hb dX4_rests_121 hl (k := 5) rfl rfl (by decide) rfl (fun ls hl => ?_)
  exact wm_rests_124 hJ C0 hK hE _ i78 _ _ _ _ _ _ _ _ _ _ hw hS (lv_sub hl [2, 3, 4, 5, 0, 1, 6] rfl) hf
set_option maxHeartbeats 4000000 in
set_option maxRecDepth 100000 in
theorem wm_rests_78 {p : Program} {l : Launch} {e : Env} {s : State} {m : MethodId} {args : Array Value} {below : List Frame} {meth : Method} {c : Code} {D : va_G} {L : Nat → Nat} {K : Nat → ClassId} (hJ : gj L 12) (C0 : gC cX4_rests 9 (some .int) wsX4_rests RX4 p s m args meth c) (hK : va_K D vwCl (tyG K) s) (hE : eM s) {w9 : St} {rs : Int32} : ∀ (fu : Nat) (x3 : Int32) (x4 : Int32) (x5 : Int32) (x6 : Int32) (x7 : Int32) (x8 : Int32) (w : St) (H : Heap) (locs : List Loc) (ls : Array Slot), va_P D vwCl (gl L 12 (cM L K w)) H → va_S (gA L 12) s.heap H locs → lv_has ls 9 [(0, .ref (L 0)), (3, .int x3), (4, .int x4), (5, .int x5), (6, .int x6), (7, .int x7), (8, .int x8)] → fm_rests_78 fu x3 x4 x5 x6 x7 x8 w = some (rs, w9) → W p l e { frames := 3, cells := 0, slots := 0, locals := 69 } s m args below meth c H locs 0 0 (MQ below (qI D L 12 (cM L K) rs w9) args s 0 0 (gA L 12)) (F0 m 78 ls []) := by
  obtain ⟨hx, hb, hr, hml, hown, hts, hlk⟩ := id C0
  intro fu
  induction fu with
  | zero =>
    intro x3 x4 x5 x6 x7 x8 w H locs ls hw hS hl hf
    rw [fm_rests_78] at hf
    exact no_n hf
  | succ fu ih =>
    intro x3 x4 x5 x6 x7 x8 w H locs ls hw hS hl hf
    rw [fm_rests_78] at hf
    refine lv_iload hx hb dX4_rests_78 (lv_at hl 6 rfl) ?_
    refine lv_bipush (v := 16) hx hb dX4_rests_80 (by decide) ?_
    refine lv_icmp_ge (tgt := 130) hx hb dX4_rests_82 (by decide) (fun c82 => ?_) (fun c82 => ?_)
    · replace hf := if_t hf c82
      refine lv_iload hx hb dX4_rests_130 (lv_at hl 3 rfl) ?_
      refine lv_if_ne (tgt := 140) hx hb dX4_rests_132 (by decide) (fun c132 => ?_) (fun c132 => ?_)
      · replace hf := if_f hf c132
        refine lv_iload hx hb dX4_rests_140 (lv_at hl 5 rfl) ?_
        exact z_iret hx hb hr hlk hw hS hf dX4_rests_142
      · replace hf := if_t hf c132
        refine lv_iload hx hb dX4_rests_135 (lv_at hl 4 rfl) ?_
        refine lv_goto (tgt := 142) hx hb dX4_rests_137 (by decide) ?_
        exact z_iret hx hb hr hlk hw hS hf dX4_rests_142
    · replace hf := if_f hf c82
      refine lv_aload_n hx hb dX4_rests_85 rfl (lv_at hl 0 rfl) ?_
      refine lv_iload hx hb dX4_rests_86 (lv_at hl 6 rfl) ?_
      refine lv_iload_n hx hb dX4_rests_88 rfl (lv_at hl 1 rfl) ?_
      refine lv_iload hx hb dX4_rests_89 (lv_at hl 2 rfl) ?_
      obtain ⟨q91, h91, hf⟩ := bd_e hf
      refine z_calli (va_runV (As := [.int x8, .int x3, .int x4]) (rest := []) ⟨hx, hb, hml, hown, hts⟩ (km_isRest l (D := D) (K := K) hJ x8 x3 x4 w  h91) (cwV 3 hts gX4_rests_X4_isRest rfl rfl rfl (by decide +kernel) ⟨Nat.le_of_ble_eq_true rfl, Nat.le_of_ble_eq_true rfl⟩) (z_preV eM_ok hK hE hw hS (by decide) ((fun w => rfl) _) (T := TX4) (M := 24) rfl) rfl rfl hl.1 rfl (lv_room (Nat.le_of_ble_eq_true rfl)) dX4_rests_91 ⟨Nat.le_of_ble_eq_true rfl, Nat.le_of_ble_eq_true rfl⟩) hS (fun H locs hw hS => ?_)
      refine lv_if_eq (tgt := 124) hx hb dX4_rests_94 (by decide) (fun c94 => ?_) (fun c94 => ?_)
      · replace hf := if_t hf c94
        exact wm_rests_124 hJ C0 hK hE _ ih _ _ _ _ _ _ _ _ _ _ hw hS (lv_sub hl [0, 1, 2, 3, 4, 5, 6] rfl) hf
      · replace hf := if_f hf c94
        refine lv_iload hx hb dX4_rests_97 (lv_at hl 4 rfl) ?_
        refine lv_if_ne (tgt := 117) hx hb dX4_rests_99 (by decide) (fun c99 => ?_) (fun c99 => ?_)
        · replace hf := if_f hf c99
          refine lv_iload hx hb dX4_rests_117 (lv_at hl 5 rfl) ?_
          exact wm_rests_119 hJ C0 hK hE _ ih _ _ _ _ _ _ _ _ _ _ hw hS (lv_sub hl [0, 1, 2, 3, 4, 6] rfl) hf
        · replace hf := if_t hf c99
          refine lv_bipush (v := 10) hx hb dX4_rests_102 (by decide) ?_
          refine lv_iload hx hb dX4_rests_104 (lv_at hl 6 rfl) ?_
          refine lv_iconst (v := 4) hx hb dX4_rests_106 (by decide) ?_
          refine lv_idiv hx hb dX4_rests_107 (by decide) ?_
          refine lv_imul hx hb dX4_rests_108 ?_
          refine lv_iload hx hb dX4_rests_109 (lv_at hl 6 rfl) ?_
          refine lv_iconst (v := 4) hx hb dX4_rests_111 (by decide) ?_
          refine lv_irem hx hb dX4_rests_112 (by decide) ?_
          refine lv_iadd hx hb dX4_rests_113 ?_
          refine lv_goto (tgt := 119) hx hb dX4_rests_114 (by decide) ?_
          exact wm_rests_119 hJ C0 hK hE _ ih _ _ _ _ _ _ _ _ _ _ hw hS (lv_sub hl [0, 1, 2, 3, 4, 6] rfl) hf
set_option maxHeartbeats 4000000 in
set_option maxRecDepth 100000 in
theorem wm_rests_0 {p : Program} {l : Launch} {e : Env} {s : State} {m : MethodId} {args : Array Value} {below : List Frame} {meth : Method} {c : Code} {D : va_G} {L : Nat → Nat} {K : Nat → ClassId} (hJ : gj L 12) (C0 : gC cX4_rests 9 (some .int) wsX4_rests RX4 p s m args meth c) (hK : va_K D vwCl (tyG K) s) (hE : eM s) {w9 : St} {rs : Int32} : ∀ (x1 : Int32) (x2 : Int32) (x3 : Int32) (x4 : Int32) (x5 : Int32) (w : St) (H : Heap) (locs : List Loc) (ls : Array Slot), va_P D vwCl (gl L 12 (cM L K w)) H → va_S (gA L 12) s.heap H locs → lv_has ls 9 [(0, .ref (L 0)), (1, .int x1), (2, .int x2), (3, .int x3), (4, .int x4), (5, .int x5)] → fm_rests x1 x2 x3 x4 x5 w = some (rs, w9) → W p l e { frames := 3, cells := 0, slots := 0, locals := 69 } s m args below meth c H locs 0 0 (MQ below (qI D L 12 (cM L K) rs w9) args s 0 0 (gA L 12)) (F0 m 0 ls []) := by
  obtain ⟨hx, hb, hr, hml, hown, hts, hlk⟩ := id C0
  intro x1 x2 x3 x4 x5 w H locs ls hw hS hl hf
  unfold fm_rests at hf
  refine lv_aload_n hx hb dX4_rests_0 rfl (lv_at hl 0 rfl) ?_
  refine lv_iload_n hx hb dX4_rests_1 rfl (lv_at hl 1 rfl) ?_
  obtain ⟨q2, h2, hf⟩ := bd_e hf
  refine z_calli (va_runV (As := [.int x1]) (rest := []) ⟨hx, hb, hml, hown, hts⟩ (km_isPerson l (D := D) (K := K) hJ x1 w  h2) (cwV 1 hts gX4_rests_X4_isPerson rfl rfl rfl (by decide +kernel) ⟨Nat.le_of_ble_eq_true rfl, Nat.le_of_ble_eq_true rfl⟩) (z_preV eM_ok hK hE hw hS (by decide) ((fun w => rfl) _) (T := TX4) (M := 24) rfl) rfl rfl hl.1 rfl (lv_room (Nat.le_of_ble_eq_true rfl)) dX4_rests_2 ⟨Nat.le_of_ble_eq_true rfl, Nat.le_of_ble_eq_true rfl⟩) hS (fun H locs hw hS => ?_)
  refine lv_if_eq (tgt := 16) hx hb dX4_rests_5 (by decide) (fun c5 => ?_) (fun c5 => ?_)
  · replace hf := if_t hf c5
    refine lv_iconst (v := (-1)) hx hb dX4_rests_16 (by decide) ?_
    exact z_iret hx hb hr hlk hw hS hf dX4_rests_17
  · replace hf := if_f hf c5
    refine lv_aload_n hx hb dX4_rests_8 rfl (lv_at hl 0 rfl) ?_
    refine lv_iload_n hx hb dX4_rests_9 rfl (lv_at hl 2 rfl) ?_
    obtain ⟨q10, h10, hf⟩ := bd_e hf
    refine z_calli (va_runV (As := [.int x2]) (rest := []) ⟨hx, hb, hml, hown, hts⟩ (km_isPerson l (D := D) (K := K) hJ x2 (q2.2)  h10) (cwV 1 hts gX4_rests_X4_isPerson rfl rfl rfl (by decide +kernel) ⟨Nat.le_of_ble_eq_true rfl, Nat.le_of_ble_eq_true rfl⟩) (z_preV eM_ok hK hE hw hS (by decide) ((fun w => rfl) _) (T := TX4) (M := 24) rfl) rfl rfl hl.1 rfl (lv_room (Nat.le_of_ble_eq_true rfl)) dX4_rests_10 ⟨Nat.le_of_ble_eq_true rfl, Nat.le_of_ble_eq_true rfl⟩) hS (fun H locs hw hS => ?_)
    refine lv_if_ne (tgt := 18) hx hb dX4_rests_13 (by decide) (fun c13 => ?_) (fun c13 => ?_)
    · replace hf := if_f hf c13
      refine lv_iload_n hx hb dX4_rests_18 rfl (lv_at hl 1 rfl) ?_
      refine lv_iload_n hx hb dX4_rests_19 rfl (lv_at hl 2 rfl) ?_
      refine lv_icmp_eq (tgt := 59) hx hb dX4_rests_20 (by decide) (fun c20 => ?_) (fun c20 => ?_)
      · replace hf := if_t hf c20
        refine lv_bipush (v := (-2)) hx hb dX4_rests_59 (by decide) ?_
        exact z_iret hx hb hr hlk hw hS hf dX4_rests_61
      · replace hf := if_f hf c20
        refine lv_iload_n hx hb dX4_rests_23 rfl (lv_at hl 3 rfl) ?_
        refine lv_i2l (v := x3.toInt64) hx hb dX4_rests_24 rfl ?_
        refine lv_lconst (v := 0) hx hb dX4_rests_25 (by decide) ?_
        refine lv_ldc2 (v := 9) hx hb hown (hts (.constantLong RX4 119 9) (by decide +kernel)) dX4_rests_26 ?_
        obtain ⟨v29, h29, hf⟩ := bd_e hf
        refine z_calls (va_runS (As := [.long (x3.toInt64), .long 0, .long 9]) (rest := []) ⟨hx, hb, hml, hown, hts⟩ (km_in l (x3.toInt64) 0 9 h29) (va_cwS 3 hts gX4_rests_X4_in rfl rfl rfl (by decide +kernel) ⟨Nat.le_of_ble_eq_true rfl, Nat.le_of_ble_eq_true rfl⟩) z_preT rfl rfl hl.1 rfl (lv_room (Nat.le_of_ble_eq_true rfl)) dX4_rests_29 ⟨Nat.le_of_ble_eq_true rfl, Nat.le_of_ble_eq_true rfl⟩) ?_
        refine lv_if_eq (tgt := 59) hx hb dX4_rests_32 (by decide) (fun c32 => ?_) (fun c32 => ?_)
        · replace hf := if_t hf c32
          refine lv_bipush (v := (-2)) hx hb dX4_rests_59 (by decide) ?_
          exact z_iret hx hb hr hlk hw hS hf dX4_rests_61
        · replace hf := if_f hf c32
          refine lv_iload hx hb dX4_rests_35 (lv_at hl 4 rfl) ?_
          refine lv_i2l (v := x4.toInt64) hx hb dX4_rests_37 rfl ?_
          refine lv_lconst (v := 0) hx hb dX4_rests_38 (by decide) ?_
          refine lv_ldc2 (v := 9) hx hb hown (hts (.constantLong RX4 119 9) (by decide +kernel)) dX4_rests_39 ?_
          obtain ⟨v42, h42, hf⟩ := bd_e hf
          refine z_calls (va_runS (As := [.long (x4.toInt64), .long 0, .long 9]) (rest := []) ⟨hx, hb, hml, hown, hts⟩ (km_in l (x4.toInt64) 0 9 h42) (va_cwS 3 hts gX4_rests_X4_in rfl rfl rfl (by decide +kernel) ⟨Nat.le_of_ble_eq_true rfl, Nat.le_of_ble_eq_true rfl⟩) z_preT rfl rfl hl.1 rfl (lv_room (Nat.le_of_ble_eq_true rfl)) dX4_rests_42 ⟨Nat.le_of_ble_eq_true rfl, Nat.le_of_ble_eq_true rfl⟩) ?_
          refine lv_if_eq (tgt := 59) hx hb dX4_rests_45 (by decide) (fun c45 => ?_) (fun c45 => ?_)
          · replace hf := if_t hf c45
            refine lv_bipush (v := (-2)) hx hb dX4_rests_59 (by decide) ?_
            exact z_iret hx hb hr hlk hw hS hf dX4_rests_61
          · replace hf := if_f hf c45
            refine lv_iload hx hb dX4_rests_48 (lv_at hl 5 rfl) ?_
            refine lv_i2l (v := x5.toInt64) hx hb dX4_rests_50 rfl ?_
            refine lv_lconst (v := 0) hx hb dX4_rests_51 (by decide) ?_
            refine lv_lconst (v := 1) hx hb dX4_rests_52 (by decide) ?_
            obtain ⟨v53, h53, hf⟩ := bd_e hf
            refine z_calls (va_runS (As := [.long (x5.toInt64), .long 0, .long 1]) (rest := []) ⟨hx, hb, hml, hown, hts⟩ (km_in l (x5.toInt64) 0 1 h53) (va_cwS 3 hts gX4_rests_X4_in rfl rfl rfl (by decide +kernel) ⟨Nat.le_of_ble_eq_true rfl, Nat.le_of_ble_eq_true rfl⟩) z_preT rfl rfl hl.1 rfl (lv_room (Nat.le_of_ble_eq_true rfl)) dX4_rests_53 ⟨Nat.le_of_ble_eq_true rfl, Nat.le_of_ble_eq_true rfl⟩) ?_
            refine lv_if_ne (tgt := 62) hx hb dX4_rests_56 (by decide) (fun c56 => ?_) (fun c56 => ?_)
            · replace hf := if_f hf c56
              refine lv_aload_n hx hb dX4_rests_62 rfl (lv_at hl 0 rfl) ?_
              refine lv_iload_n hx hb dX4_rests_63 rfl (lv_at hl 1 rfl) ?_
              refine lv_iload_n hx hb dX4_rests_64 rfl (lv_at hl 2 rfl) ?_
              obtain ⟨w65, h65, hf⟩ := bd_e hf
              refine z_callv (va_runV (As := [.int x1, .int x2]) (rest := []) ⟨hx, hb, hml, hown, hts⟩ (km_laySenses l (D := D) (K := K) hJ x1 x2 (q10.2)  h65) (cwV 2 hts gX4_rests_X4_laySenses rfl rfl rfl (by decide +kernel) ⟨Nat.le_of_ble_eq_true rfl, Nat.le_of_ble_eq_true rfl⟩) (z_preV eM_ok hK hE hw hS (by decide) ((fun w => rfl) _) (T := TX4) (M := 24) rfl) rfl rfl hl.1 rfl (lv_room (Nat.le_of_ble_eq_true rfl)) dX4_rests_65 ⟨Nat.le_of_ble_eq_true rfl, Nat.le_of_ble_eq_true rfl⟩) hS (fun H locs hw hS => ?_)
              refine lv_iconst (v := 0) hx hb dX4_rests_68 (by decide) ?_
              refine lv_istore (lv' := [(6, .int 0), (0, .ref (L 0)), (1, .int x1), (2, .int x2), (3, .int x3), (4, .int x4), (5, .int x5)]) hx hb dX4_rests_69 hl (by decide) rfl (fun ls hl => ?_)
              refine lv_bipush (v := (-9)) hx hb dX4_rests_71 (by decide) ?_
              refine lv_istore (lv' := [(7, .int (-9)), (6, .int 0), (0, .ref (L 0)), (1, .int x1), (2, .int x2), (3, .int x3), (4, .int x4), (5, .int x5)]) hx hb dX4_rests_73 hl (by decide) rfl (fun ls hl => ?_)
              refine lv_iconst (v := 0) hx hb dX4_rests_75 (by decide) ?_
              refine lv_istore (lv' := [(8, .int 0), (7, .int (-9)), (6, .int 0), (0, .ref (L 0)), (1, .int x1), (2, .int x2), (3, .int x3), (4, .int x4), (5, .int x5)]) hx hb dX4_rests_76 hl (by decide) rfl (fun ls hl => ?_)
              exact wm_rests_78 hJ C0 hK hE _ _ _ _ _ _ _ _ _ _ _ hw hS (lv_sub hl [3, 6, 7, 8, 2, 1, 0] rfl) hf
            · replace hf := if_t hf c56
              refine lv_bipush (v := (-2)) hx hb dX4_rests_59 (by decide) ?_
              exact z_iret hx hb hr hlk hw hS hf dX4_rests_61
    · replace hf := if_t hf c13
      refine lv_iconst (v := (-1)) hx hb dX4_rests_16 (by decide) ?_
      exact z_iret hx hb hr hlk hw hS hf dX4_rests_17
set_option maxHeartbeats 4000000 in
set_option maxRecDepth 100000 in
theorem km_rests (l : Launch) {D : va_G} {L : Nat → Nat} {K : Nat → ClassId} (hJ : gj L 12) (x1 : Int32) (x2 : Int32) (x3 : Int32) (x4 : Int32) (x5 : Int32) (w : St) {w9 : St} {rs : Int32} (hf : fm_rests x1 x2 x3 x4 x5 w = some (rs, w9)) : Met l yX4_rests wsX4_rests ({ frames := 3, cells := 0, slots := 0, locals := 69 }) (va_Pc [.ref (L 0), .int x1, .int x2, .int x3, .int x4, .int x5] (mP D L K w)) (qI D L 12 (cM L K) rs w9) 0 0 (gA L 12) := by
  refine g_met (cc := cX4_rests) (nL := 9) (ret := (some .int)) (by decide) rfl (Nat.le_of_ble_eq_true rfl) (fun p e s m below meth c ls C0 hP hl => ?_)
  exact wm_rests_0 hJ C0 hP.2.1 hP.2.2 _ _ _ _ _ w _ _ ls hP.1 va_S.rf (lv_sub hl [0, 1, 2, 3, 4, 5] rfl) hf
