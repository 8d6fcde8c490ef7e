set_option maxRecDepth 20000 in
theorem ggX4_chance_X4_in : GoodIn wsX4_chance wsX4_in := goodIn_r _ [7] (by decide +kernel) (by decide +kernel)
set_option maxRecDepth 20000 in
theorem gX4_chance_X4_in : GoodIn wsX4_chance (va_wsS RX4 46 yX4_in wsX4_in) := goodIn_app (goodIn_of _ (by decide +kernel)) ggX4_chance_X4_in
set_option maxRecDepth 20000 in
theorem ggX4_chance_X4_sevens : GoodIn wsX4_chance wsX4_sevens := goodIn_r _ [10] (by decide +kernel) (by decide +kernel)
set_option maxRecDepth 20000 in
theorem gX4_chance_X4_sevens : GoodIn wsX4_chance (va_wsS RX4 141 yX4_sevens wsX4_sevens) := goodIn_app (goodIn_of _ (by decide +kernel)) ggX4_chance_X4_sevens
set_option maxRecDepth 20000 in
theorem ggX4_chance_X4_rowOf : GoodIn wsX4_chance wsX4_rowOf := goodIn_r _ [13] (by decide +kernel) (by decide +kernel)
set_option maxRecDepth 20000 in
theorem gX4_chance_X4_rowOf : GoodIn wsX4_chance (va_wsS RX4 144 yX4_rowOf wsX4_rowOf) := goodIn_app (goodIn_of _ (by decide +kernel)) ggX4_chance_X4_rowOf
set_option maxRecDepth 20000 in
theorem ggX4_chance_X4_whoIn : GoodIn wsX4_chance wsX4_whoIn := goodIn_r _ [16] (by decide +kernel) (by decide +kernel)
set_option maxRecDepth 20000 in
theorem gX4_chance_X4_whoIn : GoodIn wsX4_chance (va_wsS RX4 164 yX4_whoIn wsX4_whoIn) := goodIn_app (goodIn_of _ (by decide +kernel)) ggX4_chance_X4_whoIn
set_option maxRecDepth 20000 in
theorem ggX4_chance_X4_layTrial : GoodIn wsX4_chance wsX4_layTrial := goodIn_r _ [20, 3, 21, 22, 48, 49, 50, 51, 52, 53, 54, 55, 56, 57, 58, 59, 60, 61, 62, 63, 64, 65, 66, 67, 68, 69, 70, 71] (by decide +kernel) (by decide +kernel)
set_option maxRecDepth 20000 in
theorem gX4_chance_X4_layTrial : GoodIn wsX4_chance (wsV RX4 127 RX4 yX4_layTrial wsX4_layTrial) := goodIn_app (goodIn_of _ (by decide +kernel)) ggX4_chance_X4_layTrial
set_option maxRecDepth 20000 in
theorem ggX4_chance_X4_tenTo : GoodIn wsX4_chance wsX4_tenTo := goodIn_r _ [25] (by decide +kernel) (by decide +kernel)
set_option maxRecDepth 20000 in
theorem gX4_chance_X4_tenTo : GoodIn wsX4_chance (va_wsS RX4 131 yX4_tenTo wsX4_tenTo) := goodIn_app (goodIn_of _ (by decide +kernel)) ggX4_chance_X4_tenTo
set_option maxRecDepth 20000 in
theorem ggX4_chance_X4_may : GoodIn wsX4_chance wsX4_may := goodIn_r _ [29, 3, 30, 31, 32, 6, 33, 48, 49, 50, 51, 52, 53, 54, 55, 56, 57, 58, 59, 60, 61, 62, 63, 64, 65, 66, 67, 68, 69, 70, 71] (by decide +kernel) (by decide +kernel)
set_option maxRecDepth 20000 in
theorem gX4_chance_X4_may : GoodIn wsX4_chance (wsV RX4 99 RX4 yX4_may wsX4_may) := goodIn_app (goodIn_of _ (by decide +kernel)) ggX4_chance_X4_may
set_option maxRecDepth 20000 in
theorem ggX4_chance_X4_sayOn : GoodIn wsX4_chance wsX4_sayOn := goodIn_r _ [37, 30, 3, 38, 39, 40, 6, 41, 42, 43, 44, 48, 49, 50, 51, 52, 53, 54, 55, 56, 57, 58, 59, 60, 61, 62, 63, 64, 65, 66, 67, 68, 69, 70, 71] (by decide +kernel) (by decide +kernel)
set_option maxRecDepth 20000 in
theorem gX4_chance_X4_sayOn : GoodIn wsX4_chance (wsV RX4 114 RX4 yX4_sayOn wsX4_sayOn) := goodIn_app (goodIn_of _ (by decide +kernel)) ggX4_chance_X4_sayOn
set_option maxRecDepth 20000 in
theorem ggX4_chance_X4_common : GoodIn wsX4_chance wsX4_common := goodIn_r _ [47] (by decide +kernel) (by decide +kernel)
set_option maxRecDepth 20000 in
theorem gX4_chance_X4_common : GoodIn wsX4_chance (va_wsS RX4 170 yX4_common wsX4_common) := goodIn_app (goodIn_of _ (by decide +kernel)) ggX4_chance_X4_common
theorem dX4_chance_0 : decode cX4_chance 0 = .ok (.iload_n 1, 1) := by decide +kernel
theorem dX4_chance_1 : decode cX4_chance 1 = .ok (.i2l, 1) := by decide +kernel
theorem dX4_chance_2 : decode cX4_chance 2 = .ok (.lconst 1, 1) := by decide +kernel
theorem dX4_chance_3 : decode cX4_chance 3 = .ok (.ldc2_w 160, 3) := by decide +kernel
theorem dX4_chance_6 : decode cX4_chance 6 = .ok (.invokestatic 46, 3) := by decide +kernel
theorem dX4_chance_9 : decode cX4_chance 9 = .ok (.ifCond .eq 15, 3) := by decide +kernel
theorem dX4_chance_12 : decode cX4_chance 12 = .ok (.iload_n 2, 1) := by decide +kernel
theorem dX4_chance_13 : decode cX4_chance 13 = .ok (.i2l, 1) := by decide +kernel
theorem dX4_chance_14 : decode cX4_chance 14 = .ok (.lconst 0, 1) := by decide +kernel
theorem dX4_chance_15 : decode cX4_chance 15 = .ok (.ldc2_w 119, 3) := by decide +kernel
theorem dX4_chance_18 : decode cX4_chance 18 = .ok (.invokestatic 46, 3) := by decide +kernel
theorem dX4_chance_21 : decode cX4_chance 21 = .ok (.ifCond .ne 6, 3) := by decide +kernel
theorem dX4_chance_24 : decode cX4_chance 24 = .ok (.bipush (-2), 2) := by decide +kernel
theorem dX4_chance_26 : decode cX4_chance 26 = .ok (.ireturn, 1) := by decide +kernel
theorem dX4_chance_27 : decode cX4_chance 27 = .ok (.aload_n 0, 1) := by decide +kernel
theorem dX4_chance_28 : decode cX4_chance 28 = .ok (.getfield 16, 3) := by decide +kernel
theorem dX4_chance_31 : decode cX4_chance 31 = .ok (.iconst 0, 1) := by decide +kernel
theorem dX4_chance_32 : decode cX4_chance 32 = .ok (.iaload, 1) := by decide +kernel
theorem dX4_chance_33 : decode cX4_chance 33 = .ok (.ifCond .ne 28, 3) := by decide +kernel
theorem dX4_chance_36 : decode cX4_chance 36 = .ok (.iload_n 3, 1) := by decide +kernel
theorem dX4_chance_37 : decode cX4_chance 37 = .ok (.ifCond .eq 22, 3) := by decide +kernel
theorem dX4_chance_40 : decode cX4_chance 40 = .ok (.aload_n 0, 1) := by decide +kernel
theorem dX4_chance_41 : decode cX4_chance 41 = .ok (.getfield 16, 3) := by decide +kernel
theorem dX4_chance_44 : decode cX4_chance 44 = .ok (.bipush 22, 2) := by decide +kernel
theorem dX4_chance_46 : decode cX4_chance 46 = .ok (.iaload, 1) := by decide +kernel
theorem dX4_chance_47 : decode cX4_chance 47 = .ok (.iload_n 2, 1) := by decide +kernel
theorem dX4_chance_48 : decode cX4_chance 48 = .ok (.if_icmp .ne 7, 3) := by decide +kernel
theorem dX4_chance_51 : decode cX4_chance 51 = .ok (.iconst 1, 1) := by decide +kernel
theorem dX4_chance_52 : decode cX4_chance 52 = .ok (.goto 8, 3) := by decide +kernel
theorem dX4_chance_55 : decode cX4_chance 55 = .ok (.iconst 0, 1) := by decide +kernel
theorem dX4_chance_56 : decode cX4_chance 56 = .ok (.goto 4, 3) := by decide +kernel
theorem dX4_chance_59 : decode cX4_chance 59 = .ok (.iconst 1, 1) := by decide +kernel
theorem dX4_chance_60 : decode cX4_chance 60 = .ok (.ireturn, 1) := by decide +kernel
theorem dX4_chance_61 : decode cX4_chance 61 = .ok (.iconst 0, 1) := by decide +kernel
theorem dX4_chance_62 : decode cX4_chance 62 = .ok (.istore 4, 2) := by decide +kernel
theorem dX4_chance_64 : decode cX4_chance 64 = .ok (.iconst 0, 1) := by decide +kernel
theorem dX4_chance_65 : decode cX4_chance 65 = .ok (.istore 5, 2) := by decide +kernel
theorem dX4_chance_67 : decode cX4_chance 67 = .ok (.iconst 0, 1) := by decide +kernel
theorem dX4_chance_68 : decode cX4_chance 68 = .ok (.istore 6, 2) := by decide +kernel
theorem dX4_chance_70 : decode cX4_chance 70 = .ok (.iload 6, 2) := by decide +kernel
theorem dX4_chance_72 : decode cX4_chance 72 = .ok (.iload_n 1, 1) := by decide +kernel
theorem dX4_chance_73 : decode cX4_chance 73 = .ok (.invokestatic 141, 3) := by decide +kernel
theorem dX4_chance_76 : decode cX4_chance 76 = .ok (.if_icmp .ge 116, 3) := by decide +kernel
theorem dX4_chance_79 : decode cX4_chance 79 = .ok (.iload 6, 2) := by decide +kernel
theorem dX4_chance_81 : decode cX4_chance 81 = .ok (.iload_n 1, 1) := by decide +kernel
theorem dX4_chance_82 : decode cX4_chance 82 = .ok (.invokestatic 144, 3) := by decide +kernel
theorem dX4_chance_85 : decode cX4_chance 85 = .ok (.istore 7, 2) := by decide +kernel
theorem dX4_chance_87 : decode cX4_chance 87 = .ok (.iload 7, 2) := by decide +kernel
theorem dX4_chance_89 : decode cX4_chance 89 = .ok (.invokestatic 164, 3) := by decide +kernel
theorem dX4_chance_92 : decode cX4_chance 92 = .ok (.aload_n 0, 1) := by decide +kernel
theorem dX4_chance_93 : decode cX4_chance 93 = .ok (.getfield 16, 3) := by decide +kernel
theorem dX4_chance_96 : decode cX4_chance 96 = .ok (.iconst 0, 1) := by decide +kernel
theorem dX4_chance_97 : decode cX4_chance 97 = .ok (.iaload, 1) := by decide +kernel
theorem dX4_chance_98 : decode cX4_chance 98 = .ok (.iconst (-1), 1) := by decide +kernel
theorem dX4_chance_99 : decode cX4_chance 99 = .ok (.ixor, 1) := by decide +kernel
theorem dX4_chance_100 : decode cX4_chance 100 = .ok (.iand, 1) := by decide +kernel
theorem dX4_chance_101 : decode cX4_chance 101 = .ok (.ifCond .ne 85, 3) := by decide +kernel
theorem dX4_chance_104 : decode cX4_chance 104 = .ok (.aload_n 0, 1) := by decide +kernel
theorem dX4_chance_105 : decode cX4_chance 105 = .ok (.aload_n 0, 1) := by decide +kernel
theorem dX4_chance_106 : decode cX4_chance 106 = .ok (.getfield 16, 3) := by decide +kernel
theorem dX4_chance_109 : decode cX4_chance 109 = .ok (.iconst 0, 1) := by decide +kernel
theorem dX4_chance_110 : decode cX4_chance 110 = .ok (.iaload, 1) := by decide +kernel
theorem dX4_chance_111 : decode cX4_chance 111 = .ok (.invokevirtual 127, 3) := by decide +kernel
theorem dX4_chance_114 : decode cX4_chance 114 = .ok (.iload_n 1, 1) := by decide +kernel
theorem dX4_chance_115 : decode cX4_chance 115 = .ok (.iconst 1, 1) := by decide +kernel
theorem dX4_chance_116 : decode cX4_chance 116 = .ok (.isub, 1) := by decide +kernel
theorem dX4_chance_117 : decode cX4_chance 117 = .ok (.istore 8, 2) := by decide +kernel
theorem dX4_chance_119 : decode cX4_chance 119 = .ok (.iload 8, 2) := by decide +kernel
theorem dX4_chance_121 : decode cX4_chance 121 = .ok (.ifCond .lt 41, 3) := by decide +kernel
theorem dX4_chance_124 : decode cX4_chance 124 = .ok (.iload 7, 2) := by decide +kernel
theorem dX4_chance_126 : decode cX4_chance 126 = .ok (.iload 8, 2) := by decide +kernel
theorem dX4_chance_128 : decode cX4_chance 128 = .ok (.invokestatic 131, 3) := by decide +kernel
theorem dX4_chance_131 : decode cX4_chance 131 = .ok (.idiv, 1) := by decide +kernel
theorem dX4_chance_132 : decode cX4_chance 132 = .ok (.bipush 10, 2) := by decide +kernel
theorem dX4_chance_134 : decode cX4_chance 134 = .ok (.irem, 1) := by decide +kernel
theorem dX4_chance_135 : decode cX4_chance 135 = .ok (.iconst 1, 1) := by decide +kernel
theorem dX4_chance_136 : decode cX4_chance 136 = .ok (.isub, 1) := by decide +kernel
theorem dX4_chance_137 : decode cX4_chance 137 = .ok (.istore 9, 2) := by decide +kernel
theorem dX4_chance_139 : decode cX4_chance 139 = .ok (.aload_n 0, 1) := by decide +kernel
theorem dX4_chance_140 : decode cX4_chance 140 = .ok (.iconst 1, 1) := by decide +kernel
theorem dX4_chance_141 : decode cX4_chance 141 = .ok (.iload 9, 2) := by decide +kernel
theorem dX4_chance_143 : decode cX4_chance 143 = .ok (.invokevirtual 99, 3) := by decide +kernel
theorem dX4_chance_146 : decode cX4_chance 146 = .ok (.ifCond .eq 10, 3) := by decide +kernel
theorem dX4_chance_149 : decode cX4_chance 149 = .ok (.aload_n 0, 1) := by decide +kernel
theorem dX4_chance_150 : decode cX4_chance 150 = .ok (.iconst 1, 1) := by decide +kernel
theorem dX4_chance_151 : decode cX4_chance 151 = .ok (.iload 9, 2) := by decide +kernel
theorem dX4_chance_153 : decode cX4_chance 153 = .ok (.invokevirtual 114, 3) := by decide +kernel
theorem dX4_chance_156 : decode cX4_chance 156 = .ok (.iinc 8 (-1), 3) := by decide +kernel
theorem dX4_chance_159 : decode cX4_chance 159 = .ok (.goto (-40), 3) := by decide +kernel
theorem dX4_chance_162 : decode cX4_chance 162 = .ok (.iinc 5 1, 3) := by decide +kernel
theorem dX4_chance_165 : decode cX4_chance 165 = .ok (.iload 4, 2) := by decide +kernel
theorem dX4_chance_167 : decode cX4_chance 167 = .ok (.aload_n 0, 1) := by decide +kernel
theorem dX4_chance_168 : decode cX4_chance 168 = .ok (.getfield 16, 3) := by decide +kernel
theorem dX4_chance_171 : decode cX4_chance 171 = .ok (.bipush 49, 2) := by decide +kernel
theorem dX4_chance_173 : decode cX4_chance 173 = .ok (.iaload, 1) := by decide +kernel
theorem dX4_chance_174 : decode cX4_chance 174 = .ok (.iload_n 2, 1) := by decide +kernel
theorem dX4_chance_175 : decode cX4_chance 175 = .ok (.if_icmp .ne 7, 3) := by decide +kernel
theorem dX4_chance_178 : decode cX4_chance 178 = .ok (.iconst 1, 1) := by decide +kernel
theorem dX4_chance_179 : decode cX4_chance 179 = .ok (.goto 4, 3) := by decide +kernel
theorem dX4_chance_182 : decode cX4_chance 182 = .ok (.iconst 0, 1) := by decide +kernel
theorem dX4_chance_183 : decode cX4_chance 183 = .ok (.iadd, 1) := by decide +kernel
theorem dX4_chance_184 : decode cX4_chance 184 = .ok (.istore 4, 2) := by decide +kernel
theorem dX4_chance_186 : decode cX4_chance 186 = .ok (.iinc 6 1, 3) := by decide +kernel
theorem dX4_chance_189 : decode cX4_chance 189 = .ok (.goto (-119), 3) := by decide +kernel
theorem dX4_chance_192 : decode cX4_chance 192 = .ok (.iload 4, 2) := by decide +kernel
theorem dX4_chance_194 : decode cX4_chance 194 = .ok (.iload 5, 2) := by decide +kernel
theorem dX4_chance_196 : decode cX4_chance 196 = .ok (.invokestatic 170, 3) := by decide +kernel
theorem dX4_chance_199 : decode cX4_chance 199 = .ok (.istore 6, 2) := by decide +kernel
theorem dX4_chance_201 : decode cX4_chance 201 = .ok (.iload_n 3, 1) := by decide +kernel
theorem dX4_chance_202 : decode cX4_chance 202 = .ok (.ifCond .eq 11, 3) := by decide +kernel
theorem dX4_chance_205 : decode cX4_chance 205 = .ok (.iload 4, 2) := by decide +kernel
theorem dX4_chance_207 : decode cX4_chance 207 = .ok (.iload 6, 2) := by decide +kernel
theorem dX4_chance_209 : decode cX4_chance 209 = .ok (.idiv, 1) := by decide +kernel
theorem dX4_chance_210 : decode cX4_chance 210 = .ok (.goto 8, 3) := by decide +kernel
theorem dX4_chance_213 : decode cX4_chance 213 = .ok (.iload 5, 2) := by decide +kernel
theorem dX4_chance_215 : decode cX4_chance 215 = .ok (.iload 6, 2) := by decide +kernel
theorem dX4_chance_217 : decode cX4_chance 217 = .ok (.idiv, 1) := by decide +kernel
theorem dX4_chance_218 : decode cX4_chance 218 = .ok (.ireturn, 1) := by decide +kernel
set_option maxRecDepth 20000 in
theorem hiX4_chance_X4 : ∀ w ∈ u_ws RX4 TX4 24, w ∈ wsX4_chance := by decide +kernel
set_option maxHeartbeats 4000000 in
set_option maxRecDepth 100000 in
theorem wm_chance_186 {p : Program} {l : Launch} {e : Env} {s : State} {m : MethodId} {args : Array Value} {below : List Frame} {meth : Method} {c : Code} {D : va_G} {L : Nat → Nat} {K : Nat → ClassId} (hJ : gj L 12) (C0 : gC cX4_chance 10 (some .int) wsX4_chance RX4 p s m args meth c) (hK : va_K D vwCl (tyG K) s) (hE : eM s) {w9 : St} {rs : Int32} (k70 : Int32 → Int32 → Int32 → Int32 → Int32 → Int32 → St → Option (Int32 × St)) (i70 : ∀ (x1 : Int32) (x2 : Int32) (x3 : Int32) (x4 : Int32) (x5 : Int32) (x6 : Int32) (w : St) (H : Heap) (locs : List Loc) (ls : Array Slot), va_P D vwCl (gl L 12 (cM L K w)) H → va_S (gA L 12) s.heap H locs → lv_has ls 10 [(0, .ref (L 0)), (1, .int x1), (2, .int x2), (3, .int x3), (4, .int x4), (5, .int x5), (6, .int x6)] → k70 x1 x2 x3 x4 x5 x6 w = some (rs, w9) → W p l e { frames := 3, cells := 0, slots := 0, locals := 67 } s m args below meth c H locs 0 0 (MQ below (qI D L 12 (cM L K) rs w9) args s 0 0 (gA L 12)) (F0 m 70 ls [])) : ∀ (x1 : Int32) (x2 : Int32) (x3 : Int32) (x4 : Int32) (x5 : Int32) (x6 : Int32) (w : St) (H : Heap) (locs : List Loc) (ls : Array Slot), va_P D vwCl (gl L 12 (cM L K w)) H → va_S (gA L 12) s.heap H locs → lv_has ls 10 [(0, .ref (L 0)), (1, .int x1), (2, .int x2), (3, .int x3), (4, .int x4), (5, .int x5), (6, .int x6)] → fm_chance_186 k70 x1 x2 x3 x4 x5 x6 w = some (rs, w9) → W p l e { frames := 3, cells := 0, slots := 0, locals := 67 } s m args below meth c H locs 0 0 (MQ below (qI D L 12 (cM L K) rs w9) args s 0 0 (gA L 12)) (F0 m 186 ls []) := by
  obtain ⟨hx, hb, hr, hml, hown, hts, hlk⟩ := id C0
  intro x1 x2 x3 x4 x5 x6 w H locs ls hw hS hl hf
  unfold fm_chance_186 at hf
  refine lv_iinc (v := (x6 + 1)) (lv' := [(6, .int (x6 + 1)), (0, .ref (L 0)), (1, .int x1), (2, .int x2), (3, .int x3), (4, .int x4), (5, .int x5)]) hx hb dX4_chance_186 hl (k := 6) rfl rfl (by decide) rfl (fun ls hl => ?_)
  refine lv_goto (tgt := 70) hx hb dX4_chance_189 (by decide) ?_
  exact i70 _ _ _ _ _ _ _ _ _ _ hw hS (lv_sub hl [1, 2, 3, 4, 5, 6, 0] rfl) hf
set_option maxHeartbeats 4000000 in
set_option maxRecDepth 100000 in
theorem wm_chance_183 {p : Program} {l : Launch} {e : Env} {s : State} {m : MethodId} {args : Array Value} {below : List Frame} {meth : Method} {c : Code} {D : va_G} {L : Nat → Nat} {K : Nat → ClassId} (hJ : gj L 12) (C0 : gC cX4_chance 10 (some .int) wsX4_chance RX4 p s m args meth c) (hK : va_K D vwCl (tyG K) s) (hE : eM s) {w9 : St} {rs : Int32} (k70 : Int32 → Int32 → Int32 → Int32 → Int32 → Int32 → St → Option (Int32 × St)) (i70 : ∀ (x1 : Int32) (x2 : Int32) (x3 : Int32) (x4 : Int32) (x5 : Int32) (x6 : Int32) (w : St) (H : Heap) (locs : List Loc) (ls : Array Slot), va_P D vwCl (gl L 12 (cM L K w)) H → va_S (gA L 12) s.heap H locs → lv_has ls 10 [(0, .ref (L 0)), (1, .int x1), (2, .int x2), (3, .int x3), (4, .int x4), (5, .int x5), (6, .int x6)] → k70 x1 x2 x3 x4 x5 x6 w = some (rs, w9) → W p l e { frames := 3, cells := 0, slots := 0, locals := 67 } s m args below meth c H locs 0 0 (MQ below (qI D L 12 (cM L K) rs w9) args s 0 0 (gA L 12)) (F0 m 70 ls [])) : ∀ (x1 : Int32) (x2 : Int32) (x3 : Int32) (x5 : Int32) (x6 : Int32) (s0 : Int32) (s1 : Int32) (w : St) (H : Heap) (locs : List Loc) (ls : Array Slot), va_P D vwCl (gl L 12 (cM L K w)) H → va_S (gA L 12) s.heap H locs → lv_has ls 10 [(0, .ref (L 0)), (1, .int x1), (2, .int x2), (3, .int x3), (5, .int x5), (6, .int x6)] → fm_chance_183 k70 x1 x2 x3 x5 x6 s0 s1 w = some (rs, w9) → W p l e { frames := 3, cells := 0, slots := 0, locals := 67 } s m args below meth c H locs 0 0 (MQ below (qI D L 12 (cM L K) rs w9) args s 0 0 (gA L 12)) (F0 m 183 ls [.int s1, .int s0]) := by
  obtain ⟨hx, hb, hr, hml, hown, hts, hlk⟩ := id C0
  intro x1 x2 x3 x5 x6 s0 s1 w H locs ls hw hS hl hf
  unfold fm_chance_183 at hf
  refine lv_iadd hx hb dX4_chance_183 ?_
  refine lv_topi (fun v184 e184 => ?_)
  replace hf := lb_e hf e184
  refine lv_istore (lv' := [(4, .int v184), (0, .ref (L 0)), (1, .int x1), (2, .int x2), (3, .int x3), (5, .int x5), (6, .int x6)]) hx hb dX4_chance_184 hl (by decide) rfl (fun ls hl => ?_)
  exact wm_chance_186 hJ C0 hK hE _ i70 _ _ _ _ _ _ _ _ _ _ hw hS (lv_sub hl [1, 2, 3, 4, 0, 5, 6] rfl) hf
set_option maxHeartbeats 4000000 in
set_option maxRecDepth 100000 in
theorem wm_chance_156 {p : Program} {l : Launch} {e : Env} {s : State} {m : MethodId} {args : Array Value} {below : List Frame} {meth : Method} {c : Code} {D : va_G} {L : Nat → Nat} {K : Nat → ClassId} (hJ : gj L 12) (C0 : gC cX4_chance 10 (some .int) wsX4_chance RX4 p s m args meth c) (hK : va_K D vwCl (tyG K) s) (hE : eM s) {w9 : St} {rs : Int32} (k70 : Int32 → Int32 → Int32 → Int32 → Int32 → Int32 → St → Option (Int32 × St)) (i70 : ∀ (x1 : Int32) (x2 : Int32) (x3 : Int32) (x4 : Int32) (x5 : Int32) (x6 : Int32) (w : St) (H : Heap) (locs : List Loc) (ls : Array Slot), va_P D vwCl (gl L 12 (cM L K w)) H → va_S (gA L 12) s.heap H locs → lv_has ls 10 [(0, .ref (L 0)), (1, .int x1), (2, .int x2), (3, .int x3), (4, .int x4), (5, .int x5), (6, .int x6)] → k70 x1 x2 x3 x4 x5 x6 w = some (rs, w9) → W p l e { frames := 3, cells := 0, slots := 0, locals := 67 } s m args below meth c H locs 0 0 (MQ below (qI D L 12 (cM L K) rs w9) args s 0 0 (gA L 12)) (F0 m 70 ls [])) (k119 : Int32 → Int32 → Int32 → Int32 → Int32 → Int32 → Int32 → Int32 → St → Option (Int32 × St)) (i119 : ∀ (x1 : Int32) (x2 : Int32) (x3 : Int32) (x4 : Int32) (x5 : Int32) (x6 : Int32) (x7 : Int32) (x8 : Int32) (w : St) (H : Heap) (locs : List Loc) (ls : Array Slot), va_P D vwCl (gl L 12 (cM L K w)) H → va_S (gA L 12) s.heap H locs → lv_has ls 10 [(0, .ref (L 0)), (1, .int x1), (2, .int x2), (3, .int x3), (4, .int x4), (5, .int x5), (6, .int x6), (7, .int x7), (8, .int x8)] → k119 x1 x2 x3 x4 x5 x6 x7 x8 w = some (rs, w9) → W p l e { frames := 3, cells := 0, slots := 0, locals := 67 } s m args below meth c H locs 0 0 (MQ below (qI D L 12 (cM L K) rs w9) args s 0 0 (gA L 12)) (F0 m 119 ls [])) : ∀ (x1 : Int32) (x2 : Int32) (x3 : Int32) (x4 : Int32) (x5 : Int32) (x6 : Int32) (x7 : Int32) (x8 : Int32) (w : St) (H : Heap) (locs : List Loc) (ls : Array Slot), va_P D vwCl (gl L 12 (cM L K w)) H → va_S (gA L 12) s.heap H locs → lv_has ls 10 [(0, .ref (L 0)), (1, .int x1), (2, .int x2), (3, .int x3), (4, .int x4), (5, .int x5), (6, .int x6), (7, .int x7), (8, .int x8)] → fm_chance_156 k70 k119 x1 x2 x3 x4 x5 x6 x7 x8 w = some (rs, w9) → W p l e { frames := 3, cells := 0, slots := 0, locals := 67 } s m args below meth c H locs 0 0 (MQ below (qI D L 12 (cM L K) rs w9) args s 0 0 (gA L 12)) (F0 m 156 ls []) := by
  obtain ⟨hx, hb, hr, hml, hown, hts, hlk⟩ := id C0
  intro x1 x2 x3 x4 x5 x6 x7 x8 w H locs ls hw hS hl hf
  unfold fm_chance_156 at hf
  refine lv_iinc (v := (x8 + (-1))) (lv' := [(8, .int (x8 + (-1))), (0, .ref (L 0)), (1, .int x1), (2, .int x2), (3, .int x3), (4, .int x4), (5, .int x5), (6, .int x6), (7, .int x7)]) hx hb dX4_chance_156 hl (k := 8) rfl rfl (by decide) rfl (fun ls hl => ?_)
  refine lv_goto (tgt := 119) hx hb dX4_chance_159 (by decide) ?_
  exact i119 _ _ _ _ _ _ _ _ _ _ _ _ hw hS (lv_sub hl [1, 2, 3, 4, 5, 6, 7, 8, 0] rfl) hf
set_option maxHeartbeats 4000000 in
set_option maxRecDepth 100000 in
theorem wm_chance_119 {p : Program} {l : Launch} {e : Env} {s : State} {m : MethodId} {args : Array Value} {below : List Frame} {meth : Method} {c : Code} {D : va_G} {L : Nat → Nat} {K : Nat → ClassId} (hJ : gj L 12) (C0 : gC cX4_chance 10 (some .int) wsX4_chance RX4 p s m args meth c) (hK : va_K D vwCl (tyG K) s) (hE : eM s) {w9 : St} {rs : Int32} (k70 : Int32 → Int32 → Int32 → Int32 → Int32 → Int32 → St → Option (Int32 × St)) (i70 : ∀ (x1 : Int32) (x2 : Int32) (x3 : Int32) (x4 : Int32) (x5 : Int32) (x6 : Int32) (w : St) (H : Heap) (locs : List Loc) (ls : Array Slot), va_P D vwCl (gl L 12 (cM L K w)) H → va_S (gA L 12) s.heap H locs → lv_has ls 10 [(0, .ref (L 0)), (1, .int x1), (2, .int x2), (3, .int x3), (4, .int x4), (5, .int x5), (6, .int x6)] → k70 x1 x2 x3 x4 x5 x6 w = some (rs, w9) → W p l e { frames := 3, cells := 0, slots := 0, locals := 67 } s m args below meth c H locs 0 0 (MQ below (qI D L 12 (cM L K) rs w9) args s 0 0 (gA L 12)) (F0 m 70 ls [])) : ∀ (fu : Nat) (x1 : Int32) (x2 : Int32) (x3 : Int32) (x4 : Int32) (x5 : Int32) (x6 : Int32) (x7 : Int32) (x8 : Int32) (w : St) (H : Heap) (locs : List Loc) (ls : Array Slot), va_P D vwCl (gl L 12 (cM L K w)) H → va_S (gA L 12) s.heap H locs → lv_has ls 10 [(0, .ref (L 0)), (1, .int x1), (2, .int x2), (3, .int x3), (4, .int x4), (5, .int x5), (6, .int x6), (7, .int x7), (8, .int x8)] → fm_chance_119 k70 fu x1 x2 x3 x4 x5 x6 x7 x8 w = some (rs, w9) → W p l e { frames := 3, cells := 0, slots := 0, locals := 67 } s m args below meth c H locs 0 0 (MQ below (qI D L 12 (cM L K) rs w9) args s 0 0 (gA L 12)) (F0 m 119 ls []) := by
  obtain ⟨hx, hb, hr, hml, hown, hts, hlk⟩ := id C0
  intro fu
  induction fu with
  | zero =>
    intro x1 x2 x3 x4 x5 x6 x7 x8 w H locs ls hw hS hl hf
    rw [fm_chance_119] at hf
    exact no_n hf
  | succ fu ih =>
    intro x1 x2 x3 x4 x5 x6 x7 x8 w H locs ls hw hS hl hf
    rw [fm_chance_119] at hf
    refine lv_iload hx hb dX4_chance_119 (lv_at hl 8 rfl) ?_
    refine lv_if_lt (tgt := 162) hx hb dX4_chance_121 (by decide) (fun c121 => ?_) (fun c121 => ?_)
    · replace hf := if_t hf c121
      refine lv_iinc (v := (x5 + 1)) (lv' := [(5, .int (x5 + 1)), (0, .ref (L 0)), (1, .int x1), (2, .int x2), (3, .int x3), (4, .int x4), (6, .int x6), (7, .int x7), (8, .int x8)]) hx hb dX4_chance_162 hl (k := 5) rfl rfl (by decide) rfl (fun ls hl => ?_)
      refine lv_iload hx hb dX4_chance_165 (lv_at hl 5 rfl) ?_
      refine lv_aload_n hx hb dX4_chance_167 rfl (lv_at hl 1 rfl) ?_
      refine z_get (v := .ref (L 3)) hx hb hts hiX4_chance_X4 hown hK hw (k := 0) (by decide) ((fun w => rfl) _) rfl 4 (by decide) (hts (.fieldLink RX4 16 "OneSentenceModel" "now" "[I") (by decide +kernel)) rfl dX4_chance_168 ?_
      refine lv_bipush (v := 49) hx hb dX4_chance_171 (by decide) ?_
      obtain ⟨v173, h173, hf⟩ := bd_e hf
      refine z_iald hx hb hK hw 0 (k := 3) (by decide) ((fun w => rfl) _) rfl h173 dX4_chance_173 ?_
      refine lv_iload_n hx hb dX4_chance_174 rfl (lv_at hl 3 rfl) ?_
      refine lv_icmp_ne (tgt := 182) hx hb dX4_chance_175 (by decide) (fun c175 => ?_) (fun c175 => ?_)
      · replace hf := if_f hf c175
        refine lv_iconst (v := 0) hx hb dX4_chance_182 (by decide) ?_
        exact wm_chance_183 hJ C0 hK hE _ i70 _ _ _ _ _ _ _ _ _ _ _ hw hS (lv_sub hl [1, 2, 3, 4, 0, 6] rfl) hf
      · replace hf := if_t hf c175
        refine lv_iconst (v := 1) hx hb dX4_chance_178 (by decide) ?_
        refine lv_goto (tgt := 183) hx hb dX4_chance_179 (by decide) ?_
        exact wm_chance_183 hJ C0 hK hE _ i70 _ _ _ _ _ _ _ _ _ _ _ hw hS (lv_sub hl [1, 2, 3, 4, 0, 6] rfl) hf
    · replace hf := if_f hf c121
      refine lv_iload hx hb dX4_chance_124 (lv_at hl 7 rfl) ?_
      refine lv_iload hx hb dX4_chance_126 (lv_at hl 8 rfl) ?_
      obtain ⟨v128, h128, hf⟩ := bd_e hf
      refine z_calls (va_runS (As := [.int x8]) (rest := [.int x7]) ⟨hx, hb, hml, hown, hts⟩ (km_tenTo l x8 h128) (va_cwS 1 hts gX4_chance_X4_tenTo rfl rfl rfl (by decide +kernel) ⟨Nat.le_of_ble_eq_true rfl, Nat.le_of_ble_eq_true rfl⟩) z_preT rfl rfl hl.1 rfl (lv_room (Nat.le_of_ble_eq_true rfl)) dX4_chance_128 ⟨Nat.le_of_ble_eq_true rfl, Nat.le_of_ble_eq_true rfl⟩) ?_
      obtain ⟨v131, h131, hf⟩ := bd_e hf
      obtain ⟨n131, j131⟩ := gd_e h131
      refine lv_idiv hx hb dX4_chance_131 n131 ?_
      rw [j131]
      refine lv_bipush (v := 10) hx hb dX4_chance_132 (by decide) ?_
      refine lv_irem hx hb dX4_chance_134 (by decide) ?_
      refine lv_iconst (v := 1) hx hb dX4_chance_135 (by decide) ?_
      refine lv_isub hx hb dX4_chance_136 ?_
      refine lv_topi (fun v137 e137 => ?_)
      replace hf := lb_e hf e137
      refine lv_istore (lv' := [(9, .int v137), (0, .ref (L 0)), (1, .int x1), (2, .int x2), (3, .int x3), (4, .int x4), (5, .int x5), (6, .int x6), (7, .int x7), (8, .int x8)]) hx hb dX4_chance_137 hl (by decide) rfl (fun ls hl => ?_)
      refine lv_aload_n hx hb dX4_chance_139 rfl (lv_at hl 1 rfl) ?_
      refine lv_iconst (v := 1) hx hb dX4_chance_140 (by decide) ?_
      refine lv_iload hx hb dX4_chance_141 (lv_at hl 0 rfl) ?_
      obtain ⟨q143, h143, hf⟩ := bd_e hf
      refine z_calli (va_runV (As := [.int 1, .int v137]) (rest := []) ⟨hx, hb, hml, hown, hts⟩ (km_may l (D := D) (K := K) hJ 1 v137 w  h143) (cwV 2 hts gX4_chance_X4_may rfl rfl rfl (by decide +kernel) ⟨Nat.le_of_ble_eq_true rfl, Nat.le_of_ble_eq_true rfl⟩) (z_preV eM_ok hK hE hw hS (by decide) ((fun w => rfl) _) (T := TX4) (M := 24) rfl) rfl rfl hl.1 rfl (lv_room (Nat.le_of_ble_eq_true rfl)) dX4_chance_143 ⟨Nat.le_of_ble_eq_true rfl, Nat.le_of_ble_eq_true rfl⟩) hS (fun H locs hw hS => ?_)
      refine lv_if_eq (tgt := 156) hx hb dX4_chance_146 (by decide) (fun c146 => ?_) (fun c146 => ?_)
      · replace hf := if_t hf c146
        exact wm_chance_156 hJ C0 hK hE _ i70 _ ih _ _ _ _ _ _ _ _ _ _ _ _ hw hS (lv_sub hl [1, 2, 3, 4, 5, 6, 7, 8, 9] rfl) hf
      · replace hf := if_f hf c146
        refine lv_aload_n hx hb dX4_chance_149 rfl (lv_at hl 1 rfl) ?_
        refine lv_iconst (v := 1) hx hb dX4_chance_150 (by decide) ?_
        refine lv_iload hx hb dX4_chance_151 (lv_at hl 0 rfl) ?_
        obtain ⟨w153, h153, hf⟩ := bd_e hf
        refine z_callv (va_runV (As := [.int 1, .int v137]) (rest := []) ⟨hx, hb, hml, hown, hts⟩ (km_sayOn l (D := D) (K := K) hJ 1 v137 (q143.2)  h153) (cwV 2 hts gX4_chance_X4_sayOn rfl rfl rfl (by decide +kernel) ⟨Nat.le_of_ble_eq_true rfl, Nat.le_of_ble_eq_true rfl⟩) (z_preV eM_ok hK hE hw hS (by decide) ((fun w => rfl) _) (T := TX4) (M := 24) rfl) rfl rfl hl.1 rfl (lv_room (Nat.le_of_ble_eq_true rfl)) dX4_chance_153 ⟨Nat.le_of_ble_eq_true rfl, Nat.le_of_ble_eq_true rfl⟩) hS (fun H locs hw hS => ?_)
        exact wm_chance_156 hJ C0 hK hE _ i70 _ ih _ _ _ _ _ _ _ _ _ _ _ _ hw hS (lv_sub hl [1, 2, 3, 4, 5, 6, 7, 8, 9] rfl) hf
set_option maxHeartbeats 4000000 in
set_option maxRecDepth 100000 in
theorem wm_chance_70 {p : Program} {l : Launch} {e : Env} {s : State} {m : MethodId} {args : Array Value} {below : List Frame} {meth : Method} {c : Code} {D : va_G} {L : Nat → Nat} {K : Nat → ClassId} (hJ : gj L 12) (C0 : gC cX4_chance 10 (some .int) wsX4_chance RX4 p s m args meth c) (hK : va_K D vwCl (tyG K) s) (hE : eM s) {w9 : St} {rs : Int32} : ∀ (fu : Nat) (x1 : Int32) (x2 : Int32) (x3 : Int32) (x4 : Int32) (x5 : Int32) (x6 : Int32) (w : St) (H : Heap) (locs : List Loc) (ls : Array Slot), va_P D vwCl (gl L 12 (cM L K w)) H → va_S (gA L 12) s.heap H locs → lv_has ls 10 [(0, .ref (L 0)), (1, .int x1), (2, .int x2), (3, .int x3), (4, .int x4), (5, .int x5), (6, .int x6)] → fm_chance_70 fu x1 x2 x3 x4 x5 x6 w = some (rs, w9) → W p l e { frames := 3, cells := 0, slots := 0, locals := 67 } s m args below meth c H locs 0 0 (MQ below (qI D L 12 (cM L K) rs w9) args s 0 0 (gA L 12)) (F0 m 70 ls []) := by
  obtain ⟨hx, hb, hr, hml, hown, hts, hlk⟩ := id C0
  intro fu
  induction fu with
  | zero =>
    intro x1 x2 x3 x4 x5 x6 w H locs ls hw hS hl hf
    rw [fm_chance_70] at hf
    exact no_n hf
  | succ fu ih =>
    intro x1 x2 x3 x4 x5 x6 w H locs ls hw hS hl hf
    rw [fm_chance_70] at hf
    refine lv_iload hx hb dX4_chance_70 (lv_at hl 6 rfl) ?_
    refine lv_iload_n hx hb dX4_chance_72 rfl (lv_at hl 1 rfl) ?_
    obtain ⟨v73, h73, hf⟩ := bd_e hf
    refine z_calls (va_runS (As := [.int x1]) (rest := [.int x6]) ⟨hx, hb, hml, hown, hts⟩ (km_sevens l x1 h73) (va_cwS 1 hts gX4_chance_X4_sevens rfl rfl rfl (by decide +kernel) ⟨Nat.le_of_ble_eq_true rfl, Nat.le_of_ble_eq_true rfl⟩) z_preT rfl rfl hl.1 rfl (lv_room (Nat.le_of_ble_eq_true rfl)) dX4_chance_73 ⟨Nat.le_of_ble_eq_true rfl, Nat.le_of_ble_eq_true rfl⟩) ?_
    refine lv_icmp_ge (tgt := 192) hx hb dX4_chance_76 (by decide) (fun c76 => ?_) (fun c76 => ?_)
    · replace hf := if_t hf c76
      refine lv_iload hx hb dX4_chance_192 (lv_at hl 4 rfl) ?_
      refine lv_iload hx hb dX4_chance_194 (lv_at hl 5 rfl) ?_
      obtain ⟨v196, h196, hf⟩ := bd_e hf
      refine z_calls (va_runS (As := [.int x4, .int x5]) (rest := []) ⟨hx, hb, hml, hown, hts⟩ (km_common l x4 x5 h196) (va_cwS 2 hts gX4_chance_X4_common rfl rfl rfl (by decide +kernel) ⟨Nat.le_of_ble_eq_true rfl, Nat.le_of_ble_eq_true rfl⟩) z_preT rfl rfl hl.1 rfl (lv_room (Nat.le_of_ble_eq_true rfl)) dX4_chance_196 ⟨Nat.le_of_ble_eq_true rfl, Nat.le_of_ble_eq_true rfl⟩) ?_
      refine lv_istore (lv' := [(6, .int v196), (0, .ref (L 0)), (1, .int x1), (2, .int x2), (3, .int x3), (4, .int x4), (5, .int x5)]) hx hb dX4_chance_199 hl (by decide) rfl (fun ls hl => ?_)
      refine lv_iload_n hx hb dX4_chance_201 rfl (lv_at hl 4 rfl) ?_
      refine lv_if_eq (tgt := 213) hx hb dX4_chance_202 (by decide) (fun c202 => ?_) (fun c202 => ?_)
      · replace hf := if_t hf c202
        refine lv_iload hx hb dX4_chance_213 (lv_at hl 6 rfl) ?_
        refine lv_iload hx hb dX4_chance_215 (lv_at hl 0 rfl) ?_
        obtain ⟨v217, h217, hf⟩ := bd_e hf
        obtain ⟨n217, j217⟩ := gd_e h217
        refine lv_idiv hx hb dX4_chance_217 n217 ?_
        rw [j217]
        exact z_iret hx hb hr hlk hw hS hf dX4_chance_218
      · replace hf := if_f hf c202
        refine lv_iload hx hb dX4_chance_205 (lv_at hl 5 rfl) ?_
        refine lv_iload hx hb dX4_chance_207 (lv_at hl 0 rfl) ?_
        obtain ⟨v209, h209, hf⟩ := bd_e hf
        obtain ⟨n209, j209⟩ := gd_e h209
        refine lv_idiv hx hb dX4_chance_209 n209 ?_
        rw [j209]
        refine lv_goto (tgt := 218) hx hb dX4_chance_210 (by decide) ?_
        exact z_iret hx hb hr hlk hw hS hf dX4_chance_218
    · replace hf := if_f hf c76
      refine lv_iload hx hb dX4_chance_79 (lv_at hl 6 rfl) ?_
      refine lv_iload_n hx hb dX4_chance_81 rfl (lv_at hl 1 rfl) ?_
      obtain ⟨v82, h82, hf⟩ := bd_e hf
      refine z_calls (va_runS (As := [.int x6, .int x1]) (rest := []) ⟨hx, hb, hml, hown, hts⟩ (km_rowOf l x6 x1 h82) (va_cwS 2 hts gX4_chance_X4_rowOf rfl rfl rfl (by decide +kernel) ⟨Nat.le_of_ble_eq_true rfl, Nat.le_of_ble_eq_true rfl⟩) z_preT rfl rfl hl.1 rfl (lv_room (Nat.le_of_ble_eq_true rfl)) dX4_chance_82 ⟨Nat.le_of_ble_eq_true rfl, Nat.le_of_ble_eq_true rfl⟩) ?_
      refine lv_istore (lv' := [(7, .int v82), (0, .ref (L 0)), (1, .int x1), (2, .int x2), (3, .int x3), (4, .int x4), (5, .int x5), (6, .int x6)]) hx hb dX4_chance_85 hl (by decide) rfl (fun ls hl => ?_)
      refine lv_iload hx hb dX4_chance_87 (lv_at hl 0 rfl) ?_
      obtain ⟨v89, h89, hf⟩ := bd_e hf
      refine z_calls (va_runS (As := [.int v82]) (rest := []) ⟨hx, hb, hml, hown, hts⟩ (km_whoIn l v82 h89) (va_cwS 1 hts gX4_chance_X4_whoIn rfl rfl rfl (by decide +kernel) ⟨Nat.le_of_ble_eq_true rfl, Nat.le_of_ble_eq_true rfl⟩) z_preT rfl rfl hl.1 rfl (lv_room (Nat.le_of_ble_eq_true rfl)) dX4_chance_89 ⟨Nat.le_of_ble_eq_true rfl, Nat.le_of_ble_eq_true rfl⟩) ?_
      refine lv_aload_n hx hb dX4_chance_92 rfl (lv_at hl 1 rfl) ?_
      refine z_get (v := .ref (L 3)) hx hb hts hiX4_chance_X4 hown hK hw (k := 0) (by decide) ((fun w => rfl) _) rfl 4 (by decide) (hts (.fieldLink RX4 16 "OneSentenceModel" "now" "[I") (by decide +kernel)) rfl dX4_chance_93 ?_
      refine lv_iconst (v := 0) hx hb dX4_chance_96 (by decide) ?_
      obtain ⟨v97, h97, hf⟩ := bd_e hf
      refine z_iald hx hb hK hw 0 (k := 3) (by decide) ((fun w => rfl) _) rfl h97 dX4_chance_97 ?_
      refine lv_iconst (v := (-1)) hx hb dX4_chance_98 (by decide) ?_
      refine lv_ixor hx hb dX4_chance_99 ?_
      refine lv_iand hx hb dX4_chance_100 ?_
      refine lv_if_ne (tgt := 186) hx hb dX4_chance_101 (by decide) (fun c101 => ?_) (fun c101 => ?_)
      · replace hf := if_f hf c101
        exact wm_chance_186 hJ C0 hK hE _ ih _ _ _ _ _ _ _ _ _ _ hw hS (lv_sub hl [1, 2, 3, 4, 5, 6, 7] rfl) hf
      · replace hf := if_t hf c101
        refine lv_aload_n hx hb dX4_chance_104 rfl (lv_at hl 1 rfl) ?_
        refine lv_aload_n hx hb dX4_chance_105 rfl (lv_at hl 1 rfl) ?_
        refine z_get (v := .ref (L 3)) hx hb hts hiX4_chance_X4 hown hK hw (k := 0) (by decide) ((fun w => rfl) _) rfl 4 (by decide) (hts (.fieldLink RX4 16 "OneSentenceModel" "now" "[I") (by decide +kernel)) rfl dX4_chance_106 ?_
        refine lv_iconst (v := 0) hx hb dX4_chance_109 (by decide) ?_
        obtain ⟨v110, h110, hf⟩ := bd_e hf
        refine z_iald hx hb hK hw 0 (k := 3) (by decide) ((fun w => rfl) _) rfl h110 dX4_chance_110 ?_
        obtain ⟨w111, h111, hf⟩ := bd_e hf
        refine z_callv (va_runV (As := [.int v110]) (rest := []) ⟨hx, hb, hml, hown, hts⟩ (km_layTrial l (D := D) (K := K) hJ v110 w  h111) (cwV 1 hts gX4_chance_X4_layTrial rfl rfl rfl (by decide +kernel) ⟨Nat.le_of_ble_eq_true rfl, Nat.le_of_ble_eq_true rfl⟩) (z_preV eM_ok hK hE hw hS (by decide) ((fun w => rfl) _) (T := TX4) (M := 24) rfl) rfl rfl hl.1 rfl (lv_room (Nat.le_of_ble_eq_true rfl)) dX4_chance_111 ⟨Nat.le_of_ble_eq_true rfl, Nat.le_of_ble_eq_true rfl⟩) hS (fun H locs hw hS => ?_)
        refine lv_iload_n hx hb dX4_chance_114 rfl (lv_at hl 2 rfl) ?_
        refine lv_iconst (v := 1) hx hb dX4_chance_115 (by decide) ?_
        refine lv_isub hx hb dX4_chance_116 ?_
        refine lv_topi (fun v117 e117 => ?_)
        replace hf := lb_e hf e117
        refine lv_istore (lv' := [(8, .int v117), (7, .int v82), (0, .ref (L 0)), (1, .int x1), (2, .int x2), (3, .int x3), (4, .int x4), (5, .int x5), (6, .int x6)]) hx hb dX4_chance_117 hl (by decide) rfl (fun ls hl => ?_)
        exact wm_chance_119 hJ C0 hK hE _ ih _ _ _ _ _ _ _ _ _ _ _ _ _ hw hS (lv_sub hl [2, 3, 4, 5, 6, 7, 8, 1, 0] rfl) hf
set_option maxHeartbeats 4000000 in
set_option maxRecDepth 100000 in
theorem wm_chance_0 {p : Program} {l : Launch} {e : Env} {s : State} {m : MethodId} {args : Array Value} {below : List Frame} {meth : Method} {c : Code} {D : va_G} {L : Nat → Nat} {K : Nat → ClassId} (hJ : gj L 12) (C0 : gC cX4_chance 10 (some .int) wsX4_chance RX4 p s m args meth c) (hK : va_K D vwCl (tyG K) s) (hE : eM s) {w9 : St} {rs : Int32} : ∀ (x1 : Int32) (x2 : Int32) (x3 : Int32) (w : St) (H : Heap) (locs : List Loc) (ls : Array Slot), va_P D vwCl (gl L 12 (cM L K w)) H → va_S (gA L 12) s.heap H locs → lv_has ls 10 [(0, .ref (L 0)), (1, .int x1), (2, .int x2), (3, .int x3)] → fm_chance x1 x2 x3 w = some (rs, w9) → W p l e { frames := 3, cells := 0, slots := 0, locals := 67 } s m args below meth c H locs 0 0 (MQ below (qI D L 12 (cM L K) rs w9) args s 0 0 (gA L 12)) (F0 m 0 ls []) := by
  obtain ⟨hx, hb, hr, hml, hown, hts, hlk⟩ := id C0
  intro x1 x2 x3 w H locs ls hw hS hl hf
  unfold fm_chance at hf
  refine lv_iload_n hx hb dX4_chance_0 rfl (lv_at hl 1 rfl) ?_
  refine lv_i2l (v := x1.toInt64) hx hb dX4_chance_1 rfl ?_
  refine lv_lconst (v := 1) hx hb dX4_chance_2 (by decide) ?_
  refine lv_ldc2 (v := 4) hx hb hown (hts (.constantLong RX4 160 4) (by decide +kernel)) dX4_chance_3 ?_
  obtain ⟨v6, h6, hf⟩ := bd_e hf
  refine z_calls (va_runS (As := [.long (x1.toInt64), .long 1, .long 4]) (rest := []) ⟨hx, hb, hml, hown, hts⟩ (km_in l (x1.toInt64) 1 4 h6) (va_cwS 3 hts gX4_chance_X4_in rfl rfl rfl (by decide +kernel) ⟨Nat.le_of_ble_eq_true rfl, Nat.le_of_ble_eq_true rfl⟩) z_preT rfl rfl hl.1 rfl (lv_room (Nat.le_of_ble_eq_true rfl)) dX4_chance_6 ⟨Nat.le_of_ble_eq_true rfl, Nat.le_of_ble_eq_true rfl⟩) ?_
  refine lv_if_eq (tgt := 24) hx hb dX4_chance_9 (by decide) (fun c9 => ?_) (fun c9 => ?_)
  · replace hf := if_t hf c9
    refine lv_bipush (v := (-2)) hx hb dX4_chance_24 (by decide) ?_
    exact z_iret hx hb hr hlk hw hS hf dX4_chance_26
  · replace hf := if_f hf c9
    refine lv_iload_n hx hb dX4_chance_12 rfl (lv_at hl 2 rfl) ?_
    refine lv_i2l (v := x2.toInt64) hx hb dX4_chance_13 rfl ?_
    refine lv_lconst (v := 0) hx hb dX4_chance_14 (by decide) ?_
    refine lv_ldc2 (v := 9) hx hb hown (hts (.constantLong RX4 119 9) (by decide +kernel)) dX4_chance_15 ?_
    obtain ⟨v18, h18, hf⟩ := bd_e hf
    refine z_calls (va_runS (As := [.long (x2.toInt64), .long 0, .long 9]) (rest := []) ⟨hx, hb, hml, hown, hts⟩ (km_in l (x2.toInt64) 0 9 h18) (va_cwS 3 hts gX4_chance_X4_in rfl rfl rfl (by decide +kernel) ⟨Nat.le_of_ble_eq_true rfl, Nat.le_of_ble_eq_true rfl⟩) z_preT rfl rfl hl.1 rfl (lv_room (Nat.le_of_ble_eq_true rfl)) dX4_chance_18 ⟨Nat.le_of_ble_eq_true rfl, Nat.le_of_ble_eq_true rfl⟩) ?_
    refine lv_if_ne (tgt := 27) hx hb dX4_chance_21 (by decide) (fun c21 => ?_) (fun c21 => ?_)
    · replace hf := if_f hf c21
      refine lv_aload_n hx hb dX4_chance_27 rfl (lv_at hl 0 rfl) ?_
      refine z_get (v := .ref (L 3)) hx hb hts hiX4_chance_X4 hown hK hw (k := 0) (by decide) ((fun w => rfl) _) rfl 4 (by decide) (hts (.fieldLink RX4 16 "OneSentenceModel" "now" "[I") (by decide +kernel)) rfl dX4_chance_28 ?_
      refine lv_iconst (v := 0) hx hb dX4_chance_31 (by decide) ?_
      obtain ⟨v32, h32, hf⟩ := bd_e hf
      refine z_iald hx hb hK hw 0 (k := 3) (by decide) ((fun w => rfl) _) rfl h32 dX4_chance_32 ?_
      refine lv_if_ne (tgt := 61) hx hb dX4_chance_33 (by decide) (fun c33 => ?_) (fun c33 => ?_)
      · replace hf := if_f hf c33
        refine lv_iconst (v := 0) hx hb dX4_chance_61 (by decide) ?_
        refine lv_istore (lv' := [(4, .int 0), (0, .ref (L 0)), (1, .int x1), (2, .int x2), (3, .int x3)]) hx hb dX4_chance_62 hl (by decide) rfl (fun ls hl => ?_)
        refine lv_iconst (v := 0) hx hb dX4_chance_64 (by decide) ?_
        refine lv_istore (lv' := [(5, .int 0), (4, .int 0), (0, .ref (L 0)), (1, .int x1), (2, .int x2), (3, .int x3)]) hx hb dX4_chance_65 hl (by decide) rfl (fun ls hl => ?_)
        refine lv_iconst (v := 0) hx hb dX4_chance_67 (by decide) ?_
        refine lv_istore (lv' := [(6, .int 0), (5, .int 0), (4, .int 0), (0, .ref (L 0)), (1, .int x1), (2, .int x2), (3, .int x3)]) hx hb dX4_chance_68 hl (by decide) rfl (fun ls hl => ?_)
        exact wm_chance_70 hJ C0 hK hE _ _ _ _ _ _ _ _ _ _ _ hw hS (lv_sub hl [3, 4, 5, 6, 2, 1, 0] rfl) hf
      · replace hf := if_t hf c33
        refine lv_iload_n hx hb dX4_chance_36 rfl (lv_at hl 3 rfl) ?_
        refine lv_if_eq (tgt := 59) hx hb dX4_chance_37 (by decide) (fun c37 => ?_) (fun c37 => ?_)
        · replace hf := if_t hf c37
          refine lv_iconst (v := 1) hx hb dX4_chance_59 (by decide) ?_
          exact z_iret hx hb hr hlk hw hS hf dX4_chance_60
        · replace hf := if_f hf c37
          refine lv_aload_n hx hb dX4_chance_40 rfl (lv_at hl 0 rfl) ?_
          refine z_get (v := .ref (L 3)) hx hb hts hiX4_chance_X4 hown hK hw (k := 0) (by decide) ((fun w => rfl) _) rfl 4 (by decide) (hts (.fieldLink RX4 16 "OneSentenceModel" "now" "[I") (by decide +kernel)) rfl dX4_chance_41 ?_
          refine lv_bipush (v := 22) hx hb dX4_chance_44 (by decide) ?_
          obtain ⟨v46, h46, hf⟩ := bd_e hf
          refine z_iald hx hb hK hw 0 (k := 3) (by decide) ((fun w => rfl) _) rfl h46 dX4_chance_46 ?_
          refine lv_iload_n hx hb dX4_chance_47 rfl (lv_at hl 2 rfl) ?_
          refine lv_icmp_ne (tgt := 55) hx hb dX4_chance_48 (by decide) (fun c48 => ?_) (fun c48 => ?_)
          · replace hf := if_f hf c48
            refine lv_iconst (v := 0) hx hb dX4_chance_55 (by decide) ?_
            refine lv_goto (tgt := 60) hx hb dX4_chance_56 (by decide) ?_
            exact z_iret hx hb hr hlk hw hS hf dX4_chance_60
          · replace hf := if_t hf c48
            refine lv_iconst (v := 1) hx hb dX4_chance_51 (by decide) ?_
            refine lv_goto (tgt := 60) hx hb dX4_chance_52 (by decide) ?_
            exact z_iret hx hb hr hlk hw hS hf dX4_chance_60
    · replace hf := if_t hf c21
      refine lv_bipush (v := (-2)) hx hb dX4_chance_24 (by decide) ?_
      exact z_iret hx hb hr hlk hw hS hf dX4_chance_26
set_option maxHeartbeats 4000000 in
set_option maxRecDepth 100000 in
theorem km_chance (l : Launch) {D : va_G} {L : Nat → Nat} {K : Nat → ClassId} (hJ : gj L 12) (x1 : Int32) (x2 : Int32) (x3 : Int32) (w : St) {w9 : St} {rs : Int32} (hf : fm_chance x1 x2 x3 w = some (rs, w9)) : Met l yX4_chance wsX4_chance ({ frames := 3, cells := 0, slots := 0, locals := 67 }) (va_Pc [.ref (L 0), .int x1, .int x2, .int x3] (mP D L K w)) (qI D L 12 (cM L K) rs w9) 0 0 (gA L 12) := by
  refine g_met (cc := cX4_chance) (nL := 10) (ret := (some .int)) (by decide) rfl (Nat.le_of_ble_eq_true rfl) (fun p e s m below meth c ls C0 hP hl => ?_)
  exact wm_chance_0 hJ C0 hP.2.1 hP.2.2 _ _ _ w _ _ ls hP.1 va_S.rf (lv_sub hl [0, 1, 2, 3] rfl) hf
theorem dX4_seed_0 : decode cX4_seed 0 = .ok (.aload_n 0, 1) := by decide +kernel
theorem dX4_seed_1 : decode cX4_seed 1 = .ok (.getfield 183, 3) := by decide +kernel
theorem dX4_seed_4 : decode cX4_seed 4 = .ok (.lstore_n 3, 1) := by decide +kernel
theorem dX4_seed_5 : decode cX4_seed 5 = .ok (.aload_n 0, 1) := by decide +kernel
theorem dX4_seed_6 : decode cX4_seed 6 = .ok (.lload_n 1, 1) := by decide +kernel
theorem dX4_seed_7 : decode cX4_seed 7 = .ok (.putfield 183, 3) := by decide +kernel
theorem dX4_seed_10 : decode cX4_seed 10 = .ok (.lload_n 3, 1) := by decide +kernel
theorem dX4_seed_11 : decode cX4_seed 11 = .ok (.lreturn, 1) := by decide +kernel
set_option maxRecDepth 20000 in
theorem hiX4_seed_X4 : ∀ w ∈ u_ws RX4 TX4 24, w ∈ wsX4_seed := by decide +kernel
set_option maxHeartbeats 4000000 in
set_option maxRecDepth 100000 in
theorem wm_seed_0 {p : Program} {l : Launch} {e : Env} {s : State} {m : MethodId} {args : Array Value} {below : List Frame} {meth : Method} {c : Code} {D : va_G} {L : Nat → Nat} {K : Nat → ClassId} (hJ : gj L 12) (C0 : gC cX4_seed 5 (some .long) wsX4_seed RX4 p s m args meth c) (hK : va_K D vwCl (tyG K) s) (hE : eM s) {w9 : St} {rs : Int64} : ∀ (x1 : Int64) (w : St) (H : Heap) (locs : List Loc) (ls : Array Slot), va_P D vwCl (gl L 12 (cM L K w)) H → va_S (gA L 12) s.heap H locs → lv_has ls 5 [(0, .ref (L 0)), (1, .long x1)] → fm_seed x1 w = some (rs, w9) → W p l e { frames := 0, cells := 0, slots := 0, locals := 0 } s m args below meth c H locs 0 0 (MQ below (qL D L 12 (cM L K) rs w9) args s 0 0 (gA L 12)) (F0 m 0 ls []) := by
  obtain ⟨hx, hb, hr, hml, hown, hts, hlk⟩ := id C0
  intro x1 w H locs ls hw hS hl hf
  unfold fm_seed at hf
  refine lv_aload_n hx hb dX4_seed_0 rfl (lv_at hl 0 rfl) ?_
  refine z_get (v := .long (w.2)) hx hb hts hiX4_seed_X4 hown hK hw (k := 0) (by decide) ((fun w => rfl) _) rfl 21 (by decide) (hts (.fieldLink RX4 183 "OneSentenceModel" "seed" "J") (by decide +kernel)) rfl dX4_seed_1 ?_
  refine lv_topl (fun v4 e4 => ?_)
  replace hf := lb_e hf e4
  refine lv_lstore_n (lv' := [(3, .long v4), (0, .ref (L 0)), (1, .long x1)]) hx hb dX4_seed_4 rfl hl (by decide) rfl (fun ls hl => ?_)
  refine lv_aload_n hx hb dX4_seed_5 rfl (lv_at hl 1 rfl) ?_
  refine lv_lload_n hx hb dX4_seed_6 rfl (lv_at hl 2 rfl) ?_
  refine z_putl hx hb hts hiX4_seed_X4 tyX4 tyX4_ok nmX4 hown hK hJ hw hS (k := 0) (by decide) cM_nz (fs := fM0 L) (fun w => rfl) rfl 21 (by decide) (hts (.fieldLink RX4 183 "OneSentenceModel" "seed" "J") (by decide +kernel)) rfl rfl (fun _ _ => ⟨Nat.le_of_ble_eq_true rfl, rfl⟩) dX4_seed_7 (fun H locs hw hS => ?_)
  refine lv_lload_n hx hb dX4_seed_10 rfl (lv_at hl 0 rfl) ?_
  exact z_lret hx hb hr hlk hw hS hf dX4_seed_11
set_option maxHeartbeats 4000000 in
set_option maxRecDepth 100000 in
theorem km_seed (l : Launch) {D : va_G} {L : Nat → Nat} {K : Nat → ClassId} (hJ : gj L 12) (x1 : Int64) (w : St) {w9 : St} {rs : Int64} (hf : fm_seed x1 w = some (rs, w9)) : Met l yX4_seed wsX4_seed ({ frames := 0, cells := 0, slots := 0, locals := 0 }) (va_Pc [.ref (L 0), .long x1] (mP D L K w)) (qL D L 12 (cM L K) rs w9) 0 0 (gA L 12) := by
  refine g_met (cc := cX4_seed) (nL := 5) (ret := (some .long)) (by decide) rfl (Nat.le_of_ble_eq_true rfl) (fun p e s m below meth c ls C0 hP hl => ?_)
  exact wm_seed_0 hJ C0 hP.2.1 hP.2.2 _ w _ _ ls hP.1 va_S.rf (lv_sub hl [0, 1] rfl) hf
set_option maxRecDepth 20000 in
theorem ggX4_nights_X4_in : GoodIn wsX4_nights wsX4_in := goodIn_r _ [10] (by decide +kernel) (by decide +kernel)
set_option maxRecDepth 20000 in
theorem gX4_nights_X4_in : GoodIn wsX4_nights (va_wsS RX4 46 yX4_in wsX4_in) := goodIn_app (goodIn_of _ (by decide +kernel)) ggX4_nights_X4_in
set_option maxRecDepth 20000 in
theorem ggX4_nights_X4_layTrial : GoodIn wsX4_nights wsX4_layTrial := goodIn_r _ [14, 2, 15, 16, 41, 42, 43, 44, 45, 46, 47, 48, 49, 50, 51, 52, 53, 54, 55, 56, 57, 58, 59, 60, 61, 62, 63, 64] (by decide +kernel) (by decide +kernel)
set_option maxRecDepth 20000 in
theorem gX4_nights_X4_layTrial : GoodIn wsX4_nights (wsV RX4 127 RX4 yX4_layTrial wsX4_layTrial) := goodIn_app (goodIn_of _ (by decide +kernel)) ggX4_nights_X4_layTrial
set_option maxRecDepth 20000 in
theorem ggX4_nights_X4_isPerson : GoodIn wsX4_nights wsX4_isPerson := goodIn_r _ [20, 21, 7, 8, 9, 10, 41, 42, 43, 44, 45, 46, 47, 48, 49, 50, 51, 52, 53, 54, 55, 56, 57, 58, 59, 60, 61, 62, 63, 64] (by decide +kernel) (by decide +kernel)
set_option maxRecDepth 20000 in
theorem gX4_nights_X4_isPerson : GoodIn wsX4_nights (wsV RX4 95 RX4 yX4_isPerson wsX4_isPerson) := goodIn_app (goodIn_of _ (by decide +kernel)) ggX4_nights_X4_isPerson
set_option maxRecDepth 20000 in
theorem ggX4_nights_X4_may : GoodIn wsX4_nights wsX4_may := goodIn_r _ [25, 2, 26, 27, 28, 9, 29, 41, 42, 43, 44, 45, 46, 47, 48, 49, 50, 51, 52, 53, 54, 55, 56, 57, 58, 59, 60, 61, 62, 63, 64] (by decide +kernel) (by decide +kernel)
set_option maxRecDepth 20000 in
theorem gX4_nights_X4_may : GoodIn wsX4_nights (wsV RX4 99 RX4 yX4_may wsX4_may) := goodIn_app (goodIn_of _ (by decide +kernel)) ggX4_nights_X4_may
set_option maxRecDepth 20000 in
theorem ggX4_nights_X4_sayOn : GoodIn wsX4_nights wsX4_sayOn := goodIn_r _ [33, 26, 2, 34, 35, 36, 9, 37, 38, 39, 40, 41, 42, 43, 44, 45, 46, 47, 48, 49, 50, 51, 52, 53, 54, 55, 56, 57, 58, 59, 60, 61, 62, 63, 64] (by decide +kernel) (by decide +kernel)
set_option maxRecDepth 20000 in
theorem gX4_nights_X4_sayOn : GoodIn wsX4_nights (wsV RX4 114 RX4 yX4_sayOn wsX4_sayOn) := goodIn_app (goodIn_of _ (by decide +kernel)) ggX4_nights_X4_sayOn
theorem dX4_nights_0 : decode cX4_nights 0 = .ok (.iload_n 1, 1) := by decide +kernel
theorem dX4_nights_1 : decode cX4_nights 1 = .ok (.i2l, 1) := by decide +kernel
theorem dX4_nights_2 : decode cX4_nights 2 = .ok (.lconst 1, 1) := by decide +kernel
theorem dX4_nights_3 : decode cX4_nights 3 = .ok (.ldc2_w 187, 3) := by decide +kernel
theorem dX4_nights_6 : decode cX4_nights 6 = .ok (.invokestatic 46, 3) := by decide +kernel
theorem dX4_nights_9 : decode cX4_nights 9 = .ok (.ifCond .ne 6, 3) := by decide +kernel
theorem dX4_nights_12 : decode cX4_nights 12 = .ok (.bipush (-2), 2) := by decide +kernel
theorem dX4_nights_14 : decode cX4_nights 14 = .ok (.ireturn, 1) := by decide +kernel
theorem dX4_nights_15 : decode cX4_nights 15 = .ok (.aload_n 0, 1) := by decide +kernel
theorem dX4_nights_16 : decode cX4_nights 16 = .ok (.aload_n 0, 1) := by decide +kernel
theorem dX4_nights_17 : decode cX4_nights 17 = .ok (.getfield 16, 3) := by decide +kernel
theorem dX4_nights_20 : decode cX4_nights 20 = .ok (.iconst 0, 1) := by decide +kernel
theorem dX4_nights_21 : decode cX4_nights 21 = .ok (.iaload, 1) := by decide +kernel
theorem dX4_nights_22 : decode cX4_nights 22 = .ok (.invokevirtual 127, 3) := by decide +kernel
theorem dX4_nights_25 : decode cX4_nights 25 = .ok (.iconst 0, 1) := by decide +kernel
theorem dX4_nights_26 : decode cX4_nights 26 = .ok (.istore_n 2, 1) := by decide +kernel
theorem dX4_nights_27 : decode cX4_nights 27 = .ok (.iconst 0, 1) := by decide +kernel
theorem dX4_nights_28 : decode cX4_nights 28 = .ok (.istore_n 3, 1) := by decide +kernel
theorem dX4_nights_29 : decode cX4_nights 29 = .ok (.iload_n 3, 1) := by decide +kernel
theorem dX4_nights_30 : decode cX4_nights 30 = .ok (.iload_n 1, 1) := by decide +kernel
theorem dX4_nights_31 : decode cX4_nights 31 = .ok (.if_icmp .ge 75, 3) := by decide +kernel
theorem dX4_nights_34 : decode cX4_nights 34 = .ok (.aload_n 0, 1) := by decide +kernel
theorem dX4_nights_35 : decode cX4_nights 35 = .ok (.aload_n 0, 1) := by decide +kernel
theorem dX4_nights_36 : decode cX4_nights 36 = .ok (.getfield 183, 3) := by decide +kernel
theorem dX4_nights_39 : decode cX4_nights 39 = .ok (.ldc2_w 189, 3) := by decide +kernel
theorem dX4_nights_42 : decode cX4_nights 42 = .ok (.lmul, 1) := by decide +kernel
theorem dX4_nights_43 : decode cX4_nights 43 = .ok (.ldc2_w 191, 3) := by decide +kernel
theorem dX4_nights_46 : decode cX4_nights 46 = .ok (.ladd, 1) := by decide +kernel
theorem dX4_nights_47 : decode cX4_nights 47 = .ok (.putfield 183, 3) := by decide +kernel
theorem dX4_nights_50 : decode cX4_nights 50 = .ok (.aload_n 0, 1) := by decide +kernel
theorem dX4_nights_51 : decode cX4_nights 51 = .ok (.getfield 183, 3) := by decide +kernel
theorem dX4_nights_54 : decode cX4_nights 54 = .ok (.bipush 33, 2) := by decide +kernel
theorem dX4_nights_56 : decode cX4_nights 56 = .ok (.lushr, 1) := by decide +kernel
theorem dX4_nights_57 : decode cX4_nights 57 = .ok (.ldc2_w 134, 3) := by decide +kernel
theorem dX4_nights_60 : decode cX4_nights 60 = .ok (.lrem, 1) := by decide +kernel
theorem dX4_nights_61 : decode cX4_nights 61 = .ok (.l2i, 1) := by decide +kernel
theorem dX4_nights_62 : decode cX4_nights 62 = .ok (.istore 4, 2) := by decide +kernel
theorem dX4_nights_64 : decode cX4_nights 64 = .ok (.aload_n 0, 1) := by decide +kernel
theorem dX4_nights_65 : decode cX4_nights 65 = .ok (.iload 4, 2) := by decide +kernel
theorem dX4_nights_67 : decode cX4_nights 67 = .ok (.invokevirtual 95, 3) := by decide +kernel
theorem dX4_nights_70 : decode cX4_nights 70 = .ok (.ifCond .eq 20, 3) := by decide +kernel
theorem dX4_nights_73 : decode cX4_nights 73 = .ok (.aload_n 0, 1) := by decide +kernel
theorem dX4_nights_74 : decode cX4_nights 74 = .ok (.iconst 1, 1) := by decide +kernel
theorem dX4_nights_75 : decode cX4_nights 75 = .ok (.iload 4, 2) := by decide +kernel
theorem dX4_nights_77 : decode cX4_nights 77 = .ok (.invokevirtual 99, 3) := by decide +kernel
theorem dX4_nights_80 : decode cX4_nights 80 = .ok (.ifCond .eq 10, 3) := by decide +kernel
theorem dX4_nights_83 : decode cX4_nights 83 = .ok (.aload_n 0, 1) := by decide +kernel
theorem dX4_nights_84 : decode cX4_nights 84 = .ok (.iconst 1, 1) := by decide +kernel
theorem dX4_nights_85 : decode cX4_nights 85 = .ok (.iload 4, 2) := by decide +kernel
theorem dX4_nights_87 : decode cX4_nights 87 = .ok (.invokevirtual 114, 3) := by decide +kernel
theorem dX4_nights_90 : decode cX4_nights 90 = .ok (.iload_n 2, 1) := by decide +kernel
theorem dX4_nights_91 : decode cX4_nights 91 = .ok (.aload_n 0, 1) := by decide +kernel
theorem dX4_nights_92 : decode cX4_nights 92 = .ok (.getfield 16, 3) := by decide +kernel
theorem dX4_nights_95 : decode cX4_nights 95 = .ok (.bipush 49, 2) := by decide +kernel
theorem dX4_nights_97 : decode cX4_nights 97 = .ok (.iaload, 1) := by decide +kernel
theorem dX4_nights_98 : decode cX4_nights 98 = .ok (.iadd, 1) := by decide +kernel
theorem dX4_nights_99 : decode cX4_nights 99 = .ok (.istore_n 2, 1) := by decide +kernel
theorem dX4_nights_100 : decode cX4_nights 100 = .ok (.iinc 3 1, 3) := by decide +kernel
theorem dX4_nights_103 : decode cX4_nights 103 = .ok (.goto (-74), 3) := by decide +kernel
theorem dX4_nights_106 : decode cX4_nights 106 = .ok (.iload_n 2, 1) := by decide +kernel
theorem dX4_nights_107 : decode cX4_nights 107 = .ok (.ireturn, 1) := by decide +kernel
set_option maxRecDepth 20000 in
theorem hiX4_nights_X4 : ∀ w ∈ u_ws RX4 TX4 24, w ∈ wsX4_nights := by decide +kernel
set_option maxHeartbeats 4000000 in
set_option maxRecDepth 100000 in
theorem wm_nights_90 {p : Program} {l : Launch} {e : Env} {s : State} {m : MethodId} {args : Array Value} {below : List Frame} {meth : Method} {c : Code} {D : va_G} {L : Nat → Nat} {K : Nat → ClassId} (hJ : gj L 12) (C0 : gC cX4_nights 5 (some .int) wsX4_nights RX4 p s m args meth c) (hK : va_K D vwCl (tyG K) s) (hE : eM s) {w9 : St} {rs : Int32} (k29 : Int32 → Int32 → Int32 → St → Option (Int32 × St)) (i29 : ∀ (x1 : Int32) (x2 : Int32) (x3 : Int32) (w : St) (H : Heap) (locs : List Loc) (ls : Array Slot), va_P D vwCl (gl L 12 (cM L K w)) H → va_S (gA L 12) s.heap H locs → lv_has ls 5 [(0, .ref (L 0)), (1, .int x1), (2, .int x2), (3, .int x3)] → k29 x1 x2 x3 w = some (rs, w9) → W p l e { frames := 3, cells := 0, slots := 0, locals := 67 } s m args below meth c H locs 0 0 (MQ below (qI D L 12 (cM L K) rs w9) args s 0 0 (gA L 12)) (F0 m 29 ls [])) : ∀ (x1 : Int32) (x2 : Int32) (x3 : Int32) (w : St) (H : Heap) (locs : List Loc) (ls : Array Slot), va_P D vwCl (gl L 12 (cM L K w)) H → va_S (gA L 12) s.heap H locs → lv_has ls 5 [(0, .ref (L 0)), (1, .int x1), (2, .int x2), (3, .int x3)] → fm_nights_90 k29 x1 x2 x3 w = some (rs, w9) → W p l e { frames := 3, cells := 0, slots := 0, locals := 67 } s m args below meth c H locs 0 0 (MQ below (qI D L 12 (cM L K) rs w9) args s 0 0 (gA L 12)) (F0 m 90 ls []) := by
  obtain ⟨hx, hb, hr, hml, hown, hts, hlk⟩ := id C0
  intro x1 x2 x3 w H locs ls hw hS hl hf
  unfold fm_nights_90 at hf
  refine lv_iload_n hx hb dX4_nights_90 rfl (lv_at hl 2 rfl) ?_
  refine lv_aload_n hx hb dX4_nights_91 rfl (lv_at hl 0 rfl) ?_
  refine z_get (v := .ref (L 3)) hx hb hts hiX4_nights_X4 hown hK hw (k := 0) (by decide) ((fun w => rfl) _) rfl 4 (by decide) (hts (.fieldLink RX4 16 "OneSentenceModel" "now" "[I") (by decide +kernel)) rfl dX4_nights_92 ?_
  refine lv_bipush (v := 49) hx hb dX4_nights_95 (by decide) ?_
  obtain ⟨v97, h97, hf⟩ := bd_e hf
  refine z_iald hx hb hK hw 0 (k := 3) (by decide) ((fun w => rfl) _) rfl h97 dX4_nights_97 ?_
  refine lv_iadd hx hb dX4_nights_98 ?_
  refine lv_topi (fun v99 e99 => ?_)
  replace hf := lb_e hf e99
  refine lv_istore_n (lv' := [(2, .int v99), (0, .ref (L 0)), (1, .int x1), (3, .int x3)]) hx hb dX4_nights_99 rfl hl (by decide) rfl (fun ls hl => ?_)
  refine lv_iinc (v := (x3 + 1)) (lv' := [(3, .int (x3 + 1)), (2, .int v99), (0, .ref (L 0)), (1, .int x1)]) hx hb dX4_nights_100 hl (k := 3) rfl rfl (by decide) rfl (fun ls hl => ?_)
  refine lv_goto (tgt := 29) hx hb dX4_nights_103 (by decide) ?_
  exact i29 _ _ _ _ _ _ _ hw hS (lv_sub hl [2, 3, 1, 0] rfl) hf
set_option maxHeartbeats 4000000 in
set_option maxRecDepth 100000 in
theorem wm_nights_29 {p : Program} {l : Launch} {e : Env} {s : State} {m : MethodId} {args : Array Value} {below : List Frame} {meth : Method} {c : Code} {D : va_G} {L : Nat → Nat} {K : Nat → ClassId} (hJ : gj L 12) (C0 : gC cX4_nights 5 (some .int) wsX4_nights RX4 p s m args meth c) (hK : va_K D vwCl (tyG K) s) (hE : eM s) {w9 : St} {rs : Int32} : ∀ (fu : Nat) (x1 : Int32) (x2 : Int32) (x3 : Int32) (w : St) (H : Heap) (locs : List Loc) (ls : Array Slot), va_P D vwCl (gl L 12 (cM L K w)) H → va_S (gA L 12) s.heap H locs → lv_has ls 5 [(0, .ref (L 0)), (1, .int x1), (2, .int x2), (3, .int x3)] → fm_nights_29 fu x1 x2 x3 w = some (rs, w9) → W p l e { frames := 3, cells := 0, slots := 0, locals := 67 } s m args below meth c H locs 0 0 (MQ below (qI D L 12 (cM L K) rs w9) args s 0 0 (gA L 12)) (F0 m 29 ls []) := by
  obtain ⟨hx, hb, hr, hml, hown, hts, hlk⟩ := id C0
  intro fu
  induction fu with
  | zero =>
    intro x1 x2 x3 w H locs ls hw hS hl hf
    rw [fm_nights_29] at hf
    exact no_n hf
  | succ fu ih =>
    intro x1 x2 x3 w H locs ls hw hS hl hf
    rw [fm_nights_29] at hf
    refine lv_iload_n hx hb dX4_nights_29 rfl (lv_at hl 3 rfl) ?_
    refine lv_iload_n hx hb dX4_nights_30 rfl (lv_at hl 1 rfl) ?_
    refine lv_icmp_ge (tgt := 106) hx hb dX4_nights_31 (by decide) (fun c31 => ?_) (fun c31 => ?_)
    · replace hf := if_t hf c31
      refine lv_iload_n hx hb dX4_nights_106 rfl (lv_at hl 2 rfl) ?_
      exact z_iret hx hb hr hlk hw hS hf dX4_nights_107
    · replace hf := if_f hf c31
      refine lv_aload_n hx hb dX4_nights_34 rfl (lv_at hl 0 rfl) ?_
      refine lv_aload_n hx hb dX4_nights_35 rfl (lv_at hl 0 rfl) ?_
      refine z_get (v := .long (w.2)) hx hb hts hiX4_nights_X4 hown hK hw (k := 0) (by decide) ((fun w => rfl) _) rfl 21 (by decide) (hts (.fieldLink RX4 183 "OneSentenceModel" "seed" "J") (by decide +kernel)) rfl dX4_nights_36 ?_
      refine lv_ldc2 (v := 6364136223846793005) hx hb hown (hts (.constantLong RX4 189 6364136223846793005) (by decide +kernel)) dX4_nights_39 ?_
      refine lv_lmul hx hb dX4_nights_42 ?_
      refine lv_ldc2 (v := 1442695040888963407) hx hb hown (hts (.constantLong RX4 191 1442695040888963407) (by decide +kernel)) dX4_nights_43 ?_
      refine lv_ladd hx hb dX4_nights_46 ?_
      refine z_putl hx hb hts hiX4_nights_X4 tyX4 tyX4_ok nmX4 hown hK hJ hw hS (k := 0) (by decide) cM_nz (fs := fM0 L) (fun w => rfl) rfl 21 (by decide) (hts (.fieldLink RX4 183 "OneSentenceModel" "seed" "J") (by decide +kernel)) rfl rfl (fun _ _ => ⟨Nat.le_of_ble_eq_true rfl, rfl⟩) dX4_nights_47 (fun H locs hw hS => ?_)
      refine lv_aload_n hx hb dX4_nights_50 rfl (lv_at hl 0 rfl) ?_
      refine z_get (v := .long ((wz w ((w.2 * (6364136223846793005 : Int64)) + (1442695040888963407 : Int64))).2)) hx hb hts hiX4_nights_X4 hown hK hw (k := 0) (by decide) ((fun w => rfl) _) rfl 21 (by decide) (hts (.fieldLink RX4 183 "OneSentenceModel" "seed" "J") (by decide +kernel)) rfl dX4_nights_51 ?_
      refine lv_bipush (v := 33) hx hb dX4_nights_54 (by decide) ?_
      refine lv_lushr (v := (lush ((wz w ((w.2 * (6364136223846793005 : Int64)) + (1442695040888963407 : Int64))).2) 33)) hx hb dX4_nights_56 rfl ?_
      refine lv_ldc2 (v := 6) hx hb hown (hts (.constantLong RX4 134 6) (by decide +kernel)) dX4_nights_57 ?_
      refine lv_lrem hx hb dX4_nights_60 (by decide) ?_
      refine lv_l2i (v := ((lr (lush ((wz w ((w.2 * (6364136223846793005 : Int64)) + (1442695040888963407 : Int64))).2) 33) 6).toInt32)) hx hb dX4_nights_61 rfl ?_
      refine lv_topi (fun v62 e62 => ?_)
      replace hf := lb_e hf e62
      refine lv_istore (lv' := [(4, .int v62), (0, .ref (L 0)), (1, .int x1), (2, .int x2), (3, .int x3)]) hx hb dX4_nights_62 hl (by decide) rfl (fun ls hl => ?_)
      refine lv_aload_n hx hb dX4_nights_64 rfl (lv_at hl 1 rfl) ?_
      refine lv_iload hx hb dX4_nights_65 (lv_at hl 0 rfl) ?_
      obtain ⟨q67, h67, hf⟩ := bd_e hf
      refine z_calli (va_runV (As := [.int v62]) (rest := []) ⟨hx, hb, hml, hown, hts⟩ (km_isPerson l (D := D) (K := K) hJ v62 (wz w ((w.2 * (6364136223846793005 : Int64)) + (1442695040888963407 : Int64)))  h67) (cwV 1 hts gX4_nights_X4_isPerson rfl rfl rfl (by decide +kernel) ⟨Nat.le_of_ble_eq_true rfl, Nat.le_of_ble_eq_true rfl⟩) (z_preV eM_ok hK hE hw hS (by decide) ((fun w => rfl) _) (T := TX4) (M := 24) rfl) rfl rfl hl.1 rfl (lv_room (Nat.le_of_ble_eq_true rfl)) dX4_nights_67 ⟨Nat.le_of_ble_eq_true rfl, Nat.le_of_ble_eq_true rfl⟩) hS (fun H locs hw hS => ?_)
      refine lv_if_eq (tgt := 90) hx hb dX4_nights_70 (by decide) (fun c70 => ?_) (fun c70 => ?_)
      · replace hf := if_t hf c70
        exact wm_nights_90 hJ C0 hK hE _ ih _ _ _ _ _ _ _ hw hS (lv_sub hl [1, 2, 3, 4] rfl) hf
      · replace hf := if_f hf c70
        refine lv_aload_n hx hb dX4_nights_73 rfl (lv_at hl 1 rfl) ?_
        refine lv_iconst (v := 1) hx hb dX4_nights_74 (by decide) ?_
        refine lv_iload hx hb dX4_nights_75 (lv_at hl 0 rfl) ?_
        obtain ⟨q77, h77, hf⟩ := bd_e hf
        refine z_calli (va_runV (As := [.int 1, .int v62]) (rest := []) ⟨hx, hb, hml, hown, hts⟩ (km_may l (D := D) (K := K) hJ 1 v62 (q67.2)  h77) (cwV 2 hts gX4_nights_X4_may rfl rfl rfl (by decide +kernel) ⟨Nat.le_of_ble_eq_true rfl, Nat.le_of_ble_eq_true rfl⟩) (z_preV eM_ok hK hE hw hS (by decide) ((fun w => rfl) _) (T := TX4) (M := 24) rfl) rfl rfl hl.1 rfl (lv_room (Nat.le_of_ble_eq_true rfl)) dX4_nights_77 ⟨Nat.le_of_ble_eq_true rfl, Nat.le_of_ble_eq_true rfl⟩) hS (fun H locs hw hS => ?_)
        refine lv_if_eq (tgt := 90) hx hb dX4_nights_80 (by decide) (fun c80 => ?_) (fun c80 => ?_)
        · replace hf := if_t hf c80
          exact wm_nights_90 hJ C0 hK hE _ ih _ _ _ _ _ _ _ hw hS (lv_sub hl [1, 2, 3, 4] rfl) hf
        · replace hf := if_f hf c80
          refine lv_aload_n hx hb dX4_nights_83 rfl (lv_at hl 1 rfl) ?_
          refine lv_iconst (v := 1) hx hb dX4_nights_84 (by decide) ?_
          refine lv_iload hx hb dX4_nights_85 (lv_at hl 0 rfl) ?_
          obtain ⟨w87, h87, hf⟩ := bd_e hf
          refine z_callv (va_runV (As := [.int 1, .int v62]) (rest := []) ⟨hx, hb, hml, hown, hts⟩ (km_sayOn l (D := D) (K := K) hJ 1 v62 (q77.2)  h87) (cwV 2 hts gX4_nights_X4_sayOn rfl rfl rfl (by decide +kernel) ⟨Nat.le_of_ble_eq_true rfl, Nat.le_of_ble_eq_true rfl⟩) (z_preV eM_ok hK hE hw hS (by decide) ((fun w => rfl) _) (T := TX4) (M := 24) rfl) rfl rfl hl.1 rfl (lv_room (Nat.le_of_ble_eq_true rfl)) dX4_nights_87 ⟨Nat.le_of_ble_eq_true rfl, Nat.le_of_ble_eq_true rfl⟩) hS (fun H locs hw hS => ?_)
          exact wm_nights_90 hJ C0 hK hE _ ih _ _ _ _ _ _ _ hw hS (lv_sub hl [1, 2, 3, 4] rfl) hf
set_option maxHeartbeats 4000000 in
set_option maxRecDepth 100000 in
theorem wm_nights_0 {p : Program} {l : Launch} {e : Env} {s : State} {m : MethodId} {args : Array Value} {below : List Frame} {meth : Method} {c : Code} {D : va_G} {L : Nat → Nat} {K : Nat → ClassId} (hJ : gj L 12) (C0 : gC cX4_nights 5 (some .int) wsX4_nights RX4 p s m args meth c) (hK : va_K D vwCl (tyG K) s) (hE : eM s) {w9 : St} {rs : Int32} : ∀ (x1 : Int32) (w : St) (H : Heap) (locs : List Loc) (ls : Array Slot), va_P D vwCl (gl L 12 (cM L K w)) H → va_S (gA L 12) s.heap H locs → lv_has ls 5 [(0, .ref (L 0)), (1, .int x1)] → fm_nights x1 w = some (rs, w9) → W p l e { frames := 3, cells := 0, slots := 0, locals := 67 } s m args below meth c H locs 0 0 (MQ below (qI D L 12 (cM L K) rs w9) args s 0 0 (gA L 12)) (F0 m 0 ls []) := by
  obtain ⟨hx, hb, hr, hml, hown, hts, hlk⟩ := id C0
  intro x1 w H locs ls hw hS hl hf
  unfold fm_nights at hf
  refine lv_iload_n hx hb dX4_nights_0 rfl (lv_at hl 1 rfl) ?_
  refine lv_i2l (v := x1.toInt64) hx hb dX4_nights_1 rfl ?_
  refine lv_lconst (v := 1) hx hb dX4_nights_2 (by decide) ?_
  refine lv_ldc2 (v := 30) hx hb hown (hts (.constantLong RX4 187 30) (by decide +kernel)) dX4_nights_3 ?_
  obtain ⟨v6, h6, hf⟩ := bd_e hf
  refine z_calls (va_runS (As := [.long (x1.toInt64), .long 1, .long 30]) (rest := []) ⟨hx, hb, hml, hown, hts⟩ (km_in l (x1.toInt64) 1 30 h6) (va_cwS 3 hts gX4_nights_X4_in rfl rfl rfl (by decide +kernel) ⟨Nat.le_of_ble_eq_true rfl, Nat.le_of_ble_eq_true rfl⟩) z_preT rfl rfl hl.1 rfl (lv_room (Nat.le_of_ble_eq_true rfl)) dX4_nights_6 ⟨Nat.le_of_ble_eq_true rfl, Nat.le_of_ble_eq_true rfl⟩) ?_
  refine lv_if_ne (tgt := 15) hx hb dX4_nights_9 (by decide) (fun c9 => ?_) (fun c9 => ?_)
  · replace hf := if_f hf c9
    refine lv_aload_n hx hb dX4_nights_15 rfl (lv_at hl 0 rfl) ?_
    refine lv_aload_n hx hb dX4_nights_16 rfl (lv_at hl 0 rfl) ?_
    refine z_get (v := .ref (L 3)) hx hb hts hiX4_nights_X4 hown hK hw (k := 0) (by decide) ((fun w => rfl) _) rfl 4 (by decide) (hts (.fieldLink RX4 16 "OneSentenceModel" "now" "[I") (by decide +kernel)) rfl dX4_nights_17 ?_
    refine lv_iconst (v := 0) hx hb dX4_nights_20 (by decide) ?_
    obtain ⟨v21, h21, hf⟩ := bd_e hf
    refine z_iald hx hb hK hw 0 (k := 3) (by decide) ((fun w => rfl) _) rfl h21 dX4_nights_21 ?_
    obtain ⟨w22, h22, hf⟩ := bd_e hf
    refine z_callv (va_runV (As := [.int v21]) (rest := []) ⟨hx, hb, hml, hown, hts⟩ (km_layTrial l (D := D) (K := K) hJ v21 w  h22) (cwV 1 hts gX4_nights_X4_layTrial rfl rfl rfl (by decide +kernel) ⟨Nat.le_of_ble_eq_true rfl, Nat.le_of_ble_eq_true rfl⟩) (z_preV eM_ok hK hE hw hS (by decide) ((fun w => rfl) _) (T := TX4) (M := 24) rfl) rfl rfl hl.1 rfl (lv_room (Nat.le_of_ble_eq_true rfl)) dX4_nights_22 ⟨Nat.le_of_ble_eq_true rfl, Nat.le_of_ble_eq_true rfl⟩) hS (fun H locs hw hS => ?_)
    refine lv_iconst (v := 0) hx hb dX4_nights_25 (by decide) ?_
    refine lv_istore_n (lv' := [(2, .int 0), (0, .ref (L 0)), (1, .int x1)]) hx hb dX4_nights_26 rfl hl (by decide) rfl (fun ls hl => ?_)
    refine lv_iconst (v := 0) hx hb dX4_nights_27 (by decide) ?_
    refine lv_istore_n (lv' := [(3, .int 0), (2, .int 0), (0, .ref (L 0)), (1, .int x1)]) hx hb dX4_nights_28 rfl hl (by decide) rfl (fun ls hl => ?_)
    exact wm_nights_29 hJ C0 hK hE _ _ _ _ _ _ _ _ hw hS (lv_sub hl [2, 3, 1, 0] rfl) hf
  · replace hf := if_t hf c9
    refine lv_bipush (v := (-2)) hx hb dX4_nights_12 (by decide) ?_
    exact z_iret hx hb hr hlk hw hS hf dX4_nights_14
set_option maxHeartbeats 4000000 in
set_option maxRecDepth 100000 in
theorem km_nights (l : Launch) {D : va_G} {L : Nat → Nat} {K : Nat → ClassId} (hJ : gj L 12) (x1 : Int32) (w : St) {w9 : St} {rs : Int32} (hf : fm_nights x1 w = some (rs, w9)) : Met l yX4_nights wsX4_nights ({ frames := 3, cells := 0, slots := 0, locals := 67 }) (va_Pc [.ref (L 0), .int x1] (mP D L K w)) (qI D L 12 (cM L K) rs w9) 0 0 (gA L 12) := by
  refine g_met (cc := cX4_nights) (nL := 5) (ret := (some .int)) (by decide) rfl (Nat.le_of_ble_eq_true rfl) (fun p e s m below meth c ls C0 hP hl => ?_)
  exact wm_nights_0 hJ C0 hP.2.1 hP.2.2 _ w _ _ ls hP.1 va_S.rf (lv_sub hl [0, 1] rfl) hf
set_option maxRecDepth 20000 in
theorem ggX4_keep_X4_in : GoodIn wsX4_keep wsX4_in := goodIn_r _ [7] (by decide +kernel) (by decide +kernel)
set_option maxRecDepth 20000 in
theorem gX4_keep_X4_in : GoodIn wsX4_keep (va_wsS RX4 46 yX4_in wsX4_in) := goodIn_app (goodIn_of _ (by decide +kernel)) ggX4_keep_X4_in
theorem dX4_keep_0 : decode cX4_keep 0 = .ok (.iload_n 1, 1) := by decide +kernel
theorem dX4_keep_1 : decode cX4_keep 1 = .ok (.i2l, 1) := by decide +kernel
theorem dX4_keep_2 : decode cX4_keep 2 = .ok (.lconst 0, 1) := by decide +kernel
theorem dX4_keep_3 : decode cX4_keep 3 = .ok (.lconst 1, 1) := by decide +kernel
theorem dX4_keep_4 : decode cX4_keep 4 = .ok (.invokestatic 46, 3) := by decide +kernel
theorem dX4_keep_7 : decode cX4_keep 7 = .ok (.ifCond .ne 5, 3) := by decide +kernel
theorem dX4_keep_10 : decode cX4_keep 10 = .ok (.iconst (-1), 1) := by decide +kernel
theorem dX4_keep_11 : decode cX4_keep 11 = .ok (.ireturn, 1) := by decide +kernel
theorem dX4_keep_12 : decode cX4_keep 12 = .ok (.aload_n 0, 1) := by decide +kernel
theorem dX4_keep_13 : decode cX4_keep 13 = .ok (.getfield 37, 3) := by decide +kernel
theorem dX4_keep_16 : decode cX4_keep 16 = .ok (.iload_n 1, 1) := by decide +kernel
theorem dX4_keep_17 : decode cX4_keep 17 = .ok (.iconst 1, 1) := by decide +kernel
theorem dX4_keep_18 : decode cX4_keep 18 = .ok (.bastore, 1) := by decide +kernel
theorem dX4_keep_19 : decode cX4_keep 19 = .ok (.iconst 0, 1) := by decide +kernel
theorem dX4_keep_20 : decode cX4_keep 20 = .ok (.istore_n 2, 1) := by decide +kernel
theorem dX4_keep_21 : decode cX4_keep 21 = .ok (.iload_n 2, 1) := by decide +kernel
theorem dX4_keep_22 : decode cX4_keep 22 = .ok (.bipush 27, 2) := by decide +kernel
theorem dX4_keep_24 : decode cX4_keep 24 = .ok (.if_icmp .ge 26, 3) := by decide +kernel
theorem dX4_keep_27 : decode cX4_keep 27 = .ok (.aload_n 0, 1) := by decide +kernel
theorem dX4_keep_28 : decode cX4_keep 28 = .ok (.getfield 41, 3) := by decide +kernel
theorem dX4_keep_31 : decode cX4_keep 31 = .ok (.bipush 27, 2) := by decide +kernel
theorem dX4_keep_33 : decode cX4_keep 33 = .ok (.iload_n 1, 1) := by decide +kernel
theorem dX4_keep_34 : decode cX4_keep 34 = .ok (.imul, 1) := by decide +kernel
theorem dX4_keep_35 : decode cX4_keep 35 = .ok (.iload_n 2, 1) := by decide +kernel
theorem dX4_keep_36 : decode cX4_keep 36 = .ok (.iadd, 1) := by decide +kernel
theorem dX4_keep_37 : decode cX4_keep 37 = .ok (.aload_n 0, 1) := by decide +kernel
theorem dX4_keep_38 : decode cX4_keep 38 = .ok (.getfield 16, 3) := by decide +kernel
theorem dX4_keep_41 : decode cX4_keep 41 = .ok (.iload_n 2, 1) := by decide +kernel
theorem dX4_keep_42 : decode cX4_keep 42 = .ok (.iaload, 1) := by decide +kernel
theorem dX4_keep_43 : decode cX4_keep 43 = .ok (.iastore, 1) := by decide +kernel
theorem dX4_keep_44 : decode cX4_keep 44 = .ok (.iinc 2 1, 3) := by decide +kernel
theorem dX4_keep_47 : decode cX4_keep 47 = .ok (.goto (-26), 3) := by decide +kernel
theorem dX4_keep_50 : decode cX4_keep 50 = .ok (.aload_n 0, 1) := by decide +kernel
theorem dX4_keep_51 : decode cX4_keep 51 = .ok (.getfield 16, 3) := by decide +kernel
theorem dX4_keep_54 : decode cX4_keep 54 = .ok (.bipush 26, 2) := by decide +kernel
theorem dX4_keep_56 : decode cX4_keep 56 = .ok (.iaload, 1) := by decide +kernel
theorem dX4_keep_57 : decode cX4_keep 57 = .ok (.ireturn, 1) := by decide +kernel
set_option maxRecDepth 20000 in
theorem hiX4_keep_X4 : ∀ w ∈ u_ws RX4 TX4 24, w ∈ wsX4_keep := by decide +kernel
set_option maxHeartbeats 4000000 in
set_option maxRecDepth 100000 in
theorem wm_keep_21 {p : Program} {l : Launch} {e : Env} {s : State} {m : MethodId} {args : Array Value} {below : List Frame} {meth : Method} {c : Code} {D : va_G} {L : Nat → Nat} {K : Nat → ClassId} (hJ : gj L 12) (C0 : gC cX4_keep 3 (some .int) wsX4_keep RX4 p s m args meth c) (hK : va_K D vwCl (tyG K) s) (hE : eM s) {w9 : St} {rs : Int32} : ∀ (fu : Nat) (x1 : Int32) (x2 : Int32) (w : St) (H : Heap) (locs : List Loc) (ls : Array Slot), va_P D vwCl (gl L 12 (cM L K w)) H → va_S (gA L 12) s.heap H locs → lv_has ls 3 [(0, .ref (L 0)), (1, .int x1), (2, .int x2)] → fm_keep_21 fu x1 x2 w = some (rs, w9) → W p l e { frames := 1, cells := 0, slots := 0, locals := 25 } s m args below meth c H locs 0 0 (MQ below (qI D L 12 (cM L K) rs w9) args s 0 0 (gA L 12)) (F0 m 21 ls []) := by
  obtain ⟨hx, hb, hr, hml, hown, hts, hlk⟩ := id C0
  intro fu
  induction fu with
  | zero =>
    intro x1 x2 w H locs ls hw hS hl hf
    rw [fm_keep_21] at hf
    exact no_n hf
  | succ fu ih =>
    intro x1 x2 w H locs ls hw hS hl hf
    rw [fm_keep_21] at hf
    refine lv_iload_n hx hb dX4_keep_21 rfl (lv_at hl 2 rfl) ?_
    refine lv_bipush (v := 27) hx hb dX4_keep_22 (by decide) ?_
    refine lv_icmp_ge (tgt := 50) hx hb dX4_keep_24 (by decide) (fun c24 => ?_) (fun c24 => ?_)
    · replace hf := if_t hf c24
      refine lv_aload_n hx hb dX4_keep_50 rfl (lv_at hl 0 rfl) ?_
      refine z_get (v := .ref (L 3)) hx hb hts hiX4_keep_X4 hown hK hw (k := 0) (by decide) ((fun w => rfl) _) rfl 4 (by decide) (hts (.fieldLink RX4 16 "OneSentenceModel" "now" "[I") (by decide +kernel)) rfl dX4_keep_51 ?_
      refine lv_bipush (v := 26) hx hb dX4_keep_54 (by decide) ?_
      obtain ⟨v56, h56, hf⟩ := bd_e hf
      refine z_iald hx hb hK hw 0 (k := 3) (by decide) ((fun w => rfl) _) rfl h56 dX4_keep_56 ?_
      exact z_iret hx hb hr hlk hw hS hf dX4_keep_57
    · replace hf := if_f hf c24
      refine lv_aload_n hx hb dX4_keep_27 rfl (lv_at hl 0 rfl) ?_
      refine z_get (v := .ref (L 11)) hx hb hts hiX4_keep_X4 hown hK hw (k := 0) (by decide) ((fun w => rfl) _) rfl 23 (by decide) (hts (.fieldLink RX4 41 "OneSentenceModel" "kept" "[I") (by decide +kernel)) rfl dX4_keep_28 ?_
      refine lv_bipush (v := 27) hx hb dX4_keep_31 (by decide) ?_
      refine lv_iload_n hx hb dX4_keep_33 rfl (lv_at hl 1 rfl) ?_
      refine lv_imul hx hb dX4_keep_34 ?_
      refine lv_iload_n hx hb dX4_keep_35 rfl (lv_at hl 2 rfl) ?_
      refine lv_iadd hx hb dX4_keep_36 ?_
      refine lv_aload_n hx hb dX4_keep_37 rfl (lv_at hl 0 rfl) ?_
      refine z_get (v := .ref (L 3)) hx hb hts hiX4_keep_X4 hown hK hw (k := 0) (by decide) ((fun w => rfl) _) rfl 4 (by decide) (hts (.fieldLink RX4 16 "OneSentenceModel" "now" "[I") (by decide +kernel)) rfl dX4_keep_38 ?_
      refine lv_iload_n hx hb dX4_keep_41 rfl (lv_at hl 2 rfl) ?_
      obtain ⟨v42, h42, hf⟩ := bd_e hf
      refine z_iald hx hb hK hw 0 (k := 3) (by decide) ((fun w => rfl) _) rfl h42 dX4_keep_42 ?_
      obtain ⟨w43, h43, hf⟩ := bd_e hf
      refine z_iast hx hb hK hJ hw hS 0 (k := 11) (by decide) cM_ne (fun w => rfl) rfl h43 dX4_keep_43 (fun H locs hw hS => ?_)
      refine lv_iinc (v := (x2 + 1)) (lv' := [(2, .int (x2 + 1)), (0, .ref (L 0)), (1, .int x1)]) hx hb dX4_keep_44 hl (k := 2) rfl rfl (by decide) rfl (fun ls hl => ?_)
      refine lv_goto (tgt := 21) hx hb dX4_keep_47 (by decide) ?_
      exact ih _ _ _ _ _ _ hw hS (lv_sub hl [1, 2, 0] rfl) hf
set_option maxHeartbeats 4000000 in
set_option maxRecDepth 100000 in
theorem wm_keep_0 {p : Program} {l : Launch} {e : Env} {s : State} {m : MethodId} {args : Array Value} {below : List Frame} {meth : Method} {c : Code} {D : va_G} {L : Nat → Nat} {K : Nat → ClassId} (hJ : gj L 12) (C0 : gC cX4_keep 3 (some .int) wsX4_keep RX4 p s m args meth c) (hK : va_K D vwCl (tyG K) s) (hE : eM s) {w9 : St} {rs : Int32} : ∀ (x1 : Int32) (w : St) (H : Heap) (locs : List Loc) (ls : Array Slot), va_P D vwCl (gl L 12 (cM L K w)) H → va_S (gA L 12) s.heap H locs → lv_has ls 3 [(0, .ref (L 0)), (1, .int x1)] → fm_keep x1 w = some (rs, w9) → W p l e { frames := 1, cells := 0, slots := 0, locals := 25 } s m args below meth c H locs 0 0 (MQ below (qI D L 12 (cM L K) rs w9) args s 0 0 (gA L 12)) (F0 m 0 ls []) := by
  obtain ⟨hx, hb, hr, hml, hown, hts, hlk⟩ := id C0
  intro x1 w H locs ls hw hS hl hf
  unfold fm_keep at hf
  refine lv_iload_n hx hb dX4_keep_0 rfl (lv_at hl 1 rfl) ?_
  refine lv_i2l (v := x1.toInt64) hx hb dX4_keep_1 rfl ?_
  refine lv_lconst (v := 0) hx hb dX4_keep_2 (by decide) ?_
  refine lv_lconst (v := 1) hx hb dX4_keep_3 (by decide) ?_
  obtain ⟨v4, h4, hf⟩ := bd_e hf
  refine z_calls (va_runS (As := [.long (x1.toInt64), .long 0, .long 1]) (rest := []) ⟨hx, hb, hml, hown, hts⟩ (km_in l (x1.toInt64) 0 1 h4) (va_cwS 3 hts gX4_keep_X4_in rfl rfl rfl (by decide +kernel) ⟨Nat.le_of_ble_eq_true rfl, Nat.le_of_ble_eq_true rfl⟩) z_preT rfl rfl hl.1 rfl (lv_room (Nat.le_of_ble_eq_true rfl)) dX4_keep_4 ⟨Nat.le_of_ble_eq_true rfl, Nat.le_of_ble_eq_true rfl⟩) ?_
  refine lv_if_ne (tgt := 12) hx hb dX4_keep_7 (by decide) (fun c7 => ?_) (fun c7 => ?_)
  · replace hf := if_f hf c7
    refine lv_aload_n hx hb dX4_keep_12 rfl (lv_at hl 0 rfl) ?_
    refine z_get (v := .ref (L 10)) hx hb hts hiX4_keep_X4 hown hK hw (k := 0) (by decide) ((fun w => rfl) _) rfl 22 (by decide) (hts (.fieldLink RX4 37 "OneSentenceModel" "isKept" "[Z") (by decide +kernel)) rfl dX4_keep_13 ?_
    refine lv_iload_n hx hb dX4_keep_16 rfl (lv_at hl 1 rfl) ?_
    refine lv_iconst (v := 1) hx hb dX4_keep_17 (by decide) ?_
    obtain ⟨w18, h18, hf⟩ := bd_e hf
    refine z_zast hx hb hK hJ hw hS 2 (k := 10) (by decide) cM_ne (fun w => rfl) rfl (by decide) h18 dX4_keep_18 (fun H locs hw hS => ?_)
    refine lv_iconst (v := 0) hx hb dX4_keep_19 (by decide) ?_
    refine lv_istore_n (lv' := [(2, .int 0), (0, .ref (L 0)), (1, .int x1)]) hx hb dX4_keep_20 rfl hl (by decide) rfl (fun ls hl => ?_)
    exact wm_keep_21 hJ C0 hK hE _ _ _ _ _ _ _ hw hS (lv_sub hl [1, 2, 0] rfl) hf
  · replace hf := if_t hf c7
    refine lv_iconst (v := (-1)) hx hb dX4_keep_10 (by decide) ?_
    exact z_iret hx hb hr hlk hw hS hf dX4_keep_11
set_option maxHeartbeats 4000000 in
set_option maxRecDepth 100000 in
theorem km_keep (l : Launch) {D : va_G} {L : Nat → Nat} {K : Nat → ClassId} (hJ : gj L 12) (x1 : Int32) (w : St) {w9 : St} {rs : Int32} (hf : fm_keep x1 w = some (rs, w9)) : Met l yX4_keep wsX4_keep ({ frames := 1, cells := 0, slots := 0, locals := 25 }) (va_Pc [.ref (L 0), .int x1] (mP D L K w)) (qI D L 12 (cM L K) rs w9) 0 0 (gA L 12) := by
  refine g_met (cc := cX4_keep) (nL := 3) (ret := (some .int)) (by decide) rfl (Nat.le_of_ble_eq_true rfl) (fun p e s m below meth c ls C0 hP hl => ?_)
  exact wm_keep_0 hJ C0 hP.2.1 hP.2.2 _ w _ _ ls hP.1 va_S.rf (lv_sub hl [0, 1] rfl) hf
set_option maxRecDepth 20000 in
theorem ggX4_again_X4_in : GoodIn wsX4_again wsX4_in := goodIn_r _ [8] (by decide +kernel) (by decide +kernel)
set_option maxRecDepth 20000 in
theorem gX4_again_X4_in : GoodIn wsX4_again (va_wsS RX4 46 yX4_in wsX4_in) := goodIn_app (goodIn_of _ (by decide +kernel)) ggX4_again_X4_in
theorem dX4_again_0 : decode cX4_again 0 = .ok (.iload_n 1, 1) := by decide +kernel
theorem dX4_again_1 : decode cX4_again 1 = .ok (.i2l, 1) := by decide +kernel
theorem dX4_again_2 : decode cX4_again 2 = .ok (.lconst 0, 1) := by decide +kernel
theorem dX4_again_3 : decode cX4_again 3 = .ok (.lconst 1, 1) := by decide +kernel
theorem dX4_again_4 : decode cX4_again 4 = .ok (.invokestatic 46, 3) := by decide +kernel
theorem dX4_again_7 : decode cX4_again 7 = .ok (.ifCond .ne 5, 3) := by decide +kernel
theorem dX4_again_10 : decode cX4_again 10 = .ok (.iconst (-1), 1) := by decide +kernel
theorem dX4_again_11 : decode cX4_again 11 = .ok (.ireturn, 1) := by decide +kernel
theorem dX4_again_12 : decode cX4_again 12 = .ok (.aload_n 0, 1) := by decide +kernel
theorem dX4_again_13 : decode cX4_again 13 = .ok (.getfield 37, 3) := by decide +kernel
theorem dX4_again_16 : decode cX4_again 16 = .ok (.iload_n 1, 1) := by decide +kernel
theorem dX4_again_17 : decode cX4_again 17 = .ok (.baload, 1) := by decide +kernel
theorem dX4_again_18 : decode cX4_again 18 = .ok (.ifCond .ne 6, 3) := by decide +kernel
theorem dX4_again_21 : decode cX4_again 21 = .ok (.bipush (-3), 2) := by decide +kernel
theorem dX4_again_23 : decode cX4_again 23 = .ok (.ireturn, 1) := by decide +kernel
theorem dX4_again_24 : decode cX4_again 24 = .ok (.iconst 0, 1) := by decide +kernel
theorem dX4_again_25 : decode cX4_again 25 = .ok (.istore_n 2, 1) := by decide +kernel
theorem dX4_again_26 : decode cX4_again 26 = .ok (.iload_n 2, 1) := by decide +kernel
theorem dX4_again_27 : decode cX4_again 27 = .ok (.bipush 27, 2) := by decide +kernel
theorem dX4_again_29 : decode cX4_again 29 = .ok (.if_icmp .ge 26, 3) := by decide +kernel
theorem dX4_again_32 : decode cX4_again 32 = .ok (.aload_n 0, 1) := by decide +kernel
theorem dX4_again_33 : decode cX4_again 33 = .ok (.getfield 16, 3) := by decide +kernel
theorem dX4_again_36 : decode cX4_again 36 = .ok (.iload_n 2, 1) := by decide +kernel
theorem dX4_again_37 : decode cX4_again 37 = .ok (.aload_n 0, 1) := by decide +kernel
theorem dX4_again_38 : decode cX4_again 38 = .ok (.getfield 41, 3) := by decide +kernel
theorem dX4_again_41 : decode cX4_again 41 = .ok (.bipush 27, 2) := by decide +kernel
theorem dX4_again_43 : decode cX4_again 43 = .ok (.iload_n 1, 1) := by decide +kernel
theorem dX4_again_44 : decode cX4_again 44 = .ok (.imul, 1) := by decide +kernel
theorem dX4_again_45 : decode cX4_again 45 = .ok (.iload_n 2, 1) := by decide +kernel
theorem dX4_again_46 : decode cX4_again 46 = .ok (.iadd, 1) := by decide +kernel
theorem dX4_again_47 : decode cX4_again 47 = .ok (.iaload, 1) := by decide +kernel
theorem dX4_again_48 : decode cX4_again 48 = .ok (.iastore, 1) := by decide +kernel
theorem dX4_again_49 : decode cX4_again 49 = .ok (.iinc 2 1, 3) := by decide +kernel
theorem dX4_again_52 : decode cX4_again 52 = .ok (.goto (-26), 3) := by decide +kernel
theorem dX4_again_55 : decode cX4_again 55 = .ok (.aload_n 0, 1) := by decide +kernel
theorem dX4_again_56 : decode cX4_again 56 = .ok (.iconst 0, 1) := by decide +kernel
theorem dX4_again_57 : decode cX4_again 57 = .ok (.putfield 80, 3) := by decide +kernel
theorem dX4_again_60 : decode cX4_again 60 = .ok (.aload_n 0, 1) := by decide +kernel
theorem dX4_again_61 : decode cX4_again 61 = .ok (.getfield 16, 3) := by decide +kernel
theorem dX4_again_64 : decode cX4_again 64 = .ok (.bipush 26, 2) := by decide +kernel
theorem dX4_again_66 : decode cX4_again 66 = .ok (.iaload, 1) := by decide +kernel
theorem dX4_again_67 : decode cX4_again 67 = .ok (.ireturn, 1) := by decide +kernel
set_option maxRecDepth 20000 in
theorem hiX4_again_X4 : ∀ w ∈ u_ws RX4 TX4 24, w ∈ wsX4_again := by decide +kernel
set_option maxHeartbeats 4000000 in
set_option maxRecDepth 100000 in
theorem wm_again_26 {p : Program} {l : Launch} {e : Env} {s : State} {m : MethodId} {args : Array Value} {below : List Frame} {meth : Method} {c : Code} {D : va_G} {L : Nat → Nat} {K : Nat → ClassId} (hJ : gj L 12) (C0 : gC cX4_again 3 (some .int) wsX4_again RX4 p s m args meth c) (hK : va_K D vwCl (tyG K) s) (hE : eM s) {w9 : St} {rs : Int32} : ∀ (fu : Nat) (x1 : Int32) (x2 : Int32) (w : St) (H : Heap) (locs : List Loc) (ls : Array Slot), va_P D vwCl (gl L 12 (cM L K w)) H → va_S (gA L 12) s.heap H locs → lv_has ls 3 [(0, .ref (L 0)), (1, .int x1), (2, .int x2)] → fm_again_26 fu x1 x2 w = some (rs, w9) → W p l e { frames := 1, cells := 0, slots := 0, locals := 25 } s m args below meth c H locs 0 0 (MQ below (qI D L 12 (cM L K) rs w9) args s 0 0 (gA L 12)) (F0 m 26 ls []) := by
  obtain ⟨hx, hb, hr, hml, hown, hts, hlk⟩ := id C0
  intro fu
  induction fu with
  | zero =>
    intro x1 x2 w H locs ls hw hS hl hf
    rw [fm_again_26] at hf
    exact no_n hf
  | succ fu ih =>
    intro x1 x2 w H locs ls hw hS hl hf
    rw [fm_again_26] at hf
    refine lv_iload_n hx hb dX4_again_26 rfl (lv_at hl 2 rfl) ?_
    refine lv_bipush (v := 27) hx hb dX4_again_27 (by decide) ?_
    refine lv_icmp_ge (tgt := 55) hx hb dX4_again_29 (by decide) (fun c29 => ?_) (fun c29 => ?_)
    · replace hf := if_t hf c29
      refine lv_aload_n hx hb dX4_again_55 rfl (lv_at hl 0 rfl) ?_
      refine lv_iconst (v := 0) hx hb dX4_again_56 (by decide) ?_
      refine z_puti hx hb hts hiX4_again_X4 tyX4 tyX4_ok nmX4 hown hK hJ hw hS (k := 0) (by decide) cM_ne (fs := fM0 L) (fun w => rfl) rfl 12 (by decide) (hts (.fieldLink RX4 80 "OneSentenceModel" "acts" "I") (by decide +kernel)) rfl rfl (fun _ _ => ⟨Nat.le_of_ble_eq_true rfl, rfl⟩) dX4_again_57 (fun H locs hw hS => ?_)
      refine lv_aload_n hx hb dX4_again_60 rfl (lv_at hl 0 rfl) ?_
      refine z_get (v := .ref (L 3)) hx hb hts hiX4_again_X4 hown hK hw (k := 0) (by decide) ((fun w => rfl) _) rfl 4 (by decide) (hts (.fieldLink RX4 16 "OneSentenceModel" "now" "[I") (by decide +kernel)) rfl dX4_again_61 ?_
      refine lv_bipush (v := 26) hx hb dX4_again_64 (by decide) ?_
      obtain ⟨v66, h66, hf⟩ := bd_e hf
      refine z_iald hx hb hK hw 0 (k := 3) (by decide) ((fun w => rfl) _) rfl h66 dX4_again_66 ?_
      exact z_iret hx hb hr hlk hw hS hf dX4_again_67
    · replace hf := if_f hf c29
      refine lv_aload_n hx hb dX4_again_32 rfl (lv_at hl 0 rfl) ?_
      refine z_get (v := .ref (L 3)) hx hb hts hiX4_again_X4 hown hK hw (k := 0) (by decide) ((fun w => rfl) _) rfl 4 (by decide) (hts (.fieldLink RX4 16 "OneSentenceModel" "now" "[I") (by decide +kernel)) rfl dX4_again_33 ?_
      refine lv_iload_n hx hb dX4_again_36 rfl (lv_at hl 2 rfl) ?_
      refine lv_aload_n hx hb dX4_again_37 rfl (lv_at hl 0 rfl) ?_
      refine z_get (v := .ref (L 11)) hx hb hts hiX4_again_X4 hown hK hw (k := 0) (by decide) ((fun w => rfl) _) rfl 23 (by decide) (hts (.fieldLink RX4 41 "OneSentenceModel" "kept" "[I") (by decide +kernel)) rfl dX4_again_38 ?_
      refine lv_bipush (v := 27) hx hb dX4_again_41 (by decide) ?_
      refine lv_iload_n hx hb dX4_again_43 rfl (lv_at hl 1 rfl) ?_
      refine lv_imul hx hb dX4_again_44 ?_
      refine lv_iload_n hx hb dX4_again_45 rfl (lv_at hl 2 rfl) ?_
      refine lv_iadd hx hb dX4_again_46 ?_
      obtain ⟨v47, h47, hf⟩ := bd_e hf
      refine z_iald hx hb hK hw 0 (k := 11) (by decide) ((fun w => rfl) _) rfl h47 dX4_again_47 ?_
      obtain ⟨w48, h48, hf⟩ := bd_e hf
      refine z_iast hx hb hK hJ hw hS 0 (k := 3) (by decide) cM_ne (fun w => rfl) rfl h48 dX4_again_48 (fun H locs hw hS => ?_)
      refine lv_iinc (v := (x2 + 1)) (lv' := [(2, .int (x2 + 1)), (0, .ref (L 0)), (1, .int x1)]) hx hb dX4_again_49 hl (k := 2) rfl rfl (by decide) rfl (fun ls hl => ?_)
      refine lv_goto (tgt := 26) hx hb dX4_again_52 (by decide) ?_
      exact ih _ _ _ _ _ _ hw hS (lv_sub hl [1, 2, 0] rfl) hf
set_option maxHeartbeats 4000000 in
set_option maxRecDepth 100000 in
theorem wm_again_0 {p : Program} {l : Launch} {e : Env} {s : State} {m : MethodId} {args : Array Value} {below : List Frame} {meth : Method} {c : Code} {D : va_G} {L : Nat → Nat} {K : Nat → ClassId} (hJ : gj L 12) (C0 : gC cX4_again 3 (some .int) wsX4_again RX4 p s m args meth c) (hK : va_K D vwCl (tyG K) s) (hE : eM s) {w9 : St} {rs : Int32} : ∀ (x1 : Int32) (w : St) (H : Heap) (locs : List Loc) (ls : Array Slot), va_P D vwCl (gl L 12 (cM L K w)) H → va_S (gA L 12) s.heap H locs → lv_has ls 3 [(0, .ref (L 0)), (1, .int x1)] → fm_again x1 w = some (rs, w9) → W p l e { frames := 1, cells := 0, slots := 0, locals := 25 } s m args below meth c H locs 0 0 (MQ below (qI D L 12 (cM L K) rs w9) args s 0 0 (gA L 12)) (F0 m 0 ls []) := by
  obtain ⟨hx, hb, hr, hml, hown, hts, hlk⟩ := id C0
  intro x1 w H locs ls hw hS hl hf
  unfold fm_again at hf
  refine lv_iload_n hx hb dX4_again_0 rfl (lv_at hl 1 rfl) ?_
  refine lv_i2l (v := x1.toInt64) hx hb dX4_again_1 rfl ?_
  refine lv_lconst (v := 0) hx hb dX4_again_2 (by decide) ?_
  refine lv_lconst (v := 1) hx hb dX4_again_3 (by decide) ?_
  obtain ⟨v4, h4, hf⟩ := bd_e hf
  refine z_calls (va_runS (As := [.long (x1.toInt64), .long 0, .long 1]) (rest := []) ⟨hx, hb, hml, hown, hts⟩ (km_in l (x1.toInt64) 0 1 h4) (va_cwS 3 hts gX4_again_X4_in rfl rfl rfl (by decide +kernel) ⟨Nat.le_of_ble_eq_true rfl, Nat.le_of_ble_eq_true rfl⟩) z_preT rfl rfl hl.1 rfl (lv_room (Nat.le_of_ble_eq_true rfl)) dX4_again_4 ⟨Nat.le_of_ble_eq_true rfl, Nat.le_of_ble_eq_true rfl⟩) ?_
  refine lv_if_ne (tgt := 12) hx hb dX4_again_7 (by decide) (fun c7 => ?_) (fun c7 => ?_)
  · replace hf := if_f hf c7
    refine lv_aload_n hx hb dX4_again_12 rfl (lv_at hl 0 rfl) ?_
    refine z_get (v := .ref (L 10)) hx hb hts hiX4_again_X4 hown hK hw (k := 0) (by decide) ((fun w => rfl) _) rfl 22 (by decide) (hts (.fieldLink RX4 37 "OneSentenceModel" "isKept" "[Z") (by decide +kernel)) rfl dX4_again_13 ?_
    refine lv_iload_n hx hb dX4_again_16 rfl (lv_at hl 1 rfl) ?_
    obtain ⟨v17, h17, hf⟩ := bd_e hf
    refine z_zald hx hb hK hw 2 (k := 10) (by decide) ((fun w => rfl) _) rfl h17 dX4_again_17 ?_
    refine lv_if_ne (tgt := 24) hx hb dX4_again_18 (by decide) (fun c18 => ?_) (fun c18 => ?_)
    · replace hf := if_f hf c18
      refine lv_iconst (v := 0) hx hb dX4_again_24 (by decide) ?_
      refine lv_istore_n (lv' := [(2, .int 0), (0, .ref (L 0)), (1, .int x1)]) hx hb dX4_again_25 rfl hl (by decide) rfl (fun ls hl => ?_)
      exact wm_again_26 hJ C0 hK hE _ _ _ _ _ _ _ hw hS (lv_sub hl [1, 2, 0] rfl) hf
    · replace hf := if_t hf c18
      refine lv_bipush (v := (-3)) hx hb dX4_again_21 (by decide) ?_
      exact z_iret hx hb hr hlk hw hS hf dX4_again_23
  · replace hf := if_t hf c7
    refine lv_iconst (v := (-1)) hx hb dX4_again_10 (by decide) ?_
    exact z_iret hx hb hr hlk hw hS hf dX4_again_11
set_option maxHeartbeats 4000000 in
set_option maxRecDepth 100000 in
theorem km_again (l : Launch) {D : va_G} {L : Nat → Nat} {K : Nat → ClassId} (hJ : gj L 12) (x1 : Int32) (w : St) {w9 : St} {rs : Int32} (hf : fm_again x1 w = some (rs, w9)) : Met l yX4_again wsX4_again ({ frames := 1, cells := 0, slots := 0, locals := 25 }) (va_Pc [.ref (L 0), .int x1] (mP D L K w)) (qI D L 12 (cM L K) rs w9) 0 0 (gA L 12) := by
  refine g_met (cc := cX4_again) (nL := 3) (ret := (some .int)) (by decide) rfl (Nat.le_of_ble_eq_true rfl) (fun p e s m below meth c ls C0 hP hl => ?_)
  exact wm_again_0 hJ C0 hP.2.1 hP.2.2 _ w _ _ ls hP.1 va_S.rf (lv_sub hl [0, 1] rfl) hf
set_option maxRecDepth 20000 in
theorem ggX4_count_X4_may : GoodIn wsX4_count wsX4_may := goodIn_r _ [10, 4, 11, 12, 13, 9, 14, 15, 16, 17, 18, 19, 20, 21, 22, 23, 24, 25, 26, 27, 28, 29, 30, 31, 32, 33, 34, 35, 36, 37, 38] (by decide +kernel) (by decide +kernel)
set_option maxRecDepth 20000 in
theorem gX4_count_X4_may : GoodIn wsX4_count (wsV RX4 99 RX4 yX4_may wsX4_may) := goodIn_app (goodIn_of _ (by decide +kernel)) ggX4_count_X4_may
theorem dX4_count_0 : decode cX4_count 0 = .ok (.iconst 0, 1) := by decide +kernel
theorem dX4_count_1 : decode cX4_count 1 = .ok (.istore_n 2, 1) := by decide +kernel
theorem dX4_count_2 : decode cX4_count 2 = .ok (.iconst 0, 1) := by decide +kernel
theorem dX4_count_3 : decode cX4_count 3 = .ok (.istore_n 3, 1) := by decide +kernel
theorem dX4_count_4 : decode cX4_count 4 = .ok (.iload_n 3, 1) := by decide +kernel
theorem dX4_count_5 : decode cX4_count 5 = .ok (.aload_n 0, 1) := by decide +kernel
theorem dX4_count_6 : decode cX4_count 6 = .ok (.getfield 74, 3) := by decide +kernel
theorem dX4_count_9 : decode cX4_count 9 = .ok (.if_icmp .ge 28, 3) := by decide +kernel
theorem dX4_count_12 : decode cX4_count 12 = .ok (.iload_n 2, 1) := by decide +kernel
theorem dX4_count_13 : decode cX4_count 13 = .ok (.aload_n 0, 1) := by decide +kernel
theorem dX4_count_14 : decode cX4_count 14 = .ok (.iconst 0, 1) := by decide +kernel
theorem dX4_count_15 : decode cX4_count 15 = .ok (.iload_n 3, 1) := by decide +kernel
theorem dX4_count_16 : decode cX4_count 16 = .ok (.invokevirtual 99, 3) := by decide +kernel
theorem dX4_count_19 : decode cX4_count 19 = .ok (.ifCond .eq 9, 3) := by decide +kernel
theorem dX4_count_22 : decode cX4_count 22 = .ok (.iconst 1, 1) := by decide +kernel
theorem dX4_count_23 : decode cX4_count 23 = .ok (.iload_n 3, 1) := by decide +kernel
theorem dX4_count_24 : decode cX4_count 24 = .ok (.ishl, 1) := by decide +kernel
theorem dX4_count_25 : decode cX4_count 25 = .ok (.goto 4, 3) := by decide +kernel
theorem dX4_count_28 : decode cX4_count 28 = .ok (.iconst 0, 1) := by decide +kernel
theorem dX4_count_29 : decode cX4_count 29 = .ok (.ior, 1) := by decide +kernel
theorem dX4_count_30 : decode cX4_count 30 = .ok (.istore_n 2, 1) := by decide +kernel
theorem dX4_count_31 : decode cX4_count 31 = .ok (.iinc 3 1, 3) := by decide +kernel
theorem dX4_count_34 : decode cX4_count 34 = .ok (.goto (-30), 3) := by decide +kernel
theorem dX4_count_37 : decode cX4_count 37 = .ok (.iload_n 1, 1) := by decide +kernel
theorem dX4_count_38 : decode cX4_count 38 = .ok (.tableswitch 103 0 8 #[50, 55, 60, 65, 73, 81, 88, 90, 98], 50) := by decide +kernel
theorem dX4_count_88 : decode cX4_count 88 = .ok (.aload_n 0, 1) := by decide +kernel
theorem dX4_count_89 : decode cX4_count 89 = .ok (.getfield 50, 3) := by decide +kernel
theorem dX4_count_92 : decode cX4_count 92 = .ok (.ireturn, 1) := by decide +kernel
theorem dX4_count_93 : decode cX4_count 93 = .ok (.aload_n 0, 1) := by decide +kernel
theorem dX4_count_94 : decode cX4_count 94 = .ok (.getfield 74, 3) := by decide +kernel
theorem dX4_count_97 : decode cX4_count 97 = .ok (.ireturn, 1) := by decide +kernel
theorem dX4_count_98 : decode cX4_count 98 = .ok (.aload_n 0, 1) := by decide +kernel
theorem dX4_count_99 : decode cX4_count 99 = .ok (.getfield 77, 3) := by decide +kernel
theorem dX4_count_102 : decode cX4_count 102 = .ok (.ireturn, 1) := by decide +kernel
theorem dX4_count_103 : decode cX4_count 103 = .ok (.aload_n 0, 1) := by decide +kernel
theorem dX4_count_104 : decode cX4_count 104 = .ok (.getfield 16, 3) := by decide +kernel
theorem dX4_count_107 : decode cX4_count 107 = .ok (.bipush 22, 2) := by decide +kernel
theorem dX4_count_109 : decode cX4_count 109 = .ok (.iaload, 1) := by decide +kernel
theorem dX4_count_110 : decode cX4_count 110 = .ok (.ireturn, 1) := by decide +kernel
theorem dX4_count_111 : decode cX4_count 111 = .ok (.aload_n 0, 1) := by decide +kernel
theorem dX4_count_112 : decode cX4_count 112 = .ok (.getfield 16, 3) := by decide +kernel
theorem dX4_count_115 : decode cX4_count 115 = .ok (.bipush 26, 2) := by decide +kernel
theorem dX4_count_117 : decode cX4_count 117 = .ok (.iaload, 1) := by decide +kernel
theorem dX4_count_118 : decode cX4_count 118 = .ok (.ireturn, 1) := by decide +kernel
theorem dX4_count_119 : decode cX4_count 119 = .ok (.aload_n 0, 1) := by decide +kernel
theorem dX4_count_120 : decode cX4_count 120 = .ok (.getfield 16, 3) := by decide +kernel
theorem dX4_count_123 : decode cX4_count 123 = .ok (.iconst 0, 1) := by decide +kernel
theorem dX4_count_124 : decode cX4_count 124 = .ok (.iaload, 1) := by decide +kernel
theorem dX4_count_125 : decode cX4_count 125 = .ok (.ireturn, 1) := by decide +kernel
theorem dX4_count_126 : decode cX4_count 126 = .ok (.iload_n 2, 1) := by decide +kernel
theorem dX4_count_127 : decode cX4_count 127 = .ok (.ireturn, 1) := by decide +kernel
theorem dX4_count_128 : decode cX4_count 128 = .ok (.aload_n 0, 1) := by decide +kernel
theorem dX4_count_129 : decode cX4_count 129 = .ok (.getfield 16, 3) := by decide +kernel
theorem dX4_count_132 : decode cX4_count 132 = .ok (.bipush 23, 2) := by decide +kernel
theorem dX4_count_134 : decode cX4_count 134 = .ok (.iaload, 1) := by decide +kernel
theorem dX4_count_135 : decode cX4_count 135 = .ok (.ireturn, 1) := by decide +kernel
theorem dX4_count_136 : decode cX4_count 136 = .ok (.aload_n 0, 1) := by decide +kernel
theorem dX4_count_137 : decode cX4_count 137 = .ok (.getfield 80, 3) := by decide +kernel
theorem dX4_count_140 : decode cX4_count 140 = .ok (.ireturn, 1) := by decide +kernel
theorem dX4_count_141 : decode cX4_count 141 = .ok (.bipush (-2), 2) := by decide +kernel
theorem dX4_count_143 : decode cX4_count 143 = .ok (.ireturn, 1) := by decide +kernel
set_option maxRecDepth 20000 in
theorem hiX4_count_X4 : ∀ w ∈ u_ws RX4 TX4 24, w ∈ wsX4_count := by decide +kernel
set_option maxHeartbeats 4000000 in
set_option maxRecDepth 100000 in
theorem wm_count_29 {p : Program} {l : Launch} {e : Env} {s : State} {m : MethodId} {args : Array Value} {below : List Frame} {meth : Method} {c : Code} {D : va_G} {L : Nat → Nat} {K : Nat → ClassId} (hJ : gj L 12) (C0 : gC cX4_count 4 (some .int) wsX4_count RX4 p s m args meth c) (hK : va_K D vwCl (tyG K) s) (hE : eM s) {w9 : St} {rs : Int32} (k4 : Int32 → Int32 → Int32 → St → Option (Int32 × St)) (i4 : ∀ (x1 : Int32) (x2 : Int32) (x3 : Int32) (w : St) (H : Heap) (locs : List Loc) (ls : Array Slot), va_P D vwCl (gl L 12 (cM L K w)) H → va_S (gA L 12) s.heap H locs → lv_has ls 4 [(0, .ref (L 0)), (1, .int x1), (2, .int x2), (3, .int x3)] → k4 x1 x2 x3 w = some (rs, w9) → W p l e { frames := 2, cells := 0, slots := 0, locals := 45 } s m args below meth c H locs 0 0 (MQ below (qI D L 12 (cM L K) rs w9) args s 0 0 (gA L 12)) (F0 m 4 ls [])) : ∀ (x1 : Int32) (x3 : Int32) (s0 : Int32) (s1 : Int32) (w : St) (H : Heap) (locs : List Loc) (ls : Array Slot), va_P D vwCl (gl L 12 (cM L K w)) H → va_S (gA L 12) s.heap H locs → lv_has ls 4 [(0, .ref (L 0)), (1, .int x1), (3, .int x3)] → fm_count_29 k4 x1 x3 s0 s1 w = some (rs, w9) → W p l e { frames := 2, cells := 0, slots := 0, locals := 45 } s m args below meth c H locs 0 0 (MQ below (qI D L 12 (cM L K) rs w9) args s 0 0 (gA L 12)) (F0 m 29 ls [.int s1, .int s0]) := by
  obtain ⟨hx, hb, hr, hml, hown, hts, hlk⟩ := id C0
  intro x1 x3 s0 s1 w H locs ls hw hS hl hf
  unfold fm_count_29 at hf
  refine lv_ior hx hb dX4_count_29 ?_
  refine lv_topi (fun v30 e30 => ?_)
  replace hf := lb_e hf e30
  refine lv_istore_n (lv' := [(2, .int v30), (0, .ref (L 0)), (1, .int x1), (3, .int x3)]) hx hb dX4_count_30 rfl hl (by decide) rfl (fun ls hl => ?_)
  refine lv_iinc (v := (x3 + 1)) (lv' := [(3, .int (x3 + 1)), (2, .int v30), (0, .ref (L 0)), (1, .int x1)]) hx hb dX4_count_31 hl (k := 3) rfl rfl (by decide) rfl (fun ls hl => ?_)
  refine lv_goto (tgt := 4) hx hb dX4_count_34 (by decide) ?_
  exact i4 _ _ _ _ _ _ _ hw hS (lv_sub hl [2, 3, 1, 0] rfl) hf
set_option maxHeartbeats 4000000 in
set_option maxRecDepth 100000 in
theorem wm_count_4 {p : Program} {l : Launch} {e : Env} {s : State} {m : MethodId} {args : Array Value} {below : List Frame} {meth : Method} {c : Code} {D : va_G} {L : Nat → Nat} {K : Nat → ClassId} (hJ : gj L 12) (C0 : gC cX4_count 4 (some .int) wsX4_count RX4 p s m args meth c) (hK : va_K D vwCl (tyG K) s) (hE : eM s) {w9 : St} {rs : Int32} : ∀ (fu : Nat) (x1 : Int32) (x2 : Int32) (x3 : Int32) (w : St) (H : Heap) (locs : List Loc) (ls : Array Slot), va_P D vwCl (gl L 12 (cM L K w)) H → va_S (gA L 12) s.heap H locs → lv_has ls 4 [(0, .ref (L 0)), (1, .int x1), (2, .int x2), (3, .int x3)] → fm_count_4 fu x1 x2 x3 w = some (rs, w9) → W p l e { frames := 2, cells := 0, slots := 0, locals := 45 } s m args below meth c H locs 0 0 (MQ below (qI D L 12 (cM L K) rs w9) args s 0 0 (gA L 12)) (F0 m 4 ls []) := by
  obtain ⟨hx, hb, hr, hml, hown, hts, hlk⟩ := id C0
  intro fu
  induction fu with
  | zero =>
    intro x1 x2 x3 w H locs ls hw hS hl hf
    rw [fm_count_4] at hf
    exact no_n hf
  | succ fu ih =>
    intro x1 x2 x3 w H locs ls hw hS hl hf
    rw [fm_count_4] at hf
    refine lv_iload_n hx hb dX4_count_4 rfl (lv_at hl 3 rfl) ?_
    refine lv_aload_n hx hb dX4_count_5 rfl (lv_at hl 0 rfl) ?_
    refine z_get (v := .int (w.1 0 0)) hx hb hts hiX4_count_X4 hown hK hw (k := 0) (by decide) ((fun w => rfl) _) rfl 0 (by decide) (hts (.fieldLink RX4 74 "OneSentenceModel" "people" "I") (by decide +kernel)) rfl dX4_count_6 ?_
    refine lv_icmp_ge (tgt := 37) hx hb dX4_count_9 (by decide) (fun c9 => ?_) (fun c9 => ?_)
    · replace hf := if_t hf c9
      refine lv_iload_n hx hb dX4_count_37 rfl (lv_at hl 1 rfl) ?_
      by_cases c38_0 : x1 = 0
      · replace hf := if_t hf c38_0
        refine lv_tableIn (x := x1) (off := 50) (tgt := 88) hx hb dX4_count_38 (by rw [c38_0]; decide) (by rw [c38_0]; decide) (by rw [c38_0]; rfl) (by decide) ?_
        refine lv_aload_n hx hb dX4_count_88 rfl (lv_at hl 0 rfl) ?_
        refine z_get (v := .int (w.1 0 9)) hx hb hts hiX4_count_X4 hown hK hw (k := 0) (by decide) ((fun w => rfl) _) rfl 9 (by decide) (hts (.fieldLink RX4 50 "OneSentenceModel" "length" "I") (by decide +kernel)) rfl dX4_count_89 ?_
        exact z_iret hx hb hr hlk hw hS hf dX4_count_92
      · replace hf := if_f hf c38_0
        by_cases c38_1 : x1 = 1
        · replace hf := if_t hf c38_1
          refine lv_tableIn (x := x1) (off := 55) (tgt := 93) hx hb dX4_count_38 (by rw [c38_1]; decide) (by rw [c38_1]; decide) (by rw [c38_1]; rfl) (by decide) ?_
          refine lv_aload_n hx hb dX4_count_93 rfl (lv_at hl 0 rfl) ?_
          refine z_get (v := .int (w.1 0 0)) hx hb hts hiX4_count_X4 hown hK hw (k := 0) (by decide) ((fun w => rfl) _) rfl 0 (by decide) (hts (.fieldLink RX4 74 "OneSentenceModel" "people" "I") (by decide +kernel)) rfl dX4_count_94 ?_
          exact z_iret hx hb hr hlk hw hS hf dX4_count_97
        · replace hf := if_f hf c38_1
          by_cases c38_2 : x1 = 2
          · replace hf := if_t hf c38_2
            refine lv_tableIn (x := x1) (off := 60) (tgt := 98) hx hb dX4_count_38 (by rw [c38_2]; decide) (by rw [c38_2]; decide) (by rw [c38_2]; rfl) (by decide) ?_
            refine lv_aload_n hx hb dX4_count_98 rfl (lv_at hl 0 rfl) ?_
            refine z_get (v := .int (w.1 0 1)) hx hb hts hiX4_count_X4 hown hK hw (k := 0) (by decide) ((fun w => rfl) _) rfl 1 (by decide) (hts (.fieldLink RX4 77 "OneSentenceModel" "market" "I") (by decide +kernel)) rfl dX4_count_99 ?_
            exact z_iret hx hb hr hlk hw hS hf dX4_count_102
          · replace hf := if_f hf c38_2
            by_cases c38_3 : x1 = 3
            · replace hf := if_t hf c38_3
              refine lv_tableIn (x := x1) (off := 65) (tgt := 103) hx hb dX4_count_38 (by rw [c38_3]; decide) (by rw [c38_3]; decide) (by rw [c38_3]; rfl) (by decide) ?_
              refine lv_aload_n hx hb dX4_count_103 rfl (lv_at hl 0 rfl) ?_
              refine z_get (v := .ref (L 3)) hx hb hts hiX4_count_X4 hown hK hw (k := 0) (by decide) ((fun w => rfl) _) rfl 4 (by decide) (hts (.fieldLink RX4 16 "OneSentenceModel" "now" "[I") (by decide +kernel)) rfl dX4_count_104 ?_
              refine lv_bipush (v := 22) hx hb dX4_count_107 (by decide) ?_
              obtain ⟨v109, h109, hf⟩ := bd_e hf
              refine z_iald hx hb hK hw 0 (k := 3) (by decide) ((fun w => rfl) _) rfl h109 dX4_count_109 ?_
              exact z_iret hx hb hr hlk hw hS hf dX4_count_110
            · replace hf := if_f hf c38_3
              by_cases c38_4 : x1 = 4
              · replace hf := if_t hf c38_4
                refine lv_tableIn (x := x1) (off := 73) (tgt := 111) hx hb dX4_count_38 (by rw [c38_4]; decide) (by rw [c38_4]; decide) (by rw [c38_4]; rfl) (by decide) ?_
                refine lv_aload_n hx hb dX4_count_111 rfl (lv_at hl 0 rfl) ?_
                refine z_get (v := .ref (L 3)) hx hb hts hiX4_count_X4 hown hK hw (k := 0) (by decide) ((fun w => rfl) _) rfl 4 (by decide) (hts (.fieldLink RX4 16 "OneSentenceModel" "now" "[I") (by decide +kernel)) rfl dX4_count_112 ?_
                refine lv_bipush (v := 26) hx hb dX4_count_115 (by decide) ?_
                obtain ⟨v117, h117, hf⟩ := bd_e hf
                refine z_iald hx hb hK hw 0 (k := 3) (by decide) ((fun w => rfl) _) rfl h117 dX4_count_117 ?_
                exact z_iret hx hb hr hlk hw hS hf dX4_count_118
              · replace hf := if_f hf c38_4
                by_cases c38_5 : x1 = 5
                · replace hf := if_t hf c38_5
                  refine lv_tableIn (x := x1) (off := 81) (tgt := 119) hx hb dX4_count_38 (by rw [c38_5]; decide) (by rw [c38_5]; decide) (by rw [c38_5]; rfl) (by decide) ?_
                  refine lv_aload_n hx hb dX4_count_119 rfl (lv_at hl 0 rfl) ?_
                  refine z_get (v := .ref (L 3)) hx hb hts hiX4_count_X4 hown hK hw (k := 0) (by decide) ((fun w => rfl) _) rfl 4 (by decide) (hts (.fieldLink RX4 16 "OneSentenceModel" "now" "[I") (by decide +kernel)) rfl dX4_count_120 ?_
                  refine lv_iconst (v := 0) hx hb dX4_count_123 (by decide) ?_
                  obtain ⟨v124, h124, hf⟩ := bd_e hf
                  refine z_iald hx hb hK hw 0 (k := 3) (by decide) ((fun w => rfl) _) rfl h124 dX4_count_124 ?_
                  exact z_iret hx hb hr hlk hw hS hf dX4_count_125
                · replace hf := if_f hf c38_5
                  by_cases c38_6 : x1 = 6
                  · replace hf := if_t hf c38_6
                    refine lv_tableIn (x := x1) (off := 88) (tgt := 126) hx hb dX4_count_38 (by rw [c38_6]; decide) (by rw [c38_6]; decide) (by rw [c38_6]; rfl) (by decide) ?_
                    refine lv_iload_n hx hb dX4_count_126 rfl (lv_at hl 2 rfl) ?_
                    exact z_iret hx hb hr hlk hw hS hf dX4_count_127
                  · replace hf := if_f hf c38_6
                    by_cases c38_7 : x1 = 7
                    · replace hf := if_t hf c38_7
                      refine lv_tableIn (x := x1) (off := 90) (tgt := 128) hx hb dX4_count_38 (by rw [c38_7]; decide) (by rw [c38_7]; decide) (by rw [c38_7]; rfl) (by decide) ?_
                      refine lv_aload_n hx hb dX4_count_128 rfl (lv_at hl 0 rfl) ?_
                      refine z_get (v := .ref (L 3)) hx hb hts hiX4_count_X4 hown hK hw (k := 0) (by decide) ((fun w => rfl) _) rfl 4 (by decide) (hts (.fieldLink RX4 16 "OneSentenceModel" "now" "[I") (by decide +kernel)) rfl dX4_count_129 ?_
                      refine lv_bipush (v := 23) hx hb dX4_count_132 (by decide) ?_
                      obtain ⟨v134, h134, hf⟩ := bd_e hf
                      refine z_iald hx hb hK hw 0 (k := 3) (by decide) ((fun w => rfl) _) rfl h134 dX4_count_134 ?_
                      exact z_iret hx hb hr hlk hw hS hf dX4_count_135
                    · replace hf := if_f hf c38_7
                      by_cases c38_8 : x1 = 8
                      · replace hf := if_t hf c38_8
                        refine lv_tableIn (x := x1) (off := 98) (tgt := 136) hx hb dX4_count_38 (by rw [c38_8]; decide) (by rw [c38_8]; decide) (by rw [c38_8]; rfl) (by decide) ?_
                        refine lv_aload_n hx hb dX4_count_136 rfl (lv_at hl 0 rfl) ?_
                        refine z_get (v := .int (w.1 0 12)) hx hb hts hiX4_count_X4 hown hK hw (k := 0) (by decide) ((fun w => rfl) _) rfl 12 (by decide) (hts (.fieldLink RX4 80 "OneSentenceModel" "acts" "I") (by decide +kernel)) rfl dX4_count_137 ?_
                        exact z_iret hx hb hr hlk hw hS hf dX4_count_140
                      · replace hf := if_f hf c38_8
                        have z38 : ∀ z, z < 9 → ¬ x1 = nI z := by
                          intro z hz
                          rcases (show z = 0 ∨ z = 1 ∨ z = 2 ∨ z = 3 ∨ z = 4 ∨ z = 5 ∨ z = 6 ∨ z = 7 ∨ z = 8 by omega) with rfl | rfl | rfl | rfl | rfl | rfl | rfl | rfl | rfl
                          · exact c38_0
                          · exact c38_1
                          · exact c38_2
                          · exact c38_3
                          · exact c38_4
                          · exact c38_5
                          · exact c38_6
                          · exact c38_7
                          · exact c38_8
                        refine lv_tableOut (x := x1) (tgt := 141) hx hb dX4_count_38 (z_out (by decide) z38 rfl) (by decide) ?_
                        refine lv_bipush (v := (-2)) hx hb dX4_count_141 (by decide) ?_
                        exact z_iret hx hb hr hlk hw hS hf dX4_count_143
    · replace hf := if_f hf c9
      refine lv_iload_n hx hb dX4_count_12 rfl (lv_at hl 2 rfl) ?_
      refine lv_aload_n hx hb dX4_count_13 rfl (lv_at hl 0 rfl) ?_
      refine lv_iconst (v := 0) hx hb dX4_count_14 (by decide) ?_
      refine lv_iload_n hx hb dX4_count_15 rfl (lv_at hl 3 rfl) ?_
      obtain ⟨q16, h16, hf⟩ := bd_e hf
      refine z_calli (va_runV (As := [.int 0, .int x3]) (rest := [.int x2]) ⟨hx, hb, hml, hown, hts⟩ (km_may l (D := D) (K := K) hJ 0 x3 w  h16) (cwV 2 hts gX4_count_X4_may rfl rfl rfl (by decide +kernel) ⟨Nat.le_of_ble_eq_true rfl, Nat.le_of_ble_eq_true rfl⟩) (z_preV eM_ok hK hE hw hS (by decide) ((fun w => rfl) _) (T := TX4) (M := 24) rfl) rfl rfl hl.1 rfl (lv_room (Nat.le_of_ble_eq_true rfl)) dX4_count_16 ⟨Nat.le_of_ble_eq_true rfl, Nat.le_of_ble_eq_true rfl⟩) hS (fun H locs hw hS => ?_)
      refine lv_if_eq (tgt := 28) hx hb dX4_count_19 (by decide) (fun c19 => ?_) (fun c19 => ?_)
      · replace hf := if_t hf c19
        refine lv_iconst (v := 0) hx hb dX4_count_28 (by decide) ?_
        exact wm_count_29 hJ C0 hK hE _ ih _ _ _ _ _ _ _ _ hw hS (lv_sub hl [0, 1, 3] rfl) hf
      · replace hf := if_f hf c19
        refine lv_iconst (v := 1) hx hb dX4_count_22 (by decide) ?_
        refine lv_iload_n hx hb dX4_count_23 rfl (lv_at hl 3 rfl) ?_
        refine lv_ishl hx hb dX4_count_24 ?_
        refine lv_goto (tgt := 29) hx hb dX4_count_25 (by decide) ?_
        exact wm_count_29 hJ C0 hK hE _ ih _ _ _ _ _ _ _ _ hw hS (lv_sub hl [0, 1, 3] rfl) hf
set_option maxHeartbeats 4000000 in
set_option maxRecDepth 100000 in
theorem wm_count_0 {p : Program} {l : Launch} {e : Env} {s : State} {m : MethodId} {args : Array Value} {below : List Frame} {meth : Method} {c : Code} {D : va_G} {L : Nat → Nat} {K : Nat → ClassId} (hJ : gj L 12) (C0 : gC cX4_count 4 (some .int) wsX4_count RX4 p s m args meth c) (hK : va_K D vwCl (tyG K) s) (hE : eM s) {w9 : St} {rs : Int32} : ∀ (x1 : Int32) (w : St) (H : Heap) (locs : List Loc) (ls : Array Slot), va_P D vwCl (gl L 12 (cM L K w)) H → va_S (gA L 12) s.heap H locs → lv_has ls 4 [(0, .ref (L 0)), (1, .int x1)] → fm_count x1 w = some (rs, w9) → W p l e { frames := 2, cells := 0, slots := 0, locals := 45 } s m args below meth c H locs 0 0 (MQ below (qI D L 12 (cM L K) rs w9) args s 0 0 (gA L 12)) (F0 m 0 ls []) := by
  obtain ⟨hx, hb, hr, hml, hown, hts, hlk⟩ := id C0
  intro x1 w H locs ls hw hS hl hf
  unfold fm_count at hf
  refine lv_iconst (v := 0) hx hb dX4_count_0 (by decide) ?_
  refine lv_istore_n (lv' := [(2, .int 0), (0, .ref (L 0)), (1, .int x1)]) hx hb dX4_count_1 rfl hl (by decide) rfl (fun ls hl => ?_)
  refine lv_iconst (v := 0) hx hb dX4_count_2 (by decide) ?_
  refine lv_istore_n (lv' := [(3, .int 0), (2, .int 0), (0, .ref (L 0)), (1, .int x1)]) hx hb dX4_count_3 rfl hl (by decide) rfl (fun ls hl => ?_)
  exact wm_count_4 hJ C0 hK hE _ _ _ _ _ _ _ _ hw hS (lv_sub hl [2, 3, 1, 0] rfl) hf
set_option maxHeartbeats 4000000 in
set_option maxRecDepth 100000 in
theorem km_count (l : Launch) {D : va_G} {L : Nat → Nat} {K : Nat → ClassId} (hJ : gj L 12) (x1 : Int32) (w : St) {w9 : St} {rs : Int32} (hf : fm_count x1 w = some (rs, w9)) : Met l yX4_count wsX4_count ({ frames := 2, cells := 0, slots := 0, locals := 45 }) (va_Pc [.ref (L 0), .int x1] (mP D L K w)) (qI D L 12 (cM L K) rs w9) 0 0 (gA L 12) := by
  refine g_met (cc := cX4_count) (nL := 4) (ret := (some .int)) (by decide) rfl (Nat.le_of_ble_eq_true rfl) (fun p e s m below meth c ls C0 hP hl => ?_)
  exact wm_count_0 hJ C0 hP.2.1 hP.2.2 _ w _ _ ls hP.1 va_S.rf (lv_sub hl [0, 1] rfl) hf
