-- walks: X10_readsItem X10_settles X10_city X10_isDoor X10_isBoy X10_isPlace X10_lowest X10_highest X10_sings
theorem dX10_readsItem_0 : decode cX10_readsItem 0 = .ok (.aload_n 0, 1) := by decide +kernel
theorem dX10_readsItem_1 : decode cX10_readsItem 1 = .ok (.getfield 13, 3) := by decide +kernel
theorem dX10_readsItem_4 : decode cX10_readsItem 4 = .ok (.iconst 4, 1) := by decide +kernel
theorem dX10_readsItem_5 : decode cX10_readsItem 5 = .ok (.iaload, 1) := by decide +kernel
theorem dX10_readsItem_6 : decode cX10_readsItem 6 = .ok (.iconst 1, 1) := by decide +kernel
theorem dX10_readsItem_7 : decode cX10_readsItem 7 = .ok (.isub, 1) := by decide +kernel
theorem dX10_readsItem_8 : decode cX10_readsItem 8 = .ok (.istore_n 2, 1) := by decide +kernel
theorem dX10_readsItem_9 : decode cX10_readsItem 9 = .ok (.iload_n 1, 1) := by decide +kernel
theorem dX10_readsItem_10 : decode cX10_readsItem 10 = .ok (.bipush 110, 2) := by decide +kernel
theorem dX10_readsItem_12 : decode cX10_readsItem 12 = .ok (.if_icmp .ne 19, 3) := by decide +kernel
theorem dX10_readsItem_15 : decode cX10_readsItem 15 = .ok (.aload_n 0, 1) := by decide +kernel
theorem dX10_readsItem_16 : decode cX10_readsItem 16 = .ok (.getfield 13, 3) := by decide +kernel
theorem dX10_readsItem_19 : decode cX10_readsItem 19 = .ok (.iconst 4, 1) := by decide +kernel
theorem dX10_readsItem_20 : decode cX10_readsItem 20 = .ok (.aload_n 0, 1) := by decide +kernel
theorem dX10_readsItem_21 : decode cX10_readsItem 21 = .ok (.iconst 1, 1) := by decide +kernel
theorem dX10_readsItem_22 : decode cX10_readsItem 22 = .ok (.bipush 8, 2) := by decide +kernel
theorem dX10_readsItem_24 : decode cX10_readsItem 24 = .ok (.invokevirtual 114, 3) := by decide +kernel
theorem dX10_readsItem_27 : decode cX10_readsItem 27 = .ok (.iastore, 1) := by decide +kernel
theorem dX10_readsItem_28 : decode cX10_readsItem 28 = .ok (.goto 225, 3) := by decide +kernel
theorem dX10_readsItem_31 : decode cX10_readsItem 31 = .ok (.iload_n 1, 1) := by decide +kernel
theorem dX10_readsItem_32 : decode cX10_readsItem 32 = .ok (.bipush 100, 2) := by decide +kernel
theorem dX10_readsItem_34 : decode cX10_readsItem 34 = .ok (.if_icmp .ne 99, 3) := by decide +kernel
theorem dX10_readsItem_37 : decode cX10_readsItem 37 = .ok (.bipush 8, 2) := by decide +kernel
theorem dX10_readsItem_39 : decode cX10_readsItem 39 = .ok (.aload_n 0, 1) := by decide +kernel
theorem dX10_readsItem_40 : decode cX10_readsItem 40 = .ok (.getfield 13, 3) := by decide +kernel
theorem dX10_readsItem_43 : decode cX10_readsItem 43 = .ok (.iconst 5, 1) := by decide +kernel
theorem dX10_readsItem_44 : decode cX10_readsItem 44 = .ok (.iaload, 1) := by decide +kernel
theorem dX10_readsItem_45 : decode cX10_readsItem 45 = .ok (.iadd, 1) := by decide +kernel
theorem dX10_readsItem_46 : decode cX10_readsItem 46 = .ok (.istore_n 3, 1) := by decide +kernel
theorem dX10_readsItem_47 : decode cX10_readsItem 47 = .ok (.aload_n 0, 1) := by decide +kernel
theorem dX10_readsItem_48 : decode cX10_readsItem 48 = .ok (.getfield 16, 3) := by decide +kernel
theorem dX10_readsItem_51 : decode cX10_readsItem 51 = .ok (.iload_n 3, 1) := by decide +kernel
theorem dX10_readsItem_52 : decode cX10_readsItem 52 = .ok (.aload_n 0, 1) := by decide +kernel
theorem dX10_readsItem_53 : decode cX10_readsItem 53 = .ok (.iconst 0, 1) := by decide +kernel
theorem dX10_readsItem_54 : decode cX10_readsItem 54 = .ok (.iload_n 2, 1) := by decide +kernel
theorem dX10_readsItem_55 : decode cX10_readsItem 55 = .ok (.invokevirtual 114, 3) := by decide +kernel
theorem dX10_readsItem_58 : decode cX10_readsItem 58 = .ok (.iastore, 1) := by decide +kernel
theorem dX10_readsItem_59 : decode cX10_readsItem 59 = .ok (.aload_n 0, 1) := by decide +kernel
theorem dX10_readsItem_60 : decode cX10_readsItem 60 = .ok (.getfield 19, 3) := by decide +kernel
theorem dX10_readsItem_63 : decode cX10_readsItem 63 = .ok (.iload_n 3, 1) := by decide +kernel
theorem dX10_readsItem_64 : decode cX10_readsItem 64 = .ok (.aload_n 0, 1) := by decide +kernel
theorem dX10_readsItem_65 : decode cX10_readsItem 65 = .ok (.aload_n 0, 1) := by decide +kernel
theorem dX10_readsItem_66 : decode cX10_readsItem 66 = .ok (.getfield 86, 3) := by decide +kernel
theorem dX10_readsItem_69 : decode cX10_readsItem 69 = .ok (.iconst 2, 1) := by decide +kernel
theorem dX10_readsItem_70 : decode cX10_readsItem 70 = .ok (.if_icmp .ne 32, 3) := by decide +kernel
theorem dX10_readsItem_73 : decode cX10_readsItem 73 = .ok (.aload_n 0, 1) := by decide +kernel
theorem dX10_readsItem_74 : decode cX10_readsItem 74 = .ok (.getfield 89, 3) := by decide +kernel
theorem dX10_readsItem_77 : decode cX10_readsItem 77 = .ok (.iconst 0, 1) := by decide +kernel
theorem dX10_readsItem_78 : decode cX10_readsItem 78 = .ok (.iload_n 2, 1) := by decide +kernel
theorem dX10_readsItem_79 : decode cX10_readsItem 79 = .ok (.invokestatic 69, 3) := by decide +kernel
theorem dX10_readsItem_82 : decode cX10_readsItem 82 = .ok (.ifCond .eq 20, 3) := by decide +kernel
theorem dX10_readsItem_85 : decode cX10_readsItem 85 = .ok (.aload_n 0, 1) := by decide +kernel
theorem dX10_readsItem_86 : decode cX10_readsItem 86 = .ok (.getfield 89, 3) := by decide +kernel
theorem dX10_readsItem_89 : decode cX10_readsItem 89 = .ok (.aload_n 0, 1) := by decide +kernel
theorem dX10_readsItem_90 : decode cX10_readsItem 90 = .ok (.getfield 16, 3) := by decide +kernel
theorem dX10_readsItem_93 : decode cX10_readsItem 93 = .ok (.iload_n 3, 1) := by decide +kernel
theorem dX10_readsItem_94 : decode cX10_readsItem 94 = .ok (.iaload, 1) := by decide +kernel
theorem dX10_readsItem_95 : decode cX10_readsItem 95 = .ok (.if_icmp .eq 7, 3) := by decide +kernel
theorem dX10_readsItem_98 : decode cX10_readsItem 98 = .ok (.iconst 1, 1) := by decide +kernel
theorem dX10_readsItem_99 : decode cX10_readsItem 99 = .ok (.goto 4, 3) := by decide +kernel
theorem dX10_readsItem_102 : decode cX10_readsItem 102 = .ok (.iconst 0, 1) := by decide +kernel
theorem dX10_readsItem_103 : decode cX10_readsItem 103 = .ok (.invokevirtual 106, 3) := by decide +kernel
theorem dX10_readsItem_106 : decode cX10_readsItem 106 = .ok (.iastore, 1) := by decide +kernel
theorem dX10_readsItem_107 : decode cX10_readsItem 107 = .ok (.aload_n 0, 1) := by decide +kernel
theorem dX10_readsItem_108 : decode cX10_readsItem 108 = .ok (.getfield 22, 3) := by decide +kernel
theorem dX10_readsItem_111 : decode cX10_readsItem 111 = .ok (.iload_n 3, 1) := by decide +kernel
theorem dX10_readsItem_112 : decode cX10_readsItem 112 = .ok (.aload_n 0, 1) := by decide +kernel
theorem dX10_readsItem_113 : decode cX10_readsItem 113 = .ok (.iconst 0, 1) := by decide +kernel
theorem dX10_readsItem_114 : decode cX10_readsItem 114 = .ok (.bipush 40, 2) := by decide +kernel
theorem dX10_readsItem_116 : decode cX10_readsItem 116 = .ok (.invokevirtual 114, 3) := by decide +kernel
theorem dX10_readsItem_119 : decode cX10_readsItem 119 = .ok (.iastore, 1) := by decide +kernel
theorem dX10_readsItem_120 : decode cX10_readsItem 120 = .ok (.aload_n 0, 1) := by decide +kernel
theorem dX10_readsItem_121 : decode cX10_readsItem 121 = .ok (.getfield 13, 3) := by decide +kernel
theorem dX10_readsItem_124 : decode cX10_readsItem 124 = .ok (.iconst 5, 1) := by decide +kernel
theorem dX10_readsItem_125 : decode cX10_readsItem 125 = .ok (.dup2, 1) := by decide +kernel
theorem dX10_readsItem_126 : decode cX10_readsItem 126 = .ok (.iaload, 1) := by decide +kernel
theorem dX10_readsItem_127 : decode cX10_readsItem 127 = .ok (.iconst 1, 1) := by decide +kernel
theorem dX10_readsItem_128 : decode cX10_readsItem 128 = .ok (.iadd, 1) := by decide +kernel
theorem dX10_readsItem_129 : decode cX10_readsItem 129 = .ok (.iastore, 1) := by decide +kernel
theorem dX10_readsItem_130 : decode cX10_readsItem 130 = .ok (.goto 123, 3) := by decide +kernel
theorem dX10_readsItem_133 : decode cX10_readsItem 133 = .ok (.iload_n 1, 1) := by decide +kernel
theorem dX10_readsItem_134 : decode cX10_readsItem 134 = .ok (.bipush 98, 2) := by decide +kernel
theorem dX10_readsItem_136 : decode cX10_readsItem 136 = .ok (.if_icmp .ne 98, 3) := by decide +kernel
theorem dX10_readsItem_139 : decode cX10_readsItem 139 = .ok (.iconst 5, 1) := by decide +kernel
theorem dX10_readsItem_140 : decode cX10_readsItem 140 = .ok (.aload_n 0, 1) := by decide +kernel
theorem dX10_readsItem_141 : decode cX10_readsItem 141 = .ok (.getfield 13, 3) := by decide +kernel
theorem dX10_readsItem_144 : decode cX10_readsItem 144 = .ok (.bipush 6, 2) := by decide +kernel
theorem dX10_readsItem_146 : decode cX10_readsItem 146 = .ok (.iaload, 1) := by decide +kernel
theorem dX10_readsItem_147 : decode cX10_readsItem 147 = .ok (.iadd, 1) := by decide +kernel
theorem dX10_readsItem_148 : decode cX10_readsItem 148 = .ok (.istore_n 3, 1) := by decide +kernel
theorem dX10_readsItem_149 : decode cX10_readsItem 149 = .ok (.aload_n 0, 1) := by decide +kernel
theorem dX10_readsItem_150 : decode cX10_readsItem 150 = .ok (.getfield 25, 3) := by decide +kernel
theorem dX10_readsItem_153 : decode cX10_readsItem 153 = .ok (.iload_n 3, 1) := by decide +kernel
theorem dX10_readsItem_154 : decode cX10_readsItem 154 = .ok (.aload_n 0, 1) := by decide +kernel
theorem dX10_readsItem_155 : decode cX10_readsItem 155 = .ok (.iconst 0, 1) := by decide +kernel
theorem dX10_readsItem_156 : decode cX10_readsItem 156 = .ok (.bipush 40, 2) := by decide +kernel
theorem dX10_readsItem_158 : decode cX10_readsItem 158 = .ok (.invokevirtual 114, 3) := by decide +kernel
theorem dX10_readsItem_161 : decode cX10_readsItem 161 = .ok (.iastore, 1) := by decide +kernel
theorem dX10_readsItem_162 : decode cX10_readsItem 162 = .ok (.aload_n 0, 1) := by decide +kernel
theorem dX10_readsItem_163 : decode cX10_readsItem 163 = .ok (.getfield 28, 3) := by decide +kernel
theorem dX10_readsItem_166 : decode cX10_readsItem 166 = .ok (.iload_n 3, 1) := by decide +kernel
theorem dX10_readsItem_167 : decode cX10_readsItem 167 = .ok (.aload_n 0, 1) := by decide +kernel
theorem dX10_readsItem_168 : decode cX10_readsItem 168 = .ok (.aload_n 0, 1) := by decide +kernel
theorem dX10_readsItem_169 : decode cX10_readsItem 169 = .ok (.getfield 25, 3) := by decide +kernel
theorem dX10_readsItem_172 : decode cX10_readsItem 172 = .ok (.iload_n 3, 1) := by decide +kernel
theorem dX10_readsItem_173 : decode cX10_readsItem 173 = .ok (.iaload, 1) := by decide +kernel
theorem dX10_readsItem_174 : decode cX10_readsItem 174 = .ok (.bipush 40, 2) := by decide +kernel
theorem dX10_readsItem_176 : decode cX10_readsItem 176 = .ok (.invokevirtual 114, 3) := by decide +kernel
theorem dX10_readsItem_179 : decode cX10_readsItem 179 = .ok (.iastore, 1) := by decide +kernel
theorem dX10_readsItem_180 : decode cX10_readsItem 180 = .ok (.aload_n 0, 1) := by decide +kernel
theorem dX10_readsItem_181 : decode cX10_readsItem 181 = .ok (.getfield 31, 3) := by decide +kernel
theorem dX10_readsItem_184 : decode cX10_readsItem 184 = .ok (.iload_n 3, 1) := by decide +kernel
theorem dX10_readsItem_185 : decode cX10_readsItem 185 = .ok (.aload_n 0, 1) := by decide +kernel
theorem dX10_readsItem_186 : decode cX10_readsItem 186 = .ok (.bipush 7, 2) := by decide +kernel
theorem dX10_readsItem_188 : decode cX10_readsItem 188 = .ok (.bipush 20, 2) := by decide +kernel
theorem dX10_readsItem_190 : decode cX10_readsItem 190 = .ok (.invokevirtual 114, 3) := by decide +kernel
theorem dX10_readsItem_193 : decode cX10_readsItem 193 = .ok (.iastore, 1) := by decide +kernel
theorem dX10_readsItem_194 : decode cX10_readsItem 194 = .ok (.aload_n 0, 1) := by decide +kernel
theorem dX10_readsItem_195 : decode cX10_readsItem 195 = .ok (.getfield 34, 3) := by decide +kernel
theorem dX10_readsItem_198 : decode cX10_readsItem 198 = .ok (.iload_n 3, 1) := by decide +kernel
theorem dX10_readsItem_199 : decode cX10_readsItem 199 = .ok (.aload_n 0, 1) := by decide +kernel
theorem dX10_readsItem_200 : decode cX10_readsItem 200 = .ok (.bipush 7, 2) := by decide +kernel
theorem dX10_readsItem_202 : decode cX10_readsItem 202 = .ok (.bipush 20, 2) := by decide +kernel
theorem dX10_readsItem_204 : decode cX10_readsItem 204 = .ok (.invokevirtual 114, 3) := by decide +kernel
theorem dX10_readsItem_207 : decode cX10_readsItem 207 = .ok (.iastore, 1) := by decide +kernel
theorem dX10_readsItem_208 : decode cX10_readsItem 208 = .ok (.aload_n 0, 1) := by decide +kernel
theorem dX10_readsItem_209 : decode cX10_readsItem 209 = .ok (.getfield 37, 3) := by decide +kernel
theorem dX10_readsItem_212 : decode cX10_readsItem 212 = .ok (.iload_n 3, 1) := by decide +kernel
theorem dX10_readsItem_213 : decode cX10_readsItem 213 = .ok (.aload_n 0, 1) := by decide +kernel
theorem dX10_readsItem_214 : decode cX10_readsItem 214 = .ok (.iconst 0, 1) := by decide +kernel
theorem dX10_readsItem_215 : decode cX10_readsItem 215 = .ok (.iload_n 2, 1) := by decide +kernel
theorem dX10_readsItem_216 : decode cX10_readsItem 216 = .ok (.invokevirtual 114, 3) := by decide +kernel
theorem dX10_readsItem_219 : decode cX10_readsItem 219 = .ok (.iastore, 1) := by decide +kernel
theorem dX10_readsItem_220 : decode cX10_readsItem 220 = .ok (.aload_n 0, 1) := by decide +kernel
theorem dX10_readsItem_221 : decode cX10_readsItem 221 = .ok (.getfield 13, 3) := by decide +kernel
theorem dX10_readsItem_224 : decode cX10_readsItem 224 = .ok (.bipush 6, 2) := by decide +kernel
theorem dX10_readsItem_226 : decode cX10_readsItem 226 = .ok (.dup2, 1) := by decide +kernel
theorem dX10_readsItem_227 : decode cX10_readsItem 227 = .ok (.iaload, 1) := by decide +kernel
theorem dX10_readsItem_228 : decode cX10_readsItem 228 = .ok (.iconst 1, 1) := by decide +kernel
theorem dX10_readsItem_229 : decode cX10_readsItem 229 = .ok (.iadd, 1) := by decide +kernel
theorem dX10_readsItem_230 : decode cX10_readsItem 230 = .ok (.iastore, 1) := by decide +kernel
theorem dX10_readsItem_231 : decode cX10_readsItem 231 = .ok (.goto 22, 3) := by decide +kernel
theorem dX10_readsItem_234 : decode cX10_readsItem 234 = .ok (.aload_n 0, 1) := by decide +kernel
theorem dX10_readsItem_235 : decode cX10_readsItem 235 = .ok (.getfield 13, 3) := by decide +kernel
theorem dX10_readsItem_238 : decode cX10_readsItem 238 = .ok (.bipush 7, 2) := by decide +kernel
theorem dX10_readsItem_240 : decode cX10_readsItem 240 = .ok (.aload_n 0, 1) := by decide +kernel
theorem dX10_readsItem_241 : decode cX10_readsItem 241 = .ok (.iconst 0, 1) := by decide +kernel
theorem dX10_readsItem_242 : decode cX10_readsItem 242 = .ok (.bipush 40, 2) := by decide +kernel
theorem dX10_readsItem_244 : decode cX10_readsItem 244 = .ok (.invokevirtual 114, 3) := by decide +kernel
theorem dX10_readsItem_247 : decode cX10_readsItem 247 = .ok (.iastore, 1) := by decide +kernel
theorem dX10_readsItem_248 : decode cX10_readsItem 248 = .ok (.aload_n 0, 1) := by decide +kernel
theorem dX10_readsItem_249 : decode cX10_readsItem 249 = .ok (.iconst 1, 1) := by decide +kernel
theorem dX10_readsItem_250 : decode cX10_readsItem 250 = .ok (.putfield 110, 3) := by decide +kernel
theorem dX10_readsItem_253 : decode cX10_readsItem 253 = .ok (.return_, 1) := by decide +kernel
abbrev rX10_readsItem : Room := { frames := 4, cells := 0, slots := 0, locals := 87 }
set_option maxHeartbeats 4000000 in
set_option maxRecDepth 100000 in
theorem w_X10_readsItem_103 {p : Program} {l : Launch} {e : Env} {s : State} {m : MethodId} {args : Array Value} {below : List Frame} {meth : Method} {c : Code} {D : va_G} {b : Nat} {cs : Cs3} {S1 : St} (hC : CX p s m args meth c RX10 cX10_readsItem 4 D cs) (hr : meth.sig.returnType = none) : ∀ (x3 : Int32) (y0 : Int32) (y1 : Int32) (S : St) (H : Heap) (locs : List Loc) (ls : Array Slot), q_X10_readsItem_103 x3 y0 y1 S = some S1 → Wd D b cs S H → va_S (AA b) s.heap H locs → lv_has ls 4 [(0, .ref (b + 99)), (3, .int x3)] → W p l e rX10_readsItem s m args below meth c H locs 0 0 (MQ below (QX D b cs none S1) args s 0 0 (AA b)) (F0 m 103 ls [.int y0, .ref (b + 99), .int y1, .ref (b + 103)]) := by
  intro x3 y0 y1 S H locs ls h hW hS hl
  rw [q_X10_readsItem_103] at h
  obtain ⟨⟨q103_r, q103_S⟩, hq, h⟩ := xb h
  try dsimp only at h
  refine x_callV (T := TX10) (N := 27) (As := [.int y0]) (rest := [.int y1, .ref (b + 103)]) hC hW hS 99 (c_X10_takes l D b cs _ _ _ _ hq) (by decide) rfl rfl mi_X10_takes in_X10_takes sl_X10_takes ml_X10_106 ⟨rfl, rfl⟩ ⟨Nat.le_of_ble_eq_true rfl, Nat.le_of_ble_eq_true rfl⟩ ⟨Nat.zero_le _, Nat.zero_le _⟩ rfl rfl hl.1 (Nat.le_of_ble_eq_true rfl) dX10_readsItem_103 (fun H locs hW hS => ?_)
  obtain ⟨hi, h⟩ := xg h
  refine x_iast hC hW hS 103 (by decide) rfl hi dX10_readsItem_106 (fun H locs hW hS => ?_)
  refine lv_aload_n hC.1 hC.2.1 dX10_readsItem_107 rfl (lv_at hl 0 rfl) ?_
  refine x_get (C := RX10) (T := TX10) (N := 27) (v := _) hC hW 99 (by decide) rfl rfl uX10 13 (by decide) fl_X10_22 rfl rfl dX10_readsItem_108 ?_
  refine lv_iload_n hC.1 hC.2.1 dX10_readsItem_111 rfl (lv_at hl 1 rfl) ?_
  refine lv_aload_n hC.1 hC.2.1 dX10_readsItem_112 rfl (lv_at hl 0 rfl) ?_
  refine lv_iconst (v := 0) hC.1 hC.2.1 dX10_readsItem_113 (by decide) ?_
  refine lv_bipush (v := 40) hC.1 hC.2.1 dX10_readsItem_114 (by decide) ?_
  obtain ⟨⟨q116_r, q116_S⟩, hq, h⟩ := xb h
  try dsimp only at h
  refine x_callV (T := TX10) (N := 27) (As := [.int (0 : Int32), .int (40 : Int32)]) (rest := [.int x3, .ref (b + 104)]) hC hW hS 99 (c_X10_number l D b cs _ _ _ _ _ hq) (by decide) rfl rfl mi_X10_number in_X10_number sl_X10_number ml_X10_114 ⟨rfl, rfl⟩ ⟨Nat.le_of_ble_eq_true rfl, Nat.le_of_ble_eq_true rfl⟩ ⟨Nat.zero_le _, Nat.zero_le _⟩ rfl rfl hl.1 (Nat.le_of_ble_eq_true rfl) dX10_readsItem_116 (fun H locs hW hS => ?_)
  obtain ⟨hi, h⟩ := xg h
  refine x_iast hC hW hS 104 (by decide) rfl hi dX10_readsItem_119 (fun H locs hW hS => ?_)
  refine lv_aload_n hC.1 hC.2.1 dX10_readsItem_120 rfl (lv_at hl 0 rfl) ?_
  refine x_get (C := RX10) (T := TX10) (N := 27) (v := _) hC hW 99 (by decide) rfl rfl uX10 10 (by decide) fl_X10_13 rfl rfl dX10_readsItem_121 ?_
  refine lv_iconst (v := 5) hC.1 hC.2.1 dX10_readsItem_124 (by decide) ?_
  refine lv_dup2_11 hC.1 hC.2.1 dX10_readsItem_125 rfl rfl ?_
  obtain ⟨hi, h⟩ := xg h
  refine x_iald hC hW 101 (by decide) rfl hi dX10_readsItem_126 ?_
  refine lv_iconst (v := 1) hC.1 hC.2.1 dX10_readsItem_127 (by decide) ?_
  refine lv_iadd hC.1 hC.2.1 dX10_readsItem_128 ?_
  obtain ⟨hi, h⟩ := xg h
  refine x_iast hC hW hS 101 (by decide) rfl hi dX10_readsItem_129 (fun H locs hW hS => ?_)
  refine lv_goto (tgt := 253) hC.1 hC.2.1 dX10_readsItem_130 (by decide) ?_
  obtain rfl := Option.some.inj h
  exact x_vret hC hr hW hS dX10_readsItem_253
set_option maxHeartbeats 4000000 in
set_option maxRecDepth 100000 in
theorem w_X10_readsItem_102 {p : Program} {l : Launch} {e : Env} {s : State} {m : MethodId} {args : Array Value} {below : List Frame} {meth : Method} {c : Code} {D : va_G} {b : Nat} {cs : Cs3} {S1 : St} (hC : CX p s m args meth c RX10 cX10_readsItem 4 D cs) (hr : meth.sig.returnType = none) : ∀ (x3 : Int32) (y0 : Int32) (S : St) (H : Heap) (locs : List Loc) (ls : Array Slot), q_X10_readsItem_102 x3 y0 S = some S1 → Wd D b cs S H → va_S (AA b) s.heap H locs → lv_has ls 4 [(0, .ref (b + 99)), (3, .int x3)] → W p l e rX10_readsItem s m args below meth c H locs 0 0 (MQ below (QX D b cs none S1) args s 0 0 (AA b)) (F0 m 102 ls [.ref (b + 99), .int y0, .ref (b + 103)]) := by
  intro x3 y0 S H locs ls h hW hS hl
  rw [q_X10_readsItem_102] at h
  refine lv_iconst (v := 0) hC.1 hC.2.1 dX10_readsItem_102 (by decide) ?_
  exact w_X10_readsItem_103 hC hr _ _ _ _ _ _ _ h hW hS (lv_sub hl [0, 1] rfl)
set_option maxHeartbeats 4000000 in
set_option maxRecDepth 100000 in
theorem c_X10_readsItem (l : Launch) (D : va_G) (b : Nat) (cs : Cs3) (x1 : Int32) (S S1 : St) (h : p_X10_readsItem x1 S = some S1) : Ct l yX10_readsItem cX10_readsItem 4 none rX10_readsItem D b cs [.ref (b + 99), .int x1] S none S1 := by
  refine x_met (by decide +kernel) (Nat.le_of_ble_eq_true rfl) ?_
  intro p e s m below meth c ls hC hr hW hS hl
  have hl : lv_has ls 4 [(0, .ref (b + 99)), (1, .int x1)] := hl
  rw [p_X10_readsItem] at h
  refine lv_aload_n hC.1 hC.2.1 dX10_readsItem_0 rfl (lv_at hl 0 rfl) ?_
  refine x_get (C := RX10) (T := TX10) (N := 27) (v := _) hC hW 99 (by decide) rfl rfl uX10 10 (by decide) fl_X10_13 rfl rfl dX10_readsItem_1 ?_
  refine lv_iconst (v := 4) hC.1 hC.2.1 dX10_readsItem_4 (by decide) ?_
  obtain ⟨hi, h⟩ := xg h
  refine x_iald hC hW 101 (by decide) rfl hi dX10_readsItem_5 ?_
  refine lv_iconst (v := 1) hC.1 hC.2.1 dX10_readsItem_6 (by decide) ?_
  refine lv_isub hC.1 hC.2.1 dX10_readsItem_7 ?_
  refine lv_istore_n (lv' := [(2, .int ((S.1 101 (4 : Int32).toNatClampNeg) - (1 : Int32))), (0, .ref (b + 99)), (1, .int x1)]) hC.1 hC.2.1 dX10_readsItem_8 rfl hl (by decide) rfl (fun ls hl => ?_)
  refine lv_iload_n hC.1 hC.2.1 dX10_readsItem_9 rfl (lv_at hl 2 rfl) ?_
  refine lv_bipush (v := 110) hC.1 hC.2.1 dX10_readsItem_10 (by decide) ?_
  refine lv_icmp_ne (tgt := 31) hC.1 hC.2.1 dX10_readsItem_12 (by decide) (fun hc => ?_) (fun hc => ?_)
  · replace h := xf hc h
    refine lv_iload_n hC.1 hC.2.1 dX10_readsItem_31 rfl (lv_at hl 2 rfl) ?_
    refine lv_bipush (v := 100) hC.1 hC.2.1 dX10_readsItem_32 (by decide) ?_
    refine lv_icmp_ne (tgt := 133) hC.1 hC.2.1 dX10_readsItem_34 (by decide) (fun hc => ?_) (fun hc => ?_)
    · replace h := xf hc h
      refine lv_iload_n hC.1 hC.2.1 dX10_readsItem_133 rfl (lv_at hl 2 rfl) ?_
      refine lv_bipush (v := 98) hC.1 hC.2.1 dX10_readsItem_134 (by decide) ?_
      refine lv_icmp_ne (tgt := 234) hC.1 hC.2.1 dX10_readsItem_136 (by decide) (fun hc => ?_) (fun hc => ?_)
      · replace h := xf hc h
        refine lv_aload_n hC.1 hC.2.1 dX10_readsItem_234 rfl (lv_at hl 1 rfl) ?_
        refine x_get (C := RX10) (T := TX10) (N := 27) (v := _) hC hW 99 (by decide) rfl rfl uX10 10 (by decide) fl_X10_13 rfl rfl dX10_readsItem_235 ?_
        refine lv_bipush (v := 7) hC.1 hC.2.1 dX10_readsItem_238 (by decide) ?_
        refine lv_aload_n hC.1 hC.2.1 dX10_readsItem_240 rfl (lv_at hl 1 rfl) ?_
        refine lv_iconst (v := 0) hC.1 hC.2.1 dX10_readsItem_241 (by decide) ?_
        refine lv_bipush (v := 40) hC.1 hC.2.1 dX10_readsItem_242 (by decide) ?_
        obtain ⟨⟨q244_r, q244_S⟩, hq, h⟩ := xb h
        try dsimp only at h
        refine x_callV (T := TX10) (N := 27) (As := [.int (0 : Int32), .int (40 : Int32)]) (rest := [.int (7 : Int32), .ref (b + 101)]) hC hW hS 99 (c_X10_number l D b cs _ _ _ _ _ hq) (by decide) rfl rfl mi_X10_number in_X10_number sl_X10_number ml_X10_114 ⟨rfl, rfl⟩ ⟨Nat.le_of_ble_eq_true rfl, Nat.le_of_ble_eq_true rfl⟩ ⟨Nat.zero_le _, Nat.zero_le _⟩ rfl rfl hl.1 (Nat.le_of_ble_eq_true rfl) dX10_readsItem_244 (fun H locs hW hS => ?_)
        obtain ⟨hi, h⟩ := xg h
        refine x_iast hC hW hS 101 (by decide) rfl hi dX10_readsItem_247 (fun H locs hW hS => ?_)
        refine lv_aload_n hC.1 hC.2.1 dX10_readsItem_248 rfl (lv_at hl 1 rfl) ?_
        refine lv_iconst (v := 1) hC.1 hC.2.1 dX10_readsItem_249 (by decide) ?_
        refine x_puti (C := RX10) (T := TX10) (N := 27) (ty := .boolean) hC hW hS 99 (by decide) rfl rfl uX10 tyX10 tyX10_ok nmX10 9 (by decide) fl_X10_110 rfl (by decide +kernel) rfl rfl rfl dX10_readsItem_250 (fun H locs hW hS => ?_)
        obtain rfl := Option.some.inj h
        exact x_vret hC hr hW hS dX10_readsItem_253
      · replace h := xt hc h
        refine lv_iconst (v := 5) hC.1 hC.2.1 dX10_readsItem_139 (by decide) ?_
        refine lv_aload_n hC.1 hC.2.1 dX10_readsItem_140 rfl (lv_at hl 1 rfl) ?_
        refine x_get (C := RX10) (T := TX10) (N := 27) (v := _) hC hW 99 (by decide) rfl rfl uX10 10 (by decide) fl_X10_13 rfl rfl dX10_readsItem_141 ?_
        refine lv_bipush (v := 6) hC.1 hC.2.1 dX10_readsItem_144 (by decide) ?_
        obtain ⟨hi, h⟩ := xg h
        refine x_iald hC hW 101 (by decide) rfl hi dX10_readsItem_146 ?_
        refine lv_iadd hC.1 hC.2.1 dX10_readsItem_147 ?_
        refine lv_istore_n (lv' := [(3, .int ((5 : Int32) + (S.1 101 (6 : Int32).toNatClampNeg))), (2, .int ((S.1 101 (4 : Int32).toNatClampNeg) - (1 : Int32))), (0, .ref (b + 99)), (1, .int x1)]) hC.1 hC.2.1 dX10_readsItem_148 rfl hl (by decide) rfl (fun ls hl => ?_)
        refine lv_aload_n hC.1 hC.2.1 dX10_readsItem_149 rfl (lv_at hl 2 rfl) ?_
        refine x_get (C := RX10) (T := TX10) (N := 27) (v := _) hC hW 99 (by decide) rfl rfl uX10 14 (by decide) fl_X10_25 rfl rfl dX10_readsItem_150 ?_
        refine lv_iload_n hC.1 hC.2.1 dX10_readsItem_153 rfl (lv_at hl 0 rfl) ?_
        refine lv_aload_n hC.1 hC.2.1 dX10_readsItem_154 rfl (lv_at hl 2 rfl) ?_
        refine lv_iconst (v := 0) hC.1 hC.2.1 dX10_readsItem_155 (by decide) ?_
        refine lv_bipush (v := 40) hC.1 hC.2.1 dX10_readsItem_156 (by decide) ?_
        obtain ⟨⟨q158_r, q158_S⟩, hq, h⟩ := xb h
        try dsimp only at h
        refine x_callV (T := TX10) (N := 27) (As := [.int (0 : Int32), .int (40 : Int32)]) (rest := [.int ((5 : Int32) + (S.1 101 (6 : Int32).toNatClampNeg)), .ref (b + 105)]) hC hW hS 99 (c_X10_number l D b cs _ _ _ _ _ hq) (by decide) rfl rfl mi_X10_number in_X10_number sl_X10_number ml_X10_114 ⟨rfl, rfl⟩ ⟨Nat.le_of_ble_eq_true rfl, Nat.le_of_ble_eq_true rfl⟩ ⟨Nat.zero_le _, Nat.zero_le _⟩ rfl rfl hl.1 (Nat.le_of_ble_eq_true rfl) dX10_readsItem_158 (fun H locs hW hS => ?_)
        obtain ⟨hi, h⟩ := xg h
        refine x_iast hC hW hS 105 (by decide) rfl hi dX10_readsItem_161 (fun H locs hW hS => ?_)
        refine lv_aload_n hC.1 hC.2.1 dX10_readsItem_162 rfl (lv_at hl 2 rfl) ?_
        refine x_get (C := RX10) (T := TX10) (N := 27) (v := _) hC hW 99 (by decide) rfl rfl uX10 15 (by decide) fl_X10_28 rfl rfl dX10_readsItem_163 ?_
        refine lv_iload_n hC.1 hC.2.1 dX10_readsItem_166 rfl (lv_at hl 0 rfl) ?_
        refine lv_aload_n hC.1 hC.2.1 dX10_readsItem_167 rfl (lv_at hl 2 rfl) ?_
        refine lv_aload_n hC.1 hC.2.1 dX10_readsItem_168 rfl (lv_at hl 2 rfl) ?_
        refine x_get (C := RX10) (T := TX10) (N := 27) (v := _) hC hW 99 (by decide) rfl rfl uX10 14 (by decide) fl_X10_25 rfl rfl dX10_readsItem_169 ?_
        refine lv_iload_n hC.1 hC.2.1 dX10_readsItem_172 rfl (lv_at hl 0 rfl) ?_
        obtain ⟨hi, h⟩ := xg h
        refine x_iald hC hW 105 (by decide) rfl hi dX10_readsItem_173 ?_
        refine lv_bipush (v := 40) hC.1 hC.2.1 dX10_readsItem_174 (by decide) ?_
        obtain ⟨⟨q176_r, q176_S⟩, hq, h⟩ := xb h
        try dsimp only at h
        refine x_callV (T := TX10) (N := 27) (As := [.int ((sI q158_S 105 ((5 : Int32) + (S.1 101 (6 : Int32).toNatClampNeg)).toNatClampNeg q158_r).1 105 ((5 : Int32) + (S.1 101 (6 : Int32).toNatClampNeg)).toNatClampNeg), .int (40 : Int32)]) (rest := [.int ((5 : Int32) + (S.1 101 (6 : Int32).toNatClampNeg)), .ref (b + 106)]) hC hW hS 99 (c_X10_number l D b cs _ _ _ _ _ hq) (by decide) rfl rfl mi_X10_number in_X10_number sl_X10_number ml_X10_114 ⟨rfl, rfl⟩ ⟨Nat.le_of_ble_eq_true rfl, Nat.le_of_ble_eq_true rfl⟩ ⟨Nat.zero_le _, Nat.zero_le _⟩ rfl rfl hl.1 (Nat.le_of_ble_eq_true rfl) dX10_readsItem_176 (fun H locs hW hS => ?_)
        obtain ⟨hi, h⟩ := xg h
        refine x_iast hC hW hS 106 (by decide) rfl hi dX10_readsItem_179 (fun H locs hW hS => ?_)
        refine lv_aload_n hC.1 hC.2.1 dX10_readsItem_180 rfl (lv_at hl 2 rfl) ?_
        refine x_get (C := RX10) (T := TX10) (N := 27) (v := _) hC hW 99 (by decide) rfl rfl uX10 16 (by decide) fl_X10_31 rfl rfl dX10_readsItem_181 ?_
        refine lv_iload_n hC.1 hC.2.1 dX10_readsItem_184 rfl (lv_at hl 0 rfl) ?_
        refine lv_aload_n hC.1 hC.2.1 dX10_readsItem_185 rfl (lv_at hl 2 rfl) ?_
        refine lv_bipush (v := 7) hC.1 hC.2.1 dX10_readsItem_186 (by decide) ?_
        refine lv_bipush (v := 20) hC.1 hC.2.1 dX10_readsItem_188 (by decide) ?_
        obtain ⟨⟨q190_r, q190_S⟩, hq, h⟩ := xb h
        try dsimp only at h
        refine x_callV (T := TX10) (N := 27) (As := [.int (7 : Int32), .int (20 : Int32)]) (rest := [.int ((5 : Int32) + (S.1 101 (6 : Int32).toNatClampNeg)), .ref (b + 107)]) hC hW hS 99 (c_X10_number l D b cs _ _ _ _ _ hq) (by decide) rfl rfl mi_X10_number in_X10_number sl_X10_number ml_X10_114 ⟨rfl, rfl⟩ ⟨Nat.le_of_ble_eq_true rfl, Nat.le_of_ble_eq_true rfl⟩ ⟨Nat.zero_le _, Nat.zero_le _⟩ rfl rfl hl.1 (Nat.le_of_ble_eq_true rfl) dX10_readsItem_190 (fun H locs hW hS => ?_)
        obtain ⟨hi, h⟩ := xg h
        refine x_iast hC hW hS 107 (by decide) rfl hi dX10_readsItem_193 (fun H locs hW hS => ?_)
        refine lv_aload_n hC.1 hC.2.1 dX10_readsItem_194 rfl (lv_at hl 2 rfl) ?_
        refine x_get (C := RX10) (T := TX10) (N := 27) (v := _) hC hW 99 (by decide) rfl rfl uX10 17 (by decide) fl_X10_34 rfl rfl dX10_readsItem_195 ?_
        refine lv_iload_n hC.1 hC.2.1 dX10_readsItem_198 rfl (lv_at hl 0 rfl) ?_
        refine lv_aload_n hC.1 hC.2.1 dX10_readsItem_199 rfl (lv_at hl 2 rfl) ?_
        refine lv_bipush (v := 7) hC.1 hC.2.1 dX10_readsItem_200 (by decide) ?_
        refine lv_bipush (v := 20) hC.1 hC.2.1 dX10_readsItem_202 (by decide) ?_
        obtain ⟨⟨q204_r, q204_S⟩, hq, h⟩ := xb h
        try dsimp only at h
        refine x_callV (T := TX10) (N := 27) (As := [.int (7 : Int32), .int (20 : Int32)]) (rest := [.int ((5 : Int32) + (S.1 101 (6 : Int32).toNatClampNeg)), .ref (b + 108)]) hC hW hS 99 (c_X10_number l D b cs _ _ _ _ _ hq) (by decide) rfl rfl mi_X10_number in_X10_number sl_X10_number ml_X10_114 ⟨rfl, rfl⟩ ⟨Nat.le_of_ble_eq_true rfl, Nat.le_of_ble_eq_true rfl⟩ ⟨Nat.zero_le _, Nat.zero_le _⟩ rfl rfl hl.1 (Nat.le_of_ble_eq_true rfl) dX10_readsItem_204 (fun H locs hW hS => ?_)
        obtain ⟨hi, h⟩ := xg h
        refine x_iast hC hW hS 108 (by decide) rfl hi dX10_readsItem_207 (fun H locs hW hS => ?_)
        refine lv_aload_n hC.1 hC.2.1 dX10_readsItem_208 rfl (lv_at hl 2 rfl) ?_
        refine x_get (C := RX10) (T := TX10) (N := 27) (v := _) hC hW 99 (by decide) rfl rfl uX10 18 (by decide) fl_X10_37 rfl rfl dX10_readsItem_209 ?_
        refine lv_iload_n hC.1 hC.2.1 dX10_readsItem_212 rfl (lv_at hl 0 rfl) ?_
        refine lv_aload_n hC.1 hC.2.1 dX10_readsItem_213 rfl (lv_at hl 2 rfl) ?_
        refine lv_iconst (v := 0) hC.1 hC.2.1 dX10_readsItem_214 (by decide) ?_
        refine lv_iload_n hC.1 hC.2.1 dX10_readsItem_215 rfl (lv_at hl 1 rfl) ?_
        obtain ⟨⟨q216_r, q216_S⟩, hq, h⟩ := xb h
        try dsimp only at h
        refine x_callV (T := TX10) (N := 27) (As := [.int (0 : Int32), .int ((S.1 101 (4 : Int32).toNatClampNeg) - (1 : Int32))]) (rest := [.int ((5 : Int32) + (S.1 101 (6 : Int32).toNatClampNeg)), .ref (b + 109)]) hC hW hS 99 (c_X10_number l D b cs _ _ _ _ _ hq) (by decide) rfl rfl mi_X10_number in_X10_number sl_X10_number ml_X10_114 ⟨rfl, rfl⟩ ⟨Nat.le_of_ble_eq_true rfl, Nat.le_of_ble_eq_true rfl⟩ ⟨Nat.zero_le _, Nat.zero_le _⟩ rfl rfl hl.1 (Nat.le_of_ble_eq_true rfl) dX10_readsItem_216 (fun H locs hW hS => ?_)
        obtain ⟨hi, h⟩ := xg h
        refine x_iast hC hW hS 109 (by decide) rfl hi dX10_readsItem_219 (fun H locs hW hS => ?_)
        refine lv_aload_n hC.1 hC.2.1 dX10_readsItem_220 rfl (lv_at hl 2 rfl) ?_
        refine x_get (C := RX10) (T := TX10) (N := 27) (v := _) hC hW 99 (by decide) rfl rfl uX10 10 (by decide) fl_X10_13 rfl rfl dX10_readsItem_221 ?_
        refine lv_bipush (v := 6) hC.1 hC.2.1 dX10_readsItem_224 (by decide) ?_
        refine lv_dup2_11 hC.1 hC.2.1 dX10_readsItem_226 rfl rfl ?_
        obtain ⟨hi, h⟩ := xg h
        refine x_iald hC hW 101 (by decide) rfl hi dX10_readsItem_227 ?_
        refine lv_iconst (v := 1) hC.1 hC.2.1 dX10_readsItem_228 (by decide) ?_
        refine lv_iadd hC.1 hC.2.1 dX10_readsItem_229 ?_
        obtain ⟨hi, h⟩ := xg h
        refine x_iast hC hW hS 101 (by decide) rfl hi dX10_readsItem_230 (fun H locs hW hS => ?_)
        refine lv_goto (tgt := 253) hC.1 hC.2.1 dX10_readsItem_231 (by decide) ?_
        obtain rfl := Option.some.inj h
        exact x_vret hC hr hW hS dX10_readsItem_253
    · replace h := xt hc h
      refine lv_bipush (v := 8) hC.1 hC.2.1 dX10_readsItem_37 (by decide) ?_
      refine lv_aload_n hC.1 hC.2.1 dX10_readsItem_39 rfl (lv_at hl 1 rfl) ?_
      refine x_get (C := RX10) (T := TX10) (N := 27) (v := _) hC hW 99 (by decide) rfl rfl uX10 10 (by decide) fl_X10_13 rfl rfl dX10_readsItem_40 ?_
      refine lv_iconst (v := 5) hC.1 hC.2.1 dX10_readsItem_43 (by decide) ?_
      obtain ⟨hi, h⟩ := xg h
      refine x_iald hC hW 101 (by decide) rfl hi dX10_readsItem_44 ?_
      refine lv_iadd hC.1 hC.2.1 dX10_readsItem_45 ?_
      refine lv_istore_n (lv' := [(3, .int ((8 : Int32) + (S.1 101 (5 : Int32).toNatClampNeg))), (2, .int ((S.1 101 (4 : Int32).toNatClampNeg) - (1 : Int32))), (0, .ref (b + 99)), (1, .int x1)]) hC.1 hC.2.1 dX10_readsItem_46 rfl hl (by decide) rfl (fun ls hl => ?_)
      refine lv_aload_n hC.1 hC.2.1 dX10_readsItem_47 rfl (lv_at hl 2 rfl) ?_
      refine x_get (C := RX10) (T := TX10) (N := 27) (v := _) hC hW 99 (by decide) rfl rfl uX10 11 (by decide) fl_X10_16 rfl rfl dX10_readsItem_48 ?_
      refine lv_iload_n hC.1 hC.2.1 dX10_readsItem_51 rfl (lv_at hl 0 rfl) ?_
      refine lv_aload_n hC.1 hC.2.1 dX10_readsItem_52 rfl (lv_at hl 2 rfl) ?_
      refine lv_iconst (v := 0) hC.1 hC.2.1 dX10_readsItem_53 (by decide) ?_
      refine lv_iload_n hC.1 hC.2.1 dX10_readsItem_54 rfl (lv_at hl 1 rfl) ?_
      obtain ⟨⟨q55_r, q55_S⟩, hq, h⟩ := xb h
      try dsimp only at h
      refine x_callV (T := TX10) (N := 27) (As := [.int (0 : Int32), .int ((S.1 101 (4 : Int32).toNatClampNeg) - (1 : Int32))]) (rest := [.int ((8 : Int32) + (S.1 101 (5 : Int32).toNatClampNeg)), .ref (b + 102)]) hC hW hS 99 (c_X10_number l D b cs _ _ _ _ _ hq) (by decide) rfl rfl mi_X10_number in_X10_number sl_X10_number ml_X10_114 ⟨rfl, rfl⟩ ⟨Nat.le_of_ble_eq_true rfl, Nat.le_of_ble_eq_true rfl⟩ ⟨Nat.zero_le _, Nat.zero_le _⟩ rfl rfl hl.1 (Nat.le_of_ble_eq_true rfl) dX10_readsItem_55 (fun H locs hW hS => ?_)
      obtain ⟨hi, h⟩ := xg h
      refine x_iast hC hW hS 102 (by decide) rfl hi dX10_readsItem_58 (fun H locs hW hS => ?_)
      refine lv_aload_n hC.1 hC.2.1 dX10_readsItem_59 rfl (lv_at hl 2 rfl) ?_
      refine x_get (C := RX10) (T := TX10) (N := 27) (v := _) hC hW 99 (by decide) rfl rfl uX10 12 (by decide) fl_X10_19 rfl rfl dX10_readsItem_60 ?_
      refine lv_iload_n hC.1 hC.2.1 dX10_readsItem_63 rfl (lv_at hl 0 rfl) ?_
      refine lv_aload_n hC.1 hC.2.1 dX10_readsItem_64 rfl (lv_at hl 2 rfl) ?_
      refine lv_aload_n hC.1 hC.2.1 dX10_readsItem_65 rfl (lv_at hl 2 rfl) ?_
      refine x_get (C := RX10) (T := TX10) (N := 27) (v := _) hC hW 99 (by decide) rfl rfl uX10 5 (by decide) fl_X10_86 rfl rfl dX10_readsItem_66 ?_
      refine lv_iconst (v := 2) hC.1 hC.2.1 dX10_readsItem_69 (by decide) ?_
      refine lv_icmp_ne (tgt := 102) hC.1 hC.2.1 dX10_readsItem_70 (by decide) (fun hc => ?_) (fun hc => ?_)
      · replace h := xf hc h
        exact w_X10_readsItem_102 hC hr _ _ _ _ _ _ h hW hS (lv_sub hl [2, 0] rfl)
      · replace h := xt hc h
        refine lv_aload_n hC.1 hC.2.1 dX10_readsItem_73 rfl (lv_at hl 2 rfl) ?_
        refine x_get (C := RX10) (T := TX10) (N := 27) (v := _) hC hW 99 (by decide) rfl rfl uX10 7 (by decide) fl_X10_89 rfl rfl dX10_readsItem_74 ?_
        refine lv_iconst (v := 0) hC.1 hC.2.1 dX10_readsItem_77 (by decide) ?_
        refine lv_iload_n hC.1 hC.2.1 dX10_readsItem_78 rfl (lv_at hl 1 rfl) ?_
        obtain ⟨⟨q79_r, q79_S⟩, hq, h⟩ := xb h
        try dsimp only at h
        refine x_callS (As := [.int ((sI q55_S 102 ((8 : Int32) + (S.1 101 (5 : Int32).toNatClampNeg)).toNatClampNeg q55_r).1 99 7), .int (0 : Int32), .int ((S.1 101 (4 : Int32).toNatClampNeg) - (1 : Int32))]) (rest := [.ref (b + 99), .int ((8 : Int32) + (S.1 101 (5 : Int32).toNatClampNeg)), .ref (b + 103)]) hC hW hS (c_X10_in l D b cs _ _ _ _ _ _ hq) mi_X10_in st_X10_in ml_X10_69 ⟨rfl, rfl⟩ ⟨Nat.le_of_ble_eq_true rfl, Nat.le_of_ble_eq_true rfl⟩ ⟨Nat.zero_le _, Nat.zero_le _⟩ rfl rfl hl.1 (Nat.le_of_ble_eq_true rfl) dX10_readsItem_79 (fun H locs hW hS => ?_)
        refine lv_if_eq (tgt := 102) hC.1 hC.2.1 dX10_readsItem_82 (by decide) (fun hc => ?_) (fun hc => ?_)
        · replace h := xt hc h
          exact w_X10_readsItem_102 hC hr _ _ _ _ _ _ h hW hS (lv_sub hl [2, 0] rfl)
        · replace h := xf hc h
          refine lv_aload_n hC.1 hC.2.1 dX10_readsItem_85 rfl (lv_at hl 2 rfl) ?_
          refine x_get (C := RX10) (T := TX10) (N := 27) (v := _) hC hW 99 (by decide) rfl rfl uX10 7 (by decide) fl_X10_89 rfl rfl dX10_readsItem_86 ?_
          refine lv_aload_n hC.1 hC.2.1 dX10_readsItem_89 rfl (lv_at hl 2 rfl) ?_
          refine x_get (C := RX10) (T := TX10) (N := 27) (v := _) hC hW 99 (by decide) rfl rfl uX10 11 (by decide) fl_X10_16 rfl rfl dX10_readsItem_90 ?_
          refine lv_iload_n hC.1 hC.2.1 dX10_readsItem_93 rfl (lv_at hl 0 rfl) ?_
          obtain ⟨hi, h⟩ := xg h
          refine x_iald hC hW 102 (by decide) rfl hi dX10_readsItem_94 ?_
          refine lv_icmp_eq (tgt := 102) hC.1 hC.2.1 dX10_readsItem_95 (by decide) (fun hc => ?_) (fun hc => ?_)
          · replace h := xt hc h
            exact w_X10_readsItem_102 hC hr _ _ _ _ _ _ h hW hS (lv_sub hl [2, 0] rfl)
          · replace h := xf hc h
            refine lv_iconst (v := 1) hC.1 hC.2.1 dX10_readsItem_98 (by decide) ?_
            refine lv_goto (tgt := 103) hC.1 hC.2.1 dX10_readsItem_99 (by decide) ?_
            exact w_X10_readsItem_103 hC hr _ _ _ _ _ _ _ h hW hS (lv_sub hl [2, 0] rfl)
  · replace h := xt hc h
    refine lv_aload_n hC.1 hC.2.1 dX10_readsItem_15 rfl (lv_at hl 1 rfl) ?_
    refine x_get (C := RX10) (T := TX10) (N := 27) (v := _) hC hW 99 (by decide) rfl rfl uX10 10 (by decide) fl_X10_13 rfl rfl dX10_readsItem_16 ?_
    refine lv_iconst (v := 4) hC.1 hC.2.1 dX10_readsItem_19 (by decide) ?_
    refine lv_aload_n hC.1 hC.2.1 dX10_readsItem_20 rfl (lv_at hl 1 rfl) ?_
    refine lv_iconst (v := 1) hC.1 hC.2.1 dX10_readsItem_21 (by decide) ?_
    refine lv_bipush (v := 8) hC.1 hC.2.1 dX10_readsItem_22 (by decide) ?_
    obtain ⟨⟨q24_r, q24_S⟩, hq, h⟩ := xb h
    try dsimp only at h
    refine x_callV (T := TX10) (N := 27) (As := [.int (1 : Int32), .int (8 : Int32)]) (rest := [.int (4 : Int32), .ref (b + 101)]) hC hW hS 99 (c_X10_number l D b cs _ _ _ _ _ hq) (by decide) rfl rfl mi_X10_number in_X10_number sl_X10_number ml_X10_114 ⟨rfl, rfl⟩ ⟨Nat.le_of_ble_eq_true rfl, Nat.le_of_ble_eq_true rfl⟩ ⟨Nat.zero_le _, Nat.zero_le _⟩ rfl rfl hl.1 (Nat.le_of_ble_eq_true rfl) dX10_readsItem_24 (fun H locs hW hS => ?_)
    obtain ⟨hi, h⟩ := xg h
    refine x_iast hC hW hS 101 (by decide) rfl hi dX10_readsItem_27 (fun H locs hW hS => ?_)
    refine lv_goto (tgt := 253) hC.1 hC.2.1 dX10_readsItem_28 (by decide) ?_
    obtain rfl := Option.some.inj h
    exact x_vret hC hr hW hS dX10_readsItem_253
theorem dX10_settles_0 : decode cX10_settles 0 = .ok (.iconst 0, 1) := by decide +kernel
theorem dX10_settles_1 : decode cX10_settles 1 = .ok (.istore_n 1, 1) := by decide +kernel
theorem dX10_settles_2 : decode cX10_settles 2 = .ok (.iload_n 1, 1) := by decide +kernel
theorem dX10_settles_3 : decode cX10_settles 3 = .ok (.iconst 4, 1) := by decide +kernel
theorem dX10_settles_4 : decode cX10_settles 4 = .ok (.if_icmp .ge 23, 3) := by decide +kernel
theorem dX10_settles_7 : decode cX10_settles 7 = .ok (.aload_n 0, 1) := by decide +kernel
theorem dX10_settles_8 : decode cX10_settles 8 = .ok (.getfield 13, 3) := by decide +kernel
theorem dX10_settles_11 : decode cX10_settles 11 = .ok (.iload_n 1, 1) := by decide +kernel
theorem dX10_settles_12 : decode cX10_settles 12 = .ok (.aload_n 0, 1) := by decide +kernel
theorem dX10_settles_13 : decode cX10_settles 13 = .ok (.getfield 13, 3) := by decide +kernel
theorem dX10_settles_16 : decode cX10_settles 16 = .ok (.iconst 4, 1) := by decide +kernel
theorem dX10_settles_17 : decode cX10_settles 17 = .ok (.iload_n 1, 1) := by decide +kernel
theorem dX10_settles_18 : decode cX10_settles 18 = .ok (.iadd, 1) := by decide +kernel
theorem dX10_settles_19 : decode cX10_settles 19 = .ok (.iaload, 1) := by decide +kernel
theorem dX10_settles_20 : decode cX10_settles 20 = .ok (.iastore, 1) := by decide +kernel
theorem dX10_settles_21 : decode cX10_settles 21 = .ok (.iinc 1 1, 3) := by decide +kernel
theorem dX10_settles_24 : decode cX10_settles 24 = .ok (.goto (-22), 3) := by decide +kernel
theorem dX10_settles_27 : decode cX10_settles 27 = .ok (.iconst 0, 1) := by decide +kernel
theorem dX10_settles_28 : decode cX10_settles 28 = .ok (.istore_n 1, 1) := by decide +kernel
theorem dX10_settles_29 : decode cX10_settles 29 = .ok (.iload_n 1, 1) := by decide +kernel
theorem dX10_settles_30 : decode cX10_settles 30 = .ok (.bipush 25, 2) := by decide +kernel
theorem dX10_settles_32 : decode cX10_settles 32 = .ok (.if_icmp .ge 16, 3) := by decide +kernel
theorem dX10_settles_35 : decode cX10_settles 35 = .ok (.aload_n 0, 1) := by decide +kernel
theorem dX10_settles_36 : decode cX10_settles 36 = .ok (.getfield 40, 3) := by decide +kernel
theorem dX10_settles_39 : decode cX10_settles 39 = .ok (.iload_n 1, 1) := by decide +kernel
theorem dX10_settles_40 : decode cX10_settles 40 = .ok (.iconst 0, 1) := by decide +kernel
theorem dX10_settles_41 : decode cX10_settles 41 = .ok (.iastore, 1) := by decide +kernel
theorem dX10_settles_42 : decode cX10_settles 42 = .ok (.iinc 1 1, 3) := by decide +kernel
theorem dX10_settles_45 : decode cX10_settles 45 = .ok (.goto (-16), 3) := by decide +kernel
theorem dX10_settles_48 : decode cX10_settles 48 = .ok (.iconst 0, 1) := by decide +kernel
theorem dX10_settles_49 : decode cX10_settles 49 = .ok (.istore_n 1, 1) := by decide +kernel
theorem dX10_settles_50 : decode cX10_settles 50 = .ok (.iload_n 1, 1) := by decide +kernel
theorem dX10_settles_51 : decode cX10_settles 51 = .ok (.bipush 8, 2) := by decide +kernel
theorem dX10_settles_53 : decode cX10_settles 53 = .ok (.if_icmp .ge 57, 3) := by decide +kernel
theorem dX10_settles_56 : decode cX10_settles 56 = .ok (.aload_n 0, 1) := by decide +kernel
theorem dX10_settles_57 : decode cX10_settles 57 = .ok (.getfield 16, 3) := by decide +kernel
theorem dX10_settles_60 : decode cX10_settles 60 = .ok (.iload_n 1, 1) := by decide +kernel
theorem dX10_settles_61 : decode cX10_settles 61 = .ok (.aload_n 0, 1) := by decide +kernel
theorem dX10_settles_62 : decode cX10_settles 62 = .ok (.getfield 16, 3) := by decide +kernel
theorem dX10_settles_65 : decode cX10_settles 65 = .ok (.bipush 8, 2) := by decide +kernel
theorem dX10_settles_67 : decode cX10_settles 67 = .ok (.iload_n 1, 1) := by decide +kernel
theorem dX10_settles_68 : decode cX10_settles 68 = .ok (.iadd, 1) := by decide +kernel
theorem dX10_settles_69 : decode cX10_settles 69 = .ok (.iaload, 1) := by decide +kernel
theorem dX10_settles_70 : decode cX10_settles 70 = .ok (.iastore, 1) := by decide +kernel
theorem dX10_settles_71 : decode cX10_settles 71 = .ok (.aload_n 0, 1) := by decide +kernel
theorem dX10_settles_72 : decode cX10_settles 72 = .ok (.getfield 19, 3) := by decide +kernel
theorem dX10_settles_75 : decode cX10_settles 75 = .ok (.iload_n 1, 1) := by decide +kernel
theorem dX10_settles_76 : decode cX10_settles 76 = .ok (.aload_n 0, 1) := by decide +kernel
theorem dX10_settles_77 : decode cX10_settles 77 = .ok (.getfield 19, 3) := by decide +kernel
theorem dX10_settles_80 : decode cX10_settles 80 = .ok (.bipush 8, 2) := by decide +kernel
theorem dX10_settles_82 : decode cX10_settles 82 = .ok (.iload_n 1, 1) := by decide +kernel
theorem dX10_settles_83 : decode cX10_settles 83 = .ok (.iadd, 1) := by decide +kernel
theorem dX10_settles_84 : decode cX10_settles 84 = .ok (.iaload, 1) := by decide +kernel
theorem dX10_settles_85 : decode cX10_settles 85 = .ok (.iastore, 1) := by decide +kernel
theorem dX10_settles_86 : decode cX10_settles 86 = .ok (.aload_n 0, 1) := by decide +kernel
theorem dX10_settles_87 : decode cX10_settles 87 = .ok (.getfield 40, 3) := by decide +kernel
theorem dX10_settles_90 : decode cX10_settles 90 = .ok (.bipush 15, 2) := by decide +kernel
theorem dX10_settles_92 : decode cX10_settles 92 = .ok (.iload_n 1, 1) := by decide +kernel
theorem dX10_settles_93 : decode cX10_settles 93 = .ok (.iadd, 1) := by decide +kernel
theorem dX10_settles_94 : decode cX10_settles 94 = .ok (.aload_n 0, 1) := by decide +kernel
theorem dX10_settles_95 : decode cX10_settles 95 = .ok (.getfield 22, 3) := by decide +kernel
theorem dX10_settles_98 : decode cX10_settles 98 = .ok (.bipush 8, 2) := by decide +kernel
theorem dX10_settles_100 : decode cX10_settles 100 = .ok (.iload_n 1, 1) := by decide +kernel
theorem dX10_settles_101 : decode cX10_settles 101 = .ok (.iadd, 1) := by decide +kernel
theorem dX10_settles_102 : decode cX10_settles 102 = .ok (.iaload, 1) := by decide +kernel
theorem dX10_settles_103 : decode cX10_settles 103 = .ok (.iastore, 1) := by decide +kernel
theorem dX10_settles_104 : decode cX10_settles 104 = .ok (.iinc 1 1, 3) := by decide +kernel
theorem dX10_settles_107 : decode cX10_settles 107 = .ok (.goto (-57), 3) := by decide +kernel
theorem dX10_settles_110 : decode cX10_settles 110 = .ok (.iconst 0, 1) := by decide +kernel
theorem dX10_settles_111 : decode cX10_settles 111 = .ok (.istore_n 1, 1) := by decide +kernel
theorem dX10_settles_112 : decode cX10_settles 112 = .ok (.iload_n 1, 1) := by decide +kernel
theorem dX10_settles_113 : decode cX10_settles 113 = .ok (.iconst 5, 1) := by decide +kernel
theorem dX10_settles_114 : decode cX10_settles 114 = .ok (.if_icmp .ge 95, 3) := by decide +kernel
theorem dX10_settles_117 : decode cX10_settles 117 = .ok (.aload_n 0, 1) := by decide +kernel
theorem dX10_settles_118 : decode cX10_settles 118 = .ok (.getfield 25, 3) := by decide +kernel
theorem dX10_settles_121 : decode cX10_settles 121 = .ok (.iload_n 1, 1) := by decide +kernel
theorem dX10_settles_122 : decode cX10_settles 122 = .ok (.aload_n 0, 1) := by decide +kernel
theorem dX10_settles_123 : decode cX10_settles 123 = .ok (.getfield 25, 3) := by decide +kernel
theorem dX10_settles_126 : decode cX10_settles 126 = .ok (.iconst 5, 1) := by decide +kernel
theorem dX10_settles_127 : decode cX10_settles 127 = .ok (.iload_n 1, 1) := by decide +kernel
theorem dX10_settles_128 : decode cX10_settles 128 = .ok (.iadd, 1) := by decide +kernel
theorem dX10_settles_129 : decode cX10_settles 129 = .ok (.iaload, 1) := by decide +kernel
theorem dX10_settles_130 : decode cX10_settles 130 = .ok (.iastore, 1) := by decide +kernel
theorem dX10_settles_131 : decode cX10_settles 131 = .ok (.aload_n 0, 1) := by decide +kernel
theorem dX10_settles_132 : decode cX10_settles 132 = .ok (.getfield 28, 3) := by decide +kernel
theorem dX10_settles_135 : decode cX10_settles 135 = .ok (.iload_n 1, 1) := by decide +kernel
theorem dX10_settles_136 : decode cX10_settles 136 = .ok (.aload_n 0, 1) := by decide +kernel
theorem dX10_settles_137 : decode cX10_settles 137 = .ok (.getfield 28, 3) := by decide +kernel
theorem dX10_settles_140 : decode cX10_settles 140 = .ok (.iconst 5, 1) := by decide +kernel
theorem dX10_settles_141 : decode cX10_settles 141 = .ok (.iload_n 1, 1) := by decide +kernel
theorem dX10_settles_142 : decode cX10_settles 142 = .ok (.iadd, 1) := by decide +kernel
theorem dX10_settles_143 : decode cX10_settles 143 = .ok (.iaload, 1) := by decide +kernel
theorem dX10_settles_144 : decode cX10_settles 144 = .ok (.iastore, 1) := by decide +kernel
theorem dX10_settles_145 : decode cX10_settles 145 = .ok (.aload_n 0, 1) := by decide +kernel
theorem dX10_settles_146 : decode cX10_settles 146 = .ok (.getfield 34, 3) := by decide +kernel
theorem dX10_settles_149 : decode cX10_settles 149 = .ok (.iload_n 1, 1) := by decide +kernel
theorem dX10_settles_150 : decode cX10_settles 150 = .ok (.aload_n 0, 1) := by decide +kernel
theorem dX10_settles_151 : decode cX10_settles 151 = .ok (.getfield 34, 3) := by decide +kernel
theorem dX10_settles_154 : decode cX10_settles 154 = .ok (.iconst 5, 1) := by decide +kernel
theorem dX10_settles_155 : decode cX10_settles 155 = .ok (.iload_n 1, 1) := by decide +kernel
theorem dX10_settles_156 : decode cX10_settles 156 = .ok (.iadd, 1) := by decide +kernel
theorem dX10_settles_157 : decode cX10_settles 157 = .ok (.iaload, 1) := by decide +kernel
theorem dX10_settles_158 : decode cX10_settles 158 = .ok (.iastore, 1) := by decide +kernel
theorem dX10_settles_159 : decode cX10_settles 159 = .ok (.aload_n 0, 1) := by decide +kernel
theorem dX10_settles_160 : decode cX10_settles 160 = .ok (.getfield 37, 3) := by decide +kernel
theorem dX10_settles_163 : decode cX10_settles 163 = .ok (.iload_n 1, 1) := by decide +kernel
theorem dX10_settles_164 : decode cX10_settles 164 = .ok (.aload_n 0, 1) := by decide +kernel
theorem dX10_settles_165 : decode cX10_settles 165 = .ok (.getfield 37, 3) := by decide +kernel
theorem dX10_settles_168 : decode cX10_settles 168 = .ok (.iconst 5, 1) := by decide +kernel
theorem dX10_settles_169 : decode cX10_settles 169 = .ok (.iload_n 1, 1) := by decide +kernel
theorem dX10_settles_170 : decode cX10_settles 170 = .ok (.iadd, 1) := by decide +kernel
theorem dX10_settles_171 : decode cX10_settles 171 = .ok (.iaload, 1) := by decide +kernel
theorem dX10_settles_172 : decode cX10_settles 172 = .ok (.iastore, 1) := by decide +kernel
theorem dX10_settles_173 : decode cX10_settles 173 = .ok (.aload_n 0, 1) := by decide +kernel
theorem dX10_settles_174 : decode cX10_settles 174 = .ok (.getfield 40, 3) := by decide +kernel
theorem dX10_settles_177 : decode cX10_settles 177 = .ok (.iconst 0, 1) := by decide +kernel
theorem dX10_settles_178 : decode cX10_settles 178 = .ok (.iload_n 1, 1) := by decide +kernel
theorem dX10_settles_179 : decode cX10_settles 179 = .ok (.iadd, 1) := by decide +kernel
theorem dX10_settles_180 : decode cX10_settles 180 = .ok (.aload_n 0, 1) := by decide +kernel
theorem dX10_settles_181 : decode cX10_settles 181 = .ok (.getfield 37, 3) := by decide +kernel
theorem dX10_settles_184 : decode cX10_settles 184 = .ok (.iload_n 1, 1) := by decide +kernel
theorem dX10_settles_185 : decode cX10_settles 185 = .ok (.iaload, 1) := by decide +kernel
theorem dX10_settles_186 : decode cX10_settles 186 = .ok (.iastore, 1) := by decide +kernel
theorem dX10_settles_187 : decode cX10_settles 187 = .ok (.aload_n 0, 1) := by decide +kernel
theorem dX10_settles_188 : decode cX10_settles 188 = .ok (.getfield 40, 3) := by decide +kernel
theorem dX10_settles_191 : decode cX10_settles 191 = .ok (.iconst 5, 1) := by decide +kernel
theorem dX10_settles_192 : decode cX10_settles 192 = .ok (.iload_n 1, 1) := by decide +kernel
theorem dX10_settles_193 : decode cX10_settles 193 = .ok (.iadd, 1) := by decide +kernel
theorem dX10_settles_194 : decode cX10_settles 194 = .ok (.aload_n 0, 1) := by decide +kernel
theorem dX10_settles_195 : decode cX10_settles 195 = .ok (.getfield 31, 3) := by decide +kernel
theorem dX10_settles_198 : decode cX10_settles 198 = .ok (.iconst 5, 1) := by decide +kernel
theorem dX10_settles_199 : decode cX10_settles 199 = .ok (.iload_n 1, 1) := by decide +kernel
theorem dX10_settles_200 : decode cX10_settles 200 = .ok (.iadd, 1) := by decide +kernel
theorem dX10_settles_201 : decode cX10_settles 201 = .ok (.iaload, 1) := by decide +kernel
theorem dX10_settles_202 : decode cX10_settles 202 = .ok (.iastore, 1) := by decide +kernel
theorem dX10_settles_203 : decode cX10_settles 203 = .ok (.iinc 1 1, 3) := by decide +kernel
theorem dX10_settles_206 : decode cX10_settles 206 = .ok (.goto (-94), 3) := by decide +kernel
theorem dX10_settles_209 : decode cX10_settles 209 = .ok (.aload_n 0, 1) := by decide +kernel
theorem dX10_settles_210 : decode cX10_settles 210 = .ok (.iconst 0, 1) := by decide +kernel
theorem dX10_settles_211 : decode cX10_settles 211 = .ok (.putfield 73, 3) := by decide +kernel
theorem dX10_settles_214 : decode cX10_settles 214 = .ok (.aload_n 0, 1) := by decide +kernel
theorem dX10_settles_215 : decode cX10_settles 215 = .ok (.iconst 0, 1) := by decide +kernel
theorem dX10_settles_216 : decode cX10_settles 216 = .ok (.putfield 125, 3) := by decide +kernel
theorem dX10_settles_219 : decode cX10_settles 219 = .ok (.aload_n 0, 1) := by decide +kernel
theorem dX10_settles_220 : decode cX10_settles 220 = .ok (.iconst 0, 1) := by decide +kernel
theorem dX10_settles_221 : decode cX10_settles 221 = .ok (.putfield 128, 3) := by decide +kernel
theorem dX10_settles_224 : decode cX10_settles 224 = .ok (.aload_n 0, 1) := by decide +kernel
theorem dX10_settles_225 : decode cX10_settles 225 = .ok (.getfield 46, 3) := by decide +kernel
theorem dX10_settles_228 : decode cX10_settles 228 = .ok (.iconst 0, 1) := by decide +kernel
theorem dX10_settles_229 : decode cX10_settles 229 = .ok (.iconst 0, 1) := by decide +kernel
theorem dX10_settles_230 : decode cX10_settles 230 = .ok (.bastore, 1) := by decide +kernel
theorem dX10_settles_231 : decode cX10_settles 231 = .ok (.aload_n 0, 1) := by decide +kernel
theorem dX10_settles_232 : decode cX10_settles 232 = .ok (.getfield 46, 3) := by decide +kernel
theorem dX10_settles_235 : decode cX10_settles 235 = .ok (.iconst 1, 1) := by decide +kernel
theorem dX10_settles_236 : decode cX10_settles 236 = .ok (.iconst 0, 1) := by decide +kernel
theorem dX10_settles_237 : decode cX10_settles 237 = .ok (.bastore, 1) := by decide +kernel
theorem dX10_settles_238 : decode cX10_settles 238 = .ok (.return_, 1) := by decide +kernel
abbrev rX10_settles : Room := { frames := 0, cells := 0, slots := 0, locals := 0 }
set_option maxHeartbeats 4000000 in
set_option maxRecDepth 100000 in
theorem w_X10_settles_112 {p : Program} {l : Launch} {e : Env} {s : State} {m : MethodId} {args : Array Value} {below : List Frame} {meth : Method} {c : Code} {D : va_G} {b : Nat} {cs : Cs3} {S1 : St} (hC : CX p s m args meth c RX10 cX10_settles 2 D cs) (hr : meth.sig.returnType = none) : ∀ (n : Nat) (x1 : Int32) (S : St) (H : Heap) (locs : List Loc) (ls : Array Slot), q_X10_settles_112 n x1 S = some S1 → Wd D b cs S H → va_S (AA b) s.heap H locs → lv_has ls 2 [(0, .ref (b + 99)), (1, .int x1)] → W p l e rX10_settles s m args below meth c H locs 0 0 (MQ below (QX D b cs none S1) args s 0 0 (AA b)) (F0 m 112 ls []) := by
  intro n
  induction n with
  | zero =>
    intro x1 S H locs ls h
    exact absurd h (by rw [q_X10_settles_112]; exact fun q => nomatch q)
  | succ n IH =>
    intro x1 S H locs ls h hW hS hl
    rw [q_X10_settles_112] at h
    refine lv_iload_n hC.1 hC.2.1 dX10_settles_112 rfl (lv_at hl 1 rfl) ?_
    refine lv_iconst (v := 5) hC.1 hC.2.1 dX10_settles_113 (by decide) ?_
    refine lv_icmp_ge (tgt := 209) hC.1 hC.2.1 dX10_settles_114 (by decide) (fun hc => ?_) (fun hc => ?_)
    · replace h := xt hc h
      refine lv_aload_n hC.1 hC.2.1 dX10_settles_209 rfl (lv_at hl 0 rfl) ?_
      refine lv_iconst (v := 0) hC.1 hC.2.1 dX10_settles_210 (by decide) ?_
      refine x_puti (C := RX10) (T := TX10) (N := 27) (ty := .int) hC hW hS 99 (by decide) rfl rfl uX10 tyX10 tyX10_ok nmX10 3 (by decide) fl_X10_73 rfl (by decide +kernel) rfl rfl rfl dX10_settles_211 (fun H locs hW hS => ?_)
      refine lv_aload_n hC.1 hC.2.1 dX10_settles_214 rfl (lv_at hl 0 rfl) ?_
      refine lv_iconst (v := 0) hC.1 hC.2.1 dX10_settles_215 (by decide) ?_
      refine x_puti (C := RX10) (T := TX10) (N := 27) (ty := .int) hC hW hS 99 (by decide) rfl rfl uX10 tyX10 tyX10_ok nmX10 26 (by decide) fl_X10_125 rfl (by decide +kernel) rfl rfl rfl dX10_settles_216 (fun H locs hW hS => ?_)
      refine lv_aload_n hC.1 hC.2.1 dX10_settles_219 rfl (lv_at hl 0 rfl) ?_
      refine lv_iconst (v := 0) hC.1 hC.2.1 dX10_settles_220 (by decide) ?_
      refine x_puti (C := RX10) (T := TX10) (N := 27) (ty := .int) hC hW hS 99 (by decide) rfl rfl uX10 tyX10 tyX10_ok nmX10 23 (by decide) fl_X10_128 rfl (by decide +kernel) rfl rfl rfl dX10_settles_221 (fun H locs hW hS => ?_)
      refine lv_aload_n hC.1 hC.2.1 dX10_settles_224 rfl (lv_at hl 0 rfl) ?_
      refine x_get (C := RX10) (T := TX10) (N := 27) (v := _) hC hW 99 (by decide) rfl rfl uX10 21 (by decide) fl_X10_46 rfl rfl dX10_settles_225 ?_
      refine lv_iconst (v := 0) hC.1 hC.2.1 dX10_settles_228 (by decide) ?_
      refine lv_iconst (v := 0) hC.1 hC.2.1 dX10_settles_229 (by decide) ?_
      obtain ⟨hi, h⟩ := xg h
      refine x_zast hC hW hS 112 (by decide) rfl hi rfl dX10_settles_230 (fun H locs hW hS => ?_)
      refine lv_aload_n hC.1 hC.2.1 dX10_settles_231 rfl (lv_at hl 0 rfl) ?_
      refine x_get (C := RX10) (T := TX10) (N := 27) (v := _) hC hW 99 (by decide) rfl rfl uX10 21 (by decide) fl_X10_46 rfl rfl dX10_settles_232 ?_
      refine lv_iconst (v := 1) hC.1 hC.2.1 dX10_settles_235 (by decide) ?_
      refine lv_iconst (v := 0) hC.1 hC.2.1 dX10_settles_236 (by decide) ?_
      obtain ⟨hi, h⟩ := xg h
      refine x_zast hC hW hS 112 (by decide) rfl hi rfl dX10_settles_237 (fun H locs hW hS => ?_)
      obtain rfl := Option.some.inj h
      exact x_vret hC hr hW hS dX10_settles_238
    · replace h := xf hc h
      refine lv_aload_n hC.1 hC.2.1 dX10_settles_117 rfl (lv_at hl 0 rfl) ?_
      refine x_get (C := RX10) (T := TX10) (N := 27) (v := _) hC hW 99 (by decide) rfl rfl uX10 14 (by decide) fl_X10_25 rfl rfl dX10_settles_118 ?_
      refine lv_iload_n hC.1 hC.2.1 dX10_settles_121 rfl (lv_at hl 1 rfl) ?_
      refine lv_aload_n hC.1 hC.2.1 dX10_settles_122 rfl (lv_at hl 0 rfl) ?_
      refine x_get (C := RX10) (T := TX10) (N := 27) (v := _) hC hW 99 (by decide) rfl rfl uX10 14 (by decide) fl_X10_25 rfl rfl dX10_settles_123 ?_
      refine lv_iconst (v := 5) hC.1 hC.2.1 dX10_settles_126 (by decide) ?_
      refine lv_iload_n hC.1 hC.2.1 dX10_settles_127 rfl (lv_at hl 1 rfl) ?_
      refine lv_iadd hC.1 hC.2.1 dX10_settles_128 ?_
      obtain ⟨hi, h⟩ := xg h
      refine x_iald hC hW 105 (by decide) rfl hi dX10_settles_129 ?_
      obtain ⟨hi, h⟩ := xg h
      refine x_iast hC hW hS 105 (by decide) rfl hi dX10_settles_130 (fun H locs hW hS => ?_)
      refine lv_aload_n hC.1 hC.2.1 dX10_settles_131 rfl (lv_at hl 0 rfl) ?_
      refine x_get (C := RX10) (T := TX10) (N := 27) (v := _) hC hW 99 (by decide) rfl rfl uX10 15 (by decide) fl_X10_28 rfl rfl dX10_settles_132 ?_
      refine lv_iload_n hC.1 hC.2.1 dX10_settles_135 rfl (lv_at hl 1 rfl) ?_
      refine lv_aload_n hC.1 hC.2.1 dX10_settles_136 rfl (lv_at hl 0 rfl) ?_
      refine x_get (C := RX10) (T := TX10) (N := 27) (v := _) hC hW 99 (by decide) rfl rfl uX10 15 (by decide) fl_X10_28 rfl rfl dX10_settles_137 ?_
      refine lv_iconst (v := 5) hC.1 hC.2.1 dX10_settles_140 (by decide) ?_
      refine lv_iload_n hC.1 hC.2.1 dX10_settles_141 rfl (lv_at hl 1 rfl) ?_
      refine lv_iadd hC.1 hC.2.1 dX10_settles_142 ?_
      obtain ⟨hi, h⟩ := xg h
      refine x_iald hC hW 106 (by decide) rfl hi dX10_settles_143 ?_
      obtain ⟨hi, h⟩ := xg h
      refine x_iast hC hW hS 106 (by decide) rfl hi dX10_settles_144 (fun H locs hW hS => ?_)
      refine lv_aload_n hC.1 hC.2.1 dX10_settles_145 rfl (lv_at hl 0 rfl) ?_
      refine x_get (C := RX10) (T := TX10) (N := 27) (v := _) hC hW 99 (by decide) rfl rfl uX10 17 (by decide) fl_X10_34 rfl rfl dX10_settles_146 ?_
      refine lv_iload_n hC.1 hC.2.1 dX10_settles_149 rfl (lv_at hl 1 rfl) ?_
      refine lv_aload_n hC.1 hC.2.1 dX10_settles_150 rfl (lv_at hl 0 rfl) ?_
      refine x_get (C := RX10) (T := TX10) (N := 27) (v := _) hC hW 99 (by decide) rfl rfl uX10 17 (by decide) fl_X10_34 rfl rfl dX10_settles_151 ?_
      refine lv_iconst (v := 5) hC.1 hC.2.1 dX10_settles_154 (by decide) ?_
      refine lv_iload_n hC.1 hC.2.1 dX10_settles_155 rfl (lv_at hl 1 rfl) ?_
      refine lv_iadd hC.1 hC.2.1 dX10_settles_156 ?_
      obtain ⟨hi, h⟩ := xg h
      refine x_iald hC hW 108 (by decide) rfl hi dX10_settles_157 ?_
      obtain ⟨hi, h⟩ := xg h
      refine x_iast hC hW hS 108 (by decide) rfl hi dX10_settles_158 (fun H locs hW hS => ?_)
      refine lv_aload_n hC.1 hC.2.1 dX10_settles_159 rfl (lv_at hl 0 rfl) ?_
      refine x_get (C := RX10) (T := TX10) (N := 27) (v := _) hC hW 99 (by decide) rfl rfl uX10 18 (by decide) fl_X10_37 rfl rfl dX10_settles_160 ?_
      refine lv_iload_n hC.1 hC.2.1 dX10_settles_163 rfl (lv_at hl 1 rfl) ?_
      refine lv_aload_n hC.1 hC.2.1 dX10_settles_164 rfl (lv_at hl 0 rfl) ?_
      refine x_get (C := RX10) (T := TX10) (N := 27) (v := _) hC hW 99 (by decide) rfl rfl uX10 18 (by decide) fl_X10_37 rfl rfl dX10_settles_165 ?_
      refine lv_iconst (v := 5) hC.1 hC.2.1 dX10_settles_168 (by decide) ?_
      refine lv_iload_n hC.1 hC.2.1 dX10_settles_169 rfl (lv_at hl 1 rfl) ?_
      refine lv_iadd hC.1 hC.2.1 dX10_settles_170 ?_
      obtain ⟨hi, h⟩ := xg h
      refine x_iald hC hW 109 (by decide) rfl hi dX10_settles_171 ?_
      obtain ⟨hi, h⟩ := xg h
      refine x_iast hC hW hS 109 (by decide) rfl hi dX10_settles_172 (fun H locs hW hS => ?_)
      refine lv_aload_n hC.1 hC.2.1 dX10_settles_173 rfl (lv_at hl 0 rfl) ?_
      refine x_get (C := RX10) (T := TX10) (N := 27) (v := _) hC hW 99 (by decide) rfl rfl uX10 19 (by decide) fl_X10_40 rfl rfl dX10_settles_174 ?_
      refine lv_iconst (v := 0) hC.1 hC.2.1 dX10_settles_177 (by decide) ?_
      refine lv_iload_n hC.1 hC.2.1 dX10_settles_178 rfl (lv_at hl 1 rfl) ?_
      refine lv_iadd hC.1 hC.2.1 dX10_settles_179 ?_
      refine lv_aload_n hC.1 hC.2.1 dX10_settles_180 rfl (lv_at hl 0 rfl) ?_
      refine x_get (C := RX10) (T := TX10) (N := 27) (v := _) hC hW 99 (by decide) rfl rfl uX10 18 (by decide) fl_X10_37 rfl rfl dX10_settles_181 ?_
      refine lv_iload_n hC.1 hC.2.1 dX10_settles_184 rfl (lv_at hl 1 rfl) ?_
      obtain ⟨hi, h⟩ := xg h
      refine x_iald hC hW 109 (by decide) rfl hi dX10_settles_185 ?_
      obtain ⟨hi, h⟩ := xg h
      refine x_iast hC hW hS 110 (by decide) rfl hi dX10_settles_186 (fun H locs hW hS => ?_)
      refine lv_aload_n hC.1 hC.2.1 dX10_settles_187 rfl (lv_at hl 0 rfl) ?_
      refine x_get (C := RX10) (T := TX10) (N := 27) (v := _) hC hW 99 (by decide) rfl rfl uX10 19 (by decide) fl_X10_40 rfl rfl dX10_settles_188 ?_
      refine lv_iconst (v := 5) hC.1 hC.2.1 dX10_settles_191 (by decide) ?_
      refine lv_iload_n hC.1 hC.2.1 dX10_settles_192 rfl (lv_at hl 1 rfl) ?_
      refine lv_iadd hC.1 hC.2.1 dX10_settles_193 ?_
      refine lv_aload_n hC.1 hC.2.1 dX10_settles_194 rfl (lv_at hl 0 rfl) ?_
      refine x_get (C := RX10) (T := TX10) (N := 27) (v := _) hC hW 99 (by decide) rfl rfl uX10 16 (by decide) fl_X10_31 rfl rfl dX10_settles_195 ?_
      refine lv_iconst (v := 5) hC.1 hC.2.1 dX10_settles_198 (by decide) ?_
      refine lv_iload_n hC.1 hC.2.1 dX10_settles_199 rfl (lv_at hl 1 rfl) ?_
      refine lv_iadd hC.1 hC.2.1 dX10_settles_200 ?_
      obtain ⟨hi, h⟩ := xg h
      refine x_iald hC hW 107 (by decide) rfl hi dX10_settles_201 ?_
      obtain ⟨hi, h⟩ := xg h
      refine x_iast hC hW hS 110 (by decide) rfl hi dX10_settles_202 (fun H locs hW hS => ?_)
      refine lv_iinc (v := x1 + 1) (lv' := [(1, .int (x1 + 1)), (0, .ref (b + 99))]) hC.1 hC.2.1 dX10_settles_203 hl (k := 1) rfl rfl (by decide) rfl (fun ls hl => ?_)
      refine lv_goto (tgt := 112) hC.1 hC.2.1 dX10_settles_206 (by decide) ?_
      exact IH _ _ _ _ _ h hW hS (lv_sub hl [1, 0] rfl)
set_option maxHeartbeats 4000000 in
set_option maxRecDepth 100000 in
theorem w_X10_settles_50 {p : Program} {l : Launch} {e : Env} {s : State} {m : MethodId} {args : Array Value} {below : List Frame} {meth : Method} {c : Code} {D : va_G} {b : Nat} {cs : Cs3} {S1 : St} (hC : CX p s m args meth c RX10 cX10_settles 2 D cs) (hr : meth.sig.returnType = none) : ∀ (n : Nat) (x1 : Int32) (S : St) (H : Heap) (locs : List Loc) (ls : Array Slot), q_X10_settles_50 n x1 S = some S1 → Wd D b cs S H → va_S (AA b) s.heap H locs → lv_has ls 2 [(0, .ref (b + 99)), (1, .int x1)] → W p l e rX10_settles s m args below meth c H locs 0 0 (MQ below (QX D b cs none S1) args s 0 0 (AA b)) (F0 m 50 ls []) := by
  intro n
  induction n with
  | zero =>
    intro x1 S H locs ls h
    exact absurd h (by rw [q_X10_settles_50]; exact fun q => nomatch q)
  | succ n IH =>
    intro x1 S H locs ls h hW hS hl
    rw [q_X10_settles_50] at h
    refine lv_iload_n hC.1 hC.2.1 dX10_settles_50 rfl (lv_at hl 1 rfl) ?_
    refine lv_bipush (v := 8) hC.1 hC.2.1 dX10_settles_51 (by decide) ?_
    refine lv_icmp_ge (tgt := 110) hC.1 hC.2.1 dX10_settles_53 (by decide) (fun hc => ?_) (fun hc => ?_)
    · replace h := xt hc h
      refine lv_iconst (v := 0) hC.1 hC.2.1 dX10_settles_110 (by decide) ?_
      refine lv_istore_n (lv' := [(1, .int (0 : Int32)), (0, .ref (b + 99))]) hC.1 hC.2.1 dX10_settles_111 rfl hl (by decide) rfl (fun ls hl => ?_)
      exact w_X10_settles_112 hC hr _ _ _ _ _ _ h hW hS (lv_sub hl [1, 0] rfl)
    · replace h := xf hc h
      refine lv_aload_n hC.1 hC.2.1 dX10_settles_56 rfl (lv_at hl 0 rfl) ?_
      refine x_get (C := RX10) (T := TX10) (N := 27) (v := _) hC hW 99 (by decide) rfl rfl uX10 11 (by decide) fl_X10_16 rfl rfl dX10_settles_57 ?_
      refine lv_iload_n hC.1 hC.2.1 dX10_settles_60 rfl (lv_at hl 1 rfl) ?_
      refine lv_aload_n hC.1 hC.2.1 dX10_settles_61 rfl (lv_at hl 0 rfl) ?_
      refine x_get (C := RX10) (T := TX10) (N := 27) (v := _) hC hW 99 (by decide) rfl rfl uX10 11 (by decide) fl_X10_16 rfl rfl dX10_settles_62 ?_
      refine lv_bipush (v := 8) hC.1 hC.2.1 dX10_settles_65 (by decide) ?_
      refine lv_iload_n hC.1 hC.2.1 dX10_settles_67 rfl (lv_at hl 1 rfl) ?_
      refine lv_iadd hC.1 hC.2.1 dX10_settles_68 ?_
      obtain ⟨hi, h⟩ := xg h
      refine x_iald hC hW 102 (by decide) rfl hi dX10_settles_69 ?_
      obtain ⟨hi, h⟩ := xg h
      refine x_iast hC hW hS 102 (by decide) rfl hi dX10_settles_70 (fun H locs hW hS => ?_)
      refine lv_aload_n hC.1 hC.2.1 dX10_settles_71 rfl (lv_at hl 0 rfl) ?_
      refine x_get (C := RX10) (T := TX10) (N := 27) (v := _) hC hW 99 (by decide) rfl rfl uX10 12 (by decide) fl_X10_19 rfl rfl dX10_settles_72 ?_
      refine lv_iload_n hC.1 hC.2.1 dX10_settles_75 rfl (lv_at hl 1 rfl) ?_
      refine lv_aload_n hC.1 hC.2.1 dX10_settles_76 rfl (lv_at hl 0 rfl) ?_
      refine x_get (C := RX10) (T := TX10) (N := 27) (v := _) hC hW 99 (by decide) rfl rfl uX10 12 (by decide) fl_X10_19 rfl rfl dX10_settles_77 ?_
      refine lv_bipush (v := 8) hC.1 hC.2.1 dX10_settles_80 (by decide) ?_
      refine lv_iload_n hC.1 hC.2.1 dX10_settles_82 rfl (lv_at hl 1 rfl) ?_
      refine lv_iadd hC.1 hC.2.1 dX10_settles_83 ?_
      obtain ⟨hi, h⟩ := xg h
      refine x_iald hC hW 103 (by decide) rfl hi dX10_settles_84 ?_
      obtain ⟨hi, h⟩ := xg h
      refine x_iast hC hW hS 103 (by decide) rfl hi dX10_settles_85 (fun H locs hW hS => ?_)
      refine lv_aload_n hC.1 hC.2.1 dX10_settles_86 rfl (lv_at hl 0 rfl) ?_
      refine x_get (C := RX10) (T := TX10) (N := 27) (v := _) hC hW 99 (by decide) rfl rfl uX10 19 (by decide) fl_X10_40 rfl rfl dX10_settles_87 ?_
      refine lv_bipush (v := 15) hC.1 hC.2.1 dX10_settles_90 (by decide) ?_
      refine lv_iload_n hC.1 hC.2.1 dX10_settles_92 rfl (lv_at hl 1 rfl) ?_
      refine lv_iadd hC.1 hC.2.1 dX10_settles_93 ?_
      refine lv_aload_n hC.1 hC.2.1 dX10_settles_94 rfl (lv_at hl 0 rfl) ?_
      refine x_get (C := RX10) (T := TX10) (N := 27) (v := _) hC hW 99 (by decide) rfl rfl uX10 13 (by decide) fl_X10_22 rfl rfl dX10_settles_95 ?_
      refine lv_bipush (v := 8) hC.1 hC.2.1 dX10_settles_98 (by decide) ?_
      refine lv_iload_n hC.1 hC.2.1 dX10_settles_100 rfl (lv_at hl 1 rfl) ?_
      refine lv_iadd hC.1 hC.2.1 dX10_settles_101 ?_
      obtain ⟨hi, h⟩ := xg h
      refine x_iald hC hW 104 (by decide) rfl hi dX10_settles_102 ?_
      obtain ⟨hi, h⟩ := xg h
      refine x_iast hC hW hS 110 (by decide) rfl hi dX10_settles_103 (fun H locs hW hS => ?_)
      refine lv_iinc (v := x1 + 1) (lv' := [(1, .int (x1 + 1)), (0, .ref (b + 99))]) hC.1 hC.2.1 dX10_settles_104 hl (k := 1) rfl rfl (by decide) rfl (fun ls hl => ?_)
      refine lv_goto (tgt := 50) hC.1 hC.2.1 dX10_settles_107 (by decide) ?_
      exact IH _ _ _ _ _ h hW hS (lv_sub hl [1, 0] rfl)
set_option maxHeartbeats 4000000 in
set_option maxRecDepth 100000 in
theorem w_X10_settles_29 {p : Program} {l : Launch} {e : Env} {s : State} {m : MethodId} {args : Array Value} {below : List Frame} {meth : Method} {c : Code} {D : va_G} {b : Nat} {cs : Cs3} {S1 : St} (hC : CX p s m args meth c RX10 cX10_settles 2 D cs) (hr : meth.sig.returnType = none) : ∀ (n : Nat) (x1 : Int32) (S : St) (H : Heap) (locs : List Loc) (ls : Array Slot), q_X10_settles_29 n x1 S = some S1 → Wd D b cs S H → va_S (AA b) s.heap H locs → lv_has ls 2 [(0, .ref (b + 99)), (1, .int x1)] → W p l e rX10_settles s m args below meth c H locs 0 0 (MQ below (QX D b cs none S1) args s 0 0 (AA b)) (F0 m 29 ls []) := by
  intro n
  induction n with
  | zero =>
    intro x1 S H locs ls h
    exact absurd h (by rw [q_X10_settles_29]; exact fun q => nomatch q)
  | succ n IH =>
    intro x1 S H locs ls h hW hS hl
    rw [q_X10_settles_29] at h
    refine lv_iload_n hC.1 hC.2.1 dX10_settles_29 rfl (lv_at hl 1 rfl) ?_
    refine lv_bipush (v := 25) hC.1 hC.2.1 dX10_settles_30 (by decide) ?_
    refine lv_icmp_ge (tgt := 48) hC.1 hC.2.1 dX10_settles_32 (by decide) (fun hc => ?_) (fun hc => ?_)
    · replace h := xt hc h
      refine lv_iconst (v := 0) hC.1 hC.2.1 dX10_settles_48 (by decide) ?_
      refine lv_istore_n (lv' := [(1, .int (0 : Int32)), (0, .ref (b + 99))]) hC.1 hC.2.1 dX10_settles_49 rfl hl (by decide) rfl (fun ls hl => ?_)
      exact w_X10_settles_50 hC hr _ _ _ _ _ _ h hW hS (lv_sub hl [1, 0] rfl)
    · replace h := xf hc h
      refine lv_aload_n hC.1 hC.2.1 dX10_settles_35 rfl (lv_at hl 0 rfl) ?_
      refine x_get (C := RX10) (T := TX10) (N := 27) (v := _) hC hW 99 (by decide) rfl rfl uX10 19 (by decide) fl_X10_40 rfl rfl dX10_settles_36 ?_
      refine lv_iload_n hC.1 hC.2.1 dX10_settles_39 rfl (lv_at hl 1 rfl) ?_
      refine lv_iconst (v := 0) hC.1 hC.2.1 dX10_settles_40 (by decide) ?_
      obtain ⟨hi, h⟩ := xg h
      refine x_iast hC hW hS 110 (by decide) rfl hi dX10_settles_41 (fun H locs hW hS => ?_)
      refine lv_iinc (v := x1 + 1) (lv' := [(1, .int (x1 + 1)), (0, .ref (b + 99))]) hC.1 hC.2.1 dX10_settles_42 hl (k := 1) rfl rfl (by decide) rfl (fun ls hl => ?_)
      refine lv_goto (tgt := 29) hC.1 hC.2.1 dX10_settles_45 (by decide) ?_
      exact IH _ _ _ _ _ h hW hS (lv_sub hl [1, 0] rfl)
set_option maxHeartbeats 4000000 in
set_option maxRecDepth 100000 in
theorem w_X10_settles_2 {p : Program} {l : Launch} {e : Env} {s : State} {m : MethodId} {args : Array Value} {below : List Frame} {meth : Method} {c : Code} {D : va_G} {b : Nat} {cs : Cs3} {S1 : St} (hC : CX p s m args meth c RX10 cX10_settles 2 D cs) (hr : meth.sig.returnType = none) : ∀ (n : Nat) (x1 : Int32) (S : St) (H : Heap) (locs : List Loc) (ls : Array Slot), q_X10_settles_2 n x1 S = some S1 → Wd D b cs S H → va_S (AA b) s.heap H locs → lv_has ls 2 [(0, .ref (b + 99)), (1, .int x1)] → W p l e rX10_settles s m args below meth c H locs 0 0 (MQ below (QX D b cs none S1) args s 0 0 (AA b)) (F0 m 2 ls []) := by
  intro n
  induction n with
  | zero =>
    intro x1 S H locs ls h
    exact absurd h (by rw [q_X10_settles_2]; exact fun q => nomatch q)
  | succ n IH =>
    intro x1 S H locs ls h hW hS hl
    rw [q_X10_settles_2] at h
    refine lv_iload_n hC.1 hC.2.1 dX10_settles_2 rfl (lv_at hl 1 rfl) ?_
    refine lv_iconst (v := 4) hC.1 hC.2.1 dX10_settles_3 (by decide) ?_
    refine lv_icmp_ge (tgt := 27) hC.1 hC.2.1 dX10_settles_4 (by decide) (fun hc => ?_) (fun hc => ?_)
    · replace h := xt hc h
      refine lv_iconst (v := 0) hC.1 hC.2.1 dX10_settles_27 (by decide) ?_
      refine lv_istore_n (lv' := [(1, .int (0 : Int32)), (0, .ref (b + 99))]) hC.1 hC.2.1 dX10_settles_28 rfl hl (by decide) rfl (fun ls hl => ?_)
      exact w_X10_settles_29 hC hr _ _ _ _ _ _ h hW hS (lv_sub hl [1, 0] rfl)
    · replace h := xf hc h
      refine lv_aload_n hC.1 hC.2.1 dX10_settles_7 rfl (lv_at hl 0 rfl) ?_
      refine x_get (C := RX10) (T := TX10) (N := 27) (v := _) hC hW 99 (by decide) rfl rfl uX10 10 (by decide) fl_X10_13 rfl rfl dX10_settles_8 ?_
      refine lv_iload_n hC.1 hC.2.1 dX10_settles_11 rfl (lv_at hl 1 rfl) ?_
      refine lv_aload_n hC.1 hC.2.1 dX10_settles_12 rfl (lv_at hl 0 rfl) ?_
      refine x_get (C := RX10) (T := TX10) (N := 27) (v := _) hC hW 99 (by decide) rfl rfl uX10 10 (by decide) fl_X10_13 rfl rfl dX10_settles_13 ?_
      refine lv_iconst (v := 4) hC.1 hC.2.1 dX10_settles_16 (by decide) ?_
      refine lv_iload_n hC.1 hC.2.1 dX10_settles_17 rfl (lv_at hl 1 rfl) ?_
      refine lv_iadd hC.1 hC.2.1 dX10_settles_18 ?_
      obtain ⟨hi, h⟩ := xg h
      refine x_iald hC hW 101 (by decide) rfl hi dX10_settles_19 ?_
      obtain ⟨hi, h⟩ := xg h
      refine x_iast hC hW hS 101 (by decide) rfl hi dX10_settles_20 (fun H locs hW hS => ?_)
      refine lv_iinc (v := x1 + 1) (lv' := [(1, .int (x1 + 1)), (0, .ref (b + 99))]) hC.1 hC.2.1 dX10_settles_21 hl (k := 1) rfl rfl (by decide) rfl (fun ls hl => ?_)
      refine lv_goto (tgt := 2) hC.1 hC.2.1 dX10_settles_24 (by decide) ?_
      exact IH _ _ _ _ _ h hW hS (lv_sub hl [1, 0] rfl)
set_option maxHeartbeats 4000000 in
set_option maxRecDepth 100000 in
theorem c_X10_settles (l : Launch) (D : va_G) (b : Nat) (cs : Cs3) (S S1 : St) (h : p_X10_settles S = some S1) : Ct l yX10_settles cX10_settles 2 none rX10_settles D b cs [.ref (b + 99)] S none S1 := by
  refine x_met (by decide +kernel) (Nat.le_of_ble_eq_true rfl) ?_
  intro p e s m below meth c ls hC hr hW hS hl
  have hl : lv_has ls 2 [(0, .ref (b + 99))] := hl
  rw [p_X10_settles] at h
  refine lv_iconst (v := 0) hC.1 hC.2.1 dX10_settles_0 (by decide) ?_
  refine lv_istore_n (lv' := [(1, .int (0 : Int32)), (0, .ref (b + 99))]) hC.1 hC.2.1 dX10_settles_1 rfl hl (by decide) rfl (fun ls hl => ?_)
  exact w_X10_settles_2 hC hr _ _ _ _ _ _ h hW hS (lv_sub hl [1, 0] rfl)
theorem dX10_city_0 : decode cX10_city 0 = .ok (.aload_n 0, 1) := by decide +kernel
theorem dX10_city_1 : decode cX10_city 1 = .ok (.iconst 0, 1) := by decide +kernel
theorem dX10_city_2 : decode cX10_city 2 = .ok (.putfield 65, 3) := by decide +kernel
theorem dX10_city_5 : decode cX10_city 5 = .ok (.aload_n 0, 1) := by decide +kernel
theorem dX10_city_6 : decode cX10_city 6 = .ok (.iconst (-1), 1) := by decide +kernel
theorem dX10_city_7 : decode cX10_city 7 = .ok (.putfield 96, 3) := by decide +kernel
theorem dX10_city_10 : decode cX10_city 10 = .ok (.aload_n 0, 1) := by decide +kernel
theorem dX10_city_11 : decode cX10_city 11 = .ok (.iconst 0, 1) := by decide +kernel
theorem dX10_city_12 : decode cX10_city 12 = .ok (.putfield 76, 3) := by decide +kernel
theorem dX10_city_15 : decode cX10_city 15 = .ok (.aload_n 0, 1) := by decide +kernel
theorem dX10_city_16 : decode cX10_city 16 = .ok (.invokevirtual 59, 3) := by decide +kernel
theorem dX10_city_19 : decode cX10_city 19 = .ok (.iconst 0, 1) := by decide +kernel
theorem dX10_city_20 : decode cX10_city 20 = .ok (.istore_n 1, 1) := by decide +kernel
theorem dX10_city_21 : decode cX10_city 21 = .ok (.aload_n 0, 1) := by decide +kernel
theorem dX10_city_22 : decode cX10_city 22 = .ok (.invokevirtual 103, 3) := by decide +kernel
theorem dX10_city_25 : decode cX10_city 25 = .ok (.aload_n 0, 1) := by decide +kernel
theorem dX10_city_26 : decode cX10_city 26 = .ok (.invokevirtual 99, 3) := by decide +kernel
theorem dX10_city_29 : decode cX10_city 29 = .ok (.ifCond .eq 72, 3) := by decide +kernel
theorem dX10_city_32 : decode cX10_city 32 = .ok (.aload_n 0, 1) := by decide +kernel
theorem dX10_city_33 : decode cX10_city 33 = .ok (.getfield 86, 3) := by decide +kernel
theorem dX10_city_36 : decode cX10_city 36 = .ok (.ifCond .eq 65, 3) := by decide +kernel
theorem dX10_city_39 : decode cX10_city 39 = .ok (.aload_n 0, 1) := by decide +kernel
theorem dX10_city_40 : decode cX10_city 40 = .ok (.aload_n 0, 1) := by decide +kernel
theorem dX10_city_41 : decode cX10_city 41 = .ok (.getfield 86, 3) := by decide +kernel
theorem dX10_city_44 : decode cX10_city 44 = .ok (.iconst 1, 1) := by decide +kernel
theorem dX10_city_45 : decode cX10_city 45 = .ok (.if_icmp .ne 15, 3) := by decide +kernel
theorem dX10_city_48 : decode cX10_city 48 = .ok (.aload_n 0, 1) := by decide +kernel
theorem dX10_city_49 : decode cX10_city 49 = .ok (.iload_n 1, 1) := by decide +kernel
theorem dX10_city_50 : decode cX10_city 50 = .ok (.invokevirtual 118, 3) := by decide +kernel
theorem dX10_city_53 : decode cX10_city 53 = .ok (.ifCond .eq 7, 3) := by decide +kernel
theorem dX10_city_56 : decode cX10_city 56 = .ok (.iconst 1, 1) := by decide +kernel
theorem dX10_city_57 : decode cX10_city 57 = .ok (.goto 4, 3) := by decide +kernel
theorem dX10_city_60 : decode cX10_city 60 = .ok (.iconst 0, 1) := by decide +kernel
theorem dX10_city_61 : decode cX10_city 61 = .ok (.invokevirtual 106, 3) := by decide +kernel
theorem dX10_city_64 : decode cX10_city 64 = .ok (.istore_n 2, 1) := by decide +kernel
theorem dX10_city_65 : decode cX10_city 65 = .ok (.aload_n 0, 1) := by decide +kernel
theorem dX10_city_66 : decode cX10_city 66 = .ok (.invokevirtual 99, 3) := by decide +kernel
theorem dX10_city_69 : decode cX10_city 69 = .ok (.ifCond .eq 8, 3) := by decide +kernel
theorem dX10_city_72 : decode cX10_city 72 = .ok (.aload_n 0, 1) := by decide +kernel
theorem dX10_city_73 : decode cX10_city 73 = .ok (.iload_n 2, 1) := by decide +kernel
theorem dX10_city_74 : decode cX10_city 74 = .ok (.invokevirtual 121, 3) := by decide +kernel
theorem dX10_city_77 : decode cX10_city 77 = .ok (.aload_n 0, 1) := by decide +kernel
theorem dX10_city_78 : decode cX10_city 78 = .ok (.aload_n 0, 1) := by decide +kernel
theorem dX10_city_79 : decode cX10_city 79 = .ok (.getfield 86, 3) := by decide +kernel
theorem dX10_city_82 : decode cX10_city 82 = .ok (.iconst 3, 1) := by decide +kernel
theorem dX10_city_83 : decode cX10_city 83 = .ok (.if_icmp .ne 7, 3) := by decide +kernel
theorem dX10_city_86 : decode cX10_city 86 = .ok (.iconst 1, 1) := by decide +kernel
theorem dX10_city_87 : decode cX10_city 87 = .ok (.goto 4, 3) := by decide +kernel
theorem dX10_city_90 : decode cX10_city 90 = .ok (.iconst 0, 1) := by decide +kernel
theorem dX10_city_91 : decode cX10_city 91 = .ok (.invokevirtual 106, 3) := by decide +kernel
theorem dX10_city_94 : decode cX10_city 94 = .ok (.pop, 1) := by decide +kernel
theorem dX10_city_95 : decode cX10_city 95 = .ok (.iinc 1 1, 3) := by decide +kernel
theorem dX10_city_98 : decode cX10_city 98 = .ok (.goto (-73), 3) := by decide +kernel
theorem dX10_city_101 : decode cX10_city 101 = .ok (.aload_n 0, 1) := by decide +kernel
theorem dX10_city_102 : decode cX10_city 102 = .ok (.invokevirtual 99, 3) := by decide +kernel
theorem dX10_city_105 : decode cX10_city 105 = .ok (.ifCond .ne 11, 3) := by decide +kernel
theorem dX10_city_108 : decode cX10_city 108 = .ok (.bipush (-10), 2) := by decide +kernel
theorem dX10_city_110 : decode cX10_city 110 = .ok (.aload_n 0, 1) := by decide +kernel
theorem dX10_city_111 : decode cX10_city 111 = .ok (.getfield 96, 3) := by decide +kernel
theorem dX10_city_114 : decode cX10_city 114 = .ok (.isub, 1) := by decide +kernel
theorem dX10_city_115 : decode cX10_city 115 = .ok (.ireturn, 1) := by decide +kernel
theorem dX10_city_116 : decode cX10_city 116 = .ok (.aload_n 0, 1) := by decide +kernel
theorem dX10_city_117 : decode cX10_city 117 = .ok (.invokevirtual 62, 3) := by decide +kernel
theorem dX10_city_120 : decode cX10_city 120 = .ok (.iload_n 1, 1) := by decide +kernel
theorem dX10_city_121 : decode cX10_city 121 = .ok (.ireturn, 1) := by decide +kernel
abbrev rX10_city : Room := { frames := 5, cells := 0, slots := 0, locals := 110 }
set_option maxHeartbeats 4000000 in
set_option maxRecDepth 100000 in
theorem w_X10_city_77 {p : Program} {l : Launch} {e : Env} {s : State} {m : MethodId} {args : Array Value} {below : List Frame} {meth : Method} {c : Code} {D : va_G} {b : Nat} {cs : Cs3} {r : Int32} {S1 : St} {ag25 : Int32 → St → Option (Int32 × St)} (hC : CX p s m args meth c RX10 cX10_city 3 D cs) (hr : meth.sig.returnType = (some .int)) (hag25 : ∀ (x1 : Int32) (S : St) (H : Heap) (locs : List Loc) (ls : Array Slot), ag25 x1 S = some (r, S1) → Wd D b cs S H → va_S (AA b) s.heap H locs → lv_has ls 3 [(0, .ref (b + 99)), (1, .int x1)] → W p l e rX10_city s m args below meth c H locs 0 0 (MQ below (QX D b cs (some (.int r)) S1) args s 0 0 (AA b)) (F0 m 25 ls [])) : ∀ (x1 : Int32) (S : St) (H : Heap) (locs : List Loc) (ls : Array Slot), q_X10_city_77 ag25 x1 S = some (r, S1) → Wd D b cs S H → va_S (AA b) s.heap H locs → lv_has ls 3 [(0, .ref (b + 99)), (1, .int x1)] → W p l e rX10_city s m args below meth c H locs 0 0 (MQ below (QX D b cs (some (.int r)) S1) args s 0 0 (AA b)) (F0 m 77 ls []) := by
  intro x1 S H locs ls h hW hS hl
  rw [q_X10_city_77] at h
  refine lv_aload_n hC.1 hC.2.1 dX10_city_77 rfl (lv_at hl 0 rfl) ?_
  refine lv_aload_n hC.1 hC.2.1 dX10_city_78 rfl (lv_at hl 0 rfl) ?_
  refine x_get (C := RX10) (T := TX10) (N := 27) (v := _) hC hW 99 (by decide) rfl rfl uX10 5 (by decide) fl_X10_86 rfl rfl dX10_city_79 ?_
  refine lv_iconst (v := 3) hC.1 hC.2.1 dX10_city_82 (by decide) ?_
  refine lv_icmp_ne (tgt := 90) hC.1 hC.2.1 dX10_city_83 (by decide) (fun hc => ?_) (fun hc => ?_)
  · replace h := xf hc h
    refine lv_iconst (v := 0) hC.1 hC.2.1 dX10_city_90 (by decide) ?_
    obtain ⟨⟨q91_r, q91_S⟩, hq, h⟩ := xb h
    try dsimp only at h
    refine x_callV (T := TX10) (N := 27) (As := [.int (0 : Int32)]) (rest := []) hC hW hS 99 (c_X10_takes l D b cs _ _ _ _ hq) (by decide) rfl rfl mi_X10_takes in_X10_takes sl_X10_takes ml_X10_106 ⟨rfl, rfl⟩ ⟨Nat.le_of_ble_eq_true rfl, Nat.le_of_ble_eq_true rfl⟩ ⟨Nat.zero_le _, Nat.zero_le _⟩ rfl rfl hl.1 (Nat.le_of_ble_eq_true rfl) dX10_city_91 (fun H locs hW hS => ?_)
    refine lv_pop hC.1 hC.2.1 dX10_city_94 rfl ?_
    refine lv_iinc (v := x1 + 1) (lv' := [(1, .int (x1 + 1)), (0, .ref (b + 99))]) hC.1 hC.2.1 dX10_city_95 hl (k := 1) rfl rfl (by decide) rfl (fun ls hl => ?_)
    refine lv_goto (tgt := 25) hC.1 hC.2.1 dX10_city_98 (by decide) ?_
    exact hag25 _ _ _ _ _ h hW hS (lv_sub hl [1, 0] rfl)
  · replace h := xt hc h
    refine lv_iconst (v := 1) hC.1 hC.2.1 dX10_city_86 (by decide) ?_
    refine lv_goto (tgt := 91) hC.1 hC.2.1 dX10_city_87 (by decide) ?_
    obtain ⟨⟨q91_r, q91_S⟩, hq, h⟩ := xb h
    try dsimp only at h
    refine x_callV (T := TX10) (N := 27) (As := [.int (1 : Int32)]) (rest := []) hC hW hS 99 (c_X10_takes l D b cs _ _ _ _ hq) (by decide) rfl rfl mi_X10_takes in_X10_takes sl_X10_takes ml_X10_106 ⟨rfl, rfl⟩ ⟨Nat.le_of_ble_eq_true rfl, Nat.le_of_ble_eq_true rfl⟩ ⟨Nat.zero_le _, Nat.zero_le _⟩ rfl rfl hl.1 (Nat.le_of_ble_eq_true rfl) dX10_city_91 (fun H locs hW hS => ?_)
    refine lv_pop hC.1 hC.2.1 dX10_city_94 rfl ?_
    refine lv_iinc (v := x1 + 1) (lv' := [(1, .int (x1 + 1)), (0, .ref (b + 99))]) hC.1 hC.2.1 dX10_city_95 hl (k := 1) rfl rfl (by decide) rfl (fun ls hl => ?_)
    refine lv_goto (tgt := 25) hC.1 hC.2.1 dX10_city_98 (by decide) ?_
    exact hag25 _ _ _ _ _ h hW hS (lv_sub hl [1, 0] rfl)
set_option maxHeartbeats 4000000 in
set_option maxRecDepth 100000 in
theorem w_X10_city_61 {p : Program} {l : Launch} {e : Env} {s : State} {m : MethodId} {args : Array Value} {below : List Frame} {meth : Method} {c : Code} {D : va_G} {b : Nat} {cs : Cs3} {r : Int32} {S1 : St} {ag25 : Int32 → St → Option (Int32 × St)} (hC : CX p s m args meth c RX10 cX10_city 3 D cs) (hr : meth.sig.returnType = (some .int)) (hag25 : ∀ (x1 : Int32) (S : St) (H : Heap) (locs : List Loc) (ls : Array Slot), ag25 x1 S = some (r, S1) → Wd D b cs S H → va_S (AA b) s.heap H locs → lv_has ls 3 [(0, .ref (b + 99)), (1, .int x1)] → W p l e rX10_city s m args below meth c H locs 0 0 (MQ below (QX D b cs (some (.int r)) S1) args s 0 0 (AA b)) (F0 m 25 ls [])) : ∀ (x1 : Int32) (y0 : Int32) (S : St) (H : Heap) (locs : List Loc) (ls : Array Slot), q_X10_city_61 ag25 x1 y0 S = some (r, S1) → Wd D b cs S H → va_S (AA b) s.heap H locs → lv_has ls 3 [(0, .ref (b + 99)), (1, .int x1)] → W p l e rX10_city s m args below meth c H locs 0 0 (MQ below (QX D b cs (some (.int r)) S1) args s 0 0 (AA b)) (F0 m 61 ls [.int y0, .ref (b + 99)]) := by
  intro x1 y0 S H locs ls h hW hS hl
  rw [q_X10_city_61] at h
  obtain ⟨⟨q61_r, q61_S⟩, hq, h⟩ := xb h
  try dsimp only at h
  refine x_callV (T := TX10) (N := 27) (As := [.int y0]) (rest := []) hC hW hS 99 (c_X10_takes l D b cs _ _ _ _ hq) (by decide) rfl rfl mi_X10_takes in_X10_takes sl_X10_takes ml_X10_106 ⟨rfl, rfl⟩ ⟨Nat.le_of_ble_eq_true rfl, Nat.le_of_ble_eq_true rfl⟩ ⟨Nat.zero_le _, Nat.zero_le _⟩ rfl rfl hl.1 (Nat.le_of_ble_eq_true rfl) dX10_city_61 (fun H locs hW hS => ?_)
  refine lv_istore_n (lv' := [(2, .int q61_r), (0, .ref (b + 99)), (1, .int x1)]) hC.1 hC.2.1 dX10_city_64 rfl hl (by decide) rfl (fun ls hl => ?_)
  refine lv_aload_n hC.1 hC.2.1 dX10_city_65 rfl (lv_at hl 1 rfl) ?_
  obtain ⟨⟨q66_r, q66_S⟩, hq, h⟩ := xb h
  try dsimp only at h
  refine x_callV (T := TX10) (N := 27) (As := []) (rest := []) hC hW hS 99 (c_X10_isWell l D b cs _ _ _ hq) (by decide) rfl rfl mi_X10_isWell in_X10_isWell sl_X10_isWell ml_X10_99 ⟨rfl, rfl⟩ ⟨Nat.le_of_ble_eq_true rfl, Nat.le_of_ble_eq_true rfl⟩ ⟨Nat.zero_le _, Nat.zero_le _⟩ rfl rfl hl.1 (Nat.le_of_ble_eq_true rfl) dX10_city_66 (fun H locs hW hS => ?_)
  refine lv_if_eq (tgt := 77) hC.1 hC.2.1 dX10_city_69 (by decide) (fun hc => ?_) (fun hc => ?_)
  · replace h := xt hc h
    exact w_X10_city_77 hC hr hag25 _ _ _ _ _ h hW hS (lv_sub hl [1, 2] rfl)
  · replace h := xf hc h
    refine lv_aload_n hC.1 hC.2.1 dX10_city_72 rfl (lv_at hl 1 rfl) ?_
    refine lv_iload_n hC.1 hC.2.1 dX10_city_73 rfl (lv_at hl 0 rfl) ?_
    obtain ⟨q74, hq, h⟩ := xb h
    try dsimp only at h
    refine x_callV (T := TX10) (N := 27) (As := [.int q61_r]) (rest := []) hC hW hS 99 (c_X10_readsItem l D b cs _ _ _ hq) (by decide) rfl rfl mi_X10_readsItem in_X10_readsItem sl_X10_readsItem ml_X10_121 ⟨rfl, rfl⟩ ⟨Nat.le_of_ble_eq_true rfl, Nat.le_of_ble_eq_true rfl⟩ ⟨Nat.zero_le _, Nat.zero_le _⟩ rfl rfl hl.1 (Nat.le_of_ble_eq_true rfl) dX10_city_74 (fun H locs hW hS => ?_)
    exact w_X10_city_77 hC hr hag25 _ _ _ _ _ h hW hS (lv_sub hl [1, 2] rfl)
set_option maxHeartbeats 4000000 in
set_option maxRecDepth 100000 in
theorem w_X10_city_60 {p : Program} {l : Launch} {e : Env} {s : State} {m : MethodId} {args : Array Value} {below : List Frame} {meth : Method} {c : Code} {D : va_G} {b : Nat} {cs : Cs3} {r : Int32} {S1 : St} {ag25 : Int32 → St → Option (Int32 × St)} (hC : CX p s m args meth c RX10 cX10_city 3 D cs) (hr : meth.sig.returnType = (some .int)) (hag25 : ∀ (x1 : Int32) (S : St) (H : Heap) (locs : List Loc) (ls : Array Slot), ag25 x1 S = some (r, S1) → Wd D b cs S H → va_S (AA b) s.heap H locs → lv_has ls 3 [(0, .ref (b + 99)), (1, .int x1)] → W p l e rX10_city s m args below meth c H locs 0 0 (MQ below (QX D b cs (some (.int r)) S1) args s 0 0 (AA b)) (F0 m 25 ls [])) : ∀ (x1 : Int32) (S : St) (H : Heap) (locs : List Loc) (ls : Array Slot), q_X10_city_60 ag25 x1 S = some (r, S1) → Wd D b cs S H → va_S (AA b) s.heap H locs → lv_has ls 3 [(0, .ref (b + 99)), (1, .int x1)] → W p l e rX10_city s m args below meth c H locs 0 0 (MQ below (QX D b cs (some (.int r)) S1) args s 0 0 (AA b)) (F0 m 60 ls [.ref (b + 99)]) := by
  intro x1 S H locs ls h hW hS hl
  rw [q_X10_city_60] at h
  refine lv_iconst (v := 0) hC.1 hC.2.1 dX10_city_60 (by decide) ?_
  exact w_X10_city_61 hC hr hag25 _ _ _ _ _ _ h hW hS (lv_sub hl [0, 1] rfl)
set_option maxHeartbeats 4000000 in
set_option maxRecDepth 100000 in
theorem w_X10_city_101 {p : Program} {l : Launch} {e : Env} {s : State} {m : MethodId} {args : Array Value} {below : List Frame} {meth : Method} {c : Code} {D : va_G} {b : Nat} {cs : Cs3} {r : Int32} {S1 : St} (hC : CX p s m args meth c RX10 cX10_city 3 D cs) (hr : meth.sig.returnType = (some .int)) : ∀ (x1 : Int32) (S : St) (H : Heap) (locs : List Loc) (ls : Array Slot), q_X10_city_101 x1 S = some (r, S1) → Wd D b cs S H → va_S (AA b) s.heap H locs → lv_has ls 3 [(0, .ref (b + 99)), (1, .int x1)] → W p l e rX10_city s m args below meth c H locs 0 0 (MQ below (QX D b cs (some (.int r)) S1) args s 0 0 (AA b)) (F0 m 101 ls []) := by
  intro x1 S H locs ls h hW hS hl
  rw [q_X10_city_101] at h
  refine lv_aload_n hC.1 hC.2.1 dX10_city_101 rfl (lv_at hl 0 rfl) ?_
  obtain ⟨⟨q102_r, q102_S⟩, hq, h⟩ := xb h
  try dsimp only at h
  refine x_callV (T := TX10) (N := 27) (As := []) (rest := []) hC hW hS 99 (c_X10_isWell l D b cs _ _ _ hq) (by decide) rfl rfl mi_X10_isWell in_X10_isWell sl_X10_isWell ml_X10_99 ⟨rfl, rfl⟩ ⟨Nat.le_of_ble_eq_true rfl, Nat.le_of_ble_eq_true rfl⟩ ⟨Nat.zero_le _, Nat.zero_le _⟩ rfl rfl hl.1 (Nat.le_of_ble_eq_true rfl) dX10_city_102 (fun H locs hW hS => ?_)
  refine lv_if_ne (tgt := 116) hC.1 hC.2.1 dX10_city_105 (by decide) (fun hc => ?_) (fun hc => ?_)
  · replace h := xf hc h
    refine lv_aload_n hC.1 hC.2.1 dX10_city_116 rfl (lv_at hl 0 rfl) ?_
    obtain ⟨q117, hq, h⟩ := xb h
    try dsimp only at h
    refine x_callV (T := TX10) (N := 27) (As := []) (rest := []) hC hW hS 99 (c_X10_settles l D b cs _ _ hq) (by decide) rfl rfl mi_X10_settles in_X10_settles sl_X10_settles ml_X10_62 ⟨rfl, rfl⟩ ⟨Nat.le_of_ble_eq_true rfl, Nat.le_of_ble_eq_true rfl⟩ ⟨Nat.zero_le _, Nat.zero_le _⟩ rfl rfl hl.1 (Nat.le_of_ble_eq_true rfl) dX10_city_117 (fun H locs hW hS => ?_)
    refine lv_iload_n hC.1 hC.2.1 dX10_city_120 rfl (lv_at hl 1 rfl) ?_
    obtain ⟨rfl, rfl⟩ := xr h
    exact x_iret hC hr hW hS dX10_city_121
  · replace h := xt hc h
    refine lv_bipush (v := -10) hC.1 hC.2.1 dX10_city_108 (by decide) ?_
    refine lv_aload_n hC.1 hC.2.1 dX10_city_110 rfl (lv_at hl 0 rfl) ?_
    refine x_get (C := RX10) (T := TX10) (N := 27) (v := _) hC hW 99 (by decide) rfl rfl uX10 8 (by decide) fl_X10_96 rfl rfl dX10_city_111 ?_
    refine lv_isub hC.1 hC.2.1 dX10_city_114 ?_
    obtain ⟨rfl, rfl⟩ := xr h
    exact x_iret hC hr hW hS dX10_city_115
set_option maxHeartbeats 4000000 in
set_option maxRecDepth 100000 in
theorem w_X10_city_25 {p : Program} {l : Launch} {e : Env} {s : State} {m : MethodId} {args : Array Value} {below : List Frame} {meth : Method} {c : Code} {D : va_G} {b : Nat} {cs : Cs3} {r : Int32} {S1 : St} (hC : CX p s m args meth c RX10 cX10_city 3 D cs) (hr : meth.sig.returnType = (some .int)) : ∀ (n : Nat) (x1 : Int32) (S : St) (H : Heap) (locs : List Loc) (ls : Array Slot), q_X10_city_25 n x1 S = some (r, S1) → Wd D b cs S H → va_S (AA b) s.heap H locs → lv_has ls 3 [(0, .ref (b + 99)), (1, .int x1)] → W p l e rX10_city s m args below meth c H locs 0 0 (MQ below (QX D b cs (some (.int r)) S1) args s 0 0 (AA b)) (F0 m 25 ls []) := by
  intro n
  induction n with
  | zero =>
    intro x1 S H locs ls h
    exact absurd h (by rw [q_X10_city_25]; exact fun q => nomatch q)
  | succ n IH =>
    intro x1 S H locs ls h hW hS hl
    rw [q_X10_city_25] at h
    refine lv_aload_n hC.1 hC.2.1 dX10_city_25 rfl (lv_at hl 0 rfl) ?_
    obtain ⟨⟨q26_r, q26_S⟩, hq, h⟩ := xb h
    try dsimp only at h
    refine x_callV (T := TX10) (N := 27) (As := []) (rest := []) hC hW hS 99 (c_X10_isWell l D b cs _ _ _ hq) (by decide) rfl rfl mi_X10_isWell in_X10_isWell sl_X10_isWell ml_X10_99 ⟨rfl, rfl⟩ ⟨Nat.le_of_ble_eq_true rfl, Nat.le_of_ble_eq_true rfl⟩ ⟨Nat.zero_le _, Nat.zero_le _⟩ rfl rfl hl.1 (Nat.le_of_ble_eq_true rfl) dX10_city_26 (fun H locs hW hS => ?_)
    refine lv_if_eq (tgt := 101) hC.1 hC.2.1 dX10_city_29 (by decide) (fun hc => ?_) (fun hc => ?_)
    · replace h := xt hc h
      exact w_X10_city_101 hC hr _ _ _ _ _ h hW hS (lv_sub hl [0, 1] rfl)
    · replace h := xf hc h
      refine lv_aload_n hC.1 hC.2.1 dX10_city_32 rfl (lv_at hl 0 rfl) ?_
      refine x_get (C := RX10) (T := TX10) (N := 27) (v := _) hC hW 99 (by decide) rfl rfl uX10 5 (by decide) fl_X10_86 rfl rfl dX10_city_33 ?_
      refine lv_if_eq (tgt := 101) hC.1 hC.2.1 dX10_city_36 (by decide) (fun hc => ?_) (fun hc => ?_)
      · replace h := xt hc h
        exact w_X10_city_101 hC hr _ _ _ _ _ h hW hS (lv_sub hl [0, 1] rfl)
      · replace h := xf hc h
        refine lv_aload_n hC.1 hC.2.1 dX10_city_39 rfl (lv_at hl 0 rfl) ?_
        refine lv_aload_n hC.1 hC.2.1 dX10_city_40 rfl (lv_at hl 0 rfl) ?_
        refine x_get (C := RX10) (T := TX10) (N := 27) (v := _) hC hW 99 (by decide) rfl rfl uX10 5 (by decide) fl_X10_86 rfl rfl dX10_city_41 ?_
        refine lv_iconst (v := 1) hC.1 hC.2.1 dX10_city_44 (by decide) ?_
        refine lv_icmp_ne (tgt := 60) hC.1 hC.2.1 dX10_city_45 (by decide) (fun hc => ?_) (fun hc => ?_)
        · replace h := xf hc h
          exact w_X10_city_60 hC hr IH _ _ _ _ _ h hW hS (lv_sub hl [0, 1] rfl)
        · replace h := xt hc h
          refine lv_aload_n hC.1 hC.2.1 dX10_city_48 rfl (lv_at hl 0 rfl) ?_
          refine lv_iload_n hC.1 hC.2.1 dX10_city_49 rfl (lv_at hl 1 rfl) ?_
          obtain ⟨⟨q50_r, q50_S⟩, hq, h⟩ := xb h
          try dsimp only at h
          refine x_callV (T := TX10) (N := 27) (As := [.int x1]) (rest := [.ref (b + 99)]) hC hW hS 99 (c_X10_mayBegin l D b cs _ _ _ _ hq) (by decide) rfl rfl mi_X10_mayBegin in_X10_mayBegin sl_X10_mayBegin ml_X10_118 ⟨rfl, rfl⟩ ⟨Nat.le_of_ble_eq_true rfl, Nat.le_of_ble_eq_true rfl⟩ ⟨Nat.zero_le _, Nat.zero_le _⟩ rfl rfl hl.1 (Nat.le_of_ble_eq_true rfl) dX10_city_50 (fun H locs hW hS => ?_)
          refine lv_if_eq (tgt := 60) hC.1 hC.2.1 dX10_city_53 (by decide) (fun hc => ?_) (fun hc => ?_)
          · replace h := xt hc h
            exact w_X10_city_60 hC hr IH _ _ _ _ _ h hW hS (lv_sub hl [0, 1] rfl)
          · replace h := xf hc h
            refine lv_iconst (v := 1) hC.1 hC.2.1 dX10_city_56 (by decide) ?_
            refine lv_goto (tgt := 61) hC.1 hC.2.1 dX10_city_57 (by decide) ?_
            exact w_X10_city_61 hC hr IH _ _ _ _ _ _ h hW hS (lv_sub hl [0, 1] rfl)
set_option maxHeartbeats 4000000 in
set_option maxRecDepth 100000 in
theorem c_X10_city (l : Launch) (D : va_G) (b : Nat) (cs : Cs3) (S S1 : St) (r : Int32) (h : p_X10_city S = some (r, S1)) : Ct l yX10_city cX10_city 3 (some .int) rX10_city D b cs [.ref (b + 99)] S (some (.int r)) S1 := by
  refine x_met (by decide +kernel) (Nat.le_of_ble_eq_true rfl) ?_
  intro p e s m below meth c ls hC hr hW hS hl
  have hl : lv_has ls 3 [(0, .ref (b + 99))] := hl
  rw [p_X10_city] at h
  refine lv_aload_n hC.1 hC.2.1 dX10_city_0 rfl (lv_at hl 0 rfl) ?_
  refine lv_iconst (v := 0) hC.1 hC.2.1 dX10_city_1 (by decide) ?_
  refine x_puti (C := RX10) (T := TX10) (N := 27) (ty := .int) hC hW hS 99 (by decide) rfl rfl uX10 tyX10 tyX10_ok nmX10 0 (by decide) fl_X10_65 rfl (by decide +kernel) rfl rfl rfl dX10_city_2 (fun H locs hW hS => ?_)
  refine lv_aload_n hC.1 hC.2.1 dX10_city_5 rfl (lv_at hl 0 rfl) ?_
  refine lv_iconst (v := -1) hC.1 hC.2.1 dX10_city_6 (by decide) ?_
  refine x_puti (C := RX10) (T := TX10) (N := 27) (ty := .int) hC hW hS 99 (by decide) rfl rfl uX10 tyX10 tyX10_ok nmX10 8 (by decide) fl_X10_96 rfl (by decide +kernel) rfl rfl rfl dX10_city_7 (fun H locs hW hS => ?_)
  refine lv_aload_n hC.1 hC.2.1 dX10_city_10 rfl (lv_at hl 0 rfl) ?_
  refine lv_iconst (v := 0) hC.1 hC.2.1 dX10_city_11 (by decide) ?_
  refine x_puti (C := RX10) (T := TX10) (N := 27) (ty := .int) hC hW hS 99 (by decide) rfl rfl uX10 tyX10 tyX10_ok nmX10 4 (by decide) fl_X10_76 rfl (by decide +kernel) rfl rfl rfl dX10_city_12 (fun H locs hW hS => ?_)
  refine lv_aload_n hC.1 hC.2.1 dX10_city_15 rfl (lv_at hl 0 rfl) ?_
  obtain ⟨q16, hq, h⟩ := xb h
  try dsimp only at h
  refine x_callV (T := TX10) (N := 27) (As := []) (rest := []) hC hW hS 99 (c_X10_begins l D b cs _ _ hq) (by decide) rfl rfl mi_X10_begins in_X10_begins sl_X10_begins ml_X10_59 ⟨rfl, rfl⟩ ⟨Nat.le_of_ble_eq_true rfl, Nat.le_of_ble_eq_true rfl⟩ ⟨Nat.zero_le _, Nat.zero_le _⟩ rfl rfl hl.1 (Nat.le_of_ble_eq_true rfl) dX10_city_16 (fun H locs hW hS => ?_)
  refine lv_iconst (v := 0) hC.1 hC.2.1 dX10_city_19 (by decide) ?_
  refine lv_istore_n (lv' := [(1, .int (0 : Int32)), (0, .ref (b + 99))]) hC.1 hC.2.1 dX10_city_20 rfl hl (by decide) rfl (fun ls hl => ?_)
  refine lv_aload_n hC.1 hC.2.1 dX10_city_21 rfl (lv_at hl 1 rfl) ?_
  obtain ⟨q22, hq, h⟩ := xb h
  try dsimp only at h
  refine x_callV (T := TX10) (N := 27) (As := []) (rest := []) hC hW hS 99 (c_X10_advances l D b cs _ _ hq) (by decide) rfl rfl mi_X10_advances in_X10_advances sl_X10_advances ml_X10_103 ⟨rfl, rfl⟩ ⟨Nat.le_of_ble_eq_true rfl, Nat.le_of_ble_eq_true rfl⟩ ⟨Nat.zero_le _, Nat.zero_le _⟩ rfl rfl hl.1 (Nat.le_of_ble_eq_true rfl) dX10_city_22 (fun H locs hW hS => ?_)
  exact w_X10_city_25 hC hr _ _ _ _ _ _ h hW hS (lv_sub hl [1, 0] rfl)
theorem dX10_isDoor_0 : decode cX10_isDoor 0 = .ok (.iload_n 1, 1) := by decide +kernel
theorem dX10_isDoor_1 : decode cX10_isDoor 1 = .ok (.iconst 0, 1) := by decide +kernel
theorem dX10_isDoor_2 : decode cX10_isDoor 2 = .ok (.aload_n 0, 1) := by decide +kernel
theorem dX10_isDoor_3 : decode cX10_isDoor 3 = .ok (.getfield 13, 3) := by decide +kernel
theorem dX10_isDoor_6 : decode cX10_isDoor 6 = .ok (.iconst 1, 1) := by decide +kernel
theorem dX10_isDoor_7 : decode cX10_isDoor 7 = .ok (.iaload, 1) := by decide +kernel
theorem dX10_isDoor_8 : decode cX10_isDoor 8 = .ok (.iconst 1, 1) := by decide +kernel
theorem dX10_isDoor_9 : decode cX10_isDoor 9 = .ok (.isub, 1) := by decide +kernel
theorem dX10_isDoor_10 : decode cX10_isDoor 10 = .ok (.invokestatic 69, 3) := by decide +kernel
theorem dX10_isDoor_13 : decode cX10_isDoor 13 = .ok (.ireturn, 1) := by decide +kernel
abbrev rX10_isDoor : Room := { frames := 1, cells := 0, slots := 0, locals := 22 }
set_option maxHeartbeats 4000000 in
set_option maxRecDepth 100000 in
theorem c_X10_isDoor (l : Launch) (D : va_G) (b : Nat) (cs : Cs3) (x1 : Int32) (S S1 : St) (r : Int32) (h : p_X10_isDoor x1 S = some (r, S1)) : Ct l yX10_isDoor cX10_isDoor 2 (some .boolean) rX10_isDoor D b cs [.ref (b + 99), .int x1] S (some (.int r)) S1 := by
  refine x_met (by decide +kernel) (Nat.le_of_ble_eq_true rfl) ?_
  intro p e s m below meth c ls hC hr hW hS hl
  have hl : lv_has ls 2 [(0, .ref (b + 99)), (1, .int x1)] := hl
  rw [p_X10_isDoor] at h
  refine lv_iload_n hC.1 hC.2.1 dX10_isDoor_0 rfl (lv_at hl 1 rfl) ?_
  refine lv_iconst (v := 0) hC.1 hC.2.1 dX10_isDoor_1 (by decide) ?_
  refine lv_aload_n hC.1 hC.2.1 dX10_isDoor_2 rfl (lv_at hl 0 rfl) ?_
  refine x_get (C := RX10) (T := TX10) (N := 27) (v := _) hC hW 99 (by decide) rfl rfl uX10 10 (by decide) fl_X10_13 rfl rfl dX10_isDoor_3 ?_
  refine lv_iconst (v := 1) hC.1 hC.2.1 dX10_isDoor_6 (by decide) ?_
  obtain ⟨hi, h⟩ := xg h
  refine x_iald hC hW 101 (by decide) rfl hi dX10_isDoor_7 ?_
  refine lv_iconst (v := 1) hC.1 hC.2.1 dX10_isDoor_8 (by decide) ?_
  refine lv_isub hC.1 hC.2.1 dX10_isDoor_9 ?_
  obtain ⟨⟨q10_r, q10_S⟩, hq, h⟩ := xb h
  try dsimp only at h
  refine x_callS (As := [.int x1, .int (0 : Int32), .int ((S.1 101 (1 : Int32).toNatClampNeg) - (1 : Int32))]) (rest := []) hC hW hS (c_X10_in l D b cs _ _ _ _ _ _ hq) mi_X10_in st_X10_in ml_X10_69 ⟨rfl, rfl⟩ ⟨Nat.le_of_ble_eq_true rfl, Nat.le_of_ble_eq_true rfl⟩ ⟨Nat.zero_le _, Nat.zero_le _⟩ rfl rfl hl.1 (Nat.le_of_ble_eq_true rfl) dX10_isDoor_10 (fun H locs hW hS => ?_)
  obtain ⟨hv, h⟩ := xg h
  obtain ⟨rfl, rfl⟩ := xr h
  exact x_zret hC hr hW hS hv dX10_isDoor_13
theorem dX10_isBoy_0 : decode cX10_isBoy 0 = .ok (.iload_n 1, 1) := by decide +kernel
theorem dX10_isBoy_1 : decode cX10_isBoy 1 = .ok (.iconst 0, 1) := by decide +kernel
theorem dX10_isBoy_2 : decode cX10_isBoy 2 = .ok (.aload_n 0, 1) := by decide +kernel
theorem dX10_isBoy_3 : decode cX10_isBoy 3 = .ok (.getfield 13, 3) := by decide +kernel
theorem dX10_isBoy_6 : decode cX10_isBoy 6 = .ok (.iconst 2, 1) := by decide +kernel
theorem dX10_isBoy_7 : decode cX10_isBoy 7 = .ok (.iaload, 1) := by decide +kernel
theorem dX10_isBoy_8 : decode cX10_isBoy 8 = .ok (.iconst 1, 1) := by decide +kernel
theorem dX10_isBoy_9 : decode cX10_isBoy 9 = .ok (.isub, 1) := by decide +kernel
theorem dX10_isBoy_10 : decode cX10_isBoy 10 = .ok (.invokestatic 69, 3) := by decide +kernel
theorem dX10_isBoy_13 : decode cX10_isBoy 13 = .ok (.ireturn, 1) := by decide +kernel
abbrev rX10_isBoy : Room := { frames := 1, cells := 0, slots := 0, locals := 22 }
set_option maxHeartbeats 4000000 in
set_option maxRecDepth 100000 in
theorem c_X10_isBoy (l : Launch) (D : va_G) (b : Nat) (cs : Cs3) (x1 : Int32) (S S1 : St) (r : Int32) (h : p_X10_isBoy x1 S = some (r, S1)) : Ct l yX10_isBoy cX10_isBoy 2 (some .boolean) rX10_isBoy D b cs [.ref (b + 99), .int x1] S (some (.int r)) S1 := by
  refine x_met (by decide +kernel) (Nat.le_of_ble_eq_true rfl) ?_
  intro p e s m below meth c ls hC hr hW hS hl
  have hl : lv_has ls 2 [(0, .ref (b + 99)), (1, .int x1)] := hl
  rw [p_X10_isBoy] at h
  refine lv_iload_n hC.1 hC.2.1 dX10_isBoy_0 rfl (lv_at hl 1 rfl) ?_
  refine lv_iconst (v := 0) hC.1 hC.2.1 dX10_isBoy_1 (by decide) ?_
  refine lv_aload_n hC.1 hC.2.1 dX10_isBoy_2 rfl (lv_at hl 0 rfl) ?_
  refine x_get (C := RX10) (T := TX10) (N := 27) (v := _) hC hW 99 (by decide) rfl rfl uX10 10 (by decide) fl_X10_13 rfl rfl dX10_isBoy_3 ?_
  refine lv_iconst (v := 2) hC.1 hC.2.1 dX10_isBoy_6 (by decide) ?_
  obtain ⟨hi, h⟩ := xg h
  refine x_iald hC hW 101 (by decide) rfl hi dX10_isBoy_7 ?_
  refine lv_iconst (v := 1) hC.1 hC.2.1 dX10_isBoy_8 (by decide) ?_
  refine lv_isub hC.1 hC.2.1 dX10_isBoy_9 ?_
  obtain ⟨⟨q10_r, q10_S⟩, hq, h⟩ := xb h
  try dsimp only at h
  refine x_callS (As := [.int x1, .int (0 : Int32), .int ((S.1 101 (2 : Int32).toNatClampNeg) - (1 : Int32))]) (rest := []) hC hW hS (c_X10_in l D b cs _ _ _ _ _ _ hq) mi_X10_in st_X10_in ml_X10_69 ⟨rfl, rfl⟩ ⟨Nat.le_of_ble_eq_true rfl, Nat.le_of_ble_eq_true rfl⟩ ⟨Nat.zero_le _, Nat.zero_le _⟩ rfl rfl hl.1 (Nat.le_of_ble_eq_true rfl) dX10_isBoy_10 (fun H locs hW hS => ?_)
  obtain ⟨hv, h⟩ := xg h
  obtain ⟨rfl, rfl⟩ := xr h
  exact x_zret hC hr hW hS hv dX10_isBoy_13
theorem dX10_isPlace_0 : decode cX10_isPlace 0 = .ok (.iload_n 1, 1) := by decide +kernel
theorem dX10_isPlace_1 : decode cX10_isPlace 1 = .ok (.iconst 0, 1) := by decide +kernel
theorem dX10_isPlace_2 : decode cX10_isPlace 2 = .ok (.aload_n 0, 1) := by decide +kernel
theorem dX10_isPlace_3 : decode cX10_isPlace 3 = .ok (.getfield 13, 3) := by decide +kernel
theorem dX10_isPlace_6 : decode cX10_isPlace 6 = .ok (.iconst 0, 1) := by decide +kernel
theorem dX10_isPlace_7 : decode cX10_isPlace 7 = .ok (.iaload, 1) := by decide +kernel
theorem dX10_isPlace_8 : decode cX10_isPlace 8 = .ok (.iconst 1, 1) := by decide +kernel
theorem dX10_isPlace_9 : decode cX10_isPlace 9 = .ok (.isub, 1) := by decide +kernel
theorem dX10_isPlace_10 : decode cX10_isPlace 10 = .ok (.invokestatic 69, 3) := by decide +kernel
theorem dX10_isPlace_13 : decode cX10_isPlace 13 = .ok (.ireturn, 1) := by decide +kernel
abbrev rX10_isPlace : Room := { frames := 1, cells := 0, slots := 0, locals := 22 }
set_option maxHeartbeats 4000000 in
set_option maxRecDepth 100000 in
theorem c_X10_isPlace (l : Launch) (D : va_G) (b : Nat) (cs : Cs3) (x1 : Int32) (S S1 : St) (r : Int32) (h : p_X10_isPlace x1 S = some (r, S1)) : Ct l yX10_isPlace cX10_isPlace 2 (some .boolean) rX10_isPlace D b cs [.ref (b + 99), .int x1] S (some (.int r)) S1 := by
  refine x_met (by decide +kernel) (Nat.le_of_ble_eq_true rfl) ?_
  intro p e s m below meth c ls hC hr hW hS hl
  have hl : lv_has ls 2 [(0, .ref (b + 99)), (1, .int x1)] := hl
  rw [p_X10_isPlace] at h
  refine lv_iload_n hC.1 hC.2.1 dX10_isPlace_0 rfl (lv_at hl 1 rfl) ?_
  refine lv_iconst (v := 0) hC.1 hC.2.1 dX10_isPlace_1 (by decide) ?_
  refine lv_aload_n hC.1 hC.2.1 dX10_isPlace_2 rfl (lv_at hl 0 rfl) ?_
  refine x_get (C := RX10) (T := TX10) (N := 27) (v := _) hC hW 99 (by decide) rfl rfl uX10 10 (by decide) fl_X10_13 rfl rfl dX10_isPlace_3 ?_
  refine lv_iconst (v := 0) hC.1 hC.2.1 dX10_isPlace_6 (by decide) ?_
  obtain ⟨hi, h⟩ := xg h
  refine x_iald hC hW 101 (by decide) rfl hi dX10_isPlace_7 ?_
  refine lv_iconst (v := 1) hC.1 hC.2.1 dX10_isPlace_8 (by decide) ?_
  refine lv_isub hC.1 hC.2.1 dX10_isPlace_9 ?_
  obtain ⟨⟨q10_r, q10_S⟩, hq, h⟩ := xb h
  try dsimp only at h
  refine x_callS (As := [.int x1, .int (0 : Int32), .int ((S.1 101 (0 : Int32).toNatClampNeg) - (1 : Int32))]) (rest := []) hC hW hS (c_X10_in l D b cs _ _ _ _ _ _ hq) mi_X10_in st_X10_in ml_X10_69 ⟨rfl, rfl⟩ ⟨Nat.le_of_ble_eq_true rfl, Nat.le_of_ble_eq_true rfl⟩ ⟨Nat.zero_le _, Nat.zero_le _⟩ rfl rfl hl.1 (Nat.le_of_ble_eq_true rfl) dX10_isPlace_10 (fun H locs hW hS => ?_)
  obtain ⟨hv, h⟩ := xg h
  obtain ⟨rfl, rfl⟩ := xr h
  exact x_zret hC hr hW hS hv dX10_isPlace_13
theorem dX10_lowest_0 : decode cX10_lowest 0 = .ok (.iload_n 2, 1) := by decide +kernel
theorem dX10_lowest_1 : decode cX10_lowest 1 = .ok (.aload_n 0, 1) := by decide +kernel
theorem dX10_lowest_2 : decode cX10_lowest 2 = .ok (.getfield 34, 3) := by decide +kernel
theorem dX10_lowest_5 : decode cX10_lowest 5 = .ok (.iload_n 1, 1) := by decide +kernel
theorem dX10_lowest_6 : decode cX10_lowest 6 = .ok (.iaload, 1) := by decide +kernel
theorem dX10_lowest_7 : decode cX10_lowest 7 = .ok (.if_icmp .lt 15, 3) := by decide +kernel
theorem dX10_lowest_10 : decode cX10_lowest 10 = .ok (.aload_n 0, 1) := by decide +kernel
theorem dX10_lowest_11 : decode cX10_lowest 11 = .ok (.getfield 25, 3) := by decide +kernel
theorem dX10_lowest_14 : decode cX10_lowest 14 = .ok (.iload_n 1, 1) := by decide +kernel
theorem dX10_lowest_15 : decode cX10_lowest 15 = .ok (.iaload, 1) := by decide +kernel
theorem dX10_lowest_16 : decode cX10_lowest 16 = .ok (.bipush 12, 2) := by decide +kernel
theorem dX10_lowest_18 : decode cX10_lowest 18 = .ok (.isub, 1) := by decide +kernel
theorem dX10_lowest_19 : decode cX10_lowest 19 = .ok (.goto 9, 3) := by decide +kernel
theorem dX10_lowest_22 : decode cX10_lowest 22 = .ok (.aload_n 0, 1) := by decide +kernel
theorem dX10_lowest_23 : decode cX10_lowest 23 = .ok (.getfield 25, 3) := by decide +kernel
theorem dX10_lowest_26 : decode cX10_lowest 26 = .ok (.iload_n 1, 1) := by decide +kernel
theorem dX10_lowest_27 : decode cX10_lowest 27 = .ok (.iaload, 1) := by decide +kernel
theorem dX10_lowest_28 : decode cX10_lowest 28 = .ok (.ireturn, 1) := by decide +kernel
abbrev rX10_lowest : Room := { frames := 0, cells := 0, slots := 0, locals := 0 }
set_option maxHeartbeats 4000000 in
set_option maxRecDepth 100000 in
theorem c_X10_lowest (l : Launch) (D : va_G) (b : Nat) (cs : Cs3) (x1 : Int32) (x2 : Int32) (S S1 : St) (r : Int32) (h : p_X10_lowest x1 x2 S = some (r, S1)) : Ct l yX10_lowest cX10_lowest 3 (some .int) rX10_lowest D b cs [.ref (b + 99), .int x1, .int x2] S (some (.int r)) S1 := by
  refine x_met (by decide +kernel) (Nat.le_of_ble_eq_true rfl) ?_
  intro p e s m below meth c ls hC hr hW hS hl
  have hl : lv_has ls 3 [(0, .ref (b + 99)), (1, .int x1), (2, .int x2)] := hl
  rw [p_X10_lowest] at h
  refine lv_iload_n hC.1 hC.2.1 dX10_lowest_0 rfl (lv_at hl 2 rfl) ?_
  refine lv_aload_n hC.1 hC.2.1 dX10_lowest_1 rfl (lv_at hl 0 rfl) ?_
  refine x_get (C := RX10) (T := TX10) (N := 27) (v := _) hC hW 99 (by decide) rfl rfl uX10 17 (by decide) fl_X10_34 rfl rfl dX10_lowest_2 ?_
  refine lv_iload_n hC.1 hC.2.1 dX10_lowest_5 rfl (lv_at hl 1 rfl) ?_
  obtain ⟨hi, h⟩ := xg h
  refine x_iald hC hW 108 (by decide) rfl hi dX10_lowest_6 ?_
  refine lv_icmp_lt (tgt := 22) hC.1 hC.2.1 dX10_lowest_7 (by decide) (fun hc => ?_) (fun hc => ?_)
  · replace h := xt hc h
    refine lv_aload_n hC.1 hC.2.1 dX10_lowest_22 rfl (lv_at hl 0 rfl) ?_
    refine x_get (C := RX10) (T := TX10) (N := 27) (v := _) hC hW 99 (by decide) rfl rfl uX10 14 (by decide) fl_X10_25 rfl rfl dX10_lowest_23 ?_
    refine lv_iload_n hC.1 hC.2.1 dX10_lowest_26 rfl (lv_at hl 1 rfl) ?_
    obtain ⟨hi, h⟩ := xg h
    refine x_iald hC hW 105 (by decide) rfl hi dX10_lowest_27 ?_
    obtain ⟨rfl, rfl⟩ := xr h
    exact x_iret hC hr hW hS dX10_lowest_28
  · replace h := xf hc h
    refine lv_aload_n hC.1 hC.2.1 dX10_lowest_10 rfl (lv_at hl 0 rfl) ?_
    refine x_get (C := RX10) (T := TX10) (N := 27) (v := _) hC hW 99 (by decide) rfl rfl uX10 14 (by decide) fl_X10_25 rfl rfl dX10_lowest_11 ?_
    refine lv_iload_n hC.1 hC.2.1 dX10_lowest_14 rfl (lv_at hl 1 rfl) ?_
    obtain ⟨hi, h⟩ := xg h
    refine x_iald hC hW 105 (by decide) rfl hi dX10_lowest_15 ?_
    refine lv_bipush (v := 12) hC.1 hC.2.1 dX10_lowest_16 (by decide) ?_
    refine lv_isub hC.1 hC.2.1 dX10_lowest_18 ?_
    refine lv_goto (tgt := 28) hC.1 hC.2.1 dX10_lowest_19 (by decide) ?_
    obtain ⟨rfl, rfl⟩ := xr h
    exact x_iret hC hr hW hS dX10_lowest_28
theorem dX10_highest_0 : decode cX10_highest 0 = .ok (.iload_n 2, 1) := by decide +kernel
theorem dX10_highest_1 : decode cX10_highest 1 = .ok (.aload_n 0, 1) := by decide +kernel
theorem dX10_highest_2 : decode cX10_highest 2 = .ok (.getfield 34, 3) := by decide +kernel
theorem dX10_highest_5 : decode cX10_highest 5 = .ok (.iload_n 1, 1) := by decide +kernel
theorem dX10_highest_6 : decode cX10_highest 6 = .ok (.iaload, 1) := by decide +kernel
theorem dX10_highest_7 : decode cX10_highest 7 = .ok (.if_icmp .lt 15, 3) := by decide +kernel
theorem dX10_highest_10 : decode cX10_highest 10 = .ok (.aload_n 0, 1) := by decide +kernel
theorem dX10_highest_11 : decode cX10_highest 11 = .ok (.getfield 28, 3) := by decide +kernel
theorem dX10_highest_14 : decode cX10_highest 14 = .ok (.iload_n 1, 1) := by decide +kernel
theorem dX10_highest_15 : decode cX10_highest 15 = .ok (.iaload, 1) := by decide +kernel
theorem dX10_highest_16 : decode cX10_highest 16 = .ok (.bipush 12, 2) := by decide +kernel
theorem dX10_highest_18 : decode cX10_highest 18 = .ok (.isub, 1) := by decide +kernel
theorem dX10_highest_19 : decode cX10_highest 19 = .ok (.goto 9, 3) := by decide +kernel
theorem dX10_highest_22 : decode cX10_highest 22 = .ok (.aload_n 0, 1) := by decide +kernel
theorem dX10_highest_23 : decode cX10_highest 23 = .ok (.getfield 28, 3) := by decide +kernel
theorem dX10_highest_26 : decode cX10_highest 26 = .ok (.iload_n 1, 1) := by decide +kernel
theorem dX10_highest_27 : decode cX10_highest 27 = .ok (.iaload, 1) := by decide +kernel
theorem dX10_highest_28 : decode cX10_highest 28 = .ok (.iload_n 3, 1) := by decide +kernel
theorem dX10_highest_29 : decode cX10_highest 29 = .ok (.isub, 1) := by decide +kernel
theorem dX10_highest_30 : decode cX10_highest 30 = .ok (.ireturn, 1) := by decide +kernel
abbrev rX10_highest : Room := { frames := 0, cells := 0, slots := 0, locals := 0 }
set_option maxHeartbeats 4000000 in
set_option maxRecDepth 100000 in
theorem c_X10_highest (l : Launch) (D : va_G) (b : Nat) (cs : Cs3) (x1 : Int32) (x2 : Int32) (x3 : Int32) (S S1 : St) (r : Int32) (h : p_X10_highest x1 x2 x3 S = some (r, S1)) : Ct l yX10_highest cX10_highest 4 (some .int) rX10_highest D b cs [.ref (b + 99), .int x1, .int x2, .int x3] S (some (.int r)) S1 := by
  refine x_met (by decide +kernel) (Nat.le_of_ble_eq_true rfl) ?_
  intro p e s m below meth c ls hC hr hW hS hl
  have hl : lv_has ls 4 [(0, .ref (b + 99)), (1, .int x1), (2, .int x2), (3, .int x3)] := hl
  rw [p_X10_highest] at h
  refine lv_iload_n hC.1 hC.2.1 dX10_highest_0 rfl (lv_at hl 2 rfl) ?_
  refine lv_aload_n hC.1 hC.2.1 dX10_highest_1 rfl (lv_at hl 0 rfl) ?_
  refine x_get (C := RX10) (T := TX10) (N := 27) (v := _) hC hW 99 (by decide) rfl rfl uX10 17 (by decide) fl_X10_34 rfl rfl dX10_highest_2 ?_
  refine lv_iload_n hC.1 hC.2.1 dX10_highest_5 rfl (lv_at hl 1 rfl) ?_
  obtain ⟨hi, h⟩ := xg h
  refine x_iald hC hW 108 (by decide) rfl hi dX10_highest_6 ?_
  refine lv_icmp_lt (tgt := 22) hC.1 hC.2.1 dX10_highest_7 (by decide) (fun hc => ?_) (fun hc => ?_)
  · replace h := xt hc h
    refine lv_aload_n hC.1 hC.2.1 dX10_highest_22 rfl (lv_at hl 0 rfl) ?_
    refine x_get (C := RX10) (T := TX10) (N := 27) (v := _) hC hW 99 (by decide) rfl rfl uX10 15 (by decide) fl_X10_28 rfl rfl dX10_highest_23 ?_
    refine lv_iload_n hC.1 hC.2.1 dX10_highest_26 rfl (lv_at hl 1 rfl) ?_
    obtain ⟨hi, h⟩ := xg h
    refine x_iald hC hW 106 (by decide) rfl hi dX10_highest_27 ?_
    refine lv_iload_n hC.1 hC.2.1 dX10_highest_28 rfl (lv_at hl 3 rfl) ?_
    refine lv_isub hC.1 hC.2.1 dX10_highest_29 ?_
    obtain ⟨rfl, rfl⟩ := xr h
    exact x_iret hC hr hW hS dX10_highest_30
  · replace h := xf hc h
    refine lv_aload_n hC.1 hC.2.1 dX10_highest_10 rfl (lv_at hl 0 rfl) ?_
    refine x_get (C := RX10) (T := TX10) (N := 27) (v := _) hC hW 99 (by decide) rfl rfl uX10 15 (by decide) fl_X10_28 rfl rfl dX10_highest_11 ?_
    refine lv_iload_n hC.1 hC.2.1 dX10_highest_14 rfl (lv_at hl 1 rfl) ?_
    obtain ⟨hi, h⟩ := xg h
    refine x_iald hC hW 106 (by decide) rfl hi dX10_highest_15 ?_
    refine lv_bipush (v := 12) hC.1 hC.2.1 dX10_highest_16 (by decide) ?_
    refine lv_isub hC.1 hC.2.1 dX10_highest_18 ?_
    refine lv_goto (tgt := 28) hC.1 hC.2.1 dX10_highest_19 (by decide) ?_
    refine lv_iload_n hC.1 hC.2.1 dX10_highest_28 rfl (lv_at hl 3 rfl) ?_
    refine lv_isub hC.1 hC.2.1 dX10_highest_29 ?_
    obtain ⟨rfl, rfl⟩ := xr h
    exact x_iret hC hr hW hS dX10_highest_30
theorem dX10_sings_0 : decode cX10_sings 0 = .ok (.iload_n 2, 1) := by decide +kernel
theorem dX10_sings_1 : decode cX10_sings 1 = .ok (.aload_n 0, 1) := by decide +kernel
theorem dX10_sings_2 : decode cX10_sings 2 = .ok (.iload_n 1, 1) := by decide +kernel
theorem dX10_sings_3 : decode cX10_sings 3 = .ok (.aload_n 0, 1) := by decide +kernel
theorem dX10_sings_4 : decode cX10_sings 4 = .ok (.getfield 40, 3) := by decide +kernel
theorem dX10_sings_7 : decode cX10_sings 7 = .ok (.iconst 5, 1) := by decide +kernel
theorem dX10_sings_8 : decode cX10_sings 8 = .ok (.iload_n 1, 1) := by decide +kernel
theorem dX10_sings_9 : decode cX10_sings 9 = .ok (.iadd, 1) := by decide +kernel
theorem dX10_sings_10 : decode cX10_sings 10 = .ok (.iaload, 1) := by decide +kernel
theorem dX10_sings_11 : decode cX10_sings 11 = .ok (.invokevirtual 131, 3) := by decide +kernel
theorem dX10_sings_14 : decode cX10_sings 14 = .ok (.aload_n 0, 1) := by decide +kernel
theorem dX10_sings_15 : decode cX10_sings 15 = .ok (.iload_n 1, 1) := by decide +kernel
theorem dX10_sings_16 : decode cX10_sings 16 = .ok (.aload_n 0, 1) := by decide +kernel
theorem dX10_sings_17 : decode cX10_sings 17 = .ok (.getfield 40, 3) := by decide +kernel
theorem dX10_sings_20 : decode cX10_sings 20 = .ok (.iconst 5, 1) := by decide +kernel
theorem dX10_sings_21 : decode cX10_sings 21 = .ok (.iload_n 1, 1) := by decide +kernel
theorem dX10_sings_22 : decode cX10_sings 22 = .ok (.iadd, 1) := by decide +kernel
theorem dX10_sings_23 : decode cX10_sings 23 = .ok (.iaload, 1) := by decide +kernel
theorem dX10_sings_24 : decode cX10_sings 24 = .ok (.aload_n 0, 1) := by decide +kernel
theorem dX10_sings_25 : decode cX10_sings 25 = .ok (.getfield 40, 3) := by decide +kernel
theorem dX10_sings_28 : decode cX10_sings 28 = .ok (.bipush 10, 2) := by decide +kernel
theorem dX10_sings_30 : decode cX10_sings 30 = .ok (.iload_n 1, 1) := by decide +kernel
theorem dX10_sings_31 : decode cX10_sings 31 = .ok (.iadd, 1) := by decide +kernel
theorem dX10_sings_32 : decode cX10_sings 32 = .ok (.iaload, 1) := by decide +kernel
theorem dX10_sings_33 : decode cX10_sings 33 = .ok (.invokevirtual 134, 3) := by decide +kernel
theorem dX10_sings_36 : decode cX10_sings 36 = .ok (.invokestatic 69, 3) := by decide +kernel
theorem dX10_sings_39 : decode cX10_sings 39 = .ok (.ireturn, 1) := by decide +kernel
abbrev rX10_sings : Room := { frames := 1, cells := 0, slots := 0, locals := 23 }
set_option maxHeartbeats 4000000 in
set_option maxRecDepth 100000 in
theorem c_X10_sings (l : Launch) (D : va_G) (b : Nat) (cs : Cs3) (x1 : Int32) (x2 : Int32) (S S1 : St) (r : Int32) (h : p_X10_sings x1 x2 S = some (r, S1)) : Ct l yX10_sings cX10_sings 3 (some .boolean) rX10_sings D b cs [.ref (b + 99), .int x1, .int x2] S (some (.int r)) S1 := by
  refine x_met (by decide +kernel) (Nat.le_of_ble_eq_true rfl) ?_
  intro p e s m below meth c ls hC hr hW hS hl
  have hl : lv_has ls 3 [(0, .ref (b + 99)), (1, .int x1), (2, .int x2)] := hl
  rw [p_X10_sings] at h
  refine lv_iload_n hC.1 hC.2.1 dX10_sings_0 rfl (lv_at hl 2 rfl) ?_
  refine lv_aload_n hC.1 hC.2.1 dX10_sings_1 rfl (lv_at hl 0 rfl) ?_
  refine lv_iload_n hC.1 hC.2.1 dX10_sings_2 rfl (lv_at hl 1 rfl) ?_
  refine lv_aload_n hC.1 hC.2.1 dX10_sings_3 rfl (lv_at hl 0 rfl) ?_
  refine x_get (C := RX10) (T := TX10) (N := 27) (v := _) hC hW 99 (by decide) rfl rfl uX10 19 (by decide) fl_X10_40 rfl rfl dX10_sings_4 ?_
  refine lv_iconst (v := 5) hC.1 hC.2.1 dX10_sings_7 (by decide) ?_
  refine lv_iload_n hC.1 hC.2.1 dX10_sings_8 rfl (lv_at hl 1 rfl) ?_
  refine lv_iadd hC.1 hC.2.1 dX10_sings_9 ?_
  obtain ⟨hi, h⟩ := xg h
  refine x_iald hC hW 110 (by decide) rfl hi dX10_sings_10 ?_
  obtain ⟨⟨q11_r, q11_S⟩, hq, h⟩ := xb h
  try dsimp only at h
  refine x_callV (T := TX10) (N := 27) (As := [.int x1, .int (S.1 110 ((5 : Int32) + x1).toNatClampNeg)]) (rest := [.int x2]) hC hW hS 99 (c_X10_lowest l D b cs _ _ _ _ _ hq) (by decide) rfl rfl mi_X10_lowest in_X10_lowest sl_X10_lowest ml_X10_131 ⟨rfl, rfl⟩ ⟨Nat.le_of_ble_eq_true rfl, Nat.le_of_ble_eq_true rfl⟩ ⟨Nat.zero_le _, Nat.zero_le _⟩ rfl rfl hl.1 (Nat.le_of_ble_eq_true rfl) dX10_sings_11 (fun H locs hW hS => ?_)
  refine lv_aload_n hC.1 hC.2.1 dX10_sings_14 rfl (lv_at hl 0 rfl) ?_
  refine lv_iload_n hC.1 hC.2.1 dX10_sings_15 rfl (lv_at hl 1 rfl) ?_
  refine lv_aload_n hC.1 hC.2.1 dX10_sings_16 rfl (lv_at hl 0 rfl) ?_
  refine x_get (C := RX10) (T := TX10) (N := 27) (v := _) hC hW 99 (by decide) rfl rfl uX10 19 (by decide) fl_X10_40 rfl rfl dX10_sings_17 ?_
  refine lv_iconst (v := 5) hC.1 hC.2.1 dX10_sings_20 (by decide) ?_
  refine lv_iload_n hC.1 hC.2.1 dX10_sings_21 rfl (lv_at hl 1 rfl) ?_
  refine lv_iadd hC.1 hC.2.1 dX10_sings_22 ?_
  obtain ⟨hi, h⟩ := xg h
  refine x_iald hC hW 110 (by decide) rfl hi dX10_sings_23 ?_
  refine lv_aload_n hC.1 hC.2.1 dX10_sings_24 rfl (lv_at hl 0 rfl) ?_
  refine x_get (C := RX10) (T := TX10) (N := 27) (v := _) hC hW 99 (by decide) rfl rfl uX10 19 (by decide) fl_X10_40 rfl rfl dX10_sings_25 ?_
  refine lv_bipush (v := 10) hC.1 hC.2.1 dX10_sings_28 (by decide) ?_
  refine lv_iload_n hC.1 hC.2.1 dX10_sings_30 rfl (lv_at hl 1 rfl) ?_
  refine lv_iadd hC.1 hC.2.1 dX10_sings_31 ?_
  obtain ⟨hi, h⟩ := xg h
  refine x_iald hC hW 110 (by decide) rfl hi dX10_sings_32 ?_
  obtain ⟨⟨q33_r, q33_S⟩, hq, h⟩ := xb h
  try dsimp only at h
  refine x_callV (T := TX10) (N := 27) (As := [.int x1, .int (q11_S.1 110 ((5 : Int32) + x1).toNatClampNeg), .int (q11_S.1 110 ((10 : Int32) + x1).toNatClampNeg)]) (rest := [.int q11_r, .int x2]) hC hW hS 99 (c_X10_highest l D b cs _ _ _ _ _ _ hq) (by decide) rfl rfl mi_X10_highest in_X10_highest sl_X10_highest ml_X10_134 ⟨rfl, rfl⟩ ⟨Nat.le_of_ble_eq_true rfl, Nat.le_of_ble_eq_true rfl⟩ ⟨Nat.zero_le _, Nat.zero_le _⟩ rfl rfl hl.1 (Nat.le_of_ble_eq_true rfl) dX10_sings_33 (fun H locs hW hS => ?_)
  obtain ⟨⟨q36_r, q36_S⟩, hq, h⟩ := xb h
  try dsimp only at h
  refine x_callS (As := [.int x2, .int q11_r, .int q33_r]) (rest := []) hC hW hS (c_X10_in l D b cs _ _ _ _ _ _ hq) mi_X10_in st_X10_in ml_X10_69 ⟨rfl, rfl⟩ ⟨Nat.le_of_ble_eq_true rfl, Nat.le_of_ble_eq_true rfl⟩ ⟨Nat.zero_le _, Nat.zero_le _⟩ rfl rfl hl.1 (Nat.le_of_ble_eq_true rfl) dX10_sings_36 (fun H locs hW hS => ?_)
  obtain ⟨hv, h⟩ := xg h
  obtain ⟨rfl, rfl⟩ := xr h
  exact x_zret hC hr hW hS hv dX10_sings_39
