-- walks: X10_rate X10_keep X10_back X10_count X10_trace
theorem dX10_rate_0 : decode cX10_rate 0 = .ok (.aload_n 0, 1) := by decide +kernel
theorem dX10_rate_1 : decode cX10_rate 1 = .ok (.iconst 0, 1) := by decide +kernel
theorem dX10_rate_2 : decode cX10_rate 2 = .ok (.putfield 65, 3) := by decide +kernel
theorem dX10_rate_5 : decode cX10_rate 5 = .ok (.iload_n 1, 1) := by decide +kernel
theorem dX10_rate_6 : decode cX10_rate 6 = .ok (.iconst 0, 1) := by decide +kernel
theorem dX10_rate_7 : decode cX10_rate 7 = .ok (.iconst 5, 1) := by decide +kernel
theorem dX10_rate_8 : decode cX10_rate 8 = .ok (.invokestatic 69, 3) := by decide +kernel
theorem dX10_rate_11 : decode cX10_rate 11 = .ok (.ifCond .eq 11, 3) := by decide +kernel
theorem dX10_rate_14 : decode cX10_rate 14 = .ok (.aload_n 0, 1) := by decide +kernel
theorem dX10_rate_15 : decode cX10_rate 15 = .ok (.iload_n 2, 1) := by decide +kernel
theorem dX10_rate_16 : decode cX10_rate 16 = .ok (.invokevirtual 160, 3) := by decide +kernel
theorem dX10_rate_19 : decode cX10_rate 19 = .ok (.ifCond .ne 6, 3) := by decide +kernel
theorem dX10_rate_22 : decode cX10_rate 22 = .ok (.ldc 163, 2) := by decide +kernel
theorem dX10_rate_24 : decode cX10_rate 24 = .ok (.ireturn, 1) := by decide +kernel
theorem dX10_rate_25 : decode cX10_rate 25 = .ok (.aload_n 0, 1) := by decide +kernel
theorem dX10_rate_26 : decode cX10_rate 26 = .ok (.getfield 40, 3) := by decide +kernel
theorem dX10_rate_29 : decode cX10_rate 29 = .ok (.iconst 5, 1) := by decide +kernel
theorem dX10_rate_30 : decode cX10_rate 30 = .ok (.iload_n 2, 1) := by decide +kernel
theorem dX10_rate_31 : decode cX10_rate 31 = .ok (.iadd, 1) := by decide +kernel
theorem dX10_rate_32 : decode cX10_rate 32 = .ok (.iaload, 1) := by decide +kernel
theorem dX10_rate_33 : decode cX10_rate 33 = .ok (.istore_n 3, 1) := by decide +kernel
theorem dX10_rate_34 : decode cX10_rate 34 = .ok (.iload_n 3, 1) := by decide +kernel
theorem dX10_rate_35 : decode cX10_rate 35 = .ok (.aload_n 0, 1) := by decide +kernel
theorem dX10_rate_36 : decode cX10_rate 36 = .ok (.iload_n 2, 1) := by decide +kernel
theorem dX10_rate_37 : decode cX10_rate 37 = .ok (.iload_n 3, 1) := by decide +kernel
theorem dX10_rate_38 : decode cX10_rate 38 = .ok (.aload_n 0, 1) := by decide +kernel
theorem dX10_rate_39 : decode cX10_rate 39 = .ok (.getfield 40, 3) := by decide +kernel
theorem dX10_rate_42 : decode cX10_rate 42 = .ok (.bipush 10, 2) := by decide +kernel
theorem dX10_rate_44 : decode cX10_rate 44 = .ok (.iload_n 2, 1) := by decide +kernel
theorem dX10_rate_45 : decode cX10_rate 45 = .ok (.iadd, 1) := by decide +kernel
theorem dX10_rate_46 : decode cX10_rate 46 = .ok (.iaload, 1) := by decide +kernel
theorem dX10_rate_47 : decode cX10_rate 47 = .ok (.invokevirtual 134, 3) := by decide +kernel
theorem dX10_rate_50 : decode cX10_rate 50 = .ok (.iadd, 1) := by decide +kernel
theorem dX10_rate_51 : decode cX10_rate 51 = .ok (.istore 4, 2) := by decide +kernel
theorem dX10_rate_53 : decode cX10_rate 53 = .ok (.iload_n 3, 1) := by decide +kernel
theorem dX10_rate_54 : decode cX10_rate 54 = .ok (.aload_n 0, 1) := by decide +kernel
theorem dX10_rate_55 : decode cX10_rate 55 = .ok (.iload_n 2, 1) := by decide +kernel
theorem dX10_rate_56 : decode cX10_rate 56 = .ok (.invokevirtual 145, 3) := by decide +kernel
theorem dX10_rate_59 : decode cX10_rate 59 = .ok (.invokestatic 167, 3) := by decide +kernel
theorem dX10_rate_62 : decode cX10_rate 62 = .ok (.isub, 1) := by decide +kernel
theorem dX10_rate_63 : decode cX10_rate 63 = .ok (.istore 5, 2) := by decide +kernel
theorem dX10_rate_65 : decode cX10_rate 65 = .ok (.aload_n 0, 1) := by decide +kernel
theorem dX10_rate_66 : decode cX10_rate 66 = .ok (.dup, 1) := by decide +kernel
theorem dX10_rate_67 : decode cX10_rate 67 = .ok (.getfield 204, 3) := by decide +kernel
theorem dX10_rate_70 : decode cX10_rate 70 = .ok (.iload_n 1, 1) := by decide +kernel
theorem dX10_rate_71 : decode cX10_rate 71 = .ok (.ifCond .ne 7, 3) := by decide +kernel
theorem dX10_rate_74 : decode cX10_rate 74 = .ok (.lconst 1, 1) := by decide +kernel
theorem dX10_rate_75 : decode cX10_rate 75 = .ok (.goto 50, 3) := by decide +kernel
theorem dX10_rate_78 : decode cX10_rate 78 = .ok (.iload_n 1, 1) := by decide +kernel
theorem dX10_rate_79 : decode cX10_rate 79 = .ok (.iconst 1, 1) := by decide +kernel
theorem dX10_rate_80 : decode cX10_rate 80 = .ok (.if_icmp .ne 9, 3) := by decide +kernel
theorem dX10_rate_83 : decode cX10_rate 83 = .ok (.ldc2_w 208, 3) := by decide +kernel
theorem dX10_rate_86 : decode cX10_rate 86 = .ok (.goto 39, 3) := by decide +kernel
theorem dX10_rate_89 : decode cX10_rate 89 = .ok (.iload_n 1, 1) := by decide +kernel
theorem dX10_rate_90 : decode cX10_rate 90 = .ok (.iconst 2, 1) := by decide +kernel
theorem dX10_rate_91 : decode cX10_rate 91 = .ok (.if_icmp .ne 9, 3) := by decide +kernel
theorem dX10_rate_94 : decode cX10_rate 94 = .ok (.ldc2_w 210, 3) := by decide +kernel
theorem dX10_rate_97 : decode cX10_rate 97 = .ok (.goto 28, 3) := by decide +kernel
theorem dX10_rate_100 : decode cX10_rate 100 = .ok (.iload_n 1, 1) := by decide +kernel
theorem dX10_rate_101 : decode cX10_rate 101 = .ok (.iconst 3, 1) := by decide +kernel
theorem dX10_rate_102 : decode cX10_rate 102 = .ok (.if_icmp .ne 9, 3) := by decide +kernel
theorem dX10_rate_105 : decode cX10_rate 105 = .ok (.ldc2_w 212, 3) := by decide +kernel
theorem dX10_rate_108 : decode cX10_rate 108 = .ok (.goto 17, 3) := by decide +kernel
theorem dX10_rate_111 : decode cX10_rate 111 = .ok (.iload_n 1, 1) := by decide +kernel
theorem dX10_rate_112 : decode cX10_rate 112 = .ok (.iconst 4, 1) := by decide +kernel
theorem dX10_rate_113 : decode cX10_rate 113 = .ok (.if_icmp .ne 9, 3) := by decide +kernel
theorem dX10_rate_116 : decode cX10_rate 116 = .ok (.ldc2_w 214, 3) := by decide +kernel
theorem dX10_rate_119 : decode cX10_rate 119 = .ok (.goto 6, 3) := by decide +kernel
theorem dX10_rate_122 : decode cX10_rate 122 = .ok (.ldc2_w 216, 3) := by decide +kernel
theorem dX10_rate_125 : decode cX10_rate 125 = .ok (.ladd, 1) := by decide +kernel
theorem dX10_rate_126 : decode cX10_rate 126 = .ok (.putfield 204, 3) := by decide +kernel
theorem dX10_rate_129 : decode cX10_rate 129 = .ok (.iload_n 1, 1) := by decide +kernel
theorem dX10_rate_130 : decode cX10_rate 130 = .ok (.ifCond .ne 7, 3) := by decide +kernel
theorem dX10_rate_133 : decode cX10_rate 133 = .ok (.iload_n 3, 1) := by decide +kernel
theorem dX10_rate_134 : decode cX10_rate 134 = .ok (.goto 57, 3) := by decide +kernel
theorem dX10_rate_137 : decode cX10_rate 137 = .ok (.iload_n 1, 1) := by decide +kernel
theorem dX10_rate_138 : decode cX10_rate 138 = .ok (.iconst 1, 1) := by decide +kernel
theorem dX10_rate_139 : decode cX10_rate 139 = .ok (.if_icmp .ne 8, 3) := by decide +kernel
theorem dX10_rate_142 : decode cX10_rate 142 = .ok (.iload 4, 2) := by decide +kernel
theorem dX10_rate_144 : decode cX10_rate 144 = .ok (.goto 47, 3) := by decide +kernel
theorem dX10_rate_147 : decode cX10_rate 147 = .ok (.iload_n 1, 1) := by decide +kernel
theorem dX10_rate_148 : decode cX10_rate 148 = .ok (.iconst 2, 1) := by decide +kernel
theorem dX10_rate_149 : decode cX10_rate 149 = .ok (.if_icmp .ne 8, 3) := by decide +kernel
theorem dX10_rate_152 : decode cX10_rate 152 = .ok (.iload 5, 2) := by decide +kernel
theorem dX10_rate_154 : decode cX10_rate 154 = .ok (.goto 37, 3) := by decide +kernel
theorem dX10_rate_157 : decode cX10_rate 157 = .ok (.iload_n 1, 1) := by decide +kernel
theorem dX10_rate_158 : decode cX10_rate 158 = .ok (.iconst 3, 1) := by decide +kernel
theorem dX10_rate_159 : decode cX10_rate 159 = .ok (.if_icmp .ne 10, 3) := by decide +kernel
theorem dX10_rate_162 : decode cX10_rate 162 = .ok (.iconst 2, 1) := by decide +kernel
theorem dX10_rate_163 : decode cX10_rate 163 = .ok (.iload 4, 2) := by decide +kernel
theorem dX10_rate_165 : decode cX10_rate 165 = .ok (.imul, 1) := by decide +kernel
theorem dX10_rate_166 : decode cX10_rate 166 = .ok (.goto 25, 3) := by decide +kernel
theorem dX10_rate_169 : decode cX10_rate 169 = .ok (.iload_n 1, 1) := by decide +kernel
theorem dX10_rate_170 : decode cX10_rate 170 = .ok (.iconst 4, 1) := by decide +kernel
theorem dX10_rate_171 : decode cX10_rate 171 = .ok (.if_icmp .ne 10, 3) := by decide +kernel
theorem dX10_rate_174 : decode cX10_rate 174 = .ok (.iload 5, 2) := by decide +kernel
theorem dX10_rate_176 : decode cX10_rate 176 = .ok (.iload_n 2, 1) := by decide +kernel
theorem dX10_rate_177 : decode cX10_rate 177 = .ok (.iadd, 1) := by decide +kernel
theorem dX10_rate_178 : decode cX10_rate 178 = .ok (.goto 13, 3) := by decide +kernel
theorem dX10_rate_181 : decode cX10_rate 181 = .ok (.iload_n 3, 1) := by decide +kernel
theorem dX10_rate_182 : decode cX10_rate 182 = .ok (.aload_n 0, 1) := by decide +kernel
theorem dX10_rate_183 : decode cX10_rate 183 = .ok (.getfield 40, 3) := by decide +kernel
theorem dX10_rate_186 : decode cX10_rate 186 = .ok (.iconst 0, 1) := by decide +kernel
theorem dX10_rate_187 : decode cX10_rate 187 = .ok (.iload_n 2, 1) := by decide +kernel
theorem dX10_rate_188 : decode cX10_rate 188 = .ok (.iadd, 1) := by decide +kernel
theorem dX10_rate_189 : decode cX10_rate 189 = .ok (.iaload, 1) := by decide +kernel
theorem dX10_rate_190 : decode cX10_rate 190 = .ok (.iadd, 1) := by decide +kernel
theorem dX10_rate_191 : decode cX10_rate 191 = .ok (.ireturn, 1) := by decide +kernel
abbrev rX10_rate : Room := { frames := 3, cells := 0, slots := 0, locals := 71 }
set_option maxHeartbeats 4000000 in
set_option maxRecDepth 100000 in
theorem w_X10_rate_125 {p : Program} {l : Launch} {e : Env} {s : State} {m : MethodId} {args : Array Value} {below : List Frame} {meth : Method} {c : Code} {D : va_G} {b : Nat} {cs : Cs3} {r : Int32} {S1 : St} (hC : CX p s m args meth c RX10 cX10_rate 6 D cs) (hr : meth.sig.returnType = (some .int)) : ∀ (x1 : Int32) (x2 : Int32) (x3 : Int32) (x4 : Int32) (x5 : Int32) (y0 : Int64) (y1 : Int64) (S : St) (H : Heap) (locs : List Loc) (ls : Array Slot), q_X10_rate_125 x1 x2 x3 x4 x5 y0 y1 S = some (r, S1) → Wd D b cs S H → va_S (AA b) s.heap H locs → lv_has ls 6 [(0, .ref (b + 99)), (1, .int x1), (2, .int x2), (3, .int x3), (4, .int x4), (5, .int x5)] → W p l e rX10_rate s m args below meth c H locs 0 0 (MQ below (QX D b cs (some (.int r)) S1) args s 0 0 (AA b)) (F0 m 125 ls [.long y0, .long y1, .ref (b + 99)]) := by
  intro x1 x2 x3 x4 x5 y0 y1 S H locs ls h hW hS hl
  rw [q_X10_rate_125] at h
  refine lv_ladd hC.1 hC.2.1 dX10_rate_125 ?_
  refine x_putl (C := RX10) (T := TX10) (N := 27) hC hW hS 99 (by decide) rfl rfl uX10 tyX10 tyX10_ok nmX10 1 (by decide) fl_X10_204 rfl (by decide +kernel) rfl sl1_99 dX10_rate_126 (fun H locs hW hS => ?_)
  refine lv_iload_n hC.1 hC.2.1 dX10_rate_129 rfl (lv_at hl 1 rfl) ?_
  refine lv_if_ne (tgt := 137) hC.1 hC.2.1 dX10_rate_130 (by decide) (fun hc => ?_) (fun hc => ?_)
  · replace h := xf hc h
    refine lv_iload_n hC.1 hC.2.1 dX10_rate_137 rfl (lv_at hl 1 rfl) ?_
    refine lv_iconst (v := 1) hC.1 hC.2.1 dX10_rate_138 (by decide) ?_
    refine lv_icmp_ne (tgt := 147) hC.1 hC.2.1 dX10_rate_139 (by decide) (fun hc => ?_) (fun hc => ?_)
    · replace h := xf hc h
      refine lv_iload_n hC.1 hC.2.1 dX10_rate_147 rfl (lv_at hl 1 rfl) ?_
      refine lv_iconst (v := 2) hC.1 hC.2.1 dX10_rate_148 (by decide) ?_
      refine lv_icmp_ne (tgt := 157) hC.1 hC.2.1 dX10_rate_149 (by decide) (fun hc => ?_) (fun hc => ?_)
      · replace h := xf hc h
        refine lv_iload_n hC.1 hC.2.1 dX10_rate_157 rfl (lv_at hl 1 rfl) ?_
        refine lv_iconst (v := 3) hC.1 hC.2.1 dX10_rate_158 (by decide) ?_
        refine lv_icmp_ne (tgt := 169) hC.1 hC.2.1 dX10_rate_159 (by decide) (fun hc => ?_) (fun hc => ?_)
        · replace h := xf hc h
          refine lv_iload_n hC.1 hC.2.1 dX10_rate_169 rfl (lv_at hl 1 rfl) ?_
          refine lv_iconst (v := 4) hC.1 hC.2.1 dX10_rate_170 (by decide) ?_
          refine lv_icmp_ne (tgt := 181) hC.1 hC.2.1 dX10_rate_171 (by decide) (fun hc => ?_) (fun hc => ?_)
          · replace h := xf hc h
            refine lv_iload_n hC.1 hC.2.1 dX10_rate_181 rfl (lv_at hl 3 rfl) ?_
            refine lv_aload_n hC.1 hC.2.1 dX10_rate_182 rfl (lv_at hl 0 rfl) ?_
            refine x_get (C := RX10) (T := TX10) (N := 27) (v := _) hC hW 99 (by decide) rfl rfl uX10 19 (by decide) fl_X10_40 rfl rfl dX10_rate_183 ?_
            refine lv_iconst (v := 0) hC.1 hC.2.1 dX10_rate_186 (by decide) ?_
            refine lv_iload_n hC.1 hC.2.1 dX10_rate_187 rfl (lv_at hl 2 rfl) ?_
            refine lv_iadd hC.1 hC.2.1 dX10_rate_188 ?_
            obtain ⟨hi, h⟩ := xg h
            refine x_iald hC hW 110 (by decide) rfl hi dX10_rate_189 ?_
            refine lv_iadd hC.1 hC.2.1 dX10_rate_190 ?_
            obtain ⟨rfl, rfl⟩ := xr h
            exact x_iret hC hr hW hS dX10_rate_191
          · replace h := xt hc h
            refine lv_iload hC.1 hC.2.1 dX10_rate_174 (lv_at hl 5 rfl) ?_
            refine lv_iload_n hC.1 hC.2.1 dX10_rate_176 rfl (lv_at hl 2 rfl) ?_
            refine lv_iadd hC.1 hC.2.1 dX10_rate_177 ?_
            refine lv_goto (tgt := 191) hC.1 hC.2.1 dX10_rate_178 (by decide) ?_
            obtain ⟨rfl, rfl⟩ := xr h
            exact x_iret hC hr hW hS dX10_rate_191
        · replace h := xt hc h
          refine lv_iconst (v := 2) hC.1 hC.2.1 dX10_rate_162 (by decide) ?_
          refine lv_iload hC.1 hC.2.1 dX10_rate_163 (lv_at hl 4 rfl) ?_
          refine lv_imul hC.1 hC.2.1 dX10_rate_165 ?_
          refine lv_goto (tgt := 191) hC.1 hC.2.1 dX10_rate_166 (by decide) ?_
          obtain ⟨rfl, rfl⟩ := xr h
          exact x_iret hC hr hW hS dX10_rate_191
      · replace h := xt hc h
        refine lv_iload hC.1 hC.2.1 dX10_rate_152 (lv_at hl 5 rfl) ?_
        refine lv_goto (tgt := 191) hC.1 hC.2.1 dX10_rate_154 (by decide) ?_
        obtain ⟨rfl, rfl⟩ := xr h
        exact x_iret hC hr hW hS dX10_rate_191
    · replace h := xt hc h
      refine lv_iload hC.1 hC.2.1 dX10_rate_142 (lv_at hl 4 rfl) ?_
      refine lv_goto (tgt := 191) hC.1 hC.2.1 dX10_rate_144 (by decide) ?_
      obtain ⟨rfl, rfl⟩ := xr h
      exact x_iret hC hr hW hS dX10_rate_191
  · replace h := xt hc h
    refine lv_iload_n hC.1 hC.2.1 dX10_rate_133 rfl (lv_at hl 3 rfl) ?_
    refine lv_goto (tgt := 191) hC.1 hC.2.1 dX10_rate_134 (by decide) ?_
    obtain ⟨rfl, rfl⟩ := xr h
    exact x_iret hC hr hW hS dX10_rate_191
set_option maxHeartbeats 4000000 in
set_option maxRecDepth 100000 in
theorem c_X10_rate (l : Launch) (D : va_G) (b : Nat) (cs : Cs3) (x1 : Int32) (x2 : Int32) (S S1 : St) (r : Int32) (h : p_X10_rate x1 x2 S = some (r, S1)) : Ct l yX10_rate cX10_rate 6 (some .int) rX10_rate D b cs [.ref (b + 99), .int x1, .int x2] S (some (.int r)) S1 := by
  refine x_met (by decide +kernel) (Nat.le_of_ble_eq_true rfl) ?_
  intro p e s m below meth c ls hC hr hW hS hl
  have hl : lv_has ls 6 [(0, .ref (b + 99)), (1, .int x1), (2, .int x2)] := hl
  rw [p_X10_rate] at h
  refine lv_aload_n hC.1 hC.2.1 dX10_rate_0 rfl (lv_at hl 0 rfl) ?_
  refine lv_iconst (v := 0) hC.1 hC.2.1 dX10_rate_1 (by decide) ?_
  refine x_puti (C := RX10) (T := TX10) (N := 27) (ty := .int) hC hW hS 99 (by decide) rfl rfl uX10 tyX10 tyX10_ok nmX10 0 (by decide) fl_X10_65 rfl (by decide +kernel) rfl rfl rfl dX10_rate_2 (fun H locs hW hS => ?_)
  refine lv_iload_n hC.1 hC.2.1 dX10_rate_5 rfl (lv_at hl 1 rfl) ?_
  refine lv_iconst (v := 0) hC.1 hC.2.1 dX10_rate_6 (by decide) ?_
  refine lv_iconst (v := 5) hC.1 hC.2.1 dX10_rate_7 (by decide) ?_
  obtain ⟨⟨q8_r, q8_S⟩, hq, h⟩ := xb h
  try dsimp only at h
  refine x_callS (As := [.int x1, .int (0 : Int32), .int (5 : Int32)]) (rest := []) hC hW hS (c_X10_in l D b cs _ _ _ _ _ _ hq) mi_X10_in st_X10_in ml_X10_69 ⟨rfl, rfl⟩ ⟨Nat.le_of_ble_eq_true rfl, Nat.le_of_ble_eq_true rfl⟩ ⟨Nat.zero_le _, Nat.zero_le _⟩ rfl rfl hl.1 (Nat.le_of_ble_eq_true rfl) dX10_rate_8 (fun H locs hW hS => ?_)
  refine lv_if_eq (tgt := 22) hC.1 hC.2.1 dX10_rate_11 (by decide) (fun hc => ?_) (fun hc => ?_)
  · replace h := xt hc h
    refine lv_ldc (v := -1000000) hC.1 hC.2.1 hC.2.2.2.1 (hC.2.2.2.2.1 _ kw_X10_163) dX10_rate_22 ?_
    obtain ⟨rfl, rfl⟩ := xr h
    exact x_iret hC hr hW hS dX10_rate_24
  · replace h := xf hc h
    refine lv_aload_n hC.1 hC.2.1 dX10_rate_14 rfl (lv_at hl 0 rfl) ?_
    refine lv_iload_n hC.1 hC.2.1 dX10_rate_15 rfl (lv_at hl 2 rfl) ?_
    obtain ⟨⟨q16_r, q16_S⟩, hq, h⟩ := xb h
    try dsimp only at h
    refine x_callV (T := TX10) (N := 27) (As := [.int x2]) (rest := []) hC hW hS 99 (c_X10_isBoy l D b cs _ _ _ _ hq) (by decide) rfl rfl mi_X10_isBoy in_X10_isBoy sl_X10_isBoy ml_X10_160 ⟨rfl, rfl⟩ ⟨Nat.le_of_ble_eq_true rfl, Nat.le_of_ble_eq_true rfl⟩ ⟨Nat.zero_le _, Nat.zero_le _⟩ rfl rfl hl.1 (Nat.le_of_ble_eq_true rfl) dX10_rate_16 (fun H locs hW hS => ?_)
    refine lv_if_ne (tgt := 25) hC.1 hC.2.1 dX10_rate_19 (by decide) (fun hc => ?_) (fun hc => ?_)
    · replace h := xf hc h
      refine lv_aload_n hC.1 hC.2.1 dX10_rate_25 rfl (lv_at hl 0 rfl) ?_
      refine x_get (C := RX10) (T := TX10) (N := 27) (v := _) hC hW 99 (by decide) rfl rfl uX10 19 (by decide) fl_X10_40 rfl rfl dX10_rate_26 ?_
      refine lv_iconst (v := 5) hC.1 hC.2.1 dX10_rate_29 (by decide) ?_
      refine lv_iload_n hC.1 hC.2.1 dX10_rate_30 rfl (lv_at hl 2 rfl) ?_
      refine lv_iadd hC.1 hC.2.1 dX10_rate_31 ?_
      obtain ⟨hi, h⟩ := xg h
      refine x_iald hC hW 110 (by decide) rfl hi dX10_rate_32 ?_
      refine lv_istore_n (lv' := [(3, .int (q16_S.1 110 ((5 : Int32) + x2).toNatClampNeg)), (0, .ref (b + 99)), (1, .int x1), (2, .int x2)]) hC.1 hC.2.1 dX10_rate_33 rfl hl (by decide) rfl (fun ls hl => ?_)
      refine lv_iload_n hC.1 hC.2.1 dX10_rate_34 rfl (lv_at hl 0 rfl) ?_
      refine lv_aload_n hC.1 hC.2.1 dX10_rate_35 rfl (lv_at hl 1 rfl) ?_
      refine lv_iload_n hC.1 hC.2.1 dX10_rate_36 rfl (lv_at hl 3 rfl) ?_
      refine lv_iload_n hC.1 hC.2.1 dX10_rate_37 rfl (lv_at hl 0 rfl) ?_
      refine lv_aload_n hC.1 hC.2.1 dX10_rate_38 rfl (lv_at hl 1 rfl) ?_
      refine x_get (C := RX10) (T := TX10) (N := 27) (v := _) hC hW 99 (by decide) rfl rfl uX10 19 (by decide) fl_X10_40 rfl rfl dX10_rate_39 ?_
      refine lv_bipush (v := 10) hC.1 hC.2.1 dX10_rate_42 (by decide) ?_
      refine lv_iload_n hC.1 hC.2.1 dX10_rate_44 rfl (lv_at hl 3 rfl) ?_
      refine lv_iadd hC.1 hC.2.1 dX10_rate_45 ?_
      obtain ⟨hi, h⟩ := xg h
      refine x_iald hC hW 110 (by decide) rfl hi dX10_rate_46 ?_
      obtain ⟨⟨q47_r, q47_S⟩, hq, h⟩ := xb h
      try dsimp only at h
      refine x_callV (T := TX10) (N := 27) (As := [.int x2, .int (q16_S.1 110 ((5 : Int32) + x2).toNatClampNeg), .int (q16_S.1 110 ((10 : Int32) + x2).toNatClampNeg)]) (rest := [.int (q16_S.1 110 ((5 : Int32) + x2).toNatClampNeg)]) hC hW hS 99 (c_X10_highest l D b cs _ _ _ _ _ _ hq) (by decide) rfl rfl mi_X10_highest in_X10_highest sl_X10_highest ml_X10_134 ⟨rfl, rfl⟩ ⟨Nat.le_of_ble_eq_true rfl, Nat.le_of_ble_eq_true rfl⟩ ⟨Nat.zero_le _, Nat.zero_le _⟩ rfl rfl hl.1 (Nat.le_of_ble_eq_true rfl) dX10_rate_47 (fun H locs hW hS => ?_)
      refine lv_iadd hC.1 hC.2.1 dX10_rate_50 ?_
      refine lv_istore (lv' := [(4, .int ((q16_S.1 110 ((5 : Int32) + x2).toNatClampNeg) + q47_r)), (3, .int (q16_S.1 110 ((5 : Int32) + x2).toNatClampNeg)), (0, .ref (b + 99)), (1, .int x1), (2, .int x2)]) hC.1 hC.2.1 dX10_rate_51 hl (by decide) rfl (fun ls hl => ?_)
      refine lv_iload_n hC.1 hC.2.1 dX10_rate_53 rfl (lv_at hl 1 rfl) ?_
      refine lv_aload_n hC.1 hC.2.1 dX10_rate_54 rfl (lv_at hl 2 rfl) ?_
      refine lv_iload_n hC.1 hC.2.1 dX10_rate_55 rfl (lv_at hl 4 rfl) ?_
      obtain ⟨⟨q56_r, q56_S⟩, hq, h⟩ := xb h
      try dsimp only at h
      refine x_callV (T := TX10) (N := 27) (As := [.int x2]) (rest := [.int (q16_S.1 110 ((5 : Int32) + x2).toNatClampNeg)]) hC hW hS 99 (c_X10_keys l D b cs _ _ _ _ hq) (by decide) rfl rfl mi_X10_keys in_X10_keys sl_X10_keys ml_X10_145 ⟨rfl, rfl⟩ ⟨Nat.le_of_ble_eq_true rfl, Nat.le_of_ble_eq_true rfl⟩ ⟨Nat.zero_le _, Nat.zero_le _⟩ rfl rfl hl.1 (Nat.le_of_ble_eq_true rfl) dX10_rate_56 (fun H locs hW hS => ?_)
      obtain ⟨⟨q59_r, q59_S⟩, hq, h⟩ := xb h
      try dsimp only at h
      refine x_callS (As := [.int q56_r]) (rest := [.int (q16_S.1 110 ((5 : Int32) + x2).toNatClampNeg)]) hC hW hS (c_X10_ones l D b cs _ _ _ _ hq) mi_X10_ones st_X10_ones ml_X10_167 ⟨rfl, rfl⟩ ⟨Nat.le_of_ble_eq_true rfl, Nat.le_of_ble_eq_true rfl⟩ ⟨Nat.zero_le _, Nat.zero_le _⟩ rfl rfl hl.1 (Nat.le_of_ble_eq_true rfl) dX10_rate_59 (fun H locs hW hS => ?_)
      refine lv_isub hC.1 hC.2.1 dX10_rate_62 ?_
      refine lv_istore (lv' := [(5, .int ((q16_S.1 110 ((5 : Int32) + x2).toNatClampNeg) - q59_r)), (4, .int ((q16_S.1 110 ((5 : Int32) + x2).toNatClampNeg) + q47_r)), (3, .int (q16_S.1 110 ((5 : Int32) + x2).toNatClampNeg)), (0, .ref (b + 99)), (1, .int x1), (2, .int x2)]) hC.1 hC.2.1 dX10_rate_63 hl (by decide) rfl (fun ls hl => ?_)
      refine lv_aload_n hC.1 hC.2.1 dX10_rate_65 rfl (lv_at hl 3 rfl) ?_
      refine lv_dup hC.1 hC.2.1 dX10_rate_66 rfl ?_
      refine x_get (C := RX10) (T := TX10) (N := 27) (v := _) hC hW 99 (by decide) rfl rfl uX10 1 (by decide) fl_X10_204 rfl rfl dX10_rate_67 ?_
      refine lv_iload_n hC.1 hC.2.1 dX10_rate_70 rfl (lv_at hl 4 rfl) ?_
      refine lv_if_ne (tgt := 78) hC.1 hC.2.1 dX10_rate_71 (by decide) (fun hc => ?_) (fun hc => ?_)
      · replace h := xf hc h
        refine lv_iload_n hC.1 hC.2.1 dX10_rate_78 rfl (lv_at hl 4 rfl) ?_
        refine lv_iconst (v := 1) hC.1 hC.2.1 dX10_rate_79 (by decide) ?_
        refine lv_icmp_ne (tgt := 89) hC.1 hC.2.1 dX10_rate_80 (by decide) (fun hc => ?_) (fun hc => ?_)
        · replace h := xf hc h
          refine lv_iload_n hC.1 hC.2.1 dX10_rate_89 rfl (lv_at hl 4 rfl) ?_
          refine lv_iconst (v := 2) hC.1 hC.2.1 dX10_rate_90 (by decide) ?_
          refine lv_icmp_ne (tgt := 100) hC.1 hC.2.1 dX10_rate_91 (by decide) (fun hc => ?_) (fun hc => ?_)
          · replace h := xf hc h
            refine lv_iload_n hC.1 hC.2.1 dX10_rate_100 rfl (lv_at hl 4 rfl) ?_
            refine lv_iconst (v := 3) hC.1 hC.2.1 dX10_rate_101 (by decide) ?_
            refine lv_icmp_ne (tgt := 111) hC.1 hC.2.1 dX10_rate_102 (by decide) (fun hc => ?_) (fun hc => ?_)
            · replace h := xf hc h
              refine lv_iload_n hC.1 hC.2.1 dX10_rate_111 rfl (lv_at hl 4 rfl) ?_
              refine lv_iconst (v := 4) hC.1 hC.2.1 dX10_rate_112 (by decide) ?_
              refine lv_icmp_ne (tgt := 122) hC.1 hC.2.1 dX10_rate_113 (by decide) (fun hc => ?_) (fun hc => ?_)
              · replace h := xf hc h
                refine lv_ldc2 (v := 100001) hC.1 hC.2.1 hC.2.2.2.1 (hC.2.2.2.2.1 _ kw_X10_216) dX10_rate_122 ?_
                exact w_X10_rate_125 hC hr _ _ _ _ _ _ _ _ _ _ _ h hW hS (lv_sub hl [3, 4, 5, 2, 1, 0] rfl)
              · replace h := xt hc h
                refine lv_ldc2 (v := 10101) hC.1 hC.2.1 hC.2.2.2.1 (hC.2.2.2.2.1 _ kw_X10_214) dX10_rate_116 ?_
                refine lv_goto (tgt := 125) hC.1 hC.2.1 dX10_rate_119 (by decide) ?_
                exact w_X10_rate_125 hC hr _ _ _ _ _ _ _ _ _ _ _ h hW hS (lv_sub hl [3, 4, 5, 2, 1, 0] rfl)
            · replace h := xt hc h
              refine lv_ldc2 (v := 1011) hC.1 hC.2.1 hC.2.2.2.1 (hC.2.2.2.2.1 _ kw_X10_212) dX10_rate_105 ?_
              refine lv_goto (tgt := 125) hC.1 hC.2.1 dX10_rate_108 (by decide) ?_
              exact w_X10_rate_125 hC hr _ _ _ _ _ _ _ _ _ _ _ h hW hS (lv_sub hl [3, 4, 5, 2, 1, 0] rfl)
          · replace h := xt hc h
            refine lv_ldc2 (v := 101) hC.1 hC.2.1 hC.2.2.2.1 (hC.2.2.2.2.1 _ kw_X10_210) dX10_rate_94 ?_
            refine lv_goto (tgt := 125) hC.1 hC.2.1 dX10_rate_97 (by decide) ?_
            exact w_X10_rate_125 hC hr _ _ _ _ _ _ _ _ _ _ _ h hW hS (lv_sub hl [3, 4, 5, 2, 1, 0] rfl)
        · replace h := xt hc h
          refine lv_ldc2 (v := 11) hC.1 hC.2.1 hC.2.2.2.1 (hC.2.2.2.2.1 _ kw_X10_208) dX10_rate_83 ?_
          refine lv_goto (tgt := 125) hC.1 hC.2.1 dX10_rate_86 (by decide) ?_
          exact w_X10_rate_125 hC hr _ _ _ _ _ _ _ _ _ _ _ h hW hS (lv_sub hl [3, 4, 5, 2, 1, 0] rfl)
      · replace h := xt hc h
        refine lv_lconst (v := 1) hC.1 hC.2.1 dX10_rate_74 rfl ?_
        refine lv_goto (tgt := 125) hC.1 hC.2.1 dX10_rate_75 (by decide) ?_
        exact w_X10_rate_125 hC hr _ _ _ _ _ _ _ _ _ _ _ h hW hS (lv_sub hl [3, 4, 5, 2, 1, 0] rfl)
    · replace h := xt hc h
      refine lv_ldc (v := -1000000) hC.1 hC.2.1 hC.2.2.2.1 (hC.2.2.2.2.1 _ kw_X10_163) dX10_rate_22 ?_
      obtain ⟨rfl, rfl⟩ := xr h
      exact x_iret hC hr hW hS dX10_rate_24
theorem dX10_keep_0 : decode cX10_keep 0 = .ok (.aload_n 0, 1) := by decide +kernel
theorem dX10_keep_1 : decode cX10_keep 1 = .ok (.iconst 0, 1) := by decide +kernel
theorem dX10_keep_2 : decode cX10_keep 2 = .ok (.putfield 65, 3) := by decide +kernel
theorem dX10_keep_5 : decode cX10_keep 5 = .ok (.iload_n 1, 1) := by decide +kernel
theorem dX10_keep_6 : decode cX10_keep 6 = .ok (.iconst 0, 1) := by decide +kernel
theorem dX10_keep_7 : decode cX10_keep 7 = .ok (.iconst 1, 1) := by decide +kernel
theorem dX10_keep_8 : decode cX10_keep 8 = .ok (.invokestatic 69, 3) := by decide +kernel
theorem dX10_keep_11 : decode cX10_keep 11 = .ok (.ifCond .ne 5, 3) := by decide +kernel
theorem dX10_keep_14 : decode cX10_keep 14 = .ok (.iconst (-1), 1) := by decide +kernel
theorem dX10_keep_15 : decode cX10_keep 15 = .ok (.ireturn, 1) := by decide +kernel
theorem dX10_keep_16 : decode cX10_keep 16 = .ok (.iconst 0, 1) := by decide +kernel
theorem dX10_keep_17 : decode cX10_keep 17 = .ok (.istore_n 2, 1) := by decide +kernel
theorem dX10_keep_18 : decode cX10_keep 18 = .ok (.iload_n 2, 1) := by decide +kernel
theorem dX10_keep_19 : decode cX10_keep 19 = .ok (.bipush 25, 2) := by decide +kernel
theorem dX10_keep_21 : decode cX10_keep 21 = .ok (.if_icmp .ge 26, 3) := by decide +kernel
theorem dX10_keep_24 : decode cX10_keep 24 = .ok (.aload_n 0, 1) := by decide +kernel
theorem dX10_keep_25 : decode cX10_keep 25 = .ok (.getfield 43, 3) := by decide +kernel
theorem dX10_keep_28 : decode cX10_keep 28 = .ok (.bipush 25, 2) := by decide +kernel
theorem dX10_keep_30 : decode cX10_keep 30 = .ok (.iload_n 1, 1) := by decide +kernel
theorem dX10_keep_31 : decode cX10_keep 31 = .ok (.imul, 1) := by decide +kernel
theorem dX10_keep_32 : decode cX10_keep 32 = .ok (.iload_n 2, 1) := by decide +kernel
theorem dX10_keep_33 : decode cX10_keep 33 = .ok (.iadd, 1) := by decide +kernel
theorem dX10_keep_34 : decode cX10_keep 34 = .ok (.aload_n 0, 1) := by decide +kernel
theorem dX10_keep_35 : decode cX10_keep 35 = .ok (.getfield 40, 3) := by decide +kernel
theorem dX10_keep_38 : decode cX10_keep 38 = .ok (.iload_n 2, 1) := by decide +kernel
theorem dX10_keep_39 : decode cX10_keep 39 = .ok (.iaload, 1) := by decide +kernel
theorem dX10_keep_40 : decode cX10_keep 40 = .ok (.iastore, 1) := by decide +kernel
theorem dX10_keep_41 : decode cX10_keep 41 = .ok (.iinc 2 1, 3) := by decide +kernel
theorem dX10_keep_44 : decode cX10_keep 44 = .ok (.goto (-26), 3) := by decide +kernel
theorem dX10_keep_47 : decode cX10_keep 47 = .ok (.aload_n 0, 1) := by decide +kernel
theorem dX10_keep_48 : decode cX10_keep 48 = .ok (.getfield 46, 3) := by decide +kernel
theorem dX10_keep_51 : decode cX10_keep 51 = .ok (.iload_n 1, 1) := by decide +kernel
theorem dX10_keep_52 : decode cX10_keep 52 = .ok (.iconst 1, 1) := by decide +kernel
theorem dX10_keep_53 : decode cX10_keep 53 = .ok (.bastore, 1) := by decide +kernel
theorem dX10_keep_54 : decode cX10_keep 54 = .ok (.aload_n 0, 1) := by decide +kernel
theorem dX10_keep_55 : decode cX10_keep 55 = .ok (.getfield 40, 3) := by decide +kernel
theorem dX10_keep_58 : decode cX10_keep 58 = .ok (.bipush 24, 2) := by decide +kernel
theorem dX10_keep_60 : decode cX10_keep 60 = .ok (.iaload, 1) := by decide +kernel
theorem dX10_keep_61 : decode cX10_keep 61 = .ok (.ireturn, 1) := by decide +kernel
abbrev rX10_keep : Room := { frames := 1, cells := 0, slots := 0, locals := 22 }
set_option maxHeartbeats 4000000 in
set_option maxRecDepth 100000 in
theorem w_X10_keep_18 {p : Program} {l : Launch} {e : Env} {s : State} {m : MethodId} {args : Array Value} {below : List Frame} {meth : Method} {c : Code} {D : va_G} {b : Nat} {cs : Cs3} {r : Int32} {S1 : St} (hC : CX p s m args meth c RX10 cX10_keep 3 D cs) (hr : meth.sig.returnType = (some .int)) : ∀ (n : Nat) (x1 : Int32) (x2 : Int32) (S : St) (H : Heap) (locs : List Loc) (ls : Array Slot), q_X10_keep_18 n x1 x2 S = some (r, S1) → Wd D b cs S H → va_S (AA b) s.heap H locs → lv_has ls 3 [(0, .ref (b + 99)), (1, .int x1), (2, .int x2)] → W p l e rX10_keep s m args below meth c H locs 0 0 (MQ below (QX D b cs (some (.int r)) S1) args s 0 0 (AA b)) (F0 m 18 ls []) := by
  intro n
  induction n with
  | zero =>
    intro x1 x2 S H locs ls h
    exact absurd h (by rw [q_X10_keep_18]; exact fun q => nomatch q)
  | succ n IH =>
    intro x1 x2 S H locs ls h hW hS hl
    rw [q_X10_keep_18] at h
    refine lv_iload_n hC.1 hC.2.1 dX10_keep_18 rfl (lv_at hl 2 rfl) ?_
    refine lv_bipush (v := 25) hC.1 hC.2.1 dX10_keep_19 (by decide) ?_
    refine lv_icmp_ge (tgt := 47) hC.1 hC.2.1 dX10_keep_21 (by decide) (fun hc => ?_) (fun hc => ?_)
    · replace h := xt hc h
      refine lv_aload_n hC.1 hC.2.1 dX10_keep_47 rfl (lv_at hl 0 rfl) ?_
      refine x_get (C := RX10) (T := TX10) (N := 27) (v := _) hC hW 99 (by decide) rfl rfl uX10 21 (by decide) fl_X10_46 rfl rfl dX10_keep_48 ?_
      refine lv_iload_n hC.1 hC.2.1 dX10_keep_51 rfl (lv_at hl 1 rfl) ?_
      refine lv_iconst (v := 1) hC.1 hC.2.1 dX10_keep_52 (by decide) ?_
      obtain ⟨hi, h⟩ := xg h
      refine x_zast hC hW hS 112 (by decide) rfl hi rfl dX10_keep_53 (fun H locs hW hS => ?_)
      refine lv_aload_n hC.1 hC.2.1 dX10_keep_54 rfl (lv_at hl 0 rfl) ?_
      refine x_get (C := RX10) (T := TX10) (N := 27) (v := _) hC hW 99 (by decide) rfl rfl uX10 19 (by decide) fl_X10_40 rfl rfl dX10_keep_55 ?_
      refine lv_bipush (v := 24) hC.1 hC.2.1 dX10_keep_58 (by decide) ?_
      obtain ⟨hi, h⟩ := xg h
      refine x_iald hC hW 110 (by decide) rfl hi dX10_keep_60 ?_
      obtain ⟨rfl, rfl⟩ := xr h
      exact x_iret hC hr hW hS dX10_keep_61
    · replace h := xf hc h
      refine lv_aload_n hC.1 hC.2.1 dX10_keep_24 rfl (lv_at hl 0 rfl) ?_
      refine x_get (C := RX10) (T := TX10) (N := 27) (v := _) hC hW 99 (by decide) rfl rfl uX10 20 (by decide) fl_X10_43 rfl rfl dX10_keep_25 ?_
      refine lv_bipush (v := 25) hC.1 hC.2.1 dX10_keep_28 (by decide) ?_
      refine lv_iload_n hC.1 hC.2.1 dX10_keep_30 rfl (lv_at hl 1 rfl) ?_
      refine lv_imul hC.1 hC.2.1 dX10_keep_31 ?_
      refine lv_iload_n hC.1 hC.2.1 dX10_keep_32 rfl (lv_at hl 2 rfl) ?_
      refine lv_iadd hC.1 hC.2.1 dX10_keep_33 ?_
      refine lv_aload_n hC.1 hC.2.1 dX10_keep_34 rfl (lv_at hl 0 rfl) ?_
      refine x_get (C := RX10) (T := TX10) (N := 27) (v := _) hC hW 99 (by decide) rfl rfl uX10 19 (by decide) fl_X10_40 rfl rfl dX10_keep_35 ?_
      refine lv_iload_n hC.1 hC.2.1 dX10_keep_38 rfl (lv_at hl 2 rfl) ?_
      obtain ⟨hi, h⟩ := xg h
      refine x_iald hC hW 110 (by decide) rfl hi dX10_keep_39 ?_
      obtain ⟨hi, h⟩ := xg h
      refine x_iast hC hW hS 111 (by decide) rfl hi dX10_keep_40 (fun H locs hW hS => ?_)
      refine lv_iinc (v := x2 + 1) (lv' := [(2, .int (x2 + 1)), (0, .ref (b + 99)), (1, .int x1)]) hC.1 hC.2.1 dX10_keep_41 hl (k := 2) rfl rfl (by decide) rfl (fun ls hl => ?_)
      refine lv_goto (tgt := 18) hC.1 hC.2.1 dX10_keep_44 (by decide) ?_
      exact IH _ _ _ _ _ _ h hW hS (lv_sub hl [1, 2, 0] rfl)
set_option maxHeartbeats 4000000 in
set_option maxRecDepth 100000 in
theorem c_X10_keep (l : Launch) (D : va_G) (b : Nat) (cs : Cs3) (x1 : Int32) (S S1 : St) (r : Int32) (h : p_X10_keep x1 S = some (r, S1)) : Ct l yX10_keep cX10_keep 3 (some .int) rX10_keep D b cs [.ref (b + 99), .int x1] S (some (.int r)) S1 := by
  refine x_met (by decide +kernel) (Nat.le_of_ble_eq_true rfl) ?_
  intro p e s m below meth c ls hC hr hW hS hl
  have hl : lv_has ls 3 [(0, .ref (b + 99)), (1, .int x1)] := hl
  rw [p_X10_keep] at h
  refine lv_aload_n hC.1 hC.2.1 dX10_keep_0 rfl (lv_at hl 0 rfl) ?_
  refine lv_iconst (v := 0) hC.1 hC.2.1 dX10_keep_1 (by decide) ?_
  refine x_puti (C := RX10) (T := TX10) (N := 27) (ty := .int) hC hW hS 99 (by decide) rfl rfl uX10 tyX10 tyX10_ok nmX10 0 (by decide) fl_X10_65 rfl (by decide +kernel) rfl rfl rfl dX10_keep_2 (fun H locs hW hS => ?_)
  refine lv_iload_n hC.1 hC.2.1 dX10_keep_5 rfl (lv_at hl 1 rfl) ?_
  refine lv_iconst (v := 0) hC.1 hC.2.1 dX10_keep_6 (by decide) ?_
  refine lv_iconst (v := 1) hC.1 hC.2.1 dX10_keep_7 (by decide) ?_
  obtain ⟨⟨q8_r, q8_S⟩, hq, h⟩ := xb h
  try dsimp only at h
  refine x_callS (As := [.int x1, .int (0 : Int32), .int (1 : Int32)]) (rest := []) hC hW hS (c_X10_in l D b cs _ _ _ _ _ _ hq) mi_X10_in st_X10_in ml_X10_69 ⟨rfl, rfl⟩ ⟨Nat.le_of_ble_eq_true rfl, Nat.le_of_ble_eq_true rfl⟩ ⟨Nat.zero_le _, Nat.zero_le _⟩ rfl rfl hl.1 (Nat.le_of_ble_eq_true rfl) dX10_keep_8 (fun H locs hW hS => ?_)
  refine lv_if_ne (tgt := 16) hC.1 hC.2.1 dX10_keep_11 (by decide) (fun hc => ?_) (fun hc => ?_)
  · replace h := xf hc h
    refine lv_iconst (v := 0) hC.1 hC.2.1 dX10_keep_16 (by decide) ?_
    refine lv_istore_n (lv' := [(2, .int (0 : Int32)), (0, .ref (b + 99)), (1, .int x1)]) hC.1 hC.2.1 dX10_keep_17 rfl hl (by decide) rfl (fun ls hl => ?_)
    exact w_X10_keep_18 hC hr _ _ _ _ _ _ _ h hW hS (lv_sub hl [1, 2, 0] rfl)
  · replace h := xt hc h
    refine lv_iconst (v := -1) hC.1 hC.2.1 dX10_keep_14 (by decide) ?_
    obtain ⟨rfl, rfl⟩ := xr h
    exact x_iret hC hr hW hS dX10_keep_15
theorem dX10_back_0 : decode cX10_back 0 = .ok (.aload_n 0, 1) := by decide +kernel
theorem dX10_back_1 : decode cX10_back 1 = .ok (.iconst 0, 1) := by decide +kernel
theorem dX10_back_2 : decode cX10_back 2 = .ok (.putfield 65, 3) := by decide +kernel
theorem dX10_back_5 : decode cX10_back 5 = .ok (.iload_n 1, 1) := by decide +kernel
theorem dX10_back_6 : decode cX10_back 6 = .ok (.iconst 0, 1) := by decide +kernel
theorem dX10_back_7 : decode cX10_back 7 = .ok (.iconst 1, 1) := by decide +kernel
theorem dX10_back_8 : decode cX10_back 8 = .ok (.invokestatic 69, 3) := by decide +kernel
theorem dX10_back_11 : decode cX10_back 11 = .ok (.ifCond .ne 5, 3) := by decide +kernel
theorem dX10_back_14 : decode cX10_back 14 = .ok (.iconst (-1), 1) := by decide +kernel
theorem dX10_back_15 : decode cX10_back 15 = .ok (.ireturn, 1) := by decide +kernel
theorem dX10_back_16 : decode cX10_back 16 = .ok (.aload_n 0, 1) := by decide +kernel
theorem dX10_back_17 : decode cX10_back 17 = .ok (.getfield 46, 3) := by decide +kernel
theorem dX10_back_20 : decode cX10_back 20 = .ok (.iload_n 1, 1) := by decide +kernel
theorem dX10_back_21 : decode cX10_back 21 = .ok (.baload, 1) := by decide +kernel
theorem dX10_back_22 : decode cX10_back 22 = .ok (.ifCond .ne 6, 3) := by decide +kernel
theorem dX10_back_25 : decode cX10_back 25 = .ok (.bipush (-2), 2) := by decide +kernel
theorem dX10_back_27 : decode cX10_back 27 = .ok (.ireturn, 1) := by decide +kernel
theorem dX10_back_28 : decode cX10_back 28 = .ok (.iconst 0, 1) := by decide +kernel
theorem dX10_back_29 : decode cX10_back 29 = .ok (.istore_n 2, 1) := by decide +kernel
theorem dX10_back_30 : decode cX10_back 30 = .ok (.iload_n 2, 1) := by decide +kernel
theorem dX10_back_31 : decode cX10_back 31 = .ok (.bipush 25, 2) := by decide +kernel
theorem dX10_back_33 : decode cX10_back 33 = .ok (.if_icmp .ge 26, 3) := by decide +kernel
theorem dX10_back_36 : decode cX10_back 36 = .ok (.aload_n 0, 1) := by decide +kernel
theorem dX10_back_37 : decode cX10_back 37 = .ok (.getfield 40, 3) := by decide +kernel
theorem dX10_back_40 : decode cX10_back 40 = .ok (.iload_n 2, 1) := by decide +kernel
theorem dX10_back_41 : decode cX10_back 41 = .ok (.aload_n 0, 1) := by decide +kernel
theorem dX10_back_42 : decode cX10_back 42 = .ok (.getfield 43, 3) := by decide +kernel
theorem dX10_back_45 : decode cX10_back 45 = .ok (.bipush 25, 2) := by decide +kernel
theorem dX10_back_47 : decode cX10_back 47 = .ok (.iload_n 1, 1) := by decide +kernel
theorem dX10_back_48 : decode cX10_back 48 = .ok (.imul, 1) := by decide +kernel
theorem dX10_back_49 : decode cX10_back 49 = .ok (.iload_n 2, 1) := by decide +kernel
theorem dX10_back_50 : decode cX10_back 50 = .ok (.iadd, 1) := by decide +kernel
theorem dX10_back_51 : decode cX10_back 51 = .ok (.iaload, 1) := by decide +kernel
theorem dX10_back_52 : decode cX10_back 52 = .ok (.iastore, 1) := by decide +kernel
theorem dX10_back_53 : decode cX10_back 53 = .ok (.iinc 2 1, 3) := by decide +kernel
theorem dX10_back_56 : decode cX10_back 56 = .ok (.goto (-26), 3) := by decide +kernel
theorem dX10_back_59 : decode cX10_back 59 = .ok (.aload_n 0, 1) := by decide +kernel
theorem dX10_back_60 : decode cX10_back 60 = .ok (.iconst 0, 1) := by decide +kernel
theorem dX10_back_61 : decode cX10_back 61 = .ok (.putfield 128, 3) := by decide +kernel
theorem dX10_back_64 : decode cX10_back 64 = .ok (.aload_n 0, 1) := by decide +kernel
theorem dX10_back_65 : decode cX10_back 65 = .ok (.getfield 40, 3) := by decide +kernel
theorem dX10_back_68 : decode cX10_back 68 = .ok (.bipush 24, 2) := by decide +kernel
theorem dX10_back_70 : decode cX10_back 70 = .ok (.iaload, 1) := by decide +kernel
theorem dX10_back_71 : decode cX10_back 71 = .ok (.ireturn, 1) := by decide +kernel
abbrev rX10_back : Room := { frames := 1, cells := 0, slots := 0, locals := 22 }
set_option maxHeartbeats 4000000 in
set_option maxRecDepth 100000 in
theorem w_X10_back_30 {p : Program} {l : Launch} {e : Env} {s : State} {m : MethodId} {args : Array Value} {below : List Frame} {meth : Method} {c : Code} {D : va_G} {b : Nat} {cs : Cs3} {r : Int32} {S1 : St} (hC : CX p s m args meth c RX10 cX10_back 3 D cs) (hr : meth.sig.returnType = (some .int)) : ∀ (n : Nat) (x1 : Int32) (x2 : Int32) (S : St) (H : Heap) (locs : List Loc) (ls : Array Slot), q_X10_back_30 n x1 x2 S = some (r, S1) → Wd D b cs S H → va_S (AA b) s.heap H locs → lv_has ls 3 [(0, .ref (b + 99)), (1, .int x1), (2, .int x2)] → W p l e rX10_back s m args below meth c H locs 0 0 (MQ below (QX D b cs (some (.int r)) S1) args s 0 0 (AA b)) (F0 m 30 ls []) := by
  intro n
  induction n with
  | zero =>
    intro x1 x2 S H locs ls h
    exact absurd h (by rw [q_X10_back_30]; exact fun q => nomatch q)
  | succ n IH =>
    intro x1 x2 S H locs ls h hW hS hl
    rw [q_X10_back_30] at h
    refine lv_iload_n hC.1 hC.2.1 dX10_back_30 rfl (lv_at hl 2 rfl) ?_
    refine lv_bipush (v := 25) hC.1 hC.2.1 dX10_back_31 (by decide) ?_
    refine lv_icmp_ge (tgt := 59) hC.1 hC.2.1 dX10_back_33 (by decide) (fun hc => ?_) (fun hc => ?_)
    · replace h := xt hc h
      refine lv_aload_n hC.1 hC.2.1 dX10_back_59 rfl (lv_at hl 0 rfl) ?_
      refine lv_iconst (v := 0) hC.1 hC.2.1 dX10_back_60 (by decide) ?_
      refine x_puti (C := RX10) (T := TX10) (N := 27) (ty := .int) hC hW hS 99 (by decide) rfl rfl uX10 tyX10 tyX10_ok nmX10 23 (by decide) fl_X10_128 rfl (by decide +kernel) rfl rfl rfl dX10_back_61 (fun H locs hW hS => ?_)
      refine lv_aload_n hC.1 hC.2.1 dX10_back_64 rfl (lv_at hl 0 rfl) ?_
      refine x_get (C := RX10) (T := TX10) (N := 27) (v := _) hC hW 99 (by decide) rfl rfl uX10 19 (by decide) fl_X10_40 rfl rfl dX10_back_65 ?_
      refine lv_bipush (v := 24) hC.1 hC.2.1 dX10_back_68 (by decide) ?_
      obtain ⟨hi, h⟩ := xg h
      refine x_iald hC hW 110 (by decide) rfl hi dX10_back_70 ?_
      obtain ⟨rfl, rfl⟩ := xr h
      exact x_iret hC hr hW hS dX10_back_71
    · replace h := xf hc h
      refine lv_aload_n hC.1 hC.2.1 dX10_back_36 rfl (lv_at hl 0 rfl) ?_
      refine x_get (C := RX10) (T := TX10) (N := 27) (v := _) hC hW 99 (by decide) rfl rfl uX10 19 (by decide) fl_X10_40 rfl rfl dX10_back_37 ?_
      refine lv_iload_n hC.1 hC.2.1 dX10_back_40 rfl (lv_at hl 2 rfl) ?_
      refine lv_aload_n hC.1 hC.2.1 dX10_back_41 rfl (lv_at hl 0 rfl) ?_
      refine x_get (C := RX10) (T := TX10) (N := 27) (v := _) hC hW 99 (by decide) rfl rfl uX10 20 (by decide) fl_X10_43 rfl rfl dX10_back_42 ?_
      refine lv_bipush (v := 25) hC.1 hC.2.1 dX10_back_45 (by decide) ?_
      refine lv_iload_n hC.1 hC.2.1 dX10_back_47 rfl (lv_at hl 1 rfl) ?_
      refine lv_imul hC.1 hC.2.1 dX10_back_48 ?_
      refine lv_iload_n hC.1 hC.2.1 dX10_back_49 rfl (lv_at hl 2 rfl) ?_
      refine lv_iadd hC.1 hC.2.1 dX10_back_50 ?_
      obtain ⟨hi, h⟩ := xg h
      refine x_iald hC hW 111 (by decide) rfl hi dX10_back_51 ?_
      obtain ⟨hi, h⟩ := xg h
      refine x_iast hC hW hS 110 (by decide) rfl hi dX10_back_52 (fun H locs hW hS => ?_)
      refine lv_iinc (v := x2 + 1) (lv' := [(2, .int (x2 + 1)), (0, .ref (b + 99)), (1, .int x1)]) hC.1 hC.2.1 dX10_back_53 hl (k := 2) rfl rfl (by decide) rfl (fun ls hl => ?_)
      refine lv_goto (tgt := 30) hC.1 hC.2.1 dX10_back_56 (by decide) ?_
      exact IH _ _ _ _ _ _ h hW hS (lv_sub hl [1, 2, 0] rfl)
set_option maxHeartbeats 4000000 in
set_option maxRecDepth 100000 in
theorem c_X10_back (l : Launch) (D : va_G) (b : Nat) (cs : Cs3) (x1 : Int32) (S S1 : St) (r : Int32) (h : p_X10_back x1 S = some (r, S1)) : Ct l yX10_back cX10_back 3 (some .int) rX10_back D b cs [.ref (b + 99), .int x1] S (some (.int r)) S1 := by
  refine x_met (by decide +kernel) (Nat.le_of_ble_eq_true rfl) ?_
  intro p e s m below meth c ls hC hr hW hS hl
  have hl : lv_has ls 3 [(0, .ref (b + 99)), (1, .int x1)] := hl
  rw [p_X10_back] at h
  refine lv_aload_n hC.1 hC.2.1 dX10_back_0 rfl (lv_at hl 0 rfl) ?_
  refine lv_iconst (v := 0) hC.1 hC.2.1 dX10_back_1 (by decide) ?_
  refine x_puti (C := RX10) (T := TX10) (N := 27) (ty := .int) hC hW hS 99 (by decide) rfl rfl uX10 tyX10 tyX10_ok nmX10 0 (by decide) fl_X10_65 rfl (by decide +kernel) rfl rfl rfl dX10_back_2 (fun H locs hW hS => ?_)
  refine lv_iload_n hC.1 hC.2.1 dX10_back_5 rfl (lv_at hl 1 rfl) ?_
  refine lv_iconst (v := 0) hC.1 hC.2.1 dX10_back_6 (by decide) ?_
  refine lv_iconst (v := 1) hC.1 hC.2.1 dX10_back_7 (by decide) ?_
  obtain ⟨⟨q8_r, q8_S⟩, hq, h⟩ := xb h
  try dsimp only at h
  refine x_callS (As := [.int x1, .int (0 : Int32), .int (1 : Int32)]) (rest := []) hC hW hS (c_X10_in l D b cs _ _ _ _ _ _ hq) mi_X10_in st_X10_in ml_X10_69 ⟨rfl, rfl⟩ ⟨Nat.le_of_ble_eq_true rfl, Nat.le_of_ble_eq_true rfl⟩ ⟨Nat.zero_le _, Nat.zero_le _⟩ rfl rfl hl.1 (Nat.le_of_ble_eq_true rfl) dX10_back_8 (fun H locs hW hS => ?_)
  refine lv_if_ne (tgt := 16) hC.1 hC.2.1 dX10_back_11 (by decide) (fun hc => ?_) (fun hc => ?_)
  · replace h := xf hc h
    refine lv_aload_n hC.1 hC.2.1 dX10_back_16 rfl (lv_at hl 0 rfl) ?_
    refine x_get (C := RX10) (T := TX10) (N := 27) (v := _) hC hW 99 (by decide) rfl rfl uX10 21 (by decide) fl_X10_46 rfl rfl dX10_back_17 ?_
    refine lv_iload_n hC.1 hC.2.1 dX10_back_20 rfl (lv_at hl 1 rfl) ?_
    obtain ⟨hi, h⟩ := xg h
    refine x_zald hC hW 112 (by decide) rfl hi dX10_back_21 ?_
    refine lv_if_ne (tgt := 28) hC.1 hC.2.1 dX10_back_22 (by decide) (fun hc => ?_) (fun hc => ?_)
    · replace h := xf hc h
      refine lv_iconst (v := 0) hC.1 hC.2.1 dX10_back_28 (by decide) ?_
      refine lv_istore_n (lv' := [(2, .int (0 : Int32)), (0, .ref (b + 99)), (1, .int x1)]) hC.1 hC.2.1 dX10_back_29 rfl hl (by decide) rfl (fun ls hl => ?_)
      exact w_X10_back_30 hC hr _ _ _ _ _ _ _ h hW hS (lv_sub hl [1, 2, 0] rfl)
    · replace h := xt hc h
      refine lv_bipush (v := -2) hC.1 hC.2.1 dX10_back_25 (by decide) ?_
      obtain ⟨rfl, rfl⟩ := xr h
      exact x_iret hC hr hW hS dX10_back_27
  · replace h := xt hc h
    refine lv_iconst (v := -1) hC.1 hC.2.1 dX10_back_14 (by decide) ?_
    obtain ⟨rfl, rfl⟩ := xr h
    exact x_iret hC hr hW hS dX10_back_15
theorem dX10_count_0 : decode cX10_count 0 = .ok (.aload_n 0, 1) := by decide +kernel
theorem dX10_count_1 : decode cX10_count 1 = .ok (.iconst 0, 1) := by decide +kernel
theorem dX10_count_2 : decode cX10_count 2 = .ok (.putfield 65, 3) := by decide +kernel
theorem dX10_count_5 : decode cX10_count 5 = .ok (.iload_n 1, 1) := by decide +kernel
theorem dX10_count_6 : decode cX10_count 6 = .ok (.iconst 0, 1) := by decide +kernel
theorem dX10_count_7 : decode cX10_count 7 = .ok (.iconst 3, 1) := by decide +kernel
theorem dX10_count_8 : decode cX10_count 8 = .ok (.invokestatic 69, 3) := by decide +kernel
theorem dX10_count_11 : decode cX10_count 11 = .ok (.ifCond .eq 12, 3) := by decide +kernel
theorem dX10_count_14 : decode cX10_count 14 = .ok (.aload_n 0, 1) := by decide +kernel
theorem dX10_count_15 : decode cX10_count 15 = .ok (.getfield 13, 3) := by decide +kernel
theorem dX10_count_18 : decode cX10_count 18 = .ok (.iload_n 1, 1) := by decide +kernel
theorem dX10_count_19 : decode cX10_count 19 = .ok (.iaload, 1) := by decide +kernel
theorem dX10_count_20 : decode cX10_count 20 = .ok (.goto 28, 3) := by decide +kernel
theorem dX10_count_23 : decode cX10_count 23 = .ok (.iload_n 1, 1) := by decide +kernel
theorem dX10_count_24 : decode cX10_count 24 = .ok (.iconst 4, 1) := by decide +kernel
theorem dX10_count_25 : decode cX10_count 25 = .ok (.if_icmp .ne 10, 3) := by decide +kernel
theorem dX10_count_28 : decode cX10_count 28 = .ok (.aload_n 0, 1) := by decide +kernel
theorem dX10_count_29 : decode cX10_count 29 = .ok (.getfield 125, 3) := by decide +kernel
theorem dX10_count_32 : decode cX10_count 32 = .ok (.goto 16, 3) := by decide +kernel
theorem dX10_count_35 : decode cX10_count 35 = .ok (.iload_n 1, 1) := by decide +kernel
theorem dX10_count_36 : decode cX10_count 36 = .ok (.iconst 5, 1) := by decide +kernel
theorem dX10_count_37 : decode cX10_count 37 = .ok (.if_icmp .ne 10, 3) := by decide +kernel
theorem dX10_count_40 : decode cX10_count 40 = .ok (.aload_n 0, 1) := by decide +kernel
theorem dX10_count_41 : decode cX10_count 41 = .ok (.getfield 73, 3) := by decide +kernel
theorem dX10_count_44 : decode cX10_count 44 = .ok (.goto 4, 3) := by decide +kernel
theorem dX10_count_47 : decode cX10_count 47 = .ok (.iconst (-1), 1) := by decide +kernel
theorem dX10_count_48 : decode cX10_count 48 = .ok (.ireturn, 1) := by decide +kernel
abbrev rX10_count : Room := { frames := 1, cells := 0, slots := 0, locals := 22 }
set_option maxHeartbeats 4000000 in
set_option maxRecDepth 100000 in
theorem c_X10_count (l : Launch) (D : va_G) (b : Nat) (cs : Cs3) (x1 : Int32) (S S1 : St) (r : Int32) (h : p_X10_count x1 S = some (r, S1)) : Ct l yX10_count cX10_count 2 (some .int) rX10_count D b cs [.ref (b + 99), .int x1] S (some (.int r)) S1 := by
  refine x_met (by decide +kernel) (Nat.le_of_ble_eq_true rfl) ?_
  intro p e s m below meth c ls hC hr hW hS hl
  have hl : lv_has ls 2 [(0, .ref (b + 99)), (1, .int x1)] := hl
  rw [p_X10_count] at h
  refine lv_aload_n hC.1 hC.2.1 dX10_count_0 rfl (lv_at hl 0 rfl) ?_
  refine lv_iconst (v := 0) hC.1 hC.2.1 dX10_count_1 (by decide) ?_
  refine x_puti (C := RX10) (T := TX10) (N := 27) (ty := .int) hC hW hS 99 (by decide) rfl rfl uX10 tyX10 tyX10_ok nmX10 0 (by decide) fl_X10_65 rfl (by decide +kernel) rfl rfl rfl dX10_count_2 (fun H locs hW hS => ?_)
  refine lv_iload_n hC.1 hC.2.1 dX10_count_5 rfl (lv_at hl 1 rfl) ?_
  refine lv_iconst (v := 0) hC.1 hC.2.1 dX10_count_6 (by decide) ?_
  refine lv_iconst (v := 3) hC.1 hC.2.1 dX10_count_7 (by decide) ?_
  obtain ⟨⟨q8_r, q8_S⟩, hq, h⟩ := xb h
  try dsimp only at h
  refine x_callS (As := [.int x1, .int (0 : Int32), .int (3 : Int32)]) (rest := []) hC hW hS (c_X10_in l D b cs _ _ _ _ _ _ hq) mi_X10_in st_X10_in ml_X10_69 ⟨rfl, rfl⟩ ⟨Nat.le_of_ble_eq_true rfl, Nat.le_of_ble_eq_true rfl⟩ ⟨Nat.zero_le _, Nat.zero_le _⟩ rfl rfl hl.1 (Nat.le_of_ble_eq_true rfl) dX10_count_8 (fun H locs hW hS => ?_)
  refine lv_if_eq (tgt := 23) hC.1 hC.2.1 dX10_count_11 (by decide) (fun hc => ?_) (fun hc => ?_)
  · replace h := xt hc h
    refine lv_iload_n hC.1 hC.2.1 dX10_count_23 rfl (lv_at hl 1 rfl) ?_
    refine lv_iconst (v := 4) hC.1 hC.2.1 dX10_count_24 (by decide) ?_
    refine lv_icmp_ne (tgt := 35) hC.1 hC.2.1 dX10_count_25 (by decide) (fun hc => ?_) (fun hc => ?_)
    · replace h := xf hc h
      refine lv_iload_n hC.1 hC.2.1 dX10_count_35 rfl (lv_at hl 1 rfl) ?_
      refine lv_iconst (v := 5) hC.1 hC.2.1 dX10_count_36 (by decide) ?_
      refine lv_icmp_ne (tgt := 47) hC.1 hC.2.1 dX10_count_37 (by decide) (fun hc => ?_) (fun hc => ?_)
      · replace h := xf hc h
        refine lv_iconst (v := -1) hC.1 hC.2.1 dX10_count_47 (by decide) ?_
        obtain ⟨rfl, rfl⟩ := xr h
        exact x_iret hC hr hW hS dX10_count_48
      · replace h := xt hc h
        refine lv_aload_n hC.1 hC.2.1 dX10_count_40 rfl (lv_at hl 0 rfl) ?_
        refine x_get (C := RX10) (T := TX10) (N := 27) (v := _) hC hW 99 (by decide) rfl rfl uX10 3 (by decide) fl_X10_73 rfl rfl dX10_count_41 ?_
        refine lv_goto (tgt := 48) hC.1 hC.2.1 dX10_count_44 (by decide) ?_
        obtain ⟨rfl, rfl⟩ := xr h
        exact x_iret hC hr hW hS dX10_count_48
    · replace h := xt hc h
      refine lv_aload_n hC.1 hC.2.1 dX10_count_28 rfl (lv_at hl 0 rfl) ?_
      refine x_get (C := RX10) (T := TX10) (N := 27) (v := _) hC hW 99 (by decide) rfl rfl uX10 26 (by decide) fl_X10_125 rfl rfl dX10_count_29 ?_
      refine lv_goto (tgt := 48) hC.1 hC.2.1 dX10_count_32 (by decide) ?_
      obtain ⟨rfl, rfl⟩ := xr h
      exact x_iret hC hr hW hS dX10_count_48
  · replace h := xf hc h
    refine lv_aload_n hC.1 hC.2.1 dX10_count_14 rfl (lv_at hl 0 rfl) ?_
    refine x_get (C := RX10) (T := TX10) (N := 27) (v := _) hC hW 99 (by decide) rfl rfl uX10 10 (by decide) fl_X10_13 rfl rfl dX10_count_15 ?_
    refine lv_iload_n hC.1 hC.2.1 dX10_count_18 rfl (lv_at hl 1 rfl) ?_
    obtain ⟨hi, h⟩ := xg h
    refine x_iald hC hW 101 (by decide) rfl hi dX10_count_19 ?_
    refine lv_goto (tgt := 48) hC.1 hC.2.1 dX10_count_20 (by decide) ?_
    obtain ⟨rfl, rfl⟩ := xr h
    exact x_iret hC hr hW hS dX10_count_48
theorem dX10_trace_0 : decode cX10_trace 0 = .ok (.aload_n 0, 1) := by decide +kernel
theorem dX10_trace_1 : decode cX10_trace 1 = .ok (.iconst 0, 1) := by decide +kernel
theorem dX10_trace_2 : decode cX10_trace 2 = .ok (.putfield 65, 3) := by decide +kernel
theorem dX10_trace_5 : decode cX10_trace 5 = .ok (.aload_n 0, 1) := by decide +kernel
theorem dX10_trace_6 : decode cX10_trace 6 = .ok (.getfield 204, 3) := by decide +kernel
theorem dX10_trace_9 : decode cX10_trace 9 = .ok (.lreturn, 1) := by decide +kernel
abbrev rX10_trace : Room := { frames := 0, cells := 0, slots := 0, locals := 0 }
set_option maxHeartbeats 4000000 in
set_option maxRecDepth 100000 in
theorem c_X10_trace (l : Launch) (D : va_G) (b : Nat) (cs : Cs3) (S S1 : St) (r : Int64) (h : p_X10_trace S = some (r, S1)) : Ct l yX10_trace cX10_trace 1 (some .long) rX10_trace D b cs [.ref (b + 99)] S (some (.long r)) S1 := by
  refine x_met (by decide +kernel) (Nat.le_of_ble_eq_true rfl) ?_
  intro p e s m below meth c ls hC hr hW hS hl
  have hl : lv_has ls 1 [(0, .ref (b + 99))] := hl
  rw [p_X10_trace] at h
  refine lv_aload_n hC.1 hC.2.1 dX10_trace_0 rfl (lv_at hl 0 rfl) ?_
  refine lv_iconst (v := 0) hC.1 hC.2.1 dX10_trace_1 (by decide) ?_
  refine x_puti (C := RX10) (T := TX10) (N := 27) (ty := .int) hC hW hS 99 (by decide) rfl rfl uX10 tyX10 tyX10_ok nmX10 0 (by decide) fl_X10_65 rfl (by decide +kernel) rfl rfl rfl dX10_trace_2 (fun H locs hW hS => ?_)
  refine lv_aload_n hC.1 hC.2.1 dX10_trace_5 rfl (lv_at hl 0 rfl) ?_
  refine x_get (C := RX10) (T := TX10) (N := 27) (v := _) hC hW 99 (by decide) rfl rfl uX10 1 (by decide) fl_X10_204 rfl rfl dX10_trace_6 ?_
  obtain ⟨rfl, rfl⟩ := xr h
  exact x_lret hC hr hW hS dX10_trace_9
