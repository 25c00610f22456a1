-- walks: X9_boy X9_now X9_goes X9_colds X9_props X9_year X9_michaelmas X9_undo X9_way X9_posts X9_tune X9_thirds X9_odds X9_hears X9_forget X9_who X9_ask X9_rate
theorem dX9_boy_0 : decode cX9_boy 0 = .ok (.aload_n 0, 1) := by decide +kernel
theorem dX9_boy_1 : decode cX9_boy 1 = .ok (.iload_n 1, 1) := by decide +kernel
theorem dX9_boy_2 : decode cX9_boy 2 = .ok (.invokevirtual 136, 3) := by decide +kernel
theorem dX9_boy_5 : decode cX9_boy 5 = .ok (.ifCond .ne 6, 3) := by decide +kernel
theorem dX9_boy_8 : decode cX9_boy 8 = .ok (.ldc 139, 2) := by decide +kernel
theorem dX9_boy_10 : decode cX9_boy 10 = .ok (.ireturn, 1) := by decide +kernel
theorem dX9_boy_11 : decode cX9_boy 11 = .ok (.iload_n 2, 1) := by decide +kernel
theorem dX9_boy_12 : decode cX9_boy 12 = .ok (.tableswitch 155 0 9 #[56, 66, 76, 86, 96, 106, 116, 126, 136, 146], 56) := by decide +kernel
theorem dX9_boy_68 : decode cX9_boy 68 = .ok (.aload_n 0, 1) := by decide +kernel
theorem dX9_boy_69 : decode cX9_boy 69 = .ok (.getfield 53, 3) := by decide +kernel
theorem dX9_boy_72 : decode cX9_boy 72 = .ok (.iload_n 1, 1) := by decide +kernel
theorem dX9_boy_73 : decode cX9_boy 73 = .ok (.iconst 0, 1) := by decide +kernel
theorem dX9_boy_74 : decode cX9_boy 74 = .ok (.invokevirtual 140, 3) := by decide +kernel
theorem dX9_boy_77 : decode cX9_boy 77 = .ok (.ireturn, 1) := by decide +kernel
theorem dX9_boy_78 : decode cX9_boy 78 = .ok (.aload_n 0, 1) := by decide +kernel
theorem dX9_boy_79 : decode cX9_boy 79 = .ok (.getfield 53, 3) := by decide +kernel
theorem dX9_boy_82 : decode cX9_boy 82 = .ok (.iload_n 1, 1) := by decide +kernel
theorem dX9_boy_83 : decode cX9_boy 83 = .ok (.iconst 0, 1) := by decide +kernel
theorem dX9_boy_84 : decode cX9_boy 84 = .ok (.invokevirtual 144, 3) := by decide +kernel
theorem dX9_boy_87 : decode cX9_boy 87 = .ok (.ireturn, 1) := by decide +kernel
theorem dX9_boy_88 : decode cX9_boy 88 = .ok (.aload_n 0, 1) := by decide +kernel
theorem dX9_boy_89 : decode cX9_boy 89 = .ok (.getfield 29, 3) := by decide +kernel
theorem dX9_boy_92 : decode cX9_boy 92 = .ok (.getfield 147, 3) := by decide +kernel
theorem dX9_boy_95 : decode cX9_boy 95 = .ok (.iload_n 1, 1) := by decide +kernel
theorem dX9_boy_96 : decode cX9_boy 96 = .ok (.iaload, 1) := by decide +kernel
theorem dX9_boy_97 : decode cX9_boy 97 = .ok (.ireturn, 1) := by decide +kernel
theorem dX9_boy_98 : decode cX9_boy 98 = .ok (.aload_n 0, 1) := by decide +kernel
theorem dX9_boy_99 : decode cX9_boy 99 = .ok (.getfield 19, 3) := by decide +kernel
theorem dX9_boy_102 : decode cX9_boy 102 = .ok (.getfield 150, 3) := by decide +kernel
theorem dX9_boy_105 : decode cX9_boy 105 = .ok (.iload_n 1, 1) := by decide +kernel
theorem dX9_boy_106 : decode cX9_boy 106 = .ok (.iaload, 1) := by decide +kernel
theorem dX9_boy_107 : decode cX9_boy 107 = .ok (.ireturn, 1) := by decide +kernel
theorem dX9_boy_108 : decode cX9_boy 108 = .ok (.aload_n 0, 1) := by decide +kernel
theorem dX9_boy_109 : decode cX9_boy 109 = .ok (.getfield 19, 3) := by decide +kernel
theorem dX9_boy_112 : decode cX9_boy 112 = .ok (.getfield 153, 3) := by decide +kernel
theorem dX9_boy_115 : decode cX9_boy 115 = .ok (.iload_n 1, 1) := by decide +kernel
theorem dX9_boy_116 : decode cX9_boy 116 = .ok (.iaload, 1) := by decide +kernel
theorem dX9_boy_117 : decode cX9_boy 117 = .ok (.ireturn, 1) := by decide +kernel
theorem dX9_boy_118 : decode cX9_boy 118 = .ok (.aload_n 0, 1) := by decide +kernel
theorem dX9_boy_119 : decode cX9_boy 119 = .ok (.getfield 29, 3) := by decide +kernel
theorem dX9_boy_122 : decode cX9_boy 122 = .ok (.getfield 156, 3) := by decide +kernel
theorem dX9_boy_125 : decode cX9_boy 125 = .ok (.iload_n 1, 1) := by decide +kernel
theorem dX9_boy_126 : decode cX9_boy 126 = .ok (.iaload, 1) := by decide +kernel
theorem dX9_boy_127 : decode cX9_boy 127 = .ok (.ireturn, 1) := by decide +kernel
theorem dX9_boy_128 : decode cX9_boy 128 = .ok (.aload_n 0, 1) := by decide +kernel
theorem dX9_boy_129 : decode cX9_boy 129 = .ok (.getfield 29, 3) := by decide +kernel
theorem dX9_boy_132 : decode cX9_boy 132 = .ok (.getfield 159, 3) := by decide +kernel
theorem dX9_boy_135 : decode cX9_boy 135 = .ok (.iload_n 1, 1) := by decide +kernel
theorem dX9_boy_136 : decode cX9_boy 136 = .ok (.iaload, 1) := by decide +kernel
theorem dX9_boy_137 : decode cX9_boy 137 = .ok (.ireturn, 1) := by decide +kernel
theorem dX9_boy_138 : decode cX9_boy 138 = .ok (.aload_n 0, 1) := by decide +kernel
theorem dX9_boy_139 : decode cX9_boy 139 = .ok (.getfield 53, 3) := by decide +kernel
theorem dX9_boy_142 : decode cX9_boy 142 = .ok (.iload_n 1, 1) := by decide +kernel
theorem dX9_boy_143 : decode cX9_boy 143 = .ok (.iconst 0, 1) := by decide +kernel
theorem dX9_boy_144 : decode cX9_boy 144 = .ok (.invokevirtual 162, 3) := by decide +kernel
theorem dX9_boy_147 : decode cX9_boy 147 = .ok (.ireturn, 1) := by decide +kernel
theorem dX9_boy_148 : decode cX9_boy 148 = .ok (.aload_n 0, 1) := by decide +kernel
theorem dX9_boy_149 : decode cX9_boy 149 = .ok (.getfield 53, 3) := by decide +kernel
theorem dX9_boy_152 : decode cX9_boy 152 = .ok (.iload_n 1, 1) := by decide +kernel
theorem dX9_boy_153 : decode cX9_boy 153 = .ok (.iconst 0, 1) := by decide +kernel
theorem dX9_boy_154 : decode cX9_boy 154 = .ok (.invokevirtual 165, 3) := by decide +kernel
theorem dX9_boy_157 : decode cX9_boy 157 = .ok (.ireturn, 1) := by decide +kernel
theorem dX9_boy_158 : decode cX9_boy 158 = .ok (.aload_n 0, 1) := by decide +kernel
theorem dX9_boy_159 : decode cX9_boy 159 = .ok (.getfield 53, 3) := by decide +kernel
theorem dX9_boy_162 : decode cX9_boy 162 = .ok (.iload_n 1, 1) := by decide +kernel
theorem dX9_boy_163 : decode cX9_boy 163 = .ok (.invokevirtual 168, 3) := by decide +kernel
theorem dX9_boy_166 : decode cX9_boy 166 = .ok (.ireturn, 1) := by decide +kernel
theorem dX9_boy_167 : decode cX9_boy 167 = .ok (.ldc 139, 2) := by decide +kernel
theorem dX9_boy_169 : decode cX9_boy 169 = .ok (.ireturn, 1) := by decide +kernel
abbrev rX9_boy : Room := { frames := 5, cells := 0, slots := 0, locals := 118 }
set_option maxHeartbeats 4000000 in
set_option maxRecDepth 100000 in
theorem c_X9_boy (l : Launch) (D : va_G) (b : Nat) (cs : Cs3) (x1 : Int32) (x2 : Int32) (S S1 : St) (r : Int32) (h : p_X9_boy x1 x2 S = some (r, S1)) : Ct l yX9_boy cX9_boy 3 (some .int) rX9_boy D b cs [.ref (b + 0), .int x1, .int x2] S (some (.int r)) S1 := by
  refine x_met (by decide +kernel) (Nat.le_of_ble_eq_true rfl) ?_
  intro p e s m below meth c ls hC hr hW hS hl
  have hl : lv_has ls 3 [(0, .ref (b + 0)), (1, .int x1), (2, .int x2)] := hl
  rw [p_X9_boy] at h
  refine lv_aload_n hC.1 hC.2.1 dX9_boy_0 rfl (lv_at hl 0 rfl) ?_
  refine lv_iload_n hC.1 hC.2.1 dX9_boy_1 rfl (lv_at hl 1 rfl) ?_
  obtain ⟨⟨q2_r, q2_S⟩, hq, h⟩ := xb h
  try dsimp only at h
  refine x_callV (T := TX9) (N := 12) (As := [.int x1]) (rest := []) hC hW hS 0 (c_X9_isBoy l D b cs _ _ _ _ hq) (by decide) rfl rfl mi_X9_isBoy in_X9_isBoy sl_X9_isBoy ml_X9_136 ⟨rfl, rfl⟩ ⟨Nat.le_of_ble_eq_true rfl, Nat.le_of_ble_eq_true rfl⟩ ⟨Nat.zero_le _, Nat.zero_le _⟩ rfl rfl hl.1 (Nat.le_of_ble_eq_true rfl) dX9_boy_2 (fun H locs hW hS => ?_)
  refine lv_if_ne (tgt := 11) hC.1 hC.2.1 dX9_boy_5 (by decide) (fun hc => ?_) (fun hc => ?_)
  · replace h := xf hc h
    refine lv_iload_n hC.1 hC.2.1 dX9_boy_11 rfl (lv_at hl 2 rfl) ?_
    by_cases hc0 : x2 = 0
    · replace h := xt hc0 h
      refine lv_tableIn (off := 56) (tgt := 68) hC.1 hC.2.1 dX9_boy_12 (by rw [hc0]; decide) (by rw [hc0]; decide) (by rw [hc0]; rfl) (by decide) ?_
      refine lv_aload_n hC.1 hC.2.1 dX9_boy_68 rfl (lv_at hl 0 rfl) ?_
      refine x_get (C := RX9) (T := TX9) (N := 12) (v := _) hC hW 0 (by decide) rfl rfl uX9 7 (by decide) fl_X9_53 rfl rfl dX9_boy_69 ?_
      refine lv_iload_n hC.1 hC.2.1 dX9_boy_72 rfl (lv_at hl 1 rfl) ?_
      refine lv_iconst (v := 0) hC.1 hC.2.1 dX9_boy_73 (by decide) ?_
      obtain ⟨⟨q74_r, q74_S⟩, hq, h⟩ := xb h
      try dsimp only at h
      refine x_callV (T := TX1) (N := 2) (As := [.int x1, .int (0 : Int32)]) (rest := []) hC hW hS 90 (c_X1_lowest l D b cs _ _ _ _ _ hq) (by decide) rfl rfl mi_X1_lowest in_X1_lowest sl_X1_lowest ml_X9_140 ⟨rfl, rfl⟩ ⟨Nat.le_of_ble_eq_true rfl, Nat.le_of_ble_eq_true rfl⟩ ⟨Nat.zero_le _, Nat.zero_le _⟩ rfl rfl hl.1 (Nat.le_of_ble_eq_true rfl) dX9_boy_74 (fun H locs hW hS => ?_)
      obtain ⟨rfl, rfl⟩ := xr h
      exact x_iret hC hr hW hS dX9_boy_77
    replace h := xf hc0 h
    by_cases hc1 : x2 = 1
    · replace h := xt hc1 h
      refine lv_tableIn (off := 66) (tgt := 78) hC.1 hC.2.1 dX9_boy_12 (by rw [hc1]; decide) (by rw [hc1]; decide) (by rw [hc1]; rfl) (by decide) ?_
      refine lv_aload_n hC.1 hC.2.1 dX9_boy_78 rfl (lv_at hl 0 rfl) ?_
      refine x_get (C := RX9) (T := TX9) (N := 12) (v := _) hC hW 0 (by decide) rfl rfl uX9 7 (by decide) fl_X9_53 rfl rfl dX9_boy_79 ?_
      refine lv_iload_n hC.1 hC.2.1 dX9_boy_82 rfl (lv_at hl 1 rfl) ?_
      refine lv_iconst (v := 0) hC.1 hC.2.1 dX9_boy_83 (by decide) ?_
      obtain ⟨⟨q84_r, q84_S⟩, hq, h⟩ := xb h
      try dsimp only at h
      refine x_callV (T := TX1) (N := 2) (As := [.int x1, .int (0 : Int32)]) (rest := []) hC hW hS 90 (c_X1_highest l D b cs _ _ _ _ _ hq) (by decide) rfl rfl mi_X1_highest in_X1_highest sl_X1_highest ml_X9_144 ⟨rfl, rfl⟩ ⟨Nat.le_of_ble_eq_true rfl, Nat.le_of_ble_eq_true rfl⟩ ⟨Nat.zero_le _, Nat.zero_le _⟩ rfl rfl hl.1 (Nat.le_of_ble_eq_true rfl) dX9_boy_84 (fun H locs hW hS => ?_)
      obtain ⟨rfl, rfl⟩ := xr h
      exact x_iret hC hr hW hS dX9_boy_87
    replace h := xf hc1 h
    by_cases hc2 : x2 = 2
    · replace h := xt hc2 h
      refine lv_tableIn (off := 76) (tgt := 88) hC.1 hC.2.1 dX9_boy_12 (by rw [hc2]; decide) (by rw [hc2]; decide) (by rw [hc2]; rfl) (by decide) ?_
      refine lv_aload_n hC.1 hC.2.1 dX9_boy_88 rfl (lv_at hl 0 rfl) ?_
      refine x_get (C := RX9) (T := TX9) (N := 12) (v := _) hC hW 0 (by decide) rfl rfl uX9 3 (by decide) fl_X9_29 rfl rfl dX9_boy_89 ?_
      refine x_get (C := RX8) (T := TX8) (N := 6) (v := _) hC hW 21 (by decide) rfl rfl uX8 1 (by decide) fl_X9_147 rfl rfl dX9_boy_92 ?_
      refine lv_iload_n hC.1 hC.2.1 dX9_boy_95 rfl (lv_at hl 1 rfl) ?_
      obtain ⟨hi, h⟩ := xg h
      refine x_iald hC hW 23 (by decide) rfl hi dX9_boy_96 ?_
      obtain ⟨rfl, rfl⟩ := xr h
      exact x_iret hC hr hW hS dX9_boy_97
    replace h := xf hc2 h
    by_cases hc3 : x2 = 3
    · replace h := xt hc3 h
      refine lv_tableIn (off := 86) (tgt := 98) hC.1 hC.2.1 dX9_boy_12 (by rw [hc3]; decide) (by rw [hc3]; decide) (by rw [hc3]; rfl) (by decide) ?_
      refine lv_aload_n hC.1 hC.2.1 dX9_boy_98 rfl (lv_at hl 0 rfl) ?_
      refine x_get (C := RX9) (T := TX9) (N := 12) (v := _) hC hW 0 (by decide) rfl rfl uX9 1 (by decide) fl_X9_19 rfl rfl dX9_boy_99 ?_
      refine x_get (C := RX2) (T := TX2) (N := 12) (v := _) hC hW 3 (by decide) rfl rfl uX2 10 (by decide) fl_X9_150 rfl rfl dX9_boy_102 ?_
      refine lv_iload_n hC.1 hC.2.1 dX9_boy_105 rfl (lv_at hl 1 rfl) ?_
      obtain ⟨hi, h⟩ := xg h
      refine x_iald hC hW 10 (by decide) rfl hi dX9_boy_106 ?_
      obtain ⟨rfl, rfl⟩ := xr h
      exact x_iret hC hr hW hS dX9_boy_107
    replace h := xf hc3 h
    by_cases hc4 : x2 = 4
    · replace h := xt hc4 h
      refine lv_tableIn (off := 96) (tgt := 108) hC.1 hC.2.1 dX9_boy_12 (by rw [hc4]; decide) (by rw [hc4]; decide) (by rw [hc4]; rfl) (by decide) ?_
      refine lv_aload_n hC.1 hC.2.1 dX9_boy_108 rfl (lv_at hl 0 rfl) ?_
      refine x_get (C := RX9) (T := TX9) (N := 12) (v := _) hC hW 0 (by decide) rfl rfl uX9 1 (by decide) fl_X9_19 rfl rfl dX9_boy_109 ?_
      refine x_get (C := RX2) (T := TX2) (N := 12) (v := _) hC hW 3 (by decide) rfl rfl uX2 11 (by decide) fl_X9_153 rfl rfl dX9_boy_112 ?_
      refine lv_iload_n hC.1 hC.2.1 dX9_boy_115 rfl (lv_at hl 1 rfl) ?_
      obtain ⟨hi, h⟩ := xg h
      refine x_iald hC hW 11 (by decide) rfl hi dX9_boy_116 ?_
      obtain ⟨rfl, rfl⟩ := xr h
      exact x_iret hC hr hW hS dX9_boy_117
    replace h := xf hc4 h
    by_cases hc5 : x2 = 5
    · replace h := xt hc5 h
      refine lv_tableIn (off := 106) (tgt := 118) hC.1 hC.2.1 dX9_boy_12 (by rw [hc5]; decide) (by rw [hc5]; decide) (by rw [hc5]; rfl) (by decide) ?_
      refine lv_aload_n hC.1 hC.2.1 dX9_boy_118 rfl (lv_at hl 0 rfl) ?_
      refine x_get (C := RX9) (T := TX9) (N := 12) (v := _) hC hW 0 (by decide) rfl rfl uX9 3 (by decide) fl_X9_29 rfl rfl dX9_boy_119 ?_
      refine x_get (C := RX8) (T := TX8) (N := 6) (v := _) hC hW 21 (by decide) rfl rfl uX8 0 (by decide) fl_X9_156 rfl rfl dX9_boy_122 ?_
      refine lv_iload_n hC.1 hC.2.1 dX9_boy_125 rfl (lv_at hl 1 rfl) ?_
      obtain ⟨hi, h⟩ := xg h
      refine x_iald hC hW 22 (by decide) rfl hi dX9_boy_126 ?_
      obtain ⟨rfl, rfl⟩ := xr h
      exact x_iret hC hr hW hS dX9_boy_127
    replace h := xf hc5 h
    by_cases hc6 : x2 = 6
    · replace h := xt hc6 h
      refine lv_tableIn (off := 116) (tgt := 128) hC.1 hC.2.1 dX9_boy_12 (by rw [hc6]; decide) (by rw [hc6]; decide) (by rw [hc6]; rfl) (by decide) ?_
      refine lv_aload_n hC.1 hC.2.1 dX9_boy_128 rfl (lv_at hl 0 rfl) ?_
      refine x_get (C := RX9) (T := TX9) (N := 12) (v := _) hC hW 0 (by decide) rfl rfl uX9 3 (by decide) fl_X9_29 rfl rfl dX9_boy_129 ?_
      refine x_get (C := RX8) (T := TX8) (N := 6) (v := _) hC hW 21 (by decide) rfl rfl uX8 2 (by decide) fl_X9_159 rfl rfl dX9_boy_132 ?_
      refine lv_iload_n hC.1 hC.2.1 dX9_boy_135 rfl (lv_at hl 1 rfl) ?_
      obtain ⟨hi, h⟩ := xg h
      refine x_iald hC hW 24 (by decide) rfl hi dX9_boy_136 ?_
      obtain ⟨rfl, rfl⟩ := xr h
      exact x_iret hC hr hW hS dX9_boy_137
    replace h := xf hc6 h
    by_cases hc7 : x2 = 7
    · replace h := xt hc7 h
      refine lv_tableIn (off := 126) (tgt := 138) hC.1 hC.2.1 dX9_boy_12 (by rw [hc7]; decide) (by rw [hc7]; decide) (by rw [hc7]; rfl) (by decide) ?_
      refine lv_aload_n hC.1 hC.2.1 dX9_boy_138 rfl (lv_at hl 0 rfl) ?_
      refine x_get (C := RX9) (T := TX9) (N := 12) (v := _) hC hW 0 (by decide) rfl rfl uX9 7 (by decide) fl_X9_53 rfl rfl dX9_boy_139 ?_
      refine lv_iload_n hC.1 hC.2.1 dX9_boy_142 rfl (lv_at hl 1 rfl) ?_
      refine lv_iconst (v := 0) hC.1 hC.2.1 dX9_boy_143 (by decide) ?_
      obtain ⟨⟨q144_r, q144_S⟩, hq, h⟩ := xb h
      try dsimp only at h
      refine x_callV (T := TX1) (N := 2) (As := [.int x1, .int (0 : Int32)]) (rest := []) hC hW hS 90 (c_X1_keys l D b cs _ _ _ _ _ hq) (by decide) rfl rfl mi_X1_keys in_X1_keys sl_X1_keys ml_X9_162 ⟨rfl, rfl⟩ ⟨Nat.le_of_ble_eq_true rfl, Nat.le_of_ble_eq_true rfl⟩ ⟨Nat.zero_le _, Nat.zero_le _⟩ rfl rfl hl.1 (Nat.le_of_ble_eq_true rfl) dX9_boy_144 (fun H locs hW hS => ?_)
      obtain ⟨rfl, rfl⟩ := xr h
      exact x_iret hC hr hW hS dX9_boy_147
    replace h := xf hc7 h
    by_cases hc8 : x2 = 8
    · replace h := xt hc8 h
      refine lv_tableIn (off := 136) (tgt := 148) hC.1 hC.2.1 dX9_boy_12 (by rw [hc8]; decide) (by rw [hc8]; decide) (by rw [hc8]; rfl) (by decide) ?_
      refine lv_aload_n hC.1 hC.2.1 dX9_boy_148 rfl (lv_at hl 0 rfl) ?_
      refine x_get (C := RX9) (T := TX9) (N := 12) (v := _) hC hW 0 (by decide) rfl rfl uX9 7 (by decide) fl_X9_53 rfl rfl dX9_boy_149 ?_
      refine lv_iload_n hC.1 hC.2.1 dX9_boy_152 rfl (lv_at hl 1 rfl) ?_
      refine lv_iconst (v := 0) hC.1 hC.2.1 dX9_boy_153 (by decide) ?_
      obtain ⟨⟨q154_r, q154_S⟩, hq, h⟩ := xb h
      try dsimp only at h
      refine x_callV (T := TX1) (N := 2) (As := [.int x1, .int (0 : Int32)]) (rest := []) hC hW hS 90 (c_X1_reach l D b cs _ _ _ _ _ hq) (by decide) rfl rfl mi_X1_reach in_X1_reach sl_X1_reach ml_X9_165 ⟨rfl, rfl⟩ ⟨Nat.le_of_ble_eq_true rfl, Nat.le_of_ble_eq_true rfl⟩ ⟨Nat.zero_le _, Nat.zero_le _⟩ rfl rfl hl.1 (Nat.le_of_ble_eq_true rfl) dX9_boy_154 (fun H locs hW hS => ?_)
      obtain ⟨rfl, rfl⟩ := xr h
      exact x_iret hC hr hW hS dX9_boy_157
    replace h := xf hc8 h
    by_cases hc9 : x2 = 9
    · replace h := xt hc9 h
      refine lv_tableIn (off := 146) (tgt := 158) hC.1 hC.2.1 dX9_boy_12 (by rw [hc9]; decide) (by rw [hc9]; decide) (by rw [hc9]; rfl) (by decide) ?_
      refine lv_aload_n hC.1 hC.2.1 dX9_boy_158 rfl (lv_at hl 0 rfl) ?_
      refine x_get (C := RX9) (T := TX9) (N := 12) (v := _) hC hW 0 (by decide) rfl rfl uX9 7 (by decide) fl_X9_53 rfl rfl dX9_boy_159 ?_
      refine lv_iload_n hC.1 hC.2.1 dX9_boy_162 rfl (lv_at hl 1 rfl) ?_
      obtain ⟨⟨q163_r, q163_S⟩, hq, h⟩ := xb h
      try dsimp only at h
      refine x_callV (T := TX1) (N := 2) (As := [.int x1]) (rest := []) hC hW hS 90 (c_X1_shutOut l D b cs _ _ _ _ hq) (by decide) rfl rfl mi_X1_shutOut in_X1_shutOut sl_X1_shutOut ml_X9_168 ⟨rfl, rfl⟩ ⟨Nat.le_of_ble_eq_true rfl, Nat.le_of_ble_eq_true rfl⟩ ⟨Nat.zero_le _, Nat.zero_le _⟩ rfl rfl hl.1 (Nat.le_of_ble_eq_true rfl) dX9_boy_163 (fun H locs hW hS => ?_)
      obtain ⟨rfl, rfl⟩ := xr h
      exact x_iret hC hr hW hS dX9_boy_166
    replace h := xf hc9 h
    have hn0 : ¬ (x2).toInt = 0 := lv_neT hc0 rfl
    have hn1 : ¬ (x2).toInt = 1 := lv_neT hc1 rfl
    have hn2 : ¬ (x2).toInt = 2 := lv_neT hc2 rfl
    have hn3 : ¬ (x2).toInt = 3 := lv_neT hc3 rfl
    have hn4 : ¬ (x2).toInt = 4 := lv_neT hc4 rfl
    have hn5 : ¬ (x2).toInt = 5 := lv_neT hc5 rfl
    have hn6 : ¬ (x2).toInt = 6 := lv_neT hc6 rfl
    have hn7 : ¬ (x2).toInt = 7 := lv_neT hc7 rfl
    have hn8 : ¬ (x2).toInt = 8 := lv_neT hc8 rfl
    have hn9 : ¬ (x2).toInt = 9 := lv_neT hc9 rfl
    refine lv_tableOut (tgt := 167) hC.1 hC.2.1 dX9_boy_12 (by omega) (by decide) ?_
    refine lv_ldc (v := -1000000) hC.1 hC.2.1 hC.2.2.2.1 (hC.2.2.2.2.1 _ kw_X9_139) dX9_boy_167 ?_
    obtain ⟨rfl, rfl⟩ := xr h
    exact x_iret hC hr hW hS dX9_boy_169
  · replace h := xt hc h
    refine lv_ldc (v := -1000000) hC.1 hC.2.1 hC.2.2.2.1 (hC.2.2.2.2.1 _ kw_X9_139) dX9_boy_8 ?_
    obtain ⟨rfl, rfl⟩ := xr h
    exact x_iret hC hr hW hS dX9_boy_10
theorem dX9_now_0 : decode cX9_now 0 = .ok (.iload_n 1, 1) := by decide +kernel
theorem dX9_now_1 : decode cX9_now 1 = .ok (.tableswitch 75 0 4 #[35, 43, 51, 59, 67], 35) := by decide +kernel
theorem dX9_now_36 : decode cX9_now 36 = .ok (.aload_n 0, 1) := by decide +kernel
theorem dX9_now_37 : decode cX9_now 37 = .ok (.getfield 29, 3) := by decide +kernel
theorem dX9_now_40 : decode cX9_now 40 = .ok (.getfield 171, 3) := by decide +kernel
theorem dX9_now_43 : decode cX9_now 43 = .ok (.ireturn, 1) := by decide +kernel
theorem dX9_now_44 : decode cX9_now 44 = .ok (.aload_n 0, 1) := by decide +kernel
theorem dX9_now_45 : decode cX9_now 45 = .ok (.getfield 29, 3) := by decide +kernel
theorem dX9_now_48 : decode cX9_now 48 = .ok (.getfield 129, 3) := by decide +kernel
theorem dX9_now_51 : decode cX9_now 51 = .ok (.ireturn, 1) := by decide +kernel
theorem dX9_now_52 : decode cX9_now 52 = .ok (.aload_n 0, 1) := by decide +kernel
theorem dX9_now_53 : decode cX9_now 53 = .ok (.getfield 53, 3) := by decide +kernel
theorem dX9_now_56 : decode cX9_now 56 = .ok (.invokevirtual 174, 3) := by decide +kernel
theorem dX9_now_59 : decode cX9_now 59 = .ok (.ireturn, 1) := by decide +kernel
theorem dX9_now_60 : decode cX9_now 60 = .ok (.aload_n 0, 1) := by decide +kernel
theorem dX9_now_61 : decode cX9_now 61 = .ok (.getfield 62, 3) := by decide +kernel
theorem dX9_now_64 : decode cX9_now 64 = .ok (.invokevirtual 178, 3) := by decide +kernel
theorem dX9_now_67 : decode cX9_now 67 = .ok (.ireturn, 1) := by decide +kernel
theorem dX9_now_68 : decode cX9_now 68 = .ok (.aload_n 0, 1) := by decide +kernel
theorem dX9_now_69 : decode cX9_now 69 = .ok (.getfield 36, 3) := by decide +kernel
theorem dX9_now_72 : decode cX9_now 72 = .ok (.getfield 110, 3) := by decide +kernel
theorem dX9_now_75 : decode cX9_now 75 = .ok (.ireturn, 1) := by decide +kernel
theorem dX9_now_76 : decode cX9_now 76 = .ok (.iconst (-1), 1) := by decide +kernel
theorem dX9_now_77 : decode cX9_now 77 = .ok (.ireturn, 1) := by decide +kernel
abbrev rX9_now : Room := { frames := 5, cells := 0, slots := 0, locals := 120 }
set_option maxHeartbeats 4000000 in
set_option maxRecDepth 100000 in
theorem c_X9_now (l : Launch) (D : va_G) (b : Nat) (cs : Cs3) (x1 : Int32) (S S1 : St) (r : Int32) (h : p_X9_now x1 S = some (r, S1)) : Ct l yX9_now cX9_now 2 (some .int) rX9_now D b cs [.ref (b + 0), .int x1] S (some (.int r)) S1 := by
  refine x_met (by decide +kernel) (Nat.le_of_ble_eq_true rfl) ?_
  intro p e s m below meth c ls hC hr hW hS hl
  have hl : lv_has ls 2 [(0, .ref (b + 0)), (1, .int x1)] := hl
  rw [p_X9_now] at h
  refine lv_iload_n hC.1 hC.2.1 dX9_now_0 rfl (lv_at hl 1 rfl) ?_
  by_cases hc0 : x1 = 0
  · replace h := xt hc0 h
    refine lv_tableIn (off := 35) (tgt := 36) hC.1 hC.2.1 dX9_now_1 (by rw [hc0]; decide) (by rw [hc0]; decide) (by rw [hc0]; rfl) (by decide) ?_
    refine lv_aload_n hC.1 hC.2.1 dX9_now_36 rfl (lv_at hl 0 rfl) ?_
    refine x_get (C := RX9) (T := TX9) (N := 12) (v := _) hC hW 0 (by decide) rfl rfl uX9 3 (by decide) fl_X9_29 rfl rfl dX9_now_37 ?_
    refine x_get (C := RX8) (T := TX8) (N := 6) (v := _) hC hW 21 (by decide) rfl rfl uX8 5 (by decide) fl_X9_171 rfl rfl dX9_now_40 ?_
    obtain ⟨rfl, rfl⟩ := xr h
    exact x_iret hC hr hW hS dX9_now_43
  replace h := xf hc0 h
  by_cases hc1 : x1 = 1
  · replace h := xt hc1 h
    refine lv_tableIn (off := 43) (tgt := 44) hC.1 hC.2.1 dX9_now_1 (by rw [hc1]; decide) (by rw [hc1]; decide) (by rw [hc1]; rfl) (by decide) ?_
    refine lv_aload_n hC.1 hC.2.1 dX9_now_44 rfl (lv_at hl 0 rfl) ?_
    refine x_get (C := RX9) (T := TX9) (N := 12) (v := _) hC hW 0 (by decide) rfl rfl uX9 3 (by decide) fl_X9_29 rfl rfl dX9_now_45 ?_
    refine x_get (C := RX8) (T := TX8) (N := 6) (v := _) hC hW 21 (by decide) rfl rfl uX8 4 (by decide) fl_X9_129 rfl rfl dX9_now_48 ?_
    obtain ⟨rfl, rfl⟩ := xr h
    exact x_iret hC hr hW hS dX9_now_51
  replace h := xf hc1 h
  by_cases hc2 : x1 = 2
  · replace h := xt hc2 h
    refine lv_tableIn (off := 51) (tgt := 52) hC.1 hC.2.1 dX9_now_1 (by rw [hc2]; decide) (by rw [hc2]; decide) (by rw [hc2]; rfl) (by decide) ?_
    refine lv_aload_n hC.1 hC.2.1 dX9_now_52 rfl (lv_at hl 0 rfl) ?_
    refine x_get (C := RX9) (T := TX9) (N := 12) (v := _) hC hW 0 (by decide) rfl rfl uX9 7 (by decide) fl_X9_53 rfl rfl dX9_now_53 ?_
    obtain ⟨⟨q56_r, q56_S⟩, hq, h⟩ := xb h
    try dsimp only at h
    refine x_callV (T := TX1) (N := 2) (As := []) (rest := []) hC hW hS 90 (c_X1_atHome l D b cs _ _ _ hq) (by decide) rfl rfl mi_X1_atHome in_X1_atHome sl_X1_atHome ml_X9_174 ⟨rfl, rfl⟩ ⟨Nat.le_of_ble_eq_true rfl, Nat.le_of_ble_eq_true rfl⟩ ⟨Nat.zero_le _, Nat.zero_le _⟩ rfl rfl hl.1 (Nat.le_of_ble_eq_true rfl) dX9_now_56 (fun H locs hW hS => ?_)
    obtain ⟨rfl, rfl⟩ := xr h
    exact x_iret hC hr hW hS dX9_now_59
  replace h := xf hc2 h
  by_cases hc3 : x1 = 3
  · replace h := xt hc3 h
    refine lv_tableIn (off := 59) (tgt := 60) hC.1 hC.2.1 dX9_now_1 (by rw [hc3]; decide) (by rw [hc3]; decide) (by rw [hc3]; rfl) (by decide) ?_
    refine lv_aload_n hC.1 hC.2.1 dX9_now_60 rfl (lv_at hl 0 rfl) ?_
    refine x_get (C := RX9) (T := TX9) (N := 12) (v := _) hC hW 0 (by decide) rfl rfl uX9 8 (by decide) fl_X9_62 rfl rfl dX9_now_61 ?_
    obtain ⟨⟨q64_r, q64_S⟩, hq, h⟩ := xb h
    try dsimp only at h
    refine x_callV (T := TX4) (N := 2) (As := []) (rest := []) hC hW hS 91 (c_X4_fewestForAll l D b cs _ _ _ hq) (by decide) rfl rfl mi_X4_fewestForAll in_X4_fewestForAll sl_X4_fewestForAll ml_X9_178 ⟨rfl, rfl⟩ ⟨Nat.le_of_ble_eq_true rfl, Nat.le_of_ble_eq_true rfl⟩ ⟨Nat.zero_le _, Nat.zero_le _⟩ rfl rfl hl.1 (Nat.le_of_ble_eq_true rfl) dX9_now_64 (fun H locs hW hS => ?_)
    obtain ⟨rfl, rfl⟩ := xr h
    exact x_iret hC hr hW hS dX9_now_67
  replace h := xf hc3 h
  by_cases hc4 : x1 = 4
  · replace h := xt hc4 h
    refine lv_tableIn (off := 67) (tgt := 68) hC.1 hC.2.1 dX9_now_1 (by rw [hc4]; decide) (by rw [hc4]; decide) (by rw [hc4]; rfl) (by decide) ?_
    refine lv_aload_n hC.1 hC.2.1 dX9_now_68 rfl (lv_at hl 0 rfl) ?_
    refine x_get (C := RX9) (T := TX9) (N := 12) (v := _) hC hW 0 (by decide) rfl rfl uX9 4 (by decide) fl_X9_36 rfl rfl dX9_now_69 ?_
    refine x_get (C := RX6) (T := TX6) (N := 3) (v := _) hC hW 26 (by decide) rfl rfl uX6 2 (by decide) fl_X9_110 rfl rfl dX9_now_72 ?_
    obtain ⟨rfl, rfl⟩ := xr h
    exact x_iret hC hr hW hS dX9_now_75
  replace h := xf hc4 h
  have hn0 : ¬ (x1).toInt = 0 := lv_neT hc0 rfl
  have hn1 : ¬ (x1).toInt = 1 := lv_neT hc1 rfl
  have hn2 : ¬ (x1).toInt = 2 := lv_neT hc2 rfl
  have hn3 : ¬ (x1).toInt = 3 := lv_neT hc3 rfl
  have hn4 : ¬ (x1).toInt = 4 := lv_neT hc4 rfl
  refine lv_tableOut (tgt := 76) hC.1 hC.2.1 dX9_now_1 (by omega) (by decide) ?_
  refine lv_iconst (v := -1) hC.1 hC.2.1 dX9_now_76 (by decide) ?_
  obtain ⟨rfl, rfl⟩ := xr h
  exact x_iret hC hr hW hS dX9_now_77
theorem dX9_goes_0 : decode cX9_goes 0 = .ok (.aload_n 0, 1) := by decide +kernel
theorem dX9_goes_1 : decode cX9_goes 1 = .ok (.iload_n 1, 1) := by decide +kernel
theorem dX9_goes_2 : decode cX9_goes 2 = .ok (.invokevirtual 136, 3) := by decide +kernel
theorem dX9_goes_5 : decode cX9_goes 5 = .ok (.ifCond .eq 11, 3) := by decide +kernel
theorem dX9_goes_8 : decode cX9_goes 8 = .ok (.aload_n 0, 1) := by decide +kernel
theorem dX9_goes_9 : decode cX9_goes 9 = .ok (.iload_n 2, 1) := by decide +kernel
theorem dX9_goes_10 : decode cX9_goes 10 = .ok (.invokevirtual 116, 3) := by decide +kernel
theorem dX9_goes_13 : decode cX9_goes 13 = .ok (.ifCond .ne 5, 3) := by decide +kernel
theorem dX9_goes_16 : decode cX9_goes 16 = .ok (.iconst (-1), 1) := by decide +kernel
theorem dX9_goes_17 : decode cX9_goes 17 = .ok (.ireturn, 1) := by decide +kernel
theorem dX9_goes_18 : decode cX9_goes 18 = .ok (.aload_n 0, 1) := by decide +kernel
theorem dX9_goes_19 : decode cX9_goes 19 = .ok (.getfield 53, 3) := by decide +kernel
theorem dX9_goes_22 : decode cX9_goes 22 = .ok (.iload_n 1, 1) := by decide +kernel
theorem dX9_goes_23 : decode cX9_goes 23 = .ok (.iload_n 2, 1) := by decide +kernel
theorem dX9_goes_24 : decode cX9_goes 24 = .ok (.invokevirtual 181, 3) := by decide +kernel
theorem dX9_goes_27 : decode cX9_goes 27 = .ok (.istore_n 3, 1) := by decide +kernel
theorem dX9_goes_28 : decode cX9_goes 28 = .ok (.iload_n 3, 1) := by decide +kernel
theorem dX9_goes_29 : decode cX9_goes 29 = .ok (.bipush (-9), 2) := by decide +kernel
theorem dX9_goes_31 : decode cX9_goes 31 = .ok (.if_icmp .eq 15, 3) := by decide +kernel
theorem dX9_goes_34 : decode cX9_goes 34 = .ok (.aload_n 0, 1) := by decide +kernel
theorem dX9_goes_35 : decode cX9_goes 35 = .ok (.getfield 53, 3) := by decide +kernel
theorem dX9_goes_38 : decode cX9_goes 38 = .ok (.iload_n 1, 1) := by decide +kernel
theorem dX9_goes_39 : decode cX9_goes 39 = .ok (.iload_n 2, 1) := by decide +kernel
theorem dX9_goes_40 : decode cX9_goes 40 = .ok (.invokevirtual 184, 3) := by decide +kernel
theorem dX9_goes_43 : decode cX9_goes 43 = .ok (.ifCond .ne 6, 3) := by decide +kernel
theorem dX9_goes_46 : decode cX9_goes 46 = .ok (.bipush (-2), 2) := by decide +kernel
theorem dX9_goes_48 : decode cX9_goes 48 = .ok (.ireturn, 1) := by decide +kernel
theorem dX9_goes_49 : decode cX9_goes 49 = .ok (.aload_n 0, 1) := by decide +kernel
theorem dX9_goes_50 : decode cX9_goes 50 = .ok (.getfield 36, 3) := by decide +kernel
theorem dX9_goes_53 : decode cX9_goes 53 = .ok (.aload_n 0, 1) := by decide +kernel
theorem dX9_goes_54 : decode cX9_goes 54 = .ok (.getfield 29, 3) := by decide +kernel
theorem dX9_goes_57 : decode cX9_goes 57 = .ok (.invokevirtual 188, 3) := by decide +kernel
theorem dX9_goes_60 : decode cX9_goes 60 = .ok (.aload_n 0, 1) := by decide +kernel
theorem dX9_goes_61 : decode cX9_goes 61 = .ok (.getfield 29, 3) := by decide +kernel
theorem dX9_goes_64 : decode cX9_goes 64 = .ok (.getfield 156, 3) := by decide +kernel
theorem dX9_goes_67 : decode cX9_goes 67 = .ok (.iload_n 1, 1) := by decide +kernel
theorem dX9_goes_68 : decode cX9_goes 68 = .ok (.iload_n 3, 1) := by decide +kernel
theorem dX9_goes_69 : decode cX9_goes 69 = .ok (.iastore, 1) := by decide +kernel
theorem dX9_goes_70 : decode cX9_goes 70 = .ok (.iload_n 3, 1) := by decide +kernel
theorem dX9_goes_71 : decode cX9_goes 71 = .ok (.ireturn, 1) := by decide +kernel
abbrev rX9_goes : Room := { frames := 4, cells := 0, slots := 0, locals := 89 }
set_option maxHeartbeats 4000000 in
set_option maxRecDepth 100000 in
theorem c_X9_goes (l : Launch) (D : va_G) (b : Nat) (cs : Cs3) (x1 : Int32) (x2 : Int32) (S S1 : St) (r : Int32) (h : p_X9_goes x1 x2 S = some (r, S1)) : Ct l yX9_goes cX9_goes 4 (some .int) rX9_goes D b cs [.ref (b + 0), .int x1, .int x2] S (some (.int r)) S1 := by
  refine x_met (by decide +kernel) (Nat.le_of_ble_eq_true rfl) ?_
  intro p e s m below meth c ls hC hr hW hS hl
  have hl : lv_has ls 4 [(0, .ref (b + 0)), (1, .int x1), (2, .int x2)] := hl
  rw [p_X9_goes] at h
  refine lv_aload_n hC.1 hC.2.1 dX9_goes_0 rfl (lv_at hl 0 rfl) ?_
  refine lv_iload_n hC.1 hC.2.1 dX9_goes_1 rfl (lv_at hl 1 rfl) ?_
  obtain ⟨⟨q2_r, q2_S⟩, hq, h⟩ := xb h
  try dsimp only at h
  refine x_callV (T := TX9) (N := 12) (As := [.int x1]) (rest := []) hC hW hS 0 (c_X9_isBoy l D b cs _ _ _ _ hq) (by decide) rfl rfl mi_X9_isBoy in_X9_isBoy sl_X9_isBoy ml_X9_136 ⟨rfl, rfl⟩ ⟨Nat.le_of_ble_eq_true rfl, Nat.le_of_ble_eq_true rfl⟩ ⟨Nat.zero_le _, Nat.zero_le _⟩ rfl rfl hl.1 (Nat.le_of_ble_eq_true rfl) dX9_goes_2 (fun H locs hW hS => ?_)
  refine lv_if_eq (tgt := 16) hC.1 hC.2.1 dX9_goes_5 (by decide) (fun hc => ?_) (fun hc => ?_)
  · replace h := xt hc h
    refine lv_iconst (v := -1) hC.1 hC.2.1 dX9_goes_16 (by decide) ?_
    obtain ⟨rfl, rfl⟩ := xr h
    exact x_iret hC hr hW hS dX9_goes_17
  · replace h := xf hc h
    refine lv_aload_n hC.1 hC.2.1 dX9_goes_8 rfl (lv_at hl 0 rfl) ?_
    refine lv_iload_n hC.1 hC.2.1 dX9_goes_9 rfl (lv_at hl 2 rfl) ?_
    obtain ⟨⟨q10_r, q10_S⟩, hq, h⟩ := xb h
    try dsimp only at h
    refine x_callV (T := TX9) (N := 12) (As := [.int x2]) (rest := []) hC hW hS 0 (c_X9_isDoor l D b cs _ _ _ _ hq) (by decide) rfl rfl mi_X9_isDoor in_X9_isDoor sl_X9_isDoor ml_X9_116 ⟨rfl, rfl⟩ ⟨Nat.le_of_ble_eq_true rfl, Nat.le_of_ble_eq_true rfl⟩ ⟨Nat.zero_le _, Nat.zero_le _⟩ rfl rfl hl.1 (Nat.le_of_ble_eq_true rfl) dX9_goes_10 (fun H locs hW hS => ?_)
    refine lv_if_ne (tgt := 18) hC.1 hC.2.1 dX9_goes_13 (by decide) (fun hc => ?_) (fun hc => ?_)
    · replace h := xf hc h
      refine lv_aload_n hC.1 hC.2.1 dX9_goes_18 rfl (lv_at hl 0 rfl) ?_
      refine x_get (C := RX9) (T := TX9) (N := 12) (v := _) hC hW 0 (by decide) rfl rfl uX9 7 (by decide) fl_X9_53 rfl rfl dX9_goes_19 ?_
      refine lv_iload_n hC.1 hC.2.1 dX9_goes_22 rfl (lv_at hl 1 rfl) ?_
      refine lv_iload_n hC.1 hC.2.1 dX9_goes_23 rfl (lv_at hl 2 rfl) ?_
      obtain ⟨⟨q24_r, q24_S⟩, hq, h⟩ := xb h
      try dsimp only at h
      refine x_callV (T := TX1) (N := 2) (As := [.int x1, .int x2]) (rest := []) hC hW hS 90 (c_X1_beyond l D b cs _ _ _ _ _ hq) (by decide) rfl rfl mi_X1_beyond in_X1_beyond sl_X1_beyond ml_X9_181 ⟨rfl, rfl⟩ ⟨Nat.le_of_ble_eq_true rfl, Nat.le_of_ble_eq_true rfl⟩ ⟨Nat.zero_le _, Nat.zero_le _⟩ rfl rfl hl.1 (Nat.le_of_ble_eq_true rfl) dX9_goes_24 (fun H locs hW hS => ?_)
      refine lv_istore_n (lv' := [(3, .int q24_r), (0, .ref (b + 0)), (1, .int x1), (2, .int x2)]) hC.1 hC.2.1 dX9_goes_27 rfl hl (by decide) rfl (fun ls hl => ?_)
      refine lv_iload_n hC.1 hC.2.1 dX9_goes_28 rfl (lv_at hl 0 rfl) ?_
      refine lv_bipush (v := -9) hC.1 hC.2.1 dX9_goes_29 (by decide) ?_
      refine lv_icmp_eq (tgt := 46) hC.1 hC.2.1 dX9_goes_31 (by decide) (fun hc => ?_) (fun hc => ?_)
      · replace h := xt hc h
        refine lv_bipush (v := -2) hC.1 hC.2.1 dX9_goes_46 (by decide) ?_
        obtain ⟨rfl, rfl⟩ := xr h
        exact x_iret hC hr hW hS dX9_goes_48
      · replace h := xf hc h
        refine lv_aload_n hC.1 hC.2.1 dX9_goes_34 rfl (lv_at hl 1 rfl) ?_
        refine x_get (C := RX9) (T := TX9) (N := 12) (v := _) hC hW 0 (by decide) rfl rfl uX9 7 (by decide) fl_X9_53 rfl rfl dX9_goes_35 ?_
        refine lv_iload_n hC.1 hC.2.1 dX9_goes_38 rfl (lv_at hl 2 rfl) ?_
        refine lv_iload_n hC.1 hC.2.1 dX9_goes_39 rfl (lv_at hl 3 rfl) ?_
        obtain ⟨⟨q40_r, q40_S⟩, hq, h⟩ := xb h
        try dsimp only at h
        refine x_callV (T := TX1) (N := 2) (As := [.int x1, .int x2]) (rest := []) hC hW hS 90 (c_X1_opens l D b cs _ _ _ _ _ hq) (by decide) rfl rfl mi_X1_opens in_X1_opens sl_X1_opens ml_X9_184 ⟨rfl, rfl⟩ ⟨Nat.le_of_ble_eq_true rfl, Nat.le_of_ble_eq_true rfl⟩ ⟨Nat.zero_le _, Nat.zero_le _⟩ rfl rfl hl.1 (Nat.le_of_ble_eq_true rfl) dX9_goes_40 (fun H locs hW hS => ?_)
        refine lv_if_ne (tgt := 49) hC.1 hC.2.1 dX9_goes_43 (by decide) (fun hc => ?_) (fun hc => ?_)
        · replace h := xf hc h
          refine lv_aload_n hC.1 hC.2.1 dX9_goes_49 rfl (lv_at hl 1 rfl) ?_
          refine x_get (C := RX9) (T := TX9) (N := 12) (v := _) hC hW 0 (by decide) rfl rfl uX9 4 (by decide) fl_X9_36 rfl rfl dX9_goes_50 ?_
          refine lv_aload_n hC.1 hC.2.1 dX9_goes_53 rfl (lv_at hl 1 rfl) ?_
          refine x_get (C := RX9) (T := TX9) (N := 12) (v := _) hC hW 0 (by decide) rfl rfl uX9 3 (by decide) fl_X9_29 rfl rfl dX9_goes_54 ?_
          obtain ⟨q57, hq, h⟩ := xb h
          try dsimp only at h
          refine x_callV (T := TX6) (N := 3) (As := [.ref (b + 21)]) (rest := []) hC hW hS 26 (c_X6_remember l D b cs _ _ hq) (by decide) rfl rfl mi_X6_remember in_X6_remember sl_X6_remember ml_X9_188 ⟨rfl, rfl⟩ ⟨Nat.le_of_ble_eq_true rfl, Nat.le_of_ble_eq_true rfl⟩ ⟨Nat.zero_le _, Nat.zero_le _⟩ rfl rfl hl.1 (Nat.le_of_ble_eq_true rfl) dX9_goes_57 (fun H locs hW hS => ?_)
          refine lv_aload_n hC.1 hC.2.1 dX9_goes_60 rfl (lv_at hl 1 rfl) ?_
          refine x_get (C := RX9) (T := TX9) (N := 12) (v := _) hC hW 0 (by decide) rfl rfl uX9 3 (by decide) fl_X9_29 rfl rfl dX9_goes_61 ?_
          refine x_get (C := RX8) (T := TX8) (N := 6) (v := _) hC hW 21 (by decide) rfl rfl uX8 0 (by decide) fl_X9_156 rfl rfl dX9_goes_64 ?_
          refine lv_iload_n hC.1 hC.2.1 dX9_goes_67 rfl (lv_at hl 2 rfl) ?_
          refine lv_iload_n hC.1 hC.2.1 dX9_goes_68 rfl (lv_at hl 0 rfl) ?_
          obtain ⟨hi, h⟩ := xg h
          refine x_iast hC hW hS 22 (by decide) rfl hi dX9_goes_69 (fun H locs hW hS => ?_)
          refine lv_iload_n hC.1 hC.2.1 dX9_goes_70 rfl (lv_at hl 0 rfl) ?_
          obtain ⟨rfl, rfl⟩ := xr h
          exact x_iret hC hr hW hS dX9_goes_71
        · replace h := xt hc h
          refine lv_bipush (v := -2) hC.1 hC.2.1 dX9_goes_46 (by decide) ?_
          obtain ⟨rfl, rfl⟩ := xr h
          exact x_iret hC hr hW hS dX9_goes_48
    · replace h := xt hc h
      refine lv_iconst (v := -1) hC.1 hC.2.1 dX9_goes_16 (by decide) ?_
      obtain ⟨rfl, rfl⟩ := xr h
      exact x_iret hC hr hW hS dX9_goes_17
theorem dX9_colds_0 : decode cX9_colds 0 = .ok (.aload_n 0, 1) := by decide +kernel
theorem dX9_colds_1 : decode cX9_colds 1 = .ok (.iload_n 1, 1) := by decide +kernel
theorem dX9_colds_2 : decode cX9_colds 2 = .ok (.invokevirtual 136, 3) := by decide +kernel
theorem dX9_colds_5 : decode cX9_colds 5 = .ok (.ifCond .eq 13, 3) := by decide +kernel
theorem dX9_colds_8 : decode cX9_colds 8 = .ok (.iload_n 2, 1) := by decide +kernel
theorem dX9_colds_9 : decode cX9_colds 9 = .ok (.iconst 0, 1) := by decide +kernel
theorem dX9_colds_10 : decode cX9_colds 10 = .ok (.bipush 9, 2) := by decide +kernel
theorem dX9_colds_12 : decode cX9_colds 12 = .ok (.invokestatic 87, 3) := by decide +kernel
theorem dX9_colds_15 : decode cX9_colds 15 = .ok (.ifCond .ne 5, 3) := by decide +kernel
theorem dX9_colds_18 : decode cX9_colds 18 = .ok (.iconst (-1), 1) := by decide +kernel
theorem dX9_colds_19 : decode cX9_colds 19 = .ok (.ireturn, 1) := by decide +kernel
theorem dX9_colds_20 : decode cX9_colds 20 = .ok (.aload_n 0, 1) := by decide +kernel
theorem dX9_colds_21 : decode cX9_colds 21 = .ok (.getfield 29, 3) := by decide +kernel
theorem dX9_colds_24 : decode cX9_colds 24 = .ok (.getfield 159, 3) := by decide +kernel
theorem dX9_colds_27 : decode cX9_colds 27 = .ok (.iload_n 1, 1) := by decide +kernel
theorem dX9_colds_28 : decode cX9_colds 28 = .ok (.iaload, 1) := by decide +kernel
theorem dX9_colds_29 : decode cX9_colds 29 = .ok (.istore_n 3, 1) := by decide +kernel
theorem dX9_colds_30 : decode cX9_colds 30 = .ok (.iload_n 3, 1) := by decide +kernel
theorem dX9_colds_31 : decode cX9_colds 31 = .ok (.iload_n 2, 1) := by decide +kernel
theorem dX9_colds_32 : decode cX9_colds 32 = .ok (.if_icmp .ne 6, 3) := by decide +kernel
theorem dX9_colds_35 : decode cX9_colds 35 = .ok (.bipush (-2), 2) := by decide +kernel
theorem dX9_colds_37 : decode cX9_colds 37 = .ok (.ireturn, 1) := by decide +kernel
theorem dX9_colds_38 : decode cX9_colds 38 = .ok (.aload_n 0, 1) := by decide +kernel
theorem dX9_colds_39 : decode cX9_colds 39 = .ok (.getfield 36, 3) := by decide +kernel
theorem dX9_colds_42 : decode cX9_colds 42 = .ok (.aload_n 0, 1) := by decide +kernel
theorem dX9_colds_43 : decode cX9_colds 43 = .ok (.getfield 29, 3) := by decide +kernel
theorem dX9_colds_46 : decode cX9_colds 46 = .ok (.invokevirtual 188, 3) := by decide +kernel
theorem dX9_colds_49 : decode cX9_colds 49 = .ok (.aload_n 0, 1) := by decide +kernel
theorem dX9_colds_50 : decode cX9_colds 50 = .ok (.getfield 29, 3) := by decide +kernel
theorem dX9_colds_53 : decode cX9_colds 53 = .ok (.getfield 159, 3) := by decide +kernel
theorem dX9_colds_56 : decode cX9_colds 56 = .ok (.iload_n 1, 1) := by decide +kernel
theorem dX9_colds_57 : decode cX9_colds 57 = .ok (.iload_n 2, 1) := by decide +kernel
theorem dX9_colds_58 : decode cX9_colds 58 = .ok (.iastore, 1) := by decide +kernel
theorem dX9_colds_59 : decode cX9_colds 59 = .ok (.iload_n 3, 1) := by decide +kernel
theorem dX9_colds_60 : decode cX9_colds 60 = .ok (.ireturn, 1) := by decide +kernel
abbrev rX9_colds : Room := { frames := 2, cells := 0, slots := 0, locals := 43 }
set_option maxHeartbeats 4000000 in
set_option maxRecDepth 100000 in
theorem c_X9_colds (l : Launch) (D : va_G) (b : Nat) (cs : Cs3) (x1 : Int32) (x2 : Int32) (S S1 : St) (r : Int32) (h : p_X9_colds x1 x2 S = some (r, S1)) : Ct l yX9_colds cX9_colds 4 (some .int) rX9_colds D b cs [.ref (b + 0), .int x1, .int x2] S (some (.int r)) S1 := by
  refine x_met (by decide +kernel) (Nat.le_of_ble_eq_true rfl) ?_
  intro p e s m below meth c ls hC hr hW hS hl
  have hl : lv_has ls 4 [(0, .ref (b + 0)), (1, .int x1), (2, .int x2)] := hl
  rw [p_X9_colds] at h
  refine lv_aload_n hC.1 hC.2.1 dX9_colds_0 rfl (lv_at hl 0 rfl) ?_
  refine lv_iload_n hC.1 hC.2.1 dX9_colds_1 rfl (lv_at hl 1 rfl) ?_
  obtain ⟨⟨q2_r, q2_S⟩, hq, h⟩ := xb h
  try dsimp only at h
  refine x_callV (T := TX9) (N := 12) (As := [.int x1]) (rest := []) hC hW hS 0 (c_X9_isBoy l D b cs _ _ _ _ hq) (by decide) rfl rfl mi_X9_isBoy in_X9_isBoy sl_X9_isBoy ml_X9_136 ⟨rfl, rfl⟩ ⟨Nat.le_of_ble_eq_true rfl, Nat.le_of_ble_eq_true rfl⟩ ⟨Nat.zero_le _, Nat.zero_le _⟩ rfl rfl hl.1 (Nat.le_of_ble_eq_true rfl) dX9_colds_2 (fun H locs hW hS => ?_)
  refine lv_if_eq (tgt := 18) hC.1 hC.2.1 dX9_colds_5 (by decide) (fun hc => ?_) (fun hc => ?_)
  · replace h := xt hc h
    refine lv_iconst (v := -1) hC.1 hC.2.1 dX9_colds_18 (by decide) ?_
    obtain ⟨rfl, rfl⟩ := xr h
    exact x_iret hC hr hW hS dX9_colds_19
  · replace h := xf hc h
    refine lv_iload_n hC.1 hC.2.1 dX9_colds_8 rfl (lv_at hl 2 rfl) ?_
    refine lv_iconst (v := 0) hC.1 hC.2.1 dX9_colds_9 (by decide) ?_
    refine lv_bipush (v := 9) hC.1 hC.2.1 dX9_colds_10 (by decide) ?_
    obtain ⟨⟨q12_r, q12_S⟩, hq, h⟩ := xb h
    try dsimp only at h
    refine x_callS (As := [.int x2, .int (0 : Int32), .int (9 : Int32)]) (rest := []) hC hW hS (c_X9_within l D b cs _ _ _ _ _ _ hq) mi_X9_within st_X9_within ml_X9_87 ⟨rfl, rfl⟩ ⟨Nat.le_of_ble_eq_true rfl, Nat.le_of_ble_eq_true rfl⟩ ⟨Nat.zero_le _, Nat.zero_le _⟩ rfl rfl hl.1 (Nat.le_of_ble_eq_true rfl) dX9_colds_12 (fun H locs hW hS => ?_)
    refine lv_if_ne (tgt := 20) hC.1 hC.2.1 dX9_colds_15 (by decide) (fun hc => ?_) (fun hc => ?_)
    · replace h := xf hc h
      refine lv_aload_n hC.1 hC.2.1 dX9_colds_20 rfl (lv_at hl 0 rfl) ?_
      refine x_get (C := RX9) (T := TX9) (N := 12) (v := _) hC hW 0 (by decide) rfl rfl uX9 3 (by decide) fl_X9_29 rfl rfl dX9_colds_21 ?_
      refine x_get (C := RX8) (T := TX8) (N := 6) (v := _) hC hW 21 (by decide) rfl rfl uX8 2 (by decide) fl_X9_159 rfl rfl dX9_colds_24 ?_
      refine lv_iload_n hC.1 hC.2.1 dX9_colds_27 rfl (lv_at hl 1 rfl) ?_
      obtain ⟨hi, h⟩ := xg h
      refine x_iald hC hW 24 (by decide) rfl hi dX9_colds_28 ?_
      refine lv_istore_n (lv' := [(3, .int (q12_S.1 24 x1.toNatClampNeg)), (0, .ref (b + 0)), (1, .int x1), (2, .int x2)]) hC.1 hC.2.1 dX9_colds_29 rfl hl (by decide) rfl (fun ls hl => ?_)
      refine lv_iload_n hC.1 hC.2.1 dX9_colds_30 rfl (lv_at hl 0 rfl) ?_
      refine lv_iload_n hC.1 hC.2.1 dX9_colds_31 rfl (lv_at hl 3 rfl) ?_
      refine lv_icmp_ne (tgt := 38) hC.1 hC.2.1 dX9_colds_32 (by decide) (fun hc => ?_) (fun hc => ?_)
      · replace h := xf hc h
        refine lv_aload_n hC.1 hC.2.1 dX9_colds_38 rfl (lv_at hl 1 rfl) ?_
        refine x_get (C := RX9) (T := TX9) (N := 12) (v := _) hC hW 0 (by decide) rfl rfl uX9 4 (by decide) fl_X9_36 rfl rfl dX9_colds_39 ?_
        refine lv_aload_n hC.1 hC.2.1 dX9_colds_42 rfl (lv_at hl 1 rfl) ?_
        refine x_get (C := RX9) (T := TX9) (N := 12) (v := _) hC hW 0 (by decide) rfl rfl uX9 3 (by decide) fl_X9_29 rfl rfl dX9_colds_43 ?_
        obtain ⟨q46, hq, h⟩ := xb h
        try dsimp only at h
        refine x_callV (T := TX6) (N := 3) (As := [.ref (b + 21)]) (rest := []) hC hW hS 26 (c_X6_remember l D b cs _ _ hq) (by decide) rfl rfl mi_X6_remember in_X6_remember sl_X6_remember ml_X9_188 ⟨rfl, rfl⟩ ⟨Nat.le_of_ble_eq_true rfl, Nat.le_of_ble_eq_true rfl⟩ ⟨Nat.zero_le _, Nat.zero_le _⟩ rfl rfl hl.1 (Nat.le_of_ble_eq_true rfl) dX9_colds_46 (fun H locs hW hS => ?_)
        refine lv_aload_n hC.1 hC.2.1 dX9_colds_49 rfl (lv_at hl 1 rfl) ?_
        refine x_get (C := RX9) (T := TX9) (N := 12) (v := _) hC hW 0 (by decide) rfl rfl uX9 3 (by decide) fl_X9_29 rfl rfl dX9_colds_50 ?_
        refine x_get (C := RX8) (T := TX8) (N := 6) (v := _) hC hW 21 (by decide) rfl rfl uX8 2 (by decide) fl_X9_159 rfl rfl dX9_colds_53 ?_
        refine lv_iload_n hC.1 hC.2.1 dX9_colds_56 rfl (lv_at hl 2 rfl) ?_
        refine lv_iload_n hC.1 hC.2.1 dX9_colds_57 rfl (lv_at hl 3 rfl) ?_
        obtain ⟨hi, h⟩ := xg h
        refine x_iast hC hW hS 24 (by decide) rfl hi dX9_colds_58 (fun H locs hW hS => ?_)
        refine lv_iload_n hC.1 hC.2.1 dX9_colds_59 rfl (lv_at hl 0 rfl) ?_
        obtain ⟨rfl, rfl⟩ := xr h
        exact x_iret hC hr hW hS dX9_colds_60
      · replace h := xt hc h
        refine lv_bipush (v := -2) hC.1 hC.2.1 dX9_colds_35 (by decide) ?_
        obtain ⟨rfl, rfl⟩ := xr h
        exact x_iret hC hr hW hS dX9_colds_37
    · replace h := xt hc h
      refine lv_iconst (v := -1) hC.1 hC.2.1 dX9_colds_18 (by decide) ?_
      obtain ⟨rfl, rfl⟩ := xr h
      exact x_iret hC hr hW hS dX9_colds_19
theorem dX9_props_0 : decode cX9_props 0 = .ok (.aload_n 0, 1) := by decide +kernel
theorem dX9_props_1 : decode cX9_props 1 = .ok (.iload_n 1, 1) := by decide +kernel
theorem dX9_props_2 : decode cX9_props 2 = .ok (.invokevirtual 116, 3) := by decide +kernel
theorem dX9_props_5 : decode cX9_props 5 = .ok (.ifCond .eq 12, 3) := by decide +kernel
theorem dX9_props_8 : decode cX9_props 8 = .ok (.iload_n 2, 1) := by decide +kernel
theorem dX9_props_9 : decode cX9_props 9 = .ok (.iconst 0, 1) := by decide +kernel
theorem dX9_props_10 : decode cX9_props 10 = .ok (.iconst 1, 1) := by decide +kernel
theorem dX9_props_11 : decode cX9_props 11 = .ok (.invokestatic 87, 3) := by decide +kernel
theorem dX9_props_14 : decode cX9_props 14 = .ok (.ifCond .ne 5, 3) := by decide +kernel
theorem dX9_props_17 : decode cX9_props 17 = .ok (.iconst (-1), 1) := by decide +kernel
theorem dX9_props_18 : decode cX9_props 18 = .ok (.ireturn, 1) := by decide +kernel
theorem dX9_props_19 : decode cX9_props 19 = .ok (.aload_n 0, 1) := by decide +kernel
theorem dX9_props_20 : decode cX9_props 20 = .ok (.getfield 29, 3) := by decide +kernel
theorem dX9_props_23 : decode cX9_props 23 = .ok (.getfield 129, 3) := by decide +kernel
theorem dX9_props_26 : decode cX9_props 26 = .ok (.iload_n 1, 1) := by decide +kernel
theorem dX9_props_27 : decode cX9_props 27 = .ok (.ishr, 1) := by decide +kernel
theorem dX9_props_28 : decode cX9_props 28 = .ok (.iconst 1, 1) := by decide +kernel
theorem dX9_props_29 : decode cX9_props 29 = .ok (.iand, 1) := by decide +kernel
theorem dX9_props_30 : decode cX9_props 30 = .ok (.iload_n 2, 1) := by decide +kernel
theorem dX9_props_31 : decode cX9_props 31 = .ok (.if_icmp .ne 6, 3) := by decide +kernel
theorem dX9_props_34 : decode cX9_props 34 = .ok (.bipush (-2), 2) := by decide +kernel
theorem dX9_props_36 : decode cX9_props 36 = .ok (.ireturn, 1) := by decide +kernel
theorem dX9_props_37 : decode cX9_props 37 = .ok (.aload_n 0, 1) := by decide +kernel
theorem dX9_props_38 : decode cX9_props 38 = .ok (.getfield 36, 3) := by decide +kernel
theorem dX9_props_41 : decode cX9_props 41 = .ok (.aload_n 0, 1) := by decide +kernel
theorem dX9_props_42 : decode cX9_props 42 = .ok (.getfield 29, 3) := by decide +kernel
theorem dX9_props_45 : decode cX9_props 45 = .ok (.invokevirtual 188, 3) := by decide +kernel
theorem dX9_props_48 : decode cX9_props 48 = .ok (.aload_n 0, 1) := by decide +kernel
theorem dX9_props_49 : decode cX9_props 49 = .ok (.getfield 29, 3) := by decide +kernel
theorem dX9_props_52 : decode cX9_props 52 = .ok (.dup, 1) := by decide +kernel
theorem dX9_props_53 : decode cX9_props 53 = .ok (.getfield 129, 3) := by decide +kernel
theorem dX9_props_56 : decode cX9_props 56 = .ok (.iconst 1, 1) := by decide +kernel
theorem dX9_props_57 : decode cX9_props 57 = .ok (.iload_n 1, 1) := by decide +kernel
theorem dX9_props_58 : decode cX9_props 58 = .ok (.ishl, 1) := by decide +kernel
theorem dX9_props_59 : decode cX9_props 59 = .ok (.ixor, 1) := by decide +kernel
theorem dX9_props_60 : decode cX9_props 60 = .ok (.putfield 129, 3) := by decide +kernel
theorem dX9_props_63 : decode cX9_props 63 = .ok (.aload_n 0, 1) := by decide +kernel
theorem dX9_props_64 : decode cX9_props 64 = .ok (.getfield 29, 3) := by decide +kernel
theorem dX9_props_67 : decode cX9_props 67 = .ok (.getfield 129, 3) := by decide +kernel
theorem dX9_props_70 : decode cX9_props 70 = .ok (.invokestatic 192, 3) := by decide +kernel
theorem dX9_props_73 : decode cX9_props 73 = .ok (.ireturn, 1) := by decide +kernel
abbrev rX9_props : Room := { frames := 2, cells := 0, slots := 0, locals := 43 }
set_option maxHeartbeats 4000000 in
set_option maxRecDepth 100000 in
theorem c_X9_props (l : Launch) (D : va_G) (b : Nat) (cs : Cs3) (x1 : Int32) (x2 : Int32) (S S1 : St) (r : Int32) (h : p_X9_props x1 x2 S = some (r, S1)) : Ct l yX9_props cX9_props 3 (some .int) rX9_props D b cs [.ref (b + 0), .int x1, .int x2] S (some (.int r)) S1 := by
  refine x_met (by decide +kernel) (Nat.le_of_ble_eq_true rfl) ?_
  intro p e s m below meth c ls hC hr hW hS hl
  have hl : lv_has ls 3 [(0, .ref (b + 0)), (1, .int x1), (2, .int x2)] := hl
  rw [p_X9_props] at h
  refine lv_aload_n hC.1 hC.2.1 dX9_props_0 rfl (lv_at hl 0 rfl) ?_
  refine lv_iload_n hC.1 hC.2.1 dX9_props_1 rfl (lv_at hl 1 rfl) ?_
  obtain ⟨⟨q2_r, q2_S⟩, hq, h⟩ := xb h
  try dsimp only at h
  refine x_callV (T := TX9) (N := 12) (As := [.int x1]) (rest := []) hC hW hS 0 (c_X9_isDoor l D b cs _ _ _ _ hq) (by decide) rfl rfl mi_X9_isDoor in_X9_isDoor sl_X9_isDoor ml_X9_116 ⟨rfl, rfl⟩ ⟨Nat.le_of_ble_eq_true rfl, Nat.le_of_ble_eq_true rfl⟩ ⟨Nat.zero_le _, Nat.zero_le _⟩ rfl rfl hl.1 (Nat.le_of_ble_eq_true rfl) dX9_props_2 (fun H locs hW hS => ?_)
  refine lv_if_eq (tgt := 17) hC.1 hC.2.1 dX9_props_5 (by decide) (fun hc => ?_) (fun hc => ?_)
  · replace h := xt hc h
    refine lv_iconst (v := -1) hC.1 hC.2.1 dX9_props_17 (by decide) ?_
    obtain ⟨rfl, rfl⟩ := xr h
    exact x_iret hC hr hW hS dX9_props_18
  · replace h := xf hc h
    refine lv_iload_n hC.1 hC.2.1 dX9_props_8 rfl (lv_at hl 2 rfl) ?_
    refine lv_iconst (v := 0) hC.1 hC.2.1 dX9_props_9 (by decide) ?_
    refine lv_iconst (v := 1) hC.1 hC.2.1 dX9_props_10 (by decide) ?_
    obtain ⟨⟨q11_r, q11_S⟩, hq, h⟩ := xb h
    try dsimp only at h
    refine x_callS (As := [.int x2, .int (0 : Int32), .int (1 : Int32)]) (rest := []) hC hW hS (c_X9_within l D b cs _ _ _ _ _ _ hq) mi_X9_within st_X9_within ml_X9_87 ⟨rfl, rfl⟩ ⟨Nat.le_of_ble_eq_true rfl, Nat.le_of_ble_eq_true rfl⟩ ⟨Nat.zero_le _, Nat.zero_le _⟩ rfl rfl hl.1 (Nat.le_of_ble_eq_true rfl) dX9_props_11 (fun H locs hW hS => ?_)
    refine lv_if_ne (tgt := 19) hC.1 hC.2.1 dX9_props_14 (by decide) (fun hc => ?_) (fun hc => ?_)
    · replace h := xf hc h
      refine lv_aload_n hC.1 hC.2.1 dX9_props_19 rfl (lv_at hl 0 rfl) ?_
      refine x_get (C := RX9) (T := TX9) (N := 12) (v := _) hC hW 0 (by decide) rfl rfl uX9 3 (by decide) fl_X9_29 rfl rfl dX9_props_20 ?_
      refine x_get (C := RX8) (T := TX8) (N := 6) (v := _) hC hW 21 (by decide) rfl rfl uX8 4 (by decide) fl_X9_129 rfl rfl dX9_props_23 ?_
      refine lv_iload_n hC.1 hC.2.1 dX9_props_26 rfl (lv_at hl 1 rfl) ?_
      refine lv_ishr hC.1 hC.2.1 dX9_props_27 ?_
      refine lv_iconst (v := 1) hC.1 hC.2.1 dX9_props_28 (by decide) ?_
      refine lv_iand hC.1 hC.2.1 dX9_props_29 ?_
      refine lv_iload_n hC.1 hC.2.1 dX9_props_30 rfl (lv_at hl 2 rfl) ?_
      refine lv_icmp_ne (tgt := 37) hC.1 hC.2.1 dX9_props_31 (by decide) (fun hc => ?_) (fun hc => ?_)
      · replace h := xf hc h
        refine lv_aload_n hC.1 hC.2.1 dX9_props_37 rfl (lv_at hl 0 rfl) ?_
        refine x_get (C := RX9) (T := TX9) (N := 12) (v := _) hC hW 0 (by decide) rfl rfl uX9 4 (by decide) fl_X9_36 rfl rfl dX9_props_38 ?_
        refine lv_aload_n hC.1 hC.2.1 dX9_props_41 rfl (lv_at hl 0 rfl) ?_
        refine x_get (C := RX9) (T := TX9) (N := 12) (v := _) hC hW 0 (by decide) rfl rfl uX9 3 (by decide) fl_X9_29 rfl rfl dX9_props_42 ?_
        obtain ⟨q45, hq, h⟩ := xb h
        try dsimp only at h
        refine x_callV (T := TX6) (N := 3) (As := [.ref (b + 21)]) (rest := []) hC hW hS 26 (c_X6_remember l D b cs _ _ hq) (by decide) rfl rfl mi_X6_remember in_X6_remember sl_X6_remember ml_X9_188 ⟨rfl, rfl⟩ ⟨Nat.le_of_ble_eq_true rfl, Nat.le_of_ble_eq_true rfl⟩ ⟨Nat.zero_le _, Nat.zero_le _⟩ rfl rfl hl.1 (Nat.le_of_ble_eq_true rfl) dX9_props_45 (fun H locs hW hS => ?_)
        refine lv_aload_n hC.1 hC.2.1 dX9_props_48 rfl (lv_at hl 0 rfl) ?_
        refine x_get (C := RX9) (T := TX9) (N := 12) (v := _) hC hW 0 (by decide) rfl rfl uX9 3 (by decide) fl_X9_29 rfl rfl dX9_props_49 ?_
        refine lv_dup hC.1 hC.2.1 dX9_props_52 rfl ?_
        refine x_get (C := RX8) (T := TX8) (N := 6) (v := _) hC hW 21 (by decide) rfl rfl uX8 4 (by decide) fl_X9_129 rfl rfl dX9_props_53 ?_
        refine lv_iconst (v := 1) hC.1 hC.2.1 dX9_props_56 (by decide) ?_
        refine lv_iload_n hC.1 hC.2.1 dX9_props_57 rfl (lv_at hl 1 rfl) ?_
        refine lv_ishl hC.1 hC.2.1 dX9_props_58 ?_
        refine lv_ixor hC.1 hC.2.1 dX9_props_59 ?_
        refine x_puti (C := RX8) (T := TX8) (N := 6) (ty := .int) hC hW hS 21 (by decide) rfl rfl uX8 tyX8 tyX8_ok nmX8 4 (by decide) fl_X9_129 rfl (by decide +kernel) rfl rfl rfl dX9_props_60 (fun H locs hW hS => ?_)
        refine lv_aload_n hC.1 hC.2.1 dX9_props_63 rfl (lv_at hl 0 rfl) ?_
        refine x_get (C := RX9) (T := TX9) (N := 12) (v := _) hC hW 0 (by decide) rfl rfl uX9 3 (by decide) fl_X9_29 rfl rfl dX9_props_64 ?_
        refine x_get (C := RX8) (T := TX8) (N := 6) (v := _) hC hW 21 (by decide) rfl rfl uX8 4 (by decide) fl_X9_129 rfl rfl dX9_props_67 ?_
        obtain ⟨⟨q70_r, q70_S⟩, hq, h⟩ := xb h
        try dsimp only at h
        refine x_callS (As := [.int ((sI q45 21 4 ((q45.1 21 4) ^^^ ((1 : Int32) <<< (x1 &&& 31)))).1 21 4)]) (rest := []) hC hW hS (c_J6_bitCount_0f7a4 l D b cs _ _ _ _ hq) mi_J6_bitCount_0f7a4 st_J6_bitCount_0f7a4 ml_X9_192 ⟨rfl, rfl⟩ ⟨Nat.le_of_ble_eq_true rfl, Nat.le_of_ble_eq_true rfl⟩ ⟨Nat.zero_le _, Nat.zero_le _⟩ rfl rfl hl.1 (Nat.le_of_ble_eq_true rfl) dX9_props_70 (fun H locs hW hS => ?_)
        obtain ⟨rfl, rfl⟩ := xr h
        exact x_iret hC hr hW hS dX9_props_73
      · replace h := xt hc h
        refine lv_bipush (v := -2) hC.1 hC.2.1 dX9_props_34 (by decide) ?_
        obtain ⟨rfl, rfl⟩ := xr h
        exact x_iret hC hr hW hS dX9_props_36
    · replace h := xt hc h
      refine lv_iconst (v := -1) hC.1 hC.2.1 dX9_props_17 (by decide) ?_
      obtain ⟨rfl, rfl⟩ := xr h
      exact x_iret hC hr hW hS dX9_props_18
theorem dX9_year_0 : decode cX9_year 0 = .ok (.aload_n 0, 1) := by decide +kernel
theorem dX9_year_1 : decode cX9_year 1 = .ok (.getfield 29, 3) := by decide +kernel
theorem dX9_year_4 : decode cX9_year 4 = .ok (.getfield 171, 3) := by decide +kernel
theorem dX9_year_7 : decode cX9_year 7 = .ok (.bipush 99, 2) := by decide +kernel
theorem dX9_year_9 : decode cX9_year 9 = .ok (.if_icmp .lt 6, 3) := by decide +kernel
theorem dX9_year_12 : decode cX9_year 12 = .ok (.bipush (-2), 2) := by decide +kernel
theorem dX9_year_14 : decode cX9_year 14 = .ok (.ireturn, 1) := by decide +kernel
theorem dX9_year_15 : decode cX9_year 15 = .ok (.aload_n 0, 1) := by decide +kernel
theorem dX9_year_16 : decode cX9_year 16 = .ok (.getfield 36, 3) := by decide +kernel
theorem dX9_year_19 : decode cX9_year 19 = .ok (.aload_n 0, 1) := by decide +kernel
theorem dX9_year_20 : decode cX9_year 20 = .ok (.getfield 29, 3) := by decide +kernel
theorem dX9_year_23 : decode cX9_year 23 = .ok (.invokevirtual 188, 3) := by decide +kernel
theorem dX9_year_26 : decode cX9_year 26 = .ok (.aload_n 0, 1) := by decide +kernel
theorem dX9_year_27 : decode cX9_year 27 = .ok (.getfield 29, 3) := by decide +kernel
theorem dX9_year_30 : decode cX9_year 30 = .ok (.dup, 1) := by decide +kernel
theorem dX9_year_31 : decode cX9_year 31 = .ok (.getfield 171, 3) := by decide +kernel
theorem dX9_year_34 : decode cX9_year 34 = .ok (.iconst 1, 1) := by decide +kernel
theorem dX9_year_35 : decode cX9_year 35 = .ok (.iadd, 1) := by decide +kernel
theorem dX9_year_36 : decode cX9_year 36 = .ok (.putfield 171, 3) := by decide +kernel
theorem dX9_year_39 : decode cX9_year 39 = .ok (.iconst 0, 1) := by decide +kernel
theorem dX9_year_40 : decode cX9_year 40 = .ok (.istore_n 1, 1) := by decide +kernel
theorem dX9_year_41 : decode cX9_year 41 = .ok (.iconst 0, 1) := by decide +kernel
theorem dX9_year_42 : decode cX9_year 42 = .ok (.istore_n 2, 1) := by decide +kernel
theorem dX9_year_43 : decode cX9_year 43 = .ok (.iload_n 2, 1) := by decide +kernel
theorem dX9_year_44 : decode cX9_year 44 = .ok (.aload_n 0, 1) := by decide +kernel
theorem dX9_year_45 : decode cX9_year 45 = .ok (.getfield 19, 3) := by decide +kernel
theorem dX9_year_48 : decode cX9_year 48 = .ok (.getfield 197, 3) := by decide +kernel
theorem dX9_year_51 : decode cX9_year 51 = .ok (.if_icmp .ge 56, 3) := by decide +kernel
theorem dX9_year_54 : decode cX9_year 54 = .ok (.aload_n 0, 1) := by decide +kernel
theorem dX9_year_55 : decode cX9_year 55 = .ok (.getfield 29, 3) := by decide +kernel
theorem dX9_year_58 : decode cX9_year 58 = .ok (.getfield 147, 3) := by decide +kernel
theorem dX9_year_61 : decode cX9_year 61 = .ok (.iload_n 2, 1) := by decide +kernel
theorem dX9_year_62 : decode cX9_year 62 = .ok (.dup2, 1) := by decide +kernel
theorem dX9_year_63 : decode cX9_year 63 = .ok (.iaload, 1) := by decide +kernel
theorem dX9_year_64 : decode cX9_year 64 = .ok (.iconst 1, 1) := by decide +kernel
theorem dX9_year_65 : decode cX9_year 65 = .ok (.iadd, 1) := by decide +kernel
theorem dX9_year_66 : decode cX9_year 66 = .ok (.iastore, 1) := by decide +kernel
theorem dX9_year_67 : decode cX9_year 67 = .ok (.aload_n 0, 1) := by decide +kernel
theorem dX9_year_68 : decode cX9_year 68 = .ok (.getfield 29, 3) := by decide +kernel
theorem dX9_year_71 : decode cX9_year 71 = .ok (.getfield 159, 3) := by decide +kernel
theorem dX9_year_74 : decode cX9_year 74 = .ok (.iload_n 2, 1) := by decide +kernel
theorem dX9_year_75 : decode cX9_year 75 = .ok (.iconst 0, 1) := by decide +kernel
theorem dX9_year_76 : decode cX9_year 76 = .ok (.iastore, 1) := by decide +kernel
theorem dX9_year_77 : decode cX9_year 77 = .ok (.aload_n 0, 1) := by decide +kernel
theorem dX9_year_78 : decode cX9_year 78 = .ok (.getfield 29, 3) := by decide +kernel
theorem dX9_year_81 : decode cX9_year 81 = .ok (.getfield 147, 3) := by decide +kernel
theorem dX9_year_84 : decode cX9_year 84 = .ok (.iload_n 2, 1) := by decide +kernel
theorem dX9_year_85 : decode cX9_year 85 = .ok (.iaload, 1) := by decide +kernel
theorem dX9_year_86 : decode cX9_year 86 = .ok (.aload_n 0, 1) := by decide +kernel
theorem dX9_year_87 : decode cX9_year 87 = .ok (.getfield 19, 3) := by decide +kernel
theorem dX9_year_90 : decode cX9_year 90 = .ok (.getfield 150, 3) := by decide +kernel
theorem dX9_year_93 : decode cX9_year 93 = .ok (.iload_n 2, 1) := by decide +kernel
theorem dX9_year_94 : decode cX9_year 94 = .ok (.iaload, 1) := by decide +kernel
theorem dX9_year_95 : decode cX9_year 95 = .ok (.if_icmp .ne 6, 3) := by decide +kernel
theorem dX9_year_98 : decode cX9_year 98 = .ok (.iinc 1 1, 3) := by decide +kernel
theorem dX9_year_101 : decode cX9_year 101 = .ok (.iinc 2 1, 3) := by decide +kernel
theorem dX9_year_104 : decode cX9_year 104 = .ok (.goto (-61), 3) := by decide +kernel
theorem dX9_year_107 : decode cX9_year 107 = .ok (.iload_n 1, 1) := by decide +kernel
theorem dX9_year_108 : decode cX9_year 108 = .ok (.ireturn, 1) := by decide +kernel
abbrev rX9_year : Room := { frames := 2, cells := 0, slots := 0, locals := 43 }
set_option maxHeartbeats 4000000 in
set_option maxRecDepth 100000 in
theorem w_X9_year_43 {p : Program} {l : Launch} {e : Env} {s : State} {m : MethodId} {args : Array Value} {below : List Frame} {meth : Method} {c : Code} {D : va_G} {b : Nat} {cs : Cs3} {r : Int32} {S1 : St} (hC : CX p s m args meth c RX9 cX9_year 3 D cs) (hr : meth.sig.returnType = (some .int)) : ∀ (n : Nat) (x1 : Int32) (x2 : Int32) (S : St) (H : Heap) (locs : List Loc) (ls : Array Slot), q_X9_year_43 n x1 x2 S = some (r, S1) → Wd D b cs S H → va_S (AA b) s.heap H locs → lv_has ls 3 [(0, .ref (b + 0)), (1, .int x1), (2, .int x2)] → W p l e rX9_year s m args below meth c H locs 0 0 (MQ below (QX D b cs (some (.int r)) S1) args s 0 0 (AA b)) (F0 m 43 ls []) := by
  intro n
  induction n with
  | zero =>
    intro x1 x2 S H locs ls h
    exact absurd h (by rw [q_X9_year_43]; exact fun q => nomatch q)
  | succ n IH =>
    intro x1 x2 S H locs ls h hW hS hl
    rw [q_X9_year_43] at h
    refine lv_iload_n hC.1 hC.2.1 dX9_year_43 rfl (lv_at hl 2 rfl) ?_
    refine lv_aload_n hC.1 hC.2.1 dX9_year_44 rfl (lv_at hl 0 rfl) ?_
    refine x_get (C := RX9) (T := TX9) (N := 12) (v := _) hC hW 0 (by decide) rfl rfl uX9 1 (by decide) fl_X9_19 rfl rfl dX9_year_45 ?_
    refine x_get (C := RX2) (T := TX2) (N := 12) (v := _) hC hW 3 (by decide) rfl rfl uX2 2 (by decide) fl_X9_197 rfl rfl dX9_year_48 ?_
    refine lv_icmp_ge (tgt := 107) hC.1 hC.2.1 dX9_year_51 (by decide) (fun hc => ?_) (fun hc => ?_)
    · replace h := xt hc h
      refine lv_iload_n hC.1 hC.2.1 dX9_year_107 rfl (lv_at hl 1 rfl) ?_
      obtain ⟨rfl, rfl⟩ := xr h
      exact x_iret hC hr hW hS dX9_year_108
    · replace h := xf hc h
      refine lv_aload_n hC.1 hC.2.1 dX9_year_54 rfl (lv_at hl 0 rfl) ?_
      refine x_get (C := RX9) (T := TX9) (N := 12) (v := _) hC hW 0 (by decide) rfl rfl uX9 3 (by decide) fl_X9_29 rfl rfl dX9_year_55 ?_
      refine x_get (C := RX8) (T := TX8) (N := 6) (v := _) hC hW 21 (by decide) rfl rfl uX8 1 (by decide) fl_X9_147 rfl rfl dX9_year_58 ?_
      refine lv_iload_n hC.1 hC.2.1 dX9_year_61 rfl (lv_at hl 2 rfl) ?_
      refine lv_dup2_11 hC.1 hC.2.1 dX9_year_62 rfl rfl ?_
      obtain ⟨hi, h⟩ := xg h
      refine x_iald hC hW 23 (by decide) rfl hi dX9_year_63 ?_
      refine lv_iconst (v := 1) hC.1 hC.2.1 dX9_year_64 (by decide) ?_
      refine lv_iadd hC.1 hC.2.1 dX9_year_65 ?_
      obtain ⟨hi, h⟩ := xg h
      refine x_iast hC hW hS 23 (by decide) rfl hi dX9_year_66 (fun H locs hW hS => ?_)
      refine lv_aload_n hC.1 hC.2.1 dX9_year_67 rfl (lv_at hl 0 rfl) ?_
      refine x_get (C := RX9) (T := TX9) (N := 12) (v := _) hC hW 0 (by decide) rfl rfl uX9 3 (by decide) fl_X9_29 rfl rfl dX9_year_68 ?_
      refine x_get (C := RX8) (T := TX8) (N := 6) (v := _) hC hW 21 (by decide) rfl rfl uX8 2 (by decide) fl_X9_159 rfl rfl dX9_year_71 ?_
      refine lv_iload_n hC.1 hC.2.1 dX9_year_74 rfl (lv_at hl 2 rfl) ?_
      refine lv_iconst (v := 0) hC.1 hC.2.1 dX9_year_75 (by decide) ?_
      obtain ⟨hi, h⟩ := xg h
      refine x_iast hC hW hS 24 (by decide) rfl hi dX9_year_76 (fun H locs hW hS => ?_)
      refine lv_aload_n hC.1 hC.2.1 dX9_year_77 rfl (lv_at hl 0 rfl) ?_
      refine x_get (C := RX9) (T := TX9) (N := 12) (v := _) hC hW 0 (by decide) rfl rfl uX9 3 (by decide) fl_X9_29 rfl rfl dX9_year_78 ?_
      refine x_get (C := RX8) (T := TX8) (N := 6) (v := _) hC hW 21 (by decide) rfl rfl uX8 1 (by decide) fl_X9_147 rfl rfl dX9_year_81 ?_
      refine lv_iload_n hC.1 hC.2.1 dX9_year_84 rfl (lv_at hl 2 rfl) ?_
      obtain ⟨hi, h⟩ := xg h
      refine x_iald hC hW 23 (by decide) rfl hi dX9_year_85 ?_
      refine lv_aload_n hC.1 hC.2.1 dX9_year_86 rfl (lv_at hl 0 rfl) ?_
      refine x_get (C := RX9) (T := TX9) (N := 12) (v := _) hC hW 0 (by decide) rfl rfl uX9 1 (by decide) fl_X9_19 rfl rfl dX9_year_87 ?_
      refine x_get (C := RX2) (T := TX2) (N := 12) (v := _) hC hW 3 (by decide) rfl rfl uX2 10 (by decide) fl_X9_150 rfl rfl dX9_year_90 ?_
      refine lv_iload_n hC.1 hC.2.1 dX9_year_93 rfl (lv_at hl 2 rfl) ?_
      obtain ⟨hi, h⟩ := xg h
      refine x_iald hC hW 10 (by decide) rfl hi dX9_year_94 ?_
      refine lv_icmp_ne (tgt := 101) hC.1 hC.2.1 dX9_year_95 (by decide) (fun hc => ?_) (fun hc => ?_)
      · replace h := xf hc h
        refine lv_iinc (v := x2 + 1) (lv' := [(2, .int (x2 + 1)), (0, .ref (b + 0)), (1, .int x1)]) hC.1 hC.2.1 dX9_year_101 hl (k := 2) rfl rfl (by decide) rfl (fun ls hl => ?_)
        refine lv_goto (tgt := 43) hC.1 hC.2.1 dX9_year_104 (by decide) ?_
        exact IH _ _ _ _ _ _ h hW hS (lv_sub hl [1, 2, 0] rfl)
      · replace h := xt hc h
        refine lv_iinc (v := x1 + 1) (lv' := [(1, .int (x1 + 1)), (0, .ref (b + 0)), (2, .int x2)]) hC.1 hC.2.1 dX9_year_98 hl (k := 1) rfl rfl (by decide) rfl (fun ls hl => ?_)
        refine lv_iinc (v := x2 + 1) (lv' := [(2, .int (x2 + 1)), (1, .int (x1 + 1)), (0, .ref (b + 0))]) hC.1 hC.2.1 dX9_year_101 hl (k := 2) rfl rfl (by decide) rfl (fun ls hl => ?_)
        refine lv_goto (tgt := 43) hC.1 hC.2.1 dX9_year_104 (by decide) ?_
        exact IH _ _ _ _ _ _ h hW hS (lv_sub hl [2, 1, 0] rfl)
set_option maxHeartbeats 4000000 in
set_option maxRecDepth 100000 in
theorem c_X9_year (l : Launch) (D : va_G) (b : Nat) (cs : Cs3) (S S1 : St) (r : Int32) (h : p_X9_year S = some (r, S1)) : Ct l yX9_year cX9_year 3 (some .int) rX9_year D b cs [.ref (b + 0)] S (some (.int r)) S1 := by
  refine x_met (by decide +kernel) (Nat.le_of_ble_eq_true rfl) ?_
  intro p e s m below meth c ls hC hr hW hS hl
  have hl : lv_has ls 3 [(0, .ref (b + 0))] := hl
  rw [p_X9_year] at h
  refine lv_aload_n hC.1 hC.2.1 dX9_year_0 rfl (lv_at hl 0 rfl) ?_
  refine x_get (C := RX9) (T := TX9) (N := 12) (v := _) hC hW 0 (by decide) rfl rfl uX9 3 (by decide) fl_X9_29 rfl rfl dX9_year_1 ?_
  refine x_get (C := RX8) (T := TX8) (N := 6) (v := _) hC hW 21 (by decide) rfl rfl uX8 5 (by decide) fl_X9_171 rfl rfl dX9_year_4 ?_
  refine lv_bipush (v := 99) hC.1 hC.2.1 dX9_year_7 (by decide) ?_
  refine lv_icmp_lt (tgt := 15) hC.1 hC.2.1 dX9_year_9 (by decide) (fun hc => ?_) (fun hc => ?_)
  · replace h := xt hc h
    refine lv_aload_n hC.1 hC.2.1 dX9_year_15 rfl (lv_at hl 0 rfl) ?_
    refine x_get (C := RX9) (T := TX9) (N := 12) (v := _) hC hW 0 (by decide) rfl rfl uX9 4 (by decide) fl_X9_36 rfl rfl dX9_year_16 ?_
    refine lv_aload_n hC.1 hC.2.1 dX9_year_19 rfl (lv_at hl 0 rfl) ?_
    refine x_get (C := RX9) (T := TX9) (N := 12) (v := _) hC hW 0 (by decide) rfl rfl uX9 3 (by decide) fl_X9_29 rfl rfl dX9_year_20 ?_
    obtain ⟨q23, hq, h⟩ := xb h
    try dsimp only at h
    refine x_callV (T := TX6) (N := 3) (As := [.ref (b + 21)]) (rest := []) hC hW hS 26 (c_X6_remember l D b cs _ _ hq) (by decide) rfl rfl mi_X6_remember in_X6_remember sl_X6_remember ml_X9_188 ⟨rfl, rfl⟩ ⟨Nat.le_of_ble_eq_true rfl, Nat.le_of_ble_eq_true rfl⟩ ⟨Nat.zero_le _, Nat.zero_le _⟩ rfl rfl hl.1 (Nat.le_of_ble_eq_true rfl) dX9_year_23 (fun H locs hW hS => ?_)
    refine lv_aload_n hC.1 hC.2.1 dX9_year_26 rfl (lv_at hl 0 rfl) ?_
    refine x_get (C := RX9) (T := TX9) (N := 12) (v := _) hC hW 0 (by decide) rfl rfl uX9 3 (by decide) fl_X9_29 rfl rfl dX9_year_27 ?_
    refine lv_dup hC.1 hC.2.1 dX9_year_30 rfl ?_
    refine x_get (C := RX8) (T := TX8) (N := 6) (v := _) hC hW 21 (by decide) rfl rfl uX8 5 (by decide) fl_X9_171 rfl rfl dX9_year_31 ?_
    refine lv_iconst (v := 1) hC.1 hC.2.1 dX9_year_34 (by decide) ?_
    refine lv_iadd hC.1 hC.2.1 dX9_year_35 ?_
    refine x_puti (C := RX8) (T := TX8) (N := 6) (ty := .int) hC hW hS 21 (by decide) rfl rfl uX8 tyX8 tyX8_ok nmX8 5 (by decide) fl_X9_171 rfl (by decide +kernel) rfl rfl rfl dX9_year_36 (fun H locs hW hS => ?_)
    refine lv_iconst (v := 0) hC.1 hC.2.1 dX9_year_39 (by decide) ?_
    refine lv_istore_n (lv' := [(1, .int (0 : Int32)), (0, .ref (b + 0))]) hC.1 hC.2.1 dX9_year_40 rfl hl (by decide) rfl (fun ls hl => ?_)
    refine lv_iconst (v := 0) hC.1 hC.2.1 dX9_year_41 (by decide) ?_
    refine lv_istore_n (lv' := [(2, .int (0 : Int32)), (1, .int (0 : Int32)), (0, .ref (b + 0))]) hC.1 hC.2.1 dX9_year_42 rfl hl (by decide) rfl (fun ls hl => ?_)
    exact w_X9_year_43 hC hr _ _ _ _ _ _ _ h hW hS (lv_sub hl [2, 1, 0] rfl)
  · replace h := xf hc h
    refine lv_bipush (v := -2) hC.1 hC.2.1 dX9_year_12 (by decide) ?_
    obtain ⟨rfl, rfl⟩ := xr h
    exact x_iret hC hr hW hS dX9_year_14
theorem dX9_michaelmas_0 : decode cX9_michaelmas 0 = .ok (.aload_n 0, 1) := by decide +kernel
theorem dX9_michaelmas_1 : decode cX9_michaelmas 1 = .ok (.getfield 36, 3) := by decide +kernel
theorem dX9_michaelmas_4 : decode cX9_michaelmas 4 = .ok (.aload_n 0, 1) := by decide +kernel
theorem dX9_michaelmas_5 : decode cX9_michaelmas 5 = .ok (.getfield 29, 3) := by decide +kernel
theorem dX9_michaelmas_8 : decode cX9_michaelmas 8 = .ok (.invokevirtual 188, 3) := by decide +kernel
theorem dX9_michaelmas_11 : decode cX9_michaelmas 11 = .ok (.iconst 0, 1) := by decide +kernel
theorem dX9_michaelmas_12 : decode cX9_michaelmas 12 = .ok (.istore_n 1, 1) := by decide +kernel
theorem dX9_michaelmas_13 : decode cX9_michaelmas 13 = .ok (.iconst 0, 1) := by decide +kernel
theorem dX9_michaelmas_14 : decode cX9_michaelmas 14 = .ok (.istore_n 2, 1) := by decide +kernel
theorem dX9_michaelmas_15 : decode cX9_michaelmas 15 = .ok (.iload_n 2, 1) := by decide +kernel
theorem dX9_michaelmas_16 : decode cX9_michaelmas 16 = .ok (.aload_n 0, 1) := by decide +kernel
theorem dX9_michaelmas_17 : decode cX9_michaelmas 17 = .ok (.getfield 19, 3) := by decide +kernel
theorem dX9_michaelmas_20 : decode cX9_michaelmas 20 = .ok (.getfield 200, 3) := by decide +kernel
theorem dX9_michaelmas_23 : decode cX9_michaelmas 23 = .ok (.if_icmp .ge 52, 3) := by decide +kernel
theorem dX9_michaelmas_26 : decode cX9_michaelmas 26 = .ok (.aload_n 0, 1) := by decide +kernel
theorem dX9_michaelmas_27 : decode cX9_michaelmas 27 = .ok (.getfield 29, 3) := by decide +kernel
theorem dX9_michaelmas_30 : decode cX9_michaelmas 30 = .ok (.getfield 126, 3) := by decide +kernel
theorem dX9_michaelmas_33 : decode cX9_michaelmas 33 = .ok (.iload_n 2, 1) := by decide +kernel
theorem dX9_michaelmas_34 : decode cX9_michaelmas 34 = .ok (.aload_n 0, 1) := by decide +kernel
theorem dX9_michaelmas_35 : decode cX9_michaelmas 35 = .ok (.getfield 29, 3) := by decide +kernel
theorem dX9_michaelmas_38 : decode cX9_michaelmas 38 = .ok (.getfield 126, 3) := by decide +kernel
theorem dX9_michaelmas_41 : decode cX9_michaelmas 41 = .ok (.iload_n 2, 1) := by decide +kernel
theorem dX9_michaelmas_42 : decode cX9_michaelmas 42 = .ok (.iaload, 1) := by decide +kernel
theorem dX9_michaelmas_43 : decode cX9_michaelmas 43 = .ok (.aload_n 0, 1) := by decide +kernel
theorem dX9_michaelmas_44 : decode cX9_michaelmas 44 = .ok (.getfield 19, 3) := by decide +kernel
theorem dX9_michaelmas_47 : decode cX9_michaelmas 47 = .ok (.getfield 203, 3) := by decide +kernel
theorem dX9_michaelmas_50 : decode cX9_michaelmas 50 = .ok (.iadd, 1) := by decide +kernel
theorem dX9_michaelmas_51 : decode cX9_michaelmas 51 = .ok (.bipush 41, 2) := by decide +kernel
theorem dX9_michaelmas_53 : decode cX9_michaelmas 53 = .ok (.irem, 1) := by decide +kernel
theorem dX9_michaelmas_54 : decode cX9_michaelmas 54 = .ok (.iastore, 1) := by decide +kernel
theorem dX9_michaelmas_55 : decode cX9_michaelmas 55 = .ok (.aload_n 0, 1) := by decide +kernel
theorem dX9_michaelmas_56 : decode cX9_michaelmas 56 = .ok (.getfield 53, 3) := by decide +kernel
theorem dX9_michaelmas_59 : decode cX9_michaelmas 59 = .ok (.iload_n 2, 1) := by decide +kernel
theorem dX9_michaelmas_60 : decode cX9_michaelmas 60 = .ok (.invokevirtual 132, 3) := by decide +kernel
theorem dX9_michaelmas_63 : decode cX9_michaelmas 63 = .ok (.ifCond .ne 6, 3) := by decide +kernel
theorem dX9_michaelmas_66 : decode cX9_michaelmas 66 = .ok (.iinc 1 1, 3) := by decide +kernel
theorem dX9_michaelmas_69 : decode cX9_michaelmas 69 = .ok (.iinc 2 1, 3) := by decide +kernel
theorem dX9_michaelmas_72 : decode cX9_michaelmas 72 = .ok (.goto (-57), 3) := by decide +kernel
theorem dX9_michaelmas_75 : decode cX9_michaelmas 75 = .ok (.iload_n 1, 1) := by decide +kernel
theorem dX9_michaelmas_76 : decode cX9_michaelmas 76 = .ok (.ireturn, 1) := by decide +kernel
abbrev rX9_michaelmas : Room := { frames := 5, cells := 0, slots := 0, locals := 112 }
set_option maxHeartbeats 4000000 in
set_option maxRecDepth 100000 in
theorem w_X9_michaelmas_15 {p : Program} {l : Launch} {e : Env} {s : State} {m : MethodId} {args : Array Value} {below : List Frame} {meth : Method} {c : Code} {D : va_G} {b : Nat} {cs : Cs3} {r : Int32} {S1 : St} (hC : CX p s m args meth c RX9 cX9_michaelmas 3 D cs) (hr : meth.sig.returnType = (some .int)) : ∀ (n : Nat) (x1 : Int32) (x2 : Int32) (S : St) (H : Heap) (locs : List Loc) (ls : Array Slot), q_X9_michaelmas_15 n x1 x2 S = some (r, S1) → Wd D b cs S H → va_S (AA b) s.heap H locs → lv_has ls 3 [(0, .ref (b + 0)), (1, .int x1), (2, .int x2)] → W p l e rX9_michaelmas s m args below meth c H locs 0 0 (MQ below (QX D b cs (some (.int r)) S1) args s 0 0 (AA b)) (F0 m 15 ls []) := by
  intro n
  induction n with
  | zero =>
    intro x1 x2 S H locs ls h
    exact absurd h (by rw [q_X9_michaelmas_15]; exact fun q => nomatch q)
  | succ n IH =>
    intro x1 x2 S H locs ls h hW hS hl
    rw [q_X9_michaelmas_15] at h
    refine lv_iload_n hC.1 hC.2.1 dX9_michaelmas_15 rfl (lv_at hl 2 rfl) ?_
    refine lv_aload_n hC.1 hC.2.1 dX9_michaelmas_16 rfl (lv_at hl 0 rfl) ?_
    refine x_get (C := RX9) (T := TX9) (N := 12) (v := _) hC hW 0 (by decide) rfl rfl uX9 1 (by decide) fl_X9_19 rfl rfl dX9_michaelmas_17 ?_
    refine x_get (C := RX2) (T := TX2) (N := 12) (v := _) hC hW 3 (by decide) rfl rfl uX2 1 (by decide) fl_X9_200 rfl rfl dX9_michaelmas_20 ?_
    refine lv_icmp_ge (tgt := 75) hC.1 hC.2.1 dX9_michaelmas_23 (by decide) (fun hc => ?_) (fun hc => ?_)
    · replace h := xt hc h
      refine lv_iload_n hC.1 hC.2.1 dX9_michaelmas_75 rfl (lv_at hl 1 rfl) ?_
      obtain ⟨rfl, rfl⟩ := xr h
      exact x_iret hC hr hW hS dX9_michaelmas_76
    · replace h := xf hc h
      refine lv_aload_n hC.1 hC.2.1 dX9_michaelmas_26 rfl (lv_at hl 0 rfl) ?_
      refine x_get (C := RX9) (T := TX9) (N := 12) (v := _) hC hW 0 (by decide) rfl rfl uX9 3 (by decide) fl_X9_29 rfl rfl dX9_michaelmas_27 ?_
      refine x_get (C := RX8) (T := TX8) (N := 6) (v := _) hC hW 21 (by decide) rfl rfl uX8 3 (by decide) fl_X9_126 rfl rfl dX9_michaelmas_30 ?_
      refine lv_iload_n hC.1 hC.2.1 dX9_michaelmas_33 rfl (lv_at hl 2 rfl) ?_
      refine lv_aload_n hC.1 hC.2.1 dX9_michaelmas_34 rfl (lv_at hl 0 rfl) ?_
      refine x_get (C := RX9) (T := TX9) (N := 12) (v := _) hC hW 0 (by decide) rfl rfl uX9 3 (by decide) fl_X9_29 rfl rfl dX9_michaelmas_35 ?_
      refine x_get (C := RX8) (T := TX8) (N := 6) (v := _) hC hW 21 (by decide) rfl rfl uX8 3 (by decide) fl_X9_126 rfl rfl dX9_michaelmas_38 ?_
      refine lv_iload_n hC.1 hC.2.1 dX9_michaelmas_41 rfl (lv_at hl 2 rfl) ?_
      obtain ⟨hi, h⟩ := xg h
      refine x_iald hC hW 25 (by decide) rfl hi dX9_michaelmas_42 ?_
      refine lv_aload_n hC.1 hC.2.1 dX9_michaelmas_43 rfl (lv_at hl 0 rfl) ?_
      refine x_get (C := RX9) (T := TX9) (N := 12) (v := _) hC hW 0 (by decide) rfl rfl uX9 1 (by decide) fl_X9_19 rfl rfl dX9_michaelmas_44 ?_
      refine x_get (C := RX2) (T := TX2) (N := 12) (v := _) hC hW 3 (by decide) rfl rfl uX2 3 (by decide) fl_X9_203 rfl rfl dX9_michaelmas_47 ?_
      refine lv_iadd hC.1 hC.2.1 dX9_michaelmas_50 ?_
      refine lv_bipush (v := 41) hC.1 hC.2.1 dX9_michaelmas_51 (by decide) ?_
      obtain ⟨hne, h⟩ := xg h
      refine lv_irem hC.1 hC.2.1 dX9_michaelmas_53 hne ?_
      obtain ⟨hi, h⟩ := xg h
      refine x_iast hC hW hS 25 (by decide) rfl hi dX9_michaelmas_54 (fun H locs hW hS => ?_)
      refine lv_aload_n hC.1 hC.2.1 dX9_michaelmas_55 rfl (lv_at hl 0 rfl) ?_
      refine x_get (C := RX9) (T := TX9) (N := 12) (v := _) hC hW 0 (by decide) rfl rfl uX9 7 (by decide) fl_X9_53 rfl rfl dX9_michaelmas_56 ?_
      refine lv_iload_n hC.1 hC.2.1 dX9_michaelmas_59 rfl (lv_at hl 2 rfl) ?_
      obtain ⟨⟨q60_r, q60_S⟩, hq, h⟩ := xb h
      try dsimp only at h
      refine x_callV (T := TX1) (N := 2) (As := [.int x2]) (rest := []) hC hW hS 90 (c_X1_openers l D b cs _ _ _ _ hq) (by decide) rfl rfl mi_X1_openers in_X1_openers sl_X1_openers ml_X9_132 ⟨rfl, rfl⟩ ⟨Nat.le_of_ble_eq_true rfl, Nat.le_of_ble_eq_true rfl⟩ ⟨Nat.zero_le _, Nat.zero_le _⟩ rfl rfl hl.1 (Nat.le_of_ble_eq_true rfl) dX9_michaelmas_60 (fun H locs hW hS => ?_)
      refine lv_if_ne (tgt := 69) hC.1 hC.2.1 dX9_michaelmas_63 (by decide) (fun hc => ?_) (fun hc => ?_)
      · replace h := xf hc h
        refine lv_iinc (v := x2 + 1) (lv' := [(2, .int (x2 + 1)), (0, .ref (b + 0)), (1, .int x1)]) hC.1 hC.2.1 dX9_michaelmas_69 hl (k := 2) rfl rfl (by decide) rfl (fun ls hl => ?_)
        refine lv_goto (tgt := 15) hC.1 hC.2.1 dX9_michaelmas_72 (by decide) ?_
        exact IH _ _ _ _ _ _ h hW hS (lv_sub hl [1, 2, 0] rfl)
      · replace h := xt hc h
        refine lv_iinc (v := x1 + 1) (lv' := [(1, .int (x1 + 1)), (0, .ref (b + 0)), (2, .int x2)]) hC.1 hC.2.1 dX9_michaelmas_66 hl (k := 1) rfl rfl (by decide) rfl (fun ls hl => ?_)
        refine lv_iinc (v := x2 + 1) (lv' := [(2, .int (x2 + 1)), (1, .int (x1 + 1)), (0, .ref (b + 0))]) hC.1 hC.2.1 dX9_michaelmas_69 hl (k := 2) rfl rfl (by decide) rfl (fun ls hl => ?_)
        refine lv_goto (tgt := 15) hC.1 hC.2.1 dX9_michaelmas_72 (by decide) ?_
        exact IH _ _ _ _ _ _ h hW hS (lv_sub hl [2, 1, 0] rfl)
set_option maxHeartbeats 4000000 in
set_option maxRecDepth 100000 in
theorem c_X9_michaelmas (l : Launch) (D : va_G) (b : Nat) (cs : Cs3) (S S1 : St) (r : Int32) (h : p_X9_michaelmas S = some (r, S1)) : Ct l yX9_michaelmas cX9_michaelmas 3 (some .int) rX9_michaelmas D b cs [.ref (b + 0)] S (some (.int r)) S1 := by
  refine x_met (by decide +kernel) (Nat.le_of_ble_eq_true rfl) ?_
  intro p e s m below meth c ls hC hr hW hS hl
  have hl : lv_has ls 3 [(0, .ref (b + 0))] := hl
  rw [p_X9_michaelmas] at h
  refine lv_aload_n hC.1 hC.2.1 dX9_michaelmas_0 rfl (lv_at hl 0 rfl) ?_
  refine x_get (C := RX9) (T := TX9) (N := 12) (v := _) hC hW 0 (by decide) rfl rfl uX9 4 (by decide) fl_X9_36 rfl rfl dX9_michaelmas_1 ?_
  refine lv_aload_n hC.1 hC.2.1 dX9_michaelmas_4 rfl (lv_at hl 0 rfl) ?_
  refine x_get (C := RX9) (T := TX9) (N := 12) (v := _) hC hW 0 (by decide) rfl rfl uX9 3 (by decide) fl_X9_29 rfl rfl dX9_michaelmas_5 ?_
  obtain ⟨q8, hq, h⟩ := xb h
  try dsimp only at h
  refine x_callV (T := TX6) (N := 3) (As := [.ref (b + 21)]) (rest := []) hC hW hS 26 (c_X6_remember l D b cs _ _ hq) (by decide) rfl rfl mi_X6_remember in_X6_remember sl_X6_remember ml_X9_188 ⟨rfl, rfl⟩ ⟨Nat.le_of_ble_eq_true rfl, Nat.le_of_ble_eq_true rfl⟩ ⟨Nat.zero_le _, Nat.zero_le _⟩ rfl rfl hl.1 (Nat.le_of_ble_eq_true rfl) dX9_michaelmas_8 (fun H locs hW hS => ?_)
  refine lv_iconst (v := 0) hC.1 hC.2.1 dX9_michaelmas_11 (by decide) ?_
  refine lv_istore_n (lv' := [(1, .int (0 : Int32)), (0, .ref (b + 0))]) hC.1 hC.2.1 dX9_michaelmas_12 rfl hl (by decide) rfl (fun ls hl => ?_)
  refine lv_iconst (v := 0) hC.1 hC.2.1 dX9_michaelmas_13 (by decide) ?_
  refine lv_istore_n (lv' := [(2, .int (0 : Int32)), (1, .int (0 : Int32)), (0, .ref (b + 0))]) hC.1 hC.2.1 dX9_michaelmas_14 rfl hl (by decide) rfl (fun ls hl => ?_)
  exact w_X9_michaelmas_15 hC hr _ _ _ _ _ _ _ h hW hS (lv_sub hl [2, 1, 0] rfl)
theorem dX9_undo_0 : decode cX9_undo 0 = .ok (.aload_n 0, 1) := by decide +kernel
theorem dX9_undo_1 : decode cX9_undo 1 = .ok (.getfield 36, 3) := by decide +kernel
theorem dX9_undo_4 : decode cX9_undo 4 = .ok (.getfield 110, 3) := by decide +kernel
theorem dX9_undo_7 : decode cX9_undo 7 = .ok (.ifCond .ne 6, 3) := by decide +kernel
theorem dX9_undo_10 : decode cX9_undo 10 = .ok (.bipush (-2), 2) := by decide +kernel
theorem dX9_undo_12 : decode cX9_undo 12 = .ok (.ireturn, 1) := by decide +kernel
theorem dX9_undo_13 : decode cX9_undo 13 = .ok (.aload_n 0, 1) := by decide +kernel
theorem dX9_undo_14 : decode cX9_undo 14 = .ok (.getfield 36, 3) := by decide +kernel
theorem dX9_undo_17 : decode cX9_undo 17 = .ok (.aload_n 0, 1) := by decide +kernel
theorem dX9_undo_18 : decode cX9_undo 18 = .ok (.getfield 29, 3) := by decide +kernel
theorem dX9_undo_21 : decode cX9_undo 21 = .ok (.invokevirtual 206, 3) := by decide +kernel
theorem dX9_undo_24 : decode cX9_undo 24 = .ok (.aload_n 0, 1) := by decide +kernel
theorem dX9_undo_25 : decode cX9_undo 25 = .ok (.getfield 36, 3) := by decide +kernel
theorem dX9_undo_28 : decode cX9_undo 28 = .ok (.getfield 110, 3) := by decide +kernel
theorem dX9_undo_31 : decode cX9_undo 31 = .ok (.ireturn, 1) := by decide +kernel
abbrev rX9_undo : Room := { frames := 2, cells := 0, slots := 0, locals := 43 }
set_option maxHeartbeats 4000000 in
set_option maxRecDepth 100000 in
theorem c_X9_undo (l : Launch) (D : va_G) (b : Nat) (cs : Cs3) (S S1 : St) (r : Int32) (h : p_X9_undo S = some (r, S1)) : Ct l yX9_undo cX9_undo 1 (some .int) rX9_undo D b cs [.ref (b + 0)] S (some (.int r)) S1 := by
  refine x_met (by decide +kernel) (Nat.le_of_ble_eq_true rfl) ?_
  intro p e s m below meth c ls hC hr hW hS hl
  have hl : lv_has ls 1 [(0, .ref (b + 0))] := hl
  rw [p_X9_undo] at h
  refine lv_aload_n hC.1 hC.2.1 dX9_undo_0 rfl (lv_at hl 0 rfl) ?_
  refine x_get (C := RX9) (T := TX9) (N := 12) (v := _) hC hW 0 (by decide) rfl rfl uX9 4 (by decide) fl_X9_36 rfl rfl dX9_undo_1 ?_
  refine x_get (C := RX6) (T := TX6) (N := 3) (v := _) hC hW 26 (by decide) rfl rfl uX6 2 (by decide) fl_X9_110 rfl rfl dX9_undo_4 ?_
  refine lv_if_ne (tgt := 13) hC.1 hC.2.1 dX9_undo_7 (by decide) (fun hc => ?_) (fun hc => ?_)
  · replace h := xf hc h
    refine lv_aload_n hC.1 hC.2.1 dX9_undo_13 rfl (lv_at hl 0 rfl) ?_
    refine x_get (C := RX9) (T := TX9) (N := 12) (v := _) hC hW 0 (by decide) rfl rfl uX9 4 (by decide) fl_X9_36 rfl rfl dX9_undo_14 ?_
    refine lv_aload_n hC.1 hC.2.1 dX9_undo_17 rfl (lv_at hl 0 rfl) ?_
    refine x_get (C := RX9) (T := TX9) (N := 12) (v := _) hC hW 0 (by decide) rfl rfl uX9 3 (by decide) fl_X9_29 rfl rfl dX9_undo_18 ?_
    obtain ⟨q21, hq, h⟩ := xb h
    try dsimp only at h
    refine x_callV (T := TX6) (N := 3) (As := [.ref (b + 21)]) (rest := []) hC hW hS 26 (c_X6_bringBack l D b cs _ _ hq) (by decide) rfl rfl mi_X6_bringBack in_X6_bringBack sl_X6_bringBack ml_X9_206 ⟨rfl, rfl⟩ ⟨Nat.le_of_ble_eq_true rfl, Nat.le_of_ble_eq_true rfl⟩ ⟨Nat.zero_le _, Nat.zero_le _⟩ rfl rfl hl.1 (Nat.le_of_ble_eq_true rfl) dX9_undo_21 (fun H locs hW hS => ?_)
    refine lv_aload_n hC.1 hC.2.1 dX9_undo_24 rfl (lv_at hl 0 rfl) ?_
    refine x_get (C := RX9) (T := TX9) (N := 12) (v := _) hC hW 0 (by decide) rfl rfl uX9 4 (by decide) fl_X9_36 rfl rfl dX9_undo_25 ?_
    refine x_get (C := RX6) (T := TX6) (N := 3) (v := _) hC hW 26 (by decide) rfl rfl uX6 2 (by decide) fl_X9_110 rfl rfl dX9_undo_28 ?_
    obtain ⟨rfl, rfl⟩ := xr h
    exact x_iret hC hr hW hS dX9_undo_31
  · replace h := xt hc h
    refine lv_bipush (v := -2) hC.1 hC.2.1 dX9_undo_10 (by decide) ?_
    obtain ⟨rfl, rfl⟩ := xr h
    exact x_iret hC hr hW hS dX9_undo_12
theorem dX9_way_0 : decode cX9_way 0 = .ok (.aload_n 0, 1) := by decide +kernel
theorem dX9_way_1 : decode cX9_way 1 = .ok (.iload_n 1, 1) := by decide +kernel
theorem dX9_way_2 : decode cX9_way 2 = .ok (.invokevirtual 136, 3) := by decide +kernel
theorem dX9_way_5 : decode cX9_way 5 = .ok (.ifCond .eq 20, 3) := by decide +kernel
theorem dX9_way_8 : decode cX9_way 8 = .ok (.iload_n 2, 1) := by decide +kernel
theorem dX9_way_9 : decode cX9_way 9 = .ok (.iconst 0, 1) := by decide +kernel
theorem dX9_way_10 : decode cX9_way 10 = .ok (.aload_n 0, 1) := by decide +kernel
theorem dX9_way_11 : decode cX9_way 11 = .ok (.getfield 19, 3) := by decide +kernel
theorem dX9_way_14 : decode cX9_way 14 = .ok (.getfield 209, 3) := by decide +kernel
theorem dX9_way_17 : decode cX9_way 17 = .ok (.iconst 1, 1) := by decide +kernel
theorem dX9_way_18 : decode cX9_way 18 = .ok (.isub, 1) := by decide +kernel
theorem dX9_way_19 : decode cX9_way 19 = .ok (.invokestatic 87, 3) := by decide +kernel
theorem dX9_way_22 : decode cX9_way 22 = .ok (.ifCond .ne 5, 3) := by decide +kernel
theorem dX9_way_25 : decode cX9_way 25 = .ok (.iconst (-1), 1) := by decide +kernel
theorem dX9_way_26 : decode cX9_way 26 = .ok (.ireturn, 1) := by decide +kernel
theorem dX9_way_27 : decode cX9_way 27 = .ok (.aload_n 0, 1) := by decide +kernel
theorem dX9_way_28 : decode cX9_way 28 = .ok (.getfield 53, 3) := by decide +kernel
theorem dX9_way_31 : decode cX9_way 31 = .ok (.iload_n 1, 1) := by decide +kernel
theorem dX9_way_32 : decode cX9_way 32 = .ok (.iload_n 2, 1) := by decide +kernel
theorem dX9_way_33 : decode cX9_way 33 = .ok (.invokevirtual 212, 3) := by decide +kernel
theorem dX9_way_36 : decode cX9_way 36 = .ok (.ireturn, 1) := by decide +kernel
abbrev rX9_way : Room := { frames := 4, cells := 0, slots := 0, locals := 96 }
set_option maxHeartbeats 4000000 in
set_option maxRecDepth 100000 in
theorem c_X9_way (l : Launch) (D : va_G) (b : Nat) (cs : Cs3) (x1 : Int32) (x2 : Int32) (S S1 : St) (r : Int32) (h : p_X9_way x1 x2 S = some (r, S1)) : Ct l yX9_way cX9_way 3 (some .int) rX9_way D b cs [.ref (b + 0), .int x1, .int x2] S (some (.int r)) S1 := by
  refine x_met (by decide +kernel) (Nat.le_of_ble_eq_true rfl) ?_
  intro p e s m below meth c ls hC hr hW hS hl
  have hl : lv_has ls 3 [(0, .ref (b + 0)), (1, .int x1), (2, .int x2)] := hl
  rw [p_X9_way] at h
  refine lv_aload_n hC.1 hC.2.1 dX9_way_0 rfl (lv_at hl 0 rfl) ?_
  refine lv_iload_n hC.1 hC.2.1 dX9_way_1 rfl (lv_at hl 1 rfl) ?_
  obtain ⟨⟨q2_r, q2_S⟩, hq, h⟩ := xb h
  try dsimp only at h
  refine x_callV (T := TX9) (N := 12) (As := [.int x1]) (rest := []) hC hW hS 0 (c_X9_isBoy l D b cs _ _ _ _ hq) (by decide) rfl rfl mi_X9_isBoy in_X9_isBoy sl_X9_isBoy ml_X9_136 ⟨rfl, rfl⟩ ⟨Nat.le_of_ble_eq_true rfl, Nat.le_of_ble_eq_true rfl⟩ ⟨Nat.zero_le _, Nat.zero_le _⟩ rfl rfl hl.1 (Nat.le_of_ble_eq_true rfl) dX9_way_2 (fun H locs hW hS => ?_)
  refine lv_if_eq (tgt := 25) hC.1 hC.2.1 dX9_way_5 (by decide) (fun hc => ?_) (fun hc => ?_)
  · replace h := xt hc h
    refine lv_iconst (v := -1) hC.1 hC.2.1 dX9_way_25 (by decide) ?_
    obtain ⟨rfl, rfl⟩ := xr h
    exact x_iret hC hr hW hS dX9_way_26
  · replace h := xf hc h
    refine lv_iload_n hC.1 hC.2.1 dX9_way_8 rfl (lv_at hl 2 rfl) ?_
    refine lv_iconst (v := 0) hC.1 hC.2.1 dX9_way_9 (by decide) ?_
    refine lv_aload_n hC.1 hC.2.1 dX9_way_10 rfl (lv_at hl 0 rfl) ?_
    refine x_get (C := RX9) (T := TX9) (N := 12) (v := _) hC hW 0 (by decide) rfl rfl uX9 1 (by decide) fl_X9_19 rfl rfl dX9_way_11 ?_
    refine x_get (C := RX2) (T := TX2) (N := 12) (v := _) hC hW 3 (by decide) rfl rfl uX2 0 (by decide) fl_X9_209 rfl rfl dX9_way_14 ?_
    refine lv_iconst (v := 1) hC.1 hC.2.1 dX9_way_17 (by decide) ?_
    refine lv_isub hC.1 hC.2.1 dX9_way_18 ?_
    obtain ⟨⟨q19_r, q19_S⟩, hq, h⟩ := xb h
    try dsimp only at h
    refine x_callS (As := [.int x2, .int (0 : Int32), .int ((q2_S.1 3 0) - (1 : Int32))]) (rest := []) hC hW hS (c_X9_within l D b cs _ _ _ _ _ _ hq) mi_X9_within st_X9_within ml_X9_87 ⟨rfl, rfl⟩ ⟨Nat.le_of_ble_eq_true rfl, Nat.le_of_ble_eq_true rfl⟩ ⟨Nat.zero_le _, Nat.zero_le _⟩ rfl rfl hl.1 (Nat.le_of_ble_eq_true rfl) dX9_way_19 (fun H locs hW hS => ?_)
    refine lv_if_ne (tgt := 27) hC.1 hC.2.1 dX9_way_22 (by decide) (fun hc => ?_) (fun hc => ?_)
    · replace h := xf hc h
      refine lv_aload_n hC.1 hC.2.1 dX9_way_27 rfl (lv_at hl 0 rfl) ?_
      refine x_get (C := RX9) (T := TX9) (N := 12) (v := _) hC hW 0 (by decide) rfl rfl uX9 7 (by decide) fl_X9_53 rfl rfl dX9_way_28 ?_
      refine lv_iload_n hC.1 hC.2.1 dX9_way_31 rfl (lv_at hl 1 rfl) ?_
      refine lv_iload_n hC.1 hC.2.1 dX9_way_32 rfl (lv_at hl 2 rfl) ?_
      obtain ⟨⟨q33_r, q33_S⟩, hq, h⟩ := xb h
      try dsimp only at h
      refine x_callV (T := TX1) (N := 2) (As := [.int x1, .int x2]) (rest := []) hC hW hS 90 (c_X1_fewestDoors l D b cs _ _ _ _ _ hq) (by decide) rfl rfl mi_X1_fewestDoors in_X1_fewestDoors sl_X1_fewestDoors ml_X9_212 ⟨rfl, rfl⟩ ⟨Nat.le_of_ble_eq_true rfl, Nat.le_of_ble_eq_true rfl⟩ ⟨Nat.zero_le _, Nat.zero_le _⟩ rfl rfl hl.1 (Nat.le_of_ble_eq_true rfl) dX9_way_33 (fun H locs hW hS => ?_)
      obtain ⟨rfl, rfl⟩ := xr h
      exact x_iret hC hr hW hS dX9_way_36
    · replace h := xt hc h
      refine lv_iconst (v := -1) hC.1 hC.2.1 dX9_way_25 (by decide) ?_
      obtain ⟨rfl, rfl⟩ := xr h
      exact x_iret hC hr hW hS dX9_way_26
theorem dX9_posts_0 : decode cX9_posts 0 = .ok (.iload_n 1, 1) := by decide +kernel
theorem dX9_posts_1 : decode cX9_posts 1 = .ok (.iconst (-1), 1) := by decide +kernel
theorem dX9_posts_2 : decode cX9_posts 2 = .ok (.if_icmp .ne 11, 3) := by decide +kernel
theorem dX9_posts_5 : decode cX9_posts 5 = .ok (.aload_n 0, 1) := by decide +kernel
theorem dX9_posts_6 : decode cX9_posts 6 = .ok (.getfield 62, 3) := by decide +kernel
theorem dX9_posts_9 : decode cX9_posts 9 = .ok (.invokevirtual 215, 3) := by decide +kernel
theorem dX9_posts_12 : decode cX9_posts 12 = .ok (.ireturn, 1) := by decide +kernel
theorem dX9_posts_13 : decode cX9_posts 13 = .ok (.aload_n 0, 1) := by decide +kernel
theorem dX9_posts_14 : decode cX9_posts 14 = .ok (.iload_n 1, 1) := by decide +kernel
theorem dX9_posts_15 : decode cX9_posts 15 = .ok (.invokevirtual 136, 3) := by decide +kernel
theorem dX9_posts_18 : decode cX9_posts 18 = .ok (.ifCond .eq 14, 3) := by decide +kernel
theorem dX9_posts_21 : decode cX9_posts 21 = .ok (.aload_n 0, 1) := by decide +kernel
theorem dX9_posts_22 : decode cX9_posts 22 = .ok (.getfield 62, 3) := by decide +kernel
theorem dX9_posts_25 : decode cX9_posts 25 = .ok (.iload_n 1, 1) := by decide +kernel
theorem dX9_posts_26 : decode cX9_posts 26 = .ok (.invokevirtual 218, 3) := by decide +kernel
theorem dX9_posts_29 : decode cX9_posts 29 = .ok (.goto 4, 3) := by decide +kernel
theorem dX9_posts_32 : decode cX9_posts 32 = .ok (.iconst (-1), 1) := by decide +kernel
theorem dX9_posts_33 : decode cX9_posts 33 = .ok (.ireturn, 1) := by decide +kernel
abbrev rX9_posts : Room := { frames := 5, cells := 0, slots := 0, locals := 121 }
set_option maxHeartbeats 4000000 in
set_option maxRecDepth 100000 in
theorem c_X9_posts (l : Launch) (D : va_G) (b : Nat) (cs : Cs3) (x1 : Int32) (S S1 : St) (r : Int32) (h : p_X9_posts x1 S = some (r, S1)) : Ct l yX9_posts cX9_posts 2 (some .int) rX9_posts D b cs [.ref (b + 0), .int x1] S (some (.int r)) S1 := by
  refine x_met (by decide +kernel) (Nat.le_of_ble_eq_true rfl) ?_
  intro p e s m below meth c ls hC hr hW hS hl
  have hl : lv_has ls 2 [(0, .ref (b + 0)), (1, .int x1)] := hl
  rw [p_X9_posts] at h
  refine lv_iload_n hC.1 hC.2.1 dX9_posts_0 rfl (lv_at hl 1 rfl) ?_
  refine lv_iconst (v := -1) hC.1 hC.2.1 dX9_posts_1 (by decide) ?_
  refine lv_icmp_ne (tgt := 13) hC.1 hC.2.1 dX9_posts_2 (by decide) (fun hc => ?_) (fun hc => ?_)
  · replace h := xf hc h
    refine lv_aload_n hC.1 hC.2.1 dX9_posts_13 rfl (lv_at hl 0 rfl) ?_
    refine lv_iload_n hC.1 hC.2.1 dX9_posts_14 rfl (lv_at hl 1 rfl) ?_
    obtain ⟨⟨q15_r, q15_S⟩, hq, h⟩ := xb h
    try dsimp only at h
    refine x_callV (T := TX9) (N := 12) (As := [.int x1]) (rest := []) hC hW hS 0 (c_X9_isBoy l D b cs _ _ _ _ hq) (by decide) rfl rfl mi_X9_isBoy in_X9_isBoy sl_X9_isBoy ml_X9_136 ⟨rfl, rfl⟩ ⟨Nat.le_of_ble_eq_true rfl, Nat.le_of_ble_eq_true rfl⟩ ⟨Nat.zero_le _, Nat.zero_le _⟩ rfl rfl hl.1 (Nat.le_of_ble_eq_true rfl) dX9_posts_15 (fun H locs hW hS => ?_)
    refine lv_if_eq (tgt := 32) hC.1 hC.2.1 dX9_posts_18 (by decide) (fun hc => ?_) (fun hc => ?_)
    · replace h := xt hc h
      refine lv_iconst (v := -1) hC.1 hC.2.1 dX9_posts_32 (by decide) ?_
      obtain ⟨rfl, rfl⟩ := xr h
      exact x_iret hC hr hW hS dX9_posts_33
    · replace h := xf hc h
      refine lv_aload_n hC.1 hC.2.1 dX9_posts_21 rfl (lv_at hl 0 rfl) ?_
      refine x_get (C := RX9) (T := TX9) (N := 12) (v := _) hC hW 0 (by decide) rfl rfl uX9 8 (by decide) fl_X9_62 rfl rfl dX9_posts_22 ?_
      refine lv_iload_n hC.1 hC.2.1 dX9_posts_25 rfl (lv_at hl 1 rfl) ?_
      obtain ⟨⟨q26_r, q26_S⟩, hq, h⟩ := xb h
      try dsimp only at h
      refine x_callV (T := TX4) (N := 2) (As := [.int x1]) (rest := []) hC hW hS 91 (c_X4_postOf l D b cs _ _ _ _ hq) (by decide) rfl rfl mi_X4_postOf in_X4_postOf sl_X4_postOf ml_X9_218 ⟨rfl, rfl⟩ ⟨Nat.le_of_ble_eq_true rfl, Nat.le_of_ble_eq_true rfl⟩ ⟨Nat.zero_le _, Nat.zero_le _⟩ rfl rfl hl.1 (Nat.le_of_ble_eq_true rfl) dX9_posts_26 (fun H locs hW hS => ?_)
      refine lv_goto (tgt := 33) hC.1 hC.2.1 dX9_posts_29 (by decide) ?_
      obtain ⟨rfl, rfl⟩ := xr h
      exact x_iret hC hr hW hS dX9_posts_33
  · replace h := xt hc h
    refine lv_aload_n hC.1 hC.2.1 dX9_posts_5 rfl (lv_at hl 0 rfl) ?_
    refine x_get (C := RX9) (T := TX9) (N := 12) (v := _) hC hW 0 (by decide) rfl rfl uX9 8 (by decide) fl_X9_62 rfl rfl dX9_posts_6 ?_
    obtain ⟨⟨q9_r, q9_S⟩, hq, h⟩ := xb h
    try dsimp only at h
    refine x_callV (T := TX4) (N := 2) (As := []) (rest := []) hC hW hS 91 (c_X4_mostPosts l D b cs _ _ _ hq) (by decide) rfl rfl mi_X4_mostPosts in_X4_mostPosts sl_X4_mostPosts ml_X9_215 ⟨rfl, rfl⟩ ⟨Nat.le_of_ble_eq_true rfl, Nat.le_of_ble_eq_true rfl⟩ ⟨Nat.zero_le _, Nat.zero_le _⟩ rfl rfl hl.1 (Nat.le_of_ble_eq_true rfl) dX9_posts_9 (fun H locs hW hS => ?_)
    obtain ⟨rfl, rfl⟩ := xr h
    exact x_iret hC hr hW hS dX9_posts_12
theorem dX9_tune_0 : decode cX9_tune 0 = .ok (.iload_n 1, 1) := by decide +kernel
theorem dX9_tune_1 : decode cX9_tune 1 = .ok (.iconst 0, 1) := by decide +kernel
theorem dX9_tune_2 : decode cX9_tune 2 = .ok (.iconst 1, 1) := by decide +kernel
theorem dX9_tune_3 : decode cX9_tune 3 = .ok (.aload_n 0, 1) := by decide +kernel
theorem dX9_tune_4 : decode cX9_tune 4 = .ok (.getfield 19, 3) := by decide +kernel
theorem dX9_tune_7 : decode cX9_tune 7 = .ok (.getfield 197, 3) := by decide +kernel
theorem dX9_tune_10 : decode cX9_tune 10 = .ok (.ishl, 1) := by decide +kernel
theorem dX9_tune_11 : decode cX9_tune 11 = .ok (.iconst 1, 1) := by decide +kernel
theorem dX9_tune_12 : decode cX9_tune 12 = .ok (.isub, 1) := by decide +kernel
theorem dX9_tune_13 : decode cX9_tune 13 = .ok (.invokestatic 87, 3) := by decide +kernel
theorem dX9_tune_16 : decode cX9_tune 16 = .ok (.ifCond .ne 5, 3) := by decide +kernel
theorem dX9_tune_19 : decode cX9_tune 19 = .ok (.iconst (-1), 1) := by decide +kernel
theorem dX9_tune_20 : decode cX9_tune 20 = .ok (.ireturn, 1) := by decide +kernel
theorem dX9_tune_21 : decode cX9_tune 21 = .ok (.aload_n 0, 1) := by decide +kernel
theorem dX9_tune_22 : decode cX9_tune 22 = .ok (.getfield 53, 3) := by decide +kernel
theorem dX9_tune_25 : decode cX9_tune 25 = .ok (.iload_n 1, 1) := by decide +kernel
theorem dX9_tune_26 : decode cX9_tune 26 = .ok (.invokevirtual 221, 3) := by decide +kernel
theorem dX9_tune_29 : decode cX9_tune 29 = .ok (.ireturn, 1) := by decide +kernel
abbrev rX9_tune : Room := { frames := 5, cells := 0, slots := 0, locals := 112 }
set_option maxHeartbeats 4000000 in
set_option maxRecDepth 100000 in
theorem c_X9_tune (l : Launch) (D : va_G) (b : Nat) (cs : Cs3) (x1 : Int32) (S S1 : St) (r : Int32) (h : p_X9_tune x1 S = some (r, S1)) : Ct l yX9_tune cX9_tune 2 (some .int) rX9_tune D b cs [.ref (b + 0), .int x1] S (some (.int r)) S1 := by
  refine x_met (by decide +kernel) (Nat.le_of_ble_eq_true rfl) ?_
  intro p e s m below meth c ls hC hr hW hS hl
  have hl : lv_has ls 2 [(0, .ref (b + 0)), (1, .int x1)] := hl
  rw [p_X9_tune] at h
  refine lv_iload_n hC.1 hC.2.1 dX9_tune_0 rfl (lv_at hl 1 rfl) ?_
  refine lv_iconst (v := 0) hC.1 hC.2.1 dX9_tune_1 (by decide) ?_
  refine lv_iconst (v := 1) hC.1 hC.2.1 dX9_tune_2 (by decide) ?_
  refine lv_aload_n hC.1 hC.2.1 dX9_tune_3 rfl (lv_at hl 0 rfl) ?_
  refine x_get (C := RX9) (T := TX9) (N := 12) (v := _) hC hW 0 (by decide) rfl rfl uX9 1 (by decide) fl_X9_19 rfl rfl dX9_tune_4 ?_
  refine x_get (C := RX2) (T := TX2) (N := 12) (v := _) hC hW 3 (by decide) rfl rfl uX2 2 (by decide) fl_X9_197 rfl rfl dX9_tune_7 ?_
  refine lv_ishl hC.1 hC.2.1 dX9_tune_10 ?_
  refine lv_iconst (v := 1) hC.1 hC.2.1 dX9_tune_11 (by decide) ?_
  refine lv_isub hC.1 hC.2.1 dX9_tune_12 ?_
  obtain ⟨⟨q13_r, q13_S⟩, hq, h⟩ := xb h
  try dsimp only at h
  refine x_callS (As := [.int x1, .int (0 : Int32), .int (((1 : Int32) <<< ((S.1 3 2) &&& 31)) - (1 : Int32))]) (rest := []) hC hW hS (c_X9_within l D b cs _ _ _ _ _ _ hq) mi_X9_within st_X9_within ml_X9_87 ⟨rfl, rfl⟩ ⟨Nat.le_of_ble_eq_true rfl, Nat.le_of_ble_eq_true rfl⟩ ⟨Nat.zero_le _, Nat.zero_le _⟩ rfl rfl hl.1 (Nat.le_of_ble_eq_true rfl) dX9_tune_13 (fun H locs hW hS => ?_)
  refine lv_if_ne (tgt := 21) hC.1 hC.2.1 dX9_tune_16 (by decide) (fun hc => ?_) (fun hc => ?_)
  · replace h := xf hc h
    refine lv_aload_n hC.1 hC.2.1 dX9_tune_21 rfl (lv_at hl 0 rfl) ?_
    refine x_get (C := RX9) (T := TX9) (N := 12) (v := _) hC hW 0 (by decide) rfl rfl uX9 7 (by decide) fl_X9_53 rfl rfl dX9_tune_22 ?_
    refine lv_iload_n hC.1 hC.2.1 dX9_tune_25 rfl (lv_at hl 1 rfl) ?_
    obtain ⟨⟨q26_r, q26_S⟩, hq, h⟩ := xb h
    try dsimp only at h
    refine x_callV (T := TX1) (N := 2) (As := [.int x1]) (rest := []) hC hW hS 90 (c_X1_lowestPitchOf l D b cs _ _ _ _ hq) (by decide) rfl rfl mi_X1_lowestPitchOf in_X1_lowestPitchOf sl_X1_lowestPitchOf ml_X9_221 ⟨rfl, rfl⟩ ⟨Nat.le_of_ble_eq_true rfl, Nat.le_of_ble_eq_true rfl⟩ ⟨Nat.zero_le _, Nat.zero_le _⟩ rfl rfl hl.1 (Nat.le_of_ble_eq_true rfl) dX9_tune_26 (fun H locs hW hS => ?_)
    obtain ⟨rfl, rfl⟩ := xr h
    exact x_iret hC hr hW hS dX9_tune_29
  · replace h := xt hc h
    refine lv_iconst (v := -1) hC.1 hC.2.1 dX9_tune_19 (by decide) ?_
    obtain ⟨rfl, rfl⟩ := xr h
    exact x_iret hC hr hW hS dX9_tune_20
theorem dX9_thirds_0 : decode cX9_thirds 0 = .ok (.aload_n 0, 1) := by decide +kernel
theorem dX9_thirds_1 : decode cX9_thirds 1 = .ok (.iload_n 1, 1) := by decide +kernel
theorem dX9_thirds_2 : decode cX9_thirds 2 = .ok (.invokevirtual 136, 3) := by decide +kernel
theorem dX9_thirds_5 : decode cX9_thirds 5 = .ok (.ifCond .eq 16, 3) := by decide +kernel
theorem dX9_thirds_8 : decode cX9_thirds 8 = .ok (.aload_n 0, 1) := by decide +kernel
theorem dX9_thirds_9 : decode cX9_thirds 9 = .ok (.iload_n 2, 1) := by decide +kernel
theorem dX9_thirds_10 : decode cX9_thirds 10 = .ok (.invokevirtual 136, 3) := by decide +kernel
theorem dX9_thirds_13 : decode cX9_thirds 13 = .ok (.ifCond .eq 8, 3) := by decide +kernel
theorem dX9_thirds_16 : decode cX9_thirds 16 = .ok (.iload_n 1, 1) := by decide +kernel
theorem dX9_thirds_17 : decode cX9_thirds 17 = .ok (.iload_n 2, 1) := by decide +kernel
theorem dX9_thirds_18 : decode cX9_thirds 18 = .ok (.if_icmp .ne 5, 3) := by decide +kernel
theorem dX9_thirds_21 : decode cX9_thirds 21 = .ok (.iconst (-1), 1) := by decide +kernel
theorem dX9_thirds_22 : decode cX9_thirds 22 = .ok (.ireturn, 1) := by decide +kernel
theorem dX9_thirds_23 : decode cX9_thirds 23 = .ok (.aload_n 0, 1) := by decide +kernel
theorem dX9_thirds_24 : decode cX9_thirds 24 = .ok (.getfield 53, 3) := by decide +kernel
theorem dX9_thirds_27 : decode cX9_thirds 27 = .ok (.iload_n 1, 1) := by decide +kernel
theorem dX9_thirds_28 : decode cX9_thirds 28 = .ok (.iload_n 2, 1) := by decide +kernel
theorem dX9_thirds_29 : decode cX9_thirds 29 = .ok (.invokevirtual 224, 3) := by decide +kernel
theorem dX9_thirds_32 : decode cX9_thirds 32 = .ok (.ireturn, 1) := by decide +kernel
abbrev rX9_thirds : Room := { frames := 4, cells := 0, slots := 0, locals := 93 }
set_option maxHeartbeats 4000000 in
set_option maxRecDepth 100000 in
theorem c_X9_thirds (l : Launch) (D : va_G) (b : Nat) (cs : Cs3) (x1 : Int32) (x2 : Int32) (S S1 : St) (r : Int32) (h : p_X9_thirds x1 x2 S = some (r, S1)) : Ct l yX9_thirds cX9_thirds 3 (some .int) rX9_thirds D b cs [.ref (b + 0), .int x1, .int x2] S (some (.int r)) S1 := by
  refine x_met (by decide +kernel) (Nat.le_of_ble_eq_true rfl) ?_
  intro p e s m below meth c ls hC hr hW hS hl
  have hl : lv_has ls 3 [(0, .ref (b + 0)), (1, .int x1), (2, .int x2)] := hl
  rw [p_X9_thirds] at h
  refine lv_aload_n hC.1 hC.2.1 dX9_thirds_0 rfl (lv_at hl 0 rfl) ?_
  refine lv_iload_n hC.1 hC.2.1 dX9_thirds_1 rfl (lv_at hl 1 rfl) ?_
  obtain ⟨⟨q2_r, q2_S⟩, hq, h⟩ := xb h
  try dsimp only at h
  refine x_callV (T := TX9) (N := 12) (As := [.int x1]) (rest := []) hC hW hS 0 (c_X9_isBoy l D b cs _ _ _ _ hq) (by decide) rfl rfl mi_X9_isBoy in_X9_isBoy sl_X9_isBoy ml_X9_136 ⟨rfl, rfl⟩ ⟨Nat.le_of_ble_eq_true rfl, Nat.le_of_ble_eq_true rfl⟩ ⟨Nat.zero_le _, Nat.zero_le _⟩ rfl rfl hl.1 (Nat.le_of_ble_eq_true rfl) dX9_thirds_2 (fun H locs hW hS => ?_)
  refine lv_if_eq (tgt := 21) hC.1 hC.2.1 dX9_thirds_5 (by decide) (fun hc => ?_) (fun hc => ?_)
  · replace h := xt hc h
    refine lv_iconst (v := -1) hC.1 hC.2.1 dX9_thirds_21 (by decide) ?_
    obtain ⟨rfl, rfl⟩ := xr h
    exact x_iret hC hr hW hS dX9_thirds_22
  · replace h := xf hc h
    refine lv_aload_n hC.1 hC.2.1 dX9_thirds_8 rfl (lv_at hl 0 rfl) ?_
    refine lv_iload_n hC.1 hC.2.1 dX9_thirds_9 rfl (lv_at hl 2 rfl) ?_
    obtain ⟨⟨q10_r, q10_S⟩, hq, h⟩ := xb h
    try dsimp only at h
    refine x_callV (T := TX9) (N := 12) (As := [.int x2]) (rest := []) hC hW hS 0 (c_X9_isBoy l D b cs _ _ _ _ hq) (by decide) rfl rfl mi_X9_isBoy in_X9_isBoy sl_X9_isBoy ml_X9_136 ⟨rfl, rfl⟩ ⟨Nat.le_of_ble_eq_true rfl, Nat.le_of_ble_eq_true rfl⟩ ⟨Nat.zero_le _, Nat.zero_le _⟩ rfl rfl hl.1 (Nat.le_of_ble_eq_true rfl) dX9_thirds_10 (fun H locs hW hS => ?_)
    refine lv_if_eq (tgt := 21) hC.1 hC.2.1 dX9_thirds_13 (by decide) (fun hc => ?_) (fun hc => ?_)
    · replace h := xt hc h
      refine lv_iconst (v := -1) hC.1 hC.2.1 dX9_thirds_21 (by decide) ?_
      obtain ⟨rfl, rfl⟩ := xr h
      exact x_iret hC hr hW hS dX9_thirds_22
    · replace h := xf hc h
      refine lv_iload_n hC.1 hC.2.1 dX9_thirds_16 rfl (lv_at hl 1 rfl) ?_
      refine lv_iload_n hC.1 hC.2.1 dX9_thirds_17 rfl (lv_at hl 2 rfl) ?_
      refine lv_icmp_ne (tgt := 23) hC.1 hC.2.1 dX9_thirds_18 (by decide) (fun hc => ?_) (fun hc => ?_)
      · replace h := xf hc h
        refine lv_aload_n hC.1 hC.2.1 dX9_thirds_23 rfl (lv_at hl 0 rfl) ?_
        refine x_get (C := RX9) (T := TX9) (N := 12) (v := _) hC hW 0 (by decide) rfl rfl uX9 7 (by decide) fl_X9_53 rfl rfl dX9_thirds_24 ?_
        refine lv_iload_n hC.1 hC.2.1 dX9_thirds_27 rfl (lv_at hl 1 rfl) ?_
        refine lv_iload_n hC.1 hC.2.1 dX9_thirds_28 rfl (lv_at hl 2 rfl) ?_
        obtain ⟨⟨q29_r, q29_S⟩, hq, h⟩ := xb h
        try dsimp only at h
        refine x_callV (T := TX1) (N := 2) (As := [.int x1, .int x2]) (rest := []) hC hW hS 90 (c_X1_rowsOfThirds l D b cs _ _ _ _ _ hq) (by decide) rfl rfl mi_X1_rowsOfThirds in_X1_rowsOfThirds sl_X1_rowsOfThirds ml_X9_224 ⟨rfl, rfl⟩ ⟨Nat.le_of_ble_eq_true rfl, Nat.le_of_ble_eq_true rfl⟩ ⟨Nat.zero_le _, Nat.zero_le _⟩ rfl rfl hl.1 (Nat.le_of_ble_eq_true rfl) dX9_thirds_29 (fun H locs hW hS => ?_)
        obtain ⟨rfl, rfl⟩ := xr h
        exact x_iret hC hr hW hS dX9_thirds_32
      · replace h := xt hc h
        refine lv_iconst (v := -1) hC.1 hC.2.1 dX9_thirds_21 (by decide) ?_
        obtain ⟨rfl, rfl⟩ := xr h
        exact x_iret hC hr hW hS dX9_thirds_22
theorem dX9_odds_0 : decode cX9_odds 0 = .ok (.iload_n 1, 1) := by decide +kernel
theorem dX9_odds_1 : decode cX9_odds 1 = .ok (.iconst 0, 1) := by decide +kernel
theorem dX9_odds_2 : decode cX9_odds 2 = .ok (.bipush 10, 2) := by decide +kernel
theorem dX9_odds_4 : decode cX9_odds 4 = .ok (.invokestatic 87, 3) := by decide +kernel
theorem dX9_odds_7 : decode cX9_odds 7 = .ok (.ifCond .eq 21, 3) := by decide +kernel
theorem dX9_odds_10 : decode cX9_odds 10 = .ok (.iload_n 2, 1) := by decide +kernel
theorem dX9_odds_11 : decode cX9_odds 11 = .ok (.iconst 0, 1) := by decide +kernel
theorem dX9_odds_12 : decode cX9_odds 12 = .ok (.iconst 5, 1) := by decide +kernel
theorem dX9_odds_13 : decode cX9_odds 13 = .ok (.invokestatic 87, 3) := by decide +kernel
theorem dX9_odds_16 : decode cX9_odds 16 = .ok (.ifCond .eq 12, 3) := by decide +kernel
theorem dX9_odds_19 : decode cX9_odds 19 = .ok (.iload_n 3, 1) := by decide +kernel
theorem dX9_odds_20 : decode cX9_odds 20 = .ok (.iconst 0, 1) := by decide +kernel
theorem dX9_odds_21 : decode cX9_odds 21 = .ok (.iconst 1, 1) := by decide +kernel
theorem dX9_odds_22 : decode cX9_odds 22 = .ok (.invokestatic 87, 3) := by decide +kernel
theorem dX9_odds_25 : decode cX9_odds 25 = .ok (.ifCond .ne 5, 3) := by decide +kernel
theorem dX9_odds_28 : decode cX9_odds 28 = .ok (.iconst (-1), 1) := by decide +kernel
theorem dX9_odds_29 : decode cX9_odds 29 = .ok (.ireturn, 1) := by decide +kernel
theorem dX9_odds_30 : decode cX9_odds 30 = .ok (.aload_n 0, 1) := by decide +kernel
theorem dX9_odds_31 : decode cX9_odds 31 = .ok (.getfield 69, 3) := by decide +kernel
theorem dX9_odds_34 : decode cX9_odds 34 = .ok (.aload_n 0, 1) := by decide +kernel
theorem dX9_odds_35 : decode cX9_odds 35 = .ok (.getfield 53, 3) := by decide +kernel
theorem dX9_odds_38 : decode cX9_odds 38 = .ok (.invokevirtual 227, 3) := by decide +kernel
theorem dX9_odds_41 : decode cX9_odds 41 = .ok (.iload_n 1, 1) := by decide +kernel
theorem dX9_odds_42 : decode cX9_odds 42 = .ok (.iload_n 2, 1) := by decide +kernel
theorem dX9_odds_43 : decode cX9_odds 43 = .ok (.invokevirtual 230, 3) := by decide +kernel
theorem dX9_odds_46 : decode cX9_odds 46 = .ok (.iload_n 3, 1) := by decide +kernel
theorem dX9_odds_47 : decode cX9_odds 47 = .ok (.ifCond .ne 13, 3) := by decide +kernel
theorem dX9_odds_50 : decode cX9_odds 50 = .ok (.aload_n 0, 1) := by decide +kernel
theorem dX9_odds_51 : decode cX9_odds 51 = .ok (.getfield 69, 3) := by decide +kernel
theorem dX9_odds_54 : decode cX9_odds 54 = .ok (.getfield 234, 3) := by decide +kernel
theorem dX9_odds_57 : decode cX9_odds 57 = .ok (.goto 10, 3) := by decide +kernel
theorem dX9_odds_60 : decode cX9_odds 60 = .ok (.aload_n 0, 1) := by decide +kernel
theorem dX9_odds_61 : decode cX9_odds 61 = .ok (.getfield 69, 3) := by decide +kernel
theorem dX9_odds_64 : decode cX9_odds 64 = .ok (.getfield 237, 3) := by decide +kernel
theorem dX9_odds_67 : decode cX9_odds 67 = .ok (.ireturn, 1) := by decide +kernel
abbrev rX9_odds : Room := { frames := 2, cells := 0, slots := 0, locals := 49 }
set_option maxHeartbeats 4000000 in
set_option maxRecDepth 100000 in
theorem c_X9_odds (l : Launch) (D : va_G) (b : Nat) (cs : Cs3) (x1 : Int32) (x2 : Int32) (x3 : Int32) (S S1 : St) (r : Int32) (h : p_X9_odds x1 x2 x3 S = some (r, S1)) : Ct l yX9_odds cX9_odds 4 (some .int) rX9_odds D b cs [.ref (b + 0), .int x1, .int x2, .int x3] S (some (.int r)) S1 := by
  refine x_met (by decide +kernel) (Nat.le_of_ble_eq_true rfl) ?_
  intro p e s m below meth c ls hC hr hW hS hl
  have hl : lv_has ls 4 [(0, .ref (b + 0)), (1, .int x1), (2, .int x2), (3, .int x3)] := hl
  rw [p_X9_odds] at h
  refine lv_iload_n hC.1 hC.2.1 dX9_odds_0 rfl (lv_at hl 1 rfl) ?_
  refine lv_iconst (v := 0) hC.1 hC.2.1 dX9_odds_1 (by decide) ?_
  refine lv_bipush (v := 10) hC.1 hC.2.1 dX9_odds_2 (by decide) ?_
  obtain ⟨⟨q4_r, q4_S⟩, hq, h⟩ := xb h
  try dsimp only at h
  refine x_callS (As := [.int x1, .int (0 : Int32), .int (10 : Int32)]) (rest := []) hC hW hS (c_X9_within l D b cs _ _ _ _ _ _ hq) mi_X9_within st_X9_within ml_X9_87 ⟨rfl, rfl⟩ ⟨Nat.le_of_ble_eq_true rfl, Nat.le_of_ble_eq_true rfl⟩ ⟨Nat.zero_le _, Nat.zero_le _⟩ rfl rfl hl.1 (Nat.le_of_ble_eq_true rfl) dX9_odds_4 (fun H locs hW hS => ?_)
  refine lv_if_eq (tgt := 28) hC.1 hC.2.1 dX9_odds_7 (by decide) (fun hc => ?_) (fun hc => ?_)
  · replace h := xt hc h
    refine lv_iconst (v := -1) hC.1 hC.2.1 dX9_odds_28 (by decide) ?_
    obtain ⟨rfl, rfl⟩ := xr h
    exact x_iret hC hr hW hS dX9_odds_29
  · replace h := xf hc h
    refine lv_iload_n hC.1 hC.2.1 dX9_odds_10 rfl (lv_at hl 2 rfl) ?_
    refine lv_iconst (v := 0) hC.1 hC.2.1 dX9_odds_11 (by decide) ?_
    refine lv_iconst (v := 5) hC.1 hC.2.1 dX9_odds_12 (by decide) ?_
    obtain ⟨⟨q13_r, q13_S⟩, hq, h⟩ := xb h
    try dsimp only at h
    refine x_callS (As := [.int x2, .int (0 : Int32), .int (5 : Int32)]) (rest := []) hC hW hS (c_X9_within l D b cs _ _ _ _ _ _ hq) mi_X9_within st_X9_within ml_X9_87 ⟨rfl, rfl⟩ ⟨Nat.le_of_ble_eq_true rfl, Nat.le_of_ble_eq_true rfl⟩ ⟨Nat.zero_le _, Nat.zero_le _⟩ rfl rfl hl.1 (Nat.le_of_ble_eq_true rfl) dX9_odds_13 (fun H locs hW hS => ?_)
    refine lv_if_eq (tgt := 28) hC.1 hC.2.1 dX9_odds_16 (by decide) (fun hc => ?_) (fun hc => ?_)
    · replace h := xt hc h
      refine lv_iconst (v := -1) hC.1 hC.2.1 dX9_odds_28 (by decide) ?_
      obtain ⟨rfl, rfl⟩ := xr h
      exact x_iret hC hr hW hS dX9_odds_29
    · replace h := xf hc h
      refine lv_iload_n hC.1 hC.2.1 dX9_odds_19 rfl (lv_at hl 3 rfl) ?_
      refine lv_iconst (v := 0) hC.1 hC.2.1 dX9_odds_20 (by decide) ?_
      refine lv_iconst (v := 1) hC.1 hC.2.1 dX9_odds_21 (by decide) ?_
      obtain ⟨⟨q22_r, q22_S⟩, hq, h⟩ := xb h
      try dsimp only at h
      refine x_callS (As := [.int x3, .int (0 : Int32), .int (1 : Int32)]) (rest := []) hC hW hS (c_X9_within l D b cs _ _ _ _ _ _ hq) mi_X9_within st_X9_within ml_X9_87 ⟨rfl, rfl⟩ ⟨Nat.le_of_ble_eq_true rfl, Nat.le_of_ble_eq_true rfl⟩ ⟨Nat.zero_le _, Nat.zero_le _⟩ rfl rfl hl.1 (Nat.le_of_ble_eq_true rfl) dX9_odds_22 (fun H locs hW hS => ?_)
      refine lv_if_ne (tgt := 30) hC.1 hC.2.1 dX9_odds_25 (by decide) (fun hc => ?_) (fun hc => ?_)
      · replace h := xf hc h
        refine lv_aload_n hC.1 hC.2.1 dX9_odds_30 rfl (lv_at hl 0 rfl) ?_
        refine x_get (C := RX9) (T := TX9) (N := 12) (v := _) hC hW 0 (by decide) rfl rfl uX9 9 (by decide) fl_X9_69 rfl rfl dX9_odds_31 ?_
        refine lv_aload_n hC.1 hC.2.1 dX9_odds_34 rfl (lv_at hl 0 rfl) ?_
        refine x_get (C := RX9) (T := TX9) (N := 12) (v := _) hC hW 0 (by decide) rfl rfl uX9 7 (by decide) fl_X9_53 rfl rfl dX9_odds_35 ?_
        obtain ⟨⟨q38_r, q38_S⟩, hq, h⟩ := xb h
        try dsimp only at h
        refine x_callV (T := TX1) (N := 2) (As := []) (rest := [.ref (b + 93)]) hC hW hS 90 (c_X1_unbroken l D b cs _ _ _ hq) (by decide) rfl rfl mi_X1_unbroken in_X1_unbroken sl_X1_unbroken ml_X9_227 ⟨rfl, rfl⟩ ⟨Nat.le_of_ble_eq_true rfl, Nat.le_of_ble_eq_true rfl⟩ ⟨Nat.zero_le _, Nat.zero_le _⟩ rfl rfl hl.1 (Nat.le_of_ble_eq_true rfl) dX9_odds_38 (fun H locs hW hS => ?_)
        refine lv_iload_n hC.1 hC.2.1 dX9_odds_41 rfl (lv_at hl 1 rfl) ?_
        refine lv_iload_n hC.1 hC.2.1 dX9_odds_42 rfl (lv_at hl 2 rfl) ?_
        obtain ⟨q43, hq, h⟩ := xb h
        try dsimp only at h
        refine x_callV (T := TX0) (N := 3) (As := [.int q38_r, .int x1, .int x2]) (rest := []) hC hW hS 93 (c_X0_reckon l D b cs _ _ _ _ _ hq) (by decide) rfl rfl mi_X0_reckon in_X0_reckon sl_X0_reckon ml_X9_230 ⟨rfl, rfl⟩ ⟨Nat.le_of_ble_eq_true rfl, Nat.le_of_ble_eq_true rfl⟩ ⟨Nat.zero_le _, Nat.zero_le _⟩ rfl rfl hl.1 (Nat.le_of_ble_eq_true rfl) dX9_odds_43 (fun H locs hW hS => ?_)
        refine lv_iload_n hC.1 hC.2.1 dX9_odds_46 rfl (lv_at hl 3 rfl) ?_
        refine lv_if_ne (tgt := 60) hC.1 hC.2.1 dX9_odds_47 (by decide) (fun hc => ?_) (fun hc => ?_)
        · replace h := xf hc h
          refine lv_aload_n hC.1 hC.2.1 dX9_odds_60 rfl (lv_at hl 0 rfl) ?_
          refine x_get (C := RX9) (T := TX9) (N := 12) (v := _) hC hW 0 (by decide) rfl rfl uX9 9 (by decide) fl_X9_69 rfl rfl dX9_odds_61 ?_
          refine x_get (C := RX0) (T := TX0) (N := 3) (v := _) hC hW 93 (by decide) rfl rfl uX0 2 (by decide) fl_X9_237 rfl rfl dX9_odds_64 ?_
          obtain ⟨rfl, rfl⟩ := xr h
          exact x_iret hC hr hW hS dX9_odds_67
        · replace h := xt hc h
          refine lv_aload_n hC.1 hC.2.1 dX9_odds_50 rfl (lv_at hl 0 rfl) ?_
          refine x_get (C := RX9) (T := TX9) (N := 12) (v := _) hC hW 0 (by decide) rfl rfl uX9 9 (by decide) fl_X9_69 rfl rfl dX9_odds_51 ?_
          refine x_get (C := RX0) (T := TX0) (N := 3) (v := _) hC hW 93 (by decide) rfl rfl uX0 1 (by decide) fl_X9_234 rfl rfl dX9_odds_54 ?_
          refine lv_goto (tgt := 67) hC.1 hC.2.1 dX9_odds_57 (by decide) ?_
          obtain ⟨rfl, rfl⟩ := xr h
          exact x_iret hC hr hW hS dX9_odds_67
      · replace h := xt hc h
        refine lv_iconst (v := -1) hC.1 hC.2.1 dX9_odds_28 (by decide) ?_
        obtain ⟨rfl, rfl⟩ := xr h
        exact x_iret hC hr hW hS dX9_odds_29
theorem dX9_hears_0 : decode cX9_hears 0 = .ok (.aload_n 0, 1) := by decide +kernel
theorem dX9_hears_1 : decode cX9_hears 1 = .ok (.iload_n 1, 1) := by decide +kernel
theorem dX9_hears_2 : decode cX9_hears 2 = .ok (.invokevirtual 116, 3) := by decide +kernel
theorem dX9_hears_5 : decode cX9_hears 5 = .ok (.ifCond .eq 12, 3) := by decide +kernel
theorem dX9_hears_8 : decode cX9_hears 8 = .ok (.iload_n 2, 1) := by decide +kernel
theorem dX9_hears_9 : decode cX9_hears 9 = .ok (.iconst 0, 1) := by decide +kernel
theorem dX9_hears_10 : decode cX9_hears 10 = .ok (.iconst 1, 1) := by decide +kernel
theorem dX9_hears_11 : decode cX9_hears 11 = .ok (.invokestatic 87, 3) := by decide +kernel
theorem dX9_hears_14 : decode cX9_hears 14 = .ok (.ifCond .ne 5, 3) := by decide +kernel
theorem dX9_hears_17 : decode cX9_hears 17 = .ok (.iconst (-1), 1) := by decide +kernel
theorem dX9_hears_18 : decode cX9_hears 18 = .ok (.ireturn, 1) := by decide +kernel
theorem dX9_hears_19 : decode cX9_hears 19 = .ok (.aload_n 0, 1) := by decide +kernel
theorem dX9_hears_20 : decode cX9_hears 20 = .ok (.getfield 76, 3) := by decide +kernel
theorem dX9_hears_23 : decode cX9_hears 23 = .ok (.getfield 113, 3) := by decide +kernel
theorem dX9_hears_26 : decode cX9_hears 26 = .ok (.bipush 6, 2) := by decide +kernel
theorem dX9_hears_28 : decode cX9_hears 28 = .ok (.if_icmp .lt 6, 3) := by decide +kernel
theorem dX9_hears_31 : decode cX9_hears 31 = .ok (.bipush (-3), 2) := by decide +kernel
theorem dX9_hears_33 : decode cX9_hears 33 = .ok (.ireturn, 1) := by decide +kernel
theorem dX9_hears_34 : decode cX9_hears 34 = .ok (.aload_n 0, 1) := by decide +kernel
theorem dX9_hears_35 : decode cX9_hears 35 = .ok (.getfield 76, 3) := by decide +kernel
theorem dX9_hears_38 : decode cX9_hears 38 = .ok (.iload_n 1, 1) := by decide +kernel
theorem dX9_hears_39 : decode cX9_hears 39 = .ok (.iload_n 2, 1) := by decide +kernel
theorem dX9_hears_40 : decode cX9_hears 40 = .ok (.invokevirtual 240, 3) := by decide +kernel
theorem dX9_hears_43 : decode cX9_hears 43 = .ok (.aload_n 0, 1) := by decide +kernel
theorem dX9_hears_44 : decode cX9_hears 44 = .ok (.getfield 76, 3) := by decide +kernel
theorem dX9_hears_47 : decode cX9_hears 47 = .ok (.getfield 113, 3) := by decide +kernel
theorem dX9_hears_50 : decode cX9_hears 50 = .ok (.ireturn, 1) := by decide +kernel
abbrev rX9_hears : Room := { frames := 2, cells := 0, slots := 0, locals := 43 }
set_option maxHeartbeats 4000000 in
set_option maxRecDepth 100000 in
theorem c_X9_hears (l : Launch) (D : va_G) (b : Nat) (cs : Cs3) (x1 : Int32) (x2 : Int32) (S S1 : St) (r : Int32) (h : p_X9_hears x1 x2 S = some (r, S1)) : Ct l yX9_hears cX9_hears 3 (some .int) rX9_hears D b cs [.ref (b + 0), .int x1, .int x2] S (some (.int r)) S1 := by
  refine x_met (by decide +kernel) (Nat.le_of_ble_eq_true rfl) ?_
  intro p e s m below meth c ls hC hr hW hS hl
  have hl : lv_has ls 3 [(0, .ref (b + 0)), (1, .int x1), (2, .int x2)] := hl
  rw [p_X9_hears] at h
  refine lv_aload_n hC.1 hC.2.1 dX9_hears_0 rfl (lv_at hl 0 rfl) ?_
  refine lv_iload_n hC.1 hC.2.1 dX9_hears_1 rfl (lv_at hl 1 rfl) ?_
  obtain ⟨⟨q2_r, q2_S⟩, hq, h⟩ := xb h
  try dsimp only at h
  refine x_callV (T := TX9) (N := 12) (As := [.int x1]) (rest := []) hC hW hS 0 (c_X9_isDoor l D b cs _ _ _ _ hq) (by decide) rfl rfl mi_X9_isDoor in_X9_isDoor sl_X9_isDoor ml_X9_116 ⟨rfl, rfl⟩ ⟨Nat.le_of_ble_eq_true rfl, Nat.le_of_ble_eq_true rfl⟩ ⟨Nat.zero_le _, Nat.zero_le _⟩ rfl rfl hl.1 (Nat.le_of_ble_eq_true rfl) dX9_hears_2 (fun H locs hW hS => ?_)
  refine lv_if_eq (tgt := 17) hC.1 hC.2.1 dX9_hears_5 (by decide) (fun hc => ?_) (fun hc => ?_)
  · replace h := xt hc h
    refine lv_iconst (v := -1) hC.1 hC.2.1 dX9_hears_17 (by decide) ?_
    obtain ⟨rfl, rfl⟩ := xr h
    exact x_iret hC hr hW hS dX9_hears_18
  · replace h := xf hc h
    refine lv_iload_n hC.1 hC.2.1 dX9_hears_8 rfl (lv_at hl 2 rfl) ?_
    refine lv_iconst (v := 0) hC.1 hC.2.1 dX9_hears_9 (by decide) ?_
    refine lv_iconst (v := 1) hC.1 hC.2.1 dX9_hears_10 (by decide) ?_
    obtain ⟨⟨q11_r, q11_S⟩, hq, h⟩ := xb h
    try dsimp only at h
    refine x_callS (As := [.int x2, .int (0 : Int32), .int (1 : Int32)]) (rest := []) hC hW hS (c_X9_within l D b cs _ _ _ _ _ _ hq) mi_X9_within st_X9_within ml_X9_87 ⟨rfl, rfl⟩ ⟨Nat.le_of_ble_eq_true rfl, Nat.le_of_ble_eq_true rfl⟩ ⟨Nat.zero_le _, Nat.zero_le _⟩ rfl rfl hl.1 (Nat.le_of_ble_eq_true rfl) dX9_hears_11 (fun H locs hW hS => ?_)
    refine lv_if_ne (tgt := 19) hC.1 hC.2.1 dX9_hears_14 (by decide) (fun hc => ?_) (fun hc => ?_)
    · replace h := xf hc h
      refine lv_aload_n hC.1 hC.2.1 dX9_hears_19 rfl (lv_at hl 0 rfl) ?_
      refine x_get (C := RX9) (T := TX9) (N := 12) (v := _) hC hW 0 (by decide) rfl rfl uX9 10 (by decide) fl_X9_76 rfl rfl dX9_hears_20 ?_
      refine x_get (C := RX3) (T := TX3) (N := 4) (v := _) hC hW 95 (by decide) rfl rfl uX3 3 (by decide) fl_X9_113 rfl rfl dX9_hears_23 ?_
      refine lv_bipush (v := 6) hC.1 hC.2.1 dX9_hears_26 (by decide) ?_
      refine lv_icmp_lt (tgt := 34) hC.1 hC.2.1 dX9_hears_28 (by decide) (fun hc => ?_) (fun hc => ?_)
      · replace h := xt hc h
        refine lv_aload_n hC.1 hC.2.1 dX9_hears_34 rfl (lv_at hl 0 rfl) ?_
        refine x_get (C := RX9) (T := TX9) (N := 12) (v := _) hC hW 0 (by decide) rfl rfl uX9 10 (by decide) fl_X9_76 rfl rfl dX9_hears_35 ?_
        refine lv_iload_n hC.1 hC.2.1 dX9_hears_38 rfl (lv_at hl 1 rfl) ?_
        refine lv_iload_n hC.1 hC.2.1 dX9_hears_39 rfl (lv_at hl 2 rfl) ?_
        obtain ⟨q40, hq, h⟩ := xb h
        try dsimp only at h
        refine x_callV (T := TX3) (N := 4) (As := [.int x1, .int x2]) (rest := []) hC hW hS 95 (c_X3_add l D b cs _ _ _ _ hq) (by decide) rfl rfl mi_X3_add in_X3_add sl_X3_add ml_X9_240 ⟨rfl, rfl⟩ ⟨Nat.le_of_ble_eq_true rfl, Nat.le_of_ble_eq_true rfl⟩ ⟨Nat.zero_le _, Nat.zero_le _⟩ rfl rfl hl.1 (Nat.le_of_ble_eq_true rfl) dX9_hears_40 (fun H locs hW hS => ?_)
        refine lv_aload_n hC.1 hC.2.1 dX9_hears_43 rfl (lv_at hl 0 rfl) ?_
        refine x_get (C := RX9) (T := TX9) (N := 12) (v := _) hC hW 0 (by decide) rfl rfl uX9 10 (by decide) fl_X9_76 rfl rfl dX9_hears_44 ?_
        refine x_get (C := RX3) (T := TX3) (N := 4) (v := _) hC hW 95 (by decide) rfl rfl uX3 3 (by decide) fl_X9_113 rfl rfl dX9_hears_47 ?_
        obtain ⟨rfl, rfl⟩ := xr h
        exact x_iret hC hr hW hS dX9_hears_50
      · replace h := xf hc h
        refine lv_bipush (v := -3) hC.1 hC.2.1 dX9_hears_31 (by decide) ?_
        obtain ⟨rfl, rfl⟩ := xr h
        exact x_iret hC hr hW hS dX9_hears_33
    · replace h := xt hc h
      refine lv_iconst (v := -1) hC.1 hC.2.1 dX9_hears_17 (by decide) ?_
      obtain ⟨rfl, rfl⟩ := xr h
      exact x_iret hC hr hW hS dX9_hears_18
theorem dX9_forget_0 : decode cX9_forget 0 = .ok (.aload_n 0, 1) := by decide +kernel
theorem dX9_forget_1 : decode cX9_forget 1 = .ok (.getfield 76, 3) := by decide +kernel
theorem dX9_forget_4 : decode cX9_forget 4 = .ok (.getfield 113, 3) := by decide +kernel
theorem dX9_forget_7 : decode cX9_forget 7 = .ok (.istore_n 1, 1) := by decide +kernel
theorem dX9_forget_8 : decode cX9_forget 8 = .ok (.aload_n 0, 1) := by decide +kernel
theorem dX9_forget_9 : decode cX9_forget 9 = .ok (.getfield 76, 3) := by decide +kernel
theorem dX9_forget_12 : decode cX9_forget 12 = .ok (.iconst 0, 1) := by decide +kernel
theorem dX9_forget_13 : decode cX9_forget 13 = .ok (.putfield 113, 3) := by decide +kernel
theorem dX9_forget_16 : decode cX9_forget 16 = .ok (.iload_n 1, 1) := by decide +kernel
theorem dX9_forget_17 : decode cX9_forget 17 = .ok (.ireturn, 1) := by decide +kernel
abbrev rX9_forget : Room := { frames := 0, cells := 0, slots := 0, locals := 0 }
set_option maxHeartbeats 4000000 in
set_option maxRecDepth 100000 in
theorem c_X9_forget (l : Launch) (D : va_G) (b : Nat) (cs : Cs3) (S S1 : St) (r : Int32) (h : p_X9_forget S = some (r, S1)) : Ct l yX9_forget cX9_forget 2 (some .int) rX9_forget D b cs [.ref (b + 0)] S (some (.int r)) S1 := by
  refine x_met (by decide +kernel) (Nat.le_of_ble_eq_true rfl) ?_
  intro p e s m below meth c ls hC hr hW hS hl
  have hl : lv_has ls 2 [(0, .ref (b + 0))] := hl
  rw [p_X9_forget] at h
  refine lv_aload_n hC.1 hC.2.1 dX9_forget_0 rfl (lv_at hl 0 rfl) ?_
  refine x_get (C := RX9) (T := TX9) (N := 12) (v := _) hC hW 0 (by decide) rfl rfl uX9 10 (by decide) fl_X9_76 rfl rfl dX9_forget_1 ?_
  refine x_get (C := RX3) (T := TX3) (N := 4) (v := _) hC hW 95 (by decide) rfl rfl uX3 3 (by decide) fl_X9_113 rfl rfl dX9_forget_4 ?_
  refine lv_istore_n (lv' := [(1, .int (S.1 95 3)), (0, .ref (b + 0))]) hC.1 hC.2.1 dX9_forget_7 rfl hl (by decide) rfl (fun ls hl => ?_)
  refine lv_aload_n hC.1 hC.2.1 dX9_forget_8 rfl (lv_at hl 1 rfl) ?_
  refine x_get (C := RX9) (T := TX9) (N := 12) (v := _) hC hW 0 (by decide) rfl rfl uX9 10 (by decide) fl_X9_76 rfl rfl dX9_forget_9 ?_
  refine lv_iconst (v := 0) hC.1 hC.2.1 dX9_forget_12 (by decide) ?_
  refine x_puti (C := RX3) (T := TX3) (N := 4) (ty := .int) hC hW hS 95 (by decide) rfl rfl uX3 tyX3 tyX3_ok nmX3 3 (by decide) fl_X9_113 rfl (by decide +kernel) rfl rfl rfl dX9_forget_13 (fun H locs hW hS => ?_)
  refine lv_iload_n hC.1 hC.2.1 dX9_forget_16 rfl (lv_at hl 0 rfl) ?_
  obtain ⟨rfl, rfl⟩ := xr h
  exact x_iret hC hr hW hS dX9_forget_17
theorem dX9_who_0 : decode cX9_who 0 = .ok (.aload_n 0, 1) := by decide +kernel
theorem dX9_who_1 : decode cX9_who 1 = .ok (.getfield 76, 3) := by decide +kernel
theorem dX9_who_4 : decode cX9_who 4 = .ok (.invokevirtual 244, 3) := by decide +kernel
theorem dX9_who_7 : decode cX9_who 7 = .ok (.ireturn, 1) := by decide +kernel
abbrev rX9_who : Room := { frames := 6, cells := 0, slots := 0, locals := 135 }
set_option maxHeartbeats 4000000 in
set_option maxRecDepth 100000 in
theorem c_X9_who (l : Launch) (D : va_G) (b : Nat) (cs : Cs3) (S S1 : St) (r : Int32) (h : p_X9_who S = some (r, S1)) : Ct l yX9_who cX9_who 1 (some .int) rX9_who D b cs [.ref (b + 0)] S (some (.int r)) S1 := by
  refine x_met (by decide +kernel) (Nat.le_of_ble_eq_true rfl) ?_
  intro p e s m below meth c ls hC hr hW hS hl
  have hl : lv_has ls 1 [(0, .ref (b + 0))] := hl
  rw [p_X9_who] at h
  refine lv_aload_n hC.1 hC.2.1 dX9_who_0 rfl (lv_at hl 0 rfl) ?_
  refine x_get (C := RX9) (T := TX9) (N := 12) (v := _) hC hW 0 (by decide) rfl rfl uX9 10 (by decide) fl_X9_76 rfl rfl dX9_who_1 ?_
  obtain ⟨⟨q4_r, q4_S⟩, hq, h⟩ := xb h
  try dsimp only at h
  refine x_callV (T := TX3) (N := 4) (As := []) (rest := []) hC hW hS 95 (c_X3_suspects l D b cs _ _ _ hq) (by decide) rfl rfl mi_X3_suspects in_X3_suspects sl_X3_suspects ml_X9_244 ⟨rfl, rfl⟩ ⟨Nat.le_of_ble_eq_true rfl, Nat.le_of_ble_eq_true rfl⟩ ⟨Nat.zero_le _, Nat.zero_le _⟩ rfl rfl hl.1 (Nat.le_of_ble_eq_true rfl) dX9_who_4 (fun H locs hW hS => ?_)
  obtain ⟨rfl, rfl⟩ := xr h
  exact x_iret hC hr hW hS dX9_who_7
theorem dX9_ask_0 : decode cX9_ask 0 = .ok (.aload_n 0, 1) := by decide +kernel
theorem dX9_ask_1 : decode cX9_ask 1 = .ok (.getfield 76, 3) := by decide +kernel
theorem dX9_ask_4 : decode cX9_ask 4 = .ok (.aload_n 0, 1) := by decide +kernel
theorem dX9_ask_5 : decode cX9_ask 5 = .ok (.getfield 76, 3) := by decide +kernel
theorem dX9_ask_8 : decode cX9_ask 8 = .ok (.invokevirtual 244, 3) := by decide +kernel
theorem dX9_ask_11 : decode cX9_ask 11 = .ok (.invokevirtual 247, 3) := by decide +kernel
theorem dX9_ask_14 : decode cX9_ask 14 = .ok (.ireturn, 1) := by decide +kernel
abbrev rX9_ask : Room := { frames := 6, cells := 0, slots := 0, locals := 139 }
set_option maxHeartbeats 4000000 in
set_option maxRecDepth 100000 in
theorem c_X9_ask (l : Launch) (D : va_G) (b : Nat) (cs : Cs3) (S S1 : St) (r : Int32) (h : p_X9_ask S = some (r, S1)) : Ct l yX9_ask cX9_ask 1 (some .int) rX9_ask D b cs [.ref (b + 0)] S (some (.int r)) S1 := by
  refine x_met (by decide +kernel) (Nat.le_of_ble_eq_true rfl) ?_
  intro p e s m below meth c ls hC hr hW hS hl
  have hl : lv_has ls 1 [(0, .ref (b + 0))] := hl
  rw [p_X9_ask] at h
  refine lv_aload_n hC.1 hC.2.1 dX9_ask_0 rfl (lv_at hl 0 rfl) ?_
  refine x_get (C := RX9) (T := TX9) (N := 12) (v := _) hC hW 0 (by decide) rfl rfl uX9 10 (by decide) fl_X9_76 rfl rfl dX9_ask_1 ?_
  refine lv_aload_n hC.1 hC.2.1 dX9_ask_4 rfl (lv_at hl 0 rfl) ?_
  refine x_get (C := RX9) (T := TX9) (N := 12) (v := _) hC hW 0 (by decide) rfl rfl uX9 10 (by decide) fl_X9_76 rfl rfl dX9_ask_5 ?_
  obtain ⟨⟨q8_r, q8_S⟩, hq, h⟩ := xb h
  try dsimp only at h
  refine x_callV (T := TX3) (N := 4) (As := []) (rest := [.ref (b + 95)]) hC hW hS 95 (c_X3_suspects l D b cs _ _ _ hq) (by decide) rfl rfl mi_X3_suspects in_X3_suspects sl_X3_suspects ml_X9_244 ⟨rfl, rfl⟩ ⟨Nat.le_of_ble_eq_true rfl, Nat.le_of_ble_eq_true rfl⟩ ⟨Nat.zero_le _, Nat.zero_le _⟩ rfl rfl hl.1 (Nat.le_of_ble_eq_true rfl) dX9_ask_8 (fun H locs hW hS => ?_)
  obtain ⟨⟨q11_r, q11_S⟩, hq, h⟩ := xb h
  try dsimp only at h
  refine x_callV (T := TX3) (N := 4) (As := [.int q8_r]) (rest := []) hC hW hS 95 (c_X3_bestDoor l D b cs _ _ _ _ hq) (by decide) rfl rfl mi_X3_bestDoor in_X3_bestDoor sl_X3_bestDoor ml_X9_247 ⟨rfl, rfl⟩ ⟨Nat.le_of_ble_eq_true rfl, Nat.le_of_ble_eq_true rfl⟩ ⟨Nat.zero_le _, Nat.zero_le _⟩ rfl rfl hl.1 (Nat.le_of_ble_eq_true rfl) dX9_ask_11 (fun H locs hW hS => ?_)
  obtain ⟨rfl, rfl⟩ := xr h
  exact x_iret hC hr hW hS dX9_ask_14
theorem dX9_rate_0 : decode cX9_rate 0 = .ok (.iload_n 1, 1) := by decide +kernel
theorem dX9_rate_1 : decode cX9_rate 1 = .ok (.iconst 0, 1) := by decide +kernel
theorem dX9_rate_2 : decode cX9_rate 2 = .ok (.iconst 5, 1) := by decide +kernel
theorem dX9_rate_3 : decode cX9_rate 3 = .ok (.invokestatic 87, 3) := by decide +kernel
theorem dX9_rate_6 : decode cX9_rate 6 = .ok (.ifCond .eq 11, 3) := by decide +kernel
theorem dX9_rate_9 : decode cX9_rate 9 = .ok (.aload_n 0, 1) := by decide +kernel
theorem dX9_rate_10 : decode cX9_rate 10 = .ok (.iload_n 2, 1) := by decide +kernel
theorem dX9_rate_11 : decode cX9_rate 11 = .ok (.invokevirtual 136, 3) := by decide +kernel
theorem dX9_rate_14 : decode cX9_rate 14 = .ok (.ifCond .ne 6, 3) := by decide +kernel
theorem dX9_rate_17 : decode cX9_rate 17 = .ok (.ldc 139, 2) := by decide +kernel
theorem dX9_rate_19 : decode cX9_rate 19 = .ok (.ireturn, 1) := by decide +kernel
theorem dX9_rate_20 : decode cX9_rate 20 = .ok (.aload_n 0, 1) := by decide +kernel
theorem dX9_rate_21 : decode cX9_rate 21 = .ok (.getfield 83, 3) := by decide +kernel
theorem dX9_rate_24 : decode cX9_rate 24 = .ok (.iload_n 1, 1) := by decide +kernel
theorem dX9_rate_25 : decode cX9_rate 25 = .ok (.iload_n 2, 1) := by decide +kernel
theorem dX9_rate_26 : decode cX9_rate 26 = .ok (.invokevirtual 250, 3) := by decide +kernel
theorem dX9_rate_29 : decode cX9_rate 29 = .ok (.ireturn, 1) := by decide +kernel
abbrev rX9_rate : Room := { frames := 6, cells := 0, slots := 0, locals := 135 }
set_option maxHeartbeats 4000000 in
set_option maxRecDepth 100000 in
theorem c_X9_rate (l : Launch) (D : va_G) (b : Nat) (cs : Cs3) (x1 : Int32) (x2 : Int32) (S S1 : St) (r : Int32) (h : p_X9_rate x1 x2 S = some (r, S1)) : Ct l yX9_rate cX9_rate 3 (some .int) rX9_rate D b cs [.ref (b + 0), .int x1, .int x2] S (some (.int r)) S1 := by
  refine x_met (by decide +kernel) (Nat.le_of_ble_eq_true rfl) ?_
  intro p e s m below meth c ls hC hr hW hS hl
  have hl : lv_has ls 3 [(0, .ref (b + 0)), (1, .int x1), (2, .int x2)] := hl
  rw [p_X9_rate] at h
  refine lv_iload_n hC.1 hC.2.1 dX9_rate_0 rfl (lv_at hl 1 rfl) ?_
  refine lv_iconst (v := 0) hC.1 hC.2.1 dX9_rate_1 (by decide) ?_
  refine lv_iconst (v := 5) hC.1 hC.2.1 dX9_rate_2 (by decide) ?_
  obtain ⟨⟨q3_r, q3_S⟩, hq, h⟩ := xb h
  try dsimp only at h
  refine x_callS (As := [.int x1, .int (0 : Int32), .int (5 : Int32)]) (rest := []) hC hW hS (c_X9_within l D b cs _ _ _ _ _ _ hq) mi_X9_within st_X9_within ml_X9_87 ⟨rfl, rfl⟩ ⟨Nat.le_of_ble_eq_true rfl, Nat.le_of_ble_eq_true rfl⟩ ⟨Nat.zero_le _, Nat.zero_le _⟩ rfl rfl hl.1 (Nat.le_of_ble_eq_true rfl) dX9_rate_3 (fun H locs hW hS => ?_)
  refine lv_if_eq (tgt := 17) hC.1 hC.2.1 dX9_rate_6 (by decide) (fun hc => ?_) (fun hc => ?_)
  · replace h := xt hc h
    refine lv_ldc (v := -1000000) hC.1 hC.2.1 hC.2.2.2.1 (hC.2.2.2.2.1 _ kw_X9_139) dX9_rate_17 ?_
    obtain ⟨rfl, rfl⟩ := xr h
    exact x_iret hC hr hW hS dX9_rate_19
  · replace h := xf hc h
    refine lv_aload_n hC.1 hC.2.1 dX9_rate_9 rfl (lv_at hl 0 rfl) ?_
    refine lv_iload_n hC.1 hC.2.1 dX9_rate_10 rfl (lv_at hl 2 rfl) ?_
    obtain ⟨⟨q11_r, q11_S⟩, hq, h⟩ := xb h
    try dsimp only at h
    refine x_callV (T := TX9) (N := 12) (As := [.int x2]) (rest := []) hC hW hS 0 (c_X9_isBoy l D b cs _ _ _ _ hq) (by decide) rfl rfl mi_X9_isBoy in_X9_isBoy sl_X9_isBoy ml_X9_136 ⟨rfl, rfl⟩ ⟨Nat.le_of_ble_eq_true rfl, Nat.le_of_ble_eq_true rfl⟩ ⟨Nat.zero_le _, Nat.zero_le _⟩ rfl rfl hl.1 (Nat.le_of_ble_eq_true rfl) dX9_rate_11 (fun H locs hW hS => ?_)
    refine lv_if_ne (tgt := 20) hC.1 hC.2.1 dX9_rate_14 (by decide) (fun hc => ?_) (fun hc => ?_)
    · replace h := xf hc h
      refine lv_aload_n hC.1 hC.2.1 dX9_rate_20 rfl (lv_at hl 0 rfl) ?_
      refine x_get (C := RX9) (T := TX9) (N := 12) (v := _) hC hW 0 (by decide) rfl rfl uX9 11 (by decide) fl_X9_83 rfl rfl dX9_rate_21 ?_
      refine lv_iload_n hC.1 hC.2.1 dX9_rate_24 rfl (lv_at hl 1 rfl) ?_
      refine lv_iload_n hC.1 hC.2.1 dX9_rate_25 rfl (lv_at hl 2 rfl) ?_
      obtain ⟨⟨q26_r, q26_S⟩, hq, h⟩ := xb h
      try dsimp only at h
      refine x_callV (T := TX5) (N := 2) (As := [.int x1, .int x2]) (rest := []) hC hW hS 98 (c_X5_rateAs l D b cs _ _ _ _ _ hq) (by decide) rfl rfl mi_X5_rateAs in_X5_rateAs sl_X5_rateAs ml_X9_250 ⟨rfl, rfl⟩ ⟨Nat.le_of_ble_eq_true rfl, Nat.le_of_ble_eq_true rfl⟩ ⟨Nat.zero_le _, Nat.zero_le _⟩ rfl rfl hl.1 (Nat.le_of_ble_eq_true rfl) dX9_rate_26 (fun H locs hW hS => ?_)
      obtain ⟨rfl, rfl⟩ := xr h
      exact x_iret hC hr hW hS dX9_rate_29
    · replace h := xt hc h
      refine lv_ldc (v := -1000000) hC.1 hC.2.1 hC.2.2.2.1 (hC.2.2.2.2.1 _ kw_X9_139) dX9_rate_17 ?_
      obtain ⟨rfl, rfl⟩ := xr h
      exact x_iret hC hr hW hS dX9_rate_19
