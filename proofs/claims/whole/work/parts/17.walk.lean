-- walks: X9_keep X9_back X9_count X9_trace X10_in X10_has X10_ones X10_type X10_clear X10_letterAt X10_isLetter X10_advances X10_isWell X10_takes X10_number X10_begins X10_mayBegin
theorem dX9_keep_0 : decode cX9_keep 0 = .ok (.iload_n 1, 1) := by decide +kernel
theorem dX9_keep_1 : decode cX9_keep 1 = .ok (.iconst 0, 1) := by decide +kernel
theorem dX9_keep_2 : decode cX9_keep 2 = .ok (.iconst 1, 1) := by decide +kernel
theorem dX9_keep_3 : decode cX9_keep 3 = .ok (.invokestatic 87, 3) := by decide +kernel
theorem dX9_keep_6 : decode cX9_keep 6 = .ok (.ifCond .ne 5, 3) := by decide +kernel
theorem dX9_keep_9 : decode cX9_keep 9 = .ok (.iconst (-1), 1) := by decide +kernel
theorem dX9_keep_10 : decode cX9_keep 10 = .ok (.ireturn, 1) := by decide +kernel
theorem dX9_keep_11 : decode cX9_keep 11 = .ok (.aload_n 0, 1) := by decide +kernel
theorem dX9_keep_12 : decode cX9_keep 12 = .ok (.getfield 40, 3) := by decide +kernel
theorem dX9_keep_15 : decode cX9_keep 15 = .ok (.iload_n 1, 1) := by decide +kernel
theorem dX9_keep_16 : decode cX9_keep 16 = .ok (.aaload, 1) := by decide +kernel
theorem dX9_keep_17 : decode cX9_keep 17 = .ok (.aload_n 0, 1) := by decide +kernel
theorem dX9_keep_18 : decode cX9_keep 18 = .ok (.getfield 29, 3) := by decide +kernel
theorem dX9_keep_21 : decode cX9_keep 21 = .ok (.invokevirtual 253, 3) := by decide +kernel
theorem dX9_keep_24 : decode cX9_keep 24 = .ok (.aload_n 0, 1) := by decide +kernel
theorem dX9_keep_25 : decode cX9_keep 25 = .ok (.getfield 44, 3) := by decide +kernel
theorem dX9_keep_28 : decode cX9_keep 28 = .ok (.iload_n 1, 1) := by decide +kernel
theorem dX9_keep_29 : decode cX9_keep 29 = .ok (.iconst 1, 1) := by decide +kernel
theorem dX9_keep_30 : decode cX9_keep 30 = .ok (.bastore, 1) := by decide +kernel
theorem dX9_keep_31 : decode cX9_keep 31 = .ok (.aload_n 0, 1) := by decide +kernel
theorem dX9_keep_32 : decode cX9_keep 32 = .ok (.getfield 29, 3) := by decide +kernel
theorem dX9_keep_35 : decode cX9_keep 35 = .ok (.getfield 171, 3) := by decide +kernel
theorem dX9_keep_38 : decode cX9_keep 38 = .ok (.ireturn, 1) := by decide +kernel
abbrev rX9_keep : Room := { frames := 1, cells := 0, slots := 0, locals := 22 }
set_option maxHeartbeats 4000000 in
set_option maxRecDepth 100000 in
theorem c_X9_keep (l : Launch) (D : va_G) (b : Nat) (cs : Cs3) (x1 : Int32) (S S1 : St) (r : Int32) (h : p_X9_keep x1 S = some (r, S1)) : Ct l yX9_keep cX9_keep 2 (some .int) rX9_keep D b cs [.ref (b + 0), .int x1] S (some (.int r)) S1 := by
  refine x_met (by decide +kernel) (Nat.le_of_ble_eq_true rfl) ?_
  intro p e s m below meth c ls hC hr hW hS hl
  have hl : lv_has ls 2 [(0, .ref (b + 0)), (1, .int x1)] := hl
  rw [p_X9_keep] at h
  refine lv_iload_n hC.1 hC.2.1 dX9_keep_0 rfl (lv_at hl 1 rfl) ?_
  refine lv_iconst (v := 0) hC.1 hC.2.1 dX9_keep_1 (by decide) ?_
  refine lv_iconst (v := 1) hC.1 hC.2.1 dX9_keep_2 (by decide) ?_
  obtain ⟨⟨q3_r, q3_S⟩, hq, h⟩ := xb h
  try dsimp only at h
  refine x_callS (As := [.int x1, .int (0 : Int32), .int (1 : Int32)]) (rest := []) hC hW hS (c_X9_within l D b cs _ _ _ _ _ _ hq) mi_X9_within st_X9_within ml_X9_87 ⟨rfl, rfl⟩ ⟨Nat.le_of_ble_eq_true rfl, Nat.le_of_ble_eq_true rfl⟩ ⟨Nat.zero_le _, Nat.zero_le _⟩ rfl rfl hl.1 (Nat.le_of_ble_eq_true rfl) dX9_keep_3 (fun H locs hW hS => ?_)
  refine lv_if_ne (tgt := 11) hC.1 hC.2.1 dX9_keep_6 (by decide) (fun hc => ?_) (fun hc => ?_)
  · replace h := xf hc h
    refine lv_aload_n hC.1 hC.2.1 dX9_keep_11 rfl (lv_at hl 0 rfl) ?_
    refine x_get (C := RX9) (T := TX9) (N := 12) (v := _) hC hW 0 (by decide) rfl rfl uX9 5 (by decide) fl_X9_40 rfl rfl dX9_keep_12 ?_
    refine lv_iload_n hC.1 hC.2.1 dX9_keep_15 rfl (lv_at hl 1 rfl) ?_
    obtain ⟨hi, h⟩ := xg h
    obtain ⟨j16, hj, h⟩ := xb h
    have hsj16 := scn_78 hj
    try dsimp only at h
    refine x_aald hC hW 78 (by decide) rfl hi hj dX9_keep_16 ?_
    refine lv_aload_n hC.1 hC.2.1 dX9_keep_17 rfl (lv_at hl 0 rfl) ?_
    refine x_get (C := RX9) (T := TX9) (N := 12) (v := _) hC hW 0 (by decide) rfl rfl uX9 3 (by decide) fl_X9_29 rfl rfl dX9_keep_18 ?_
    obtain ⟨q21, hq, h⟩ := xb h
    try dsimp only at h
    refine x_callV (T := TX8) (N := 6) (As := [.ref (b + 21)]) (rest := []) hC hW hS j16 (c_X8_becomes l D b cs j16 21 _ _ hsj16 scn_at21 hq) (scn_lt0 hsj16) hsj16.2.1 rfl mi_X8_becomes in_X8_becomes sl_X8_becomes ml_X9_253 ⟨rfl, rfl⟩ ⟨Nat.le_of_ble_eq_true rfl, Nat.le_of_ble_eq_true rfl⟩ ⟨Nat.zero_le _, Nat.zero_le _⟩ rfl rfl hl.1 (Nat.le_of_ble_eq_true rfl) dX9_keep_21 (fun H locs hW hS => ?_)
    refine lv_aload_n hC.1 hC.2.1 dX9_keep_24 rfl (lv_at hl 0 rfl) ?_
    refine x_get (C := RX9) (T := TX9) (N := 12) (v := _) hC hW 0 (by decide) rfl rfl uX9 6 (by decide) fl_X9_44 rfl rfl dX9_keep_25 ?_
    refine lv_iload_n hC.1 hC.2.1 dX9_keep_28 rfl (lv_at hl 1 rfl) ?_
    refine lv_iconst (v := 1) hC.1 hC.2.1 dX9_keep_29 (by decide) ?_
    obtain ⟨hi, h⟩ := xg h
    refine x_zast hC hW hS 89 (by decide) rfl hi rfl dX9_keep_30 (fun H locs hW hS => ?_)
    refine lv_aload_n hC.1 hC.2.1 dX9_keep_31 rfl (lv_at hl 0 rfl) ?_
    refine x_get (C := RX9) (T := TX9) (N := 12) (v := _) hC hW 0 (by decide) rfl rfl uX9 3 (by decide) fl_X9_29 rfl rfl dX9_keep_32 ?_
    refine x_get (C := RX8) (T := TX8) (N := 6) (v := _) hC hW 21 (by decide) rfl rfl uX8 5 (by decide) fl_X9_171 rfl rfl dX9_keep_35 ?_
    obtain ⟨rfl, rfl⟩ := xr h
    exact x_iret hC hr hW hS dX9_keep_38
  · replace h := xt hc h
    refine lv_iconst (v := -1) hC.1 hC.2.1 dX9_keep_9 (by decide) ?_
    obtain ⟨rfl, rfl⟩ := xr h
    exact x_iret hC hr hW hS dX9_keep_10
theorem dX9_back_0 : decode cX9_back 0 = .ok (.iload_n 1, 1) := by decide +kernel
theorem dX9_back_1 : decode cX9_back 1 = .ok (.iconst 0, 1) := by decide +kernel
theorem dX9_back_2 : decode cX9_back 2 = .ok (.iconst 1, 1) := by decide +kernel
theorem dX9_back_3 : decode cX9_back 3 = .ok (.invokestatic 87, 3) := by decide +kernel
theorem dX9_back_6 : decode cX9_back 6 = .ok (.ifCond .ne 5, 3) := by decide +kernel
theorem dX9_back_9 : decode cX9_back 9 = .ok (.iconst (-1), 1) := by decide +kernel
theorem dX9_back_10 : decode cX9_back 10 = .ok (.ireturn, 1) := by decide +kernel
theorem dX9_back_11 : decode cX9_back 11 = .ok (.aload_n 0, 1) := by decide +kernel
theorem dX9_back_12 : decode cX9_back 12 = .ok (.getfield 44, 3) := by decide +kernel
theorem dX9_back_15 : decode cX9_back 15 = .ok (.iload_n 1, 1) := by decide +kernel
theorem dX9_back_16 : decode cX9_back 16 = .ok (.baload, 1) := by decide +kernel
theorem dX9_back_17 : decode cX9_back 17 = .ok (.ifCond .ne 6, 3) := by decide +kernel
theorem dX9_back_20 : decode cX9_back 20 = .ok (.bipush (-2), 2) := by decide +kernel
theorem dX9_back_22 : decode cX9_back 22 = .ok (.ireturn, 1) := by decide +kernel
theorem dX9_back_23 : decode cX9_back 23 = .ok (.aload_n 0, 1) := by decide +kernel
theorem dX9_back_24 : decode cX9_back 24 = .ok (.getfield 29, 3) := by decide +kernel
theorem dX9_back_27 : decode cX9_back 27 = .ok (.aload_n 0, 1) := by decide +kernel
theorem dX9_back_28 : decode cX9_back 28 = .ok (.getfield 40, 3) := by decide +kernel
theorem dX9_back_31 : decode cX9_back 31 = .ok (.iload_n 1, 1) := by decide +kernel
theorem dX9_back_32 : decode cX9_back 32 = .ok (.aaload, 1) := by decide +kernel
theorem dX9_back_33 : decode cX9_back 33 = .ok (.invokevirtual 253, 3) := by decide +kernel
theorem dX9_back_36 : decode cX9_back 36 = .ok (.aload_n 0, 1) := by decide +kernel
theorem dX9_back_37 : decode cX9_back 37 = .ok (.getfield 36, 3) := by decide +kernel
theorem dX9_back_40 : decode cX9_back 40 = .ok (.iconst 0, 1) := by decide +kernel
theorem dX9_back_41 : decode cX9_back 41 = .ok (.putfield 110, 3) := by decide +kernel
theorem dX9_back_44 : decode cX9_back 44 = .ok (.aload_n 0, 1) := by decide +kernel
theorem dX9_back_45 : decode cX9_back 45 = .ok (.getfield 29, 3) := by decide +kernel
theorem dX9_back_48 : decode cX9_back 48 = .ok (.getfield 171, 3) := by decide +kernel
theorem dX9_back_51 : decode cX9_back 51 = .ok (.ireturn, 1) := by decide +kernel
abbrev rX9_back : Room := { frames := 1, cells := 0, slots := 0, locals := 22 }
set_option maxHeartbeats 4000000 in
set_option maxRecDepth 100000 in
theorem c_X9_back (l : Launch) (D : va_G) (b : Nat) (cs : Cs3) (x1 : Int32) (S S1 : St) (r : Int32) (h : p_X9_back x1 S = some (r, S1)) : Ct l yX9_back cX9_back 2 (some .int) rX9_back D b cs [.ref (b + 0), .int x1] S (some (.int r)) S1 := by
  refine x_met (by decide +kernel) (Nat.le_of_ble_eq_true rfl) ?_
  intro p e s m below meth c ls hC hr hW hS hl
  have hl : lv_has ls 2 [(0, .ref (b + 0)), (1, .int x1)] := hl
  rw [p_X9_back] at h
  refine lv_iload_n hC.1 hC.2.1 dX9_back_0 rfl (lv_at hl 1 rfl) ?_
  refine lv_iconst (v := 0) hC.1 hC.2.1 dX9_back_1 (by decide) ?_
  refine lv_iconst (v := 1) hC.1 hC.2.1 dX9_back_2 (by decide) ?_
  obtain ⟨⟨q3_r, q3_S⟩, hq, h⟩ := xb h
  try dsimp only at h
  refine x_callS (As := [.int x1, .int (0 : Int32), .int (1 : Int32)]) (rest := []) hC hW hS (c_X9_within l D b cs _ _ _ _ _ _ hq) mi_X9_within st_X9_within ml_X9_87 ⟨rfl, rfl⟩ ⟨Nat.le_of_ble_eq_true rfl, Nat.le_of_ble_eq_true rfl⟩ ⟨Nat.zero_le _, Nat.zero_le _⟩ rfl rfl hl.1 (Nat.le_of_ble_eq_true rfl) dX9_back_3 (fun H locs hW hS => ?_)
  refine lv_if_ne (tgt := 11) hC.1 hC.2.1 dX9_back_6 (by decide) (fun hc => ?_) (fun hc => ?_)
  · replace h := xf hc h
    refine lv_aload_n hC.1 hC.2.1 dX9_back_11 rfl (lv_at hl 0 rfl) ?_
    refine x_get (C := RX9) (T := TX9) (N := 12) (v := _) hC hW 0 (by decide) rfl rfl uX9 6 (by decide) fl_X9_44 rfl rfl dX9_back_12 ?_
    refine lv_iload_n hC.1 hC.2.1 dX9_back_15 rfl (lv_at hl 1 rfl) ?_
    obtain ⟨hi, h⟩ := xg h
    refine x_zald hC hW 89 (by decide) rfl hi dX9_back_16 ?_
    refine lv_if_ne (tgt := 23) hC.1 hC.2.1 dX9_back_17 (by decide) (fun hc => ?_) (fun hc => ?_)
    · replace h := xf hc h
      refine lv_aload_n hC.1 hC.2.1 dX9_back_23 rfl (lv_at hl 0 rfl) ?_
      refine x_get (C := RX9) (T := TX9) (N := 12) (v := _) hC hW 0 (by decide) rfl rfl uX9 3 (by decide) fl_X9_29 rfl rfl dX9_back_24 ?_
      refine lv_aload_n hC.1 hC.2.1 dX9_back_27 rfl (lv_at hl 0 rfl) ?_
      refine x_get (C := RX9) (T := TX9) (N := 12) (v := _) hC hW 0 (by decide) rfl rfl uX9 5 (by decide) fl_X9_40 rfl rfl dX9_back_28 ?_
      refine lv_iload_n hC.1 hC.2.1 dX9_back_31 rfl (lv_at hl 1 rfl) ?_
      obtain ⟨hi, h⟩ := xg h
      obtain ⟨j32, hj, h⟩ := xb h
      have hsj32 := scn_78 hj
      try dsimp only at h
      refine x_aald hC hW 78 (by decide) rfl hi hj dX9_back_32 ?_
      obtain ⟨q33, hq, h⟩ := xb h
      try dsimp only at h
      refine x_callV (T := TX8) (N := 6) (As := [.ref (b + j32)]) (rest := []) hC hW hS 21 (c_X8_becomes l D b cs 21 j32 _ _ scn_at21 hsj32 hq) (by decide) rfl rfl mi_X8_becomes in_X8_becomes sl_X8_becomes ml_X9_253 ⟨rfl, rfl⟩ ⟨Nat.le_of_ble_eq_true rfl, Nat.le_of_ble_eq_true rfl⟩ ⟨Nat.zero_le _, Nat.zero_le _⟩ rfl rfl hl.1 (Nat.le_of_ble_eq_true rfl) dX9_back_33 (fun H locs hW hS => ?_)
      refine lv_aload_n hC.1 hC.2.1 dX9_back_36 rfl (lv_at hl 0 rfl) ?_
      refine x_get (C := RX9) (T := TX9) (N := 12) (v := _) hC hW 0 (by decide) rfl rfl uX9 4 (by decide) fl_X9_36 rfl rfl dX9_back_37 ?_
      refine lv_iconst (v := 0) hC.1 hC.2.1 dX9_back_40 (by decide) ?_
      refine x_puti (C := RX6) (T := TX6) (N := 3) (ty := .int) hC hW hS 26 (by decide) rfl rfl uX6 tyX6 tyX6_ok nmX6 2 (by decide) fl_X9_110 rfl (by decide +kernel) rfl rfl rfl dX9_back_41 (fun H locs hW hS => ?_)
      refine lv_aload_n hC.1 hC.2.1 dX9_back_44 rfl (lv_at hl 0 rfl) ?_
      refine x_get (C := RX9) (T := TX9) (N := 12) (v := _) hC hW 0 (by decide) rfl rfl uX9 3 (by decide) fl_X9_29 rfl rfl dX9_back_45 ?_
      refine x_get (C := RX8) (T := TX8) (N := 6) (v := _) hC hW 21 (by decide) rfl rfl uX8 5 (by decide) fl_X9_171 rfl rfl dX9_back_48 ?_
      obtain ⟨rfl, rfl⟩ := xr h
      exact x_iret hC hr hW hS dX9_back_51
    · replace h := xt hc h
      refine lv_bipush (v := -2) hC.1 hC.2.1 dX9_back_20 (by decide) ?_
      obtain ⟨rfl, rfl⟩ := xr h
      exact x_iret hC hr hW hS dX9_back_22
  · replace h := xt hc h
    refine lv_iconst (v := -1) hC.1 hC.2.1 dX9_back_9 (by decide) ?_
    obtain ⟨rfl, rfl⟩ := xr h
    exact x_iret hC hr hW hS dX9_back_10
theorem dX9_count_0 : decode cX9_count 0 = .ok (.iload_n 1, 1) := by decide +kernel
theorem dX9_count_1 : decode cX9_count 1 = .ok (.tableswitch 87 0 5 #[39, 47, 55, 63, 71, 79], 39) := by decide +kernel
theorem dX9_count_40 : decode cX9_count 40 = .ok (.aload_n 0, 1) := by decide +kernel
theorem dX9_count_41 : decode cX9_count 41 = .ok (.getfield 19, 3) := by decide +kernel
theorem dX9_count_44 : decode cX9_count 44 = .ok (.getfield 209, 3) := by decide +kernel
theorem dX9_count_47 : decode cX9_count 47 = .ok (.ireturn, 1) := by decide +kernel
theorem dX9_count_48 : decode cX9_count 48 = .ok (.aload_n 0, 1) := by decide +kernel
theorem dX9_count_49 : decode cX9_count 49 = .ok (.getfield 19, 3) := by decide +kernel
theorem dX9_count_52 : decode cX9_count 52 = .ok (.getfield 200, 3) := by decide +kernel
theorem dX9_count_55 : decode cX9_count 55 = .ok (.ireturn, 1) := by decide +kernel
theorem dX9_count_56 : decode cX9_count 56 = .ok (.aload_n 0, 1) := by decide +kernel
theorem dX9_count_57 : decode cX9_count 57 = .ok (.getfield 19, 3) := by decide +kernel
theorem dX9_count_60 : decode cX9_count 60 = .ok (.getfield 197, 3) := by decide +kernel
theorem dX9_count_63 : decode cX9_count 63 = .ok (.ireturn, 1) := by decide +kernel
theorem dX9_count_64 : decode cX9_count 64 = .ok (.aload_n 0, 1) := by decide +kernel
theorem dX9_count_65 : decode cX9_count 65 = .ok (.getfield 19, 3) := by decide +kernel
theorem dX9_count_68 : decode cX9_count 68 = .ok (.getfield 203, 3) := by decide +kernel
theorem dX9_count_71 : decode cX9_count 71 = .ok (.ireturn, 1) := by decide +kernel
theorem dX9_count_72 : decode cX9_count 72 = .ok (.aload_n 0, 1) := by decide +kernel
theorem dX9_count_73 : decode cX9_count 73 = .ok (.getfield 76, 3) := by decide +kernel
theorem dX9_count_76 : decode cX9_count 76 = .ok (.getfield 113, 3) := by decide +kernel
theorem dX9_count_79 : decode cX9_count 79 = .ok (.ireturn, 1) := by decide +kernel
theorem dX9_count_80 : decode cX9_count 80 = .ok (.aload_n 0, 1) := by decide +kernel
theorem dX9_count_81 : decode cX9_count 81 = .ok (.getfield 10, 3) := by decide +kernel
theorem dX9_count_84 : decode cX9_count 84 = .ok (.getfield 91, 3) := by decide +kernel
theorem dX9_count_87 : decode cX9_count 87 = .ok (.ireturn, 1) := by decide +kernel
theorem dX9_count_88 : decode cX9_count 88 = .ok (.iconst (-1), 1) := by decide +kernel
theorem dX9_count_89 : decode cX9_count 89 = .ok (.ireturn, 1) := by decide +kernel
abbrev rX9_count : Room := { frames := 0, cells := 0, slots := 0, locals := 0 }
set_option maxHeartbeats 4000000 in
set_option maxRecDepth 100000 in
theorem c_X9_count (l : Launch) (D : va_G) (b : Nat) (cs : Cs3) (x1 : Int32) (S S1 : St) (r : Int32) (h : p_X9_count x1 S = some (r, S1)) : Ct l yX9_count cX9_count 2 (some .int) rX9_count D b cs [.ref (b + 0), .int x1] S (some (.int r)) S1 := by
  refine x_met (by decide +kernel) (Nat.le_of_ble_eq_true rfl) ?_
  intro p e s m below meth c ls hC hr hW hS hl
  have hl : lv_has ls 2 [(0, .ref (b + 0)), (1, .int x1)] := hl
  rw [p_X9_count] at h
  refine lv_iload_n hC.1 hC.2.1 dX9_count_0 rfl (lv_at hl 1 rfl) ?_
  by_cases hc0 : x1 = 0
  · replace h := xt hc0 h
    refine lv_tableIn (off := 39) (tgt := 40) hC.1 hC.2.1 dX9_count_1 (by rw [hc0]; decide) (by rw [hc0]; decide) (by rw [hc0]; rfl) (by decide) ?_
    refine lv_aload_n hC.1 hC.2.1 dX9_count_40 rfl (lv_at hl 0 rfl) ?_
    refine x_get (C := RX9) (T := TX9) (N := 12) (v := _) hC hW 0 (by decide) rfl rfl uX9 1 (by decide) fl_X9_19 rfl rfl dX9_count_41 ?_
    refine x_get (C := RX2) (T := TX2) (N := 12) (v := _) hC hW 3 (by decide) rfl rfl uX2 0 (by decide) fl_X9_209 rfl rfl dX9_count_44 ?_
    obtain ⟨rfl, rfl⟩ := xr h
    exact x_iret hC hr hW hS dX9_count_47
  replace h := xf hc0 h
  by_cases hc1 : x1 = 1
  · replace h := xt hc1 h
    refine lv_tableIn (off := 47) (tgt := 48) hC.1 hC.2.1 dX9_count_1 (by rw [hc1]; decide) (by rw [hc1]; decide) (by rw [hc1]; rfl) (by decide) ?_
    refine lv_aload_n hC.1 hC.2.1 dX9_count_48 rfl (lv_at hl 0 rfl) ?_
    refine x_get (C := RX9) (T := TX9) (N := 12) (v := _) hC hW 0 (by decide) rfl rfl uX9 1 (by decide) fl_X9_19 rfl rfl dX9_count_49 ?_
    refine x_get (C := RX2) (T := TX2) (N := 12) (v := _) hC hW 3 (by decide) rfl rfl uX2 1 (by decide) fl_X9_200 rfl rfl dX9_count_52 ?_
    obtain ⟨rfl, rfl⟩ := xr h
    exact x_iret hC hr hW hS dX9_count_55
  replace h := xf hc1 h
  by_cases hc2 : x1 = 2
  · replace h := xt hc2 h
    refine lv_tableIn (off := 55) (tgt := 56) hC.1 hC.2.1 dX9_count_1 (by rw [hc2]; decide) (by rw [hc2]; decide) (by rw [hc2]; rfl) (by decide) ?_
    refine lv_aload_n hC.1 hC.2.1 dX9_count_56 rfl (lv_at hl 0 rfl) ?_
    refine x_get (C := RX9) (T := TX9) (N := 12) (v := _) hC hW 0 (by decide) rfl rfl uX9 1 (by decide) fl_X9_19 rfl rfl dX9_count_57 ?_
    refine x_get (C := RX2) (T := TX2) (N := 12) (v := _) hC hW 3 (by decide) rfl rfl uX2 2 (by decide) fl_X9_197 rfl rfl dX9_count_60 ?_
    obtain ⟨rfl, rfl⟩ := xr h
    exact x_iret hC hr hW hS dX9_count_63
  replace h := xf hc2 h
  by_cases hc3 : x1 = 3
  · replace h := xt hc3 h
    refine lv_tableIn (off := 63) (tgt := 64) hC.1 hC.2.1 dX9_count_1 (by rw [hc3]; decide) (by rw [hc3]; decide) (by rw [hc3]; rfl) (by decide) ?_
    refine lv_aload_n hC.1 hC.2.1 dX9_count_64 rfl (lv_at hl 0 rfl) ?_
    refine x_get (C := RX9) (T := TX9) (N := 12) (v := _) hC hW 0 (by decide) rfl rfl uX9 1 (by decide) fl_X9_19 rfl rfl dX9_count_65 ?_
    refine x_get (C := RX2) (T := TX2) (N := 12) (v := _) hC hW 3 (by decide) rfl rfl uX2 3 (by decide) fl_X9_203 rfl rfl dX9_count_68 ?_
    obtain ⟨rfl, rfl⟩ := xr h
    exact x_iret hC hr hW hS dX9_count_71
  replace h := xf hc3 h
  by_cases hc4 : x1 = 4
  · replace h := xt hc4 h
    refine lv_tableIn (off := 71) (tgt := 72) hC.1 hC.2.1 dX9_count_1 (by rw [hc4]; decide) (by rw [hc4]; decide) (by rw [hc4]; rfl) (by decide) ?_
    refine lv_aload_n hC.1 hC.2.1 dX9_count_72 rfl (lv_at hl 0 rfl) ?_
    refine x_get (C := RX9) (T := TX9) (N := 12) (v := _) hC hW 0 (by decide) rfl rfl uX9 10 (by decide) fl_X9_76 rfl rfl dX9_count_73 ?_
    refine x_get (C := RX3) (T := TX3) (N := 4) (v := _) hC hW 95 (by decide) rfl rfl uX3 3 (by decide) fl_X9_113 rfl rfl dX9_count_76 ?_
    obtain ⟨rfl, rfl⟩ := xr h
    exact x_iret hC hr hW hS dX9_count_79
  replace h := xf hc4 h
  by_cases hc5 : x1 = 5
  · replace h := xt hc5 h
    refine lv_tableIn (off := 79) (tgt := 80) hC.1 hC.2.1 dX9_count_1 (by rw [hc5]; decide) (by rw [hc5]; decide) (by rw [hc5]; rfl) (by decide) ?_
    refine lv_aload_n hC.1 hC.2.1 dX9_count_80 rfl (lv_at hl 0 rfl) ?_
    refine x_get (C := RX9) (T := TX9) (N := 12) (v := _) hC hW 0 (by decide) rfl rfl uX9 0 (by decide) fl_X9_10 rfl rfl dX9_count_81 ?_
    refine x_get (C := RX7) (T := TX7) (N := 7) (v := _) hC hW 1 (by decide) rfl rfl uX7 1 (by decide) fl_X9_91 rfl rfl dX9_count_84 ?_
    obtain ⟨rfl, rfl⟩ := xr h
    exact x_iret hC hr hW hS dX9_count_87
  replace h := xf hc5 h
  have hn0 : ¬ (x1).toInt = 0 := lv_neT hc0 rfl
  have hn1 : ¬ (x1).toInt = 1 := lv_neT hc1 rfl
  have hn2 : ¬ (x1).toInt = 2 := lv_neT hc2 rfl
  have hn3 : ¬ (x1).toInt = 3 := lv_neT hc3 rfl
  have hn4 : ¬ (x1).toInt = 4 := lv_neT hc4 rfl
  have hn5 : ¬ (x1).toInt = 5 := lv_neT hc5 rfl
  refine lv_tableOut (tgt := 88) hC.1 hC.2.1 dX9_count_1 (by omega) (by decide) ?_
  refine lv_iconst (v := -1) hC.1 hC.2.1 dX9_count_88 (by decide) ?_
  obtain ⟨rfl, rfl⟩ := xr h
  exact x_iret hC hr hW hS dX9_count_89
theorem dX9_trace_0 : decode cX9_trace 0 = .ok (.aload_n 0, 1) := by decide +kernel
theorem dX9_trace_1 : decode cX9_trace 1 = .ok (.getfield 83, 3) := by decide +kernel
theorem dX9_trace_4 : decode cX9_trace 4 = .ok (.getfield 255, 3) := by decide +kernel
theorem dX9_trace_7 : decode cX9_trace 7 = .ok (.lreturn, 1) := by decide +kernel
abbrev rX9_trace : Room := { frames := 0, cells := 0, slots := 0, locals := 0 }
set_option maxHeartbeats 4000000 in
set_option maxRecDepth 100000 in
theorem c_X9_trace (l : Launch) (D : va_G) (b : Nat) (cs : Cs3) (S S1 : St) (r : Int64) (h : p_X9_trace S = some (r, S1)) : Ct l yX9_trace cX9_trace 1 (some .long) rX9_trace D b cs [.ref (b + 0)] S (some (.long r)) S1 := by
  refine x_met (by decide +kernel) (Nat.le_of_ble_eq_true rfl) ?_
  intro p e s m below meth c ls hC hr hW hS hl
  have hl : lv_has ls 1 [(0, .ref (b + 0))] := hl
  rw [p_X9_trace] at h
  refine lv_aload_n hC.1 hC.2.1 dX9_trace_0 rfl (lv_at hl 0 rfl) ?_
  refine x_get (C := RX9) (T := TX9) (N := 12) (v := _) hC hW 0 (by decide) rfl rfl uX9 11 (by decide) fl_X9_83 rfl rfl dX9_trace_1 ?_
  refine x_get (C := RX5) (T := TX5) (N := 2) (v := _) hC hW 98 (by decide) rfl rfl uX5 1 (by decide) fl_X9_255 rfl rfl dX9_trace_4 ?_
  obtain ⟨rfl, rfl⟩ := xr h
  exact x_lret hC hr hW hS dX9_trace_7
theorem dX10_in_0 : decode cX10_in 0 = .ok (.iload_n 0, 1) := by decide +kernel
theorem dX10_in_1 : decode cX10_in 1 = .ok (.iload_n 1, 1) := by decide +kernel
theorem dX10_in_2 : decode cX10_in 2 = .ok (.if_icmp .lt 12, 3) := by decide +kernel
theorem dX10_in_5 : decode cX10_in 5 = .ok (.iload_n 0, 1) := by decide +kernel
theorem dX10_in_6 : decode cX10_in 6 = .ok (.iload_n 2, 1) := by decide +kernel
theorem dX10_in_7 : decode cX10_in 7 = .ok (.if_icmp .gt 7, 3) := by decide +kernel
theorem dX10_in_10 : decode cX10_in 10 = .ok (.iconst 1, 1) := by decide +kernel
theorem dX10_in_11 : decode cX10_in 11 = .ok (.goto 4, 3) := by decide +kernel
theorem dX10_in_14 : decode cX10_in 14 = .ok (.iconst 0, 1) := by decide +kernel
theorem dX10_in_15 : decode cX10_in 15 = .ok (.ireturn, 1) := by decide +kernel
abbrev rX10_in : Room := { frames := 0, cells := 0, slots := 0, locals := 0 }
set_option maxHeartbeats 4000000 in
set_option maxRecDepth 100000 in
theorem c_X10_in (l : Launch) (D : va_G) (b : Nat) (cs : Cs3) (x0 : Int32) (x1 : Int32) (x2 : Int32) (S S1 : St) (r : Int32) (h : p_X10_in x0 x1 x2 S = some (r, S1)) : Ct l yX10_in cX10_in 3 (some .boolean) rX10_in D b cs [.int x0, .int x1, .int x2] S (some (.int r)) S1 := by
  refine x_met (by decide +kernel) (Nat.le_of_ble_eq_true rfl) ?_
  intro p e s m below meth c ls hC hr hW hS hl
  have hl : lv_has ls 3 [(0, .int x0), (1, .int x1), (2, .int x2)] := hl
  rw [p_X10_in] at h
  refine lv_iload_n hC.1 hC.2.1 dX10_in_0 rfl (lv_at hl 0 rfl) ?_
  refine lv_iload_n hC.1 hC.2.1 dX10_in_1 rfl (lv_at hl 1 rfl) ?_
  refine lv_icmp_lt (tgt := 14) hC.1 hC.2.1 dX10_in_2 (by decide) (fun hc => ?_) (fun hc => ?_)
  · replace h := xt hc h
    refine lv_iconst (v := 0) hC.1 hC.2.1 dX10_in_14 (by decide) ?_
    obtain ⟨rfl, rfl⟩ := xr h
    exact x_zret hC hr hW hS (Or.inl rfl) dX10_in_15
  · replace h := xf hc h
    refine lv_iload_n hC.1 hC.2.1 dX10_in_5 rfl (lv_at hl 0 rfl) ?_
    refine lv_iload_n hC.1 hC.2.1 dX10_in_6 rfl (lv_at hl 2 rfl) ?_
    refine lv_icmp_gt (tgt := 14) hC.1 hC.2.1 dX10_in_7 (by decide) (fun hc => ?_) (fun hc => ?_)
    · replace h := xt hc h
      refine lv_iconst (v := 0) hC.1 hC.2.1 dX10_in_14 (by decide) ?_
      obtain ⟨rfl, rfl⟩ := xr h
      exact x_zret hC hr hW hS (Or.inl rfl) dX10_in_15
    · replace h := xf hc h
      refine lv_iconst (v := 1) hC.1 hC.2.1 dX10_in_10 (by decide) ?_
      refine lv_goto (tgt := 15) hC.1 hC.2.1 dX10_in_11 (by decide) ?_
      obtain ⟨rfl, rfl⟩ := xr h
      exact x_zret hC hr hW hS (Or.inr rfl) dX10_in_15
theorem dX10_has_0 : decode cX10_has 0 = .ok (.iload_n 0, 1) := by decide +kernel
theorem dX10_has_1 : decode cX10_has 1 = .ok (.iload_n 1, 1) := by decide +kernel
theorem dX10_has_2 : decode cX10_has 2 = .ok (.ishr, 1) := by decide +kernel
theorem dX10_has_3 : decode cX10_has 3 = .ok (.iconst 1, 1) := by decide +kernel
theorem dX10_has_4 : decode cX10_has 4 = .ok (.iand, 1) := by decide +kernel
theorem dX10_has_5 : decode cX10_has 5 = .ok (.iconst 1, 1) := by decide +kernel
theorem dX10_has_6 : decode cX10_has 6 = .ok (.if_icmp .ne 7, 3) := by decide +kernel
theorem dX10_has_9 : decode cX10_has 9 = .ok (.iconst 1, 1) := by decide +kernel
theorem dX10_has_10 : decode cX10_has 10 = .ok (.goto 4, 3) := by decide +kernel
theorem dX10_has_13 : decode cX10_has 13 = .ok (.iconst 0, 1) := by decide +kernel
theorem dX10_has_14 : decode cX10_has 14 = .ok (.ireturn, 1) := by decide +kernel
abbrev rX10_has : Room := { frames := 0, cells := 0, slots := 0, locals := 0 }
set_option maxHeartbeats 4000000 in
set_option maxRecDepth 100000 in
theorem c_X10_has (l : Launch) (D : va_G) (b : Nat) (cs : Cs3) (x0 : Int32) (x1 : Int32) (S S1 : St) (r : Int32) (h : p_X10_has x0 x1 S = some (r, S1)) : Ct l yX10_has cX10_has 2 (some .boolean) rX10_has D b cs [.int x0, .int x1] S (some (.int r)) S1 := by
  refine x_met (by decide +kernel) (Nat.le_of_ble_eq_true rfl) ?_
  intro p e s m below meth c ls hC hr hW hS hl
  have hl : lv_has ls 2 [(0, .int x0), (1, .int x1)] := hl
  rw [p_X10_has] at h
  refine lv_iload_n hC.1 hC.2.1 dX10_has_0 rfl (lv_at hl 0 rfl) ?_
  refine lv_iload_n hC.1 hC.2.1 dX10_has_1 rfl (lv_at hl 1 rfl) ?_
  refine lv_ishr hC.1 hC.2.1 dX10_has_2 ?_
  refine lv_iconst (v := 1) hC.1 hC.2.1 dX10_has_3 (by decide) ?_
  refine lv_iand hC.1 hC.2.1 dX10_has_4 ?_
  refine lv_iconst (v := 1) hC.1 hC.2.1 dX10_has_5 (by decide) ?_
  refine lv_icmp_ne (tgt := 13) hC.1 hC.2.1 dX10_has_6 (by decide) (fun hc => ?_) (fun hc => ?_)
  · replace h := xf hc h
    refine lv_iconst (v := 0) hC.1 hC.2.1 dX10_has_13 (by decide) ?_
    obtain ⟨rfl, rfl⟩ := xr h
    exact x_zret hC hr hW hS (Or.inl rfl) dX10_has_14
  · replace h := xt hc h
    refine lv_iconst (v := 1) hC.1 hC.2.1 dX10_has_9 (by decide) ?_
    refine lv_goto (tgt := 14) hC.1 hC.2.1 dX10_has_10 (by decide) ?_
    obtain ⟨rfl, rfl⟩ := xr h
    exact x_zret hC hr hW hS (Or.inr rfl) dX10_has_14
theorem dX10_ones_0 : decode cX10_ones 0 = .ok (.iconst 0, 1) := by decide +kernel
theorem dX10_ones_1 : decode cX10_ones 1 = .ok (.istore_n 1, 1) := by decide +kernel
theorem dX10_ones_2 : decode cX10_ones 2 = .ok (.iconst 0, 1) := by decide +kernel
theorem dX10_ones_3 : decode cX10_ones 3 = .ok (.istore_n 2, 1) := by decide +kernel
theorem dX10_ones_4 : decode cX10_ones 4 = .ok (.iload_n 2, 1) := by decide +kernel
theorem dX10_ones_5 : decode cX10_ones 5 = .ok (.bipush 8, 2) := by decide +kernel
theorem dX10_ones_7 : decode cX10_ones 7 = .ok (.if_icmp .ge 17, 3) := by decide +kernel
theorem dX10_ones_10 : decode cX10_ones 10 = .ok (.iload_n 1, 1) := by decide +kernel
theorem dX10_ones_11 : decode cX10_ones 11 = .ok (.iload_n 0, 1) := by decide +kernel
theorem dX10_ones_12 : decode cX10_ones 12 = .ok (.iload_n 2, 1) := by decide +kernel
theorem dX10_ones_13 : decode cX10_ones 13 = .ok (.ishr, 1) := by decide +kernel
theorem dX10_ones_14 : decode cX10_ones 14 = .ok (.iconst 1, 1) := by decide +kernel
theorem dX10_ones_15 : decode cX10_ones 15 = .ok (.iand, 1) := by decide +kernel
theorem dX10_ones_16 : decode cX10_ones 16 = .ok (.iadd, 1) := by decide +kernel
theorem dX10_ones_17 : decode cX10_ones 17 = .ok (.istore_n 1, 1) := by decide +kernel
theorem dX10_ones_18 : decode cX10_ones 18 = .ok (.iinc 2 1, 3) := by decide +kernel
theorem dX10_ones_21 : decode cX10_ones 21 = .ok (.goto (-17), 3) := by decide +kernel
theorem dX10_ones_24 : decode cX10_ones 24 = .ok (.iload_n 1, 1) := by decide +kernel
theorem dX10_ones_25 : decode cX10_ones 25 = .ok (.ireturn, 1) := by decide +kernel
abbrev rX10_ones : Room := { frames := 0, cells := 0, slots := 0, locals := 0 }
set_option maxHeartbeats 4000000 in
set_option maxRecDepth 100000 in
theorem w_X10_ones_4 {p : Program} {l : Launch} {e : Env} {s : State} {m : MethodId} {args : Array Value} {below : List Frame} {meth : Method} {c : Code} {D : va_G} {b : Nat} {cs : Cs3} {r : Int32} {S1 : St} (hC : CX p s m args meth c RX10 cX10_ones 3 D cs) (hr : meth.sig.returnType = (some .int)) : ∀ (n : Nat) (x0 : Int32) (x1 : Int32) (x2 : Int32) (S : St) (H : Heap) (locs : List Loc) (ls : Array Slot), q_X10_ones_4 n x0 x1 x2 S = some (r, S1) → Wd D b cs S H → va_S (AA b) s.heap H locs → lv_has ls 3 [(0, .int x0), (1, .int x1), (2, .int x2)] → W p l e rX10_ones s m args below meth c H locs 0 0 (MQ below (QX D b cs (some (.int r)) S1) args s 0 0 (AA b)) (F0 m 4 ls []) := by
  intro n
  induction n with
  | zero =>
    intro x0 x1 x2 S H locs ls h
    exact absurd h (by rw [q_X10_ones_4]; exact fun q => nomatch q)
  | succ n IH =>
    intro x0 x1 x2 S H locs ls h hW hS hl
    rw [q_X10_ones_4] at h
    refine lv_iload_n hC.1 hC.2.1 dX10_ones_4 rfl (lv_at hl 2 rfl) ?_
    refine lv_bipush (v := 8) hC.1 hC.2.1 dX10_ones_5 (by decide) ?_
    refine lv_icmp_ge (tgt := 24) hC.1 hC.2.1 dX10_ones_7 (by decide) (fun hc => ?_) (fun hc => ?_)
    · replace h := xt hc h
      refine lv_iload_n hC.1 hC.2.1 dX10_ones_24 rfl (lv_at hl 1 rfl) ?_
      obtain ⟨rfl, rfl⟩ := xr h
      exact x_iret hC hr hW hS dX10_ones_25
    · replace h := xf hc h
      refine lv_iload_n hC.1 hC.2.1 dX10_ones_10 rfl (lv_at hl 1 rfl) ?_
      refine lv_iload_n hC.1 hC.2.1 dX10_ones_11 rfl (lv_at hl 0 rfl) ?_
      refine lv_iload_n hC.1 hC.2.1 dX10_ones_12 rfl (lv_at hl 2 rfl) ?_
      refine lv_ishr hC.1 hC.2.1 dX10_ones_13 ?_
      refine lv_iconst (v := 1) hC.1 hC.2.1 dX10_ones_14 (by decide) ?_
      refine lv_iand hC.1 hC.2.1 dX10_ones_15 ?_
      refine lv_iadd hC.1 hC.2.1 dX10_ones_16 ?_
      refine lv_istore_n (lv' := [(1, .int (x1 + ((x0 >>> (x2 &&& 31)) &&& (1 : Int32)))), (0, .int x0), (2, .int x2)]) hC.1 hC.2.1 dX10_ones_17 rfl hl (by decide) rfl (fun ls hl => ?_)
      refine lv_iinc (v := x2 + 1) (lv' := [(2, .int (x2 + 1)), (1, .int (x1 + ((x0 >>> (x2 &&& 31)) &&& (1 : Int32)))), (0, .int x0)]) hC.1 hC.2.1 dX10_ones_18 hl (k := 2) rfl rfl (by decide) rfl (fun ls hl => ?_)
      refine lv_goto (tgt := 4) hC.1 hC.2.1 dX10_ones_21 (by decide) ?_
      exact IH _ _ _ _ _ _ _ h hW hS (lv_sub hl [2, 1, 0] rfl)
set_option maxHeartbeats 4000000 in
set_option maxRecDepth 100000 in
theorem c_X10_ones (l : Launch) (D : va_G) (b : Nat) (cs : Cs3) (x0 : Int32) (S S1 : St) (r : Int32) (h : p_X10_ones x0 S = some (r, S1)) : Ct l yX10_ones cX10_ones 3 (some .int) rX10_ones D b cs [.int x0] S (some (.int r)) S1 := by
  refine x_met (by decide +kernel) (Nat.le_of_ble_eq_true rfl) ?_
  intro p e s m below meth c ls hC hr hW hS hl
  have hl : lv_has ls 3 [(0, .int x0)] := hl
  rw [p_X10_ones] at h
  refine lv_iconst (v := 0) hC.1 hC.2.1 dX10_ones_0 (by decide) ?_
  refine lv_istore_n (lv' := [(1, .int (0 : Int32)), (0, .int x0)]) hC.1 hC.2.1 dX10_ones_1 rfl hl (by decide) rfl (fun ls hl => ?_)
  refine lv_iconst (v := 0) hC.1 hC.2.1 dX10_ones_2 (by decide) ?_
  refine lv_istore_n (lv' := [(2, .int (0 : Int32)), (1, .int (0 : Int32)), (0, .int x0)]) hC.1 hC.2.1 dX10_ones_3 rfl hl (by decide) rfl (fun ls hl => ?_)
  exact w_X10_ones_4 hC hr _ _ _ _ _ _ _ _ h hW hS (lv_sub hl [2, 1, 0] rfl)
theorem dX10_type_0 : decode cX10_type 0 = .ok (.aload_n 0, 1) := by decide +kernel
theorem dX10_type_1 : decode cX10_type 1 = .ok (.iconst 0, 1) := by decide +kernel
theorem dX10_type_2 : decode cX10_type 2 = .ok (.putfield 65, 3) := by decide +kernel
theorem dX10_type_5 : decode cX10_type 5 = .ok (.iload_n 1, 1) := by decide +kernel
theorem dX10_type_6 : decode cX10_type 6 = .ok (.iconst 0, 1) := by decide +kernel
theorem dX10_type_7 : decode cX10_type 7 = .ok (.sipush 255, 3) := by decide +kernel
theorem dX10_type_10 : decode cX10_type 10 = .ok (.invokestatic 69, 3) := by decide +kernel
theorem dX10_type_13 : decode cX10_type 13 = .ok (.ifCond .ne 5, 3) := by decide +kernel
theorem dX10_type_16 : decode cX10_type 16 = .ok (.iconst (-1), 1) := by decide +kernel
theorem dX10_type_17 : decode cX10_type 17 = .ok (.ireturn, 1) := by decide +kernel
theorem dX10_type_18 : decode cX10_type 18 = .ok (.aload_n 0, 1) := by decide +kernel
theorem dX10_type_19 : decode cX10_type 19 = .ok (.getfield 73, 3) := by decide +kernel
theorem dX10_type_22 : decode cX10_type 22 = .ok (.sipush 150, 3) := by decide +kernel
theorem dX10_type_25 : decode cX10_type 25 = .ok (.if_icmp .ne 6, 3) := by decide +kernel
theorem dX10_type_28 : decode cX10_type 28 = .ok (.bipush (-3), 2) := by decide +kernel
theorem dX10_type_30 : decode cX10_type 30 = .ok (.ireturn, 1) := by decide +kernel
theorem dX10_type_31 : decode cX10_type 31 = .ok (.aload_n 0, 1) := by decide +kernel
theorem dX10_type_32 : decode cX10_type 32 = .ok (.getfield 7, 3) := by decide +kernel
theorem dX10_type_35 : decode cX10_type 35 = .ok (.aload_n 0, 1) := by decide +kernel
theorem dX10_type_36 : decode cX10_type 36 = .ok (.getfield 73, 3) := by decide +kernel
theorem dX10_type_39 : decode cX10_type 39 = .ok (.iload_n 1, 1) := by decide +kernel
theorem dX10_type_40 : decode cX10_type 40 = .ok (.iastore, 1) := by decide +kernel
theorem dX10_type_41 : decode cX10_type 41 = .ok (.aload_n 0, 1) := by decide +kernel
theorem dX10_type_42 : decode cX10_type 42 = .ok (.dup, 1) := by decide +kernel
theorem dX10_type_43 : decode cX10_type 43 = .ok (.getfield 73, 3) := by decide +kernel
theorem dX10_type_46 : decode cX10_type 46 = .ok (.iconst 1, 1) := by decide +kernel
theorem dX10_type_47 : decode cX10_type 47 = .ok (.iadd, 1) := by decide +kernel
theorem dX10_type_48 : decode cX10_type 48 = .ok (.putfield 73, 3) := by decide +kernel
theorem dX10_type_51 : decode cX10_type 51 = .ok (.aload_n 0, 1) := by decide +kernel
theorem dX10_type_52 : decode cX10_type 52 = .ok (.getfield 73, 3) := by decide +kernel
theorem dX10_type_55 : decode cX10_type 55 = .ok (.ireturn, 1) := by decide +kernel
abbrev rX10_type : Room := { frames := 1, cells := 0, slots := 0, locals := 22 }
set_option maxHeartbeats 4000000 in
set_option maxRecDepth 100000 in
theorem c_X10_type (l : Launch) (D : va_G) (b : Nat) (cs : Cs3) (x1 : Int32) (S S1 : St) (r : Int32) (h : p_X10_type x1 S = some (r, S1)) : Ct l yX10_type cX10_type 2 (some .int) rX10_type D b cs [.ref (b + 99), .int x1] S (some (.int r)) S1 := by
  refine x_met (by decide +kernel) (Nat.le_of_ble_eq_true rfl) ?_
  intro p e s m below meth c ls hC hr hW hS hl
  have hl : lv_has ls 2 [(0, .ref (b + 99)), (1, .int x1)] := hl
  rw [p_X10_type] at h
  refine lv_aload_n hC.1 hC.2.1 dX10_type_0 rfl (lv_at hl 0 rfl) ?_
  refine lv_iconst (v := 0) hC.1 hC.2.1 dX10_type_1 (by decide) ?_
  refine x_puti (C := RX10) (T := TX10) (N := 27) (ty := .int) hC hW hS 99 (by decide) rfl rfl uX10 tyX10 tyX10_ok nmX10 0 (by decide) fl_X10_65 rfl (by decide +kernel) rfl rfl rfl dX10_type_2 (fun H locs hW hS => ?_)
  refine lv_iload_n hC.1 hC.2.1 dX10_type_5 rfl (lv_at hl 1 rfl) ?_
  refine lv_iconst (v := 0) hC.1 hC.2.1 dX10_type_6 (by decide) ?_
  refine lv_sipush (v := 255) hC.1 hC.2.1 dX10_type_7 (by decide) ?_
  obtain ⟨⟨q10_r, q10_S⟩, hq, h⟩ := xb h
  try dsimp only at h
  refine x_callS (As := [.int x1, .int (0 : Int32), .int (255 : Int32)]) (rest := []) hC hW hS (c_X10_in l D b cs _ _ _ _ _ _ hq) mi_X10_in st_X10_in ml_X10_69 ⟨rfl, rfl⟩ ⟨Nat.le_of_ble_eq_true rfl, Nat.le_of_ble_eq_true rfl⟩ ⟨Nat.zero_le _, Nat.zero_le _⟩ rfl rfl hl.1 (Nat.le_of_ble_eq_true rfl) dX10_type_10 (fun H locs hW hS => ?_)
  refine lv_if_ne (tgt := 18) hC.1 hC.2.1 dX10_type_13 (by decide) (fun hc => ?_) (fun hc => ?_)
  · replace h := xf hc h
    refine lv_aload_n hC.1 hC.2.1 dX10_type_18 rfl (lv_at hl 0 rfl) ?_
    refine x_get (C := RX10) (T := TX10) (N := 27) (v := _) hC hW 99 (by decide) rfl rfl uX10 3 (by decide) fl_X10_73 rfl rfl dX10_type_19 ?_
    refine lv_sipush (v := 150) hC.1 hC.2.1 dX10_type_22 (by decide) ?_
    refine lv_icmp_ne (tgt := 31) hC.1 hC.2.1 dX10_type_25 (by decide) (fun hc => ?_) (fun hc => ?_)
    · replace h := xf hc h
      refine lv_aload_n hC.1 hC.2.1 dX10_type_31 rfl (lv_at hl 0 rfl) ?_
      refine x_get (C := RX10) (T := TX10) (N := 27) (v := _) hC hW 99 (by decide) rfl rfl uX10 2 (by decide) fl_X10_7 rfl rfl dX10_type_32 ?_
      refine lv_aload_n hC.1 hC.2.1 dX10_type_35 rfl (lv_at hl 0 rfl) ?_
      refine x_get (C := RX10) (T := TX10) (N := 27) (v := _) hC hW 99 (by decide) rfl rfl uX10 3 (by decide) fl_X10_73 rfl rfl dX10_type_36 ?_
      refine lv_iload_n hC.1 hC.2.1 dX10_type_39 rfl (lv_at hl 1 rfl) ?_
      obtain ⟨hi, h⟩ := xg h
      refine x_iast hC hW hS 100 (by decide) rfl hi dX10_type_40 (fun H locs hW hS => ?_)
      refine lv_aload_n hC.1 hC.2.1 dX10_type_41 rfl (lv_at hl 0 rfl) ?_
      refine lv_dup hC.1 hC.2.1 dX10_type_42 rfl ?_
      refine x_get (C := RX10) (T := TX10) (N := 27) (v := _) hC hW 99 (by decide) rfl rfl uX10 3 (by decide) fl_X10_73 rfl rfl dX10_type_43 ?_
      refine lv_iconst (v := 1) hC.1 hC.2.1 dX10_type_46 (by decide) ?_
      refine lv_iadd hC.1 hC.2.1 dX10_type_47 ?_
      refine x_puti (C := RX10) (T := TX10) (N := 27) (ty := .int) hC hW hS 99 (by decide) rfl rfl uX10 tyX10 tyX10_ok nmX10 3 (by decide) fl_X10_73 rfl (by decide +kernel) rfl rfl rfl dX10_type_48 (fun H locs hW hS => ?_)
      refine lv_aload_n hC.1 hC.2.1 dX10_type_51 rfl (lv_at hl 0 rfl) ?_
      refine x_get (C := RX10) (T := TX10) (N := 27) (v := _) hC hW 99 (by decide) rfl rfl uX10 3 (by decide) fl_X10_73 rfl rfl dX10_type_52 ?_
      obtain ⟨rfl, rfl⟩ := xr h
      exact x_iret hC hr hW hS dX10_type_55
    · replace h := xt hc h
      refine lv_bipush (v := -3) hC.1 hC.2.1 dX10_type_28 (by decide) ?_
      obtain ⟨rfl, rfl⟩ := xr h
      exact x_iret hC hr hW hS dX10_type_30
  · replace h := xt hc h
    refine lv_iconst (v := -1) hC.1 hC.2.1 dX10_type_16 (by decide) ?_
    obtain ⟨rfl, rfl⟩ := xr h
    exact x_iret hC hr hW hS dX10_type_17
theorem dX10_clear_0 : decode cX10_clear 0 = .ok (.aload_n 0, 1) := by decide +kernel
theorem dX10_clear_1 : decode cX10_clear 1 = .ok (.iconst 0, 1) := by decide +kernel
theorem dX10_clear_2 : decode cX10_clear 2 = .ok (.putfield 65, 3) := by decide +kernel
theorem dX10_clear_5 : decode cX10_clear 5 = .ok (.aload_n 0, 1) := by decide +kernel
theorem dX10_clear_6 : decode cX10_clear 6 = .ok (.getfield 73, 3) := by decide +kernel
theorem dX10_clear_9 : decode cX10_clear 9 = .ok (.istore_n 1, 1) := by decide +kernel
theorem dX10_clear_10 : decode cX10_clear 10 = .ok (.aload_n 0, 1) := by decide +kernel
theorem dX10_clear_11 : decode cX10_clear 11 = .ok (.iconst 0, 1) := by decide +kernel
theorem dX10_clear_12 : decode cX10_clear 12 = .ok (.putfield 73, 3) := by decide +kernel
theorem dX10_clear_15 : decode cX10_clear 15 = .ok (.iload_n 1, 1) := by decide +kernel
theorem dX10_clear_16 : decode cX10_clear 16 = .ok (.ireturn, 1) := by decide +kernel
abbrev rX10_clear : Room := { frames := 0, cells := 0, slots := 0, locals := 0 }
set_option maxHeartbeats 4000000 in
set_option maxRecDepth 100000 in
theorem c_X10_clear (l : Launch) (D : va_G) (b : Nat) (cs : Cs3) (S S1 : St) (r : Int32) (h : p_X10_clear S = some (r, S1)) : Ct l yX10_clear cX10_clear 2 (some .int) rX10_clear D b cs [.ref (b + 99)] S (some (.int r)) S1 := by
  refine x_met (by decide +kernel) (Nat.le_of_ble_eq_true rfl) ?_
  intro p e s m below meth c ls hC hr hW hS hl
  have hl : lv_has ls 2 [(0, .ref (b + 99))] := hl
  rw [p_X10_clear] at h
  refine lv_aload_n hC.1 hC.2.1 dX10_clear_0 rfl (lv_at hl 0 rfl) ?_
  refine lv_iconst (v := 0) hC.1 hC.2.1 dX10_clear_1 (by decide) ?_
  refine x_puti (C := RX10) (T := TX10) (N := 27) (ty := .int) hC hW hS 99 (by decide) rfl rfl uX10 tyX10 tyX10_ok nmX10 0 (by decide) fl_X10_65 rfl (by decide +kernel) rfl rfl rfl dX10_clear_2 (fun H locs hW hS => ?_)
  refine lv_aload_n hC.1 hC.2.1 dX10_clear_5 rfl (lv_at hl 0 rfl) ?_
  refine x_get (C := RX10) (T := TX10) (N := 27) (v := _) hC hW 99 (by decide) rfl rfl uX10 3 (by decide) fl_X10_73 rfl rfl dX10_clear_6 ?_
  refine lv_istore_n (lv' := [(1, .int ((sI S 99 0 (0 : Int32)).1 99 3)), (0, .ref (b + 99))]) hC.1 hC.2.1 dX10_clear_9 rfl hl (by decide) rfl (fun ls hl => ?_)
  refine lv_aload_n hC.1 hC.2.1 dX10_clear_10 rfl (lv_at hl 1 rfl) ?_
  refine lv_iconst (v := 0) hC.1 hC.2.1 dX10_clear_11 (by decide) ?_
  refine x_puti (C := RX10) (T := TX10) (N := 27) (ty := .int) hC hW hS 99 (by decide) rfl rfl uX10 tyX10 tyX10_ok nmX10 3 (by decide) fl_X10_73 rfl (by decide +kernel) rfl rfl rfl dX10_clear_12 (fun H locs hW hS => ?_)
  refine lv_iload_n hC.1 hC.2.1 dX10_clear_15 rfl (lv_at hl 0 rfl) ?_
  obtain ⟨rfl, rfl⟩ := xr h
  exact x_iret hC hr hW hS dX10_clear_16
theorem dX10_letterAt_0 : decode cX10_letterAt 0 = .ok (.iload_n 1, 1) := by decide +kernel
theorem dX10_letterAt_1 : decode cX10_letterAt 1 = .ok (.aload_n 0, 1) := by decide +kernel
theorem dX10_letterAt_2 : decode cX10_letterAt 2 = .ok (.getfield 73, 3) := by decide +kernel
theorem dX10_letterAt_5 : decode cX10_letterAt 5 = .ok (.if_icmp .ge 12, 3) := by decide +kernel
theorem dX10_letterAt_8 : decode cX10_letterAt 8 = .ok (.aload_n 0, 1) := by decide +kernel
theorem dX10_letterAt_9 : decode cX10_letterAt 9 = .ok (.getfield 7, 3) := by decide +kernel
theorem dX10_letterAt_12 : decode cX10_letterAt 12 = .ok (.iload_n 1, 1) := by decide +kernel
theorem dX10_letterAt_13 : decode cX10_letterAt 13 = .ok (.iaload, 1) := by decide +kernel
theorem dX10_letterAt_14 : decode cX10_letterAt 14 = .ok (.goto 4, 3) := by decide +kernel
theorem dX10_letterAt_17 : decode cX10_letterAt 17 = .ok (.iconst (-1), 1) := by decide +kernel
theorem dX10_letterAt_18 : decode cX10_letterAt 18 = .ok (.ireturn, 1) := by decide +kernel
abbrev rX10_letterAt : Room := { frames := 0, cells := 0, slots := 0, locals := 0 }
set_option maxHeartbeats 4000000 in
set_option maxRecDepth 100000 in
theorem c_X10_letterAt (l : Launch) (D : va_G) (b : Nat) (cs : Cs3) (x1 : Int32) (S S1 : St) (r : Int32) (h : p_X10_letterAt x1 S = some (r, S1)) : Ct l yX10_letterAt cX10_letterAt 2 (some .int) rX10_letterAt D b cs [.ref (b + 99), .int x1] S (some (.int r)) S1 := by
  refine x_met (by decide +kernel) (Nat.le_of_ble_eq_true rfl) ?_
  intro p e s m below meth c ls hC hr hW hS hl
  have hl : lv_has ls 2 [(0, .ref (b + 99)), (1, .int x1)] := hl
  rw [p_X10_letterAt] at h
  refine lv_iload_n hC.1 hC.2.1 dX10_letterAt_0 rfl (lv_at hl 1 rfl) ?_
  refine lv_aload_n hC.1 hC.2.1 dX10_letterAt_1 rfl (lv_at hl 0 rfl) ?_
  refine x_get (C := RX10) (T := TX10) (N := 27) (v := _) hC hW 99 (by decide) rfl rfl uX10 3 (by decide) fl_X10_73 rfl rfl dX10_letterAt_2 ?_
  refine lv_icmp_ge (tgt := 17) hC.1 hC.2.1 dX10_letterAt_5 (by decide) (fun hc => ?_) (fun hc => ?_)
  · replace h := xt hc h
    refine lv_iconst (v := -1) hC.1 hC.2.1 dX10_letterAt_17 (by decide) ?_
    obtain ⟨rfl, rfl⟩ := xr h
    exact x_iret hC hr hW hS dX10_letterAt_18
  · replace h := xf hc h
    refine lv_aload_n hC.1 hC.2.1 dX10_letterAt_8 rfl (lv_at hl 0 rfl) ?_
    refine x_get (C := RX10) (T := TX10) (N := 27) (v := _) hC hW 99 (by decide) rfl rfl uX10 2 (by decide) fl_X10_7 rfl rfl dX10_letterAt_9 ?_
    refine lv_iload_n hC.1 hC.2.1 dX10_letterAt_12 rfl (lv_at hl 1 rfl) ?_
    obtain ⟨hi, h⟩ := xg h
    refine x_iald hC hW 100 (by decide) rfl hi dX10_letterAt_13 ?_
    refine lv_goto (tgt := 18) hC.1 hC.2.1 dX10_letterAt_14 (by decide) ?_
    obtain ⟨rfl, rfl⟩ := xr h
    exact x_iret hC hr hW hS dX10_letterAt_18
theorem dX10_isLetter_0 : decode cX10_isLetter 0 = .ok (.iload_n 0, 1) := by decide +kernel
theorem dX10_isLetter_1 : decode cX10_isLetter 1 = .ok (.bipush 110, 2) := by decide +kernel
theorem dX10_isLetter_3 : decode cX10_isLetter 3 = .ok (.if_icmp .eq 21, 3) := by decide +kernel
theorem dX10_isLetter_6 : decode cX10_isLetter 6 = .ok (.iload_n 0, 1) := by decide +kernel
theorem dX10_isLetter_7 : decode cX10_isLetter 7 = .ok (.bipush 100, 2) := by decide +kernel
theorem dX10_isLetter_9 : decode cX10_isLetter 9 = .ok (.if_icmp .eq 15, 3) := by decide +kernel
theorem dX10_isLetter_12 : decode cX10_isLetter 12 = .ok (.iload_n 0, 1) := by decide +kernel
theorem dX10_isLetter_13 : decode cX10_isLetter 13 = .ok (.bipush 98, 2) := by decide +kernel
theorem dX10_isLetter_15 : decode cX10_isLetter 15 = .ok (.if_icmp .eq 9, 3) := by decide +kernel
theorem dX10_isLetter_18 : decode cX10_isLetter 18 = .ok (.iload_n 0, 1) := by decide +kernel
theorem dX10_isLetter_19 : decode cX10_isLetter 19 = .ok (.bipush 115, 2) := by decide +kernel
theorem dX10_isLetter_21 : decode cX10_isLetter 21 = .ok (.if_icmp .ne 7, 3) := by decide +kernel
theorem dX10_isLetter_24 : decode cX10_isLetter 24 = .ok (.iconst 1, 1) := by decide +kernel
theorem dX10_isLetter_25 : decode cX10_isLetter 25 = .ok (.goto 4, 3) := by decide +kernel
theorem dX10_isLetter_28 : decode cX10_isLetter 28 = .ok (.iconst 0, 1) := by decide +kernel
theorem dX10_isLetter_29 : decode cX10_isLetter 29 = .ok (.ireturn, 1) := by decide +kernel
abbrev rX10_isLetter : Room := { frames := 0, cells := 0, slots := 0, locals := 0 }
set_option maxHeartbeats 4000000 in
set_option maxRecDepth 100000 in
theorem c_X10_isLetter (l : Launch) (D : va_G) (b : Nat) (cs : Cs3) (x0 : Int32) (S S1 : St) (r : Int32) (h : p_X10_isLetter x0 S = some (r, S1)) : Ct l yX10_isLetter cX10_isLetter 1 (some .boolean) rX10_isLetter D b cs [.int x0] S (some (.int r)) S1 := by
  refine x_met (by decide +kernel) (Nat.le_of_ble_eq_true rfl) ?_
  intro p e s m below meth c ls hC hr hW hS hl
  have hl : lv_has ls 1 [(0, .int x0)] := hl
  rw [p_X10_isLetter] at h
  refine lv_iload_n hC.1 hC.2.1 dX10_isLetter_0 rfl (lv_at hl 0 rfl) ?_
  refine lv_bipush (v := 110) hC.1 hC.2.1 dX10_isLetter_1 (by decide) ?_
  refine lv_icmp_eq (tgt := 24) hC.1 hC.2.1 dX10_isLetter_3 (by decide) (fun hc => ?_) (fun hc => ?_)
  · replace h := xt hc h
    refine lv_iconst (v := 1) hC.1 hC.2.1 dX10_isLetter_24 (by decide) ?_
    refine lv_goto (tgt := 29) hC.1 hC.2.1 dX10_isLetter_25 (by decide) ?_
    obtain ⟨rfl, rfl⟩ := xr h
    exact x_zret hC hr hW hS (Or.inr rfl) dX10_isLetter_29
  · replace h := xf hc h
    refine lv_iload_n hC.1 hC.2.1 dX10_isLetter_6 rfl (lv_at hl 0 rfl) ?_
    refine lv_bipush (v := 100) hC.1 hC.2.1 dX10_isLetter_7 (by decide) ?_
    refine lv_icmp_eq (tgt := 24) hC.1 hC.2.1 dX10_isLetter_9 (by decide) (fun hc => ?_) (fun hc => ?_)
    · replace h := xt hc h
      refine lv_iconst (v := 1) hC.1 hC.2.1 dX10_isLetter_24 (by decide) ?_
      refine lv_goto (tgt := 29) hC.1 hC.2.1 dX10_isLetter_25 (by decide) ?_
      obtain ⟨rfl, rfl⟩ := xr h
      exact x_zret hC hr hW hS (Or.inr rfl) dX10_isLetter_29
    · replace h := xf hc h
      refine lv_iload_n hC.1 hC.2.1 dX10_isLetter_12 rfl (lv_at hl 0 rfl) ?_
      refine lv_bipush (v := 98) hC.1 hC.2.1 dX10_isLetter_13 (by decide) ?_
      refine lv_icmp_eq (tgt := 24) hC.1 hC.2.1 dX10_isLetter_15 (by decide) (fun hc => ?_) (fun hc => ?_)
      · replace h := xt hc h
        refine lv_iconst (v := 1) hC.1 hC.2.1 dX10_isLetter_24 (by decide) ?_
        refine lv_goto (tgt := 29) hC.1 hC.2.1 dX10_isLetter_25 (by decide) ?_
        obtain ⟨rfl, rfl⟩ := xr h
        exact x_zret hC hr hW hS (Or.inr rfl) dX10_isLetter_29
      · replace h := xf hc h
        refine lv_iload_n hC.1 hC.2.1 dX10_isLetter_18 rfl (lv_at hl 0 rfl) ?_
        refine lv_bipush (v := 115) hC.1 hC.2.1 dX10_isLetter_19 (by decide) ?_
        refine lv_icmp_ne (tgt := 28) hC.1 hC.2.1 dX10_isLetter_21 (by decide) (fun hc => ?_) (fun hc => ?_)
        · replace h := xf hc h
          refine lv_iconst (v := 0) hC.1 hC.2.1 dX10_isLetter_28 (by decide) ?_
          obtain ⟨rfl, rfl⟩ := xr h
          exact x_zret hC hr hW hS (Or.inl rfl) dX10_isLetter_29
        · replace h := xt hc h
          refine lv_iconst (v := 1) hC.1 hC.2.1 dX10_isLetter_24 (by decide) ?_
          refine lv_goto (tgt := 29) hC.1 hC.2.1 dX10_isLetter_25 (by decide) ?_
          obtain ⟨rfl, rfl⟩ := xr h
          exact x_zret hC hr hW hS (Or.inr rfl) dX10_isLetter_29
theorem dX10_advances_0 : decode cX10_advances 0 = .ok (.aload_n 0, 1) := by decide +kernel
theorem dX10_advances_1 : decode cX10_advances 1 = .ok (.aload_n 0, 1) := by decide +kernel
theorem dX10_advances_2 : decode cX10_advances 2 = .ok (.getfield 76, 3) := by decide +kernel
theorem dX10_advances_5 : decode cX10_advances 5 = .ok (.invokevirtual 79, 3) := by decide +kernel
theorem dX10_advances_8 : decode cX10_advances 8 = .ok (.bipush 32, 2) := by decide +kernel
theorem dX10_advances_10 : decode cX10_advances 10 = .ok (.if_icmp .ne 16, 3) := by decide +kernel
theorem dX10_advances_13 : decode cX10_advances 13 = .ok (.aload_n 0, 1) := by decide +kernel
theorem dX10_advances_14 : decode cX10_advances 14 = .ok (.dup, 1) := by decide +kernel
theorem dX10_advances_15 : decode cX10_advances 15 = .ok (.getfield 76, 3) := by decide +kernel
theorem dX10_advances_18 : decode cX10_advances 18 = .ok (.iconst 1, 1) := by decide +kernel
theorem dX10_advances_19 : decode cX10_advances 19 = .ok (.iadd, 1) := by decide +kernel
theorem dX10_advances_20 : decode cX10_advances 20 = .ok (.putfield 76, 3) := by decide +kernel
theorem dX10_advances_23 : decode cX10_advances 23 = .ok (.goto (-23), 3) := by decide +kernel
theorem dX10_advances_26 : decode cX10_advances 26 = .ok (.aload_n 0, 1) := by decide +kernel
theorem dX10_advances_27 : decode cX10_advances 27 = .ok (.aload_n 0, 1) := by decide +kernel
theorem dX10_advances_28 : decode cX10_advances 28 = .ok (.getfield 76, 3) := by decide +kernel
theorem dX10_advances_31 : decode cX10_advances 31 = .ok (.putfield 83, 3) := by decide +kernel
theorem dX10_advances_34 : decode cX10_advances 34 = .ok (.aload_n 0, 1) := by decide +kernel
theorem dX10_advances_35 : decode cX10_advances 35 = .ok (.aload_n 0, 1) := by decide +kernel
theorem dX10_advances_36 : decode cX10_advances 36 = .ok (.getfield 76, 3) := by decide +kernel
theorem dX10_advances_39 : decode cX10_advances 39 = .ok (.invokevirtual 79, 3) := by decide +kernel
theorem dX10_advances_42 : decode cX10_advances 42 = .ok (.istore_n 1, 1) := by decide +kernel
theorem dX10_advances_43 : decode cX10_advances 43 = .ok (.iload_n 1, 1) := by decide +kernel
theorem dX10_advances_44 : decode cX10_advances 44 = .ok (.ifCond .ge 11, 3) := by decide +kernel
theorem dX10_advances_47 : decode cX10_advances 47 = .ok (.aload_n 0, 1) := by decide +kernel
theorem dX10_advances_48 : decode cX10_advances 48 = .ok (.iconst 0, 1) := by decide +kernel
theorem dX10_advances_49 : decode cX10_advances 49 = .ok (.putfield 86, 3) := by decide +kernel
theorem dX10_advances_52 : decode cX10_advances 52 = .ok (.goto 170, 3) := by decide +kernel
theorem dX10_advances_55 : decode cX10_advances 55 = .ok (.iload_n 1, 1) := by decide +kernel
theorem dX10_advances_56 : decode cX10_advances 56 = .ok (.bipush 48, 2) := by decide +kernel
theorem dX10_advances_58 : decode cX10_advances 58 = .ok (.bipush 57, 2) := by decide +kernel
theorem dX10_advances_60 : decode cX10_advances 60 = .ok (.invokestatic 69, 3) := by decide +kernel
theorem dX10_advances_63 : decode cX10_advances 63 = .ok (.ifCond .eq 118, 3) := by decide +kernel
theorem dX10_advances_66 : decode cX10_advances 66 = .ok (.aload_n 0, 1) := by decide +kernel
theorem dX10_advances_67 : decode cX10_advances 67 = .ok (.iconst 0, 1) := by decide +kernel
theorem dX10_advances_68 : decode cX10_advances 68 = .ok (.putfield 89, 3) := by decide +kernel
theorem dX10_advances_71 : decode cX10_advances 71 = .ok (.aload_n 0, 1) := by decide +kernel
theorem dX10_advances_72 : decode cX10_advances 72 = .ok (.aload_n 0, 1) := by decide +kernel
theorem dX10_advances_73 : decode cX10_advances 73 = .ok (.getfield 76, 3) := by decide +kernel
theorem dX10_advances_76 : decode cX10_advances 76 = .ok (.invokevirtual 79, 3) := by decide +kernel
theorem dX10_advances_79 : decode cX10_advances 79 = .ok (.bipush 48, 2) := by decide +kernel
theorem dX10_advances_81 : decode cX10_advances 81 = .ok (.bipush 57, 2) := by decide +kernel
theorem dX10_advances_83 : decode cX10_advances 83 = .ok (.invokestatic 69, 3) := by decide +kernel
theorem dX10_advances_86 : decode cX10_advances 86 = .ok (.ifCond .eq 55, 3) := by decide +kernel
theorem dX10_advances_89 : decode cX10_advances 89 = .ok (.aload_n 0, 1) := by decide +kernel
theorem dX10_advances_90 : decode cX10_advances 90 = .ok (.aload_n 0, 1) := by decide +kernel
theorem dX10_advances_91 : decode cX10_advances 91 = .ok (.getfield 89, 3) := by decide +kernel
theorem dX10_advances_94 : decode cX10_advances 94 = .ok (.bipush 99, 2) := by decide +kernel
theorem dX10_advances_96 : decode cX10_advances 96 = .ok (.if_icmp .le 10, 3) := by decide +kernel
theorem dX10_advances_99 : decode cX10_advances 99 = .ok (.aload_n 0, 1) := by decide +kernel
theorem dX10_advances_100 : decode cX10_advances 100 = .ok (.getfield 89, 3) := by decide +kernel
theorem dX10_advances_103 : decode cX10_advances 103 = .ok (.goto 22, 3) := by decide +kernel
theorem dX10_advances_106 : decode cX10_advances 106 = .ok (.bipush 10, 2) := by decide +kernel
theorem dX10_advances_108 : decode cX10_advances 108 = .ok (.aload_n 0, 1) := by decide +kernel
theorem dX10_advances_109 : decode cX10_advances 109 = .ok (.getfield 89, 3) := by decide +kernel
theorem dX10_advances_112 : decode cX10_advances 112 = .ok (.imul, 1) := by decide +kernel
theorem dX10_advances_113 : decode cX10_advances 113 = .ok (.aload_n 0, 1) := by decide +kernel
theorem dX10_advances_114 : decode cX10_advances 114 = .ok (.aload_n 0, 1) := by decide +kernel
theorem dX10_advances_115 : decode cX10_advances 115 = .ok (.getfield 76, 3) := by decide +kernel
theorem dX10_advances_118 : decode cX10_advances 118 = .ok (.invokevirtual 79, 3) := by decide +kernel
theorem dX10_advances_121 : decode cX10_advances 121 = .ok (.iadd, 1) := by decide +kernel
theorem dX10_advances_122 : decode cX10_advances 122 = .ok (.bipush 48, 2) := by decide +kernel
theorem dX10_advances_124 : decode cX10_advances 124 = .ok (.isub, 1) := by decide +kernel
theorem dX10_advances_125 : decode cX10_advances 125 = .ok (.putfield 89, 3) := by decide +kernel
theorem dX10_advances_128 : decode cX10_advances 128 = .ok (.aload_n 0, 1) := by decide +kernel
theorem dX10_advances_129 : decode cX10_advances 129 = .ok (.dup, 1) := by decide +kernel
theorem dX10_advances_130 : decode cX10_advances 130 = .ok (.getfield 76, 3) := by decide +kernel
theorem dX10_advances_133 : decode cX10_advances 133 = .ok (.iconst 1, 1) := by decide +kernel
theorem dX10_advances_134 : decode cX10_advances 134 = .ok (.iadd, 1) := by decide +kernel
theorem dX10_advances_135 : decode cX10_advances 135 = .ok (.putfield 76, 3) := by decide +kernel
theorem dX10_advances_138 : decode cX10_advances 138 = .ok (.goto (-67), 3) := by decide +kernel
theorem dX10_advances_141 : decode cX10_advances 141 = .ok (.aload_n 0, 1) := by decide +kernel
theorem dX10_advances_142 : decode cX10_advances 142 = .ok (.aload_n 0, 1) := by decide +kernel
theorem dX10_advances_143 : decode cX10_advances 143 = .ok (.getfield 89, 3) := by decide +kernel
theorem dX10_advances_146 : decode cX10_advances 146 = .ok (.bipush 99, 2) := by decide +kernel
theorem dX10_advances_148 : decode cX10_advances 148 = .ok (.if_icmp .gt 22, 3) := by decide +kernel
theorem dX10_advances_151 : decode cX10_advances 151 = .ok (.iload_n 1, 1) := by decide +kernel
theorem dX10_advances_152 : decode cX10_advances 152 = .ok (.bipush 48, 2) := by decide +kernel
theorem dX10_advances_154 : decode cX10_advances 154 = .ok (.if_icmp .ne 20, 3) := by decide +kernel
theorem dX10_advances_157 : decode cX10_advances 157 = .ok (.aload_n 0, 1) := by decide +kernel
theorem dX10_advances_158 : decode cX10_advances 158 = .ok (.getfield 76, 3) := by decide +kernel
theorem dX10_advances_161 : decode cX10_advances 161 = .ok (.aload_n 0, 1) := by decide +kernel
theorem dX10_advances_162 : decode cX10_advances 162 = .ok (.getfield 83, 3) := by decide +kernel
theorem dX10_advances_165 : decode cX10_advances 165 = .ok (.isub, 1) := by decide +kernel
theorem dX10_advances_166 : decode cX10_advances 166 = .ok (.iconst 1, 1) := by decide +kernel
theorem dX10_advances_167 : decode cX10_advances 167 = .ok (.if_icmp .le 7, 3) := by decide +kernel
theorem dX10_advances_170 : decode cX10_advances 170 = .ok (.iconst 4, 1) := by decide +kernel
theorem dX10_advances_171 : decode cX10_advances 171 = .ok (.goto 4, 3) := by decide +kernel
theorem dX10_advances_174 : decode cX10_advances 174 = .ok (.iconst 2, 1) := by decide +kernel
theorem dX10_advances_175 : decode cX10_advances 175 = .ok (.putfield 86, 3) := by decide +kernel
theorem dX10_advances_178 : decode cX10_advances 178 = .ok (.goto 44, 3) := by decide +kernel
theorem dX10_advances_181 : decode cX10_advances 181 = .ok (.aload_n 0, 1) := by decide +kernel
theorem dX10_advances_182 : decode cX10_advances 182 = .ok (.dup, 1) := by decide +kernel
theorem dX10_advances_183 : decode cX10_advances 183 = .ok (.getfield 76, 3) := by decide +kernel
theorem dX10_advances_186 : decode cX10_advances 186 = .ok (.iconst 1, 1) := by decide +kernel
theorem dX10_advances_187 : decode cX10_advances 187 = .ok (.iadd, 1) := by decide +kernel
theorem dX10_advances_188 : decode cX10_advances 188 = .ok (.putfield 76, 3) := by decide +kernel
theorem dX10_advances_191 : decode cX10_advances 191 = .ok (.aload_n 0, 1) := by decide +kernel
theorem dX10_advances_192 : decode cX10_advances 192 = .ok (.iload_n 1, 1) := by decide +kernel
theorem dX10_advances_193 : decode cX10_advances 193 = .ok (.putfield 89, 3) := by decide +kernel
theorem dX10_advances_196 : decode cX10_advances 196 = .ok (.aload_n 0, 1) := by decide +kernel
theorem dX10_advances_197 : decode cX10_advances 197 = .ok (.iload_n 1, 1) := by decide +kernel
theorem dX10_advances_198 : decode cX10_advances 198 = .ok (.bipush 59, 2) := by decide +kernel
theorem dX10_advances_200 : decode cX10_advances 200 = .ok (.if_icmp .ne 7, 3) := by decide +kernel
theorem dX10_advances_203 : decode cX10_advances 203 = .ok (.iconst 3, 1) := by decide +kernel
theorem dX10_advances_204 : decode cX10_advances 204 = .ok (.goto 15, 3) := by decide +kernel
theorem dX10_advances_207 : decode cX10_advances 207 = .ok (.iload_n 1, 1) := by decide +kernel
theorem dX10_advances_208 : decode cX10_advances 208 = .ok (.invokestatic 92, 3) := by decide +kernel
theorem dX10_advances_211 : decode cX10_advances 211 = .ok (.ifCond .eq 7, 3) := by decide +kernel
theorem dX10_advances_214 : decode cX10_advances 214 = .ok (.iconst 1, 1) := by decide +kernel
theorem dX10_advances_215 : decode cX10_advances 215 = .ok (.goto 4, 3) := by decide +kernel
theorem dX10_advances_218 : decode cX10_advances 218 = .ok (.iconst 4, 1) := by decide +kernel
theorem dX10_advances_219 : decode cX10_advances 219 = .ok (.putfield 86, 3) := by decide +kernel
theorem dX10_advances_222 : decode cX10_advances 222 = .ok (.return_, 1) := by decide +kernel
abbrev rX10_advances : Room := { frames := 1, cells := 0, slots := 0, locals := 22 }
set_option maxHeartbeats 4000000 in
set_option maxRecDepth 100000 in
theorem w_X10_advances_125 {p : Program} {l : Launch} {e : Env} {s : State} {m : MethodId} {args : Array Value} {below : List Frame} {meth : Method} {c : Code} {D : va_G} {b : Nat} {cs : Cs3} {S1 : St} {ag71 : Int32 → St → Option (St)} (hC : CX p s m args meth c RX10 cX10_advances 2 D cs) (hr : meth.sig.returnType = none) (hag71 : ∀ (x1 : Int32) (S : St) (H : Heap) (locs : List Loc) (ls : Array Slot), ag71 x1 S = some S1 → Wd D b cs S H → va_S (AA b) s.heap H locs → lv_has ls 2 [(0, .ref (b + 99)), (1, .int x1)] → W p l e rX10_advances s m args below meth c H locs 0 0 (MQ below (QX D b cs none S1) args s 0 0 (AA b)) (F0 m 71 ls [])) : ∀ (x1 : Int32) (y0 : Int32) (S : St) (H : Heap) (locs : List Loc) (ls : Array Slot), q_X10_advances_125 ag71 x1 y0 S = some S1 → Wd D b cs S H → va_S (AA b) s.heap H locs → lv_has ls 2 [(0, .ref (b + 99)), (1, .int x1)] → W p l e rX10_advances s m args below meth c H locs 0 0 (MQ below (QX D b cs none S1) args s 0 0 (AA b)) (F0 m 125 ls [.int y0, .ref (b + 99)]) := by
  intro x1 y0 S H locs ls h hW hS hl
  rw [q_X10_advances_125] at h
  refine x_puti (C := RX10) (T := TX10) (N := 27) (ty := .int) hC hW hS 99 (by decide) rfl rfl uX10 tyX10 tyX10_ok nmX10 7 (by decide) fl_X10_89 rfl (by decide +kernel) rfl rfl rfl dX10_advances_125 (fun H locs hW hS => ?_)
  refine lv_aload_n hC.1 hC.2.1 dX10_advances_128 rfl (lv_at hl 0 rfl) ?_
  refine lv_dup hC.1 hC.2.1 dX10_advances_129 rfl ?_
  refine x_get (C := RX10) (T := TX10) (N := 27) (v := _) hC hW 99 (by decide) rfl rfl uX10 4 (by decide) fl_X10_76 rfl rfl dX10_advances_130 ?_
  refine lv_iconst (v := 1) hC.1 hC.2.1 dX10_advances_133 (by decide) ?_
  refine lv_iadd hC.1 hC.2.1 dX10_advances_134 ?_
  refine x_puti (C := RX10) (T := TX10) (N := 27) (ty := .int) hC hW hS 99 (by decide) rfl rfl uX10 tyX10 tyX10_ok nmX10 4 (by decide) fl_X10_76 rfl (by decide +kernel) rfl rfl rfl dX10_advances_135 (fun H locs hW hS => ?_)
  refine lv_goto (tgt := 71) hC.1 hC.2.1 dX10_advances_138 (by decide) ?_
  exact hag71 _ _ _ _ _ h hW hS (lv_sub hl [0, 1] rfl)
set_option maxHeartbeats 4000000 in
set_option maxRecDepth 100000 in
theorem w_X10_advances_71 {p : Program} {l : Launch} {e : Env} {s : State} {m : MethodId} {args : Array Value} {below : List Frame} {meth : Method} {c : Code} {D : va_G} {b : Nat} {cs : Cs3} {S1 : St} (hC : CX p s m args meth c RX10 cX10_advances 2 D cs) (hr : meth.sig.returnType = none) : ∀ (n : Nat) (x1 : Int32) (S : St) (H : Heap) (locs : List Loc) (ls : Array Slot), q_X10_advances_71 n x1 S = some S1 → Wd D b cs S H → va_S (AA b) s.heap H locs → lv_has ls 2 [(0, .ref (b + 99)), (1, .int x1)] → W p l e rX10_advances s m args below meth c H locs 0 0 (MQ below (QX D b cs none S1) args s 0 0 (AA b)) (F0 m 71 ls []) := by
  intro n
  induction n with
  | zero =>
    intro x1 S H locs ls h
    exact absurd h (by rw [q_X10_advances_71]; exact fun q => nomatch q)
  | succ n IH =>
    intro x1 S H locs ls h hW hS hl
    rw [q_X10_advances_71] at h
    refine lv_aload_n hC.1 hC.2.1 dX10_advances_71 rfl (lv_at hl 0 rfl) ?_
    refine lv_aload_n hC.1 hC.2.1 dX10_advances_72 rfl (lv_at hl 0 rfl) ?_
    refine x_get (C := RX10) (T := TX10) (N := 27) (v := _) hC hW 99 (by decide) rfl rfl uX10 4 (by decide) fl_X10_76 rfl rfl dX10_advances_73 ?_
    obtain ⟨⟨q76_r, q76_S⟩, hq, h⟩ := xb h
    try dsimp only at h
    refine x_callV (T := TX10) (N := 27) (As := [.int (S.1 99 4)]) (rest := []) hC hW hS 99 (c_X10_letterAt l D b cs _ _ _ _ hq) (by decide) rfl rfl mi_X10_letterAt in_X10_letterAt sl_X10_letterAt ml_X10_79 ⟨rfl, rfl⟩ ⟨Nat.le_of_ble_eq_true rfl, Nat.le_of_ble_eq_true rfl⟩ ⟨Nat.zero_le _, Nat.zero_le _⟩ rfl rfl hl.1 (Nat.le_of_ble_eq_true rfl) dX10_advances_76 (fun H locs hW hS => ?_)
    refine lv_bipush (v := 48) hC.1 hC.2.1 dX10_advances_79 (by decide) ?_
    refine lv_bipush (v := 57) hC.1 hC.2.1 dX10_advances_81 (by decide) ?_
    obtain ⟨⟨q83_r, q83_S⟩, hq, h⟩ := xb h
    try dsimp only at h
    refine x_callS (As := [.int q76_r, .int (48 : Int32), .int (57 : Int32)]) (rest := []) hC hW hS (c_X10_in l D b cs _ _ _ _ _ _ hq) mi_X10_in st_X10_in ml_X10_69 ⟨rfl, rfl⟩ ⟨Nat.le_of_ble_eq_true rfl, Nat.le_of_ble_eq_true rfl⟩ ⟨Nat.zero_le _, Nat.zero_le _⟩ rfl rfl hl.1 (Nat.le_of_ble_eq_true rfl) dX10_advances_83 (fun H locs hW hS => ?_)
    refine lv_if_eq (tgt := 141) hC.1 hC.2.1 dX10_advances_86 (by decide) (fun hc => ?_) (fun hc => ?_)
    · replace h := xt hc h
      refine lv_aload_n hC.1 hC.2.1 dX10_advances_141 rfl (lv_at hl 0 rfl) ?_
      refine lv_aload_n hC.1 hC.2.1 dX10_advances_142 rfl (lv_at hl 0 rfl) ?_
      refine x_get (C := RX10) (T := TX10) (N := 27) (v := _) hC hW 99 (by decide) rfl rfl uX10 7 (by decide) fl_X10_89 rfl rfl dX10_advances_143 ?_
      refine lv_bipush (v := 99) hC.1 hC.2.1 dX10_advances_146 (by decide) ?_
      refine lv_icmp_gt (tgt := 170) hC.1 hC.2.1 dX10_advances_148 (by decide) (fun hc => ?_) (fun hc => ?_)
      · replace h := xt hc h
        refine lv_iconst (v := 4) hC.1 hC.2.1 dX10_advances_170 (by decide) ?_
        refine lv_goto (tgt := 175) hC.1 hC.2.1 dX10_advances_171 (by decide) ?_
        refine x_puti (C := RX10) (T := TX10) (N := 27) (ty := .int) hC hW hS 99 (by decide) rfl rfl uX10 tyX10 tyX10_ok nmX10 5 (by decide) fl_X10_86 rfl (by decide +kernel) rfl rfl rfl dX10_advances_175 (fun H locs hW hS => ?_)
        refine lv_goto (tgt := 222) hC.1 hC.2.1 dX10_advances_178 (by decide) ?_
        obtain rfl := Option.some.inj h
        exact x_vret hC hr hW hS dX10_advances_222
      · replace h := xf hc h
        refine lv_iload_n hC.1 hC.2.1 dX10_advances_151 rfl (lv_at hl 1 rfl) ?_
        refine lv_bipush (v := 48) hC.1 hC.2.1 dX10_advances_152 (by decide) ?_
        refine lv_icmp_ne (tgt := 174) hC.1 hC.2.1 dX10_advances_154 (by decide) (fun hc => ?_) (fun hc => ?_)
        · replace h := xf hc h
          refine lv_iconst (v := 2) hC.1 hC.2.1 dX10_advances_174 (by decide) ?_
          refine x_puti (C := RX10) (T := TX10) (N := 27) (ty := .int) hC hW hS 99 (by decide) rfl rfl uX10 tyX10 tyX10_ok nmX10 5 (by decide) fl_X10_86 rfl (by decide +kernel) rfl rfl rfl dX10_advances_175 (fun H locs hW hS => ?_)
          refine lv_goto (tgt := 222) hC.1 hC.2.1 dX10_advances_178 (by decide) ?_
          obtain rfl := Option.some.inj h
          exact x_vret hC hr hW hS dX10_advances_222
        · replace h := xt hc h
          refine lv_aload_n hC.1 hC.2.1 dX10_advances_157 rfl (lv_at hl 0 rfl) ?_
          refine x_get (C := RX10) (T := TX10) (N := 27) (v := _) hC hW 99 (by decide) rfl rfl uX10 4 (by decide) fl_X10_76 rfl rfl dX10_advances_158 ?_
          refine lv_aload_n hC.1 hC.2.1 dX10_advances_161 rfl (lv_at hl 0 rfl) ?_
          refine x_get (C := RX10) (T := TX10) (N := 27) (v := _) hC hW 99 (by decide) rfl rfl uX10 6 (by decide) fl_X10_83 rfl rfl dX10_advances_162 ?_
          refine lv_isub hC.1 hC.2.1 dX10_advances_165 ?_
          refine lv_iconst (v := 1) hC.1 hC.2.1 dX10_advances_166 (by decide) ?_
          refine lv_icmp_le (tgt := 174) hC.1 hC.2.1 dX10_advances_167 (by decide) (fun hc => ?_) (fun hc => ?_)
          · replace h := xt hc h
            refine lv_iconst (v := 2) hC.1 hC.2.1 dX10_advances_174 (by decide) ?_
            refine x_puti (C := RX10) (T := TX10) (N := 27) (ty := .int) hC hW hS 99 (by decide) rfl rfl uX10 tyX10 tyX10_ok nmX10 5 (by decide) fl_X10_86 rfl (by decide +kernel) rfl rfl rfl dX10_advances_175 (fun H locs hW hS => ?_)
            refine lv_goto (tgt := 222) hC.1 hC.2.1 dX10_advances_178 (by decide) ?_
            obtain rfl := Option.some.inj h
            exact x_vret hC hr hW hS dX10_advances_222
          · replace h := xf hc h
            refine lv_iconst (v := 4) hC.1 hC.2.1 dX10_advances_170 (by decide) ?_
            refine lv_goto (tgt := 175) hC.1 hC.2.1 dX10_advances_171 (by decide) ?_
            refine x_puti (C := RX10) (T := TX10) (N := 27) (ty := .int) hC hW hS 99 (by decide) rfl rfl uX10 tyX10 tyX10_ok nmX10 5 (by decide) fl_X10_86 rfl (by decide +kernel) rfl rfl rfl dX10_advances_175 (fun H locs hW hS => ?_)
            refine lv_goto (tgt := 222) hC.1 hC.2.1 dX10_advances_178 (by decide) ?_
            obtain rfl := Option.some.inj h
            exact x_vret hC hr hW hS dX10_advances_222
    · replace h := xf hc h
      refine lv_aload_n hC.1 hC.2.1 dX10_advances_89 rfl (lv_at hl 0 rfl) ?_
      refine lv_aload_n hC.1 hC.2.1 dX10_advances_90 rfl (lv_at hl 0 rfl) ?_
      refine x_get (C := RX10) (T := TX10) (N := 27) (v := _) hC hW 99 (by decide) rfl rfl uX10 7 (by decide) fl_X10_89 rfl rfl dX10_advances_91 ?_
      refine lv_bipush (v := 99) hC.1 hC.2.1 dX10_advances_94 (by decide) ?_
      refine lv_icmp_le (tgt := 106) hC.1 hC.2.1 dX10_advances_96 (by decide) (fun hc => ?_) (fun hc => ?_)
      · replace h := xt hc h
        refine lv_bipush (v := 10) hC.1 hC.2.1 dX10_advances_106 (by decide) ?_
        refine lv_aload_n hC.1 hC.2.1 dX10_advances_108 rfl (lv_at hl 0 rfl) ?_
        refine x_get (C := RX10) (T := TX10) (N := 27) (v := _) hC hW 99 (by decide) rfl rfl uX10 7 (by decide) fl_X10_89 rfl rfl dX10_advances_109 ?_
        refine lv_imul hC.1 hC.2.1 dX10_advances_112 ?_
        refine lv_aload_n hC.1 hC.2.1 dX10_advances_113 rfl (lv_at hl 0 rfl) ?_
        refine lv_aload_n hC.1 hC.2.1 dX10_advances_114 rfl (lv_at hl 0 rfl) ?_
        refine x_get (C := RX10) (T := TX10) (N := 27) (v := _) hC hW 99 (by decide) rfl rfl uX10 4 (by decide) fl_X10_76 rfl rfl dX10_advances_115 ?_
        obtain ⟨⟨q118_r, q118_S⟩, hq, h⟩ := xb h
        try dsimp only at h
        refine x_callV (T := TX10) (N := 27) (As := [.int (q83_S.1 99 4)]) (rest := [.int ((10 : Int32) * (q83_S.1 99 7)), .ref (b + 99)]) hC hW hS 99 (c_X10_letterAt l D b cs _ _ _ _ hq) (by decide) rfl rfl mi_X10_letterAt in_X10_letterAt sl_X10_letterAt ml_X10_79 ⟨rfl, rfl⟩ ⟨Nat.le_of_ble_eq_true rfl, Nat.le_of_ble_eq_true rfl⟩ ⟨Nat.zero_le _, Nat.zero_le _⟩ rfl rfl hl.1 (Nat.le_of_ble_eq_true rfl) dX10_advances_118 (fun H locs hW hS => ?_)
        refine lv_iadd hC.1 hC.2.1 dX10_advances_121 ?_
        refine lv_bipush (v := 48) hC.1 hC.2.1 dX10_advances_122 (by decide) ?_
        refine lv_isub hC.1 hC.2.1 dX10_advances_124 ?_
        exact w_X10_advances_125 hC hr IH _ _ _ _ _ _ h hW hS (lv_sub hl [0, 1] rfl)
      · replace h := xf hc h
        refine lv_aload_n hC.1 hC.2.1 dX10_advances_99 rfl (lv_at hl 0 rfl) ?_
        refine x_get (C := RX10) (T := TX10) (N := 27) (v := _) hC hW 99 (by decide) rfl rfl uX10 7 (by decide) fl_X10_89 rfl rfl dX10_advances_100 ?_
        refine lv_goto (tgt := 125) hC.1 hC.2.1 dX10_advances_103 (by decide) ?_
        exact w_X10_advances_125 hC hr IH _ _ _ _ _ _ h hW hS (lv_sub hl [0, 1] rfl)
set_option maxHeartbeats 4000000 in
set_option maxRecDepth 100000 in
theorem w_X10_advances_0 {p : Program} {l : Launch} {e : Env} {s : State} {m : MethodId} {args : Array Value} {below : List Frame} {meth : Method} {c : Code} {D : va_G} {b : Nat} {cs : Cs3} {S1 : St} (hC : CX p s m args meth c RX10 cX10_advances 2 D cs) (hr : meth.sig.returnType = none) : ∀ (n : Nat) (S : St) (H : Heap) (locs : List Loc) (ls : Array Slot), q_X10_advances_0 n S = some S1 → Wd D b cs S H → va_S (AA b) s.heap H locs → lv_has ls 2 [(0, .ref (b + 99))] → W p l e rX10_advances s m args below meth c H locs 0 0 (MQ below (QX D b cs none S1) args s 0 0 (AA b)) (F0 m 0 ls []) := by
  intro n
  induction n with
  | zero =>
    intro S H locs ls h
    exact absurd h (by rw [q_X10_advances_0]; exact fun q => nomatch q)
  | succ n IH =>
    intro S H locs ls h hW hS hl
    rw [q_X10_advances_0] at h
    refine lv_aload_n hC.1 hC.2.1 dX10_advances_0 rfl (lv_at hl 0 rfl) ?_
    refine lv_aload_n hC.1 hC.2.1 dX10_advances_1 rfl (lv_at hl 0 rfl) ?_
    refine x_get (C := RX10) (T := TX10) (N := 27) (v := _) hC hW 99 (by decide) rfl rfl uX10 4 (by decide) fl_X10_76 rfl rfl dX10_advances_2 ?_
    obtain ⟨⟨q5_r, q5_S⟩, hq, h⟩ := xb h
    try dsimp only at h
    refine x_callV (T := TX10) (N := 27) (As := [.int (S.1 99 4)]) (rest := []) hC hW hS 99 (c_X10_letterAt l D b cs _ _ _ _ hq) (by decide) rfl rfl mi_X10_letterAt in_X10_letterAt sl_X10_letterAt ml_X10_79 ⟨rfl, rfl⟩ ⟨Nat.le_of_ble_eq_true rfl, Nat.le_of_ble_eq_true rfl⟩ ⟨Nat.zero_le _, Nat.zero_le _⟩ rfl rfl hl.1 (Nat.le_of_ble_eq_true rfl) dX10_advances_5 (fun H locs hW hS => ?_)
    refine lv_bipush (v := 32) hC.1 hC.2.1 dX10_advances_8 (by decide) ?_
    refine lv_icmp_ne (tgt := 26) hC.1 hC.2.1 dX10_advances_10 (by decide) (fun hc => ?_) (fun hc => ?_)
    · replace h := xf hc h
      refine lv_aload_n hC.1 hC.2.1 dX10_advances_26 rfl (lv_at hl 0 rfl) ?_
      refine lv_aload_n hC.1 hC.2.1 dX10_advances_27 rfl (lv_at hl 0 rfl) ?_
      refine x_get (C := RX10) (T := TX10) (N := 27) (v := _) hC hW 99 (by decide) rfl rfl uX10 4 (by decide) fl_X10_76 rfl rfl dX10_advances_28 ?_
      refine x_puti (C := RX10) (T := TX10) (N := 27) (ty := .int) hC hW hS 99 (by decide) rfl rfl uX10 tyX10 tyX10_ok nmX10 6 (by decide) fl_X10_83 rfl (by decide +kernel) rfl rfl rfl dX10_advances_31 (fun H locs hW hS => ?_)
      refine lv_aload_n hC.1 hC.2.1 dX10_advances_34 rfl (lv_at hl 0 rfl) ?_
      refine lv_aload_n hC.1 hC.2.1 dX10_advances_35 rfl (lv_at hl 0 rfl) ?_
      refine x_get (C := RX10) (T := TX10) (N := 27) (v := _) hC hW 99 (by decide) rfl rfl uX10 4 (by decide) fl_X10_76 rfl rfl dX10_advances_36 ?_
      obtain ⟨⟨q39_r, q39_S⟩, hq, h⟩ := xb h
      try dsimp only at h
      refine x_callV (T := TX10) (N := 27) (As := [.int ((sI q5_S 99 6 (q5_S.1 99 4)).1 99 4)]) (rest := []) hC hW hS 99 (c_X10_letterAt l D b cs _ _ _ _ hq) (by decide) rfl rfl mi_X10_letterAt in_X10_letterAt sl_X10_letterAt ml_X10_79 ⟨rfl, rfl⟩ ⟨Nat.le_of_ble_eq_true rfl, Nat.le_of_ble_eq_true rfl⟩ ⟨Nat.zero_le _, Nat.zero_le _⟩ rfl rfl hl.1 (Nat.le_of_ble_eq_true rfl) dX10_advances_39 (fun H locs hW hS => ?_)
      refine lv_istore_n (lv' := [(1, .int q39_r), (0, .ref (b + 99))]) hC.1 hC.2.1 dX10_advances_42 rfl hl (by decide) rfl (fun ls hl => ?_)
      refine lv_iload_n hC.1 hC.2.1 dX10_advances_43 rfl (lv_at hl 0 rfl) ?_
      refine lv_if_ge (tgt := 55) hC.1 hC.2.1 dX10_advances_44 (by decide) (fun hc => ?_) (fun hc => ?_)
      · replace h := xt hc h
        refine lv_iload_n hC.1 hC.2.1 dX10_advances_55 rfl (lv_at hl 0 rfl) ?_
        refine lv_bipush (v := 48) hC.1 hC.2.1 dX10_advances_56 (by decide) ?_
        refine lv_bipush (v := 57) hC.1 hC.2.1 dX10_advances_58 (by decide) ?_
        obtain ⟨⟨q60_r, q60_S⟩, hq, h⟩ := xb h
        try dsimp only at h
        refine x_callS (As := [.int q39_r, .int (48 : Int32), .int (57 : Int32)]) (rest := []) hC hW hS (c_X10_in l D b cs _ _ _ _ _ _ hq) mi_X10_in st_X10_in ml_X10_69 ⟨rfl, rfl⟩ ⟨Nat.le_of_ble_eq_true rfl, Nat.le_of_ble_eq_true rfl⟩ ⟨Nat.zero_le _, Nat.zero_le _⟩ rfl rfl hl.1 (Nat.le_of_ble_eq_true rfl) dX10_advances_60 (fun H locs hW hS => ?_)
        refine lv_if_eq (tgt := 181) hC.1 hC.2.1 dX10_advances_63 (by decide) (fun hc => ?_) (fun hc => ?_)
        · replace h := xt hc h
          refine lv_aload_n hC.1 hC.2.1 dX10_advances_181 rfl (lv_at hl 1 rfl) ?_
          refine lv_dup hC.1 hC.2.1 dX10_advances_182 rfl ?_
          refine x_get (C := RX10) (T := TX10) (N := 27) (v := _) hC hW 99 (by decide) rfl rfl uX10 4 (by decide) fl_X10_76 rfl rfl dX10_advances_183 ?_
          refine lv_iconst (v := 1) hC.1 hC.2.1 dX10_advances_186 (by decide) ?_
          refine lv_iadd hC.1 hC.2.1 dX10_advances_187 ?_
          refine x_puti (C := RX10) (T := TX10) (N := 27) (ty := .int) hC hW hS 99 (by decide) rfl rfl uX10 tyX10 tyX10_ok nmX10 4 (by decide) fl_X10_76 rfl (by decide +kernel) rfl rfl rfl dX10_advances_188 (fun H locs hW hS => ?_)
          refine lv_aload_n hC.1 hC.2.1 dX10_advances_191 rfl (lv_at hl 1 rfl) ?_
          refine lv_iload_n hC.1 hC.2.1 dX10_advances_192 rfl (lv_at hl 0 rfl) ?_
          refine x_puti (C := RX10) (T := TX10) (N := 27) (ty := .int) hC hW hS 99 (by decide) rfl rfl uX10 tyX10 tyX10_ok nmX10 7 (by decide) fl_X10_89 rfl (by decide +kernel) rfl rfl rfl dX10_advances_193 (fun H locs hW hS => ?_)
          refine lv_aload_n hC.1 hC.2.1 dX10_advances_196 rfl (lv_at hl 1 rfl) ?_
          refine lv_iload_n hC.1 hC.2.1 dX10_advances_197 rfl (lv_at hl 0 rfl) ?_
          refine lv_bipush (v := 59) hC.1 hC.2.1 dX10_advances_198 (by decide) ?_
          refine lv_icmp_ne (tgt := 207) hC.1 hC.2.1 dX10_advances_200 (by decide) (fun hc => ?_) (fun hc => ?_)
          · replace h := xf hc h
            refine lv_iload_n hC.1 hC.2.1 dX10_advances_207 rfl (lv_at hl 0 rfl) ?_
            obtain ⟨⟨q208_r, q208_S⟩, hq, h⟩ := xb h
            try dsimp only at h
            refine x_callS (As := [.int q39_r]) (rest := [.ref (b + 99)]) hC hW hS (c_X10_isLetter l D b cs _ _ _ _ hq) mi_X10_isLetter st_X10_isLetter ml_X10_92 ⟨rfl, rfl⟩ ⟨Nat.le_of_ble_eq_true rfl, Nat.le_of_ble_eq_true rfl⟩ ⟨Nat.zero_le _, Nat.zero_le _⟩ rfl rfl hl.1 (Nat.le_of_ble_eq_true rfl) dX10_advances_208 (fun H locs hW hS => ?_)
            refine lv_if_eq (tgt := 218) hC.1 hC.2.1 dX10_advances_211 (by decide) (fun hc => ?_) (fun hc => ?_)
            · replace h := xt hc h
              refine lv_iconst (v := 4) hC.1 hC.2.1 dX10_advances_218 (by decide) ?_
              refine x_puti (C := RX10) (T := TX10) (N := 27) (ty := .int) hC hW hS 99 (by decide) rfl rfl uX10 tyX10 tyX10_ok nmX10 5 (by decide) fl_X10_86 rfl (by decide +kernel) rfl rfl rfl dX10_advances_219 (fun H locs hW hS => ?_)
              obtain rfl := Option.some.inj h
              exact x_vret hC hr hW hS dX10_advances_222
            · replace h := xf hc h
              refine lv_iconst (v := 1) hC.1 hC.2.1 dX10_advances_214 (by decide) ?_
              refine lv_goto (tgt := 219) hC.1 hC.2.1 dX10_advances_215 (by decide) ?_
              refine x_puti (C := RX10) (T := TX10) (N := 27) (ty := .int) hC hW hS 99 (by decide) rfl rfl uX10 tyX10 tyX10_ok nmX10 5 (by decide) fl_X10_86 rfl (by decide +kernel) rfl rfl rfl dX10_advances_219 (fun H locs hW hS => ?_)
              obtain rfl := Option.some.inj h
              exact x_vret hC hr hW hS dX10_advances_222
          · replace h := xt hc h
            refine lv_iconst (v := 3) hC.1 hC.2.1 dX10_advances_203 (by decide) ?_
            refine lv_goto (tgt := 219) hC.1 hC.2.1 dX10_advances_204 (by decide) ?_
            refine x_puti (C := RX10) (T := TX10) (N := 27) (ty := .int) hC hW hS 99 (by decide) rfl rfl uX10 tyX10 tyX10_ok nmX10 5 (by decide) fl_X10_86 rfl (by decide +kernel) rfl rfl rfl dX10_advances_219 (fun H locs hW hS => ?_)
            obtain rfl := Option.some.inj h
            exact x_vret hC hr hW hS dX10_advances_222
        · replace h := xf hc h
          refine lv_aload_n hC.1 hC.2.1 dX10_advances_66 rfl (lv_at hl 1 rfl) ?_
          refine lv_iconst (v := 0) hC.1 hC.2.1 dX10_advances_67 (by decide) ?_
          refine x_puti (C := RX10) (T := TX10) (N := 27) (ty := .int) hC hW hS 99 (by decide) rfl rfl uX10 tyX10 tyX10_ok nmX10 7 (by decide) fl_X10_89 rfl (by decide +kernel) rfl rfl rfl dX10_advances_68 (fun H locs hW hS => ?_)
          exact w_X10_advances_71 hC hr _ _ _ _ _ _ h hW hS (lv_sub hl [1, 0] rfl)
      · replace h := xf hc h
        refine lv_aload_n hC.1 hC.2.1 dX10_advances_47 rfl (lv_at hl 1 rfl) ?_
        refine lv_iconst (v := 0) hC.1 hC.2.1 dX10_advances_48 (by decide) ?_
        refine x_puti (C := RX10) (T := TX10) (N := 27) (ty := .int) hC hW hS 99 (by decide) rfl rfl uX10 tyX10 tyX10_ok nmX10 5 (by decide) fl_X10_86 rfl (by decide +kernel) rfl rfl rfl dX10_advances_49 (fun H locs hW hS => ?_)
        refine lv_goto (tgt := 222) hC.1 hC.2.1 dX10_advances_52 (by decide) ?_
        obtain rfl := Option.some.inj h
        exact x_vret hC hr hW hS dX10_advances_222
    · replace h := xt hc h
      refine lv_aload_n hC.1 hC.2.1 dX10_advances_13 rfl (lv_at hl 0 rfl) ?_
      refine lv_dup hC.1 hC.2.1 dX10_advances_14 rfl ?_
      refine x_get (C := RX10) (T := TX10) (N := 27) (v := _) hC hW 99 (by decide) rfl rfl uX10 4 (by decide) fl_X10_76 rfl rfl dX10_advances_15 ?_
      refine lv_iconst (v := 1) hC.1 hC.2.1 dX10_advances_18 (by decide) ?_
      refine lv_iadd hC.1 hC.2.1 dX10_advances_19 ?_
      refine x_puti (C := RX10) (T := TX10) (N := 27) (ty := .int) hC hW hS 99 (by decide) rfl rfl uX10 tyX10 tyX10_ok nmX10 4 (by decide) fl_X10_76 rfl (by decide +kernel) rfl rfl rfl dX10_advances_20 (fun H locs hW hS => ?_)
      refine lv_goto (tgt := 0) hC.1 hC.2.1 dX10_advances_23 (by decide) ?_
      exact IH _ _ _ _ h hW hS (lv_sub hl [0] rfl)
set_option maxHeartbeats 4000000 in
set_option maxRecDepth 100000 in
theorem c_X10_advances (l : Launch) (D : va_G) (b : Nat) (cs : Cs3) (S S1 : St) (h : p_X10_advances S = some S1) : Ct l yX10_advances cX10_advances 2 none rX10_advances D b cs [.ref (b + 99)] S none S1 := by
  refine x_met (by decide +kernel) (Nat.le_of_ble_eq_true rfl) ?_
  intro p e s m below meth c ls hC hr hW hS hl
  have hl : lv_has ls 2 [(0, .ref (b + 99))] := hl
  rw [p_X10_advances] at h
  exact w_X10_advances_0 hC hr _ _ _ _ _ h hW hS (lv_sub hl [0] rfl)
theorem dX10_isWell_0 : decode cX10_isWell 0 = .ok (.aload_n 0, 1) := by decide +kernel
theorem dX10_isWell_1 : decode cX10_isWell 1 = .ok (.getfield 96, 3) := by decide +kernel
theorem dX10_isWell_4 : decode cX10_isWell 4 = .ok (.ifCond .ge 7, 3) := by decide +kernel
theorem dX10_isWell_7 : decode cX10_isWell 7 = .ok (.iconst 1, 1) := by decide +kernel
theorem dX10_isWell_8 : decode cX10_isWell 8 = .ok (.goto 4, 3) := by decide +kernel
theorem dX10_isWell_11 : decode cX10_isWell 11 = .ok (.iconst 0, 1) := by decide +kernel
theorem dX10_isWell_12 : decode cX10_isWell 12 = .ok (.ireturn, 1) := by decide +kernel
abbrev rX10_isWell : Room := { frames := 0, cells := 0, slots := 0, locals := 0 }
set_option maxHeartbeats 4000000 in
set_option maxRecDepth 100000 in
theorem c_X10_isWell (l : Launch) (D : va_G) (b : Nat) (cs : Cs3) (S S1 : St) (r : Int32) (h : p_X10_isWell S = some (r, S1)) : Ct l yX10_isWell cX10_isWell 1 (some .boolean) rX10_isWell D b cs [.ref (b + 99)] S (some (.int r)) S1 := by
  refine x_met (by decide +kernel) (Nat.le_of_ble_eq_true rfl) ?_
  intro p e s m below meth c ls hC hr hW hS hl
  have hl : lv_has ls 1 [(0, .ref (b + 99))] := hl
  rw [p_X10_isWell] at h
  refine lv_aload_n hC.1 hC.2.1 dX10_isWell_0 rfl (lv_at hl 0 rfl) ?_
  refine x_get (C := RX10) (T := TX10) (N := 27) (v := _) hC hW 99 (by decide) rfl rfl uX10 8 (by decide) fl_X10_96 rfl rfl dX10_isWell_1 ?_
  refine lv_if_ge (tgt := 11) hC.1 hC.2.1 dX10_isWell_4 (by decide) (fun hc => ?_) (fun hc => ?_)
  · replace h := xt hc h
    refine lv_iconst (v := 0) hC.1 hC.2.1 dX10_isWell_11 (by decide) ?_
    obtain ⟨rfl, rfl⟩ := xr h
    exact x_zret hC hr hW hS (Or.inl rfl) dX10_isWell_12
  · replace h := xf hc h
    refine lv_iconst (v := 1) hC.1 hC.2.1 dX10_isWell_7 (by decide) ?_
    refine lv_goto (tgt := 12) hC.1 hC.2.1 dX10_isWell_8 (by decide) ?_
    obtain ⟨rfl, rfl⟩ := xr h
    exact x_zret hC hr hW hS (Or.inr rfl) dX10_isWell_12
theorem dX10_takes_0 : decode cX10_takes 0 = .ok (.aload_n 0, 1) := by decide +kernel
theorem dX10_takes_1 : decode cX10_takes 1 = .ok (.invokevirtual 99, 3) := by decide +kernel
theorem dX10_takes_4 : decode cX10_takes 4 = .ok (.ifCond .ne 5, 3) := by decide +kernel
theorem dX10_takes_7 : decode cX10_takes 7 = .ok (.iconst 0, 1) := by decide +kernel
theorem dX10_takes_8 : decode cX10_takes 8 = .ok (.ireturn, 1) := by decide +kernel
theorem dX10_takes_9 : decode cX10_takes 9 = .ok (.iload_n 1, 1) := by decide +kernel
theorem dX10_takes_10 : decode cX10_takes 10 = .ok (.ifCond .ne 13, 3) := by decide +kernel
theorem dX10_takes_13 : decode cX10_takes 13 = .ok (.aload_n 0, 1) := by decide +kernel
theorem dX10_takes_14 : decode cX10_takes 14 = .ok (.aload_n 0, 1) := by decide +kernel
theorem dX10_takes_15 : decode cX10_takes 15 = .ok (.getfield 83, 3) := by decide +kernel
theorem dX10_takes_18 : decode cX10_takes 18 = .ok (.putfield 96, 3) := by decide +kernel
theorem dX10_takes_21 : decode cX10_takes 21 = .ok (.iconst 0, 1) := by decide +kernel
theorem dX10_takes_22 : decode cX10_takes 22 = .ok (.ireturn, 1) := by decide +kernel
theorem dX10_takes_23 : decode cX10_takes 23 = .ok (.aload_n 0, 1) := by decide +kernel
theorem dX10_takes_24 : decode cX10_takes 24 = .ok (.getfield 89, 3) := by decide +kernel
theorem dX10_takes_27 : decode cX10_takes 27 = .ok (.istore_n 2, 1) := by decide +kernel
theorem dX10_takes_28 : decode cX10_takes 28 = .ok (.aload_n 0, 1) := by decide +kernel
theorem dX10_takes_29 : decode cX10_takes 29 = .ok (.invokevirtual 103, 3) := by decide +kernel
theorem dX10_takes_32 : decode cX10_takes 32 = .ok (.iload_n 2, 1) := by decide +kernel
theorem dX10_takes_33 : decode cX10_takes 33 = .ok (.ireturn, 1) := by decide +kernel
abbrev rX10_takes : Room := { frames := 2, cells := 0, slots := 0, locals := 43 }
set_option maxHeartbeats 4000000 in
set_option maxRecDepth 100000 in
theorem c_X10_takes (l : Launch) (D : va_G) (b : Nat) (cs : Cs3) (x1 : Int32) (S S1 : St) (r : Int32) (h : p_X10_takes x1 S = some (r, S1)) : Ct l yX10_takes cX10_takes 3 (some .int) rX10_takes D b cs [.ref (b + 99), .int x1] S (some (.int r)) S1 := by
  refine x_met (by decide +kernel) (Nat.le_of_ble_eq_true rfl) ?_
  intro p e s m below meth c ls hC hr hW hS hl
  have hl : lv_has ls 3 [(0, .ref (b + 99)), (1, .int x1)] := hl
  rw [p_X10_takes] at h
  refine lv_aload_n hC.1 hC.2.1 dX10_takes_0 rfl (lv_at hl 0 rfl) ?_
  obtain ⟨⟨q1_r, q1_S⟩, hq, h⟩ := xb h
  try dsimp only at h
  refine x_callV (T := TX10) (N := 27) (As := []) (rest := []) hC hW hS 99 (c_X10_isWell l D b cs _ _ _ hq) (by decide) rfl rfl mi_X10_isWell in_X10_isWell sl_X10_isWell ml_X10_99 ⟨rfl, rfl⟩ ⟨Nat.le_of_ble_eq_true rfl, Nat.le_of_ble_eq_true rfl⟩ ⟨Nat.zero_le _, Nat.zero_le _⟩ rfl rfl hl.1 (Nat.le_of_ble_eq_true rfl) dX10_takes_1 (fun H locs hW hS => ?_)
  refine lv_if_ne (tgt := 9) hC.1 hC.2.1 dX10_takes_4 (by decide) (fun hc => ?_) (fun hc => ?_)
  · replace h := xf hc h
    refine lv_iload_n hC.1 hC.2.1 dX10_takes_9 rfl (lv_at hl 1 rfl) ?_
    refine lv_if_ne (tgt := 23) hC.1 hC.2.1 dX10_takes_10 (by decide) (fun hc => ?_) (fun hc => ?_)
    · replace h := xf hc h
      refine lv_aload_n hC.1 hC.2.1 dX10_takes_23 rfl (lv_at hl 0 rfl) ?_
      refine x_get (C := RX10) (T := TX10) (N := 27) (v := _) hC hW 99 (by decide) rfl rfl uX10 7 (by decide) fl_X10_89 rfl rfl dX10_takes_24 ?_
      refine lv_istore_n (lv' := [(2, .int (q1_S.1 99 7)), (0, .ref (b + 99)), (1, .int x1)]) hC.1 hC.2.1 dX10_takes_27 rfl hl (by decide) rfl (fun ls hl => ?_)
      refine lv_aload_n hC.1 hC.2.1 dX10_takes_28 rfl (lv_at hl 1 rfl) ?_
      obtain ⟨q29, hq, h⟩ := xb h
      try dsimp only at h
      refine x_callV (T := TX10) (N := 27) (As := []) (rest := []) hC hW hS 99 (c_X10_advances l D b cs _ _ hq) (by decide) rfl rfl mi_X10_advances in_X10_advances sl_X10_advances ml_X10_103 ⟨rfl, rfl⟩ ⟨Nat.le_of_ble_eq_true rfl, Nat.le_of_ble_eq_true rfl⟩ ⟨Nat.zero_le _, Nat.zero_le _⟩ rfl rfl hl.1 (Nat.le_of_ble_eq_true rfl) dX10_takes_29 (fun H locs hW hS => ?_)
      refine lv_iload_n hC.1 hC.2.1 dX10_takes_32 rfl (lv_at hl 0 rfl) ?_
      obtain ⟨rfl, rfl⟩ := xr h
      exact x_iret hC hr hW hS dX10_takes_33
    · replace h := xt hc h
      refine lv_aload_n hC.1 hC.2.1 dX10_takes_13 rfl (lv_at hl 0 rfl) ?_
      refine lv_aload_n hC.1 hC.2.1 dX10_takes_14 rfl (lv_at hl 0 rfl) ?_
      refine x_get (C := RX10) (T := TX10) (N := 27) (v := _) hC hW 99 (by decide) rfl rfl uX10 6 (by decide) fl_X10_83 rfl rfl dX10_takes_15 ?_
      refine x_puti (C := RX10) (T := TX10) (N := 27) (ty := .int) hC hW hS 99 (by decide) rfl rfl uX10 tyX10 tyX10_ok nmX10 8 (by decide) fl_X10_96 rfl (by decide +kernel) rfl rfl rfl dX10_takes_18 (fun H locs hW hS => ?_)
      refine lv_iconst (v := 0) hC.1 hC.2.1 dX10_takes_21 (by decide) ?_
      obtain ⟨rfl, rfl⟩ := xr h
      exact x_iret hC hr hW hS dX10_takes_22
  · replace h := xt hc h
    refine lv_iconst (v := 0) hC.1 hC.2.1 dX10_takes_7 (by decide) ?_
    obtain ⟨rfl, rfl⟩ := xr h
    exact x_iret hC hr hW hS dX10_takes_8
theorem dX10_number_0 : decode cX10_number 0 = .ok (.aload_n 0, 1) := by decide +kernel
theorem dX10_number_1 : decode cX10_number 1 = .ok (.aload_n 0, 1) := by decide +kernel
theorem dX10_number_2 : decode cX10_number 2 = .ok (.getfield 86, 3) := by decide +kernel
theorem dX10_number_5 : decode cX10_number 5 = .ok (.iconst 2, 1) := by decide +kernel
theorem dX10_number_6 : decode cX10_number 6 = .ok (.if_icmp .ne 19, 3) := by decide +kernel
theorem dX10_number_9 : decode cX10_number 9 = .ok (.aload_n 0, 1) := by decide +kernel
theorem dX10_number_10 : decode cX10_number 10 = .ok (.getfield 89, 3) := by decide +kernel
theorem dX10_number_13 : decode cX10_number 13 = .ok (.iload_n 1, 1) := by decide +kernel
theorem dX10_number_14 : decode cX10_number 14 = .ok (.iload_n 2, 1) := by decide +kernel
theorem dX10_number_15 : decode cX10_number 15 = .ok (.invokestatic 69, 3) := by decide +kernel
theorem dX10_number_18 : decode cX10_number 18 = .ok (.ifCond .eq 7, 3) := by decide +kernel
theorem dX10_number_21 : decode cX10_number 21 = .ok (.iconst 1, 1) := by decide +kernel
theorem dX10_number_22 : decode cX10_number 22 = .ok (.goto 4, 3) := by decide +kernel
theorem dX10_number_25 : decode cX10_number 25 = .ok (.iconst 0, 1) := by decide +kernel
theorem dX10_number_26 : decode cX10_number 26 = .ok (.invokevirtual 106, 3) := by decide +kernel
theorem dX10_number_29 : decode cX10_number 29 = .ok (.ireturn, 1) := by decide +kernel
abbrev rX10_number : Room := { frames := 3, cells := 0, slots := 0, locals := 65 }
set_option maxHeartbeats 4000000 in
set_option maxRecDepth 100000 in
theorem c_X10_number (l : Launch) (D : va_G) (b : Nat) (cs : Cs3) (x1 : Int32) (x2 : Int32) (S S1 : St) (r : Int32) (h : p_X10_number x1 x2 S = some (r, S1)) : Ct l yX10_number cX10_number 3 (some .int) rX10_number D b cs [.ref (b + 99), .int x1, .int x2] S (some (.int r)) S1 := by
  refine x_met (by decide +kernel) (Nat.le_of_ble_eq_true rfl) ?_
  intro p e s m below meth c ls hC hr hW hS hl
  have hl : lv_has ls 3 [(0, .ref (b + 99)), (1, .int x1), (2, .int x2)] := hl
  rw [p_X10_number] at h
  refine lv_aload_n hC.1 hC.2.1 dX10_number_0 rfl (lv_at hl 0 rfl) ?_
  refine lv_aload_n hC.1 hC.2.1 dX10_number_1 rfl (lv_at hl 0 rfl) ?_
  refine x_get (C := RX10) (T := TX10) (N := 27) (v := _) hC hW 99 (by decide) rfl rfl uX10 5 (by decide) fl_X10_86 rfl rfl dX10_number_2 ?_
  refine lv_iconst (v := 2) hC.1 hC.2.1 dX10_number_5 (by decide) ?_
  refine lv_icmp_ne (tgt := 25) hC.1 hC.2.1 dX10_number_6 (by decide) (fun hc => ?_) (fun hc => ?_)
  · replace h := xf hc h
    refine lv_iconst (v := 0) hC.1 hC.2.1 dX10_number_25 (by decide) ?_
    obtain ⟨⟨q26_r, q26_S⟩, hq, h⟩ := xb h
    try dsimp only at h
    refine x_callV (T := TX10) (N := 27) (As := [.int (0 : Int32)]) (rest := []) hC hW hS 99 (c_X10_takes l D b cs _ _ _ _ hq) (by decide) rfl rfl mi_X10_takes in_X10_takes sl_X10_takes ml_X10_106 ⟨rfl, rfl⟩ ⟨Nat.le_of_ble_eq_true rfl, Nat.le_of_ble_eq_true rfl⟩ ⟨Nat.zero_le _, Nat.zero_le _⟩ rfl rfl hl.1 (Nat.le_of_ble_eq_true rfl) dX10_number_26 (fun H locs hW hS => ?_)
    obtain ⟨rfl, rfl⟩ := xr h
    exact x_iret hC hr hW hS dX10_number_29
  · replace h := xt hc h
    refine lv_aload_n hC.1 hC.2.1 dX10_number_9 rfl (lv_at hl 0 rfl) ?_
    refine x_get (C := RX10) (T := TX10) (N := 27) (v := _) hC hW 99 (by decide) rfl rfl uX10 7 (by decide) fl_X10_89 rfl rfl dX10_number_10 ?_
    refine lv_iload_n hC.1 hC.2.1 dX10_number_13 rfl (lv_at hl 1 rfl) ?_
    refine lv_iload_n hC.1 hC.2.1 dX10_number_14 rfl (lv_at hl 2 rfl) ?_
    obtain ⟨⟨q15_r, q15_S⟩, hq, h⟩ := xb h
    try dsimp only at h
    refine x_callS (As := [.int (S.1 99 7), .int x1, .int x2]) (rest := [.ref (b + 99)]) hC hW hS (c_X10_in l D b cs _ _ _ _ _ _ hq) mi_X10_in st_X10_in ml_X10_69 ⟨rfl, rfl⟩ ⟨Nat.le_of_ble_eq_true rfl, Nat.le_of_ble_eq_true rfl⟩ ⟨Nat.zero_le _, Nat.zero_le _⟩ rfl rfl hl.1 (Nat.le_of_ble_eq_true rfl) dX10_number_15 (fun H locs hW hS => ?_)
    refine lv_if_eq (tgt := 25) hC.1 hC.2.1 dX10_number_18 (by decide) (fun hc => ?_) (fun hc => ?_)
    · replace h := xt hc h
      refine lv_iconst (v := 0) hC.1 hC.2.1 dX10_number_25 (by decide) ?_
      obtain ⟨⟨q26_r, q26_S⟩, hq, h⟩ := xb h
      try dsimp only at h
      refine x_callV (T := TX10) (N := 27) (As := [.int (0 : Int32)]) (rest := []) hC hW hS 99 (c_X10_takes l D b cs _ _ _ _ hq) (by decide) rfl rfl mi_X10_takes in_X10_takes sl_X10_takes ml_X10_106 ⟨rfl, rfl⟩ ⟨Nat.le_of_ble_eq_true rfl, Nat.le_of_ble_eq_true rfl⟩ ⟨Nat.zero_le _, Nat.zero_le _⟩ rfl rfl hl.1 (Nat.le_of_ble_eq_true rfl) dX10_number_26 (fun H locs hW hS => ?_)
      obtain ⟨rfl, rfl⟩ := xr h
      exact x_iret hC hr hW hS dX10_number_29
    · replace h := xf hc h
      refine lv_iconst (v := 1) hC.1 hC.2.1 dX10_number_21 (by decide) ?_
      refine lv_goto (tgt := 26) hC.1 hC.2.1 dX10_number_22 (by decide) ?_
      obtain ⟨⟨q26_r, q26_S⟩, hq, h⟩ := xb h
      try dsimp only at h
      refine x_callV (T := TX10) (N := 27) (As := [.int (1 : Int32)]) (rest := []) hC hW hS 99 (c_X10_takes l D b cs _ _ _ _ hq) (by decide) rfl rfl mi_X10_takes in_X10_takes sl_X10_takes ml_X10_106 ⟨rfl, rfl⟩ ⟨Nat.le_of_ble_eq_true rfl, Nat.le_of_ble_eq_true rfl⟩ ⟨Nat.zero_le _, Nat.zero_le _⟩ rfl rfl hl.1 (Nat.le_of_ble_eq_true rfl) dX10_number_26 (fun H locs hW hS => ?_)
      obtain ⟨rfl, rfl⟩ := xr h
      exact x_iret hC hr hW hS dX10_number_29
theorem dX10_begins_0 : decode cX10_begins 0 = .ok (.aload_n 0, 1) := by decide +kernel
theorem dX10_begins_1 : decode cX10_begins 1 = .ok (.iconst 0, 1) := by decide +kernel
theorem dX10_begins_2 : decode cX10_begins 2 = .ok (.putfield 110, 3) := by decide +kernel
theorem dX10_begins_5 : decode cX10_begins 5 = .ok (.aload_n 0, 1) := by decide +kernel
theorem dX10_begins_6 : decode cX10_begins 6 = .ok (.getfield 13, 3) := by decide +kernel
theorem dX10_begins_9 : decode cX10_begins 9 = .ok (.iconst 4, 1) := by decide +kernel
theorem dX10_begins_10 : decode cX10_begins 10 = .ok (.iconst 2, 1) := by decide +kernel
theorem dX10_begins_11 : decode cX10_begins 11 = .ok (.iastore, 1) := by decide +kernel
theorem dX10_begins_12 : decode cX10_begins 12 = .ok (.aload_n 0, 1) := by decide +kernel
theorem dX10_begins_13 : decode cX10_begins 13 = .ok (.getfield 13, 3) := by decide +kernel
theorem dX10_begins_16 : decode cX10_begins 16 = .ok (.iconst 5, 1) := by decide +kernel
theorem dX10_begins_17 : decode cX10_begins 17 = .ok (.iconst 0, 1) := by decide +kernel
theorem dX10_begins_18 : decode cX10_begins 18 = .ok (.iastore, 1) := by decide +kernel
theorem dX10_begins_19 : decode cX10_begins 19 = .ok (.aload_n 0, 1) := by decide +kernel
theorem dX10_begins_20 : decode cX10_begins 20 = .ok (.getfield 13, 3) := by decide +kernel
theorem dX10_begins_23 : decode cX10_begins 23 = .ok (.bipush 6, 2) := by decide +kernel
theorem dX10_begins_25 : decode cX10_begins 25 = .ok (.iconst 0, 1) := by decide +kernel
theorem dX10_begins_26 : decode cX10_begins 26 = .ok (.iastore, 1) := by decide +kernel
theorem dX10_begins_27 : decode cX10_begins 27 = .ok (.aload_n 0, 1) := by decide +kernel
theorem dX10_begins_28 : decode cX10_begins 28 = .ok (.getfield 13, 3) := by decide +kernel
theorem dX10_begins_31 : decode cX10_begins 31 = .ok (.bipush 7, 2) := by decide +kernel
theorem dX10_begins_33 : decode cX10_begins 33 = .ok (.iconst 5, 1) := by decide +kernel
theorem dX10_begins_34 : decode cX10_begins 34 = .ok (.iastore, 1) := by decide +kernel
theorem dX10_begins_35 : decode cX10_begins 35 = .ok (.return_, 1) := by decide +kernel
abbrev rX10_begins : Room := { frames := 0, cells := 0, slots := 0, locals := 0 }
set_option maxHeartbeats 4000000 in
set_option maxRecDepth 100000 in
theorem c_X10_begins (l : Launch) (D : va_G) (b : Nat) (cs : Cs3) (S S1 : St) (h : p_X10_begins S = some S1) : Ct l yX10_begins cX10_begins 1 none rX10_begins D b cs [.ref (b + 99)] S none S1 := by
  refine x_met (by decide +kernel) (Nat.le_of_ble_eq_true rfl) ?_
  intro p e s m below meth c ls hC hr hW hS hl
  have hl : lv_has ls 1 [(0, .ref (b + 99))] := hl
  rw [p_X10_begins] at h
  refine lv_aload_n hC.1 hC.2.1 dX10_begins_0 rfl (lv_at hl 0 rfl) ?_
  refine lv_iconst (v := 0) hC.1 hC.2.1 dX10_begins_1 (by decide) ?_
  refine x_puti (C := RX10) (T := TX10) (N := 27) (ty := .boolean) hC hW hS 99 (by decide) rfl rfl uX10 tyX10 tyX10_ok nmX10 9 (by decide) fl_X10_110 rfl (by decide +kernel) rfl rfl rfl dX10_begins_2 (fun H locs hW hS => ?_)
  refine lv_aload_n hC.1 hC.2.1 dX10_begins_5 rfl (lv_at hl 0 rfl) ?_
  refine x_get (C := RX10) (T := TX10) (N := 27) (v := _) hC hW 99 (by decide) rfl rfl uX10 10 (by decide) fl_X10_13 rfl rfl dX10_begins_6 ?_
  refine lv_iconst (v := 4) hC.1 hC.2.1 dX10_begins_9 (by decide) ?_
  refine lv_iconst (v := 2) hC.1 hC.2.1 dX10_begins_10 (by decide) ?_
  obtain ⟨hi, h⟩ := xg h
  refine x_iast hC hW hS 101 (by decide) rfl hi dX10_begins_11 (fun H locs hW hS => ?_)
  refine lv_aload_n hC.1 hC.2.1 dX10_begins_12 rfl (lv_at hl 0 rfl) ?_
  refine x_get (C := RX10) (T := TX10) (N := 27) (v := _) hC hW 99 (by decide) rfl rfl uX10 10 (by decide) fl_X10_13 rfl rfl dX10_begins_13 ?_
  refine lv_iconst (v := 5) hC.1 hC.2.1 dX10_begins_16 (by decide) ?_
  refine lv_iconst (v := 0) hC.1 hC.2.1 dX10_begins_17 (by decide) ?_
  obtain ⟨hi, h⟩ := xg h
  refine x_iast hC hW hS 101 (by decide) rfl hi dX10_begins_18 (fun H locs hW hS => ?_)
  refine lv_aload_n hC.1 hC.2.1 dX10_begins_19 rfl (lv_at hl 0 rfl) ?_
  refine x_get (C := RX10) (T := TX10) (N := 27) (v := _) hC hW 99 (by decide) rfl rfl uX10 10 (by decide) fl_X10_13 rfl rfl dX10_begins_20 ?_
  refine lv_bipush (v := 6) hC.1 hC.2.1 dX10_begins_23 (by decide) ?_
  refine lv_iconst (v := 0) hC.1 hC.2.1 dX10_begins_25 (by decide) ?_
  obtain ⟨hi, h⟩ := xg h
  refine x_iast hC hW hS 101 (by decide) rfl hi dX10_begins_26 (fun H locs hW hS => ?_)
  refine lv_aload_n hC.1 hC.2.1 dX10_begins_27 rfl (lv_at hl 0 rfl) ?_
  refine x_get (C := RX10) (T := TX10) (N := 27) (v := _) hC hW 99 (by decide) rfl rfl uX10 10 (by decide) fl_X10_13 rfl rfl dX10_begins_28 ?_
  refine lv_bipush (v := 7) hC.1 hC.2.1 dX10_begins_31 (by decide) ?_
  refine lv_iconst (v := 5) hC.1 hC.2.1 dX10_begins_33 (by decide) ?_
  obtain ⟨hi, h⟩ := xg h
  refine x_iast hC hW hS 101 (by decide) rfl hi dX10_begins_34 (fun H locs hW hS => ?_)
  obtain rfl := Option.some.inj h
  exact x_vret hC hr hW hS dX10_begins_35
theorem dX10_mayBegin_0 : decode cX10_mayBegin 0 = .ok (.aload_n 0, 1) := by decide +kernel
theorem dX10_mayBegin_1 : decode cX10_mayBegin 1 = .ok (.getfield 89, 3) := by decide +kernel
theorem dX10_mayBegin_4 : decode cX10_mayBegin 4 = .ok (.bipush 110, 2) := by decide +kernel
theorem dX10_mayBegin_6 : decode cX10_mayBegin 6 = .ok (.if_icmp .eq 12, 3) := by decide +kernel
theorem dX10_mayBegin_9 : decode cX10_mayBegin 9 = .ok (.aload_n 0, 1) := by decide +kernel
theorem dX10_mayBegin_10 : decode cX10_mayBegin 10 = .ok (.getfield 89, 3) := by decide +kernel
theorem dX10_mayBegin_13 : decode cX10_mayBegin 13 = .ok (.bipush 115, 2) := by decide +kernel
theorem dX10_mayBegin_15 : decode cX10_mayBegin 15 = .ok (.if_icmp .ne 37, 3) := by decide +kernel
theorem dX10_mayBegin_18 : decode cX10_mayBegin 18 = .ok (.aload_n 0, 1) := by decide +kernel
theorem dX10_mayBegin_19 : decode cX10_mayBegin 19 = .ok (.getfield 89, 3) := by decide +kernel
theorem dX10_mayBegin_22 : decode cX10_mayBegin 22 = .ok (.bipush 110, 2) := by decide +kernel
theorem dX10_mayBegin_24 : decode cX10_mayBegin 24 = .ok (.if_icmp .ne 15, 3) := by decide +kernel
theorem dX10_mayBegin_27 : decode cX10_mayBegin 27 = .ok (.iload_n 1, 1) := by decide +kernel
theorem dX10_mayBegin_28 : decode cX10_mayBegin 28 = .ok (.ifCond .ne 7, 3) := by decide +kernel
theorem dX10_mayBegin_31 : decode cX10_mayBegin 31 = .ok (.iconst 1, 1) := by decide +kernel
theorem dX10_mayBegin_32 : decode cX10_mayBegin 32 = .ok (.goto 19, 3) := by decide +kernel
theorem dX10_mayBegin_35 : decode cX10_mayBegin 35 = .ok (.iconst 0, 1) := by decide +kernel
theorem dX10_mayBegin_36 : decode cX10_mayBegin 36 = .ok (.goto 15, 3) := by decide +kernel
theorem dX10_mayBegin_39 : decode cX10_mayBegin 39 = .ok (.aload_n 0, 1) := by decide +kernel
theorem dX10_mayBegin_40 : decode cX10_mayBegin 40 = .ok (.getfield 110, 3) := by decide +kernel
theorem dX10_mayBegin_43 : decode cX10_mayBegin 43 = .ok (.ifCond .ne 7, 3) := by decide +kernel
theorem dX10_mayBegin_46 : decode cX10_mayBegin 46 = .ok (.iconst 1, 1) := by decide +kernel
theorem dX10_mayBegin_47 : decode cX10_mayBegin 47 = .ok (.goto 4, 3) := by decide +kernel
theorem dX10_mayBegin_50 : decode cX10_mayBegin 50 = .ok (.iconst 0, 1) := by decide +kernel
theorem dX10_mayBegin_51 : decode cX10_mayBegin 51 = .ok (.ireturn, 1) := by decide +kernel
theorem dX10_mayBegin_52 : decode cX10_mayBegin 52 = .ok (.aload_n 0, 1) := by decide +kernel
theorem dX10_mayBegin_53 : decode cX10_mayBegin 53 = .ok (.getfield 89, 3) := by decide +kernel
theorem dX10_mayBegin_56 : decode cX10_mayBegin 56 = .ok (.bipush 100, 2) := by decide +kernel
theorem dX10_mayBegin_58 : decode cX10_mayBegin 58 = .ok (.if_icmp .ne 22, 3) := by decide +kernel
theorem dX10_mayBegin_61 : decode cX10_mayBegin 61 = .ok (.aload_n 0, 1) := by decide +kernel
theorem dX10_mayBegin_62 : decode cX10_mayBegin 62 = .ok (.getfield 13, 3) := by decide +kernel
theorem dX10_mayBegin_65 : decode cX10_mayBegin 65 = .ok (.iconst 5, 1) := by decide +kernel
theorem dX10_mayBegin_66 : decode cX10_mayBegin 66 = .ok (.iaload, 1) := by decide +kernel
theorem dX10_mayBegin_67 : decode cX10_mayBegin 67 = .ok (.bipush 8, 2) := by decide +kernel
theorem dX10_mayBegin_69 : decode cX10_mayBegin 69 = .ok (.if_icmp .ge 7, 3) := by decide +kernel
theorem dX10_mayBegin_72 : decode cX10_mayBegin 72 = .ok (.iconst 1, 1) := by decide +kernel
theorem dX10_mayBegin_73 : decode cX10_mayBegin 73 = .ok (.goto 23, 3) := by decide +kernel
theorem dX10_mayBegin_76 : decode cX10_mayBegin 76 = .ok (.iconst 0, 1) := by decide +kernel
theorem dX10_mayBegin_77 : decode cX10_mayBegin 77 = .ok (.goto 19, 3) := by decide +kernel
theorem dX10_mayBegin_80 : decode cX10_mayBegin 80 = .ok (.aload_n 0, 1) := by decide +kernel
theorem dX10_mayBegin_81 : decode cX10_mayBegin 81 = .ok (.getfield 13, 3) := by decide +kernel
theorem dX10_mayBegin_84 : decode cX10_mayBegin 84 = .ok (.bipush 6, 2) := by decide +kernel
theorem dX10_mayBegin_86 : decode cX10_mayBegin 86 = .ok (.iaload, 1) := by decide +kernel
theorem dX10_mayBegin_87 : decode cX10_mayBegin 87 = .ok (.iconst 5, 1) := by decide +kernel
theorem dX10_mayBegin_88 : decode cX10_mayBegin 88 = .ok (.if_icmp .ge 7, 3) := by decide +kernel
theorem dX10_mayBegin_91 : decode cX10_mayBegin 91 = .ok (.iconst 1, 1) := by decide +kernel
theorem dX10_mayBegin_92 : decode cX10_mayBegin 92 = .ok (.goto 4, 3) := by decide +kernel
theorem dX10_mayBegin_95 : decode cX10_mayBegin 95 = .ok (.iconst 0, 1) := by decide +kernel
theorem dX10_mayBegin_96 : decode cX10_mayBegin 96 = .ok (.ireturn, 1) := by decide +kernel
abbrev rX10_mayBegin : Room := { frames := 0, cells := 0, slots := 0, locals := 0 }
set_option maxHeartbeats 4000000 in
set_option maxRecDepth 100000 in
theorem w_X10_mayBegin_18 {p : Program} {l : Launch} {e : Env} {s : State} {m : MethodId} {args : Array Value} {below : List Frame} {meth : Method} {c : Code} {D : va_G} {b : Nat} {cs : Cs3} {r : Int32} {S1 : St} (hC : CX p s m args meth c RX10 cX10_mayBegin 2 D cs) (hr : meth.sig.returnType = (some .boolean)) : ∀ (x1 : Int32) (S : St) (H : Heap) (locs : List Loc) (ls : Array Slot), q_X10_mayBegin_18 x1 S = some (r, S1) → Wd D b cs S H → va_S (AA b) s.heap H locs → lv_has ls 2 [(0, .ref (b + 99)), (1, .int x1)] → W p l e rX10_mayBegin s m args below meth c H locs 0 0 (MQ below (QX D b cs (some (.int r)) S1) args s 0 0 (AA b)) (F0 m 18 ls []) := by
  intro x1 S H locs ls h hW hS hl
  rw [q_X10_mayBegin_18] at h
  refine lv_aload_n hC.1 hC.2.1 dX10_mayBegin_18 rfl (lv_at hl 0 rfl) ?_
  refine x_get (C := RX10) (T := TX10) (N := 27) (v := _) hC hW 99 (by decide) rfl rfl uX10 7 (by decide) fl_X10_89 rfl rfl dX10_mayBegin_19 ?_
  refine lv_bipush (v := 110) hC.1 hC.2.1 dX10_mayBegin_22 (by decide) ?_
  refine lv_icmp_ne (tgt := 39) hC.1 hC.2.1 dX10_mayBegin_24 (by decide) (fun hc => ?_) (fun hc => ?_)
  · replace h := xf hc h
    refine lv_aload_n hC.1 hC.2.1 dX10_mayBegin_39 rfl (lv_at hl 0 rfl) ?_
    refine x_get (C := RX10) (T := TX10) (N := 27) (v := _) hC hW 99 (by decide) rfl rfl uX10 9 (by decide) fl_X10_110 rfl rfl dX10_mayBegin_40 ?_
    refine lv_if_ne (tgt := 50) hC.1 hC.2.1 dX10_mayBegin_43 (by decide) (fun hc => ?_) (fun hc => ?_)
    · replace h := xf hc h
      refine lv_iconst (v := 0) hC.1 hC.2.1 dX10_mayBegin_50 (by decide) ?_
      obtain ⟨rfl, rfl⟩ := xr h
      exact x_zret hC hr hW hS (Or.inl rfl) dX10_mayBegin_51
    · replace h := xt hc h
      refine lv_iconst (v := 1) hC.1 hC.2.1 dX10_mayBegin_46 (by decide) ?_
      refine lv_goto (tgt := 51) hC.1 hC.2.1 dX10_mayBegin_47 (by decide) ?_
      obtain ⟨rfl, rfl⟩ := xr h
      exact x_zret hC hr hW hS (Or.inr rfl) dX10_mayBegin_51
  · replace h := xt hc h
    refine lv_iload_n hC.1 hC.2.1 dX10_mayBegin_27 rfl (lv_at hl 1 rfl) ?_
    refine lv_if_ne (tgt := 35) hC.1 hC.2.1 dX10_mayBegin_28 (by decide) (fun hc => ?_) (fun hc => ?_)
    · replace h := xf hc h
      refine lv_iconst (v := 0) hC.1 hC.2.1 dX10_mayBegin_35 (by decide) ?_
      refine lv_goto (tgt := 51) hC.1 hC.2.1 dX10_mayBegin_36 (by decide) ?_
      obtain ⟨rfl, rfl⟩ := xr h
      exact x_zret hC hr hW hS (Or.inl rfl) dX10_mayBegin_51
    · replace h := xt hc h
      refine lv_iconst (v := 1) hC.1 hC.2.1 dX10_mayBegin_31 (by decide) ?_
      refine lv_goto (tgt := 51) hC.1 hC.2.1 dX10_mayBegin_32 (by decide) ?_
      obtain ⟨rfl, rfl⟩ := xr h
      exact x_zret hC hr hW hS (Or.inr rfl) dX10_mayBegin_51
set_option maxHeartbeats 4000000 in
set_option maxRecDepth 100000 in
theorem c_X10_mayBegin (l : Launch) (D : va_G) (b : Nat) (cs : Cs3) (x1 : Int32) (S S1 : St) (r : Int32) (h : p_X10_mayBegin x1 S = some (r, S1)) : Ct l yX10_mayBegin cX10_mayBegin 2 (some .boolean) rX10_mayBegin D b cs [.ref (b + 99), .int x1] S (some (.int r)) S1 := by
  refine x_met (by decide +kernel) (Nat.le_of_ble_eq_true rfl) ?_
  intro p e s m below meth c ls hC hr hW hS hl
  have hl : lv_has ls 2 [(0, .ref (b + 99)), (1, .int x1)] := hl
  rw [p_X10_mayBegin] at h
  refine lv_aload_n hC.1 hC.2.1 dX10_mayBegin_0 rfl (lv_at hl 0 rfl) ?_
  refine x_get (C := RX10) (T := TX10) (N := 27) (v := _) hC hW 99 (by decide) rfl rfl uX10 7 (by decide) fl_X10_89 rfl rfl dX10_mayBegin_1 ?_
  refine lv_bipush (v := 110) hC.1 hC.2.1 dX10_mayBegin_4 (by decide) ?_
  refine lv_icmp_eq (tgt := 18) hC.1 hC.2.1 dX10_mayBegin_6 (by decide) (fun hc => ?_) (fun hc => ?_)
  · replace h := xt hc h
    exact w_X10_mayBegin_18 hC hr _ _ _ _ _ h hW hS (lv_sub hl [0, 1] rfl)
  · replace h := xf hc h
    refine lv_aload_n hC.1 hC.2.1 dX10_mayBegin_9 rfl (lv_at hl 0 rfl) ?_
    refine x_get (C := RX10) (T := TX10) (N := 27) (v := _) hC hW 99 (by decide) rfl rfl uX10 7 (by decide) fl_X10_89 rfl rfl dX10_mayBegin_10 ?_
    refine lv_bipush (v := 115) hC.1 hC.2.1 dX10_mayBegin_13 (by decide) ?_
    refine lv_icmp_ne (tgt := 52) hC.1 hC.2.1 dX10_mayBegin_15 (by decide) (fun hc => ?_) (fun hc => ?_)
    · replace h := xf hc h
      refine lv_aload_n hC.1 hC.2.1 dX10_mayBegin_52 rfl (lv_at hl 0 rfl) ?_
      refine x_get (C := RX10) (T := TX10) (N := 27) (v := _) hC hW 99 (by decide) rfl rfl uX10 7 (by decide) fl_X10_89 rfl rfl dX10_mayBegin_53 ?_
      refine lv_bipush (v := 100) hC.1 hC.2.1 dX10_mayBegin_56 (by decide) ?_
      refine lv_icmp_ne (tgt := 80) hC.1 hC.2.1 dX10_mayBegin_58 (by decide) (fun hc => ?_) (fun hc => ?_)
      · replace h := xf hc h
        refine lv_aload_n hC.1 hC.2.1 dX10_mayBegin_80 rfl (lv_at hl 0 rfl) ?_
        refine x_get (C := RX10) (T := TX10) (N := 27) (v := _) hC hW 99 (by decide) rfl rfl uX10 10 (by decide) fl_X10_13 rfl rfl dX10_mayBegin_81 ?_
        refine lv_bipush (v := 6) hC.1 hC.2.1 dX10_mayBegin_84 (by decide) ?_
        obtain ⟨hi, h⟩ := xg h
        refine x_iald hC hW 101 (by decide) rfl hi dX10_mayBegin_86 ?_
        refine lv_iconst (v := 5) hC.1 hC.2.1 dX10_mayBegin_87 (by decide) ?_
        refine lv_icmp_ge (tgt := 95) hC.1 hC.2.1 dX10_mayBegin_88 (by decide) (fun hc => ?_) (fun hc => ?_)
        · replace h := xt hc h
          refine lv_iconst (v := 0) hC.1 hC.2.1 dX10_mayBegin_95 (by decide) ?_
          obtain ⟨rfl, rfl⟩ := xr h
          exact x_zret hC hr hW hS (Or.inl rfl) dX10_mayBegin_96
        · replace h := xf hc h
          refine lv_iconst (v := 1) hC.1 hC.2.1 dX10_mayBegin_91 (by decide) ?_
          refine lv_goto (tgt := 96) hC.1 hC.2.1 dX10_mayBegin_92 (by decide) ?_
          obtain ⟨rfl, rfl⟩ := xr h
          exact x_zret hC hr hW hS (Or.inr rfl) dX10_mayBegin_96
      · replace h := xt hc h
        refine lv_aload_n hC.1 hC.2.1 dX10_mayBegin_61 rfl (lv_at hl 0 rfl) ?_
        refine x_get (C := RX10) (T := TX10) (N := 27) (v := _) hC hW 99 (by decide) rfl rfl uX10 10 (by decide) fl_X10_13 rfl rfl dX10_mayBegin_62 ?_
        refine lv_iconst (v := 5) hC.1 hC.2.1 dX10_mayBegin_65 (by decide) ?_
        obtain ⟨hi, h⟩ := xg h
        refine x_iald hC hW 101 (by decide) rfl hi dX10_mayBegin_66 ?_
        refine lv_bipush (v := 8) hC.1 hC.2.1 dX10_mayBegin_67 (by decide) ?_
        refine lv_icmp_ge (tgt := 76) hC.1 hC.2.1 dX10_mayBegin_69 (by decide) (fun hc => ?_) (fun hc => ?_)
        · replace h := xt hc h
          refine lv_iconst (v := 0) hC.1 hC.2.1 dX10_mayBegin_76 (by decide) ?_
          refine lv_goto (tgt := 96) hC.1 hC.2.1 dX10_mayBegin_77 (by decide) ?_
          obtain ⟨rfl, rfl⟩ := xr h
          exact x_zret hC hr hW hS (Or.inl rfl) dX10_mayBegin_96
        · replace h := xf hc h
          refine lv_iconst (v := 1) hC.1 hC.2.1 dX10_mayBegin_72 (by decide) ?_
          refine lv_goto (tgt := 96) hC.1 hC.2.1 dX10_mayBegin_73 (by decide) ?_
          obtain ⟨rfl, rfl⟩ := xr h
          exact x_zret hC hr hW hS (Or.inr rfl) dX10_mayBegin_96
    · replace h := xt hc h
      exact w_X10_mayBegin_18 hC hr _ _ _ _ _ h hW hS (lv_sub hl [0, 1] rfl)
