-- walks: X7_readNumber X7_readBoy X7_readDoor X7_readPlaces X7_readStep X7_readItem X7_readInto X8_beginsIn X9_type X9_clear X9_city X9_isDoor X9_door X9_isBoy
theorem dX7_readNumber_0 : decode cX7_readNumber 0 = .ok (.aload_n 0, 1) := by decide +kernel
theorem dX7_readNumber_1 : decode cX7_readNumber 1 = .ok (.invokevirtual 40, 3) := by decide +kernel
theorem dX7_readNumber_4 : decode cX7_readNumber 4 = .ok (.aload_n 0, 1) := by decide +kernel
theorem dX7_readNumber_5 : decode cX7_readNumber 5 = .ok (.getfield 25, 3) := by decide +kernel
theorem dX7_readNumber_8 : decode cX7_readNumber 8 = .ok (.bipush (-2), 2) := by decide +kernel
theorem dX7_readNumber_10 : decode cX7_readNumber 10 = .ok (.if_icmp .ne 19, 3) := by decide +kernel
theorem dX7_readNumber_13 : decode cX7_readNumber 13 = .ok (.aload_n 0, 1) := by decide +kernel
theorem dX7_readNumber_14 : decode cX7_readNumber 14 = .ok (.getfield 28, 3) := by decide +kernel
theorem dX7_readNumber_17 : decode cX7_readNumber 17 = .ok (.iload_n 1, 1) := by decide +kernel
theorem dX7_readNumber_18 : decode cX7_readNumber 18 = .ok (.iload_n 2, 1) := by decide +kernel
theorem dX7_readNumber_19 : decode cX7_readNumber 19 = .ok (.invokestatic 104, 3) := by decide +kernel
theorem dX7_readNumber_22 : decode cX7_readNumber 22 = .ok (.ifCond .eq 7, 3) := by decide +kernel
theorem dX7_readNumber_25 : decode cX7_readNumber 25 = .ok (.iconst 1, 1) := by decide +kernel
theorem dX7_readNumber_26 : decode cX7_readNumber 26 = .ok (.goto 4, 3) := by decide +kernel
theorem dX7_readNumber_29 : decode cX7_readNumber 29 = .ok (.iconst 0, 1) := by decide +kernel
theorem dX7_readNumber_30 : decode cX7_readNumber 30 = .ok (.ireturn, 1) := by decide +kernel
abbrev rX7_readNumber : Room := { frames := 2, cells := 0, slots := 0, locals := 43 }
set_option maxHeartbeats 4000000 in
set_option maxRecDepth 100000 in
theorem c_X7_readNumber (l : Launch) (D : va_G) (b : Nat) (cs : Cs3) (x1 : Int32) (x2 : Int32) (S S1 : St) (r : Int32) (h : p_X7_readNumber x1 x2 S = some (r, S1)) : Ct l yX7_readNumber cX7_readNumber 3 (some .boolean) rX7_readNumber D b cs [.ref (b + 1), .int x1, .int x2] S (some (.int r)) S1 := by
  refine x_met (by decide +kernel) (Nat.le_of_ble_eq_true rfl) ?_
  intro p e s m below meth c ls hC hr hW hS hl
  have hl : lv_has ls 3 [(0, .ref (b + 1)), (1, .int x1), (2, .int x2)] := hl
  rw [p_X7_readNumber] at h
  refine lv_aload_n hC.1 hC.2.1 dX7_readNumber_0 rfl (lv_at hl 0 rfl) ?_
  obtain ⟨q1, hq, h⟩ := xb h
  try dsimp only at h
  refine x_callV (T := TX7) (N := 7) (As := []) (rest := []) hC hW hS 1 (c_X7_readToken l D b cs _ _ hq) (by decide) rfl rfl mi_X7_readToken in_X7_readToken sl_X7_readToken ml_X7_40 ⟨rfl, rfl⟩ ⟨Nat.le_of_ble_eq_true rfl, Nat.le_of_ble_eq_true rfl⟩ ⟨Nat.zero_le _, Nat.zero_le _⟩ rfl rfl hl.1 (Nat.le_of_ble_eq_true rfl) dX7_readNumber_1 (fun H locs hW hS => ?_)
  refine lv_aload_n hC.1 hC.2.1 dX7_readNumber_4 rfl (lv_at hl 0 rfl) ?_
  refine x_get (C := RX7) (T := TX7) (N := 7) (v := _) hC hW 1 (by decide) rfl rfl uX7 4 (by decide) fl_X7_25 rfl rfl dX7_readNumber_5 ?_
  refine lv_bipush (v := -2) hC.1 hC.2.1 dX7_readNumber_8 (by decide) ?_
  refine lv_icmp_ne (tgt := 29) hC.1 hC.2.1 dX7_readNumber_10 (by decide) (fun hc => ?_) (fun hc => ?_)
  · replace h := xf hc h
    refine lv_iconst (v := 0) hC.1 hC.2.1 dX7_readNumber_29 (by decide) ?_
    obtain ⟨rfl, rfl⟩ := xr h
    exact x_zret hC hr hW hS (Or.inl rfl) dX7_readNumber_30
  · replace h := xt hc h
    refine lv_aload_n hC.1 hC.2.1 dX7_readNumber_13 rfl (lv_at hl 0 rfl) ?_
    refine x_get (C := RX7) (T := TX7) (N := 7) (v := _) hC hW 1 (by decide) rfl rfl uX7 5 (by decide) fl_X7_28 rfl rfl dX7_readNumber_14 ?_
    refine lv_iload_n hC.1 hC.2.1 dX7_readNumber_17 rfl (lv_at hl 1 rfl) ?_
    refine lv_iload_n hC.1 hC.2.1 dX7_readNumber_18 rfl (lv_at hl 2 rfl) ?_
    obtain ⟨⟨q19_r, q19_S⟩, hq, h⟩ := xb h
    try dsimp only at h
    refine x_callSN (As := [.int (q1.1 1 5), .int x1, .int x2]) (rest := []) hC hW hS (c_X9_within l D b cs _ _ _ _ _ _ hq) mi_X9_within st_X9_within ml_X7_104 ⟨rfl, rfl⟩ ⟨Nat.le_of_ble_eq_true rfl, Nat.le_of_ble_eq_true rfl⟩ ⟨Nat.zero_le _, Nat.zero_le _⟩ rfl rfl hl.1 (Nat.le_of_ble_eq_true rfl) dX7_readNumber_19 (fun H locs hW hS => ?_)
    refine lv_if_eq (tgt := 29) hC.1 hC.2.1 dX7_readNumber_22 (by decide) (fun hc => ?_) (fun hc => ?_)
    · replace h := xt hc h
      refine lv_iconst (v := 0) hC.1 hC.2.1 dX7_readNumber_29 (by decide) ?_
      obtain ⟨rfl, rfl⟩ := xr h
      exact x_zret hC hr hW hS (Or.inl rfl) dX7_readNumber_30
    · replace h := xf hc h
      refine lv_iconst (v := 1) hC.1 hC.2.1 dX7_readNumber_25 (by decide) ?_
      refine lv_goto (tgt := 30) hC.1 hC.2.1 dX7_readNumber_26 (by decide) ?_
      obtain ⟨rfl, rfl⟩ := xr h
      exact x_zret hC hr hW hS (Or.inr rfl) dX7_readNumber_30
theorem dX7_readBoy_0 : decode cX7_readBoy 0 = .ok (.aload_n 1, 1) := by decide +kernel
theorem dX7_readBoy_1 : decode cX7_readBoy 1 = .ok (.getfield 57, 3) := by decide +kernel
theorem dX7_readBoy_4 : decode cX7_readBoy 4 = .ok (.istore_n 2, 1) := by decide +kernel
theorem dX7_readBoy_5 : decode cX7_readBoy 5 = .ok (.aload_n 0, 1) := by decide +kernel
theorem dX7_readBoy_6 : decode cX7_readBoy 6 = .ok (.iconst 0, 1) := by decide +kernel
theorem dX7_readBoy_7 : decode cX7_readBoy 7 = .ok (.bipush 40, 2) := by decide +kernel
theorem dX7_readBoy_9 : decode cX7_readBoy 9 = .ok (.invokevirtual 66, 3) := by decide +kernel
theorem dX7_readBoy_12 : decode cX7_readBoy 12 = .ok (.ifCond .ne 5, 3) := by decide +kernel
theorem dX7_readBoy_15 : decode cX7_readBoy 15 = .ok (.iconst 0, 1) := by decide +kernel
theorem dX7_readBoy_16 : decode cX7_readBoy 16 = .ok (.ireturn, 1) := by decide +kernel
theorem dX7_readBoy_17 : decode cX7_readBoy 17 = .ok (.aload_n 1, 1) := by decide +kernel
theorem dX7_readBoy_18 : decode cX7_readBoy 18 = .ok (.getfield 86, 3) := by decide +kernel
theorem dX7_readBoy_21 : decode cX7_readBoy 21 = .ok (.iload_n 2, 1) := by decide +kernel
theorem dX7_readBoy_22 : decode cX7_readBoy 22 = .ok (.aload_n 0, 1) := by decide +kernel
theorem dX7_readBoy_23 : decode cX7_readBoy 23 = .ok (.getfield 28, 3) := by decide +kernel
theorem dX7_readBoy_26 : decode cX7_readBoy 26 = .ok (.iastore, 1) := by decide +kernel
theorem dX7_readBoy_27 : decode cX7_readBoy 27 = .ok (.aload_n 0, 1) := by decide +kernel
theorem dX7_readBoy_28 : decode cX7_readBoy 28 = .ok (.aload_n 1, 1) := by decide +kernel
theorem dX7_readBoy_29 : decode cX7_readBoy 29 = .ok (.getfield 86, 3) := by decide +kernel
theorem dX7_readBoy_32 : decode cX7_readBoy 32 = .ok (.iload_n 2, 1) := by decide +kernel
theorem dX7_readBoy_33 : decode cX7_readBoy 33 = .ok (.iaload, 1) := by decide +kernel
theorem dX7_readBoy_34 : decode cX7_readBoy 34 = .ok (.bipush 40, 2) := by decide +kernel
theorem dX7_readBoy_36 : decode cX7_readBoy 36 = .ok (.invokevirtual 66, 3) := by decide +kernel
theorem dX7_readBoy_39 : decode cX7_readBoy 39 = .ok (.ifCond .ne 5, 3) := by decide +kernel
theorem dX7_readBoy_42 : decode cX7_readBoy 42 = .ok (.iconst 0, 1) := by decide +kernel
theorem dX7_readBoy_43 : decode cX7_readBoy 43 = .ok (.ireturn, 1) := by decide +kernel
theorem dX7_readBoy_44 : decode cX7_readBoy 44 = .ok (.aload_n 1, 1) := by decide +kernel
theorem dX7_readBoy_45 : decode cX7_readBoy 45 = .ok (.getfield 89, 3) := by decide +kernel
theorem dX7_readBoy_48 : decode cX7_readBoy 48 = .ok (.iload_n 2, 1) := by decide +kernel
theorem dX7_readBoy_49 : decode cX7_readBoy 49 = .ok (.aload_n 0, 1) := by decide +kernel
theorem dX7_readBoy_50 : decode cX7_readBoy 50 = .ok (.getfield 28, 3) := by decide +kernel
theorem dX7_readBoy_53 : decode cX7_readBoy 53 = .ok (.iastore, 1) := by decide +kernel
theorem dX7_readBoy_54 : decode cX7_readBoy 54 = .ok (.aload_n 0, 1) := by decide +kernel
theorem dX7_readBoy_55 : decode cX7_readBoy 55 = .ok (.bipush 7, 2) := by decide +kernel
theorem dX7_readBoy_57 : decode cX7_readBoy 57 = .ok (.bipush 20, 2) := by decide +kernel
theorem dX7_readBoy_59 : decode cX7_readBoy 59 = .ok (.invokevirtual 66, 3) := by decide +kernel
theorem dX7_readBoy_62 : decode cX7_readBoy 62 = .ok (.ifCond .ne 5, 3) := by decide +kernel
theorem dX7_readBoy_65 : decode cX7_readBoy 65 = .ok (.iconst 0, 1) := by decide +kernel
theorem dX7_readBoy_66 : decode cX7_readBoy 66 = .ok (.ireturn, 1) := by decide +kernel
theorem dX7_readBoy_67 : decode cX7_readBoy 67 = .ok (.aload_n 1, 1) := by decide +kernel
theorem dX7_readBoy_68 : decode cX7_readBoy 68 = .ok (.getfield 92, 3) := by decide +kernel
theorem dX7_readBoy_71 : decode cX7_readBoy 71 = .ok (.iload_n 2, 1) := by decide +kernel
theorem dX7_readBoy_72 : decode cX7_readBoy 72 = .ok (.aload_n 0, 1) := by decide +kernel
theorem dX7_readBoy_73 : decode cX7_readBoy 73 = .ok (.getfield 28, 3) := by decide +kernel
theorem dX7_readBoy_76 : decode cX7_readBoy 76 = .ok (.iastore, 1) := by decide +kernel
theorem dX7_readBoy_77 : decode cX7_readBoy 77 = .ok (.aload_n 0, 1) := by decide +kernel
theorem dX7_readBoy_78 : decode cX7_readBoy 78 = .ok (.bipush 7, 2) := by decide +kernel
theorem dX7_readBoy_80 : decode cX7_readBoy 80 = .ok (.bipush 20, 2) := by decide +kernel
theorem dX7_readBoy_82 : decode cX7_readBoy 82 = .ok (.invokevirtual 66, 3) := by decide +kernel
theorem dX7_readBoy_85 : decode cX7_readBoy 85 = .ok (.ifCond .ne 5, 3) := by decide +kernel
theorem dX7_readBoy_88 : decode cX7_readBoy 88 = .ok (.iconst 0, 1) := by decide +kernel
theorem dX7_readBoy_89 : decode cX7_readBoy 89 = .ok (.ireturn, 1) := by decide +kernel
theorem dX7_readBoy_90 : decode cX7_readBoy 90 = .ok (.aload_n 1, 1) := by decide +kernel
theorem dX7_readBoy_91 : decode cX7_readBoy 91 = .ok (.getfield 95, 3) := by decide +kernel
theorem dX7_readBoy_94 : decode cX7_readBoy 94 = .ok (.iload_n 2, 1) := by decide +kernel
theorem dX7_readBoy_95 : decode cX7_readBoy 95 = .ok (.aload_n 0, 1) := by decide +kernel
theorem dX7_readBoy_96 : decode cX7_readBoy 96 = .ok (.getfield 28, 3) := by decide +kernel
theorem dX7_readBoy_99 : decode cX7_readBoy 99 = .ok (.iastore, 1) := by decide +kernel
theorem dX7_readBoy_100 : decode cX7_readBoy 100 = .ok (.aload_n 0, 1) := by decide +kernel
theorem dX7_readBoy_101 : decode cX7_readBoy 101 = .ok (.iconst 0, 1) := by decide +kernel
theorem dX7_readBoy_102 : decode cX7_readBoy 102 = .ok (.aload_n 1, 1) := by decide +kernel
theorem dX7_readBoy_103 : decode cX7_readBoy 103 = .ok (.getfield 70, 3) := by decide +kernel
theorem dX7_readBoy_106 : decode cX7_readBoy 106 = .ok (.iconst 1, 1) := by decide +kernel
theorem dX7_readBoy_107 : decode cX7_readBoy 107 = .ok (.isub, 1) := by decide +kernel
theorem dX7_readBoy_108 : decode cX7_readBoy 108 = .ok (.invokevirtual 66, 3) := by decide +kernel
theorem dX7_readBoy_111 : decode cX7_readBoy 111 = .ok (.ifCond .ne 5, 3) := by decide +kernel
theorem dX7_readBoy_114 : decode cX7_readBoy 114 = .ok (.iconst 0, 1) := by decide +kernel
theorem dX7_readBoy_115 : decode cX7_readBoy 115 = .ok (.ireturn, 1) := by decide +kernel
theorem dX7_readBoy_116 : decode cX7_readBoy 116 = .ok (.aload_n 1, 1) := by decide +kernel
theorem dX7_readBoy_117 : decode cX7_readBoy 117 = .ok (.getfield 98, 3) := by decide +kernel
theorem dX7_readBoy_120 : decode cX7_readBoy 120 = .ok (.iload_n 2, 1) := by decide +kernel
theorem dX7_readBoy_121 : decode cX7_readBoy 121 = .ok (.aload_n 0, 1) := by decide +kernel
theorem dX7_readBoy_122 : decode cX7_readBoy 122 = .ok (.getfield 28, 3) := by decide +kernel
theorem dX7_readBoy_125 : decode cX7_readBoy 125 = .ok (.iastore, 1) := by decide +kernel
theorem dX7_readBoy_126 : decode cX7_readBoy 126 = .ok (.aload_n 1, 1) := by decide +kernel
theorem dX7_readBoy_127 : decode cX7_readBoy 127 = .ok (.dup, 1) := by decide +kernel
theorem dX7_readBoy_128 : decode cX7_readBoy 128 = .ok (.getfield 57, 3) := by decide +kernel
theorem dX7_readBoy_131 : decode cX7_readBoy 131 = .ok (.iconst 1, 1) := by decide +kernel
theorem dX7_readBoy_132 : decode cX7_readBoy 132 = .ok (.iadd, 1) := by decide +kernel
theorem dX7_readBoy_133 : decode cX7_readBoy 133 = .ok (.putfield 57, 3) := by decide +kernel
theorem dX7_readBoy_136 : decode cX7_readBoy 136 = .ok (.aload_n 0, 1) := by decide +kernel
theorem dX7_readBoy_137 : decode cX7_readBoy 137 = .ok (.invokevirtual 73, 3) := by decide +kernel
theorem dX7_readBoy_140 : decode cX7_readBoy 140 = .ok (.ireturn, 1) := by decide +kernel
abbrev rX7_readBoy : Room := { frames := 3, cells := 0, slots := 0, locals := 65 }
set_option maxHeartbeats 4000000 in
set_option maxRecDepth 100000 in
theorem c_X7_readBoy (l : Launch) (D : va_G) (b : Nat) (cs : Cs3) (S S1 : St) (r : Int32) (h : p_X7_readBoy S = some (r, S1)) : Ct l yX7_readBoy cX7_readBoy 3 (some .boolean) rX7_readBoy D b cs [.ref (b + 1), .ref (b + 12)] S (some (.int r)) S1 := by
  refine x_met (by decide +kernel) (Nat.le_of_ble_eq_true rfl) ?_
  intro p e s m below meth c ls hC hr hW hS hl
  have hl : lv_has ls 3 [(0, .ref (b + 1)), (1, .ref (b + 12))] := hl
  rw [p_X7_readBoy] at h
  refine lv_aload_n hC.1 hC.2.1 dX7_readBoy_0 rfl (lv_at hl 1 rfl) ?_
  refine x_get (C := RX2) (T := TX2) (N := 12) (v := _) hC hW 12 (by decide) rfl rfl uX2 2 (by decide) fl_X7_57 rfl rfl dX7_readBoy_1 ?_
  refine lv_istore_n (lv' := [(2, .int (S.1 12 2)), (0, .ref (b + 1)), (1, .ref (b + 12))]) hC.1 hC.2.1 dX7_readBoy_4 rfl hl (by decide) rfl (fun ls hl => ?_)
  refine lv_aload_n hC.1 hC.2.1 dX7_readBoy_5 rfl (lv_at hl 1 rfl) ?_
  refine lv_iconst (v := 0) hC.1 hC.2.1 dX7_readBoy_6 (by decide) ?_
  refine lv_bipush (v := 40) hC.1 hC.2.1 dX7_readBoy_7 (by decide) ?_
  obtain ⟨⟨q9_r, q9_S⟩, hq, h⟩ := xb h
  try dsimp only at h
  refine x_callV (T := TX7) (N := 7) (As := [.int (0 : Int32), .int (40 : Int32)]) (rest := []) hC hW hS 1 (c_X7_readNumber l D b cs _ _ _ _ _ hq) (by decide) rfl rfl mi_X7_readNumber in_X7_readNumber sl_X7_readNumber ml_X7_66 ⟨rfl, rfl⟩ ⟨Nat.le_of_ble_eq_true rfl, Nat.le_of_ble_eq_true rfl⟩ ⟨Nat.zero_le _, Nat.zero_le _⟩ rfl rfl hl.1 (Nat.le_of_ble_eq_true rfl) dX7_readBoy_9 (fun H locs hW hS => ?_)
  refine lv_if_ne (tgt := 17) hC.1 hC.2.1 dX7_readBoy_12 (by decide) (fun hc => ?_) (fun hc => ?_)
  · replace h := xf hc h
    refine lv_aload_n hC.1 hC.2.1 dX7_readBoy_17 rfl (lv_at hl 2 rfl) ?_
    refine x_get (C := RX2) (T := TX2) (N := 12) (v := _) hC hW 12 (by decide) rfl rfl uX2 7 (by decide) fl_X7_86 rfl rfl dX7_readBoy_18 ?_
    refine lv_iload_n hC.1 hC.2.1 dX7_readBoy_21 rfl (lv_at hl 0 rfl) ?_
    refine lv_aload_n hC.1 hC.2.1 dX7_readBoy_22 rfl (lv_at hl 1 rfl) ?_
    refine x_get (C := RX7) (T := TX7) (N := 7) (v := _) hC hW 1 (by decide) rfl rfl uX7 5 (by decide) fl_X7_28 rfl rfl dX7_readBoy_23 ?_
    obtain ⟨hi, h⟩ := xg h
    refine x_iast hC hW hS 16 (by decide) rfl hi dX7_readBoy_26 (fun H locs hW hS => ?_)
    refine lv_aload_n hC.1 hC.2.1 dX7_readBoy_27 rfl (lv_at hl 1 rfl) ?_
    refine lv_aload_n hC.1 hC.2.1 dX7_readBoy_28 rfl (lv_at hl 2 rfl) ?_
    refine x_get (C := RX2) (T := TX2) (N := 12) (v := _) hC hW 12 (by decide) rfl rfl uX2 7 (by decide) fl_X7_86 rfl rfl dX7_readBoy_29 ?_
    refine lv_iload_n hC.1 hC.2.1 dX7_readBoy_32 rfl (lv_at hl 0 rfl) ?_
    obtain ⟨hi, h⟩ := xg h
    refine x_iald hC hW 16 (by decide) rfl hi dX7_readBoy_33 ?_
    refine lv_bipush (v := 40) hC.1 hC.2.1 dX7_readBoy_34 (by decide) ?_
    obtain ⟨⟨q36_r, q36_S⟩, hq, h⟩ := xb h
    try dsimp only at h
    refine x_callV (T := TX7) (N := 7) (As := [.int ((sI q9_S 16 (S.1 12 2).toNatClampNeg (q9_S.1 1 5)).1 16 (S.1 12 2).toNatClampNeg), .int (40 : Int32)]) (rest := []) hC hW hS 1 (c_X7_readNumber l D b cs _ _ _ _ _ hq) (by decide) rfl rfl mi_X7_readNumber in_X7_readNumber sl_X7_readNumber ml_X7_66 ⟨rfl, rfl⟩ ⟨Nat.le_of_ble_eq_true rfl, Nat.le_of_ble_eq_true rfl⟩ ⟨Nat.zero_le _, Nat.zero_le _⟩ rfl rfl hl.1 (Nat.le_of_ble_eq_true rfl) dX7_readBoy_36 (fun H locs hW hS => ?_)
    refine lv_if_ne (tgt := 44) hC.1 hC.2.1 dX7_readBoy_39 (by decide) (fun hc => ?_) (fun hc => ?_)
    · replace h := xf hc h
      refine lv_aload_n hC.1 hC.2.1 dX7_readBoy_44 rfl (lv_at hl 2 rfl) ?_
      refine x_get (C := RX2) (T := TX2) (N := 12) (v := _) hC hW 12 (by decide) rfl rfl uX2 8 (by decide) fl_X7_89 rfl rfl dX7_readBoy_45 ?_
      refine lv_iload_n hC.1 hC.2.1 dX7_readBoy_48 rfl (lv_at hl 0 rfl) ?_
      refine lv_aload_n hC.1 hC.2.1 dX7_readBoy_49 rfl (lv_at hl 1 rfl) ?_
      refine x_get (C := RX7) (T := TX7) (N := 7) (v := _) hC hW 1 (by decide) rfl rfl uX7 5 (by decide) fl_X7_28 rfl rfl dX7_readBoy_50 ?_
      obtain ⟨hi, h⟩ := xg h
      refine x_iast hC hW hS 17 (by decide) rfl hi dX7_readBoy_53 (fun H locs hW hS => ?_)
      refine lv_aload_n hC.1 hC.2.1 dX7_readBoy_54 rfl (lv_at hl 1 rfl) ?_
      refine lv_bipush (v := 7) hC.1 hC.2.1 dX7_readBoy_55 (by decide) ?_
      refine lv_bipush (v := 20) hC.1 hC.2.1 dX7_readBoy_57 (by decide) ?_
      obtain ⟨⟨q59_r, q59_S⟩, hq, h⟩ := xb h
      try dsimp only at h
      refine x_callV (T := TX7) (N := 7) (As := [.int (7 : Int32), .int (20 : Int32)]) (rest := []) hC hW hS 1 (c_X7_readNumber l D b cs _ _ _ _ _ hq) (by decide) rfl rfl mi_X7_readNumber in_X7_readNumber sl_X7_readNumber ml_X7_66 ⟨rfl, rfl⟩ ⟨Nat.le_of_ble_eq_true rfl, Nat.le_of_ble_eq_true rfl⟩ ⟨Nat.zero_le _, Nat.zero_le _⟩ rfl rfl hl.1 (Nat.le_of_ble_eq_true rfl) dX7_readBoy_59 (fun H locs hW hS => ?_)
      refine lv_if_ne (tgt := 67) hC.1 hC.2.1 dX7_readBoy_62 (by decide) (fun hc => ?_) (fun hc => ?_)
      · replace h := xf hc h
        refine lv_aload_n hC.1 hC.2.1 dX7_readBoy_67 rfl (lv_at hl 2 rfl) ?_
        refine x_get (C := RX2) (T := TX2) (N := 12) (v := _) hC hW 12 (by decide) rfl rfl uX2 9 (by decide) fl_X7_92 rfl rfl dX7_readBoy_68 ?_
        refine lv_iload_n hC.1 hC.2.1 dX7_readBoy_71 rfl (lv_at hl 0 rfl) ?_
        refine lv_aload_n hC.1 hC.2.1 dX7_readBoy_72 rfl (lv_at hl 1 rfl) ?_
        refine x_get (C := RX7) (T := TX7) (N := 7) (v := _) hC hW 1 (by decide) rfl rfl uX7 5 (by decide) fl_X7_28 rfl rfl dX7_readBoy_73 ?_
        obtain ⟨hi, h⟩ := xg h
        refine x_iast hC hW hS 18 (by decide) rfl hi dX7_readBoy_76 (fun H locs hW hS => ?_)
        refine lv_aload_n hC.1 hC.2.1 dX7_readBoy_77 rfl (lv_at hl 1 rfl) ?_
        refine lv_bipush (v := 7) hC.1 hC.2.1 dX7_readBoy_78 (by decide) ?_
        refine lv_bipush (v := 20) hC.1 hC.2.1 dX7_readBoy_80 (by decide) ?_
        obtain ⟨⟨q82_r, q82_S⟩, hq, h⟩ := xb h
        try dsimp only at h
        refine x_callV (T := TX7) (N := 7) (As := [.int (7 : Int32), .int (20 : Int32)]) (rest := []) hC hW hS 1 (c_X7_readNumber l D b cs _ _ _ _ _ hq) (by decide) rfl rfl mi_X7_readNumber in_X7_readNumber sl_X7_readNumber ml_X7_66 ⟨rfl, rfl⟩ ⟨Nat.le_of_ble_eq_true rfl, Nat.le_of_ble_eq_true rfl⟩ ⟨Nat.zero_le _, Nat.zero_le _⟩ rfl rfl hl.1 (Nat.le_of_ble_eq_true rfl) dX7_readBoy_82 (fun H locs hW hS => ?_)
        refine lv_if_ne (tgt := 90) hC.1 hC.2.1 dX7_readBoy_85 (by decide) (fun hc => ?_) (fun hc => ?_)
        · replace h := xf hc h
          refine lv_aload_n hC.1 hC.2.1 dX7_readBoy_90 rfl (lv_at hl 2 rfl) ?_
          refine x_get (C := RX2) (T := TX2) (N := 12) (v := _) hC hW 12 (by decide) rfl rfl uX2 10 (by decide) fl_X7_95 rfl rfl dX7_readBoy_91 ?_
          refine lv_iload_n hC.1 hC.2.1 dX7_readBoy_94 rfl (lv_at hl 0 rfl) ?_
          refine lv_aload_n hC.1 hC.2.1 dX7_readBoy_95 rfl (lv_at hl 1 rfl) ?_
          refine x_get (C := RX7) (T := TX7) (N := 7) (v := _) hC hW 1 (by decide) rfl rfl uX7 5 (by decide) fl_X7_28 rfl rfl dX7_readBoy_96 ?_
          obtain ⟨hi, h⟩ := xg h
          refine x_iast hC hW hS 19 (by decide) rfl hi dX7_readBoy_99 (fun H locs hW hS => ?_)
          refine lv_aload_n hC.1 hC.2.1 dX7_readBoy_100 rfl (lv_at hl 1 rfl) ?_
          refine lv_iconst (v := 0) hC.1 hC.2.1 dX7_readBoy_101 (by decide) ?_
          refine lv_aload_n hC.1 hC.2.1 dX7_readBoy_102 rfl (lv_at hl 2 rfl) ?_
          refine x_get (C := RX2) (T := TX2) (N := 12) (v := _) hC hW 12 (by decide) rfl rfl uX2 0 (by decide) fl_X7_70 rfl rfl dX7_readBoy_103 ?_
          refine lv_iconst (v := 1) hC.1 hC.2.1 dX7_readBoy_106 (by decide) ?_
          refine lv_isub hC.1 hC.2.1 dX7_readBoy_107 ?_
          obtain ⟨⟨q108_r, q108_S⟩, hq, h⟩ := xb h
          try dsimp only at h
          refine x_callV (T := TX7) (N := 7) (As := [.int (0 : Int32), .int (((sI q82_S 19 (S.1 12 2).toNatClampNeg (q82_S.1 1 5)).1 12 0) - (1 : Int32))]) (rest := []) hC hW hS 1 (c_X7_readNumber l D b cs _ _ _ _ _ hq) (by decide) rfl rfl mi_X7_readNumber in_X7_readNumber sl_X7_readNumber ml_X7_66 ⟨rfl, rfl⟩ ⟨Nat.le_of_ble_eq_true rfl, Nat.le_of_ble_eq_true rfl⟩ ⟨Nat.zero_le _, Nat.zero_le _⟩ rfl rfl hl.1 (Nat.le_of_ble_eq_true rfl) dX7_readBoy_108 (fun H locs hW hS => ?_)
          refine lv_if_ne (tgt := 116) hC.1 hC.2.1 dX7_readBoy_111 (by decide) (fun hc => ?_) (fun hc => ?_)
          · replace h := xf hc h
            refine lv_aload_n hC.1 hC.2.1 dX7_readBoy_116 rfl (lv_at hl 2 rfl) ?_
            refine x_get (C := RX2) (T := TX2) (N := 12) (v := _) hC hW 12 (by decide) rfl rfl uX2 11 (by decide) fl_X7_98 rfl rfl dX7_readBoy_117 ?_
            refine lv_iload_n hC.1 hC.2.1 dX7_readBoy_120 rfl (lv_at hl 0 rfl) ?_
            refine lv_aload_n hC.1 hC.2.1 dX7_readBoy_121 rfl (lv_at hl 1 rfl) ?_
            refine x_get (C := RX7) (T := TX7) (N := 7) (v := _) hC hW 1 (by decide) rfl rfl uX7 5 (by decide) fl_X7_28 rfl rfl dX7_readBoy_122 ?_
            obtain ⟨hi, h⟩ := xg h
            refine x_iast hC hW hS 20 (by decide) rfl hi dX7_readBoy_125 (fun H locs hW hS => ?_)
            refine lv_aload_n hC.1 hC.2.1 dX7_readBoy_126 rfl (lv_at hl 2 rfl) ?_
            refine lv_dup hC.1 hC.2.1 dX7_readBoy_127 rfl ?_
            refine x_get (C := RX2) (T := TX2) (N := 12) (v := _) hC hW 12 (by decide) rfl rfl uX2 2 (by decide) fl_X7_57 rfl rfl dX7_readBoy_128 ?_
            refine lv_iconst (v := 1) hC.1 hC.2.1 dX7_readBoy_131 (by decide) ?_
            refine lv_iadd hC.1 hC.2.1 dX7_readBoy_132 ?_
            refine x_puti (C := RX2) (T := TX2) (N := 12) (ty := .int) hC hW hS 12 (by decide) rfl rfl uX2 tyX2 tyX2_ok nmX2 2 (by decide) fl_X7_57 rfl (by decide +kernel) rfl rfl rfl dX7_readBoy_133 (fun H locs hW hS => ?_)
            refine lv_aload_n hC.1 hC.2.1 dX7_readBoy_136 rfl (lv_at hl 1 rfl) ?_
            obtain ⟨⟨q137_r, q137_S⟩, hq, h⟩ := xb h
            try dsimp only at h
            refine x_callV (T := TX7) (N := 7) (As := []) (rest := []) hC hW hS 1 (c_X7_readClose l D b cs _ _ _ hq) (by decide) rfl rfl mi_X7_readClose in_X7_readClose sl_X7_readClose ml_X7_73 ⟨rfl, rfl⟩ ⟨Nat.le_of_ble_eq_true rfl, Nat.le_of_ble_eq_true rfl⟩ ⟨Nat.zero_le _, Nat.zero_le _⟩ rfl rfl hl.1 (Nat.le_of_ble_eq_true rfl) dX7_readBoy_137 (fun H locs hW hS => ?_)
            obtain ⟨hv, h⟩ := xg h
            obtain ⟨rfl, rfl⟩ := xr h
            exact x_zret hC hr hW hS hv dX7_readBoy_140
          · replace h := xt hc h
            refine lv_iconst (v := 0) hC.1 hC.2.1 dX7_readBoy_114 (by decide) ?_
            obtain ⟨rfl, rfl⟩ := xr h
            exact x_zret hC hr hW hS (Or.inl rfl) dX7_readBoy_115
        · replace h := xt hc h
          refine lv_iconst (v := 0) hC.1 hC.2.1 dX7_readBoy_88 (by decide) ?_
          obtain ⟨rfl, rfl⟩ := xr h
          exact x_zret hC hr hW hS (Or.inl rfl) dX7_readBoy_89
      · replace h := xt hc h
        refine lv_iconst (v := 0) hC.1 hC.2.1 dX7_readBoy_65 (by decide) ?_
        obtain ⟨rfl, rfl⟩ := xr h
        exact x_zret hC hr hW hS (Or.inl rfl) dX7_readBoy_66
    · replace h := xt hc h
      refine lv_iconst (v := 0) hC.1 hC.2.1 dX7_readBoy_42 (by decide) ?_
      obtain ⟨rfl, rfl⟩ := xr h
      exact x_zret hC hr hW hS (Or.inl rfl) dX7_readBoy_43
  · replace h := xt hc h
    refine lv_iconst (v := 0) hC.1 hC.2.1 dX7_readBoy_15 (by decide) ?_
    obtain ⟨rfl, rfl⟩ := xr h
    exact x_zret hC hr hW hS (Or.inl rfl) dX7_readBoy_16
theorem dX7_readDoor_0 : decode cX7_readDoor 0 = .ok (.aload_n 1, 1) := by decide +kernel
theorem dX7_readDoor_1 : decode cX7_readDoor 1 = .ok (.getfield 51, 3) := by decide +kernel
theorem dX7_readDoor_4 : decode cX7_readDoor 4 = .ok (.istore_n 2, 1) := by decide +kernel
theorem dX7_readDoor_5 : decode cX7_readDoor 5 = .ok (.aload_n 0, 1) := by decide +kernel
theorem dX7_readDoor_6 : decode cX7_readDoor 6 = .ok (.iconst 0, 1) := by decide +kernel
theorem dX7_readDoor_7 : decode cX7_readDoor 7 = .ok (.aload_n 1, 1) := by decide +kernel
theorem dX7_readDoor_8 : decode cX7_readDoor 8 = .ok (.getfield 70, 3) := by decide +kernel
theorem dX7_readDoor_11 : decode cX7_readDoor 11 = .ok (.iconst 1, 1) := by decide +kernel
theorem dX7_readDoor_12 : decode cX7_readDoor 12 = .ok (.isub, 1) := by decide +kernel
theorem dX7_readDoor_13 : decode cX7_readDoor 13 = .ok (.invokevirtual 66, 3) := by decide +kernel
theorem dX7_readDoor_16 : decode cX7_readDoor 16 = .ok (.ifCond .ne 5, 3) := by decide +kernel
theorem dX7_readDoor_19 : decode cX7_readDoor 19 = .ok (.iconst 0, 1) := by decide +kernel
theorem dX7_readDoor_20 : decode cX7_readDoor 20 = .ok (.ireturn, 1) := by decide +kernel
theorem dX7_readDoor_21 : decode cX7_readDoor 21 = .ok (.aload_n 1, 1) := by decide +kernel
theorem dX7_readDoor_22 : decode cX7_readDoor 22 = .ok (.getfield 77, 3) := by decide +kernel
theorem dX7_readDoor_25 : decode cX7_readDoor 25 = .ok (.iload_n 2, 1) := by decide +kernel
theorem dX7_readDoor_26 : decode cX7_readDoor 26 = .ok (.aload_n 0, 1) := by decide +kernel
theorem dX7_readDoor_27 : decode cX7_readDoor 27 = .ok (.getfield 28, 3) := by decide +kernel
theorem dX7_readDoor_30 : decode cX7_readDoor 30 = .ok (.iastore, 1) := by decide +kernel
theorem dX7_readDoor_31 : decode cX7_readDoor 31 = .ok (.aload_n 0, 1) := by decide +kernel
theorem dX7_readDoor_32 : decode cX7_readDoor 32 = .ok (.iconst 0, 1) := by decide +kernel
theorem dX7_readDoor_33 : decode cX7_readDoor 33 = .ok (.aload_n 1, 1) := by decide +kernel
theorem dX7_readDoor_34 : decode cX7_readDoor 34 = .ok (.getfield 70, 3) := by decide +kernel
theorem dX7_readDoor_37 : decode cX7_readDoor 37 = .ok (.iconst 1, 1) := by decide +kernel
theorem dX7_readDoor_38 : decode cX7_readDoor 38 = .ok (.isub, 1) := by decide +kernel
theorem dX7_readDoor_39 : decode cX7_readDoor 39 = .ok (.invokevirtual 66, 3) := by decide +kernel
theorem dX7_readDoor_42 : decode cX7_readDoor 42 = .ok (.ifCond .eq 16, 3) := by decide +kernel
theorem dX7_readDoor_45 : decode cX7_readDoor 45 = .ok (.aload_n 0, 1) := by decide +kernel
theorem dX7_readDoor_46 : decode cX7_readDoor 46 = .ok (.getfield 28, 3) := by decide +kernel
theorem dX7_readDoor_49 : decode cX7_readDoor 49 = .ok (.aload_n 1, 1) := by decide +kernel
theorem dX7_readDoor_50 : decode cX7_readDoor 50 = .ok (.getfield 77, 3) := by decide +kernel
theorem dX7_readDoor_53 : decode cX7_readDoor 53 = .ok (.iload_n 2, 1) := by decide +kernel
theorem dX7_readDoor_54 : decode cX7_readDoor 54 = .ok (.iaload, 1) := by decide +kernel
theorem dX7_readDoor_55 : decode cX7_readDoor 55 = .ok (.if_icmp .ne 5, 3) := by decide +kernel
theorem dX7_readDoor_58 : decode cX7_readDoor 58 = .ok (.iconst 0, 1) := by decide +kernel
theorem dX7_readDoor_59 : decode cX7_readDoor 59 = .ok (.ireturn, 1) := by decide +kernel
theorem dX7_readDoor_60 : decode cX7_readDoor 60 = .ok (.aload_n 1, 1) := by decide +kernel
theorem dX7_readDoor_61 : decode cX7_readDoor 61 = .ok (.getfield 80, 3) := by decide +kernel
theorem dX7_readDoor_64 : decode cX7_readDoor 64 = .ok (.iload_n 2, 1) := by decide +kernel
theorem dX7_readDoor_65 : decode cX7_readDoor 65 = .ok (.aload_n 0, 1) := by decide +kernel
theorem dX7_readDoor_66 : decode cX7_readDoor 66 = .ok (.getfield 28, 3) := by decide +kernel
theorem dX7_readDoor_69 : decode cX7_readDoor 69 = .ok (.iastore, 1) := by decide +kernel
theorem dX7_readDoor_70 : decode cX7_readDoor 70 = .ok (.aload_n 0, 1) := by decide +kernel
theorem dX7_readDoor_71 : decode cX7_readDoor 71 = .ok (.iconst 0, 1) := by decide +kernel
theorem dX7_readDoor_72 : decode cX7_readDoor 72 = .ok (.bipush 40, 2) := by decide +kernel
theorem dX7_readDoor_74 : decode cX7_readDoor 74 = .ok (.invokevirtual 66, 3) := by decide +kernel
theorem dX7_readDoor_77 : decode cX7_readDoor 77 = .ok (.ifCond .ne 5, 3) := by decide +kernel
theorem dX7_readDoor_80 : decode cX7_readDoor 80 = .ok (.iconst 0, 1) := by decide +kernel
theorem dX7_readDoor_81 : decode cX7_readDoor 81 = .ok (.ireturn, 1) := by decide +kernel
theorem dX7_readDoor_82 : decode cX7_readDoor 82 = .ok (.aload_n 1, 1) := by decide +kernel
theorem dX7_readDoor_83 : decode cX7_readDoor 83 = .ok (.getfield 83, 3) := by decide +kernel
theorem dX7_readDoor_86 : decode cX7_readDoor 86 = .ok (.iload_n 2, 1) := by decide +kernel
theorem dX7_readDoor_87 : decode cX7_readDoor 87 = .ok (.aload_n 0, 1) := by decide +kernel
theorem dX7_readDoor_88 : decode cX7_readDoor 88 = .ok (.getfield 28, 3) := by decide +kernel
theorem dX7_readDoor_91 : decode cX7_readDoor 91 = .ok (.iastore, 1) := by decide +kernel
theorem dX7_readDoor_92 : decode cX7_readDoor 92 = .ok (.aload_n 1, 1) := by decide +kernel
theorem dX7_readDoor_93 : decode cX7_readDoor 93 = .ok (.dup, 1) := by decide +kernel
theorem dX7_readDoor_94 : decode cX7_readDoor 94 = .ok (.getfield 51, 3) := by decide +kernel
theorem dX7_readDoor_97 : decode cX7_readDoor 97 = .ok (.iconst 1, 1) := by decide +kernel
theorem dX7_readDoor_98 : decode cX7_readDoor 98 = .ok (.iadd, 1) := by decide +kernel
theorem dX7_readDoor_99 : decode cX7_readDoor 99 = .ok (.putfield 51, 3) := by decide +kernel
theorem dX7_readDoor_102 : decode cX7_readDoor 102 = .ok (.aload_n 0, 1) := by decide +kernel
theorem dX7_readDoor_103 : decode cX7_readDoor 103 = .ok (.invokevirtual 73, 3) := by decide +kernel
theorem dX7_readDoor_106 : decode cX7_readDoor 106 = .ok (.ireturn, 1) := by decide +kernel
abbrev rX7_readDoor : Room := { frames := 3, cells := 0, slots := 0, locals := 65 }
set_option maxHeartbeats 4000000 in
set_option maxRecDepth 100000 in
theorem c_X7_readDoor (l : Launch) (D : va_G) (b : Nat) (cs : Cs3) (S S1 : St) (r : Int32) (h : p_X7_readDoor S = some (r, S1)) : Ct l yX7_readDoor cX7_readDoor 3 (some .boolean) rX7_readDoor D b cs [.ref (b + 1), .ref (b + 12)] S (some (.int r)) S1 := by
  refine x_met (by decide +kernel) (Nat.le_of_ble_eq_true rfl) ?_
  intro p e s m below meth c ls hC hr hW hS hl
  have hl : lv_has ls 3 [(0, .ref (b + 1)), (1, .ref (b + 12))] := hl
  rw [p_X7_readDoor] at h
  refine lv_aload_n hC.1 hC.2.1 dX7_readDoor_0 rfl (lv_at hl 1 rfl) ?_
  refine x_get (C := RX2) (T := TX2) (N := 12) (v := _) hC hW 12 (by decide) rfl rfl uX2 1 (by decide) fl_X7_51 rfl rfl dX7_readDoor_1 ?_
  refine lv_istore_n (lv' := [(2, .int (S.1 12 1)), (0, .ref (b + 1)), (1, .ref (b + 12))]) hC.1 hC.2.1 dX7_readDoor_4 rfl hl (by decide) rfl (fun ls hl => ?_)
  refine lv_aload_n hC.1 hC.2.1 dX7_readDoor_5 rfl (lv_at hl 1 rfl) ?_
  refine lv_iconst (v := 0) hC.1 hC.2.1 dX7_readDoor_6 (by decide) ?_
  refine lv_aload_n hC.1 hC.2.1 dX7_readDoor_7 rfl (lv_at hl 2 rfl) ?_
  refine x_get (C := RX2) (T := TX2) (N := 12) (v := _) hC hW 12 (by decide) rfl rfl uX2 0 (by decide) fl_X7_70 rfl rfl dX7_readDoor_8 ?_
  refine lv_iconst (v := 1) hC.1 hC.2.1 dX7_readDoor_11 (by decide) ?_
  refine lv_isub hC.1 hC.2.1 dX7_readDoor_12 ?_
  obtain ⟨⟨q13_r, q13_S⟩, hq, h⟩ := xb h
  try dsimp only at h
  refine x_callV (T := TX7) (N := 7) (As := [.int (0 : Int32), .int ((S.1 12 0) - (1 : Int32))]) (rest := []) hC hW hS 1 (c_X7_readNumber l D b cs _ _ _ _ _ hq) (by decide) rfl rfl mi_X7_readNumber in_X7_readNumber sl_X7_readNumber ml_X7_66 ⟨rfl, rfl⟩ ⟨Nat.le_of_ble_eq_true rfl, Nat.le_of_ble_eq_true rfl⟩ ⟨Nat.zero_le _, Nat.zero_le _⟩ rfl rfl hl.1 (Nat.le_of_ble_eq_true rfl) dX7_readDoor_13 (fun H locs hW hS => ?_)
  refine lv_if_ne (tgt := 21) hC.1 hC.2.1 dX7_readDoor_16 (by decide) (fun hc => ?_) (fun hc => ?_)
  · replace h := xf hc h
    refine lv_aload_n hC.1 hC.2.1 dX7_readDoor_21 rfl (lv_at hl 2 rfl) ?_
    refine x_get (C := RX2) (T := TX2) (N := 12) (v := _) hC hW 12 (by decide) rfl rfl uX2 4 (by decide) fl_X7_77 rfl rfl dX7_readDoor_22 ?_
    refine lv_iload_n hC.1 hC.2.1 dX7_readDoor_25 rfl (lv_at hl 0 rfl) ?_
    refine lv_aload_n hC.1 hC.2.1 dX7_readDoor_26 rfl (lv_at hl 1 rfl) ?_
    refine x_get (C := RX7) (T := TX7) (N := 7) (v := _) hC hW 1 (by decide) rfl rfl uX7 5 (by decide) fl_X7_28 rfl rfl dX7_readDoor_27 ?_
    obtain ⟨hi, h⟩ := xg h
    refine x_iast hC hW hS 13 (by decide) rfl hi dX7_readDoor_30 (fun H locs hW hS => ?_)
    refine lv_aload_n hC.1 hC.2.1 dX7_readDoor_31 rfl (lv_at hl 1 rfl) ?_
    refine lv_iconst (v := 0) hC.1 hC.2.1 dX7_readDoor_32 (by decide) ?_
    refine lv_aload_n hC.1 hC.2.1 dX7_readDoor_33 rfl (lv_at hl 2 rfl) ?_
    refine x_get (C := RX2) (T := TX2) (N := 12) (v := _) hC hW 12 (by decide) rfl rfl uX2 0 (by decide) fl_X7_70 rfl rfl dX7_readDoor_34 ?_
    refine lv_iconst (v := 1) hC.1 hC.2.1 dX7_readDoor_37 (by decide) ?_
    refine lv_isub hC.1 hC.2.1 dX7_readDoor_38 ?_
    obtain ⟨⟨q39_r, q39_S⟩, hq, h⟩ := xb h
    try dsimp only at h
    refine x_callV (T := TX7) (N := 7) (As := [.int (0 : Int32), .int (((sI q13_S 13 (S.1 12 1).toNatClampNeg (q13_S.1 1 5)).1 12 0) - (1 : Int32))]) (rest := []) hC hW hS 1 (c_X7_readNumber l D b cs _ _ _ _ _ hq) (by decide) rfl rfl mi_X7_readNumber in_X7_readNumber sl_X7_readNumber ml_X7_66 ⟨rfl, rfl⟩ ⟨Nat.le_of_ble_eq_true rfl, Nat.le_of_ble_eq_true rfl⟩ ⟨Nat.zero_le _, Nat.zero_le _⟩ rfl rfl hl.1 (Nat.le_of_ble_eq_true rfl) dX7_readDoor_39 (fun H locs hW hS => ?_)
    refine lv_if_eq (tgt := 58) hC.1 hC.2.1 dX7_readDoor_42 (by decide) (fun hc => ?_) (fun hc => ?_)
    · replace h := xt hc h
      refine lv_iconst (v := 0) hC.1 hC.2.1 dX7_readDoor_58 (by decide) ?_
      obtain ⟨rfl, rfl⟩ := xr h
      exact x_zret hC hr hW hS (Or.inl rfl) dX7_readDoor_59
    · replace h := xf hc h
      refine lv_aload_n hC.1 hC.2.1 dX7_readDoor_45 rfl (lv_at hl 1 rfl) ?_
      refine x_get (C := RX7) (T := TX7) (N := 7) (v := _) hC hW 1 (by decide) rfl rfl uX7 5 (by decide) fl_X7_28 rfl rfl dX7_readDoor_46 ?_
      refine lv_aload_n hC.1 hC.2.1 dX7_readDoor_49 rfl (lv_at hl 2 rfl) ?_
      refine x_get (C := RX2) (T := TX2) (N := 12) (v := _) hC hW 12 (by decide) rfl rfl uX2 4 (by decide) fl_X7_77 rfl rfl dX7_readDoor_50 ?_
      refine lv_iload_n hC.1 hC.2.1 dX7_readDoor_53 rfl (lv_at hl 0 rfl) ?_
      obtain ⟨hi, h⟩ := xg h
      refine x_iald hC hW 13 (by decide) rfl hi dX7_readDoor_54 ?_
      refine lv_icmp_ne (tgt := 60) hC.1 hC.2.1 dX7_readDoor_55 (by decide) (fun hc => ?_) (fun hc => ?_)
      · replace h := xf hc h
        refine lv_aload_n hC.1 hC.2.1 dX7_readDoor_60 rfl (lv_at hl 2 rfl) ?_
        refine x_get (C := RX2) (T := TX2) (N := 12) (v := _) hC hW 12 (by decide) rfl rfl uX2 5 (by decide) fl_X7_80 rfl rfl dX7_readDoor_61 ?_
        refine lv_iload_n hC.1 hC.2.1 dX7_readDoor_64 rfl (lv_at hl 0 rfl) ?_
        refine lv_aload_n hC.1 hC.2.1 dX7_readDoor_65 rfl (lv_at hl 1 rfl) ?_
        refine x_get (C := RX7) (T := TX7) (N := 7) (v := _) hC hW 1 (by decide) rfl rfl uX7 5 (by decide) fl_X7_28 rfl rfl dX7_readDoor_66 ?_
        obtain ⟨hi, h⟩ := xg h
        refine x_iast hC hW hS 14 (by decide) rfl hi dX7_readDoor_69 (fun H locs hW hS => ?_)
        refine lv_aload_n hC.1 hC.2.1 dX7_readDoor_70 rfl (lv_at hl 1 rfl) ?_
        refine lv_iconst (v := 0) hC.1 hC.2.1 dX7_readDoor_71 (by decide) ?_
        refine lv_bipush (v := 40) hC.1 hC.2.1 dX7_readDoor_72 (by decide) ?_
        obtain ⟨⟨q74_r, q74_S⟩, hq, h⟩ := xb h
        try dsimp only at h
        refine x_callV (T := TX7) (N := 7) (As := [.int (0 : Int32), .int (40 : Int32)]) (rest := []) hC hW hS 1 (c_X7_readNumber l D b cs _ _ _ _ _ hq) (by decide) rfl rfl mi_X7_readNumber in_X7_readNumber sl_X7_readNumber ml_X7_66 ⟨rfl, rfl⟩ ⟨Nat.le_of_ble_eq_true rfl, Nat.le_of_ble_eq_true rfl⟩ ⟨Nat.zero_le _, Nat.zero_le _⟩ rfl rfl hl.1 (Nat.le_of_ble_eq_true rfl) dX7_readDoor_74 (fun H locs hW hS => ?_)
        refine lv_if_ne (tgt := 82) hC.1 hC.2.1 dX7_readDoor_77 (by decide) (fun hc => ?_) (fun hc => ?_)
        · replace h := xf hc h
          refine lv_aload_n hC.1 hC.2.1 dX7_readDoor_82 rfl (lv_at hl 2 rfl) ?_
          refine x_get (C := RX2) (T := TX2) (N := 12) (v := _) hC hW 12 (by decide) rfl rfl uX2 6 (by decide) fl_X7_83 rfl rfl dX7_readDoor_83 ?_
          refine lv_iload_n hC.1 hC.2.1 dX7_readDoor_86 rfl (lv_at hl 0 rfl) ?_
          refine lv_aload_n hC.1 hC.2.1 dX7_readDoor_87 rfl (lv_at hl 1 rfl) ?_
          refine x_get (C := RX7) (T := TX7) (N := 7) (v := _) hC hW 1 (by decide) rfl rfl uX7 5 (by decide) fl_X7_28 rfl rfl dX7_readDoor_88 ?_
          obtain ⟨hi, h⟩ := xg h
          refine x_iast hC hW hS 15 (by decide) rfl hi dX7_readDoor_91 (fun H locs hW hS => ?_)
          refine lv_aload_n hC.1 hC.2.1 dX7_readDoor_92 rfl (lv_at hl 2 rfl) ?_
          refine lv_dup hC.1 hC.2.1 dX7_readDoor_93 rfl ?_
          refine x_get (C := RX2) (T := TX2) (N := 12) (v := _) hC hW 12 (by decide) rfl rfl uX2 1 (by decide) fl_X7_51 rfl rfl dX7_readDoor_94 ?_
          refine lv_iconst (v := 1) hC.1 hC.2.1 dX7_readDoor_97 (by decide) ?_
          refine lv_iadd hC.1 hC.2.1 dX7_readDoor_98 ?_
          refine x_puti (C := RX2) (T := TX2) (N := 12) (ty := .int) hC hW hS 12 (by decide) rfl rfl uX2 tyX2 tyX2_ok nmX2 1 (by decide) fl_X7_51 rfl (by decide +kernel) rfl rfl rfl dX7_readDoor_99 (fun H locs hW hS => ?_)
          refine lv_aload_n hC.1 hC.2.1 dX7_readDoor_102 rfl (lv_at hl 1 rfl) ?_
          obtain ⟨⟨q103_r, q103_S⟩, hq, h⟩ := xb h
          try dsimp only at h
          refine x_callV (T := TX7) (N := 7) (As := []) (rest := []) hC hW hS 1 (c_X7_readClose l D b cs _ _ _ hq) (by decide) rfl rfl mi_X7_readClose in_X7_readClose sl_X7_readClose ml_X7_73 ⟨rfl, rfl⟩ ⟨Nat.le_of_ble_eq_true rfl, Nat.le_of_ble_eq_true rfl⟩ ⟨Nat.zero_le _, Nat.zero_le _⟩ rfl rfl hl.1 (Nat.le_of_ble_eq_true rfl) dX7_readDoor_103 (fun H locs hW hS => ?_)
          obtain ⟨hv, h⟩ := xg h
          obtain ⟨rfl, rfl⟩ := xr h
          exact x_zret hC hr hW hS hv dX7_readDoor_106
        · replace h := xt hc h
          refine lv_iconst (v := 0) hC.1 hC.2.1 dX7_readDoor_80 (by decide) ?_
          obtain ⟨rfl, rfl⟩ := xr h
          exact x_zret hC hr hW hS (Or.inl rfl) dX7_readDoor_81
      · replace h := xt hc h
        refine lv_iconst (v := 0) hC.1 hC.2.1 dX7_readDoor_58 (by decide) ?_
        obtain ⟨rfl, rfl⟩ := xr h
        exact x_zret hC hr hW hS (Or.inl rfl) dX7_readDoor_59
  · replace h := xt hc h
    refine lv_iconst (v := 0) hC.1 hC.2.1 dX7_readDoor_19 (by decide) ?_
    obtain ⟨rfl, rfl⟩ := xr h
    exact x_zret hC hr hW hS (Or.inl rfl) dX7_readDoor_20
theorem dX7_readPlaces_0 : decode cX7_readPlaces 0 = .ok (.aload_n 0, 1) := by decide +kernel
theorem dX7_readPlaces_1 : decode cX7_readPlaces 1 = .ok (.iconst 1, 1) := by decide +kernel
theorem dX7_readPlaces_2 : decode cX7_readPlaces 2 = .ok (.bipush 8, 2) := by decide +kernel
theorem dX7_readPlaces_4 : decode cX7_readPlaces 4 = .ok (.invokevirtual 66, 3) := by decide +kernel
theorem dX7_readPlaces_7 : decode cX7_readPlaces 7 = .ok (.ifCond .ne 5, 3) := by decide +kernel
theorem dX7_readPlaces_10 : decode cX7_readPlaces 10 = .ok (.iconst 0, 1) := by decide +kernel
theorem dX7_readPlaces_11 : decode cX7_readPlaces 11 = .ok (.ireturn, 1) := by decide +kernel
theorem dX7_readPlaces_12 : decode cX7_readPlaces 12 = .ok (.aload_n 1, 1) := by decide +kernel
theorem dX7_readPlaces_13 : decode cX7_readPlaces 13 = .ok (.aload_n 0, 1) := by decide +kernel
theorem dX7_readPlaces_14 : decode cX7_readPlaces 14 = .ok (.getfield 28, 3) := by decide +kernel
theorem dX7_readPlaces_17 : decode cX7_readPlaces 17 = .ok (.putfield 70, 3) := by decide +kernel
theorem dX7_readPlaces_20 : decode cX7_readPlaces 20 = .ok (.aload_n 0, 1) := by decide +kernel
theorem dX7_readPlaces_21 : decode cX7_readPlaces 21 = .ok (.invokevirtual 73, 3) := by decide +kernel
theorem dX7_readPlaces_24 : decode cX7_readPlaces 24 = .ok (.ireturn, 1) := by decide +kernel
abbrev rX7_readPlaces : Room := { frames := 3, cells := 0, slots := 0, locals := 65 }
set_option maxHeartbeats 4000000 in
set_option maxRecDepth 100000 in
theorem c_X7_readPlaces (l : Launch) (D : va_G) (b : Nat) (cs : Cs3) (S S1 : St) (r : Int32) (h : p_X7_readPlaces S = some (r, S1)) : Ct l yX7_readPlaces cX7_readPlaces 2 (some .boolean) rX7_readPlaces D b cs [.ref (b + 1), .ref (b + 12)] S (some (.int r)) S1 := by
  refine x_met (by decide +kernel) (Nat.le_of_ble_eq_true rfl) ?_
  intro p e s m below meth c ls hC hr hW hS hl
  have hl : lv_has ls 2 [(0, .ref (b + 1)), (1, .ref (b + 12))] := hl
  rw [p_X7_readPlaces] at h
  refine lv_aload_n hC.1 hC.2.1 dX7_readPlaces_0 rfl (lv_at hl 0 rfl) ?_
  refine lv_iconst (v := 1) hC.1 hC.2.1 dX7_readPlaces_1 (by decide) ?_
  refine lv_bipush (v := 8) hC.1 hC.2.1 dX7_readPlaces_2 (by decide) ?_
  obtain ⟨⟨q4_r, q4_S⟩, hq, h⟩ := xb h
  try dsimp only at h
  refine x_callV (T := TX7) (N := 7) (As := [.int (1 : Int32), .int (8 : Int32)]) (rest := []) hC hW hS 1 (c_X7_readNumber l D b cs _ _ _ _ _ hq) (by decide) rfl rfl mi_X7_readNumber in_X7_readNumber sl_X7_readNumber ml_X7_66 ⟨rfl, rfl⟩ ⟨Nat.le_of_ble_eq_true rfl, Nat.le_of_ble_eq_true rfl⟩ ⟨Nat.zero_le _, Nat.zero_le _⟩ rfl rfl hl.1 (Nat.le_of_ble_eq_true rfl) dX7_readPlaces_4 (fun H locs hW hS => ?_)
  refine lv_if_ne (tgt := 12) hC.1 hC.2.1 dX7_readPlaces_7 (by decide) (fun hc => ?_) (fun hc => ?_)
  · replace h := xf hc h
    refine lv_aload_n hC.1 hC.2.1 dX7_readPlaces_12 rfl (lv_at hl 1 rfl) ?_
    refine lv_aload_n hC.1 hC.2.1 dX7_readPlaces_13 rfl (lv_at hl 0 rfl) ?_
    refine x_get (C := RX7) (T := TX7) (N := 7) (v := _) hC hW 1 (by decide) rfl rfl uX7 5 (by decide) fl_X7_28 rfl rfl dX7_readPlaces_14 ?_
    refine x_puti (C := RX2) (T := TX2) (N := 12) (ty := .int) hC hW hS 12 (by decide) rfl rfl uX2 tyX2 tyX2_ok nmX2 0 (by decide) fl_X7_70 rfl (by decide +kernel) rfl rfl rfl dX7_readPlaces_17 (fun H locs hW hS => ?_)
    refine lv_aload_n hC.1 hC.2.1 dX7_readPlaces_20 rfl (lv_at hl 0 rfl) ?_
    obtain ⟨⟨q21_r, q21_S⟩, hq, h⟩ := xb h
    try dsimp only at h
    refine x_callV (T := TX7) (N := 7) (As := []) (rest := []) hC hW hS 1 (c_X7_readClose l D b cs _ _ _ hq) (by decide) rfl rfl mi_X7_readClose in_X7_readClose sl_X7_readClose ml_X7_73 ⟨rfl, rfl⟩ ⟨Nat.le_of_ble_eq_true rfl, Nat.le_of_ble_eq_true rfl⟩ ⟨Nat.zero_le _, Nat.zero_le _⟩ rfl rfl hl.1 (Nat.le_of_ble_eq_true rfl) dX7_readPlaces_21 (fun H locs hW hS => ?_)
    obtain ⟨hv, h⟩ := xg h
    obtain ⟨rfl, rfl⟩ := xr h
    exact x_zret hC hr hW hS hv dX7_readPlaces_24
  · replace h := xt hc h
    refine lv_iconst (v := 0) hC.1 hC.2.1 dX7_readPlaces_10 (by decide) ?_
    obtain ⟨rfl, rfl⟩ := xr h
    exact x_zret hC hr hW hS (Or.inl rfl) dX7_readPlaces_11
theorem dX7_readStep_0 : decode cX7_readStep 0 = .ok (.aload_n 0, 1) := by decide +kernel
theorem dX7_readStep_1 : decode cX7_readStep 1 = .ok (.iconst 1, 1) := by decide +kernel
theorem dX7_readStep_2 : decode cX7_readStep 2 = .ok (.putfield 31, 3) := by decide +kernel
theorem dX7_readStep_5 : decode cX7_readStep 5 = .ok (.aload_n 0, 1) := by decide +kernel
theorem dX7_readStep_6 : decode cX7_readStep 6 = .ok (.iconst 0, 1) := by decide +kernel
theorem dX7_readStep_7 : decode cX7_readStep 7 = .ok (.bipush 40, 2) := by decide +kernel
theorem dX7_readStep_9 : decode cX7_readStep 9 = .ok (.invokevirtual 66, 3) := by decide +kernel
theorem dX7_readStep_12 : decode cX7_readStep 12 = .ok (.ifCond .ne 5, 3) := by decide +kernel
theorem dX7_readStep_15 : decode cX7_readStep 15 = .ok (.iconst 0, 1) := by decide +kernel
theorem dX7_readStep_16 : decode cX7_readStep 16 = .ok (.ireturn, 1) := by decide +kernel
theorem dX7_readStep_17 : decode cX7_readStep 17 = .ok (.aload_n 1, 1) := by decide +kernel
theorem dX7_readStep_18 : decode cX7_readStep 18 = .ok (.aload_n 0, 1) := by decide +kernel
theorem dX7_readStep_19 : decode cX7_readStep 19 = .ok (.getfield 28, 3) := by decide +kernel
theorem dX7_readStep_22 : decode cX7_readStep 22 = .ok (.putfield 101, 3) := by decide +kernel
theorem dX7_readStep_25 : decode cX7_readStep 25 = .ok (.aload_n 0, 1) := by decide +kernel
theorem dX7_readStep_26 : decode cX7_readStep 26 = .ok (.invokevirtual 73, 3) := by decide +kernel
theorem dX7_readStep_29 : decode cX7_readStep 29 = .ok (.ireturn, 1) := by decide +kernel
abbrev rX7_readStep : Room := { frames := 3, cells := 0, slots := 0, locals := 65 }
set_option maxHeartbeats 4000000 in
set_option maxRecDepth 100000 in
theorem c_X7_readStep (l : Launch) (D : va_G) (b : Nat) (cs : Cs3) (S S1 : St) (r : Int32) (h : p_X7_readStep S = some (r, S1)) : Ct l yX7_readStep cX7_readStep 2 (some .boolean) rX7_readStep D b cs [.ref (b + 1), .ref (b + 12)] S (some (.int r)) S1 := by
  refine x_met (by decide +kernel) (Nat.le_of_ble_eq_true rfl) ?_
  intro p e s m below meth c ls hC hr hW hS hl
  have hl : lv_has ls 2 [(0, .ref (b + 1)), (1, .ref (b + 12))] := hl
  rw [p_X7_readStep] at h
  refine lv_aload_n hC.1 hC.2.1 dX7_readStep_0 rfl (lv_at hl 0 rfl) ?_
  refine lv_iconst (v := 1) hC.1 hC.2.1 dX7_readStep_1 (by decide) ?_
  refine x_puti (C := RX7) (T := TX7) (N := 7) (ty := .boolean) hC hW hS 1 (by decide) rfl rfl uX7 tyX7 tyX7_ok nmX7 6 (by decide) fl_X7_31 rfl (by decide +kernel) rfl rfl rfl dX7_readStep_2 (fun H locs hW hS => ?_)
  refine lv_aload_n hC.1 hC.2.1 dX7_readStep_5 rfl (lv_at hl 0 rfl) ?_
  refine lv_iconst (v := 0) hC.1 hC.2.1 dX7_readStep_6 (by decide) ?_
  refine lv_bipush (v := 40) hC.1 hC.2.1 dX7_readStep_7 (by decide) ?_
  obtain ⟨⟨q9_r, q9_S⟩, hq, h⟩ := xb h
  try dsimp only at h
  refine x_callV (T := TX7) (N := 7) (As := [.int (0 : Int32), .int (40 : Int32)]) (rest := []) hC hW hS 1 (c_X7_readNumber l D b cs _ _ _ _ _ hq) (by decide) rfl rfl mi_X7_readNumber in_X7_readNumber sl_X7_readNumber ml_X7_66 ⟨rfl, rfl⟩ ⟨Nat.le_of_ble_eq_true rfl, Nat.le_of_ble_eq_true rfl⟩ ⟨Nat.zero_le _, Nat.zero_le _⟩ rfl rfl hl.1 (Nat.le_of_ble_eq_true rfl) dX7_readStep_9 (fun H locs hW hS => ?_)
  refine lv_if_ne (tgt := 17) hC.1 hC.2.1 dX7_readStep_12 (by decide) (fun hc => ?_) (fun hc => ?_)
  · replace h := xf hc h
    refine lv_aload_n hC.1 hC.2.1 dX7_readStep_17 rfl (lv_at hl 1 rfl) ?_
    refine lv_aload_n hC.1 hC.2.1 dX7_readStep_18 rfl (lv_at hl 0 rfl) ?_
    refine x_get (C := RX7) (T := TX7) (N := 7) (v := _) hC hW 1 (by decide) rfl rfl uX7 5 (by decide) fl_X7_28 rfl rfl dX7_readStep_19 ?_
    refine x_puti (C := RX2) (T := TX2) (N := 12) (ty := .int) hC hW hS 12 (by decide) rfl rfl uX2 tyX2 tyX2_ok nmX2 3 (by decide) fl_X7_101 rfl (by decide +kernel) rfl rfl rfl dX7_readStep_22 (fun H locs hW hS => ?_)
    refine lv_aload_n hC.1 hC.2.1 dX7_readStep_25 rfl (lv_at hl 0 rfl) ?_
    obtain ⟨⟨q26_r, q26_S⟩, hq, h⟩ := xb h
    try dsimp only at h
    refine x_callV (T := TX7) (N := 7) (As := []) (rest := []) hC hW hS 1 (c_X7_readClose l D b cs _ _ _ hq) (by decide) rfl rfl mi_X7_readClose in_X7_readClose sl_X7_readClose ml_X7_73 ⟨rfl, rfl⟩ ⟨Nat.le_of_ble_eq_true rfl, Nat.le_of_ble_eq_true rfl⟩ ⟨Nat.zero_le _, Nat.zero_le _⟩ rfl rfl hl.1 (Nat.le_of_ble_eq_true rfl) dX7_readStep_26 (fun H locs hW hS => ?_)
    obtain ⟨hv, h⟩ := xg h
    obtain ⟨rfl, rfl⟩ := xr h
    exact x_zret hC hr hW hS hv dX7_readStep_29
  · replace h := xt hc h
    refine lv_iconst (v := 0) hC.1 hC.2.1 dX7_readStep_15 (by decide) ?_
    obtain ⟨rfl, rfl⟩ := xr h
    exact x_zret hC hr hW hS (Or.inl rfl) dX7_readStep_16
theorem dX7_readItem_0 : decode cX7_readItem 0 = .ok (.aload_n 0, 1) := by decide +kernel
theorem dX7_readItem_1 : decode cX7_readItem 1 = .ok (.getfield 25, 3) := by decide +kernel
theorem dX7_readItem_4 : decode cX7_readItem 4 = .ok (.lookupswitch 128 #[(98, 85), (100, 62), (110, 44), (115, 107)], 44) := by decide +kernel
theorem dX7_readItem_48 : decode cX7_readItem 48 = .ok (.iload_n 2, 1) := by decide +kernel
theorem dX7_readItem_49 : decode cX7_readItem 49 = .ok (.ifCond .ne 15, 3) := by decide +kernel
theorem dX7_readItem_52 : decode cX7_readItem 52 = .ok (.aload_n 0, 1) := by decide +kernel
theorem dX7_readItem_53 : decode cX7_readItem 53 = .ok (.aload_n 1, 1) := by decide +kernel
theorem dX7_readItem_54 : decode cX7_readItem 54 = .ok (.invokevirtual 47, 3) := by decide +kernel
theorem dX7_readItem_57 : decode cX7_readItem 57 = .ok (.ifCond .eq 7, 3) := by decide +kernel
theorem dX7_readItem_60 : decode cX7_readItem 60 = .ok (.iconst 1, 1) := by decide +kernel
theorem dX7_readItem_61 : decode cX7_readItem 61 = .ok (.goto 4, 3) := by decide +kernel
theorem dX7_readItem_64 : decode cX7_readItem 64 = .ok (.iconst 0, 1) := by decide +kernel
theorem dX7_readItem_65 : decode cX7_readItem 65 = .ok (.ireturn, 1) := by decide +kernel
theorem dX7_readItem_66 : decode cX7_readItem 66 = .ok (.aload_n 1, 1) := by decide +kernel
theorem dX7_readItem_67 : decode cX7_readItem 67 = .ok (.getfield 51, 3) := by decide +kernel
theorem dX7_readItem_70 : decode cX7_readItem 70 = .ok (.bipush 8, 2) := by decide +kernel
theorem dX7_readItem_72 : decode cX7_readItem 72 = .ok (.if_icmp .ge 15, 3) := by decide +kernel
theorem dX7_readItem_75 : decode cX7_readItem 75 = .ok (.aload_n 0, 1) := by decide +kernel
theorem dX7_readItem_76 : decode cX7_readItem 76 = .ok (.aload_n 1, 1) := by decide +kernel
theorem dX7_readItem_77 : decode cX7_readItem 77 = .ok (.invokevirtual 54, 3) := by decide +kernel
theorem dX7_readItem_80 : decode cX7_readItem 80 = .ok (.ifCond .eq 7, 3) := by decide +kernel
theorem dX7_readItem_83 : decode cX7_readItem 83 = .ok (.iconst 1, 1) := by decide +kernel
theorem dX7_readItem_84 : decode cX7_readItem 84 = .ok (.goto 4, 3) := by decide +kernel
theorem dX7_readItem_87 : decode cX7_readItem 87 = .ok (.iconst 0, 1) := by decide +kernel
theorem dX7_readItem_88 : decode cX7_readItem 88 = .ok (.ireturn, 1) := by decide +kernel
theorem dX7_readItem_89 : decode cX7_readItem 89 = .ok (.aload_n 1, 1) := by decide +kernel
theorem dX7_readItem_90 : decode cX7_readItem 90 = .ok (.getfield 57, 3) := by decide +kernel
theorem dX7_readItem_93 : decode cX7_readItem 93 = .ok (.iconst 5, 1) := by decide +kernel
theorem dX7_readItem_94 : decode cX7_readItem 94 = .ok (.if_icmp .ge 15, 3) := by decide +kernel
theorem dX7_readItem_97 : decode cX7_readItem 97 = .ok (.aload_n 0, 1) := by decide +kernel
theorem dX7_readItem_98 : decode cX7_readItem 98 = .ok (.aload_n 1, 1) := by decide +kernel
theorem dX7_readItem_99 : decode cX7_readItem 99 = .ok (.invokevirtual 60, 3) := by decide +kernel
theorem dX7_readItem_102 : decode cX7_readItem 102 = .ok (.ifCond .eq 7, 3) := by decide +kernel
theorem dX7_readItem_105 : decode cX7_readItem 105 = .ok (.iconst 1, 1) := by decide +kernel
theorem dX7_readItem_106 : decode cX7_readItem 106 = .ok (.goto 4, 3) := by decide +kernel
theorem dX7_readItem_109 : decode cX7_readItem 109 = .ok (.iconst 0, 1) := by decide +kernel
theorem dX7_readItem_110 : decode cX7_readItem 110 = .ok (.ireturn, 1) := by decide +kernel
theorem dX7_readItem_111 : decode cX7_readItem 111 = .ok (.aload_n 0, 1) := by decide +kernel
theorem dX7_readItem_112 : decode cX7_readItem 112 = .ok (.getfield 31, 3) := by decide +kernel
theorem dX7_readItem_115 : decode cX7_readItem 115 = .ok (.ifCond .ne 15, 3) := by decide +kernel
theorem dX7_readItem_118 : decode cX7_readItem 118 = .ok (.aload_n 0, 1) := by decide +kernel
theorem dX7_readItem_119 : decode cX7_readItem 119 = .ok (.aload_n 1, 1) := by decide +kernel
theorem dX7_readItem_120 : decode cX7_readItem 120 = .ok (.invokevirtual 63, 3) := by decide +kernel
theorem dX7_readItem_123 : decode cX7_readItem 123 = .ok (.ifCond .eq 7, 3) := by decide +kernel
theorem dX7_readItem_126 : decode cX7_readItem 126 = .ok (.iconst 1, 1) := by decide +kernel
theorem dX7_readItem_127 : decode cX7_readItem 127 = .ok (.goto 4, 3) := by decide +kernel
theorem dX7_readItem_130 : decode cX7_readItem 130 = .ok (.iconst 0, 1) := by decide +kernel
theorem dX7_readItem_131 : decode cX7_readItem 131 = .ok (.ireturn, 1) := by decide +kernel
theorem dX7_readItem_132 : decode cX7_readItem 132 = .ok (.iconst 0, 1) := by decide +kernel
theorem dX7_readItem_133 : decode cX7_readItem 133 = .ok (.ireturn, 1) := by decide +kernel
abbrev rX7_readItem : Room := { frames := 4, cells := 0, slots := 0, locals := 87 }
set_option maxHeartbeats 4000000 in
set_option maxRecDepth 100000 in
theorem c_X7_readItem (l : Launch) (D : va_G) (b : Nat) (cs : Cs3) (x2 : Int32) (S S1 : St) (r : Int32) (h : p_X7_readItem x2 S = some (r, S1)) : Ct l yX7_readItem cX7_readItem 3 (some .boolean) rX7_readItem D b cs [.ref (b + 1), .ref (b + 12), .int x2] S (some (.int r)) S1 := by
  refine x_met (by decide +kernel) (Nat.le_of_ble_eq_true rfl) ?_
  intro p e s m below meth c ls hC hr hW hS hl
  have hl : lv_has ls 3 [(0, .ref (b + 1)), (1, .ref (b + 12)), (2, .int x2)] := hl
  rw [p_X7_readItem] at h
  refine lv_aload_n hC.1 hC.2.1 dX7_readItem_0 rfl (lv_at hl 0 rfl) ?_
  refine x_get (C := RX7) (T := TX7) (N := 7) (v := _) hC hW 1 (by decide) rfl rfl uX7 4 (by decide) fl_X7_25 rfl rfl dX7_readItem_1 ?_
  by_cases hc0 : (S.1 1 4) = 98
  · replace h := xt hc0 h
    refine lv_lookup (off := 85) (tgt := 89) hC.1 hC.2.1 dX7_readItem_4 (by decide) (by rw [hc0]; decide) (by decide) ?_
    refine lv_aload_n hC.1 hC.2.1 dX7_readItem_89 rfl (lv_at hl 1 rfl) ?_
    refine x_get (C := RX2) (T := TX2) (N := 12) (v := _) hC hW 12 (by decide) rfl rfl uX2 2 (by decide) fl_X7_57 rfl rfl dX7_readItem_90 ?_
    refine lv_iconst (v := 5) hC.1 hC.2.1 dX7_readItem_93 (by decide) ?_
    refine lv_icmp_ge (tgt := 109) hC.1 hC.2.1 dX7_readItem_94 (by decide) (fun hc => ?_) (fun hc => ?_)
    · replace h := xt hc h
      refine lv_iconst (v := 0) hC.1 hC.2.1 dX7_readItem_109 (by decide) ?_
      obtain ⟨rfl, rfl⟩ := xr h
      exact x_zret hC hr hW hS (Or.inl rfl) dX7_readItem_110
    · replace h := xf hc h
      refine lv_aload_n hC.1 hC.2.1 dX7_readItem_97 rfl (lv_at hl 0 rfl) ?_
      refine lv_aload_n hC.1 hC.2.1 dX7_readItem_98 rfl (lv_at hl 1 rfl) ?_
      obtain ⟨⟨q99_r, q99_S⟩, hq, h⟩ := xb h
      try dsimp only at h
      refine x_callV (T := TX7) (N := 7) (As := [.ref (b + 12)]) (rest := []) hC hW hS 1 (c_X7_readBoy l D b cs _ _ _ hq) (by decide) rfl rfl mi_X7_readBoy in_X7_readBoy sl_X7_readBoy ml_X7_60 ⟨rfl, rfl⟩ ⟨Nat.le_of_ble_eq_true rfl, Nat.le_of_ble_eq_true rfl⟩ ⟨Nat.zero_le _, Nat.zero_le _⟩ rfl rfl hl.1 (Nat.le_of_ble_eq_true rfl) dX7_readItem_99 (fun H locs hW hS => ?_)
      refine lv_if_eq (tgt := 109) hC.1 hC.2.1 dX7_readItem_102 (by decide) (fun hc => ?_) (fun hc => ?_)
      · replace h := xt hc h
        refine lv_iconst (v := 0) hC.1 hC.2.1 dX7_readItem_109 (by decide) ?_
        obtain ⟨rfl, rfl⟩ := xr h
        exact x_zret hC hr hW hS (Or.inl rfl) dX7_readItem_110
      · replace h := xf hc h
        refine lv_iconst (v := 1) hC.1 hC.2.1 dX7_readItem_105 (by decide) ?_
        refine lv_goto (tgt := 110) hC.1 hC.2.1 dX7_readItem_106 (by decide) ?_
        obtain ⟨rfl, rfl⟩ := xr h
        exact x_zret hC hr hW hS (Or.inr rfl) dX7_readItem_110
  replace h := xf hc0 h
  by_cases hc1 : (S.1 1 4) = 100
  · replace h := xt hc1 h
    refine lv_lookup (off := 62) (tgt := 66) hC.1 hC.2.1 dX7_readItem_4 (by decide) (by rw [hc1]; decide) (by decide) ?_
    refine lv_aload_n hC.1 hC.2.1 dX7_readItem_66 rfl (lv_at hl 1 rfl) ?_
    refine x_get (C := RX2) (T := TX2) (N := 12) (v := _) hC hW 12 (by decide) rfl rfl uX2 1 (by decide) fl_X7_51 rfl rfl dX7_readItem_67 ?_
    refine lv_bipush (v := 8) hC.1 hC.2.1 dX7_readItem_70 (by decide) ?_
    refine lv_icmp_ge (tgt := 87) hC.1 hC.2.1 dX7_readItem_72 (by decide) (fun hc => ?_) (fun hc => ?_)
    · replace h := xt hc h
      refine lv_iconst (v := 0) hC.1 hC.2.1 dX7_readItem_87 (by decide) ?_
      obtain ⟨rfl, rfl⟩ := xr h
      exact x_zret hC hr hW hS (Or.inl rfl) dX7_readItem_88
    · replace h := xf hc h
      refine lv_aload_n hC.1 hC.2.1 dX7_readItem_75 rfl (lv_at hl 0 rfl) ?_
      refine lv_aload_n hC.1 hC.2.1 dX7_readItem_76 rfl (lv_at hl 1 rfl) ?_
      obtain ⟨⟨q77_r, q77_S⟩, hq, h⟩ := xb h
      try dsimp only at h
      refine x_callV (T := TX7) (N := 7) (As := [.ref (b + 12)]) (rest := []) hC hW hS 1 (c_X7_readDoor l D b cs _ _ _ hq) (by decide) rfl rfl mi_X7_readDoor in_X7_readDoor sl_X7_readDoor ml_X7_54 ⟨rfl, rfl⟩ ⟨Nat.le_of_ble_eq_true rfl, Nat.le_of_ble_eq_true rfl⟩ ⟨Nat.zero_le _, Nat.zero_le _⟩ rfl rfl hl.1 (Nat.le_of_ble_eq_true rfl) dX7_readItem_77 (fun H locs hW hS => ?_)
      refine lv_if_eq (tgt := 87) hC.1 hC.2.1 dX7_readItem_80 (by decide) (fun hc => ?_) (fun hc => ?_)
      · replace h := xt hc h
        refine lv_iconst (v := 0) hC.1 hC.2.1 dX7_readItem_87 (by decide) ?_
        obtain ⟨rfl, rfl⟩ := xr h
        exact x_zret hC hr hW hS (Or.inl rfl) dX7_readItem_88
      · replace h := xf hc h
        refine lv_iconst (v := 1) hC.1 hC.2.1 dX7_readItem_83 (by decide) ?_
        refine lv_goto (tgt := 88) hC.1 hC.2.1 dX7_readItem_84 (by decide) ?_
        obtain ⟨rfl, rfl⟩ := xr h
        exact x_zret hC hr hW hS (Or.inr rfl) dX7_readItem_88
  replace h := xf hc1 h
  by_cases hc2 : (S.1 1 4) = 110
  · replace h := xt hc2 h
    refine lv_lookup (off := 44) (tgt := 48) hC.1 hC.2.1 dX7_readItem_4 (by decide) (by rw [hc2]; decide) (by decide) ?_
    refine lv_iload_n hC.1 hC.2.1 dX7_readItem_48 rfl (lv_at hl 2 rfl) ?_
    refine lv_if_ne (tgt := 64) hC.1 hC.2.1 dX7_readItem_49 (by decide) (fun hc => ?_) (fun hc => ?_)
    · replace h := xf hc h
      refine lv_iconst (v := 0) hC.1 hC.2.1 dX7_readItem_64 (by decide) ?_
      obtain ⟨rfl, rfl⟩ := xr h
      exact x_zret hC hr hW hS (Or.inl rfl) dX7_readItem_65
    · replace h := xt hc h
      refine lv_aload_n hC.1 hC.2.1 dX7_readItem_52 rfl (lv_at hl 0 rfl) ?_
      refine lv_aload_n hC.1 hC.2.1 dX7_readItem_53 rfl (lv_at hl 1 rfl) ?_
      obtain ⟨⟨q54_r, q54_S⟩, hq, h⟩ := xb h
      try dsimp only at h
      refine x_callV (T := TX7) (N := 7) (As := [.ref (b + 12)]) (rest := []) hC hW hS 1 (c_X7_readPlaces l D b cs _ _ _ hq) (by decide) rfl rfl mi_X7_readPlaces in_X7_readPlaces sl_X7_readPlaces ml_X7_47 ⟨rfl, rfl⟩ ⟨Nat.le_of_ble_eq_true rfl, Nat.le_of_ble_eq_true rfl⟩ ⟨Nat.zero_le _, Nat.zero_le _⟩ rfl rfl hl.1 (Nat.le_of_ble_eq_true rfl) dX7_readItem_54 (fun H locs hW hS => ?_)
      refine lv_if_eq (tgt := 64) hC.1 hC.2.1 dX7_readItem_57 (by decide) (fun hc => ?_) (fun hc => ?_)
      · replace h := xt hc h
        refine lv_iconst (v := 0) hC.1 hC.2.1 dX7_readItem_64 (by decide) ?_
        obtain ⟨rfl, rfl⟩ := xr h
        exact x_zret hC hr hW hS (Or.inl rfl) dX7_readItem_65
      · replace h := xf hc h
        refine lv_iconst (v := 1) hC.1 hC.2.1 dX7_readItem_60 (by decide) ?_
        refine lv_goto (tgt := 65) hC.1 hC.2.1 dX7_readItem_61 (by decide) ?_
        obtain ⟨rfl, rfl⟩ := xr h
        exact x_zret hC hr hW hS (Or.inr rfl) dX7_readItem_65
  replace h := xf hc2 h
  by_cases hc3 : (S.1 1 4) = 115
  · replace h := xt hc3 h
    refine lv_lookup (off := 107) (tgt := 111) hC.1 hC.2.1 dX7_readItem_4 (by decide) (by rw [hc3]; decide) (by decide) ?_
    refine lv_aload_n hC.1 hC.2.1 dX7_readItem_111 rfl (lv_at hl 0 rfl) ?_
    refine x_get (C := RX7) (T := TX7) (N := 7) (v := _) hC hW 1 (by decide) rfl rfl uX7 6 (by decide) fl_X7_31 rfl rfl dX7_readItem_112 ?_
    refine lv_if_ne (tgt := 130) hC.1 hC.2.1 dX7_readItem_115 (by decide) (fun hc => ?_) (fun hc => ?_)
    · replace h := xf hc h
      refine lv_iconst (v := 0) hC.1 hC.2.1 dX7_readItem_130 (by decide) ?_
      obtain ⟨rfl, rfl⟩ := xr h
      exact x_zret hC hr hW hS (Or.inl rfl) dX7_readItem_131
    · replace h := xt hc h
      refine lv_aload_n hC.1 hC.2.1 dX7_readItem_118 rfl (lv_at hl 0 rfl) ?_
      refine lv_aload_n hC.1 hC.2.1 dX7_readItem_119 rfl (lv_at hl 1 rfl) ?_
      obtain ⟨⟨q120_r, q120_S⟩, hq, h⟩ := xb h
      try dsimp only at h
      refine x_callV (T := TX7) (N := 7) (As := [.ref (b + 12)]) (rest := []) hC hW hS 1 (c_X7_readStep l D b cs _ _ _ hq) (by decide) rfl rfl mi_X7_readStep in_X7_readStep sl_X7_readStep ml_X7_63 ⟨rfl, rfl⟩ ⟨Nat.le_of_ble_eq_true rfl, Nat.le_of_ble_eq_true rfl⟩ ⟨Nat.zero_le _, Nat.zero_le _⟩ rfl rfl hl.1 (Nat.le_of_ble_eq_true rfl) dX7_readItem_120 (fun H locs hW hS => ?_)
      refine lv_if_eq (tgt := 130) hC.1 hC.2.1 dX7_readItem_123 (by decide) (fun hc => ?_) (fun hc => ?_)
      · replace h := xt hc h
        refine lv_iconst (v := 0) hC.1 hC.2.1 dX7_readItem_130 (by decide) ?_
        obtain ⟨rfl, rfl⟩ := xr h
        exact x_zret hC hr hW hS (Or.inl rfl) dX7_readItem_131
      · replace h := xf hc h
        refine lv_iconst (v := 1) hC.1 hC.2.1 dX7_readItem_126 (by decide) ?_
        refine lv_goto (tgt := 131) hC.1 hC.2.1 dX7_readItem_127 (by decide) ?_
        obtain ⟨rfl, rfl⟩ := xr h
        exact x_zret hC hr hW hS (Or.inr rfl) dX7_readItem_131
  replace h := xf hc3 h
  refine lv_lookup (off := 128) (tgt := 132) hC.1 hC.2.1 dX7_readItem_4 (by decide) (by show Op.lookupswitch.offset [(98, 85), (100, 62), (110, 44), (115, 107)] (128) ((S.1 1 4)).toInt = (128); rw [lv_osw (a := 98) (k := 98) hc0 rfl, lv_osw (a := 100) (k := 100) hc1 rfl, lv_osw (a := 110) (k := 110) hc2 rfl, lv_osw (a := 115) (k := 115) hc3 rfl]; rfl) (by decide) ?_
  refine lv_iconst (v := 0) hC.1 hC.2.1 dX7_readItem_132 (by decide) ?_
  obtain ⟨rfl, rfl⟩ := xr h
  exact x_zret hC hr hW hS (Or.inl rfl) dX7_readItem_133
theorem dX7_readInto_0 : decode cX7_readInto 0 = .ok (.aload_n 1, 1) := by decide +kernel
theorem dX7_readInto_1 : decode cX7_readInto 1 = .ok (.invokevirtual 35, 3) := by decide +kernel
theorem dX7_readInto_4 : decode cX7_readInto 4 = .ok (.aload_n 0, 1) := by decide +kernel
theorem dX7_readInto_5 : decode cX7_readInto 5 = .ok (.iconst 0, 1) := by decide +kernel
theorem dX7_readInto_6 : decode cX7_readInto 6 = .ok (.putfield 19, 3) := by decide +kernel
theorem dX7_readInto_9 : decode cX7_readInto 9 = .ok (.aload_n 0, 1) := by decide +kernel
theorem dX7_readInto_10 : decode cX7_readInto 10 = .ok (.iconst 0, 1) := by decide +kernel
theorem dX7_readInto_11 : decode cX7_readInto 11 = .ok (.putfield 31, 3) := by decide +kernel
theorem dX7_readInto_14 : decode cX7_readInto 14 = .ok (.iconst 0, 1) := by decide +kernel
theorem dX7_readInto_15 : decode cX7_readInto 15 = .ok (.istore_n 2, 1) := by decide +kernel
theorem dX7_readInto_16 : decode cX7_readInto 16 = .ok (.iload_n 2, 1) := by decide +kernel
theorem dX7_readInto_17 : decode cX7_readInto 17 = .ok (.sipush 150, 3) := by decide +kernel
theorem dX7_readInto_20 : decode cX7_readInto 20 = .ok (.if_icmp .gt 40, 3) := by decide +kernel
theorem dX7_readInto_23 : decode cX7_readInto 23 = .ok (.aload_n 0, 1) := by decide +kernel
theorem dX7_readInto_24 : decode cX7_readInto 24 = .ok (.invokevirtual 40, 3) := by decide +kernel
theorem dX7_readInto_27 : decode cX7_readInto 27 = .ok (.aload_n 0, 1) := by decide +kernel
theorem dX7_readInto_28 : decode cX7_readInto 28 = .ok (.getfield 25, 3) := by decide +kernel
theorem dX7_readInto_31 : decode cX7_readInto 31 = .ok (.iconst (-1), 1) := by decide +kernel
theorem dX7_readInto_32 : decode cX7_readInto 32 = .ok (.if_icmp .ne 5, 3) := by decide +kernel
theorem dX7_readInto_35 : decode cX7_readInto 35 = .ok (.iload_n 2, 1) := by decide +kernel
theorem dX7_readInto_36 : decode cX7_readInto 36 = .ok (.ireturn, 1) := by decide +kernel
theorem dX7_readInto_37 : decode cX7_readInto 37 = .ok (.aload_n 0, 1) := by decide +kernel
theorem dX7_readInto_38 : decode cX7_readInto 38 = .ok (.aload_n 1, 1) := by decide +kernel
theorem dX7_readInto_39 : decode cX7_readInto 39 = .ok (.iload_n 2, 1) := by decide +kernel
theorem dX7_readInto_40 : decode cX7_readInto 40 = .ok (.invokevirtual 43, 3) := by decide +kernel
theorem dX7_readInto_43 : decode cX7_readInto 43 = .ok (.ifCond .ne 11, 3) := by decide +kernel
theorem dX7_readInto_46 : decode cX7_readInto 46 = .ok (.bipush (-10), 2) := by decide +kernel
theorem dX7_readInto_48 : decode cX7_readInto 48 = .ok (.aload_n 0, 1) := by decide +kernel
theorem dX7_readInto_49 : decode cX7_readInto 49 = .ok (.getfield 22, 3) := by decide +kernel
theorem dX7_readInto_52 : decode cX7_readInto 52 = .ok (.isub, 1) := by decide +kernel
theorem dX7_readInto_53 : decode cX7_readInto 53 = .ok (.ireturn, 1) := by decide +kernel
theorem dX7_readInto_54 : decode cX7_readInto 54 = .ok (.iinc 2 1, 3) := by decide +kernel
theorem dX7_readInto_57 : decode cX7_readInto 57 = .ok (.goto (-41), 3) := by decide +kernel
theorem dX7_readInto_60 : decode cX7_readInto 60 = .ok (.bipush (-10), 2) := by decide +kernel
theorem dX7_readInto_62 : decode cX7_readInto 62 = .ok (.aload_n 0, 1) := by decide +kernel
theorem dX7_readInto_63 : decode cX7_readInto 63 = .ok (.getfield 22, 3) := by decide +kernel
theorem dX7_readInto_66 : decode cX7_readInto 66 = .ok (.isub, 1) := by decide +kernel
theorem dX7_readInto_67 : decode cX7_readInto 67 = .ok (.ireturn, 1) := by decide +kernel
abbrev rX7_readInto : Room := { frames := 5, cells := 0, slots := 0, locals := 109 }
set_option maxHeartbeats 4000000 in
set_option maxRecDepth 100000 in
theorem w_X7_readInto_16 {p : Program} {l : Launch} {e : Env} {s : State} {m : MethodId} {args : Array Value} {below : List Frame} {meth : Method} {c : Code} {D : va_G} {b : Nat} {cs : Cs3} {r : Int32} {S1 : St} (hC : CX p s m args meth c RX7 cX7_readInto 3 D cs) (hr : meth.sig.returnType = (some .int)) : ∀ (n : Nat) (x2 : Int32) (S : St) (H : Heap) (locs : List Loc) (ls : Array Slot), q_X7_readInto_16 n x2 S = some (r, S1) → Wd D b cs S H → va_S (AA b) s.heap H locs → lv_has ls 3 [(0, .ref (b + 1)), (1, .ref (b + 12)), (2, .int x2)] → W p l e rX7_readInto s m args below meth c H locs 0 0 (MQ below (QX D b cs (some (.int r)) S1) args s 0 0 (AA b)) (F0 m 16 ls []) := by
  intro n
  induction n with
  | zero =>
    intro x2 S H locs ls h
    exact absurd h (by rw [q_X7_readInto_16]; exact fun q => nomatch q)
  | succ n IH =>
    intro x2 S H locs ls h hW hS hl
    rw [q_X7_readInto_16] at h
    refine lv_iload_n hC.1 hC.2.1 dX7_readInto_16 rfl (lv_at hl 2 rfl) ?_
    refine lv_sipush (v := 150) hC.1 hC.2.1 dX7_readInto_17 (by decide) ?_
    refine lv_icmp_gt (tgt := 60) hC.1 hC.2.1 dX7_readInto_20 (by decide) (fun hc => ?_) (fun hc => ?_)
    · replace h := xt hc h
      refine lv_bipush (v := -10) hC.1 hC.2.1 dX7_readInto_60 (by decide) ?_
      refine lv_aload_n hC.1 hC.2.1 dX7_readInto_62 rfl (lv_at hl 0 rfl) ?_
      refine x_get (C := RX7) (T := TX7) (N := 7) (v := _) hC hW 1 (by decide) rfl rfl uX7 3 (by decide) fl_X7_22 rfl rfl dX7_readInto_63 ?_
      refine lv_isub hC.1 hC.2.1 dX7_readInto_66 ?_
      obtain ⟨rfl, rfl⟩ := xr h
      exact x_iret hC hr hW hS dX7_readInto_67
    · replace h := xf hc h
      refine lv_aload_n hC.1 hC.2.1 dX7_readInto_23 rfl (lv_at hl 0 rfl) ?_
      obtain ⟨q24, hq, h⟩ := xb h
      try dsimp only at h
      refine x_callV (T := TX7) (N := 7) (As := []) (rest := []) hC hW hS 1 (c_X7_readToken l D b cs _ _ hq) (by decide) rfl rfl mi_X7_readToken in_X7_readToken sl_X7_readToken ml_X7_40 ⟨rfl, rfl⟩ ⟨Nat.le_of_ble_eq_true rfl, Nat.le_of_ble_eq_true rfl⟩ ⟨Nat.zero_le _, Nat.zero_le _⟩ rfl rfl hl.1 (Nat.le_of_ble_eq_true rfl) dX7_readInto_24 (fun H locs hW hS => ?_)
      refine lv_aload_n hC.1 hC.2.1 dX7_readInto_27 rfl (lv_at hl 0 rfl) ?_
      refine x_get (C := RX7) (T := TX7) (N := 7) (v := _) hC hW 1 (by decide) rfl rfl uX7 4 (by decide) fl_X7_25 rfl rfl dX7_readInto_28 ?_
      refine lv_iconst (v := -1) hC.1 hC.2.1 dX7_readInto_31 (by decide) ?_
      refine lv_icmp_ne (tgt := 37) hC.1 hC.2.1 dX7_readInto_32 (by decide) (fun hc => ?_) (fun hc => ?_)
      · replace h := xf hc h
        refine lv_aload_n hC.1 hC.2.1 dX7_readInto_37 rfl (lv_at hl 0 rfl) ?_
        refine lv_aload_n hC.1 hC.2.1 dX7_readInto_38 rfl (lv_at hl 1 rfl) ?_
        refine lv_iload_n hC.1 hC.2.1 dX7_readInto_39 rfl (lv_at hl 2 rfl) ?_
        obtain ⟨⟨q40_r, q40_S⟩, hq, h⟩ := xb h
        try dsimp only at h
        refine x_callV (T := TX7) (N := 7) (As := [.ref (b + 12), .int x2]) (rest := []) hC hW hS 1 (c_X7_readItem l D b cs _ _ _ _ hq) (by decide) rfl rfl mi_X7_readItem in_X7_readItem sl_X7_readItem ml_X7_43 ⟨rfl, rfl⟩ ⟨Nat.le_of_ble_eq_true rfl, Nat.le_of_ble_eq_true rfl⟩ ⟨Nat.zero_le _, Nat.zero_le _⟩ rfl rfl hl.1 (Nat.le_of_ble_eq_true rfl) dX7_readInto_40 (fun H locs hW hS => ?_)
        refine lv_if_ne (tgt := 54) hC.1 hC.2.1 dX7_readInto_43 (by decide) (fun hc => ?_) (fun hc => ?_)
        · replace h := xf hc h
          refine lv_iinc (v := x2 + 1) (lv' := [(2, .int (x2 + 1)), (0, .ref (b + 1)), (1, .ref (b + 12))]) hC.1 hC.2.1 dX7_readInto_54 hl (k := 2) rfl rfl (by decide) rfl (fun ls hl => ?_)
          refine lv_goto (tgt := 16) hC.1 hC.2.1 dX7_readInto_57 (by decide) ?_
          exact IH _ _ _ _ _ h hW hS (lv_sub hl [1, 2, 0] rfl)
        · replace h := xt hc h
          refine lv_bipush (v := -10) hC.1 hC.2.1 dX7_readInto_46 (by decide) ?_
          refine lv_aload_n hC.1 hC.2.1 dX7_readInto_48 rfl (lv_at hl 0 rfl) ?_
          refine x_get (C := RX7) (T := TX7) (N := 7) (v := _) hC hW 1 (by decide) rfl rfl uX7 3 (by decide) fl_X7_22 rfl rfl dX7_readInto_49 ?_
          refine lv_isub hC.1 hC.2.1 dX7_readInto_52 ?_
          obtain ⟨rfl, rfl⟩ := xr h
          exact x_iret hC hr hW hS dX7_readInto_53
      · replace h := xt hc h
        refine lv_iload_n hC.1 hC.2.1 dX7_readInto_35 rfl (lv_at hl 2 rfl) ?_
        obtain ⟨rfl, rfl⟩ := xr h
        exact x_iret hC hr hW hS dX7_readInto_36
set_option maxHeartbeats 4000000 in
set_option maxRecDepth 100000 in
theorem c_X7_readInto (l : Launch) (D : va_G) (b : Nat) (cs : Cs3) (S S1 : St) (r : Int32) (h : p_X7_readInto S = some (r, S1)) : Ct l yX7_readInto cX7_readInto 3 (some .int) rX7_readInto D b cs [.ref (b + 1), .ref (b + 12)] S (some (.int r)) S1 := by
  refine x_met (by decide +kernel) (Nat.le_of_ble_eq_true rfl) ?_
  intro p e s m below meth c ls hC hr hW hS hl
  have hl : lv_has ls 3 [(0, .ref (b + 1)), (1, .ref (b + 12))] := hl
  rw [p_X7_readInto] at h
  refine lv_aload_n hC.1 hC.2.1 dX7_readInto_0 rfl (lv_at hl 1 rfl) ?_
  obtain ⟨q1, hq, h⟩ := xb h
  try dsimp only at h
  refine x_callV (T := TX2) (N := 12) (As := []) (rest := []) hC hW hS 12 (c_X2_becomesEmpty l D b cs _ _ hq) (by decide) rfl rfl mi_X2_becomesEmpty in_X2_becomesEmpty sl_X2_becomesEmpty ml_X7_35 ⟨rfl, rfl⟩ ⟨Nat.le_of_ble_eq_true rfl, Nat.le_of_ble_eq_true rfl⟩ ⟨Nat.zero_le _, Nat.zero_le _⟩ rfl rfl hl.1 (Nat.le_of_ble_eq_true rfl) dX7_readInto_1 (fun H locs hW hS => ?_)
  refine lv_aload_n hC.1 hC.2.1 dX7_readInto_4 rfl (lv_at hl 0 rfl) ?_
  refine lv_iconst (v := 0) hC.1 hC.2.1 dX7_readInto_5 (by decide) ?_
  refine x_puti (C := RX7) (T := TX7) (N := 7) (ty := .int) hC hW hS 1 (by decide) rfl rfl uX7 tyX7 tyX7_ok nmX7 2 (by decide) fl_X7_19 rfl (by decide +kernel) rfl rfl rfl dX7_readInto_6 (fun H locs hW hS => ?_)
  refine lv_aload_n hC.1 hC.2.1 dX7_readInto_9 rfl (lv_at hl 0 rfl) ?_
  refine lv_iconst (v := 0) hC.1 hC.2.1 dX7_readInto_10 (by decide) ?_
  refine x_puti (C := RX7) (T := TX7) (N := 7) (ty := .boolean) hC hW hS 1 (by decide) rfl rfl uX7 tyX7 tyX7_ok nmX7 6 (by decide) fl_X7_31 rfl (by decide +kernel) rfl rfl rfl dX7_readInto_11 (fun H locs hW hS => ?_)
  refine lv_iconst (v := 0) hC.1 hC.2.1 dX7_readInto_14 (by decide) ?_
  refine lv_istore_n (lv' := [(2, .int (0 : Int32)), (0, .ref (b + 1)), (1, .ref (b + 12))]) hC.1 hC.2.1 dX7_readInto_15 rfl hl (by decide) rfl (fun ls hl => ?_)
  exact w_X7_readInto_16 hC hr _ _ _ _ _ _ h hW hS (lv_sub hl [1, 2, 0] rfl)
theorem dX8_beginsIn_0 : decode cX8_beginsIn 0 = .ok (.iconst 0, 1) := by decide +kernel
theorem dX8_beginsIn_1 : decode cX8_beginsIn 1 = .ok (.istore_n 2, 1) := by decide +kernel
theorem dX8_beginsIn_2 : decode cX8_beginsIn 2 = .ok (.iload_n 2, 1) := by decide +kernel
theorem dX8_beginsIn_3 : decode cX8_beginsIn 3 = .ok (.iconst 5, 1) := by decide +kernel
theorem dX8_beginsIn_4 : decode cX8_beginsIn 4 = .ok (.if_icmp .ge 40, 3) := by decide +kernel
theorem dX8_beginsIn_7 : decode cX8_beginsIn 7 = .ok (.aload_n 0, 1) := by decide +kernel
theorem dX8_beginsIn_8 : decode cX8_beginsIn 8 = .ok (.getfield 9, 3) := by decide +kernel
theorem dX8_beginsIn_11 : decode cX8_beginsIn 11 = .ok (.iload_n 2, 1) := by decide +kernel
theorem dX8_beginsIn_12 : decode cX8_beginsIn 12 = .ok (.aload_n 1, 1) := by decide +kernel
theorem dX8_beginsIn_13 : decode cX8_beginsIn 13 = .ok (.getfield 31, 3) := by decide +kernel
theorem dX8_beginsIn_16 : decode cX8_beginsIn 16 = .ok (.iload_n 2, 1) := by decide +kernel
theorem dX8_beginsIn_17 : decode cX8_beginsIn 17 = .ok (.iaload, 1) := by decide +kernel
theorem dX8_beginsIn_18 : decode cX8_beginsIn 18 = .ok (.iastore, 1) := by decide +kernel
theorem dX8_beginsIn_19 : decode cX8_beginsIn 19 = .ok (.aload_n 0, 1) := by decide +kernel
theorem dX8_beginsIn_20 : decode cX8_beginsIn 20 = .ok (.getfield 15, 3) := by decide +kernel
theorem dX8_beginsIn_23 : decode cX8_beginsIn 23 = .ok (.iload_n 2, 1) := by decide +kernel
theorem dX8_beginsIn_24 : decode cX8_beginsIn 24 = .ok (.aload_n 1, 1) := by decide +kernel
theorem dX8_beginsIn_25 : decode cX8_beginsIn 25 = .ok (.getfield 36, 3) := by decide +kernel
theorem dX8_beginsIn_28 : decode cX8_beginsIn 28 = .ok (.iload_n 2, 1) := by decide +kernel
theorem dX8_beginsIn_29 : decode cX8_beginsIn 29 = .ok (.iaload, 1) := by decide +kernel
theorem dX8_beginsIn_30 : decode cX8_beginsIn 30 = .ok (.iastore, 1) := by decide +kernel
theorem dX8_beginsIn_31 : decode cX8_beginsIn 31 = .ok (.aload_n 0, 1) := by decide +kernel
theorem dX8_beginsIn_32 : decode cX8_beginsIn 32 = .ok (.getfield 18, 3) := by decide +kernel
theorem dX8_beginsIn_35 : decode cX8_beginsIn 35 = .ok (.iload_n 2, 1) := by decide +kernel
theorem dX8_beginsIn_36 : decode cX8_beginsIn 36 = .ok (.iconst 0, 1) := by decide +kernel
theorem dX8_beginsIn_37 : decode cX8_beginsIn 37 = .ok (.iastore, 1) := by decide +kernel
theorem dX8_beginsIn_38 : decode cX8_beginsIn 38 = .ok (.iinc 2 1, 3) := by decide +kernel
theorem dX8_beginsIn_41 : decode cX8_beginsIn 41 = .ok (.goto (-39), 3) := by decide +kernel
theorem dX8_beginsIn_44 : decode cX8_beginsIn 44 = .ok (.iconst 0, 1) := by decide +kernel
theorem dX8_beginsIn_45 : decode cX8_beginsIn 45 = .ok (.istore_n 2, 1) := by decide +kernel
theorem dX8_beginsIn_46 : decode cX8_beginsIn 46 = .ok (.iload_n 2, 1) := by decide +kernel
theorem dX8_beginsIn_47 : decode cX8_beginsIn 47 = .ok (.bipush 8, 2) := by decide +kernel
theorem dX8_beginsIn_49 : decode cX8_beginsIn 49 = .ok (.if_icmp .ge 21, 3) := by decide +kernel
theorem dX8_beginsIn_52 : decode cX8_beginsIn 52 = .ok (.aload_n 0, 1) := by decide +kernel
theorem dX8_beginsIn_53 : decode cX8_beginsIn 53 = .ok (.getfield 21, 3) := by decide +kernel
theorem dX8_beginsIn_56 : decode cX8_beginsIn 56 = .ok (.iload_n 2, 1) := by decide +kernel
theorem dX8_beginsIn_57 : decode cX8_beginsIn 57 = .ok (.aload_n 1, 1) := by decide +kernel
theorem dX8_beginsIn_58 : decode cX8_beginsIn 58 = .ok (.getfield 37, 3) := by decide +kernel
theorem dX8_beginsIn_61 : decode cX8_beginsIn 61 = .ok (.iload_n 2, 1) := by decide +kernel
theorem dX8_beginsIn_62 : decode cX8_beginsIn 62 = .ok (.iaload, 1) := by decide +kernel
theorem dX8_beginsIn_63 : decode cX8_beginsIn 63 = .ok (.iastore, 1) := by decide +kernel
theorem dX8_beginsIn_64 : decode cX8_beginsIn 64 = .ok (.iinc 2 1, 3) := by decide +kernel
theorem dX8_beginsIn_67 : decode cX8_beginsIn 67 = .ok (.goto (-21), 3) := by decide +kernel
theorem dX8_beginsIn_70 : decode cX8_beginsIn 70 = .ok (.aload_n 0, 1) := by decide +kernel
theorem dX8_beginsIn_71 : decode cX8_beginsIn 71 = .ok (.iconst 0, 1) := by decide +kernel
theorem dX8_beginsIn_72 : decode cX8_beginsIn 72 = .ok (.putfield 24, 3) := by decide +kernel
theorem dX8_beginsIn_75 : decode cX8_beginsIn 75 = .ok (.aload_n 0, 1) := by decide +kernel
theorem dX8_beginsIn_76 : decode cX8_beginsIn 76 = .ok (.iconst 0, 1) := by decide +kernel
theorem dX8_beginsIn_77 : decode cX8_beginsIn 77 = .ok (.putfield 28, 3) := by decide +kernel
theorem dX8_beginsIn_80 : decode cX8_beginsIn 80 = .ok (.return_, 1) := by decide +kernel
abbrev rX8_beginsIn : Room := { frames := 0, cells := 0, slots := 0, locals := 0 }
set_option maxHeartbeats 4000000 in
set_option maxRecDepth 100000 in
theorem w_X8_beginsIn_46 {p : Program} {l : Launch} {e : Env} {s : State} {m : MethodId} {args : Array Value} {below : List Frame} {meth : Method} {c : Code} {D : va_G} {b : Nat} {cs : Cs3} {S1 : St} (hC : CX p s m args meth c RX8 cX8_beginsIn 3 D cs) (hr : meth.sig.returnType = none) : ∀ (n : Nat) (x2 : Int32) (S : St) (H : Heap) (locs : List Loc) (ls : Array Slot), q_X8_beginsIn_46 n x2 S = some S1 → Wd D b cs S H → va_S (AA b) s.heap H locs → lv_has ls 3 [(0, .ref (b + 21)), (1, .ref (b + 3)), (2, .int x2)] → W p l e rX8_beginsIn s m args below meth c H locs 0 0 (MQ below (QX D b cs none S1) args s 0 0 (AA b)) (F0 m 46 ls []) := by
  intro n
  induction n with
  | zero =>
    intro x2 S H locs ls h
    exact absurd h (by rw [q_X8_beginsIn_46]; exact fun q => nomatch q)
  | succ n IH =>
    intro x2 S H locs ls h hW hS hl
    rw [q_X8_beginsIn_46] at h
    refine lv_iload_n hC.1 hC.2.1 dX8_beginsIn_46 rfl (lv_at hl 2 rfl) ?_
    refine lv_bipush (v := 8) hC.1 hC.2.1 dX8_beginsIn_47 (by decide) ?_
    refine lv_icmp_ge (tgt := 70) hC.1 hC.2.1 dX8_beginsIn_49 (by decide) (fun hc => ?_) (fun hc => ?_)
    · replace h := xt hc h
      refine lv_aload_n hC.1 hC.2.1 dX8_beginsIn_70 rfl (lv_at hl 0 rfl) ?_
      refine lv_iconst (v := 0) hC.1 hC.2.1 dX8_beginsIn_71 (by decide) ?_
      refine x_puti (C := RX8) (T := TX8) (N := 6) (ty := .int) hC hW hS 21 (by decide) rfl rfl uX8 tyX8 tyX8_ok nmX8 4 (by decide) fl_X8_24 rfl (by decide +kernel) rfl rfl rfl dX8_beginsIn_72 (fun H locs hW hS => ?_)
      refine lv_aload_n hC.1 hC.2.1 dX8_beginsIn_75 rfl (lv_at hl 0 rfl) ?_
      refine lv_iconst (v := 0) hC.1 hC.2.1 dX8_beginsIn_76 (by decide) ?_
      refine x_puti (C := RX8) (T := TX8) (N := 6) (ty := .int) hC hW hS 21 (by decide) rfl rfl uX8 tyX8 tyX8_ok nmX8 5 (by decide) fl_X8_28 rfl (by decide +kernel) rfl rfl rfl dX8_beginsIn_77 (fun H locs hW hS => ?_)
      obtain rfl := Option.some.inj h
      exact x_vret hC hr hW hS dX8_beginsIn_80
    · replace h := xf hc h
      refine lv_aload_n hC.1 hC.2.1 dX8_beginsIn_52 rfl (lv_at hl 0 rfl) ?_
      refine x_get (C := RX8) (T := TX8) (N := 6) (v := _) hC hW 21 (by decide) rfl rfl uX8 3 (by decide) fl_X8_21 rfl rfl dX8_beginsIn_53 ?_
      refine lv_iload_n hC.1 hC.2.1 dX8_beginsIn_56 rfl (lv_at hl 2 rfl) ?_
      refine lv_aload_n hC.1 hC.2.1 dX8_beginsIn_57 rfl (lv_at hl 1 rfl) ?_
      refine x_get (C := RX2) (T := TX2) (N := 12) (v := _) hC hW 3 (by decide) rfl rfl uX2 6 (by decide) fl_X8_37 rfl rfl dX8_beginsIn_58 ?_
      refine lv_iload_n hC.1 hC.2.1 dX8_beginsIn_61 rfl (lv_at hl 2 rfl) ?_
      obtain ⟨hi, h⟩ := xg h
      refine x_iald hC hW 6 (by decide) rfl hi dX8_beginsIn_62 ?_
      obtain ⟨hi, h⟩ := xg h
      refine x_iast hC hW hS 25 (by decide) rfl hi dX8_beginsIn_63 (fun H locs hW hS => ?_)
      refine lv_iinc (v := x2 + 1) (lv' := [(2, .int (x2 + 1)), (0, .ref (b + 21)), (1, .ref (b + 3))]) hC.1 hC.2.1 dX8_beginsIn_64 hl (k := 2) rfl rfl (by decide) rfl (fun ls hl => ?_)
      refine lv_goto (tgt := 46) hC.1 hC.2.1 dX8_beginsIn_67 (by decide) ?_
      exact IH _ _ _ _ _ h hW hS (lv_sub hl [1, 2, 0] rfl)
set_option maxHeartbeats 4000000 in
set_option maxRecDepth 100000 in
theorem w_X8_beginsIn_2 {p : Program} {l : Launch} {e : Env} {s : State} {m : MethodId} {args : Array Value} {below : List Frame} {meth : Method} {c : Code} {D : va_G} {b : Nat} {cs : Cs3} {S1 : St} (hC : CX p s m args meth c RX8 cX8_beginsIn 3 D cs) (hr : meth.sig.returnType = none) : ∀ (n : Nat) (x2 : Int32) (S : St) (H : Heap) (locs : List Loc) (ls : Array Slot), q_X8_beginsIn_2 n x2 S = some S1 → Wd D b cs S H → va_S (AA b) s.heap H locs → lv_has ls 3 [(0, .ref (b + 21)), (1, .ref (b + 3)), (2, .int x2)] → W p l e rX8_beginsIn s m args below meth c H locs 0 0 (MQ below (QX D b cs none S1) args s 0 0 (AA b)) (F0 m 2 ls []) := by
  intro n
  induction n with
  | zero =>
    intro x2 S H locs ls h
    exact absurd h (by rw [q_X8_beginsIn_2]; exact fun q => nomatch q)
  | succ n IH =>
    intro x2 S H locs ls h hW hS hl
    rw [q_X8_beginsIn_2] at h
    refine lv_iload_n hC.1 hC.2.1 dX8_beginsIn_2 rfl (lv_at hl 2 rfl) ?_
    refine lv_iconst (v := 5) hC.1 hC.2.1 dX8_beginsIn_3 (by decide) ?_
    refine lv_icmp_ge (tgt := 44) hC.1 hC.2.1 dX8_beginsIn_4 (by decide) (fun hc => ?_) (fun hc => ?_)
    · replace h := xt hc h
      refine lv_iconst (v := 0) hC.1 hC.2.1 dX8_beginsIn_44 (by decide) ?_
      refine lv_istore_n (lv' := [(2, .int (0 : Int32)), (0, .ref (b + 21)), (1, .ref (b + 3))]) hC.1 hC.2.1 dX8_beginsIn_45 rfl hl (by decide) rfl (fun ls hl => ?_)
      exact w_X8_beginsIn_46 hC hr _ _ _ _ _ _ h hW hS (lv_sub hl [1, 2, 0] rfl)
    · replace h := xf hc h
      refine lv_aload_n hC.1 hC.2.1 dX8_beginsIn_7 rfl (lv_at hl 0 rfl) ?_
      refine x_get (C := RX8) (T := TX8) (N := 6) (v := _) hC hW 21 (by decide) rfl rfl uX8 0 (by decide) fl_X8_9 rfl rfl dX8_beginsIn_8 ?_
      refine lv_iload_n hC.1 hC.2.1 dX8_beginsIn_11 rfl (lv_at hl 2 rfl) ?_
      refine lv_aload_n hC.1 hC.2.1 dX8_beginsIn_12 rfl (lv_at hl 1 rfl) ?_
      refine x_get (C := RX2) (T := TX2) (N := 12) (v := _) hC hW 3 (by decide) rfl rfl uX2 11 (by decide) fl_X8_31 rfl rfl dX8_beginsIn_13 ?_
      refine lv_iload_n hC.1 hC.2.1 dX8_beginsIn_16 rfl (lv_at hl 2 rfl) ?_
      obtain ⟨hi, h⟩ := xg h
      refine x_iald hC hW 11 (by decide) rfl hi dX8_beginsIn_17 ?_
      obtain ⟨hi, h⟩ := xg h
      refine x_iast hC hW hS 22 (by decide) rfl hi dX8_beginsIn_18 (fun H locs hW hS => ?_)
      refine lv_aload_n hC.1 hC.2.1 dX8_beginsIn_19 rfl (lv_at hl 0 rfl) ?_
      refine x_get (C := RX8) (T := TX8) (N := 6) (v := _) hC hW 21 (by decide) rfl rfl uX8 1 (by decide) fl_X8_15 rfl rfl dX8_beginsIn_20 ?_
      refine lv_iload_n hC.1 hC.2.1 dX8_beginsIn_23 rfl (lv_at hl 2 rfl) ?_
      refine lv_aload_n hC.1 hC.2.1 dX8_beginsIn_24 rfl (lv_at hl 1 rfl) ?_
      refine x_get (C := RX2) (T := TX2) (N := 12) (v := _) hC hW 3 (by decide) rfl rfl uX2 9 (by decide) fl_X8_36 rfl rfl dX8_beginsIn_25 ?_
      refine lv_iload_n hC.1 hC.2.1 dX8_beginsIn_28 rfl (lv_at hl 2 rfl) ?_
      obtain ⟨hi, h⟩ := xg h
      refine x_iald hC hW 9 (by decide) rfl hi dX8_beginsIn_29 ?_
      obtain ⟨hi, h⟩ := xg h
      refine x_iast hC hW hS 23 (by decide) rfl hi dX8_beginsIn_30 (fun H locs hW hS => ?_)
      refine lv_aload_n hC.1 hC.2.1 dX8_beginsIn_31 rfl (lv_at hl 0 rfl) ?_
      refine x_get (C := RX8) (T := TX8) (N := 6) (v := _) hC hW 21 (by decide) rfl rfl uX8 2 (by decide) fl_X8_18 rfl rfl dX8_beginsIn_32 ?_
      refine lv_iload_n hC.1 hC.2.1 dX8_beginsIn_35 rfl (lv_at hl 2 rfl) ?_
      refine lv_iconst (v := 0) hC.1 hC.2.1 dX8_beginsIn_36 (by decide) ?_
      obtain ⟨hi, h⟩ := xg h
      refine x_iast hC hW hS 24 (by decide) rfl hi dX8_beginsIn_37 (fun H locs hW hS => ?_)
      refine lv_iinc (v := x2 + 1) (lv' := [(2, .int (x2 + 1)), (0, .ref (b + 21)), (1, .ref (b + 3))]) hC.1 hC.2.1 dX8_beginsIn_38 hl (k := 2) rfl rfl (by decide) rfl (fun ls hl => ?_)
      refine lv_goto (tgt := 2) hC.1 hC.2.1 dX8_beginsIn_41 (by decide) ?_
      exact IH _ _ _ _ _ h hW hS (lv_sub hl [1, 2, 0] rfl)
set_option maxHeartbeats 4000000 in
set_option maxRecDepth 100000 in
theorem c_X8_beginsIn (l : Launch) (D : va_G) (b : Nat) (cs : Cs3) (S S1 : St) (h : p_X8_beginsIn S = some S1) : Ct l yX8_beginsIn cX8_beginsIn 3 none rX8_beginsIn D b cs [.ref (b + 21), .ref (b + 3)] S none S1 := by
  refine x_met (by decide +kernel) (Nat.le_of_ble_eq_true rfl) ?_
  intro p e s m below meth c ls hC hr hW hS hl
  have hl : lv_has ls 3 [(0, .ref (b + 21)), (1, .ref (b + 3))] := hl
  rw [p_X8_beginsIn] at h
  refine lv_iconst (v := 0) hC.1 hC.2.1 dX8_beginsIn_0 (by decide) ?_
  refine lv_istore_n (lv' := [(2, .int (0 : Int32)), (0, .ref (b + 21)), (1, .ref (b + 3))]) hC.1 hC.2.1 dX8_beginsIn_1 rfl hl (by decide) rfl (fun ls hl => ?_)
  exact w_X8_beginsIn_2 hC hr _ _ _ _ _ _ h hW hS (lv_sub hl [1, 2, 0] rfl)
theorem dX9_type_0 : decode cX9_type 0 = .ok (.iload_n 1, 1) := by decide +kernel
theorem dX9_type_1 : decode cX9_type 1 = .ok (.iconst 0, 1) := by decide +kernel
theorem dX9_type_2 : decode cX9_type 2 = .ok (.sipush 255, 3) := by decide +kernel
theorem dX9_type_5 : decode cX9_type 5 = .ok (.invokestatic 87, 3) := by decide +kernel
theorem dX9_type_8 : decode cX9_type 8 = .ok (.ifCond .ne 5, 3) := by decide +kernel
theorem dX9_type_11 : decode cX9_type 11 = .ok (.iconst (-1), 1) := by decide +kernel
theorem dX9_type_12 : decode cX9_type 12 = .ok (.ireturn, 1) := by decide +kernel
theorem dX9_type_13 : decode cX9_type 13 = .ok (.aload_n 0, 1) := by decide +kernel
theorem dX9_type_14 : decode cX9_type 14 = .ok (.getfield 10, 3) := by decide +kernel
theorem dX9_type_17 : decode cX9_type 17 = .ok (.getfield 91, 3) := by decide +kernel
theorem dX9_type_20 : decode cX9_type 20 = .ok (.sipush 150, 3) := by decide +kernel
theorem dX9_type_23 : decode cX9_type 23 = .ok (.if_icmp .lt 6, 3) := by decide +kernel
theorem dX9_type_26 : decode cX9_type 26 = .ok (.bipush (-3), 2) := by decide +kernel
theorem dX9_type_28 : decode cX9_type 28 = .ok (.ireturn, 1) := by decide +kernel
theorem dX9_type_29 : decode cX9_type 29 = .ok (.aload_n 0, 1) := by decide +kernel
theorem dX9_type_30 : decode cX9_type 30 = .ok (.getfield 10, 3) := by decide +kernel
theorem dX9_type_33 : decode cX9_type 33 = .ok (.getfield 95, 3) := by decide +kernel
theorem dX9_type_36 : decode cX9_type 36 = .ok (.aload_n 0, 1) := by decide +kernel
theorem dX9_type_37 : decode cX9_type 37 = .ok (.getfield 10, 3) := by decide +kernel
theorem dX9_type_40 : decode cX9_type 40 = .ok (.getfield 91, 3) := by decide +kernel
theorem dX9_type_43 : decode cX9_type 43 = .ok (.iload_n 1, 1) := by decide +kernel
theorem dX9_type_44 : decode cX9_type 44 = .ok (.iastore, 1) := by decide +kernel
theorem dX9_type_45 : decode cX9_type 45 = .ok (.aload_n 0, 1) := by decide +kernel
theorem dX9_type_46 : decode cX9_type 46 = .ok (.getfield 10, 3) := by decide +kernel
theorem dX9_type_49 : decode cX9_type 49 = .ok (.dup, 1) := by decide +kernel
theorem dX9_type_50 : decode cX9_type 50 = .ok (.getfield 91, 3) := by decide +kernel
theorem dX9_type_53 : decode cX9_type 53 = .ok (.iconst 1, 1) := by decide +kernel
theorem dX9_type_54 : decode cX9_type 54 = .ok (.iadd, 1) := by decide +kernel
theorem dX9_type_55 : decode cX9_type 55 = .ok (.putfield 91, 3) := by decide +kernel
theorem dX9_type_58 : decode cX9_type 58 = .ok (.aload_n 0, 1) := by decide +kernel
theorem dX9_type_59 : decode cX9_type 59 = .ok (.getfield 10, 3) := by decide +kernel
theorem dX9_type_62 : decode cX9_type 62 = .ok (.getfield 91, 3) := by decide +kernel
theorem dX9_type_65 : decode cX9_type 65 = .ok (.ireturn, 1) := by decide +kernel
abbrev rX9_type : Room := { frames := 1, cells := 0, slots := 0, locals := 22 }
set_option maxHeartbeats 4000000 in
set_option maxRecDepth 100000 in
theorem c_X9_type (l : Launch) (D : va_G) (b : Nat) (cs : Cs3) (x1 : Int32) (S S1 : St) (r : Int32) (h : p_X9_type x1 S = some (r, S1)) : Ct l yX9_type cX9_type 2 (some .int) rX9_type D b cs [.ref (b + 0), .int x1] S (some (.int r)) S1 := by
  refine x_met (by decide +kernel) (Nat.le_of_ble_eq_true rfl) ?_
  intro p e s m below meth c ls hC hr hW hS hl
  have hl : lv_has ls 2 [(0, .ref (b + 0)), (1, .int x1)] := hl
  rw [p_X9_type] at h
  refine lv_iload_n hC.1 hC.2.1 dX9_type_0 rfl (lv_at hl 1 rfl) ?_
  refine lv_iconst (v := 0) hC.1 hC.2.1 dX9_type_1 (by decide) ?_
  refine lv_sipush (v := 255) hC.1 hC.2.1 dX9_type_2 (by decide) ?_
  obtain ⟨⟨q5_r, q5_S⟩, hq, h⟩ := xb h
  try dsimp only at h
  refine x_callS (As := [.int x1, .int (0 : Int32), .int (255 : Int32)]) (rest := []) hC hW hS (c_X9_within l D b cs _ _ _ _ _ _ hq) mi_X9_within st_X9_within ml_X9_87 ⟨rfl, rfl⟩ ⟨Nat.le_of_ble_eq_true rfl, Nat.le_of_ble_eq_true rfl⟩ ⟨Nat.zero_le _, Nat.zero_le _⟩ rfl rfl hl.1 (Nat.le_of_ble_eq_true rfl) dX9_type_5 (fun H locs hW hS => ?_)
  refine lv_if_ne (tgt := 13) hC.1 hC.2.1 dX9_type_8 (by decide) (fun hc => ?_) (fun hc => ?_)
  · replace h := xf hc h
    refine lv_aload_n hC.1 hC.2.1 dX9_type_13 rfl (lv_at hl 0 rfl) ?_
    refine x_get (C := RX9) (T := TX9) (N := 12) (v := _) hC hW 0 (by decide) rfl rfl uX9 0 (by decide) fl_X9_10 rfl rfl dX9_type_14 ?_
    refine x_get (C := RX7) (T := TX7) (N := 7) (v := _) hC hW 1 (by decide) rfl rfl uX7 1 (by decide) fl_X9_91 rfl rfl dX9_type_17 ?_
    refine lv_sipush (v := 150) hC.1 hC.2.1 dX9_type_20 (by decide) ?_
    refine lv_icmp_lt (tgt := 29) hC.1 hC.2.1 dX9_type_23 (by decide) (fun hc => ?_) (fun hc => ?_)
    · replace h := xt hc h
      refine lv_aload_n hC.1 hC.2.1 dX9_type_29 rfl (lv_at hl 0 rfl) ?_
      refine x_get (C := RX9) (T := TX9) (N := 12) (v := _) hC hW 0 (by decide) rfl rfl uX9 0 (by decide) fl_X9_10 rfl rfl dX9_type_30 ?_
      refine x_get (C := RX7) (T := TX7) (N := 7) (v := _) hC hW 1 (by decide) rfl rfl uX7 0 (by decide) fl_X9_95 rfl rfl dX9_type_33 ?_
      refine lv_aload_n hC.1 hC.2.1 dX9_type_36 rfl (lv_at hl 0 rfl) ?_
      refine x_get (C := RX9) (T := TX9) (N := 12) (v := _) hC hW 0 (by decide) rfl rfl uX9 0 (by decide) fl_X9_10 rfl rfl dX9_type_37 ?_
      refine x_get (C := RX7) (T := TX7) (N := 7) (v := _) hC hW 1 (by decide) rfl rfl uX7 1 (by decide) fl_X9_91 rfl rfl dX9_type_40 ?_
      refine lv_iload_n hC.1 hC.2.1 dX9_type_43 rfl (lv_at hl 1 rfl) ?_
      obtain ⟨hi, h⟩ := xg h
      refine x_iast hC hW hS 2 (by decide) rfl hi dX9_type_44 (fun H locs hW hS => ?_)
      refine lv_aload_n hC.1 hC.2.1 dX9_type_45 rfl (lv_at hl 0 rfl) ?_
      refine x_get (C := RX9) (T := TX9) (N := 12) (v := _) hC hW 0 (by decide) rfl rfl uX9 0 (by decide) fl_X9_10 rfl rfl dX9_type_46 ?_
      refine lv_dup hC.1 hC.2.1 dX9_type_49 rfl ?_
      refine x_get (C := RX7) (T := TX7) (N := 7) (v := _) hC hW 1 (by decide) rfl rfl uX7 1 (by decide) fl_X9_91 rfl rfl dX9_type_50 ?_
      refine lv_iconst (v := 1) hC.1 hC.2.1 dX9_type_53 (by decide) ?_
      refine lv_iadd hC.1 hC.2.1 dX9_type_54 ?_
      refine x_puti (C := RX7) (T := TX7) (N := 7) (ty := .int) hC hW hS 1 (by decide) rfl rfl uX7 tyX7 tyX7_ok nmX7 1 (by decide) fl_X9_91 rfl (by decide +kernel) rfl rfl rfl dX9_type_55 (fun H locs hW hS => ?_)
      refine lv_aload_n hC.1 hC.2.1 dX9_type_58 rfl (lv_at hl 0 rfl) ?_
      refine x_get (C := RX9) (T := TX9) (N := 12) (v := _) hC hW 0 (by decide) rfl rfl uX9 0 (by decide) fl_X9_10 rfl rfl dX9_type_59 ?_
      refine x_get (C := RX7) (T := TX7) (N := 7) (v := _) hC hW 1 (by decide) rfl rfl uX7 1 (by decide) fl_X9_91 rfl rfl dX9_type_62 ?_
      obtain ⟨rfl, rfl⟩ := xr h
      exact x_iret hC hr hW hS dX9_type_65
    · replace h := xf hc h
      refine lv_bipush (v := -3) hC.1 hC.2.1 dX9_type_26 (by decide) ?_
      obtain ⟨rfl, rfl⟩ := xr h
      exact x_iret hC hr hW hS dX9_type_28
  · replace h := xt hc h
    refine lv_iconst (v := -1) hC.1 hC.2.1 dX9_type_11 (by decide) ?_
    obtain ⟨rfl, rfl⟩ := xr h
    exact x_iret hC hr hW hS dX9_type_12
theorem dX9_clear_0 : decode cX9_clear 0 = .ok (.aload_n 0, 1) := by decide +kernel
theorem dX9_clear_1 : decode cX9_clear 1 = .ok (.getfield 10, 3) := by decide +kernel
theorem dX9_clear_4 : decode cX9_clear 4 = .ok (.getfield 91, 3) := by decide +kernel
theorem dX9_clear_7 : decode cX9_clear 7 = .ok (.istore_n 1, 1) := by decide +kernel
theorem dX9_clear_8 : decode cX9_clear 8 = .ok (.aload_n 0, 1) := by decide +kernel
theorem dX9_clear_9 : decode cX9_clear 9 = .ok (.getfield 10, 3) := by decide +kernel
theorem dX9_clear_12 : decode cX9_clear 12 = .ok (.iconst 0, 1) := by decide +kernel
theorem dX9_clear_13 : decode cX9_clear 13 = .ok (.putfield 91, 3) := by decide +kernel
theorem dX9_clear_16 : decode cX9_clear 16 = .ok (.iload_n 1, 1) := by decide +kernel
theorem dX9_clear_17 : decode cX9_clear 17 = .ok (.ireturn, 1) := by decide +kernel
abbrev rX9_clear : Room := { frames := 0, cells := 0, slots := 0, locals := 0 }
set_option maxHeartbeats 4000000 in
set_option maxRecDepth 100000 in
theorem c_X9_clear (l : Launch) (D : va_G) (b : Nat) (cs : Cs3) (S S1 : St) (r : Int32) (h : p_X9_clear S = some (r, S1)) : Ct l yX9_clear cX9_clear 2 (some .int) rX9_clear D b cs [.ref (b + 0)] S (some (.int r)) S1 := by
  refine x_met (by decide +kernel) (Nat.le_of_ble_eq_true rfl) ?_
  intro p e s m below meth c ls hC hr hW hS hl
  have hl : lv_has ls 2 [(0, .ref (b + 0))] := hl
  rw [p_X9_clear] at h
  refine lv_aload_n hC.1 hC.2.1 dX9_clear_0 rfl (lv_at hl 0 rfl) ?_
  refine x_get (C := RX9) (T := TX9) (N := 12) (v := _) hC hW 0 (by decide) rfl rfl uX9 0 (by decide) fl_X9_10 rfl rfl dX9_clear_1 ?_
  refine x_get (C := RX7) (T := TX7) (N := 7) (v := _) hC hW 1 (by decide) rfl rfl uX7 1 (by decide) fl_X9_91 rfl rfl dX9_clear_4 ?_
  refine lv_istore_n (lv' := [(1, .int (S.1 1 1)), (0, .ref (b + 0))]) hC.1 hC.2.1 dX9_clear_7 rfl hl (by decide) rfl (fun ls hl => ?_)
  refine lv_aload_n hC.1 hC.2.1 dX9_clear_8 rfl (lv_at hl 1 rfl) ?_
  refine x_get (C := RX9) (T := TX9) (N := 12) (v := _) hC hW 0 (by decide) rfl rfl uX9 0 (by decide) fl_X9_10 rfl rfl dX9_clear_9 ?_
  refine lv_iconst (v := 0) hC.1 hC.2.1 dX9_clear_12 (by decide) ?_
  refine x_puti (C := RX7) (T := TX7) (N := 7) (ty := .int) hC hW hS 1 (by decide) rfl rfl uX7 tyX7 tyX7_ok nmX7 1 (by decide) fl_X9_91 rfl (by decide +kernel) rfl rfl rfl dX9_clear_13 (fun H locs hW hS => ?_)
  refine lv_iload_n hC.1 hC.2.1 dX9_clear_16 rfl (lv_at hl 0 rfl) ?_
  obtain ⟨rfl, rfl⟩ := xr h
  exact x_iret hC hr hW hS dX9_clear_17
theorem dX9_city_0 : decode cX9_city 0 = .ok (.aload_n 0, 1) := by decide +kernel
theorem dX9_city_1 : decode cX9_city 1 = .ok (.getfield 10, 3) := by decide +kernel
theorem dX9_city_4 : decode cX9_city 4 = .ok (.aload_n 0, 1) := by decide +kernel
theorem dX9_city_5 : decode cX9_city 5 = .ok (.getfield 23, 3) := by decide +kernel
theorem dX9_city_8 : decode cX9_city 8 = .ok (.invokevirtual 99, 3) := by decide +kernel
theorem dX9_city_11 : decode cX9_city 11 = .ok (.istore_n 1, 1) := by decide +kernel
theorem dX9_city_12 : decode cX9_city 12 = .ok (.iload_n 1, 1) := by decide +kernel
theorem dX9_city_13 : decode cX9_city 13 = .ok (.ifCond .ge 5, 3) := by decide +kernel
theorem dX9_city_16 : decode cX9_city 16 = .ok (.iload_n 1, 1) := by decide +kernel
theorem dX9_city_17 : decode cX9_city 17 = .ok (.ireturn, 1) := by decide +kernel
theorem dX9_city_18 : decode cX9_city 18 = .ok (.aload_n 0, 1) := by decide +kernel
theorem dX9_city_19 : decode cX9_city 19 = .ok (.getfield 10, 3) := by decide +kernel
theorem dX9_city_22 : decode cX9_city 22 = .ok (.iconst 0, 1) := by decide +kernel
theorem dX9_city_23 : decode cX9_city 23 = .ok (.putfield 91, 3) := by decide +kernel
theorem dX9_city_26 : decode cX9_city 26 = .ok (.aload_n 0, 1) := by decide +kernel
theorem dX9_city_27 : decode cX9_city 27 = .ok (.getfield 19, 3) := by decide +kernel
theorem dX9_city_30 : decode cX9_city 30 = .ok (.aload_n 0, 1) := by decide +kernel
theorem dX9_city_31 : decode cX9_city 31 = .ok (.getfield 23, 3) := by decide +kernel
theorem dX9_city_34 : decode cX9_city 34 = .ok (.invokevirtual 103, 3) := by decide +kernel
theorem dX9_city_37 : decode cX9_city 37 = .ok (.aload_n 0, 1) := by decide +kernel
theorem dX9_city_38 : decode cX9_city 38 = .ok (.getfield 29, 3) := by decide +kernel
theorem dX9_city_41 : decode cX9_city 41 = .ok (.aload_n 0, 1) := by decide +kernel
theorem dX9_city_42 : decode cX9_city 42 = .ok (.getfield 19, 3) := by decide +kernel
theorem dX9_city_45 : decode cX9_city 45 = .ok (.invokevirtual 107, 3) := by decide +kernel
theorem dX9_city_48 : decode cX9_city 48 = .ok (.aload_n 0, 1) := by decide +kernel
theorem dX9_city_49 : decode cX9_city 49 = .ok (.getfield 36, 3) := by decide +kernel
theorem dX9_city_52 : decode cX9_city 52 = .ok (.iconst 0, 1) := by decide +kernel
theorem dX9_city_53 : decode cX9_city 53 = .ok (.putfield 110, 3) := by decide +kernel
theorem dX9_city_56 : decode cX9_city 56 = .ok (.aload_n 0, 1) := by decide +kernel
theorem dX9_city_57 : decode cX9_city 57 = .ok (.getfield 76, 3) := by decide +kernel
theorem dX9_city_60 : decode cX9_city 60 = .ok (.iconst 0, 1) := by decide +kernel
theorem dX9_city_61 : decode cX9_city 61 = .ok (.putfield 113, 3) := by decide +kernel
theorem dX9_city_64 : decode cX9_city 64 = .ok (.iconst 0, 1) := by decide +kernel
theorem dX9_city_65 : decode cX9_city 65 = .ok (.istore_n 2, 1) := by decide +kernel
theorem dX9_city_66 : decode cX9_city 66 = .ok (.iload_n 2, 1) := by decide +kernel
theorem dX9_city_67 : decode cX9_city 67 = .ok (.iconst 2, 1) := by decide +kernel
theorem dX9_city_68 : decode cX9_city 68 = .ok (.if_icmp .ge 16, 3) := by decide +kernel
theorem dX9_city_71 : decode cX9_city 71 = .ok (.aload_n 0, 1) := by decide +kernel
theorem dX9_city_72 : decode cX9_city 72 = .ok (.getfield 44, 3) := by decide +kernel
theorem dX9_city_75 : decode cX9_city 75 = .ok (.iload_n 2, 1) := by decide +kernel
theorem dX9_city_76 : decode cX9_city 76 = .ok (.iconst 0, 1) := by decide +kernel
theorem dX9_city_77 : decode cX9_city 77 = .ok (.bastore, 1) := by decide +kernel
theorem dX9_city_78 : decode cX9_city 78 = .ok (.iinc 2 1, 3) := by decide +kernel
theorem dX9_city_81 : decode cX9_city 81 = .ok (.goto (-15), 3) := by decide +kernel
theorem dX9_city_84 : decode cX9_city 84 = .ok (.iload_n 1, 1) := by decide +kernel
theorem dX9_city_85 : decode cX9_city 85 = .ok (.ireturn, 1) := by decide +kernel
abbrev rX9_city : Room := { frames := 6, cells := 0, slots := 0, locals := 131 }
set_option maxHeartbeats 4000000 in
set_option maxRecDepth 100000 in
theorem w_X9_city_66 {p : Program} {l : Launch} {e : Env} {s : State} {m : MethodId} {args : Array Value} {below : List Frame} {meth : Method} {c : Code} {D : va_G} {b : Nat} {cs : Cs3} {r : Int32} {S1 : St} (hC : CX p s m args meth c RX9 cX9_city 3 D cs) (hr : meth.sig.returnType = (some .int)) : ∀ (n : Nat) (x1 : Int32) (x2 : Int32) (S : St) (H : Heap) (locs : List Loc) (ls : Array Slot), q_X9_city_66 n x1 x2 S = some (r, S1) → Wd D b cs S H → va_S (AA b) s.heap H locs → lv_has ls 3 [(0, .ref (b + 0)), (1, .int x1), (2, .int x2)] → W p l e rX9_city s m args below meth c H locs 0 0 (MQ below (QX D b cs (some (.int r)) S1) args s 0 0 (AA b)) (F0 m 66 ls []) := by
  intro n
  induction n with
  | zero =>
    intro x1 x2 S H locs ls h
    exact absurd h (by rw [q_X9_city_66]; exact fun q => nomatch q)
  | succ n IH =>
    intro x1 x2 S H locs ls h hW hS hl
    rw [q_X9_city_66] at h
    refine lv_iload_n hC.1 hC.2.1 dX9_city_66 rfl (lv_at hl 2 rfl) ?_
    refine lv_iconst (v := 2) hC.1 hC.2.1 dX9_city_67 (by decide) ?_
    refine lv_icmp_ge (tgt := 84) hC.1 hC.2.1 dX9_city_68 (by decide) (fun hc => ?_) (fun hc => ?_)
    · replace h := xt hc h
      refine lv_iload_n hC.1 hC.2.1 dX9_city_84 rfl (lv_at hl 1 rfl) ?_
      obtain ⟨rfl, rfl⟩ := xr h
      exact x_iret hC hr hW hS dX9_city_85
    · replace h := xf hc h
      refine lv_aload_n hC.1 hC.2.1 dX9_city_71 rfl (lv_at hl 0 rfl) ?_
      refine x_get (C := RX9) (T := TX9) (N := 12) (v := _) hC hW 0 (by decide) rfl rfl uX9 6 (by decide) fl_X9_44 rfl rfl dX9_city_72 ?_
      refine lv_iload_n hC.1 hC.2.1 dX9_city_75 rfl (lv_at hl 2 rfl) ?_
      refine lv_iconst (v := 0) hC.1 hC.2.1 dX9_city_76 (by decide) ?_
      obtain ⟨hi, h⟩ := xg h
      refine x_zast hC hW hS 89 (by decide) rfl hi rfl dX9_city_77 (fun H locs hW hS => ?_)
      refine lv_iinc (v := x2 + 1) (lv' := [(2, .int (x2 + 1)), (0, .ref (b + 0)), (1, .int x1)]) hC.1 hC.2.1 dX9_city_78 hl (k := 2) rfl rfl (by decide) rfl (fun ls hl => ?_)
      refine lv_goto (tgt := 66) hC.1 hC.2.1 dX9_city_81 (by decide) ?_
      exact IH _ _ _ _ _ _ h hW hS (lv_sub hl [1, 2, 0] rfl)
set_option maxHeartbeats 4000000 in
set_option maxRecDepth 100000 in
theorem c_X9_city (l : Launch) (D : va_G) (b : Nat) (cs : Cs3) (S S1 : St) (r : Int32) (h : p_X9_city S = some (r, S1)) : Ct l yX9_city cX9_city 3 (some .int) rX9_city D b cs [.ref (b + 0)] S (some (.int r)) S1 := by
  refine x_met (by decide +kernel) (Nat.le_of_ble_eq_true rfl) ?_
  intro p e s m below meth c ls hC hr hW hS hl
  have hl : lv_has ls 3 [(0, .ref (b + 0))] := hl
  rw [p_X9_city] at h
  refine lv_aload_n hC.1 hC.2.1 dX9_city_0 rfl (lv_at hl 0 rfl) ?_
  refine x_get (C := RX9) (T := TX9) (N := 12) (v := _) hC hW 0 (by decide) rfl rfl uX9 0 (by decide) fl_X9_10 rfl rfl dX9_city_1 ?_
  refine lv_aload_n hC.1 hC.2.1 dX9_city_4 rfl (lv_at hl 0 rfl) ?_
  refine x_get (C := RX9) (T := TX9) (N := 12) (v := _) hC hW 0 (by decide) rfl rfl uX9 2 (by decide) fl_X9_23 rfl rfl dX9_city_5 ?_
  obtain ⟨⟨q8_r, q8_S⟩, hq, h⟩ := xb h
  try dsimp only at h
  refine x_callV (T := TX7) (N := 7) (As := [.ref (b + 12)]) (rest := []) hC hW hS 1 (c_X7_readInto l D b cs _ _ _ hq) (by decide) rfl rfl mi_X7_readInto in_X7_readInto sl_X7_readInto ml_X9_99 ⟨rfl, rfl⟩ ⟨Nat.le_of_ble_eq_true rfl, Nat.le_of_ble_eq_true rfl⟩ ⟨Nat.zero_le _, Nat.zero_le _⟩ rfl rfl hl.1 (Nat.le_of_ble_eq_true rfl) dX9_city_8 (fun H locs hW hS => ?_)
  refine lv_istore_n (lv' := [(1, .int q8_r), (0, .ref (b + 0))]) hC.1 hC.2.1 dX9_city_11 rfl hl (by decide) rfl (fun ls hl => ?_)
  refine lv_iload_n hC.1 hC.2.1 dX9_city_12 rfl (lv_at hl 0 rfl) ?_
  refine lv_if_ge (tgt := 18) hC.1 hC.2.1 dX9_city_13 (by decide) (fun hc => ?_) (fun hc => ?_)
  · replace h := xt hc h
    refine lv_aload_n hC.1 hC.2.1 dX9_city_18 rfl (lv_at hl 1 rfl) ?_
    refine x_get (C := RX9) (T := TX9) (N := 12) (v := _) hC hW 0 (by decide) rfl rfl uX9 0 (by decide) fl_X9_10 rfl rfl dX9_city_19 ?_
    refine lv_iconst (v := 0) hC.1 hC.2.1 dX9_city_22 (by decide) ?_
    refine x_puti (C := RX7) (T := TX7) (N := 7) (ty := .int) hC hW hS 1 (by decide) rfl rfl uX7 tyX7 tyX7_ok nmX7 1 (by decide) fl_X9_91 rfl (by decide +kernel) rfl rfl rfl dX9_city_23 (fun H locs hW hS => ?_)
    refine lv_aload_n hC.1 hC.2.1 dX9_city_26 rfl (lv_at hl 1 rfl) ?_
    refine x_get (C := RX9) (T := TX9) (N := 12) (v := _) hC hW 0 (by decide) rfl rfl uX9 1 (by decide) fl_X9_19 rfl rfl dX9_city_27 ?_
    refine lv_aload_n hC.1 hC.2.1 dX9_city_30 rfl (lv_at hl 1 rfl) ?_
    refine x_get (C := RX9) (T := TX9) (N := 12) (v := _) hC hW 0 (by decide) rfl rfl uX9 2 (by decide) fl_X9_23 rfl rfl dX9_city_31 ?_
    obtain ⟨q34, hq, h⟩ := xb h
    try dsimp only at h
    refine x_callV (T := TX2) (N := 12) (As := [.ref (b + 12)]) (rest := []) hC hW hS 3 (c_X2_becomes l D b cs _ _ hq) (by decide) rfl rfl mi_X2_becomes in_X2_becomes sl_X2_becomes ml_X9_103 ⟨rfl, rfl⟩ ⟨Nat.le_of_ble_eq_true rfl, Nat.le_of_ble_eq_true rfl⟩ ⟨Nat.zero_le _, Nat.zero_le _⟩ rfl rfl hl.1 (Nat.le_of_ble_eq_true rfl) dX9_city_34 (fun H locs hW hS => ?_)
    refine lv_aload_n hC.1 hC.2.1 dX9_city_37 rfl (lv_at hl 1 rfl) ?_
    refine x_get (C := RX9) (T := TX9) (N := 12) (v := _) hC hW 0 (by decide) rfl rfl uX9 3 (by decide) fl_X9_29 rfl rfl dX9_city_38 ?_
    refine lv_aload_n hC.1 hC.2.1 dX9_city_41 rfl (lv_at hl 1 rfl) ?_
    refine x_get (C := RX9) (T := TX9) (N := 12) (v := _) hC hW 0 (by decide) rfl rfl uX9 1 (by decide) fl_X9_19 rfl rfl dX9_city_42 ?_
    obtain ⟨q45, hq, h⟩ := xb h
    try dsimp only at h
    refine x_callV (T := TX8) (N := 6) (As := [.ref (b + 3)]) (rest := []) hC hW hS 21 (c_X8_beginsIn l D b cs _ _ hq) (by decide) rfl rfl mi_X8_beginsIn in_X8_beginsIn sl_X8_beginsIn ml_X9_107 ⟨rfl, rfl⟩ ⟨Nat.le_of_ble_eq_true rfl, Nat.le_of_ble_eq_true rfl⟩ ⟨Nat.zero_le _, Nat.zero_le _⟩ rfl rfl hl.1 (Nat.le_of_ble_eq_true rfl) dX9_city_45 (fun H locs hW hS => ?_)
    refine lv_aload_n hC.1 hC.2.1 dX9_city_48 rfl (lv_at hl 1 rfl) ?_
    refine x_get (C := RX9) (T := TX9) (N := 12) (v := _) hC hW 0 (by decide) rfl rfl uX9 4 (by decide) fl_X9_36 rfl rfl dX9_city_49 ?_
    refine lv_iconst (v := 0) hC.1 hC.2.1 dX9_city_52 (by decide) ?_
    refine x_puti (C := RX6) (T := TX6) (N := 3) (ty := .int) hC hW hS 26 (by decide) rfl rfl uX6 tyX6 tyX6_ok nmX6 2 (by decide) fl_X9_110 rfl (by decide +kernel) rfl rfl rfl dX9_city_53 (fun H locs hW hS => ?_)
    refine lv_aload_n hC.1 hC.2.1 dX9_city_56 rfl (lv_at hl 1 rfl) ?_
    refine x_get (C := RX9) (T := TX9) (N := 12) (v := _) hC hW 0 (by decide) rfl rfl uX9 10 (by decide) fl_X9_76 rfl rfl dX9_city_57 ?_
    refine lv_iconst (v := 0) hC.1 hC.2.1 dX9_city_60 (by decide) ?_
    refine x_puti (C := RX3) (T := TX3) (N := 4) (ty := .int) hC hW hS 95 (by decide) rfl rfl uX3 tyX3 tyX3_ok nmX3 3 (by decide) fl_X9_113 rfl (by decide +kernel) rfl rfl rfl dX9_city_61 (fun H locs hW hS => ?_)
    refine lv_iconst (v := 0) hC.1 hC.2.1 dX9_city_64 (by decide) ?_
    refine lv_istore_n (lv' := [(2, .int (0 : Int32)), (1, .int q8_r), (0, .ref (b + 0))]) hC.1 hC.2.1 dX9_city_65 rfl hl (by decide) rfl (fun ls hl => ?_)
    exact w_X9_city_66 hC hr _ _ _ _ _ _ _ h hW hS (lv_sub hl [2, 1, 0] rfl)
  · replace h := xf hc h
    refine lv_iload_n hC.1 hC.2.1 dX9_city_16 rfl (lv_at hl 0 rfl) ?_
    obtain ⟨rfl, rfl⟩ := xr h
    exact x_iret hC hr hW hS dX9_city_17
theorem dX9_isDoor_0 : decode cX9_isDoor 0 = .ok (.iload_n 1, 1) := by decide +kernel
theorem dX9_isDoor_1 : decode cX9_isDoor 1 = .ok (.iconst 0, 1) := by decide +kernel
theorem dX9_isDoor_2 : decode cX9_isDoor 2 = .ok (.aload_n 0, 1) := by decide +kernel
theorem dX9_isDoor_3 : decode cX9_isDoor 3 = .ok (.getfield 19, 3) := by decide +kernel
theorem dX9_isDoor_6 : decode cX9_isDoor 6 = .ok (.getfield 200, 3) := by decide +kernel
theorem dX9_isDoor_9 : decode cX9_isDoor 9 = .ok (.iconst 1, 1) := by decide +kernel
theorem dX9_isDoor_10 : decode cX9_isDoor 10 = .ok (.isub, 1) := by decide +kernel
theorem dX9_isDoor_11 : decode cX9_isDoor 11 = .ok (.invokestatic 87, 3) := by decide +kernel
theorem dX9_isDoor_14 : decode cX9_isDoor 14 = .ok (.ireturn, 1) := by decide +kernel
abbrev rX9_isDoor : Room := { frames := 1, cells := 0, slots := 0, locals := 22 }
set_option maxHeartbeats 4000000 in
set_option maxRecDepth 100000 in
theorem c_X9_isDoor (l : Launch) (D : va_G) (b : Nat) (cs : Cs3) (x1 : Int32) (S S1 : St) (r : Int32) (h : p_X9_isDoor x1 S = some (r, S1)) : Ct l yX9_isDoor cX9_isDoor 2 (some .boolean) rX9_isDoor D b cs [.ref (b + 0), .int x1] S (some (.int r)) S1 := by
  refine x_met (by decide +kernel) (Nat.le_of_ble_eq_true rfl) ?_
  intro p e s m below meth c ls hC hr hW hS hl
  have hl : lv_has ls 2 [(0, .ref (b + 0)), (1, .int x1)] := hl
  rw [p_X9_isDoor] at h
  refine lv_iload_n hC.1 hC.2.1 dX9_isDoor_0 rfl (lv_at hl 1 rfl) ?_
  refine lv_iconst (v := 0) hC.1 hC.2.1 dX9_isDoor_1 (by decide) ?_
  refine lv_aload_n hC.1 hC.2.1 dX9_isDoor_2 rfl (lv_at hl 0 rfl) ?_
  refine x_get (C := RX9) (T := TX9) (N := 12) (v := _) hC hW 0 (by decide) rfl rfl uX9 1 (by decide) fl_X9_19 rfl rfl dX9_isDoor_3 ?_
  refine x_get (C := RX2) (T := TX2) (N := 12) (v := _) hC hW 3 (by decide) rfl rfl uX2 1 (by decide) fl_X9_200 rfl rfl dX9_isDoor_6 ?_
  refine lv_iconst (v := 1) hC.1 hC.2.1 dX9_isDoor_9 (by decide) ?_
  refine lv_isub hC.1 hC.2.1 dX9_isDoor_10 ?_
  obtain ⟨⟨q11_r, q11_S⟩, hq, h⟩ := xb h
  try dsimp only at h
  refine x_callS (As := [.int x1, .int (0 : Int32), .int ((S.1 3 1) - (1 : Int32))]) (rest := []) hC hW hS (c_X9_within l D b cs _ _ _ _ _ _ hq) mi_X9_within st_X9_within ml_X9_87 ⟨rfl, rfl⟩ ⟨Nat.le_of_ble_eq_true rfl, Nat.le_of_ble_eq_true rfl⟩ ⟨Nat.zero_le _, Nat.zero_le _⟩ rfl rfl hl.1 (Nat.le_of_ble_eq_true rfl) dX9_isDoor_11 (fun H locs hW hS => ?_)
  obtain ⟨hv, h⟩ := xg h
  obtain ⟨rfl, rfl⟩ := xr h
  exact x_zret hC hr hW hS hv dX9_isDoor_14
theorem dX9_door_0 : decode cX9_door 0 = .ok (.aload_n 0, 1) := by decide +kernel
theorem dX9_door_1 : decode cX9_door 1 = .ok (.iload_n 1, 1) := by decide +kernel
theorem dX9_door_2 : decode cX9_door 2 = .ok (.invokevirtual 116, 3) := by decide +kernel
theorem dX9_door_5 : decode cX9_door 5 = .ok (.ifCond .ne 5, 3) := by decide +kernel
theorem dX9_door_8 : decode cX9_door 8 = .ok (.iconst (-1), 1) := by decide +kernel
theorem dX9_door_9 : decode cX9_door 9 = .ok (.ireturn, 1) := by decide +kernel
theorem dX9_door_10 : decode cX9_door 10 = .ok (.iload_n 2, 1) := by decide +kernel
theorem dX9_door_11 : decode cX9_door 11 = .ok (.tableswitch 84 0 4 #[33, 43, 53, 63, 75], 33) := by decide +kernel
theorem dX9_door_44 : decode cX9_door 44 = .ok (.aload_n 0, 1) := by decide +kernel
theorem dX9_door_45 : decode cX9_door 45 = .ok (.getfield 19, 3) := by decide +kernel
theorem dX9_door_48 : decode cX9_door 48 = .ok (.getfield 120, 3) := by decide +kernel
theorem dX9_door_51 : decode cX9_door 51 = .ok (.iload_n 1, 1) := by decide +kernel
theorem dX9_door_52 : decode cX9_door 52 = .ok (.iaload, 1) := by decide +kernel
theorem dX9_door_53 : decode cX9_door 53 = .ok (.ireturn, 1) := by decide +kernel
theorem dX9_door_54 : decode cX9_door 54 = .ok (.aload_n 0, 1) := by decide +kernel
theorem dX9_door_55 : decode cX9_door 55 = .ok (.getfield 19, 3) := by decide +kernel
theorem dX9_door_58 : decode cX9_door 58 = .ok (.getfield 123, 3) := by decide +kernel
theorem dX9_door_61 : decode cX9_door 61 = .ok (.iload_n 1, 1) := by decide +kernel
theorem dX9_door_62 : decode cX9_door 62 = .ok (.iaload, 1) := by decide +kernel
theorem dX9_door_63 : decode cX9_door 63 = .ok (.ireturn, 1) := by decide +kernel
theorem dX9_door_64 : decode cX9_door 64 = .ok (.aload_n 0, 1) := by decide +kernel
theorem dX9_door_65 : decode cX9_door 65 = .ok (.getfield 29, 3) := by decide +kernel
theorem dX9_door_68 : decode cX9_door 68 = .ok (.getfield 126, 3) := by decide +kernel
theorem dX9_door_71 : decode cX9_door 71 = .ok (.iload_n 1, 1) := by decide +kernel
theorem dX9_door_72 : decode cX9_door 72 = .ok (.iaload, 1) := by decide +kernel
theorem dX9_door_73 : decode cX9_door 73 = .ok (.ireturn, 1) := by decide +kernel
theorem dX9_door_74 : decode cX9_door 74 = .ok (.aload_n 0, 1) := by decide +kernel
theorem dX9_door_75 : decode cX9_door 75 = .ok (.getfield 29, 3) := by decide +kernel
theorem dX9_door_78 : decode cX9_door 78 = .ok (.getfield 129, 3) := by decide +kernel
theorem dX9_door_81 : decode cX9_door 81 = .ok (.iload_n 1, 1) := by decide +kernel
theorem dX9_door_82 : decode cX9_door 82 = .ok (.ishr, 1) := by decide +kernel
theorem dX9_door_83 : decode cX9_door 83 = .ok (.iconst 1, 1) := by decide +kernel
theorem dX9_door_84 : decode cX9_door 84 = .ok (.iand, 1) := by decide +kernel
theorem dX9_door_85 : decode cX9_door 85 = .ok (.ireturn, 1) := by decide +kernel
theorem dX9_door_86 : decode cX9_door 86 = .ok (.aload_n 0, 1) := by decide +kernel
theorem dX9_door_87 : decode cX9_door 87 = .ok (.getfield 53, 3) := by decide +kernel
theorem dX9_door_90 : decode cX9_door 90 = .ok (.iload_n 1, 1) := by decide +kernel
theorem dX9_door_91 : decode cX9_door 91 = .ok (.invokevirtual 132, 3) := by decide +kernel
theorem dX9_door_94 : decode cX9_door 94 = .ok (.ireturn, 1) := by decide +kernel
theorem dX9_door_95 : decode cX9_door 95 = .ok (.iconst (-1), 1) := by decide +kernel
theorem dX9_door_96 : decode cX9_door 96 = .ok (.ireturn, 1) := by decide +kernel
abbrev rX9_door : Room := { frames := 5, cells := 0, slots := 0, locals := 112 }
set_option maxHeartbeats 4000000 in
set_option maxRecDepth 100000 in
theorem c_X9_door (l : Launch) (D : va_G) (b : Nat) (cs : Cs3) (x1 : Int32) (x2 : Int32) (S S1 : St) (r : Int32) (h : p_X9_door x1 x2 S = some (r, S1)) : Ct l yX9_door cX9_door 3 (some .int) rX9_door D b cs [.ref (b + 0), .int x1, .int x2] S (some (.int r)) S1 := by
  refine x_met (by decide +kernel) (Nat.le_of_ble_eq_true rfl) ?_
  intro p e s m below meth c ls hC hr hW hS hl
  have hl : lv_has ls 3 [(0, .ref (b + 0)), (1, .int x1), (2, .int x2)] := hl
  rw [p_X9_door] at h
  refine lv_aload_n hC.1 hC.2.1 dX9_door_0 rfl (lv_at hl 0 rfl) ?_
  refine lv_iload_n hC.1 hC.2.1 dX9_door_1 rfl (lv_at hl 1 rfl) ?_
  obtain ⟨⟨q2_r, q2_S⟩, hq, h⟩ := xb h
  try dsimp only at h
  refine x_callV (T := TX9) (N := 12) (As := [.int x1]) (rest := []) hC hW hS 0 (c_X9_isDoor l D b cs _ _ _ _ hq) (by decide) rfl rfl mi_X9_isDoor in_X9_isDoor sl_X9_isDoor ml_X9_116 ⟨rfl, rfl⟩ ⟨Nat.le_of_ble_eq_true rfl, Nat.le_of_ble_eq_true rfl⟩ ⟨Nat.zero_le _, Nat.zero_le _⟩ rfl rfl hl.1 (Nat.le_of_ble_eq_true rfl) dX9_door_2 (fun H locs hW hS => ?_)
  refine lv_if_ne (tgt := 10) hC.1 hC.2.1 dX9_door_5 (by decide) (fun hc => ?_) (fun hc => ?_)
  · replace h := xf hc h
    refine lv_iload_n hC.1 hC.2.1 dX9_door_10 rfl (lv_at hl 2 rfl) ?_
    by_cases hc0 : x2 = 0
    · replace h := xt hc0 h
      refine lv_tableIn (off := 33) (tgt := 44) hC.1 hC.2.1 dX9_door_11 (by rw [hc0]; decide) (by rw [hc0]; decide) (by rw [hc0]; rfl) (by decide) ?_
      refine lv_aload_n hC.1 hC.2.1 dX9_door_44 rfl (lv_at hl 0 rfl) ?_
      refine x_get (C := RX9) (T := TX9) (N := 12) (v := _) hC hW 0 (by decide) rfl rfl uX9 1 (by decide) fl_X9_19 rfl rfl dX9_door_45 ?_
      refine x_get (C := RX2) (T := TX2) (N := 12) (v := _) hC hW 3 (by decide) rfl rfl uX2 4 (by decide) fl_X9_120 rfl rfl dX9_door_48 ?_
      refine lv_iload_n hC.1 hC.2.1 dX9_door_51 rfl (lv_at hl 1 rfl) ?_
      obtain ⟨hi, h⟩ := xg h
      refine x_iald hC hW 4 (by decide) rfl hi dX9_door_52 ?_
      obtain ⟨rfl, rfl⟩ := xr h
      exact x_iret hC hr hW hS dX9_door_53
    replace h := xf hc0 h
    by_cases hc1 : x2 = 1
    · replace h := xt hc1 h
      refine lv_tableIn (off := 43) (tgt := 54) hC.1 hC.2.1 dX9_door_11 (by rw [hc1]; decide) (by rw [hc1]; decide) (by rw [hc1]; rfl) (by decide) ?_
      refine lv_aload_n hC.1 hC.2.1 dX9_door_54 rfl (lv_at hl 0 rfl) ?_
      refine x_get (C := RX9) (T := TX9) (N := 12) (v := _) hC hW 0 (by decide) rfl rfl uX9 1 (by decide) fl_X9_19 rfl rfl dX9_door_55 ?_
      refine x_get (C := RX2) (T := TX2) (N := 12) (v := _) hC hW 3 (by decide) rfl rfl uX2 5 (by decide) fl_X9_123 rfl rfl dX9_door_58 ?_
      refine lv_iload_n hC.1 hC.2.1 dX9_door_61 rfl (lv_at hl 1 rfl) ?_
      obtain ⟨hi, h⟩ := xg h
      refine x_iald hC hW 5 (by decide) rfl hi dX9_door_62 ?_
      obtain ⟨rfl, rfl⟩ := xr h
      exact x_iret hC hr hW hS dX9_door_63
    replace h := xf hc1 h
    by_cases hc2 : x2 = 2
    · replace h := xt hc2 h
      refine lv_tableIn (off := 53) (tgt := 64) hC.1 hC.2.1 dX9_door_11 (by rw [hc2]; decide) (by rw [hc2]; decide) (by rw [hc2]; rfl) (by decide) ?_
      refine lv_aload_n hC.1 hC.2.1 dX9_door_64 rfl (lv_at hl 0 rfl) ?_
      refine x_get (C := RX9) (T := TX9) (N := 12) (v := _) hC hW 0 (by decide) rfl rfl uX9 3 (by decide) fl_X9_29 rfl rfl dX9_door_65 ?_
      refine x_get (C := RX8) (T := TX8) (N := 6) (v := _) hC hW 21 (by decide) rfl rfl uX8 3 (by decide) fl_X9_126 rfl rfl dX9_door_68 ?_
      refine lv_iload_n hC.1 hC.2.1 dX9_door_71 rfl (lv_at hl 1 rfl) ?_
      obtain ⟨hi, h⟩ := xg h
      refine x_iald hC hW 25 (by decide) rfl hi dX9_door_72 ?_
      obtain ⟨rfl, rfl⟩ := xr h
      exact x_iret hC hr hW hS dX9_door_73
    replace h := xf hc2 h
    by_cases hc3 : x2 = 3
    · replace h := xt hc3 h
      refine lv_tableIn (off := 63) (tgt := 74) hC.1 hC.2.1 dX9_door_11 (by rw [hc3]; decide) (by rw [hc3]; decide) (by rw [hc3]; rfl) (by decide) ?_
      refine lv_aload_n hC.1 hC.2.1 dX9_door_74 rfl (lv_at hl 0 rfl) ?_
      refine x_get (C := RX9) (T := TX9) (N := 12) (v := _) hC hW 0 (by decide) rfl rfl uX9 3 (by decide) fl_X9_29 rfl rfl dX9_door_75 ?_
      refine x_get (C := RX8) (T := TX8) (N := 6) (v := _) hC hW 21 (by decide) rfl rfl uX8 4 (by decide) fl_X9_129 rfl rfl dX9_door_78 ?_
      refine lv_iload_n hC.1 hC.2.1 dX9_door_81 rfl (lv_at hl 1 rfl) ?_
      refine lv_ishr hC.1 hC.2.1 dX9_door_82 ?_
      refine lv_iconst (v := 1) hC.1 hC.2.1 dX9_door_83 (by decide) ?_
      refine lv_iand hC.1 hC.2.1 dX9_door_84 ?_
      obtain ⟨rfl, rfl⟩ := xr h
      exact x_iret hC hr hW hS dX9_door_85
    replace h := xf hc3 h
    by_cases hc4 : x2 = 4
    · replace h := xt hc4 h
      refine lv_tableIn (off := 75) (tgt := 86) hC.1 hC.2.1 dX9_door_11 (by rw [hc4]; decide) (by rw [hc4]; decide) (by rw [hc4]; rfl) (by decide) ?_
      refine lv_aload_n hC.1 hC.2.1 dX9_door_86 rfl (lv_at hl 0 rfl) ?_
      refine x_get (C := RX9) (T := TX9) (N := 12) (v := _) hC hW 0 (by decide) rfl rfl uX9 7 (by decide) fl_X9_53 rfl rfl dX9_door_87 ?_
      refine lv_iload_n hC.1 hC.2.1 dX9_door_90 rfl (lv_at hl 1 rfl) ?_
      obtain ⟨⟨q91_r, q91_S⟩, hq, h⟩ := xb h
      try dsimp only at h
      refine x_callV (T := TX1) (N := 2) (As := [.int x1]) (rest := []) hC hW hS 90 (c_X1_openers l D b cs _ _ _ _ hq) (by decide) rfl rfl mi_X1_openers in_X1_openers sl_X1_openers ml_X9_132 ⟨rfl, rfl⟩ ⟨Nat.le_of_ble_eq_true rfl, Nat.le_of_ble_eq_true rfl⟩ ⟨Nat.zero_le _, Nat.zero_le _⟩ rfl rfl hl.1 (Nat.le_of_ble_eq_true rfl) dX9_door_91 (fun H locs hW hS => ?_)
      obtain ⟨rfl, rfl⟩ := xr h
      exact x_iret hC hr hW hS dX9_door_94
    replace h := xf hc4 h
    have hn0 : ¬ (x2).toInt = 0 := lv_neT hc0 rfl
    have hn1 : ¬ (x2).toInt = 1 := lv_neT hc1 rfl
    have hn2 : ¬ (x2).toInt = 2 := lv_neT hc2 rfl
    have hn3 : ¬ (x2).toInt = 3 := lv_neT hc3 rfl
    have hn4 : ¬ (x2).toInt = 4 := lv_neT hc4 rfl
    refine lv_tableOut (tgt := 95) hC.1 hC.2.1 dX9_door_11 (by omega) (by decide) ?_
    refine lv_iconst (v := -1) hC.1 hC.2.1 dX9_door_95 (by decide) ?_
    obtain ⟨rfl, rfl⟩ := xr h
    exact x_iret hC hr hW hS dX9_door_96
  · replace h := xt hc h
    refine lv_iconst (v := -1) hC.1 hC.2.1 dX9_door_8 (by decide) ?_
    obtain ⟨rfl, rfl⟩ := xr h
    exact x_iret hC hr hW hS dX9_door_9
theorem dX9_isBoy_0 : decode cX9_isBoy 0 = .ok (.iload_n 1, 1) := by decide +kernel
theorem dX9_isBoy_1 : decode cX9_isBoy 1 = .ok (.iconst 0, 1) := by decide +kernel
theorem dX9_isBoy_2 : decode cX9_isBoy 2 = .ok (.aload_n 0, 1) := by decide +kernel
theorem dX9_isBoy_3 : decode cX9_isBoy 3 = .ok (.getfield 19, 3) := by decide +kernel
theorem dX9_isBoy_6 : decode cX9_isBoy 6 = .ok (.getfield 197, 3) := by decide +kernel
theorem dX9_isBoy_9 : decode cX9_isBoy 9 = .ok (.iconst 1, 1) := by decide +kernel
theorem dX9_isBoy_10 : decode cX9_isBoy 10 = .ok (.isub, 1) := by decide +kernel
theorem dX9_isBoy_11 : decode cX9_isBoy 11 = .ok (.invokestatic 87, 3) := by decide +kernel
theorem dX9_isBoy_14 : decode cX9_isBoy 14 = .ok (.ireturn, 1) := by decide +kernel
abbrev rX9_isBoy : Room := { frames := 1, cells := 0, slots := 0, locals := 22 }
set_option maxHeartbeats 4000000 in
set_option maxRecDepth 100000 in
theorem c_X9_isBoy (l : Launch) (D : va_G) (b : Nat) (cs : Cs3) (x1 : Int32) (S S1 : St) (r : Int32) (h : p_X9_isBoy x1 S = some (r, S1)) : Ct l yX9_isBoy cX9_isBoy 2 (some .boolean) rX9_isBoy D b cs [.ref (b + 0), .int x1] S (some (.int r)) S1 := by
  refine x_met (by decide +kernel) (Nat.le_of_ble_eq_true rfl) ?_
  intro p e s m below meth c ls hC hr hW hS hl
  have hl : lv_has ls 2 [(0, .ref (b + 0)), (1, .int x1)] := hl
  rw [p_X9_isBoy] at h
  refine lv_iload_n hC.1 hC.2.1 dX9_isBoy_0 rfl (lv_at hl 1 rfl) ?_
  refine lv_iconst (v := 0) hC.1 hC.2.1 dX9_isBoy_1 (by decide) ?_
  refine lv_aload_n hC.1 hC.2.1 dX9_isBoy_2 rfl (lv_at hl 0 rfl) ?_
  refine x_get (C := RX9) (T := TX9) (N := 12) (v := _) hC hW 0 (by decide) rfl rfl uX9 1 (by decide) fl_X9_19 rfl rfl dX9_isBoy_3 ?_
  refine x_get (C := RX2) (T := TX2) (N := 12) (v := _) hC hW 3 (by decide) rfl rfl uX2 2 (by decide) fl_X9_197 rfl rfl dX9_isBoy_6 ?_
  refine lv_iconst (v := 1) hC.1 hC.2.1 dX9_isBoy_9 (by decide) ?_
  refine lv_isub hC.1 hC.2.1 dX9_isBoy_10 ?_
  obtain ⟨⟨q11_r, q11_S⟩, hq, h⟩ := xb h
  try dsimp only at h
  refine x_callS (As := [.int x1, .int (0 : Int32), .int ((S.1 3 2) - (1 : Int32))]) (rest := []) hC hW hS (c_X9_within l D b cs _ _ _ _ _ _ hq) mi_X9_within st_X9_within ml_X9_87 ⟨rfl, rfl⟩ ⟨Nat.le_of_ble_eq_true rfl, Nat.le_of_ble_eq_true rfl⟩ ⟨Nat.zero_le _, Nat.zero_le _⟩ rfl rfl hl.1 (Nat.le_of_ble_eq_true rfl) dX9_isBoy_11 (fun H locs hW hS => ?_)
  obtain ⟨hv, h⟩ := xg h
  obtain ⟨rfl, rfl⟩ := xr h
  exact x_zret hC hr hW hS hv dX9_isBoy_14
