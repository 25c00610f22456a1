-- walks: X4_mostOf X4_mostPosts X4_lowestPost X4_postOf X5_asBoy X5_asAlto X5_asBass X5_asTreble X5_asSoloist X5_asTwin X5_rateAs X8_becomes X6_remember X6_bringBack X7_isDigit X7_isSign X7_readToken X7_readClose
theorem dX4_mostOf_0 : decode cX4_mostOf 0 = .ok (.iload_n 1, 1) := by decide +kernel
theorem dX4_mostOf_1 : decode cX4_mostOf 1 = .ok (.invokestatic 48, 3) := by decide +kernel
theorem dX4_mostOf_4 : decode cX4_mostOf 4 = .ok (.istore_n 3, 1) := by decide +kernel
theorem dX4_mostOf_5 : decode cX4_mostOf 5 = .ok (.iconst 0, 1) := by decide +kernel
theorem dX4_mostOf_6 : decode cX4_mostOf 6 = .ok (.istore 4, 2) := by decide +kernel
theorem dX4_mostOf_8 : decode cX4_mostOf 8 = .ok (.iload 4, 2) := by decide +kernel
theorem dX4_mostOf_10 : decode cX4_mostOf 10 = .ok (.iload_n 1, 1) := by decide +kernel
theorem dX4_mostOf_11 : decode cX4_mostOf 11 = .ok (.if_icmp .gt 49, 3) := by decide +kernel
theorem dX4_mostOf_14 : decode cX4_mostOf 14 = .ok (.iload 4, 2) := by decide +kernel
theorem dX4_mostOf_16 : decode cX4_mostOf 16 = .ok (.iload_n 1, 1) := by decide +kernel
theorem dX4_mostOf_17 : decode cX4_mostOf 17 = .ok (.iconst (-1), 1) := by decide +kernel
theorem dX4_mostOf_18 : decode cX4_mostOf 18 = .ok (.ixor, 1) := by decide +kernel
theorem dX4_mostOf_19 : decode cX4_mostOf 19 = .ok (.iand, 1) := by decide +kernel
theorem dX4_mostOf_20 : decode cX4_mostOf 20 = .ok (.ifCond .ne 34, 3) := by decide +kernel
theorem dX4_mostOf_23 : decode cX4_mostOf 23 = .ok (.iload_n 1, 1) := by decide +kernel
theorem dX4_mostOf_24 : decode cX4_mostOf 24 = .ok (.iload 4, 2) := by decide +kernel
theorem dX4_mostOf_26 : decode cX4_mostOf 26 = .ok (.iconst (-1), 1) := by decide +kernel
theorem dX4_mostOf_27 : decode cX4_mostOf 27 = .ok (.ixor, 1) := by decide +kernel
theorem dX4_mostOf_28 : decode cX4_mostOf 28 = .ok (.iand, 1) := by decide +kernel
theorem dX4_mostOf_29 : decode cX4_mostOf 29 = .ok (.invokestatic 48, 3) := by decide +kernel
theorem dX4_mostOf_32 : decode cX4_mostOf 32 = .ok (.istore 5, 2) := by decide +kernel
theorem dX4_mostOf_34 : decode cX4_mostOf 34 = .ok (.iload_n 3, 1) := by decide +kernel
theorem dX4_mostOf_35 : decode cX4_mostOf 35 = .ok (.iload 5, 2) := by decide +kernel
theorem dX4_mostOf_37 : decode cX4_mostOf 37 = .ok (.aload_n 0, 1) := by decide +kernel
theorem dX4_mostOf_38 : decode cX4_mostOf 38 = .ok (.getfield 9, 3) := by decide +kernel
theorem dX4_mostOf_41 : decode cX4_mostOf 41 = .ok (.iload 4, 2) := by decide +kernel
theorem dX4_mostOf_43 : decode cX4_mostOf 43 = .ok (.iaload, 1) := by decide +kernel
theorem dX4_mostOf_44 : decode cX4_mostOf 44 = .ok (.iload_n 2, 1) := by decide +kernel
theorem dX4_mostOf_45 : decode cX4_mostOf 45 = .ok (.iand, 1) := by decide +kernel
theorem dX4_mostOf_46 : decode cX4_mostOf 46 = .ok (.invokestatic 48, 3) := by decide +kernel
theorem dX4_mostOf_49 : decode cX4_mostOf 49 = .ok (.iadd, 1) := by decide +kernel
theorem dX4_mostOf_50 : decode cX4_mostOf 50 = .ok (.invokestatic 61, 3) := by decide +kernel
theorem dX4_mostOf_53 : decode cX4_mostOf 53 = .ok (.istore_n 3, 1) := by decide +kernel
theorem dX4_mostOf_54 : decode cX4_mostOf 54 = .ok (.iinc 4 1, 3) := by decide +kernel
theorem dX4_mostOf_57 : decode cX4_mostOf 57 = .ok (.goto (-49), 3) := by decide +kernel
theorem dX4_mostOf_60 : decode cX4_mostOf 60 = .ok (.iload_n 3, 1) := by decide +kernel
theorem dX4_mostOf_61 : decode cX4_mostOf 61 = .ok (.ireturn, 1) := by decide +kernel
abbrev rX4_mostOf : Room := { frames := 1, cells := 0, slots := 0, locals := 21 }
set_option maxHeartbeats 4000000 in
set_option maxRecDepth 100000 in
theorem w_X4_mostOf_8 {p : Program} {l : Launch} {e : Env} {s : State} {m : MethodId} {args : Array Value} {below : List Frame} {meth : Method} {c : Code} {D : va_G} {b : Nat} {cs : Cs3} {r : Int32} {S1 : St} (hC : CX p s m args meth c RX4 cX4_mostOf 6 D cs) (hr : meth.sig.returnType = (some .int)) : ∀ (n : Nat) (x1 : Int32) (x2 : Int32) (x3 : Int32) (x4 : Int32) (S : St) (H : Heap) (locs : List Loc) (ls : Array Slot), q_X4_mostOf_8 n x1 x2 x3 x4 S = some (r, S1) → Wd D b cs S H → va_S (AA b) s.heap H locs → lv_has ls 6 [(0, .ref (b + 91)), (1, .int x1), (2, .int x2), (3, .int x3), (4, .int x4)] → W p l e rX4_mostOf s m args below meth c H locs 0 0 (MQ below (QX D b cs (some (.int r)) S1) args s 0 0 (AA b)) (F0 m 8 ls []) := by
  intro n
  induction n with
  | zero =>
    intro x1 x2 x3 x4 S H locs ls h
    exact absurd h (by rw [q_X4_mostOf_8]; exact fun q => nomatch q)
  | succ n IH =>
    intro x1 x2 x3 x4 S H locs ls h hW hS hl
    rw [q_X4_mostOf_8] at h
    refine lv_iload hC.1 hC.2.1 dX4_mostOf_8 (lv_at hl 4 rfl) ?_
    refine lv_iload_n hC.1 hC.2.1 dX4_mostOf_10 rfl (lv_at hl 1 rfl) ?_
    refine lv_icmp_gt (tgt := 60) hC.1 hC.2.1 dX4_mostOf_11 (by decide) (fun hc => ?_) (fun hc => ?_)
    · replace h := xt hc h
      refine lv_iload_n hC.1 hC.2.1 dX4_mostOf_60 rfl (lv_at hl 3 rfl) ?_
      obtain ⟨rfl, rfl⟩ := xr h
      exact x_iret hC hr hW hS dX4_mostOf_61
    · replace h := xf hc h
      refine lv_iload hC.1 hC.2.1 dX4_mostOf_14 (lv_at hl 4 rfl) ?_
      refine lv_iload_n hC.1 hC.2.1 dX4_mostOf_16 rfl (lv_at hl 1 rfl) ?_
      refine lv_iconst (v := -1) hC.1 hC.2.1 dX4_mostOf_17 (by decide) ?_
      refine lv_ixor hC.1 hC.2.1 dX4_mostOf_18 ?_
      refine lv_iand hC.1 hC.2.1 dX4_mostOf_19 ?_
      refine lv_if_ne (tgt := 54) hC.1 hC.2.1 dX4_mostOf_20 (by decide) (fun hc => ?_) (fun hc => ?_)
      · replace h := xf hc h
        refine lv_iinc (v := x4 + 1) (lv' := [(4, .int (x4 + 1)), (0, .ref (b + 91)), (1, .int x1), (2, .int x2), (3, .int x3)]) hC.1 hC.2.1 dX4_mostOf_54 hl (k := 4) rfl rfl (by decide) rfl (fun ls hl => ?_)
        refine lv_goto (tgt := 8) hC.1 hC.2.1 dX4_mostOf_57 (by decide) ?_
        exact IH _ _ _ _ _ _ _ _ h hW hS (lv_sub hl [1, 2, 3, 4, 0] rfl)
      · replace h := xt hc h
        refine lv_iload_n hC.1 hC.2.1 dX4_mostOf_23 rfl (lv_at hl 1 rfl) ?_
        refine lv_iload hC.1 hC.2.1 dX4_mostOf_24 (lv_at hl 4 rfl) ?_
        refine lv_iconst (v := -1) hC.1 hC.2.1 dX4_mostOf_26 (by decide) ?_
        refine lv_ixor hC.1 hC.2.1 dX4_mostOf_27 ?_
        refine lv_iand hC.1 hC.2.1 dX4_mostOf_28 ?_
        obtain ⟨⟨q29_r, q29_S⟩, hq, h⟩ := xb h
        try dsimp only at h
        refine x_callS (As := [.int (x1 &&& (x4 ^^^ (-1 : Int32)))]) (rest := []) hC hW hS (c_J6_bitCount_0f7a4 l D b cs _ _ _ _ hq) mi_J6_bitCount_0f7a4 st_J6_bitCount_0f7a4 ml_X4_48 ⟨rfl, rfl⟩ ⟨Nat.le_of_ble_eq_true rfl, Nat.le_of_ble_eq_true rfl⟩ ⟨Nat.zero_le _, Nat.zero_le _⟩ rfl rfl hl.1 (Nat.le_of_ble_eq_true rfl) dX4_mostOf_29 (fun H locs hW hS => ?_)
        refine lv_istore (lv' := [(5, .int q29_r), (0, .ref (b + 91)), (1, .int x1), (2, .int x2), (3, .int x3), (4, .int x4)]) hC.1 hC.2.1 dX4_mostOf_32 hl (by decide) rfl (fun ls hl => ?_)
        refine lv_iload_n hC.1 hC.2.1 dX4_mostOf_34 rfl (lv_at hl 4 rfl) ?_
        refine lv_iload hC.1 hC.2.1 dX4_mostOf_35 (lv_at hl 0 rfl) ?_
        refine lv_aload_n hC.1 hC.2.1 dX4_mostOf_37 rfl (lv_at hl 1 rfl) ?_
        refine x_get (C := RX4) (T := TX4) (N := 2) (v := _) hC hW 91 (by decide) rfl rfl uX4 1 (by decide) fl_X4_9 rfl rfl dX4_mostOf_38 ?_
        refine lv_iload hC.1 hC.2.1 dX4_mostOf_41 (lv_at hl 5 rfl) ?_
        obtain ⟨hi, h⟩ := xg h
        refine x_iald hC hW 92 (by decide) rfl hi dX4_mostOf_43 ?_
        refine lv_iload_n hC.1 hC.2.1 dX4_mostOf_44 rfl (lv_at hl 3 rfl) ?_
        refine lv_iand hC.1 hC.2.1 dX4_mostOf_45 ?_
        obtain ⟨⟨q46_r, q46_S⟩, hq, h⟩ := xb h
        try dsimp only at h
        refine x_callS (As := [.int ((q29_S.1 92 x4.toNatClampNeg) &&& x2)]) (rest := [.int q29_r, .int x3]) hC hW hS (c_J6_bitCount_0f7a4 l D b cs _ _ _ _ hq) mi_J6_bitCount_0f7a4 st_J6_bitCount_0f7a4 ml_X4_48 ⟨rfl, rfl⟩ ⟨Nat.le_of_ble_eq_true rfl, Nat.le_of_ble_eq_true rfl⟩ ⟨Nat.zero_le _, Nat.zero_le _⟩ rfl rfl hl.1 (Nat.le_of_ble_eq_true rfl) dX4_mostOf_46 (fun H locs hW hS => ?_)
        refine lv_iadd hC.1 hC.2.1 dX4_mostOf_49 ?_
        refine va_mmin (rest := []) hC.1 hC.2.1 (hC.2.2.1.trans hl.1.symm) hC.2.2.2.1 (hC.2.2.2.2.1 _ ml_X4_61) (hC.2.2.2.2.1 _ st_math_min) (hC.2.2.2.2.1 _ iw_math) (hC.2.2.2.2.1 _ cw_math_min) (Nat.le_of_ble_eq_true rfl) (Nat.le_of_ble_eq_true rfl) (Nat.zero_le _) (Nat.zero_le _) dX4_mostOf_50 ?_
        refine lv_istore_n (lv' := [(3, .int (if (q29_r + q46_r) < x3 then (q29_r + q46_r) else x3)), (5, .int q29_r), (0, .ref (b + 91)), (1, .int x1), (2, .int x2), (4, .int x4)]) hC.1 hC.2.1 dX4_mostOf_53 rfl hl (by decide) rfl (fun ls hl => ?_)
        refine lv_iinc (v := x4 + 1) (lv' := [(4, .int (x4 + 1)), (3, .int (if (q29_r + q46_r) < x3 then (q29_r + q46_r) else x3)), (5, .int q29_r), (0, .ref (b + 91)), (1, .int x1), (2, .int x2)]) hC.1 hC.2.1 dX4_mostOf_54 hl (k := 5) rfl rfl (by decide) rfl (fun ls hl => ?_)
        refine lv_goto (tgt := 8) hC.1 hC.2.1 dX4_mostOf_57 (by decide) ?_
        exact IH _ _ _ _ _ _ _ _ h hW hS (lv_sub hl [3, 4, 5, 1, 0] rfl)
set_option maxHeartbeats 4000000 in
set_option maxRecDepth 100000 in
theorem c_X4_mostOf (l : Launch) (D : va_G) (b : Nat) (cs : Cs3) (x1 : Int32) (x2 : Int32) (S S1 : St) (r : Int32) (h : p_X4_mostOf x1 x2 S = some (r, S1)) : Ct l yX4_mostOf cX4_mostOf 6 (some .int) rX4_mostOf D b cs [.ref (b + 91), .int x1, .int x2] S (some (.int r)) S1 := by
  refine x_met (by decide +kernel) (Nat.le_of_ble_eq_true rfl) ?_
  intro p e s m below meth c ls hC hr hW hS hl
  have hl : lv_has ls 6 [(0, .ref (b + 91)), (1, .int x1), (2, .int x2)] := hl
  rw [p_X4_mostOf] at h
  refine lv_iload_n hC.1 hC.2.1 dX4_mostOf_0 rfl (lv_at hl 1 rfl) ?_
  obtain ⟨⟨q1_r, q1_S⟩, hq, h⟩ := xb h
  try dsimp only at h
  refine x_callS (As := [.int x1]) (rest := []) hC hW hS (c_J6_bitCount_0f7a4 l D b cs _ _ _ _ hq) mi_J6_bitCount_0f7a4 st_J6_bitCount_0f7a4 ml_X4_48 ⟨rfl, rfl⟩ ⟨Nat.le_of_ble_eq_true rfl, Nat.le_of_ble_eq_true rfl⟩ ⟨Nat.zero_le _, Nat.zero_le _⟩ rfl rfl hl.1 (Nat.le_of_ble_eq_true rfl) dX4_mostOf_1 (fun H locs hW hS => ?_)
  refine lv_istore_n (lv' := [(3, .int q1_r), (0, .ref (b + 91)), (1, .int x1), (2, .int x2)]) hC.1 hC.2.1 dX4_mostOf_4 rfl hl (by decide) rfl (fun ls hl => ?_)
  refine lv_iconst (v := 0) hC.1 hC.2.1 dX4_mostOf_5 (by decide) ?_
  refine lv_istore (lv' := [(4, .int (0 : Int32)), (3, .int q1_r), (0, .ref (b + 91)), (1, .int x1), (2, .int x2)]) hC.1 hC.2.1 dX4_mostOf_6 hl (by decide) rfl (fun ls hl => ?_)
  exact w_X4_mostOf_8 hC hr _ _ _ _ _ _ _ _ _ h hW hS (lv_sub hl [2, 3, 4, 1, 0] rfl)
theorem dX4_mostPosts_0 : decode cX4_mostPosts 0 = .ok (.aload_n 0, 1) := by decide +kernel
theorem dX4_mostPosts_1 : decode cX4_mostPosts 1 = .ok (.invokevirtual 38, 3) := by decide +kernel
theorem dX4_mostPosts_4 : decode cX4_mostPosts 4 = .ok (.aload_n 0, 1) := by decide +kernel
theorem dX4_mostPosts_5 : decode cX4_mostPosts 5 = .ok (.aload_n 0, 1) := by decide +kernel
theorem dX4_mostPosts_6 : decode cX4_mostPosts 6 = .ok (.invokevirtual 41, 3) := by decide +kernel
theorem dX4_mostPosts_9 : decode cX4_mostPosts 9 = .ok (.aload_n 0, 1) := by decide +kernel
theorem dX4_mostPosts_10 : decode cX4_mostPosts 10 = .ok (.invokevirtual 45, 3) := by decide +kernel
theorem dX4_mostPosts_13 : decode cX4_mostPosts 13 = .ok (.invokevirtual 54, 3) := by decide +kernel
theorem dX4_mostPosts_16 : decode cX4_mostPosts 16 = .ok (.ireturn, 1) := by decide +kernel
abbrev rX4_mostPosts : Room := { frames := 4, cells := 0, slots := 0, locals := 95 }
set_option maxHeartbeats 4000000 in
set_option maxRecDepth 100000 in
theorem c_X4_mostPosts (l : Launch) (D : va_G) (b : Nat) (cs : Cs3) (S S1 : St) (r : Int32) (h : p_X4_mostPosts S = some (r, S1)) : Ct l yX4_mostPosts cX4_mostPosts 1 (some .int) rX4_mostPosts D b cs [.ref (b + 91)] S (some (.int r)) S1 := by
  refine x_met (by decide +kernel) (Nat.le_of_ble_eq_true rfl) ?_
  intro p e s m below meth c ls hC hr hW hS hl
  have hl : lv_has ls 1 [(0, .ref (b + 91))] := hl
  rw [p_X4_mostPosts] at h
  refine lv_aload_n hC.1 hC.2.1 dX4_mostPosts_0 rfl (lv_at hl 0 rfl) ?_
  obtain ⟨q1, hq, h⟩ := xb h
  try dsimp only at h
  refine x_callV (T := TX4) (N := 2) (As := []) (rest := []) hC hW hS 91 (c_X4_takeKeys l D b cs _ _ hq) (by decide) rfl rfl mi_X4_takeKeys in_X4_takeKeys sl_X4_takeKeys ml_X4_38 ⟨rfl, rfl⟩ ⟨Nat.le_of_ble_eq_true rfl, Nat.le_of_ble_eq_true rfl⟩ ⟨Nat.zero_le _, Nat.zero_le _⟩ rfl rfl hl.1 (Nat.le_of_ble_eq_true rfl) dX4_mostPosts_1 (fun H locs hW hS => ?_)
  refine lv_aload_n hC.1 hC.2.1 dX4_mostPosts_4 rfl (lv_at hl 0 rfl) ?_
  refine lv_aload_n hC.1 hC.2.1 dX4_mostPosts_5 rfl (lv_at hl 0 rfl) ?_
  obtain ⟨⟨q6_r, q6_S⟩, hq, h⟩ := xb h
  try dsimp only at h
  refine x_callV (T := TX4) (N := 2) (As := []) (rest := [.ref (b + 91)]) hC hW hS 91 (c_X4_allBoys l D b cs _ _ _ hq) (by decide) rfl rfl mi_X4_allBoys in_X4_allBoys sl_X4_allBoys ml_X4_41 ⟨rfl, rfl⟩ ⟨Nat.le_of_ble_eq_true rfl, Nat.le_of_ble_eq_true rfl⟩ ⟨Nat.zero_le _, Nat.zero_le _⟩ rfl rfl hl.1 (Nat.le_of_ble_eq_true rfl) dX4_mostPosts_6 (fun H locs hW hS => ?_)
  refine lv_aload_n hC.1 hC.2.1 dX4_mostPosts_9 rfl (lv_at hl 0 rfl) ?_
  obtain ⟨⟨q10_r, q10_S⟩, hq, h⟩ := xb h
  try dsimp only at h
  refine x_callV (T := TX4) (N := 2) (As := []) (rest := [.int q6_r, .ref (b + 91)]) hC hW hS 91 (c_X4_allDoors l D b cs _ _ _ hq) (by decide) rfl rfl mi_X4_allDoors in_X4_allDoors sl_X4_allDoors ml_X4_45 ⟨rfl, rfl⟩ ⟨Nat.le_of_ble_eq_true rfl, Nat.le_of_ble_eq_true rfl⟩ ⟨Nat.zero_le _, Nat.zero_le _⟩ rfl rfl hl.1 (Nat.le_of_ble_eq_true rfl) dX4_mostPosts_10 (fun H locs hW hS => ?_)
  obtain ⟨⟨q13_r, q13_S⟩, hq, h⟩ := xb h
  try dsimp only at h
  refine x_callV (T := TX4) (N := 2) (As := [.int q6_r, .int q10_r]) (rest := []) hC hW hS 91 (c_X4_mostOf l D b cs _ _ _ _ _ hq) (by decide) rfl rfl mi_X4_mostOf in_X4_mostOf sl_X4_mostOf ml_X4_54 ⟨rfl, rfl⟩ ⟨Nat.le_of_ble_eq_true rfl, Nat.le_of_ble_eq_true rfl⟩ ⟨Nat.zero_le _, Nat.zero_le _⟩ rfl rfl hl.1 (Nat.le_of_ble_eq_true rfl) dX4_mostPosts_13 (fun H locs hW hS => ?_)
  obtain ⟨rfl, rfl⟩ := xr h
  exact x_iret hC hr hW hS dX4_mostPosts_16
theorem dX4_lowestPost_0 : decode cX4_lowestPost 0 = .ok (.iconst 0, 1) := by decide +kernel
theorem dX4_lowestPost_1 : decode cX4_lowestPost 1 = .ok (.istore 5, 2) := by decide +kernel
theorem dX4_lowestPost_3 : decode cX4_lowestPost 3 = .ok (.iload 5, 2) := by decide +kernel
theorem dX4_lowestPost_5 : decode cX4_lowestPost 5 = .ok (.aload_n 0, 1) := by decide +kernel
theorem dX4_lowestPost_6 : decode cX4_lowestPost 6 = .ok (.getfield 15, 3) := by decide +kernel
theorem dX4_lowestPost_9 : decode cX4_lowestPost 9 = .ok (.getfield 19, 3) := by decide +kernel
theorem dX4_lowestPost_12 : decode cX4_lowestPost 12 = .ok (.getfield 35, 3) := by decide +kernel
theorem dX4_lowestPost_15 : decode cX4_lowestPost 15 = .ok (.if_icmp .ge 43, 3) := by decide +kernel
theorem dX4_lowestPost_18 : decode cX4_lowestPost 18 = .ok (.iconst 1, 1) := by decide +kernel
theorem dX4_lowestPost_19 : decode cX4_lowestPost 19 = .ok (.iload 5, 2) := by decide +kernel
theorem dX4_lowestPost_21 : decode cX4_lowestPost 21 = .ok (.ishl, 1) := by decide +kernel
theorem dX4_lowestPost_22 : decode cX4_lowestPost 22 = .ok (.istore 6, 2) := by decide +kernel
theorem dX4_lowestPost_24 : decode cX4_lowestPost 24 = .ok (.iload_n 1, 1) := by decide +kernel
theorem dX4_lowestPost_25 : decode cX4_lowestPost 25 = .ok (.iload 6, 2) := by decide +kernel
theorem dX4_lowestPost_27 : decode cX4_lowestPost 27 = .ok (.iand, 1) := by decide +kernel
theorem dX4_lowestPost_28 : decode cX4_lowestPost 28 = .ok (.ifCond .eq 24, 3) := by decide +kernel
theorem dX4_lowestPost_31 : decode cX4_lowestPost 31 = .ok (.iconst 1, 1) := by decide +kernel
theorem dX4_lowestPost_32 : decode cX4_lowestPost 32 = .ok (.aload_n 0, 1) := by decide +kernel
theorem dX4_lowestPost_33 : decode cX4_lowestPost 33 = .ok (.iload_n 2, 1) := by decide +kernel
theorem dX4_lowestPost_34 : decode cX4_lowestPost 34 = .ok (.iload_n 3, 1) := by decide +kernel
theorem dX4_lowestPost_35 : decode cX4_lowestPost 35 = .ok (.iload 6, 2) := by decide +kernel
theorem dX4_lowestPost_37 : decode cX4_lowestPost 37 = .ok (.iconst (-1), 1) := by decide +kernel
theorem dX4_lowestPost_38 : decode cX4_lowestPost 38 = .ok (.ixor, 1) := by decide +kernel
theorem dX4_lowestPost_39 : decode cX4_lowestPost 39 = .ok (.iand, 1) := by decide +kernel
theorem dX4_lowestPost_40 : decode cX4_lowestPost 40 = .ok (.invokevirtual 54, 3) := by decide +kernel
theorem dX4_lowestPost_43 : decode cX4_lowestPost 43 = .ok (.iadd, 1) := by decide +kernel
theorem dX4_lowestPost_44 : decode cX4_lowestPost 44 = .ok (.iload 4, 2) := by decide +kernel
theorem dX4_lowestPost_46 : decode cX4_lowestPost 46 = .ok (.if_icmp .ne 6, 3) := by decide +kernel
theorem dX4_lowestPost_49 : decode cX4_lowestPost 49 = .ok (.iload 5, 2) := by decide +kernel
theorem dX4_lowestPost_51 : decode cX4_lowestPost 51 = .ok (.ireturn, 1) := by decide +kernel
theorem dX4_lowestPost_52 : decode cX4_lowestPost 52 = .ok (.iinc 5 1, 3) := by decide +kernel
theorem dX4_lowestPost_55 : decode cX4_lowestPost 55 = .ok (.goto (-52), 3) := by decide +kernel
theorem dX4_lowestPost_58 : decode cX4_lowestPost 58 = .ok (.bipush (-9), 2) := by decide +kernel
theorem dX4_lowestPost_60 : decode cX4_lowestPost 60 = .ok (.ireturn, 1) := by decide +kernel
abbrev rX4_lowestPost : Room := { frames := 2, cells := 0, slots := 0, locals := 46 }
set_option maxHeartbeats 4000000 in
set_option maxRecDepth 100000 in
theorem w_X4_lowestPost_3 {p : Program} {l : Launch} {e : Env} {s : State} {m : MethodId} {args : Array Value} {below : List Frame} {meth : Method} {c : Code} {D : va_G} {b : Nat} {cs : Cs3} {r : Int32} {S1 : St} (hC : CX p s m args meth c RX4 cX4_lowestPost 7 D cs) (hr : meth.sig.returnType = (some .int)) : ∀ (n : Nat) (x1 : Int32) (x2 : Int32) (x3 : Int32) (x4 : Int32) (x5 : Int32) (S : St) (H : Heap) (locs : List Loc) (ls : Array Slot), q_X4_lowestPost_3 n x1 x2 x3 x4 x5 S = some (r, S1) → Wd D b cs S H → va_S (AA b) s.heap H locs → lv_has ls 7 [(0, .ref (b + 91)), (1, .int x1), (2, .int x2), (3, .int x3), (4, .int x4), (5, .int x5)] → W p l e rX4_lowestPost s m args below meth c H locs 0 0 (MQ below (QX D b cs (some (.int r)) S1) args s 0 0 (AA b)) (F0 m 3 ls []) := by
  intro n
  induction n with
  | zero =>
    intro x1 x2 x3 x4 x5 S H locs ls h
    exact absurd h (by rw [q_X4_lowestPost_3]; exact fun q => nomatch q)
  | succ n IH =>
    intro x1 x2 x3 x4 x5 S H locs ls h hW hS hl
    rw [q_X4_lowestPost_3] at h
    refine lv_iload hC.1 hC.2.1 dX4_lowestPost_3 (lv_at hl 5 rfl) ?_
    refine lv_aload_n hC.1 hC.2.1 dX4_lowestPost_5 rfl (lv_at hl 0 rfl) ?_
    refine x_get (C := RX4) (T := TX4) (N := 2) (v := _) hC hW 91 (by decide) rfl rfl uX4 0 (by decide) fl_X4_15 rfl rfl dX4_lowestPost_6 ?_
    refine x_get (C := RX1) (T := TX1) (N := 2) (v := _) hC hW 90 (by decide) rfl rfl uX1 0 (by decide) fl_X4_19 rfl rfl dX4_lowestPost_9 ?_
    refine x_get (C := RX2) (T := TX2) (N := 12) (v := _) hC hW 3 (by decide) rfl rfl uX2 1 (by decide) fl_X4_35 rfl rfl dX4_lowestPost_12 ?_
    refine lv_icmp_ge (tgt := 58) hC.1 hC.2.1 dX4_lowestPost_15 (by decide) (fun hc => ?_) (fun hc => ?_)
    · replace h := xt hc h
      refine lv_bipush (v := -9) hC.1 hC.2.1 dX4_lowestPost_58 (by decide) ?_
      obtain ⟨rfl, rfl⟩ := xr h
      exact x_iret hC hr hW hS dX4_lowestPost_60
    · replace h := xf hc h
      refine lv_iconst (v := 1) hC.1 hC.2.1 dX4_lowestPost_18 (by decide) ?_
      refine lv_iload hC.1 hC.2.1 dX4_lowestPost_19 (lv_at hl 5 rfl) ?_
      refine lv_ishl hC.1 hC.2.1 dX4_lowestPost_21 ?_
      refine lv_istore (lv' := [(6, .int ((1 : Int32) <<< (x5 &&& 31))), (0, .ref (b + 91)), (1, .int x1), (2, .int x2), (3, .int x3), (4, .int x4), (5, .int x5)]) hC.1 hC.2.1 dX4_lowestPost_22 hl (by decide) rfl (fun ls hl => ?_)
      refine lv_iload_n hC.1 hC.2.1 dX4_lowestPost_24 rfl (lv_at hl 2 rfl) ?_
      refine lv_iload hC.1 hC.2.1 dX4_lowestPost_25 (lv_at hl 0 rfl) ?_
      refine lv_iand hC.1 hC.2.1 dX4_lowestPost_27 ?_
      refine lv_if_eq (tgt := 52) hC.1 hC.2.1 dX4_lowestPost_28 (by decide) (fun hc => ?_) (fun hc => ?_)
      · replace h := xt hc h
        refine lv_iinc (v := x5 + 1) (lv' := [(5, .int (x5 + 1)), (6, .int ((1 : Int32) <<< (x5 &&& 31))), (0, .ref (b + 91)), (1, .int x1), (2, .int x2), (3, .int x3), (4, .int x4)]) hC.1 hC.2.1 dX4_lowestPost_52 hl (k := 6) rfl rfl (by decide) rfl (fun ls hl => ?_)
        refine lv_goto (tgt := 3) hC.1 hC.2.1 dX4_lowestPost_55 (by decide) ?_
        exact IH _ _ _ _ _ _ _ _ _ h hW hS (lv_sub hl [2, 3, 4, 5, 6, 0] rfl)
      · replace h := xf hc h
        refine lv_iconst (v := 1) hC.1 hC.2.1 dX4_lowestPost_31 (by decide) ?_
        refine lv_aload_n hC.1 hC.2.1 dX4_lowestPost_32 rfl (lv_at hl 1 rfl) ?_
        refine lv_iload_n hC.1 hC.2.1 dX4_lowestPost_33 rfl (lv_at hl 3 rfl) ?_
        refine lv_iload_n hC.1 hC.2.1 dX4_lowestPost_34 rfl (lv_at hl 4 rfl) ?_
        refine lv_iload hC.1 hC.2.1 dX4_lowestPost_35 (lv_at hl 0 rfl) ?_
        refine lv_iconst (v := -1) hC.1 hC.2.1 dX4_lowestPost_37 (by decide) ?_
        refine lv_ixor hC.1 hC.2.1 dX4_lowestPost_38 ?_
        refine lv_iand hC.1 hC.2.1 dX4_lowestPost_39 ?_
        obtain ⟨⟨q40_r, q40_S⟩, hq, h⟩ := xb h
        try dsimp only at h
        refine x_callV (T := TX4) (N := 2) (As := [.int x2, .int (x3 &&& (((1 : Int32) <<< (x5 &&& 31)) ^^^ (-1 : Int32)))]) (rest := [.int (1 : Int32)]) hC hW hS 91 (c_X4_mostOf l D b cs _ _ _ _ _ hq) (by decide) rfl rfl mi_X4_mostOf in_X4_mostOf sl_X4_mostOf ml_X4_54 ⟨rfl, rfl⟩ ⟨Nat.le_of_ble_eq_true rfl, Nat.le_of_ble_eq_true rfl⟩ ⟨Nat.zero_le _, Nat.zero_le _⟩ rfl rfl hl.1 (Nat.le_of_ble_eq_true rfl) dX4_lowestPost_40 (fun H locs hW hS => ?_)
        refine lv_iadd hC.1 hC.2.1 dX4_lowestPost_43 ?_
        refine lv_iload hC.1 hC.2.1 dX4_lowestPost_44 (lv_at hl 5 rfl) ?_
        refine lv_icmp_ne (tgt := 52) hC.1 hC.2.1 dX4_lowestPost_46 (by decide) (fun hc => ?_) (fun hc => ?_)
        · replace h := xf hc h
          refine lv_iinc (v := x5 + 1) (lv' := [(5, .int (x5 + 1)), (6, .int ((1 : Int32) <<< (x5 &&& 31))), (0, .ref (b + 91)), (1, .int x1), (2, .int x2), (3, .int x3), (4, .int x4)]) hC.1 hC.2.1 dX4_lowestPost_52 hl (k := 6) rfl rfl (by decide) rfl (fun ls hl => ?_)
          refine lv_goto (tgt := 3) hC.1 hC.2.1 dX4_lowestPost_55 (by decide) ?_
          exact IH _ _ _ _ _ _ _ _ _ h hW hS (lv_sub hl [2, 3, 4, 5, 6, 0] rfl)
        · replace h := xt hc h
          refine lv_iload hC.1 hC.2.1 dX4_lowestPost_49 (lv_at hl 6 rfl) ?_
          obtain ⟨rfl, rfl⟩ := xr h
          exact x_iret hC hr hW hS dX4_lowestPost_51
set_option maxHeartbeats 4000000 in
set_option maxRecDepth 100000 in
theorem c_X4_lowestPost (l : Launch) (D : va_G) (b : Nat) (cs : Cs3) (x1 : Int32) (x2 : Int32) (x3 : Int32) (x4 : Int32) (S S1 : St) (r : Int32) (h : p_X4_lowestPost x1 x2 x3 x4 S = some (r, S1)) : Ct l yX4_lowestPost cX4_lowestPost 7 (some .int) rX4_lowestPost D b cs [.ref (b + 91), .int x1, .int x2, .int x3, .int x4] S (some (.int r)) S1 := by
  refine x_met (by decide +kernel) (Nat.le_of_ble_eq_true rfl) ?_
  intro p e s m below meth c ls hC hr hW hS hl
  have hl : lv_has ls 7 [(0, .ref (b + 91)), (1, .int x1), (2, .int x2), (3, .int x3), (4, .int x4)] := hl
  rw [p_X4_lowestPost] at h
  refine lv_iconst (v := 0) hC.1 hC.2.1 dX4_lowestPost_0 (by decide) ?_
  refine lv_istore (lv' := [(5, .int (0 : Int32)), (0, .ref (b + 91)), (1, .int x1), (2, .int x2), (3, .int x3), (4, .int x4)]) hC.1 hC.2.1 dX4_lowestPost_1 hl (by decide) rfl (fun ls hl => ?_)
  exact w_X4_lowestPost_3 hC hr _ _ _ _ _ _ _ _ _ _ h hW hS (lv_sub hl [1, 2, 3, 4, 5, 0] rfl)
theorem dX4_postOf_0 : decode cX4_postOf 0 = .ok (.aload_n 0, 1) := by decide +kernel
theorem dX4_postOf_1 : decode cX4_postOf 1 = .ok (.invokevirtual 38, 3) := by decide +kernel
theorem dX4_postOf_4 : decode cX4_postOf 4 = .ok (.aload_n 0, 1) := by decide +kernel
theorem dX4_postOf_5 : decode cX4_postOf 5 = .ok (.invokevirtual 41, 3) := by decide +kernel
theorem dX4_postOf_8 : decode cX4_postOf 8 = .ok (.istore_n 2, 1) := by decide +kernel
theorem dX4_postOf_9 : decode cX4_postOf 9 = .ok (.aload_n 0, 1) := by decide +kernel
theorem dX4_postOf_10 : decode cX4_postOf 10 = .ok (.invokevirtual 45, 3) := by decide +kernel
theorem dX4_postOf_13 : decode cX4_postOf 13 = .ok (.istore_n 3, 1) := by decide +kernel
theorem dX4_postOf_14 : decode cX4_postOf 14 = .ok (.bipush (-9), 2) := by decide +kernel
theorem dX4_postOf_16 : decode cX4_postOf 16 = .ok (.istore 4, 2) := by decide +kernel
theorem dX4_postOf_18 : decode cX4_postOf 18 = .ok (.iconst 0, 1) := by decide +kernel
theorem dX4_postOf_19 : decode cX4_postOf 19 = .ok (.istore 5, 2) := by decide +kernel
theorem dX4_postOf_21 : decode cX4_postOf 21 = .ok (.iload 5, 2) := by decide +kernel
theorem dX4_postOf_23 : decode cX4_postOf 23 = .ok (.iload_n 1, 1) := by decide +kernel
theorem dX4_postOf_24 : decode cX4_postOf 24 = .ok (.if_icmp .gt 63, 3) := by decide +kernel
theorem dX4_postOf_27 : decode cX4_postOf 27 = .ok (.aload_n 0, 1) := by decide +kernel
theorem dX4_postOf_28 : decode cX4_postOf 28 = .ok (.iload_n 2, 1) := by decide +kernel
theorem dX4_postOf_29 : decode cX4_postOf 29 = .ok (.iload_n 3, 1) := by decide +kernel
theorem dX4_postOf_30 : decode cX4_postOf 30 = .ok (.invokevirtual 54, 3) := by decide +kernel
theorem dX4_postOf_33 : decode cX4_postOf 33 = .ok (.istore 6, 2) := by decide +kernel
theorem dX4_postOf_35 : decode cX4_postOf 35 = .ok (.iload_n 2, 1) := by decide +kernel
theorem dX4_postOf_36 : decode cX4_postOf 36 = .ok (.iconst 1, 1) := by decide +kernel
theorem dX4_postOf_37 : decode cX4_postOf 37 = .ok (.iload 5, 2) := by decide +kernel
theorem dX4_postOf_39 : decode cX4_postOf 39 = .ok (.ishl, 1) := by decide +kernel
theorem dX4_postOf_40 : decode cX4_postOf 40 = .ok (.iconst (-1), 1) := by decide +kernel
theorem dX4_postOf_41 : decode cX4_postOf 41 = .ok (.ixor, 1) := by decide +kernel
theorem dX4_postOf_42 : decode cX4_postOf 42 = .ok (.iand, 1) := by decide +kernel
theorem dX4_postOf_43 : decode cX4_postOf 43 = .ok (.istore_n 2, 1) := by decide +kernel
theorem dX4_postOf_44 : decode cX4_postOf 44 = .ok (.aload_n 0, 1) := by decide +kernel
theorem dX4_postOf_45 : decode cX4_postOf 45 = .ok (.aload_n 0, 1) := by decide +kernel
theorem dX4_postOf_46 : decode cX4_postOf 46 = .ok (.getfield 9, 3) := by decide +kernel
theorem dX4_postOf_49 : decode cX4_postOf 49 = .ok (.iconst 1, 1) := by decide +kernel
theorem dX4_postOf_50 : decode cX4_postOf 50 = .ok (.iload 5, 2) := by decide +kernel
theorem dX4_postOf_52 : decode cX4_postOf 52 = .ok (.ishl, 1) := by decide +kernel
theorem dX4_postOf_53 : decode cX4_postOf 53 = .ok (.iaload, 1) := by decide +kernel
theorem dX4_postOf_54 : decode cX4_postOf 54 = .ok (.iload_n 3, 1) := by decide +kernel
theorem dX4_postOf_55 : decode cX4_postOf 55 = .ok (.iand, 1) := by decide +kernel
theorem dX4_postOf_56 : decode cX4_postOf 56 = .ok (.iload_n 2, 1) := by decide +kernel
theorem dX4_postOf_57 : decode cX4_postOf 57 = .ok (.iload_n 3, 1) := by decide +kernel
theorem dX4_postOf_58 : decode cX4_postOf 58 = .ok (.iload 6, 2) := by decide +kernel
theorem dX4_postOf_60 : decode cX4_postOf 60 = .ok (.invokevirtual 57, 3) := by decide +kernel
theorem dX4_postOf_63 : decode cX4_postOf 63 = .ok (.istore 4, 2) := by decide +kernel
theorem dX4_postOf_65 : decode cX4_postOf 65 = .ok (.iload 4, 2) := by decide +kernel
theorem dX4_postOf_67 : decode cX4_postOf 67 = .ok (.bipush (-9), 2) := by decide +kernel
theorem dX4_postOf_69 : decode cX4_postOf 69 = .ok (.if_icmp .eq 12, 3) := by decide +kernel
theorem dX4_postOf_72 : decode cX4_postOf 72 = .ok (.iload_n 3, 1) := by decide +kernel
theorem dX4_postOf_73 : decode cX4_postOf 73 = .ok (.iconst 1, 1) := by decide +kernel
theorem dX4_postOf_74 : decode cX4_postOf 74 = .ok (.iload 4, 2) := by decide +kernel
theorem dX4_postOf_76 : decode cX4_postOf 76 = .ok (.ishl, 1) := by decide +kernel
theorem dX4_postOf_77 : decode cX4_postOf 77 = .ok (.iconst (-1), 1) := by decide +kernel
theorem dX4_postOf_78 : decode cX4_postOf 78 = .ok (.ixor, 1) := by decide +kernel
theorem dX4_postOf_79 : decode cX4_postOf 79 = .ok (.iand, 1) := by decide +kernel
theorem dX4_postOf_80 : decode cX4_postOf 80 = .ok (.istore_n 3, 1) := by decide +kernel
theorem dX4_postOf_81 : decode cX4_postOf 81 = .ok (.iinc 5 1, 3) := by decide +kernel
theorem dX4_postOf_84 : decode cX4_postOf 84 = .ok (.goto (-63), 3) := by decide +kernel
theorem dX4_postOf_87 : decode cX4_postOf 87 = .ok (.iload 4, 2) := by decide +kernel
theorem dX4_postOf_89 : decode cX4_postOf 89 = .ok (.ireturn, 1) := by decide +kernel
abbrev rX4_postOf : Room := { frames := 4, cells := 0, slots := 0, locals := 95 }
set_option maxHeartbeats 4000000 in
set_option maxRecDepth 100000 in
theorem w_X4_postOf_21 {p : Program} {l : Launch} {e : Env} {s : State} {m : MethodId} {args : Array Value} {below : List Frame} {meth : Method} {c : Code} {D : va_G} {b : Nat} {cs : Cs3} {r : Int32} {S1 : St} (hC : CX p s m args meth c RX4 cX4_postOf 7 D cs) (hr : meth.sig.returnType = (some .int)) : ∀ (n : Nat) (x1 : Int32) (x2 : Int32) (x3 : Int32) (x4 : Int32) (x5 : Int32) (S : St) (H : Heap) (locs : List Loc) (ls : Array Slot), q_X4_postOf_21 n x1 x2 x3 x4 x5 S = some (r, S1) → Wd D b cs S H → va_S (AA b) s.heap H locs → lv_has ls 7 [(0, .ref (b + 91)), (1, .int x1), (2, .int x2), (3, .int x3), (4, .int x4), (5, .int x5)] → W p l e rX4_postOf s m args below meth c H locs 0 0 (MQ below (QX D b cs (some (.int r)) S1) args s 0 0 (AA b)) (F0 m 21 ls []) := by
  intro n
  induction n with
  | zero =>
    intro x1 x2 x3 x4 x5 S H locs ls h
    exact absurd h (by rw [q_X4_postOf_21]; exact fun q => nomatch q)
  | succ n IH =>
    intro x1 x2 x3 x4 x5 S H locs ls h hW hS hl
    rw [q_X4_postOf_21] at h
    refine lv_iload hC.1 hC.2.1 dX4_postOf_21 (lv_at hl 5 rfl) ?_
    refine lv_iload_n hC.1 hC.2.1 dX4_postOf_23 rfl (lv_at hl 1 rfl) ?_
    refine lv_icmp_gt (tgt := 87) hC.1 hC.2.1 dX4_postOf_24 (by decide) (fun hc => ?_) (fun hc => ?_)
    · replace h := xt hc h
      refine lv_iload hC.1 hC.2.1 dX4_postOf_87 (lv_at hl 4 rfl) ?_
      obtain ⟨rfl, rfl⟩ := xr h
      exact x_iret hC hr hW hS dX4_postOf_89
    · replace h := xf hc h
      refine lv_aload_n hC.1 hC.2.1 dX4_postOf_27 rfl (lv_at hl 0 rfl) ?_
      refine lv_iload_n hC.1 hC.2.1 dX4_postOf_28 rfl (lv_at hl 2 rfl) ?_
      refine lv_iload_n hC.1 hC.2.1 dX4_postOf_29 rfl (lv_at hl 3 rfl) ?_
      obtain ⟨⟨q30_r, q30_S⟩, hq, h⟩ := xb h
      try dsimp only at h
      refine x_callV (T := TX4) (N := 2) (As := [.int x2, .int x3]) (rest := []) hC hW hS 91 (c_X4_mostOf l D b cs _ _ _ _ _ hq) (by decide) rfl rfl mi_X4_mostOf in_X4_mostOf sl_X4_mostOf ml_X4_54 ⟨rfl, rfl⟩ ⟨Nat.le_of_ble_eq_true rfl, Nat.le_of_ble_eq_true rfl⟩ ⟨Nat.zero_le _, Nat.zero_le _⟩ rfl rfl hl.1 (Nat.le_of_ble_eq_true rfl) dX4_postOf_30 (fun H locs hW hS => ?_)
      refine lv_istore (lv' := [(6, .int q30_r), (0, .ref (b + 91)), (1, .int x1), (2, .int x2), (3, .int x3), (4, .int x4), (5, .int x5)]) hC.1 hC.2.1 dX4_postOf_33 hl (by decide) rfl (fun ls hl => ?_)
      refine lv_iload_n hC.1 hC.2.1 dX4_postOf_35 rfl (lv_at hl 3 rfl) ?_
      refine lv_iconst (v := 1) hC.1 hC.2.1 dX4_postOf_36 (by decide) ?_
      refine lv_iload hC.1 hC.2.1 dX4_postOf_37 (lv_at hl 6 rfl) ?_
      refine lv_ishl hC.1 hC.2.1 dX4_postOf_39 ?_
      refine lv_iconst (v := -1) hC.1 hC.2.1 dX4_postOf_40 (by decide) ?_
      refine lv_ixor hC.1 hC.2.1 dX4_postOf_41 ?_
      refine lv_iand hC.1 hC.2.1 dX4_postOf_42 ?_
      refine lv_istore_n (lv' := [(2, .int (x2 &&& (((1 : Int32) <<< (x5 &&& 31)) ^^^ (-1 : Int32)))), (6, .int q30_r), (0, .ref (b + 91)), (1, .int x1), (3, .int x3), (4, .int x4), (5, .int x5)]) hC.1 hC.2.1 dX4_postOf_43 rfl hl (by decide) rfl (fun ls hl => ?_)
      refine lv_aload_n hC.1 hC.2.1 dX4_postOf_44 rfl (lv_at hl 2 rfl) ?_
      refine lv_aload_n hC.1 hC.2.1 dX4_postOf_45 rfl (lv_at hl 2 rfl) ?_
      refine x_get (C := RX4) (T := TX4) (N := 2) (v := _) hC hW 91 (by decide) rfl rfl uX4 1 (by decide) fl_X4_9 rfl rfl dX4_postOf_46 ?_
      refine lv_iconst (v := 1) hC.1 hC.2.1 dX4_postOf_49 (by decide) ?_
      refine lv_iload hC.1 hC.2.1 dX4_postOf_50 (lv_at hl 6 rfl) ?_
      refine lv_ishl hC.1 hC.2.1 dX4_postOf_52 ?_
      obtain ⟨hi, h⟩ := xg h
      refine x_iald hC hW 92 (by decide) rfl hi dX4_postOf_53 ?_
      refine lv_iload_n hC.1 hC.2.1 dX4_postOf_54 rfl (lv_at hl 4 rfl) ?_
      refine lv_iand hC.1 hC.2.1 dX4_postOf_55 ?_
      refine lv_iload_n hC.1 hC.2.1 dX4_postOf_56 rfl (lv_at hl 0 rfl) ?_
      refine lv_iload_n hC.1 hC.2.1 dX4_postOf_57 rfl (lv_at hl 4 rfl) ?_
      refine lv_iload hC.1 hC.2.1 dX4_postOf_58 (lv_at hl 1 rfl) ?_
      obtain ⟨⟨q60_r, q60_S⟩, hq, h⟩ := xb h
      try dsimp only at h
      refine x_callV (T := TX4) (N := 2) (As := [.int ((q30_S.1 92 ((1 : Int32) <<< (x5 &&& 31)).toNatClampNeg) &&& x3), .int (x2 &&& (((1 : Int32) <<< (x5 &&& 31)) ^^^ (-1 : Int32))), .int x3, .int q30_r]) (rest := []) hC hW hS 91 (c_X4_lowestPost l D b cs _ _ _ _ _ _ _ hq) (by decide) rfl rfl mi_X4_lowestPost in_X4_lowestPost sl_X4_lowestPost ml_X4_57 ⟨rfl, rfl⟩ ⟨Nat.le_of_ble_eq_true rfl, Nat.le_of_ble_eq_true rfl⟩ ⟨Nat.zero_le _, Nat.zero_le _⟩ rfl rfl hl.1 (Nat.le_of_ble_eq_true rfl) dX4_postOf_60 (fun H locs hW hS => ?_)
      refine lv_istore (lv' := [(4, .int q60_r), (2, .int (x2 &&& (((1 : Int32) <<< (x5 &&& 31)) ^^^ (-1 : Int32)))), (6, .int q30_r), (0, .ref (b + 91)), (1, .int x1), (3, .int x3), (5, .int x5)]) hC.1 hC.2.1 dX4_postOf_63 hl (by decide) rfl (fun ls hl => ?_)
      refine lv_iload hC.1 hC.2.1 dX4_postOf_65 (lv_at hl 0 rfl) ?_
      refine lv_bipush (v := -9) hC.1 hC.2.1 dX4_postOf_67 (by decide) ?_
      refine lv_icmp_eq (tgt := 81) hC.1 hC.2.1 dX4_postOf_69 (by decide) (fun hc => ?_) (fun hc => ?_)
      · replace h := xt hc h
        refine lv_iinc (v := x5 + 1) (lv' := [(5, .int (x5 + 1)), (4, .int q60_r), (2, .int (x2 &&& (((1 : Int32) <<< (x5 &&& 31)) ^^^ (-1 : Int32)))), (6, .int q30_r), (0, .ref (b + 91)), (1, .int x1), (3, .int x3)]) hC.1 hC.2.1 dX4_postOf_81 hl (k := 6) rfl rfl (by decide) rfl (fun ls hl => ?_)
        refine lv_goto (tgt := 21) hC.1 hC.2.1 dX4_postOf_84 (by decide) ?_
        exact IH _ _ _ _ _ _ _ _ _ h hW hS (lv_sub hl [4, 5, 2, 6, 1, 0] rfl)
      · replace h := xf hc h
        refine lv_iload_n hC.1 hC.2.1 dX4_postOf_72 rfl (lv_at hl 5 rfl) ?_
        refine lv_iconst (v := 1) hC.1 hC.2.1 dX4_postOf_73 (by decide) ?_
        refine lv_iload hC.1 hC.2.1 dX4_postOf_74 (lv_at hl 0 rfl) ?_
        refine lv_ishl hC.1 hC.2.1 dX4_postOf_76 ?_
        refine lv_iconst (v := -1) hC.1 hC.2.1 dX4_postOf_77 (by decide) ?_
        refine lv_ixor hC.1 hC.2.1 dX4_postOf_78 ?_
        refine lv_iand hC.1 hC.2.1 dX4_postOf_79 ?_
        refine lv_istore_n (lv' := [(3, .int (x3 &&& (((1 : Int32) <<< (q60_r &&& 31)) ^^^ (-1 : Int32)))), (4, .int q60_r), (2, .int (x2 &&& (((1 : Int32) <<< (x5 &&& 31)) ^^^ (-1 : Int32)))), (6, .int q30_r), (0, .ref (b + 91)), (1, .int x1), (5, .int x5)]) hC.1 hC.2.1 dX4_postOf_80 rfl hl (by decide) rfl (fun ls hl => ?_)
        refine lv_iinc (v := x5 + 1) (lv' := [(5, .int (x5 + 1)), (3, .int (x3 &&& (((1 : Int32) <<< (q60_r &&& 31)) ^^^ (-1 : Int32)))), (4, .int q60_r), (2, .int (x2 &&& (((1 : Int32) <<< (x5 &&& 31)) ^^^ (-1 : Int32)))), (6, .int q30_r), (0, .ref (b + 91)), (1, .int x1)]) hC.1 hC.2.1 dX4_postOf_81 hl (k := 6) rfl rfl (by decide) rfl (fun ls hl => ?_)
        refine lv_goto (tgt := 21) hC.1 hC.2.1 dX4_postOf_84 (by decide) ?_
        exact IH _ _ _ _ _ _ _ _ _ h hW hS (lv_sub hl [5, 6, 3, 1, 2, 0] rfl)
set_option maxHeartbeats 4000000 in
set_option maxRecDepth 100000 in
theorem c_X4_postOf (l : Launch) (D : va_G) (b : Nat) (cs : Cs3) (x1 : Int32) (S S1 : St) (r : Int32) (h : p_X4_postOf x1 S = some (r, S1)) : Ct l yX4_postOf cX4_postOf 7 (some .int) rX4_postOf D b cs [.ref (b + 91), .int x1] S (some (.int r)) S1 := by
  refine x_met (by decide +kernel) (Nat.le_of_ble_eq_true rfl) ?_
  intro p e s m below meth c ls hC hr hW hS hl
  have hl : lv_has ls 7 [(0, .ref (b + 91)), (1, .int x1)] := hl
  rw [p_X4_postOf] at h
  refine lv_aload_n hC.1 hC.2.1 dX4_postOf_0 rfl (lv_at hl 0 rfl) ?_
  obtain ⟨q1, hq, h⟩ := xb h
  try dsimp only at h
  refine x_callV (T := TX4) (N := 2) (As := []) (rest := []) hC hW hS 91 (c_X4_takeKeys l D b cs _ _ hq) (by decide) rfl rfl mi_X4_takeKeys in_X4_takeKeys sl_X4_takeKeys ml_X4_38 ⟨rfl, rfl⟩ ⟨Nat.le_of_ble_eq_true rfl, Nat.le_of_ble_eq_true rfl⟩ ⟨Nat.zero_le _, Nat.zero_le _⟩ rfl rfl hl.1 (Nat.le_of_ble_eq_true rfl) dX4_postOf_1 (fun H locs hW hS => ?_)
  refine lv_aload_n hC.1 hC.2.1 dX4_postOf_4 rfl (lv_at hl 0 rfl) ?_
  obtain ⟨⟨q5_r, q5_S⟩, hq, h⟩ := xb h
  try dsimp only at h
  refine x_callV (T := TX4) (N := 2) (As := []) (rest := []) hC hW hS 91 (c_X4_allBoys l D b cs _ _ _ hq) (by decide) rfl rfl mi_X4_allBoys in_X4_allBoys sl_X4_allBoys ml_X4_41 ⟨rfl, rfl⟩ ⟨Nat.le_of_ble_eq_true rfl, Nat.le_of_ble_eq_true rfl⟩ ⟨Nat.zero_le _, Nat.zero_le _⟩ rfl rfl hl.1 (Nat.le_of_ble_eq_true rfl) dX4_postOf_5 (fun H locs hW hS => ?_)
  refine lv_istore_n (lv' := [(2, .int q5_r), (0, .ref (b + 91)), (1, .int x1)]) hC.1 hC.2.1 dX4_postOf_8 rfl hl (by decide) rfl (fun ls hl => ?_)
  refine lv_aload_n hC.1 hC.2.1 dX4_postOf_9 rfl (lv_at hl 1 rfl) ?_
  obtain ⟨⟨q10_r, q10_S⟩, hq, h⟩ := xb h
  try dsimp only at h
  refine x_callV (T := TX4) (N := 2) (As := []) (rest := []) hC hW hS 91 (c_X4_allDoors l D b cs _ _ _ hq) (by decide) rfl rfl mi_X4_allDoors in_X4_allDoors sl_X4_allDoors ml_X4_45 ⟨rfl, rfl⟩ ⟨Nat.le_of_ble_eq_true rfl, Nat.le_of_ble_eq_true rfl⟩ ⟨Nat.zero_le _, Nat.zero_le _⟩ rfl rfl hl.1 (Nat.le_of_ble_eq_true rfl) dX4_postOf_10 (fun H locs hW hS => ?_)
  refine lv_istore_n (lv' := [(3, .int q10_r), (2, .int q5_r), (0, .ref (b + 91)), (1, .int x1)]) hC.1 hC.2.1 dX4_postOf_13 rfl hl (by decide) rfl (fun ls hl => ?_)
  refine lv_bipush (v := -9) hC.1 hC.2.1 dX4_postOf_14 (by decide) ?_
  refine lv_istore (lv' := [(4, .int (-9 : Int32)), (3, .int q10_r), (2, .int q5_r), (0, .ref (b + 91)), (1, .int x1)]) hC.1 hC.2.1 dX4_postOf_16 hl (by decide) rfl (fun ls hl => ?_)
  refine lv_iconst (v := 0) hC.1 hC.2.1 dX4_postOf_18 (by decide) ?_
  refine lv_istore (lv' := [(5, .int (0 : Int32)), (4, .int (-9 : Int32)), (3, .int q10_r), (2, .int q5_r), (0, .ref (b + 91)), (1, .int x1)]) hC.1 hC.2.1 dX4_postOf_19 hl (by decide) rfl (fun ls hl => ?_)
  exact w_X4_postOf_21 hC hr _ _ _ _ _ _ _ _ _ _ h hW hS (lv_sub hl [4, 5, 3, 2, 1, 0] rfl)
theorem dX5_asBoy_0 : decode cX5_asBoy 0 = .ok (.aload_n 0, 1) := by decide +kernel
theorem dX5_asBoy_1 : decode cX5_asBoy 1 = .ok (.dup, 1) := by decide +kernel
theorem dX5_asBoy_2 : decode cX5_asBoy 2 = .ok (.getfield 9, 3) := by decide +kernel
theorem dX5_asBoy_5 : decode cX5_asBoy 5 = .ok (.lconst 1, 1) := by decide +kernel
theorem dX5_asBoy_6 : decode cX5_asBoy 6 = .ok (.ladd, 1) := by decide +kernel
theorem dX5_asBoy_7 : decode cX5_asBoy 7 = .ok (.putfield 9, 3) := by decide +kernel
theorem dX5_asBoy_10 : decode cX5_asBoy 10 = .ok (.aload_n 0, 1) := by decide +kernel
theorem dX5_asBoy_11 : decode cX5_asBoy 11 = .ok (.getfield 15, 3) := by decide +kernel
theorem dX5_asBoy_14 : decode cX5_asBoy 14 = .ok (.getfield 39, 3) := by decide +kernel
theorem dX5_asBoy_17 : decode cX5_asBoy 17 = .ok (.getfield 45, 3) := by decide +kernel
theorem dX5_asBoy_20 : decode cX5_asBoy 20 = .ok (.iload_n 1, 1) := by decide +kernel
theorem dX5_asBoy_21 : decode cX5_asBoy 21 = .ok (.iaload, 1) := by decide +kernel
theorem dX5_asBoy_22 : decode cX5_asBoy 22 = .ok (.ireturn, 1) := by decide +kernel
abbrev rX5_asBoy : Room := { frames := 0, cells := 0, slots := 0, locals := 0 }
set_option maxHeartbeats 4000000 in
set_option maxRecDepth 100000 in
theorem c_X5_asBoy (l : Launch) (D : va_G) (b : Nat) (cs : Cs3) (x1 : Int32) (S S1 : St) (r : Int32) (h : p_X5_asBoy x1 S = some (r, S1)) : Ct l yX5_asBoy cX5_asBoy 2 (some .int) rX5_asBoy D b cs [.ref (b + 98), .int x1] S (some (.int r)) S1 := by
  refine x_met (by decide +kernel) (Nat.le_of_ble_eq_true rfl) ?_
  intro p e s m below meth c ls hC hr hW hS hl
  have hl : lv_has ls 2 [(0, .ref (b + 98)), (1, .int x1)] := hl
  rw [p_X5_asBoy] at h
  refine lv_aload_n hC.1 hC.2.1 dX5_asBoy_0 rfl (lv_at hl 0 rfl) ?_
  refine lv_dup hC.1 hC.2.1 dX5_asBoy_1 rfl ?_
  refine x_get (C := RX5) (T := TX5) (N := 2) (v := _) hC hW 98 (by decide) rfl rfl uX5 1 (by decide) fl_X5_9 rfl rfl dX5_asBoy_2 ?_
  refine lv_lconst (v := 1) hC.1 hC.2.1 dX5_asBoy_5 rfl ?_
  refine lv_ladd hC.1 hC.2.1 dX5_asBoy_6 ?_
  refine x_putl (C := RX5) (T := TX5) (N := 2) hC hW hS 98 (by decide) rfl rfl uX5 tyX5 tyX5_ok nmX5 1 (by decide) fl_X5_9 rfl (by decide +kernel) rfl sl1_98 dX5_asBoy_7 (fun H locs hW hS => ?_)
  refine lv_aload_n hC.1 hC.2.1 dX5_asBoy_10 rfl (lv_at hl 0 rfl) ?_
  refine x_get (C := RX5) (T := TX5) (N := 2) (v := _) hC hW 98 (by decide) rfl rfl uX5 0 (by decide) fl_X5_15 rfl rfl dX5_asBoy_11 ?_
  refine x_get (C := RX1) (T := TX1) (N := 2) (v := _) hC hW 90 (by decide) rfl rfl uX1 1 (by decide) fl_X5_39 rfl rfl dX5_asBoy_14 ?_
  refine x_get (C := RX8) (T := TX8) (N := 6) (v := _) hC hW 21 (by decide) rfl rfl uX8 1 (by decide) fl_X5_45 rfl rfl dX5_asBoy_17 ?_
  refine lv_iload_n hC.1 hC.2.1 dX5_asBoy_20 rfl (lv_at hl 1 rfl) ?_
  obtain ⟨hi, h⟩ := xg h
  refine x_iald hC hW 23 (by decide) rfl hi dX5_asBoy_21 ?_
  obtain ⟨rfl, rfl⟩ := xr h
  exact x_iret hC hr hW hS dX5_asBoy_22
theorem dX5_asAlto_0 : decode cX5_asAlto 0 = .ok (.aload_n 0, 1) := by decide +kernel
theorem dX5_asAlto_1 : decode cX5_asAlto 1 = .ok (.dup, 1) := by decide +kernel
theorem dX5_asAlto_2 : decode cX5_asAlto 2 = .ok (.getfield 9, 3) := by decide +kernel
theorem dX5_asAlto_5 : decode cX5_asAlto 5 = .ok (.ldc2_w 57, 3) := by decide +kernel
theorem dX5_asAlto_8 : decode cX5_asAlto 8 = .ok (.ladd, 1) := by decide +kernel
theorem dX5_asAlto_9 : decode cX5_asAlto 9 = .ok (.putfield 9, 3) := by decide +kernel
theorem dX5_asAlto_12 : decode cX5_asAlto 12 = .ok (.aload_n 0, 1) := by decide +kernel
theorem dX5_asAlto_13 : decode cX5_asAlto 13 = .ok (.iload_n 1, 1) := by decide +kernel
theorem dX5_asAlto_14 : decode cX5_asAlto 14 = .ok (.invokevirtual 19, 3) := by decide +kernel
theorem dX5_asAlto_17 : decode cX5_asAlto 17 = .ok (.aload_n 0, 1) := by decide +kernel
theorem dX5_asAlto_18 : decode cX5_asAlto 18 = .ok (.getfield 15, 3) := by decide +kernel
theorem dX5_asAlto_21 : decode cX5_asAlto 21 = .ok (.iload_n 1, 1) := by decide +kernel
theorem dX5_asAlto_22 : decode cX5_asAlto 22 = .ok (.iconst 0, 1) := by decide +kernel
theorem dX5_asAlto_23 : decode cX5_asAlto 23 = .ok (.invokevirtual 59, 3) := by decide +kernel
theorem dX5_asAlto_26 : decode cX5_asAlto 26 = .ok (.invokestatic 62, 3) := by decide +kernel
theorem dX5_asAlto_29 : decode cX5_asAlto 29 = .ok (.isub, 1) := by decide +kernel
theorem dX5_asAlto_30 : decode cX5_asAlto 30 = .ok (.ireturn, 1) := by decide +kernel
abbrev rX5_asAlto : Room := { frames := 3, cells := 0, slots := 0, locals := 71 }
set_option maxHeartbeats 4000000 in
set_option maxRecDepth 100000 in
theorem c_X5_asAlto (l : Launch) (D : va_G) (b : Nat) (cs : Cs3) (x1 : Int32) (S S1 : St) (r : Int32) (h : p_X5_asAlto x1 S = some (r, S1)) : Ct l yX5_asAlto cX5_asAlto 2 (some .int) rX5_asAlto D b cs [.ref (b + 98), .int x1] S (some (.int r)) S1 := by
  refine x_met (by decide +kernel) (Nat.le_of_ble_eq_true rfl) ?_
  intro p e s m below meth c ls hC hr hW hS hl
  have hl : lv_has ls 2 [(0, .ref (b + 98)), (1, .int x1)] := hl
  rw [p_X5_asAlto] at h
  refine lv_aload_n hC.1 hC.2.1 dX5_asAlto_0 rfl (lv_at hl 0 rfl) ?_
  refine lv_dup hC.1 hC.2.1 dX5_asAlto_1 rfl ?_
  refine x_get (C := RX5) (T := TX5) (N := 2) (v := _) hC hW 98 (by decide) rfl rfl uX5 1 (by decide) fl_X5_9 rfl rfl dX5_asAlto_2 ?_
  refine lv_ldc2 (v := 100) hC.1 hC.2.1 hC.2.2.2.1 (hC.2.2.2.2.1 _ kw_X5_57) dX5_asAlto_5 ?_
  refine lv_ladd hC.1 hC.2.1 dX5_asAlto_8 ?_
  refine x_putl (C := RX5) (T := TX5) (N := 2) hC hW hS 98 (by decide) rfl rfl uX5 tyX5 tyX5_ok nmX5 1 (by decide) fl_X5_9 rfl (by decide +kernel) rfl sl1_98 dX5_asAlto_9 (fun H locs hW hS => ?_)
  refine lv_aload_n hC.1 hC.2.1 dX5_asAlto_12 rfl (lv_at hl 0 rfl) ?_
  refine lv_iload_n hC.1 hC.2.1 dX5_asAlto_13 rfl (lv_at hl 1 rfl) ?_
  obtain ⟨⟨q14_r, q14_S⟩, hq, h⟩ := xb h
  try dsimp only at h
  refine x_callV (T := TX5) (N := 2) (As := [.int x1]) (rest := []) hC hW hS 98 (c_X5_asBoy l D b cs _ _ _ _ hq) (by decide) rfl rfl mi_X5_asBoy in_X5_asBoy sl_X5_asBoy ml_X5_19 ⟨rfl, rfl⟩ ⟨Nat.le_of_ble_eq_true rfl, Nat.le_of_ble_eq_true rfl⟩ ⟨Nat.zero_le _, Nat.zero_le _⟩ rfl rfl hl.1 (Nat.le_of_ble_eq_true rfl) dX5_asAlto_14 (fun H locs hW hS => ?_)
  refine lv_aload_n hC.1 hC.2.1 dX5_asAlto_17 rfl (lv_at hl 0 rfl) ?_
  refine x_get (C := RX5) (T := TX5) (N := 2) (v := _) hC hW 98 (by decide) rfl rfl uX5 0 (by decide) fl_X5_15 rfl rfl dX5_asAlto_18 ?_
  refine lv_iload_n hC.1 hC.2.1 dX5_asAlto_21 rfl (lv_at hl 1 rfl) ?_
  refine lv_iconst (v := 0) hC.1 hC.2.1 dX5_asAlto_22 (by decide) ?_
  obtain ⟨⟨q23_r, q23_S⟩, hq, h⟩ := xb h
  try dsimp only at h
  refine x_callV (T := TX1) (N := 2) (As := [.int x1, .int (0 : Int32)]) (rest := [.int q14_r]) hC hW hS 90 (c_X1_keys l D b cs _ _ _ _ _ hq) (by decide) rfl rfl mi_X1_keys in_X1_keys sl_X1_keys ml_X5_59 ⟨rfl, rfl⟩ ⟨Nat.le_of_ble_eq_true rfl, Nat.le_of_ble_eq_true rfl⟩ ⟨Nat.zero_le _, Nat.zero_le _⟩ rfl rfl hl.1 (Nat.le_of_ble_eq_true rfl) dX5_asAlto_23 (fun H locs hW hS => ?_)
  obtain ⟨⟨q26_r, q26_S⟩, hq, h⟩ := xb h
  try dsimp only at h
  refine x_callS (As := [.int q23_r]) (rest := [.int q14_r]) hC hW hS (c_J6_bitCount_0f7a4 l D b cs _ _ _ _ hq) mi_J6_bitCount_0f7a4 st_J6_bitCount_0f7a4 ml_X5_62 ⟨rfl, rfl⟩ ⟨Nat.le_of_ble_eq_true rfl, Nat.le_of_ble_eq_true rfl⟩ ⟨Nat.zero_le _, Nat.zero_le _⟩ rfl rfl hl.1 (Nat.le_of_ble_eq_true rfl) dX5_asAlto_26 (fun H locs hW hS => ?_)
  refine lv_isub hC.1 hC.2.1 dX5_asAlto_29 ?_
  obtain ⟨rfl, rfl⟩ := xr h
  exact x_iret hC hr hW hS dX5_asAlto_30
theorem dX5_asBass_0 : decode cX5_asBass 0 = .ok (.aload_n 0, 1) := by decide +kernel
theorem dX5_asBass_1 : decode cX5_asBass 1 = .ok (.dup, 1) := by decide +kernel
theorem dX5_asBass_2 : decode cX5_asBass 2 = .ok (.getfield 9, 3) := by decide +kernel
theorem dX5_asBass_5 : decode cX5_asBass 5 = .ok (.ldc2_w 71, 3) := by decide +kernel
theorem dX5_asBass_8 : decode cX5_asBass 8 = .ok (.ladd, 1) := by decide +kernel
theorem dX5_asBass_9 : decode cX5_asBass 9 = .ok (.putfield 9, 3) := by decide +kernel
theorem dX5_asBass_12 : decode cX5_asBass 12 = .ok (.aload_n 0, 1) := by decide +kernel
theorem dX5_asBass_13 : decode cX5_asBass 13 = .ok (.iload_n 1, 1) := by decide +kernel
theorem dX5_asBass_14 : decode cX5_asBass 14 = .ok (.invokevirtual 19, 3) := by decide +kernel
theorem dX5_asBass_17 : decode cX5_asBass 17 = .ok (.aload_n 0, 1) := by decide +kernel
theorem dX5_asBass_18 : decode cX5_asBass 18 = .ok (.getfield 15, 3) := by decide +kernel
theorem dX5_asBass_21 : decode cX5_asBass 21 = .ok (.getfield 39, 3) := by decide +kernel
theorem dX5_asBass_24 : decode cX5_asBass 24 = .ok (.getfield 73, 3) := by decide +kernel
theorem dX5_asBass_27 : decode cX5_asBass 27 = .ok (.iload_n 1, 1) := by decide +kernel
theorem dX5_asBass_28 : decode cX5_asBass 28 = .ok (.iaload, 1) := by decide +kernel
theorem dX5_asBass_29 : decode cX5_asBass 29 = .ok (.iadd, 1) := by decide +kernel
theorem dX5_asBass_30 : decode cX5_asBass 30 = .ok (.ireturn, 1) := by decide +kernel
abbrev rX5_asBass : Room := { frames := 1, cells := 0, slots := 0, locals := 21 }
set_option maxHeartbeats 4000000 in
set_option maxRecDepth 100000 in
theorem c_X5_asBass (l : Launch) (D : va_G) (b : Nat) (cs : Cs3) (x1 : Int32) (S S1 : St) (r : Int32) (h : p_X5_asBass x1 S = some (r, S1)) : Ct l yX5_asBass cX5_asBass 2 (some .int) rX5_asBass D b cs [.ref (b + 98), .int x1] S (some (.int r)) S1 := by
  refine x_met (by decide +kernel) (Nat.le_of_ble_eq_true rfl) ?_
  intro p e s m below meth c ls hC hr hW hS hl
  have hl : lv_has ls 2 [(0, .ref (b + 98)), (1, .int x1)] := hl
  rw [p_X5_asBass] at h
  refine lv_aload_n hC.1 hC.2.1 dX5_asBass_0 rfl (lv_at hl 0 rfl) ?_
  refine lv_dup hC.1 hC.2.1 dX5_asBass_1 rfl ?_
  refine x_get (C := RX5) (T := TX5) (N := 2) (v := _) hC hW 98 (by decide) rfl rfl uX5 1 (by decide) fl_X5_9 rfl rfl dX5_asBass_2 ?_
  refine lv_ldc2 (v := 100000) hC.1 hC.2.1 hC.2.2.2.1 (hC.2.2.2.2.1 _ kw_X5_71) dX5_asBass_5 ?_
  refine lv_ladd hC.1 hC.2.1 dX5_asBass_8 ?_
  refine x_putl (C := RX5) (T := TX5) (N := 2) hC hW hS 98 (by decide) rfl rfl uX5 tyX5 tyX5_ok nmX5 1 (by decide) fl_X5_9 rfl (by decide +kernel) rfl sl1_98 dX5_asBass_9 (fun H locs hW hS => ?_)
  refine lv_aload_n hC.1 hC.2.1 dX5_asBass_12 rfl (lv_at hl 0 rfl) ?_
  refine lv_iload_n hC.1 hC.2.1 dX5_asBass_13 rfl (lv_at hl 1 rfl) ?_
  obtain ⟨⟨q14_r, q14_S⟩, hq, h⟩ := xb h
  try dsimp only at h
  refine x_callV (T := TX5) (N := 2) (As := [.int x1]) (rest := []) hC hW hS 98 (c_X5_asBoy l D b cs _ _ _ _ hq) (by decide) rfl rfl mi_X5_asBoy in_X5_asBoy sl_X5_asBoy ml_X5_19 ⟨rfl, rfl⟩ ⟨Nat.le_of_ble_eq_true rfl, Nat.le_of_ble_eq_true rfl⟩ ⟨Nat.zero_le _, Nat.zero_le _⟩ rfl rfl hl.1 (Nat.le_of_ble_eq_true rfl) dX5_asBass_14 (fun H locs hW hS => ?_)
  refine lv_aload_n hC.1 hC.2.1 dX5_asBass_17 rfl (lv_at hl 0 rfl) ?_
  refine x_get (C := RX5) (T := TX5) (N := 2) (v := _) hC hW 98 (by decide) rfl rfl uX5 0 (by decide) fl_X5_15 rfl rfl dX5_asBass_18 ?_
  refine x_get (C := RX1) (T := TX1) (N := 2) (v := _) hC hW 90 (by decide) rfl rfl uX1 1 (by decide) fl_X5_39 rfl rfl dX5_asBass_21 ?_
  refine x_get (C := RX8) (T := TX8) (N := 6) (v := _) hC hW 21 (by decide) rfl rfl uX8 0 (by decide) fl_X5_73 rfl rfl dX5_asBass_24 ?_
  refine lv_iload_n hC.1 hC.2.1 dX5_asBass_27 rfl (lv_at hl 1 rfl) ?_
  obtain ⟨hi, h⟩ := xg h
  refine x_iald hC hW 22 (by decide) rfl hi dX5_asBass_28 ?_
  refine lv_iadd hC.1 hC.2.1 dX5_asBass_29 ?_
  obtain ⟨rfl, rfl⟩ := xr h
  exact x_iret hC hr hW hS dX5_asBass_30
theorem dX5_asTreble_0 : decode cX5_asTreble 0 = .ok (.aload_n 0, 1) := by decide +kernel
theorem dX5_asTreble_1 : decode cX5_asTreble 1 = .ok (.dup, 1) := by decide +kernel
theorem dX5_asTreble_2 : decode cX5_asTreble 2 = .ok (.getfield 9, 3) := by decide +kernel
theorem dX5_asTreble_5 : decode cX5_asTreble 5 = .ok (.ldc2_w 51, 3) := by decide +kernel
theorem dX5_asTreble_8 : decode cX5_asTreble 8 = .ok (.ladd, 1) := by decide +kernel
theorem dX5_asTreble_9 : decode cX5_asTreble 9 = .ok (.putfield 9, 3) := by decide +kernel
theorem dX5_asTreble_12 : decode cX5_asTreble 12 = .ok (.aload_n 0, 1) := by decide +kernel
theorem dX5_asTreble_13 : decode cX5_asTreble 13 = .ok (.iload_n 1, 1) := by decide +kernel
theorem dX5_asTreble_14 : decode cX5_asTreble 14 = .ok (.invokevirtual 19, 3) := by decide +kernel
theorem dX5_asTreble_17 : decode cX5_asTreble 17 = .ok (.aload_n 0, 1) := by decide +kernel
theorem dX5_asTreble_18 : decode cX5_asTreble 18 = .ok (.getfield 15, 3) := by decide +kernel
theorem dX5_asTreble_21 : decode cX5_asTreble 21 = .ok (.iload_n 1, 1) := by decide +kernel
theorem dX5_asTreble_22 : decode cX5_asTreble 22 = .ok (.iconst 0, 1) := by decide +kernel
theorem dX5_asTreble_23 : decode cX5_asTreble 23 = .ok (.invokevirtual 53, 3) := by decide +kernel
theorem dX5_asTreble_26 : decode cX5_asTreble 26 = .ok (.iadd, 1) := by decide +kernel
theorem dX5_asTreble_27 : decode cX5_asTreble 27 = .ok (.ireturn, 1) := by decide +kernel
abbrev rX5_asTreble : Room := { frames := 2, cells := 0, slots := 0, locals := 45 }
set_option maxHeartbeats 4000000 in
set_option maxRecDepth 100000 in
theorem c_X5_asTreble (l : Launch) (D : va_G) (b : Nat) (cs : Cs3) (x1 : Int32) (S S1 : St) (r : Int32) (h : p_X5_asTreble x1 S = some (r, S1)) : Ct l yX5_asTreble cX5_asTreble 2 (some .int) rX5_asTreble D b cs [.ref (b + 98), .int x1] S (some (.int r)) S1 := by
  refine x_met (by decide +kernel) (Nat.le_of_ble_eq_true rfl) ?_
  intro p e s m below meth c ls hC hr hW hS hl
  have hl : lv_has ls 2 [(0, .ref (b + 98)), (1, .int x1)] := hl
  rw [p_X5_asTreble] at h
  refine lv_aload_n hC.1 hC.2.1 dX5_asTreble_0 rfl (lv_at hl 0 rfl) ?_
  refine lv_dup hC.1 hC.2.1 dX5_asTreble_1 rfl ?_
  refine x_get (C := RX5) (T := TX5) (N := 2) (v := _) hC hW 98 (by decide) rfl rfl uX5 1 (by decide) fl_X5_9 rfl rfl dX5_asTreble_2 ?_
  refine lv_ldc2 (v := 10) hC.1 hC.2.1 hC.2.2.2.1 (hC.2.2.2.2.1 _ kw_X5_51) dX5_asTreble_5 ?_
  refine lv_ladd hC.1 hC.2.1 dX5_asTreble_8 ?_
  refine x_putl (C := RX5) (T := TX5) (N := 2) hC hW hS 98 (by decide) rfl rfl uX5 tyX5 tyX5_ok nmX5 1 (by decide) fl_X5_9 rfl (by decide +kernel) rfl sl1_98 dX5_asTreble_9 (fun H locs hW hS => ?_)
  refine lv_aload_n hC.1 hC.2.1 dX5_asTreble_12 rfl (lv_at hl 0 rfl) ?_
  refine lv_iload_n hC.1 hC.2.1 dX5_asTreble_13 rfl (lv_at hl 1 rfl) ?_
  obtain ⟨⟨q14_r, q14_S⟩, hq, h⟩ := xb h
  try dsimp only at h
  refine x_callV (T := TX5) (N := 2) (As := [.int x1]) (rest := []) hC hW hS 98 (c_X5_asBoy l D b cs _ _ _ _ hq) (by decide) rfl rfl mi_X5_asBoy in_X5_asBoy sl_X5_asBoy ml_X5_19 ⟨rfl, rfl⟩ ⟨Nat.le_of_ble_eq_true rfl, Nat.le_of_ble_eq_true rfl⟩ ⟨Nat.zero_le _, Nat.zero_le _⟩ rfl rfl hl.1 (Nat.le_of_ble_eq_true rfl) dX5_asTreble_14 (fun H locs hW hS => ?_)
  refine lv_aload_n hC.1 hC.2.1 dX5_asTreble_17 rfl (lv_at hl 0 rfl) ?_
  refine x_get (C := RX5) (T := TX5) (N := 2) (v := _) hC hW 98 (by decide) rfl rfl uX5 0 (by decide) fl_X5_15 rfl rfl dX5_asTreble_18 ?_
  refine lv_iload_n hC.1 hC.2.1 dX5_asTreble_21 rfl (lv_at hl 1 rfl) ?_
  refine lv_iconst (v := 0) hC.1 hC.2.1 dX5_asTreble_22 (by decide) ?_
  obtain ⟨⟨q23_r, q23_S⟩, hq, h⟩ := xb h
  try dsimp only at h
  refine x_callV (T := TX1) (N := 2) (As := [.int x1, .int (0 : Int32)]) (rest := [.int q14_r]) hC hW hS 90 (c_X1_highest l D b cs _ _ _ _ _ hq) (by decide) rfl rfl mi_X1_highest in_X1_highest sl_X1_highest ml_X5_53 ⟨rfl, rfl⟩ ⟨Nat.le_of_ble_eq_true rfl, Nat.le_of_ble_eq_true rfl⟩ ⟨Nat.zero_le _, Nat.zero_le _⟩ rfl rfl hl.1 (Nat.le_of_ble_eq_true rfl) dX5_asTreble_23 (fun H locs hW hS => ?_)
  refine lv_iadd hC.1 hC.2.1 dX5_asTreble_26 ?_
  obtain ⟨rfl, rfl⟩ := xr h
  exact x_iret hC hr hW hS dX5_asTreble_27
theorem dX5_asSoloist_0 : decode cX5_asSoloist 0 = .ok (.aload_n 0, 1) := by decide +kernel
theorem dX5_asSoloist_1 : decode cX5_asSoloist 1 = .ok (.dup, 1) := by decide +kernel
theorem dX5_asSoloist_2 : decode cX5_asSoloist 2 = .ok (.getfield 9, 3) := by decide +kernel
theorem dX5_asSoloist_5 : decode cX5_asSoloist 5 = .ok (.ldc2_w 67, 3) := by decide +kernel
theorem dX5_asSoloist_8 : decode cX5_asSoloist 8 = .ok (.ladd, 1) := by decide +kernel
theorem dX5_asSoloist_9 : decode cX5_asSoloist 9 = .ok (.putfield 9, 3) := by decide +kernel
theorem dX5_asSoloist_12 : decode cX5_asSoloist 12 = .ok (.iconst 2, 1) := by decide +kernel
theorem dX5_asSoloist_13 : decode cX5_asSoloist 13 = .ok (.aload_n 0, 1) := by decide +kernel
theorem dX5_asSoloist_14 : decode cX5_asSoloist 14 = .ok (.iload_n 1, 1) := by decide +kernel
theorem dX5_asSoloist_15 : decode cX5_asSoloist 15 = .ok (.invokevirtual 23, 3) := by decide +kernel
theorem dX5_asSoloist_18 : decode cX5_asSoloist 18 = .ok (.imul, 1) := by decide +kernel
theorem dX5_asSoloist_19 : decode cX5_asSoloist 19 = .ok (.ireturn, 1) := by decide +kernel
abbrev rX5_asSoloist : Room := { frames := 3, cells := 0, slots := 0, locals := 66 }
set_option maxHeartbeats 4000000 in
set_option maxRecDepth 100000 in
theorem c_X5_asSoloist (l : Launch) (D : va_G) (b : Nat) (cs : Cs3) (x1 : Int32) (S S1 : St) (r : Int32) (h : p_X5_asSoloist x1 S = some (r, S1)) : Ct l yX5_asSoloist cX5_asSoloist 2 (some .int) rX5_asSoloist D b cs [.ref (b + 98), .int x1] S (some (.int r)) S1 := by
  refine x_met (by decide +kernel) (Nat.le_of_ble_eq_true rfl) ?_
  intro p e s m below meth c ls hC hr hW hS hl
  have hl : lv_has ls 2 [(0, .ref (b + 98)), (1, .int x1)] := hl
  rw [p_X5_asSoloist] at h
  refine lv_aload_n hC.1 hC.2.1 dX5_asSoloist_0 rfl (lv_at hl 0 rfl) ?_
  refine lv_dup hC.1 hC.2.1 dX5_asSoloist_1 rfl ?_
  refine x_get (C := RX5) (T := TX5) (N := 2) (v := _) hC hW 98 (by decide) rfl rfl uX5 1 (by decide) fl_X5_9 rfl rfl dX5_asSoloist_2 ?_
  refine lv_ldc2 (v := 1000) hC.1 hC.2.1 hC.2.2.2.1 (hC.2.2.2.2.1 _ kw_X5_67) dX5_asSoloist_5 ?_
  refine lv_ladd hC.1 hC.2.1 dX5_asSoloist_8 ?_
  refine x_putl (C := RX5) (T := TX5) (N := 2) hC hW hS 98 (by decide) rfl rfl uX5 tyX5 tyX5_ok nmX5 1 (by decide) fl_X5_9 rfl (by decide +kernel) rfl sl1_98 dX5_asSoloist_9 (fun H locs hW hS => ?_)
  refine lv_iconst (v := 2) hC.1 hC.2.1 dX5_asSoloist_12 (by decide) ?_
  refine lv_aload_n hC.1 hC.2.1 dX5_asSoloist_13 rfl (lv_at hl 0 rfl) ?_
  refine lv_iload_n hC.1 hC.2.1 dX5_asSoloist_14 rfl (lv_at hl 1 rfl) ?_
  obtain ⟨⟨q15_r, q15_S⟩, hq, h⟩ := xb h
  try dsimp only at h
  refine x_callV (T := TX5) (N := 2) (As := [.int x1]) (rest := [.int (2 : Int32)]) hC hW hS 98 (c_X5_asTreble l D b cs _ _ _ _ hq) (by decide) rfl rfl mi_X5_asTreble in_X5_asTreble sl_X5_asTreble ml_X5_23 ⟨rfl, rfl⟩ ⟨Nat.le_of_ble_eq_true rfl, Nat.le_of_ble_eq_true rfl⟩ ⟨Nat.zero_le _, Nat.zero_le _⟩ rfl rfl hl.1 (Nat.le_of_ble_eq_true rfl) dX5_asSoloist_15 (fun H locs hW hS => ?_)
  refine lv_imul hC.1 hC.2.1 dX5_asSoloist_18 ?_
  obtain ⟨rfl, rfl⟩ := xr h
  exact x_iret hC hr hW hS dX5_asSoloist_19
theorem dX5_asTwin_0 : decode cX5_asTwin 0 = .ok (.aload_n 0, 1) := by decide +kernel
theorem dX5_asTwin_1 : decode cX5_asTwin 1 = .ok (.dup, 1) := by decide +kernel
theorem dX5_asTwin_2 : decode cX5_asTwin 2 = .ok (.getfield 9, 3) := by decide +kernel
theorem dX5_asTwin_5 : decode cX5_asTwin 5 = .ok (.ldc2_w 69, 3) := by decide +kernel
theorem dX5_asTwin_8 : decode cX5_asTwin 8 = .ok (.ladd, 1) := by decide +kernel
theorem dX5_asTwin_9 : decode cX5_asTwin 9 = .ok (.putfield 9, 3) := by decide +kernel
theorem dX5_asTwin_12 : decode cX5_asTwin 12 = .ok (.aload_n 0, 1) := by decide +kernel
theorem dX5_asTwin_13 : decode cX5_asTwin 13 = .ok (.iload_n 1, 1) := by decide +kernel
theorem dX5_asTwin_14 : decode cX5_asTwin 14 = .ok (.invokevirtual 26, 3) := by decide +kernel
theorem dX5_asTwin_17 : decode cX5_asTwin 17 = .ok (.iload_n 1, 1) := by decide +kernel
theorem dX5_asTwin_18 : decode cX5_asTwin 18 = .ok (.iadd, 1) := by decide +kernel
theorem dX5_asTwin_19 : decode cX5_asTwin 19 = .ok (.ireturn, 1) := by decide +kernel
abbrev rX5_asTwin : Room := { frames := 4, cells := 0, slots := 0, locals := 92 }
set_option maxHeartbeats 4000000 in
set_option maxRecDepth 100000 in
theorem c_X5_asTwin (l : Launch) (D : va_G) (b : Nat) (cs : Cs3) (x1 : Int32) (S S1 : St) (r : Int32) (h : p_X5_asTwin x1 S = some (r, S1)) : Ct l yX5_asTwin cX5_asTwin 2 (some .int) rX5_asTwin D b cs [.ref (b + 98), .int x1] S (some (.int r)) S1 := by
  refine x_met (by decide +kernel) (Nat.le_of_ble_eq_true rfl) ?_
  intro p e s m below meth c ls hC hr hW hS hl
  have hl : lv_has ls 2 [(0, .ref (b + 98)), (1, .int x1)] := hl
  rw [p_X5_asTwin] at h
  refine lv_aload_n hC.1 hC.2.1 dX5_asTwin_0 rfl (lv_at hl 0 rfl) ?_
  refine lv_dup hC.1 hC.2.1 dX5_asTwin_1 rfl ?_
  refine x_get (C := RX5) (T := TX5) (N := 2) (v := _) hC hW 98 (by decide) rfl rfl uX5 1 (by decide) fl_X5_9 rfl rfl dX5_asTwin_2 ?_
  refine lv_ldc2 (v := 10000) hC.1 hC.2.1 hC.2.2.2.1 (hC.2.2.2.2.1 _ kw_X5_69) dX5_asTwin_5 ?_
  refine lv_ladd hC.1 hC.2.1 dX5_asTwin_8 ?_
  refine x_putl (C := RX5) (T := TX5) (N := 2) hC hW hS 98 (by decide) rfl rfl uX5 tyX5 tyX5_ok nmX5 1 (by decide) fl_X5_9 rfl (by decide +kernel) rfl sl1_98 dX5_asTwin_9 (fun H locs hW hS => ?_)
  refine lv_aload_n hC.1 hC.2.1 dX5_asTwin_12 rfl (lv_at hl 0 rfl) ?_
  refine lv_iload_n hC.1 hC.2.1 dX5_asTwin_13 rfl (lv_at hl 1 rfl) ?_
  obtain ⟨⟨q14_r, q14_S⟩, hq, h⟩ := xb h
  try dsimp only at h
  refine x_callV (T := TX5) (N := 2) (As := [.int x1]) (rest := []) hC hW hS 98 (c_X5_asAlto l D b cs _ _ _ _ hq) (by decide) rfl rfl mi_X5_asAlto in_X5_asAlto sl_X5_asAlto ml_X5_26 ⟨rfl, rfl⟩ ⟨Nat.le_of_ble_eq_true rfl, Nat.le_of_ble_eq_true rfl⟩ ⟨Nat.zero_le _, Nat.zero_le _⟩ rfl rfl hl.1 (Nat.le_of_ble_eq_true rfl) dX5_asTwin_14 (fun H locs hW hS => ?_)
  refine lv_iload_n hC.1 hC.2.1 dX5_asTwin_17 rfl (lv_at hl 1 rfl) ?_
  refine lv_iadd hC.1 hC.2.1 dX5_asTwin_18 ?_
  obtain ⟨rfl, rfl⟩ := xr h
  exact x_iret hC hr hW hS dX5_asTwin_19
theorem dX5_rateAs_0 : decode cX5_rateAs 0 = .ok (.iload_n 1, 1) := by decide +kernel
theorem dX5_rateAs_1 : decode cX5_rateAs 1 = .ok (.tableswitch 75 0 5 #[39, 45, 51, 57, 63, 69], 39) := by decide +kernel
theorem dX5_rateAs_40 : decode cX5_rateAs 40 = .ok (.aload_n 0, 1) := by decide +kernel
theorem dX5_rateAs_41 : decode cX5_rateAs 41 = .ok (.iload_n 2, 1) := by decide +kernel
theorem dX5_rateAs_42 : decode cX5_rateAs 42 = .ok (.invokevirtual 19, 3) := by decide +kernel
theorem dX5_rateAs_45 : decode cX5_rateAs 45 = .ok (.ireturn, 1) := by decide +kernel
theorem dX5_rateAs_46 : decode cX5_rateAs 46 = .ok (.aload_n 0, 1) := by decide +kernel
theorem dX5_rateAs_47 : decode cX5_rateAs 47 = .ok (.iload_n 2, 1) := by decide +kernel
theorem dX5_rateAs_48 : decode cX5_rateAs 48 = .ok (.invokevirtual 23, 3) := by decide +kernel
theorem dX5_rateAs_51 : decode cX5_rateAs 51 = .ok (.ireturn, 1) := by decide +kernel
theorem dX5_rateAs_52 : decode cX5_rateAs 52 = .ok (.aload_n 0, 1) := by decide +kernel
theorem dX5_rateAs_53 : decode cX5_rateAs 53 = .ok (.iload_n 2, 1) := by decide +kernel
theorem dX5_rateAs_54 : decode cX5_rateAs 54 = .ok (.invokevirtual 26, 3) := by decide +kernel
theorem dX5_rateAs_57 : decode cX5_rateAs 57 = .ok (.ireturn, 1) := by decide +kernel
theorem dX5_rateAs_58 : decode cX5_rateAs 58 = .ok (.aload_n 0, 1) := by decide +kernel
theorem dX5_rateAs_59 : decode cX5_rateAs 59 = .ok (.iload_n 2, 1) := by decide +kernel
theorem dX5_rateAs_60 : decode cX5_rateAs 60 = .ok (.invokevirtual 29, 3) := by decide +kernel
theorem dX5_rateAs_63 : decode cX5_rateAs 63 = .ok (.ireturn, 1) := by decide +kernel
theorem dX5_rateAs_64 : decode cX5_rateAs 64 = .ok (.aload_n 0, 1) := by decide +kernel
theorem dX5_rateAs_65 : decode cX5_rateAs 65 = .ok (.iload_n 2, 1) := by decide +kernel
theorem dX5_rateAs_66 : decode cX5_rateAs 66 = .ok (.invokevirtual 32, 3) := by decide +kernel
theorem dX5_rateAs_69 : decode cX5_rateAs 69 = .ok (.ireturn, 1) := by decide +kernel
theorem dX5_rateAs_70 : decode cX5_rateAs 70 = .ok (.aload_n 0, 1) := by decide +kernel
theorem dX5_rateAs_71 : decode cX5_rateAs 71 = .ok (.iload_n 2, 1) := by decide +kernel
theorem dX5_rateAs_72 : decode cX5_rateAs 72 = .ok (.invokevirtual 35, 3) := by decide +kernel
theorem dX5_rateAs_75 : decode cX5_rateAs 75 = .ok (.ireturn, 1) := by decide +kernel
theorem dX5_rateAs_76 : decode cX5_rateAs 76 = .ok (.ldc 38, 2) := by decide +kernel
theorem dX5_rateAs_78 : decode cX5_rateAs 78 = .ok (.ireturn, 1) := by decide +kernel
abbrev rX5_rateAs : Room := { frames := 5, cells := 0, slots := 0, locals := 113 }
set_option maxHeartbeats 4000000 in
set_option maxRecDepth 100000 in
theorem c_X5_rateAs (l : Launch) (D : va_G) (b : Nat) (cs : Cs3) (x1 : Int32) (x2 : Int32) (S S1 : St) (r : Int32) (h : p_X5_rateAs x1 x2 S = some (r, S1)) : Ct l yX5_rateAs cX5_rateAs 3 (some .int) rX5_rateAs D b cs [.ref (b + 98), .int x1, .int x2] S (some (.int r)) S1 := by
  refine x_met (by decide +kernel) (Nat.le_of_ble_eq_true rfl) ?_
  intro p e s m below meth c ls hC hr hW hS hl
  have hl : lv_has ls 3 [(0, .ref (b + 98)), (1, .int x1), (2, .int x2)] := hl
  rw [p_X5_rateAs] at h
  refine lv_iload_n hC.1 hC.2.1 dX5_rateAs_0 rfl (lv_at hl 1 rfl) ?_
  by_cases hc0 : x1 = 0
  · replace h := xt hc0 h
    refine lv_tableIn (off := 39) (tgt := 40) hC.1 hC.2.1 dX5_rateAs_1 (by rw [hc0]; decide) (by rw [hc0]; decide) (by rw [hc0]; rfl) (by decide) ?_
    refine lv_aload_n hC.1 hC.2.1 dX5_rateAs_40 rfl (lv_at hl 0 rfl) ?_
    refine lv_iload_n hC.1 hC.2.1 dX5_rateAs_41 rfl (lv_at hl 2 rfl) ?_
    obtain ⟨⟨q42_r, q42_S⟩, hq, h⟩ := xb h
    try dsimp only at h
    refine x_callV (T := TX5) (N := 2) (As := [.int x2]) (rest := []) hC hW hS 98 (c_X5_asBoy l D b cs _ _ _ _ hq) (by decide) rfl rfl mi_X5_asBoy in_X5_asBoy sl_X5_asBoy ml_X5_19 ⟨rfl, rfl⟩ ⟨Nat.le_of_ble_eq_true rfl, Nat.le_of_ble_eq_true rfl⟩ ⟨Nat.zero_le _, Nat.zero_le _⟩ rfl rfl hl.1 (Nat.le_of_ble_eq_true rfl) dX5_rateAs_42 (fun H locs hW hS => ?_)
    obtain ⟨rfl, rfl⟩ := xr h
    exact x_iret hC hr hW hS dX5_rateAs_45
  replace h := xf hc0 h
  by_cases hc1 : x1 = 1
  · replace h := xt hc1 h
    refine lv_tableIn (off := 45) (tgt := 46) hC.1 hC.2.1 dX5_rateAs_1 (by rw [hc1]; decide) (by rw [hc1]; decide) (by rw [hc1]; rfl) (by decide) ?_
    refine lv_aload_n hC.1 hC.2.1 dX5_rateAs_46 rfl (lv_at hl 0 rfl) ?_
    refine lv_iload_n hC.1 hC.2.1 dX5_rateAs_47 rfl (lv_at hl 2 rfl) ?_
    obtain ⟨⟨q48_r, q48_S⟩, hq, h⟩ := xb h
    try dsimp only at h
    refine x_callV (T := TX5) (N := 2) (As := [.int x2]) (rest := []) hC hW hS 98 (c_X5_asTreble l D b cs _ _ _ _ hq) (by decide) rfl rfl mi_X5_asTreble in_X5_asTreble sl_X5_asTreble ml_X5_23 ⟨rfl, rfl⟩ ⟨Nat.le_of_ble_eq_true rfl, Nat.le_of_ble_eq_true rfl⟩ ⟨Nat.zero_le _, Nat.zero_le _⟩ rfl rfl hl.1 (Nat.le_of_ble_eq_true rfl) dX5_rateAs_48 (fun H locs hW hS => ?_)
    obtain ⟨rfl, rfl⟩ := xr h
    exact x_iret hC hr hW hS dX5_rateAs_51
  replace h := xf hc1 h
  by_cases hc2 : x1 = 2
  · replace h := xt hc2 h
    refine lv_tableIn (off := 51) (tgt := 52) hC.1 hC.2.1 dX5_rateAs_1 (by rw [hc2]; decide) (by rw [hc2]; decide) (by rw [hc2]; rfl) (by decide) ?_
    refine lv_aload_n hC.1 hC.2.1 dX5_rateAs_52 rfl (lv_at hl 0 rfl) ?_
    refine lv_iload_n hC.1 hC.2.1 dX5_rateAs_53 rfl (lv_at hl 2 rfl) ?_
    obtain ⟨⟨q54_r, q54_S⟩, hq, h⟩ := xb h
    try dsimp only at h
    refine x_callV (T := TX5) (N := 2) (As := [.int x2]) (rest := []) hC hW hS 98 (c_X5_asAlto l D b cs _ _ _ _ hq) (by decide) rfl rfl mi_X5_asAlto in_X5_asAlto sl_X5_asAlto ml_X5_26 ⟨rfl, rfl⟩ ⟨Nat.le_of_ble_eq_true rfl, Nat.le_of_ble_eq_true rfl⟩ ⟨Nat.zero_le _, Nat.zero_le _⟩ rfl rfl hl.1 (Nat.le_of_ble_eq_true rfl) dX5_rateAs_54 (fun H locs hW hS => ?_)
    obtain ⟨rfl, rfl⟩ := xr h
    exact x_iret hC hr hW hS dX5_rateAs_57
  replace h := xf hc2 h
  by_cases hc3 : x1 = 3
  · replace h := xt hc3 h
    refine lv_tableIn (off := 57) (tgt := 58) hC.1 hC.2.1 dX5_rateAs_1 (by rw [hc3]; decide) (by rw [hc3]; decide) (by rw [hc3]; rfl) (by decide) ?_
    refine lv_aload_n hC.1 hC.2.1 dX5_rateAs_58 rfl (lv_at hl 0 rfl) ?_
    refine lv_iload_n hC.1 hC.2.1 dX5_rateAs_59 rfl (lv_at hl 2 rfl) ?_
    obtain ⟨⟨q60_r, q60_S⟩, hq, h⟩ := xb h
    try dsimp only at h
    refine x_callV (T := TX5) (N := 2) (As := [.int x2]) (rest := []) hC hW hS 98 (c_X5_asSoloist l D b cs _ _ _ _ hq) (by decide) rfl rfl mi_X5_asSoloist in_X5_asSoloist sl_X5_asSoloist ml_X5_29 ⟨rfl, rfl⟩ ⟨Nat.le_of_ble_eq_true rfl, Nat.le_of_ble_eq_true rfl⟩ ⟨Nat.zero_le _, Nat.zero_le _⟩ rfl rfl hl.1 (Nat.le_of_ble_eq_true rfl) dX5_rateAs_60 (fun H locs hW hS => ?_)
    obtain ⟨rfl, rfl⟩ := xr h
    exact x_iret hC hr hW hS dX5_rateAs_63
  replace h := xf hc3 h
  by_cases hc4 : x1 = 4
  · replace h := xt hc4 h
    refine lv_tableIn (off := 63) (tgt := 64) hC.1 hC.2.1 dX5_rateAs_1 (by rw [hc4]; decide) (by rw [hc4]; decide) (by rw [hc4]; rfl) (by decide) ?_
    refine lv_aload_n hC.1 hC.2.1 dX5_rateAs_64 rfl (lv_at hl 0 rfl) ?_
    refine lv_iload_n hC.1 hC.2.1 dX5_rateAs_65 rfl (lv_at hl 2 rfl) ?_
    obtain ⟨⟨q66_r, q66_S⟩, hq, h⟩ := xb h
    try dsimp only at h
    refine x_callV (T := TX5) (N := 2) (As := [.int x2]) (rest := []) hC hW hS 98 (c_X5_asTwin l D b cs _ _ _ _ hq) (by decide) rfl rfl mi_X5_asTwin in_X5_asTwin sl_X5_asTwin ml_X5_32 ⟨rfl, rfl⟩ ⟨Nat.le_of_ble_eq_true rfl, Nat.le_of_ble_eq_true rfl⟩ ⟨Nat.zero_le _, Nat.zero_le _⟩ rfl rfl hl.1 (Nat.le_of_ble_eq_true rfl) dX5_rateAs_66 (fun H locs hW hS => ?_)
    obtain ⟨rfl, rfl⟩ := xr h
    exact x_iret hC hr hW hS dX5_rateAs_69
  replace h := xf hc4 h
  by_cases hc5 : x1 = 5
  · replace h := xt hc5 h
    refine lv_tableIn (off := 69) (tgt := 70) hC.1 hC.2.1 dX5_rateAs_1 (by rw [hc5]; decide) (by rw [hc5]; decide) (by rw [hc5]; rfl) (by decide) ?_
    refine lv_aload_n hC.1 hC.2.1 dX5_rateAs_70 rfl (lv_at hl 0 rfl) ?_
    refine lv_iload_n hC.1 hC.2.1 dX5_rateAs_71 rfl (lv_at hl 2 rfl) ?_
    obtain ⟨⟨q72_r, q72_S⟩, hq, h⟩ := xb h
    try dsimp only at h
    refine x_callV (T := TX5) (N := 2) (As := [.int x2]) (rest := []) hC hW hS 98 (c_X5_asBass l D b cs _ _ _ _ hq) (by decide) rfl rfl mi_X5_asBass in_X5_asBass sl_X5_asBass ml_X5_35 ⟨rfl, rfl⟩ ⟨Nat.le_of_ble_eq_true rfl, Nat.le_of_ble_eq_true rfl⟩ ⟨Nat.zero_le _, Nat.zero_le _⟩ rfl rfl hl.1 (Nat.le_of_ble_eq_true rfl) dX5_rateAs_72 (fun H locs hW hS => ?_)
    obtain ⟨rfl, rfl⟩ := xr h
    exact x_iret hC hr hW hS dX5_rateAs_75
  replace h := xf hc5 h
  have hn0 : ¬ (x1).toInt = 0 := lv_neT hc0 rfl
  have hn1 : ¬ (x1).toInt = 1 := lv_neT hc1 rfl
  have hn2 : ¬ (x1).toInt = 2 := lv_neT hc2 rfl
  have hn3 : ¬ (x1).toInt = 3 := lv_neT hc3 rfl
  have hn4 : ¬ (x1).toInt = 4 := lv_neT hc4 rfl
  have hn5 : ¬ (x1).toInt = 5 := lv_neT hc5 rfl
  refine lv_tableOut (tgt := 76) hC.1 hC.2.1 dX5_rateAs_1 (by omega) (by decide) ?_
  refine lv_ldc (v := -1000000) hC.1 hC.2.1 hC.2.2.2.1 (hC.2.2.2.2.1 _ kw_X5_38) dX5_rateAs_76 ?_
  obtain ⟨rfl, rfl⟩ := xr h
  exact x_iret hC hr hW hS dX5_rateAs_78
theorem dX8_becomes_0 : decode cX8_becomes 0 = .ok (.iconst 0, 1) := by decide +kernel
theorem dX8_becomes_1 : decode cX8_becomes 1 = .ok (.istore_n 2, 1) := by decide +kernel
theorem dX8_becomes_2 : decode cX8_becomes 2 = .ok (.iload_n 2, 1) := by decide +kernel
theorem dX8_becomes_3 : decode cX8_becomes 3 = .ok (.iconst 5, 1) := by decide +kernel
theorem dX8_becomes_4 : decode cX8_becomes 4 = .ok (.if_icmp .ge 45, 3) := by decide +kernel
theorem dX8_becomes_7 : decode cX8_becomes 7 = .ok (.aload_n 0, 1) := by decide +kernel
theorem dX8_becomes_8 : decode cX8_becomes 8 = .ok (.getfield 9, 3) := by decide +kernel
theorem dX8_becomes_11 : decode cX8_becomes 11 = .ok (.iload_n 2, 1) := by decide +kernel
theorem dX8_becomes_12 : decode cX8_becomes 12 = .ok (.aload_n 1, 1) := by decide +kernel
theorem dX8_becomes_13 : decode cX8_becomes 13 = .ok (.getfield 9, 3) := by decide +kernel
theorem dX8_becomes_16 : decode cX8_becomes 16 = .ok (.iload_n 2, 1) := by decide +kernel
theorem dX8_becomes_17 : decode cX8_becomes 17 = .ok (.iaload, 1) := by decide +kernel
theorem dX8_becomes_18 : decode cX8_becomes 18 = .ok (.iastore, 1) := by decide +kernel
theorem dX8_becomes_19 : decode cX8_becomes 19 = .ok (.aload_n 0, 1) := by decide +kernel
theorem dX8_becomes_20 : decode cX8_becomes 20 = .ok (.getfield 15, 3) := by decide +kernel
theorem dX8_becomes_23 : decode cX8_becomes 23 = .ok (.iload_n 2, 1) := by decide +kernel
theorem dX8_becomes_24 : decode cX8_becomes 24 = .ok (.aload_n 1, 1) := by decide +kernel
theorem dX8_becomes_25 : decode cX8_becomes 25 = .ok (.getfield 15, 3) := by decide +kernel
theorem dX8_becomes_28 : decode cX8_becomes 28 = .ok (.iload_n 2, 1) := by decide +kernel
theorem dX8_becomes_29 : decode cX8_becomes 29 = .ok (.iaload, 1) := by decide +kernel
theorem dX8_becomes_30 : decode cX8_becomes 30 = .ok (.iastore, 1) := by decide +kernel
theorem dX8_becomes_31 : decode cX8_becomes 31 = .ok (.aload_n 0, 1) := by decide +kernel
theorem dX8_becomes_32 : decode cX8_becomes 32 = .ok (.getfield 18, 3) := by decide +kernel
theorem dX8_becomes_35 : decode cX8_becomes 35 = .ok (.iload_n 2, 1) := by decide +kernel
theorem dX8_becomes_36 : decode cX8_becomes 36 = .ok (.aload_n 1, 1) := by decide +kernel
theorem dX8_becomes_37 : decode cX8_becomes 37 = .ok (.getfield 18, 3) := by decide +kernel
theorem dX8_becomes_40 : decode cX8_becomes 40 = .ok (.iload_n 2, 1) := by decide +kernel
theorem dX8_becomes_41 : decode cX8_becomes 41 = .ok (.iaload, 1) := by decide +kernel
theorem dX8_becomes_42 : decode cX8_becomes 42 = .ok (.iastore, 1) := by decide +kernel
theorem dX8_becomes_43 : decode cX8_becomes 43 = .ok (.iinc 2 1, 3) := by decide +kernel
theorem dX8_becomes_46 : decode cX8_becomes 46 = .ok (.goto (-44), 3) := by decide +kernel
theorem dX8_becomes_49 : decode cX8_becomes 49 = .ok (.iconst 0, 1) := by decide +kernel
theorem dX8_becomes_50 : decode cX8_becomes 50 = .ok (.istore_n 2, 1) := by decide +kernel
theorem dX8_becomes_51 : decode cX8_becomes 51 = .ok (.iload_n 2, 1) := by decide +kernel
theorem dX8_becomes_52 : decode cX8_becomes 52 = .ok (.bipush 8, 2) := by decide +kernel
theorem dX8_becomes_54 : decode cX8_becomes 54 = .ok (.if_icmp .ge 21, 3) := by decide +kernel
theorem dX8_becomes_57 : decode cX8_becomes 57 = .ok (.aload_n 0, 1) := by decide +kernel
theorem dX8_becomes_58 : decode cX8_becomes 58 = .ok (.getfield 21, 3) := by decide +kernel
theorem dX8_becomes_61 : decode cX8_becomes 61 = .ok (.iload_n 2, 1) := by decide +kernel
theorem dX8_becomes_62 : decode cX8_becomes 62 = .ok (.aload_n 1, 1) := by decide +kernel
theorem dX8_becomes_63 : decode cX8_becomes 63 = .ok (.getfield 21, 3) := by decide +kernel
theorem dX8_becomes_66 : decode cX8_becomes 66 = .ok (.iload_n 2, 1) := by decide +kernel
theorem dX8_becomes_67 : decode cX8_becomes 67 = .ok (.iaload, 1) := by decide +kernel
theorem dX8_becomes_68 : decode cX8_becomes 68 = .ok (.iastore, 1) := by decide +kernel
theorem dX8_becomes_69 : decode cX8_becomes 69 = .ok (.iinc 2 1, 3) := by decide +kernel
theorem dX8_becomes_72 : decode cX8_becomes 72 = .ok (.goto (-21), 3) := by decide +kernel
theorem dX8_becomes_75 : decode cX8_becomes 75 = .ok (.aload_n 0, 1) := by decide +kernel
theorem dX8_becomes_76 : decode cX8_becomes 76 = .ok (.aload_n 1, 1) := by decide +kernel
theorem dX8_becomes_77 : decode cX8_becomes 77 = .ok (.getfield 24, 3) := by decide +kernel
theorem dX8_becomes_80 : decode cX8_becomes 80 = .ok (.putfield 24, 3) := by decide +kernel
theorem dX8_becomes_83 : decode cX8_becomes 83 = .ok (.aload_n 0, 1) := by decide +kernel
theorem dX8_becomes_84 : decode cX8_becomes 84 = .ok (.aload_n 1, 1) := by decide +kernel
theorem dX8_becomes_85 : decode cX8_becomes 85 = .ok (.getfield 28, 3) := by decide +kernel
theorem dX8_becomes_88 : decode cX8_becomes 88 = .ok (.putfield 28, 3) := by decide +kernel
theorem dX8_becomes_91 : decode cX8_becomes 91 = .ok (.return_, 1) := by decide +kernel
abbrev rX8_becomes : Room := { frames := 0, cells := 0, slots := 0, locals := 0 }
set_option maxHeartbeats 4000000 in
set_option maxRecDepth 100000 in
theorem w_X8_becomes_51 {p : Program} {l : Launch} {e : Env} {s : State} {m : MethodId} {args : Array Value} {below : List Frame} {meth : Method} {c : Code} {D : va_G} {b : Nat} {cs : Cs3} {S1 : St} {k0 : Nat} {k1 : Nat} (hk0 : Scn k0) (hk1 : Scn k1) (hC : CX p s m args meth c RX8 cX8_becomes 3 D cs) (hr : meth.sig.returnType = none) : ∀ (n : Nat) (x2 : Int32) (S : St) (H : Heap) (locs : List Loc) (ls : Array Slot), q_X8_becomes_51 k0 k1 n x2 S = some S1 → Wd D b cs S H → va_S (AA b) s.heap H locs → lv_has ls 3 [(0, .ref (b + k0)), (1, .ref (b + k1)), (2, .int x2)] → W p l e rX8_becomes s m args below meth c H locs 0 0 (MQ below (QX D b cs none S1) args s 0 0 (AA b)) (F0 m 51 ls []) := by
  intro n
  induction n with
  | zero =>
    intro x2 S H locs ls h
    exact absurd h (by rw [q_X8_becomes_51]; exact fun q => nomatch q)
  | succ n IH =>
    intro x2 S H locs ls h hW hS hl
    rw [q_X8_becomes_51] at h
    refine lv_iload_n hC.1 hC.2.1 dX8_becomes_51 rfl (lv_at hl 2 rfl) ?_
    refine lv_bipush (v := 8) hC.1 hC.2.1 dX8_becomes_52 (by decide) ?_
    refine lv_icmp_ge (tgt := 75) hC.1 hC.2.1 dX8_becomes_54 (by decide) (fun hc => ?_) (fun hc => ?_)
    · replace h := xt hc h
      refine lv_aload_n hC.1 hC.2.1 dX8_becomes_75 rfl (lv_at hl 0 rfl) ?_
      refine lv_aload_n hC.1 hC.2.1 dX8_becomes_76 rfl (lv_at hl 1 rfl) ?_
      refine x_get (C := RX8) (T := TX8) (N := 6) (v := _) hC hW k1 (scn_lt0 hk1) hk1.2.1 rfl uX8 4 (by decide) fl_X8_24 rfl rfl dX8_becomes_77 ?_
      refine x_puti (C := RX8) (T := TX8) (N := 6) (ty := .int) hC hW hS k0 (scn_lt0 hk0) hk0.2.1 rfl uX8 tyX8 tyX8_ok nmX8 4 (by decide) fl_X8_24 rfl (by decide +kernel) rfl rfl rfl dX8_becomes_80 (fun H locs hW hS => ?_)
      refine lv_aload_n hC.1 hC.2.1 dX8_becomes_83 rfl (lv_at hl 0 rfl) ?_
      refine lv_aload_n hC.1 hC.2.1 dX8_becomes_84 rfl (lv_at hl 1 rfl) ?_
      refine x_get (C := RX8) (T := TX8) (N := 6) (v := _) hC hW k1 (scn_lt0 hk1) hk1.2.1 rfl uX8 5 (by decide) fl_X8_28 rfl rfl dX8_becomes_85 ?_
      refine x_puti (C := RX8) (T := TX8) (N := 6) (ty := .int) hC hW hS k0 (scn_lt0 hk0) hk0.2.1 rfl uX8 tyX8 tyX8_ok nmX8 5 (by decide) fl_X8_28 rfl (by decide +kernel) rfl rfl rfl dX8_becomes_88 (fun H locs hW hS => ?_)
      obtain rfl := Option.some.inj h
      exact x_vret hC hr hW hS dX8_becomes_91
    · replace h := xf hc h
      refine lv_aload_n hC.1 hC.2.1 dX8_becomes_57 rfl (lv_at hl 0 rfl) ?_
      refine x_get (C := RX8) (T := TX8) (N := 6) (v := _) hC hW k0 (scn_lt0 hk0) hk0.2.1 rfl uX8 3 (by decide) fl_X8_21 rfl rfl dX8_becomes_58 ?_
      refine lv_iload_n hC.1 hC.2.1 dX8_becomes_61 rfl (lv_at hl 2 rfl) ?_
      refine lv_aload_n hC.1 hC.2.1 dX8_becomes_62 rfl (lv_at hl 1 rfl) ?_
      refine x_get (C := RX8) (T := TX8) (N := 6) (v := _) hC hW k1 (scn_lt0 hk1) hk1.2.1 rfl uX8 3 (by decide) fl_X8_21 rfl rfl dX8_becomes_63 ?_
      refine lv_iload_n hC.1 hC.2.1 dX8_becomes_66 rfl (lv_at hl 2 rfl) ?_
      obtain ⟨hi, h⟩ := xg h
      refine x_iald hC hW (k1 + 4) (scn_lt hk1 4 (by decide)) hk1.2.2.2.2.2 hi dX8_becomes_67 ?_
      obtain ⟨hi, h⟩ := xg h
      refine x_iast hC hW hS (k0 + 4) (scn_lt hk0 4 (by decide)) hk0.2.2.2.2.2 hi dX8_becomes_68 (fun H locs hW hS => ?_)
      refine lv_iinc (v := x2 + 1) (lv' := [(2, .int (x2 + 1)), (0, .ref (b + k0)), (1, .ref (b + k1))]) hC.1 hC.2.1 dX8_becomes_69 hl (k := 2) rfl rfl (by decide) rfl (fun ls hl => ?_)
      refine lv_goto (tgt := 51) hC.1 hC.2.1 dX8_becomes_72 (by decide) ?_
      exact IH _ _ _ _ _ h hW hS (lv_sub hl [1, 2, 0] rfl)
set_option maxHeartbeats 4000000 in
set_option maxRecDepth 100000 in
theorem w_X8_becomes_2 {p : Program} {l : Launch} {e : Env} {s : State} {m : MethodId} {args : Array Value} {below : List Frame} {meth : Method} {c : Code} {D : va_G} {b : Nat} {cs : Cs3} {S1 : St} {k0 : Nat} {k1 : Nat} (hk0 : Scn k0) (hk1 : Scn k1) (hC : CX p s m args meth c RX8 cX8_becomes 3 D cs) (hr : meth.sig.returnType = none) : ∀ (n : Nat) (x2 : Int32) (S : St) (H : Heap) (locs : List Loc) (ls : Array Slot), q_X8_becomes_2 k0 k1 n x2 S = some S1 → Wd D b cs S H → va_S (AA b) s.heap H locs → lv_has ls 3 [(0, .ref (b + k0)), (1, .ref (b + k1)), (2, .int x2)] → W p l e rX8_becomes s m args below meth c H locs 0 0 (MQ below (QX D b cs none S1) args s 0 0 (AA b)) (F0 m 2 ls []) := by
  intro n
  induction n with
  | zero =>
    intro x2 S H locs ls h
    exact absurd h (by rw [q_X8_becomes_2]; exact fun q => nomatch q)
  | succ n IH =>
    intro x2 S H locs ls h hW hS hl
    rw [q_X8_becomes_2] at h
    refine lv_iload_n hC.1 hC.2.1 dX8_becomes_2 rfl (lv_at hl 2 rfl) ?_
    refine lv_iconst (v := 5) hC.1 hC.2.1 dX8_becomes_3 (by decide) ?_
    refine lv_icmp_ge (tgt := 49) hC.1 hC.2.1 dX8_becomes_4 (by decide) (fun hc => ?_) (fun hc => ?_)
    · replace h := xt hc h
      refine lv_iconst (v := 0) hC.1 hC.2.1 dX8_becomes_49 (by decide) ?_
      refine lv_istore_n (lv' := [(2, .int (0 : Int32)), (0, .ref (b + k0)), (1, .ref (b + k1))]) hC.1 hC.2.1 dX8_becomes_50 rfl hl (by decide) rfl (fun ls hl => ?_)
      exact w_X8_becomes_51 hk0 hk1 hC hr _ _ _ _ _ _ h hW hS (lv_sub hl [1, 2, 0] rfl)
    · replace h := xf hc h
      refine lv_aload_n hC.1 hC.2.1 dX8_becomes_7 rfl (lv_at hl 0 rfl) ?_
      refine x_get (C := RX8) (T := TX8) (N := 6) (v := _) hC hW k0 (scn_lt0 hk0) hk0.2.1 rfl uX8 0 (by decide) fl_X8_9 rfl rfl dX8_becomes_8 ?_
      refine lv_iload_n hC.1 hC.2.1 dX8_becomes_11 rfl (lv_at hl 2 rfl) ?_
      refine lv_aload_n hC.1 hC.2.1 dX8_becomes_12 rfl (lv_at hl 1 rfl) ?_
      refine x_get (C := RX8) (T := TX8) (N := 6) (v := _) hC hW k1 (scn_lt0 hk1) hk1.2.1 rfl uX8 0 (by decide) fl_X8_9 rfl rfl dX8_becomes_13 ?_
      refine lv_iload_n hC.1 hC.2.1 dX8_becomes_16 rfl (lv_at hl 2 rfl) ?_
      obtain ⟨hi, h⟩ := xg h
      refine x_iald hC hW (k1 + 1) (scn_lt hk1 1 (by decide)) hk1.2.2.1 hi dX8_becomes_17 ?_
      obtain ⟨hi, h⟩ := xg h
      refine x_iast hC hW hS (k0 + 1) (scn_lt hk0 1 (by decide)) hk0.2.2.1 hi dX8_becomes_18 (fun H locs hW hS => ?_)
      refine lv_aload_n hC.1 hC.2.1 dX8_becomes_19 rfl (lv_at hl 0 rfl) ?_
      refine x_get (C := RX8) (T := TX8) (N := 6) (v := _) hC hW k0 (scn_lt0 hk0) hk0.2.1 rfl uX8 1 (by decide) fl_X8_15 rfl rfl dX8_becomes_20 ?_
      refine lv_iload_n hC.1 hC.2.1 dX8_becomes_23 rfl (lv_at hl 2 rfl) ?_
      refine lv_aload_n hC.1 hC.2.1 dX8_becomes_24 rfl (lv_at hl 1 rfl) ?_
      refine x_get (C := RX8) (T := TX8) (N := 6) (v := _) hC hW k1 (scn_lt0 hk1) hk1.2.1 rfl uX8 1 (by decide) fl_X8_15 rfl rfl dX8_becomes_25 ?_
      refine lv_iload_n hC.1 hC.2.1 dX8_becomes_28 rfl (lv_at hl 2 rfl) ?_
      obtain ⟨hi, h⟩ := xg h
      refine x_iald hC hW (k1 + 2) (scn_lt hk1 2 (by decide)) hk1.2.2.2.1 hi dX8_becomes_29 ?_
      obtain ⟨hi, h⟩ := xg h
      refine x_iast hC hW hS (k0 + 2) (scn_lt hk0 2 (by decide)) hk0.2.2.2.1 hi dX8_becomes_30 (fun H locs hW hS => ?_)
      refine lv_aload_n hC.1 hC.2.1 dX8_becomes_31 rfl (lv_at hl 0 rfl) ?_
      refine x_get (C := RX8) (T := TX8) (N := 6) (v := _) hC hW k0 (scn_lt0 hk0) hk0.2.1 rfl uX8 2 (by decide) fl_X8_18 rfl rfl dX8_becomes_32 ?_
      refine lv_iload_n hC.1 hC.2.1 dX8_becomes_35 rfl (lv_at hl 2 rfl) ?_
      refine lv_aload_n hC.1 hC.2.1 dX8_becomes_36 rfl (lv_at hl 1 rfl) ?_
      refine x_get (C := RX8) (T := TX8) (N := 6) (v := _) hC hW k1 (scn_lt0 hk1) hk1.2.1 rfl uX8 2 (by decide) fl_X8_18 rfl rfl dX8_becomes_37 ?_
      refine lv_iload_n hC.1 hC.2.1 dX8_becomes_40 rfl (lv_at hl 2 rfl) ?_
      obtain ⟨hi, h⟩ := xg h
      refine x_iald hC hW (k1 + 3) (scn_lt hk1 3 (by decide)) hk1.2.2.2.2.1 hi dX8_becomes_41 ?_
      obtain ⟨hi, h⟩ := xg h
      refine x_iast hC hW hS (k0 + 3) (scn_lt hk0 3 (by decide)) hk0.2.2.2.2.1 hi dX8_becomes_42 (fun H locs hW hS => ?_)
      refine lv_iinc (v := x2 + 1) (lv' := [(2, .int (x2 + 1)), (0, .ref (b + k0)), (1, .ref (b + k1))]) hC.1 hC.2.1 dX8_becomes_43 hl (k := 2) rfl rfl (by decide) rfl (fun ls hl => ?_)
      refine lv_goto (tgt := 2) hC.1 hC.2.1 dX8_becomes_46 (by decide) ?_
      exact IH _ _ _ _ _ h hW hS (lv_sub hl [1, 2, 0] rfl)
set_option maxHeartbeats 4000000 in
set_option maxRecDepth 100000 in
theorem c_X8_becomes (l : Launch) (D : va_G) (b : Nat) (cs : Cs3) (k0 : Nat) (k1 : Nat) (S S1 : St) (hk0 : Scn k0) (hk1 : Scn k1) (h : p_X8_becomes k0 k1 S = some S1) : Ct l yX8_becomes cX8_becomes 3 none rX8_becomes D b cs [.ref (b + k0), .ref (b + k1)] S none S1 := by
  refine x_met (by decide +kernel) (Nat.le_of_ble_eq_true rfl) ?_
  intro p e s m below meth c ls hC hr hW hS hl
  have hl : lv_has ls 3 [(0, .ref (b + k0)), (1, .ref (b + k1))] := hl
  rw [p_X8_becomes] at h
  refine lv_iconst (v := 0) hC.1 hC.2.1 dX8_becomes_0 (by decide) ?_
  refine lv_istore_n (lv' := [(2, .int (0 : Int32)), (0, .ref (b + k0)), (1, .ref (b + k1))]) hC.1 hC.2.1 dX8_becomes_1 rfl hl (by decide) rfl (fun ls hl => ?_)
  exact w_X8_becomes_2 hk0 hk1 hC hr _ _ _ _ _ _ h hW hS (lv_sub hl [1, 2, 0] rfl)
theorem dX6_remember_0 : decode cX6_remember 0 = .ok (.aload_n 0, 1) := by decide +kernel
theorem dX6_remember_1 : decode cX6_remember 1 = .ok (.getfield 20, 3) := by decide +kernel
theorem dX6_remember_4 : decode cX6_remember 4 = .ok (.aload_n 0, 1) := by decide +kernel
theorem dX6_remember_5 : decode cX6_remember 5 = .ok (.getfield 9, 3) := by decide +kernel
theorem dX6_remember_8 : decode cX6_remember 8 = .ok (.aaload, 1) := by decide +kernel
theorem dX6_remember_9 : decode cX6_remember 9 = .ok (.aload_n 1, 1) := by decide +kernel
theorem dX6_remember_10 : decode cX6_remember 10 = .ok (.invokevirtual 25, 3) := by decide +kernel
theorem dX6_remember_13 : decode cX6_remember 13 = .ok (.aload_n 0, 1) := by decide +kernel
theorem dX6_remember_14 : decode cX6_remember 14 = .ok (.aload_n 0, 1) := by decide +kernel
theorem dX6_remember_15 : decode cX6_remember 15 = .ok (.getfield 9, 3) := by decide +kernel
theorem dX6_remember_18 : decode cX6_remember 18 = .ok (.iconst 1, 1) := by decide +kernel
theorem dX6_remember_19 : decode cX6_remember 19 = .ok (.iadd, 1) := by decide +kernel
theorem dX6_remember_20 : decode cX6_remember 20 = .ok (.bipush 10, 2) := by decide +kernel
theorem dX6_remember_22 : decode cX6_remember 22 = .ok (.irem, 1) := by decide +kernel
theorem dX6_remember_23 : decode cX6_remember 23 = .ok (.putfield 9, 3) := by decide +kernel
theorem dX6_remember_26 : decode cX6_remember 26 = .ok (.aload_n 0, 1) := by decide +kernel
theorem dX6_remember_27 : decode cX6_remember 27 = .ok (.aload_n 0, 1) := by decide +kernel
theorem dX6_remember_28 : decode cX6_remember 28 = .ok (.getfield 15, 3) := by decide +kernel
theorem dX6_remember_31 : decode cX6_remember 31 = .ok (.iconst 1, 1) := by decide +kernel
theorem dX6_remember_32 : decode cX6_remember 32 = .ok (.iadd, 1) := by decide +kernel
theorem dX6_remember_33 : decode cX6_remember 33 = .ok (.bipush 10, 2) := by decide +kernel
theorem dX6_remember_35 : decode cX6_remember 35 = .ok (.invokestatic 29, 3) := by decide +kernel
theorem dX6_remember_38 : decode cX6_remember 38 = .ok (.putfield 15, 3) := by decide +kernel
theorem dX6_remember_41 : decode cX6_remember 41 = .ok (.return_, 1) := by decide +kernel
abbrev rX6_remember : Room := { frames := 1, cells := 0, slots := 0, locals := 22 }
set_option maxHeartbeats 4000000 in
set_option maxRecDepth 100000 in
theorem c_X6_remember (l : Launch) (D : va_G) (b : Nat) (cs : Cs3) (S S1 : St) (h : p_X6_remember S = some S1) : Ct l yX6_remember cX6_remember 2 none rX6_remember D b cs [.ref (b + 26), .ref (b + 21)] S none S1 := by
  refine x_met (by decide +kernel) (Nat.le_of_ble_eq_true rfl) ?_
  intro p e s m below meth c ls hC hr hW hS hl
  have hl : lv_has ls 2 [(0, .ref (b + 26)), (1, .ref (b + 21))] := hl
  rw [p_X6_remember] at h
  refine lv_aload_n hC.1 hC.2.1 dX6_remember_0 rfl (lv_at hl 0 rfl) ?_
  refine x_get (C := RX6) (T := TX6) (N := 3) (v := _) hC hW 26 (by decide) rfl rfl uX6 0 (by decide) fl_X6_20 rfl rfl dX6_remember_1 ?_
  refine lv_aload_n hC.1 hC.2.1 dX6_remember_4 rfl (lv_at hl 0 rfl) ?_
  refine x_get (C := RX6) (T := TX6) (N := 3) (v := _) hC hW 26 (by decide) rfl rfl uX6 1 (by decide) fl_X6_9 rfl rfl dX6_remember_5 ?_
  obtain ⟨hi, h⟩ := xg h
  obtain ⟨j8, hj, h⟩ := xb h
  have hsj8 := scn_27 hj
  try dsimp only at h
  refine x_aald hC hW 27 (by decide) rfl hi hj dX6_remember_8 ?_
  refine lv_aload_n hC.1 hC.2.1 dX6_remember_9 rfl (lv_at hl 1 rfl) ?_
  obtain ⟨q10, hq, h⟩ := xb h
  try dsimp only at h
  refine x_callV (T := TX8) (N := 6) (As := [.ref (b + 21)]) (rest := []) hC hW hS j8 (c_X8_becomes l D b cs j8 21 _ _ hsj8 scn_at21 hq) (scn_lt0 hsj8) hsj8.2.1 rfl mi_X8_becomes in_X8_becomes sl_X8_becomes ml_X6_25 ⟨rfl, rfl⟩ ⟨Nat.le_of_ble_eq_true rfl, Nat.le_of_ble_eq_true rfl⟩ ⟨Nat.zero_le _, Nat.zero_le _⟩ rfl rfl hl.1 (Nat.le_of_ble_eq_true rfl) dX6_remember_10 (fun H locs hW hS => ?_)
  refine lv_aload_n hC.1 hC.2.1 dX6_remember_13 rfl (lv_at hl 0 rfl) ?_
  refine lv_aload_n hC.1 hC.2.1 dX6_remember_14 rfl (lv_at hl 0 rfl) ?_
  refine x_get (C := RX6) (T := TX6) (N := 3) (v := _) hC hW 26 (by decide) rfl rfl uX6 1 (by decide) fl_X6_9 rfl rfl dX6_remember_15 ?_
  refine lv_iconst (v := 1) hC.1 hC.2.1 dX6_remember_18 (by decide) ?_
  refine lv_iadd hC.1 hC.2.1 dX6_remember_19 ?_
  refine lv_bipush (v := 10) hC.1 hC.2.1 dX6_remember_20 (by decide) ?_
  obtain ⟨hne, h⟩ := xg h
  refine lv_irem hC.1 hC.2.1 dX6_remember_22 hne ?_
  refine x_puti (C := RX6) (T := TX6) (N := 3) (ty := .int) hC hW hS 26 (by decide) rfl rfl uX6 tyX6 tyX6_ok nmX6 1 (by decide) fl_X6_9 rfl (by decide +kernel) rfl rfl rfl dX6_remember_23 (fun H locs hW hS => ?_)
  refine lv_aload_n hC.1 hC.2.1 dX6_remember_26 rfl (lv_at hl 0 rfl) ?_
  refine lv_aload_n hC.1 hC.2.1 dX6_remember_27 rfl (lv_at hl 0 rfl) ?_
  refine x_get (C := RX6) (T := TX6) (N := 3) (v := _) hC hW 26 (by decide) rfl rfl uX6 2 (by decide) fl_X6_15 rfl rfl dX6_remember_28 ?_
  refine lv_iconst (v := 1) hC.1 hC.2.1 dX6_remember_31 (by decide) ?_
  refine lv_iadd hC.1 hC.2.1 dX6_remember_32 ?_
  refine lv_bipush (v := 10) hC.1 hC.2.1 dX6_remember_33 (by decide) ?_
  refine va_mmin (rest := [.ref (b + 26)]) hC.1 hC.2.1 (hC.2.2.1.trans hl.1.symm) hC.2.2.2.1 (hC.2.2.2.2.1 _ ml_X6_29) (hC.2.2.2.2.1 _ st_math_min) (hC.2.2.2.2.1 _ iw_math) (hC.2.2.2.2.1 _ cw_math_min) (Nat.le_of_ble_eq_true rfl) (Nat.le_of_ble_eq_true rfl) (Nat.zero_le _) (Nat.zero_le _) dX6_remember_35 ?_
  refine x_puti (C := RX6) (T := TX6) (N := 3) (ty := .int) hC hW hS 26 (by decide) rfl rfl uX6 tyX6 tyX6_ok nmX6 2 (by decide) fl_X6_15 rfl (by decide +kernel) rfl rfl rfl dX6_remember_38 (fun H locs hW hS => ?_)
  obtain rfl := Option.some.inj h
  exact x_vret hC hr hW hS dX6_remember_41
theorem dX6_bringBack_0 : decode cX6_bringBack 0 = .ok (.aload_n 0, 1) := by decide +kernel
theorem dX6_bringBack_1 : decode cX6_bringBack 1 = .ok (.getfield 15, 3) := by decide +kernel
theorem dX6_bringBack_4 : decode cX6_bringBack 4 = .ok (.ifCond .ne 4, 3) := by decide +kernel
theorem dX6_bringBack_7 : decode cX6_bringBack 7 = .ok (.return_, 1) := by decide +kernel
theorem dX6_bringBack_8 : decode cX6_bringBack 8 = .ok (.aload_n 0, 1) := by decide +kernel
theorem dX6_bringBack_9 : decode cX6_bringBack 9 = .ok (.aload_n 0, 1) := by decide +kernel
theorem dX6_bringBack_10 : decode cX6_bringBack 10 = .ok (.getfield 9, 3) := by decide +kernel
theorem dX6_bringBack_13 : decode cX6_bringBack 13 = .ok (.bipush 10, 2) := by decide +kernel
theorem dX6_bringBack_15 : decode cX6_bringBack 15 = .ok (.iadd, 1) := by decide +kernel
theorem dX6_bringBack_16 : decode cX6_bringBack 16 = .ok (.iconst 1, 1) := by decide +kernel
theorem dX6_bringBack_17 : decode cX6_bringBack 17 = .ok (.isub, 1) := by decide +kernel
theorem dX6_bringBack_18 : decode cX6_bringBack 18 = .ok (.bipush 10, 2) := by decide +kernel
theorem dX6_bringBack_20 : decode cX6_bringBack 20 = .ok (.irem, 1) := by decide +kernel
theorem dX6_bringBack_21 : decode cX6_bringBack 21 = .ok (.putfield 9, 3) := by decide +kernel
theorem dX6_bringBack_24 : decode cX6_bringBack 24 = .ok (.aload_n 0, 1) := by decide +kernel
theorem dX6_bringBack_25 : decode cX6_bringBack 25 = .ok (.dup, 1) := by decide +kernel
theorem dX6_bringBack_26 : decode cX6_bringBack 26 = .ok (.getfield 15, 3) := by decide +kernel
theorem dX6_bringBack_29 : decode cX6_bringBack 29 = .ok (.iconst 1, 1) := by decide +kernel
theorem dX6_bringBack_30 : decode cX6_bringBack 30 = .ok (.isub, 1) := by decide +kernel
theorem dX6_bringBack_31 : decode cX6_bringBack 31 = .ok (.putfield 15, 3) := by decide +kernel
theorem dX6_bringBack_34 : decode cX6_bringBack 34 = .ok (.aload_n 1, 1) := by decide +kernel
theorem dX6_bringBack_35 : decode cX6_bringBack 35 = .ok (.aload_n 0, 1) := by decide +kernel
theorem dX6_bringBack_36 : decode cX6_bringBack 36 = .ok (.getfield 20, 3) := by decide +kernel
theorem dX6_bringBack_39 : decode cX6_bringBack 39 = .ok (.aload_n 0, 1) := by decide +kernel
theorem dX6_bringBack_40 : decode cX6_bringBack 40 = .ok (.getfield 9, 3) := by decide +kernel
theorem dX6_bringBack_43 : decode cX6_bringBack 43 = .ok (.aaload, 1) := by decide +kernel
theorem dX6_bringBack_44 : decode cX6_bringBack 44 = .ok (.invokevirtual 25, 3) := by decide +kernel
theorem dX6_bringBack_47 : decode cX6_bringBack 47 = .ok (.return_, 1) := by decide +kernel
abbrev rX6_bringBack : Room := { frames := 1, cells := 0, slots := 0, locals := 22 }
set_option maxHeartbeats 4000000 in
set_option maxRecDepth 100000 in
theorem c_X6_bringBack (l : Launch) (D : va_G) (b : Nat) (cs : Cs3) (S S1 : St) (h : p_X6_bringBack S = some S1) : Ct l yX6_bringBack cX6_bringBack 2 none rX6_bringBack D b cs [.ref (b + 26), .ref (b + 21)] S none S1 := by
  refine x_met (by decide +kernel) (Nat.le_of_ble_eq_true rfl) ?_
  intro p e s m below meth c ls hC hr hW hS hl
  have hl : lv_has ls 2 [(0, .ref (b + 26)), (1, .ref (b + 21))] := hl
  rw [p_X6_bringBack] at h
  refine lv_aload_n hC.1 hC.2.1 dX6_bringBack_0 rfl (lv_at hl 0 rfl) ?_
  refine x_get (C := RX6) (T := TX6) (N := 3) (v := _) hC hW 26 (by decide) rfl rfl uX6 2 (by decide) fl_X6_15 rfl rfl dX6_bringBack_1 ?_
  refine lv_if_ne (tgt := 8) hC.1 hC.2.1 dX6_bringBack_4 (by decide) (fun hc => ?_) (fun hc => ?_)
  · replace h := xf hc h
    refine lv_aload_n hC.1 hC.2.1 dX6_bringBack_8 rfl (lv_at hl 0 rfl) ?_
    refine lv_aload_n hC.1 hC.2.1 dX6_bringBack_9 rfl (lv_at hl 0 rfl) ?_
    refine x_get (C := RX6) (T := TX6) (N := 3) (v := _) hC hW 26 (by decide) rfl rfl uX6 1 (by decide) fl_X6_9 rfl rfl dX6_bringBack_10 ?_
    refine lv_bipush (v := 10) hC.1 hC.2.1 dX6_bringBack_13 (by decide) ?_
    refine lv_iadd hC.1 hC.2.1 dX6_bringBack_15 ?_
    refine lv_iconst (v := 1) hC.1 hC.2.1 dX6_bringBack_16 (by decide) ?_
    refine lv_isub hC.1 hC.2.1 dX6_bringBack_17 ?_
    refine lv_bipush (v := 10) hC.1 hC.2.1 dX6_bringBack_18 (by decide) ?_
    obtain ⟨hne, h⟩ := xg h
    refine lv_irem hC.1 hC.2.1 dX6_bringBack_20 hne ?_
    refine x_puti (C := RX6) (T := TX6) (N := 3) (ty := .int) hC hW hS 26 (by decide) rfl rfl uX6 tyX6 tyX6_ok nmX6 1 (by decide) fl_X6_9 rfl (by decide +kernel) rfl rfl rfl dX6_bringBack_21 (fun H locs hW hS => ?_)
    refine lv_aload_n hC.1 hC.2.1 dX6_bringBack_24 rfl (lv_at hl 0 rfl) ?_
    refine lv_dup hC.1 hC.2.1 dX6_bringBack_25 rfl ?_
    refine x_get (C := RX6) (T := TX6) (N := 3) (v := _) hC hW 26 (by decide) rfl rfl uX6 2 (by decide) fl_X6_15 rfl rfl dX6_bringBack_26 ?_
    refine lv_iconst (v := 1) hC.1 hC.2.1 dX6_bringBack_29 (by decide) ?_
    refine lv_isub hC.1 hC.2.1 dX6_bringBack_30 ?_
    refine x_puti (C := RX6) (T := TX6) (N := 3) (ty := .int) hC hW hS 26 (by decide) rfl rfl uX6 tyX6 tyX6_ok nmX6 2 (by decide) fl_X6_15 rfl (by decide +kernel) rfl rfl rfl dX6_bringBack_31 (fun H locs hW hS => ?_)
    refine lv_aload_n hC.1 hC.2.1 dX6_bringBack_34 rfl (lv_at hl 1 rfl) ?_
    refine lv_aload_n hC.1 hC.2.1 dX6_bringBack_35 rfl (lv_at hl 0 rfl) ?_
    refine x_get (C := RX6) (T := TX6) (N := 3) (v := _) hC hW 26 (by decide) rfl rfl uX6 0 (by decide) fl_X6_20 rfl rfl dX6_bringBack_36 ?_
    refine lv_aload_n hC.1 hC.2.1 dX6_bringBack_39 rfl (lv_at hl 0 rfl) ?_
    refine x_get (C := RX6) (T := TX6) (N := 3) (v := _) hC hW 26 (by decide) rfl rfl uX6 1 (by decide) fl_X6_9 rfl rfl dX6_bringBack_40 ?_
    obtain ⟨hi, h⟩ := xg h
    obtain ⟨j43, hj, h⟩ := xb h
    have hsj43 := scn_27 hj
    try dsimp only at h
    refine x_aald hC hW 27 (by decide) rfl hi hj dX6_bringBack_43 ?_
    obtain ⟨q44, hq, h⟩ := xb h
    try dsimp only at h
    refine x_callV (T := TX8) (N := 6) (As := [.ref (b + j43)]) (rest := []) hC hW hS 21 (c_X8_becomes l D b cs 21 j43 _ _ scn_at21 hsj43 hq) (by decide) rfl rfl mi_X8_becomes in_X8_becomes sl_X8_becomes ml_X6_25 ⟨rfl, rfl⟩ ⟨Nat.le_of_ble_eq_true rfl, Nat.le_of_ble_eq_true rfl⟩ ⟨Nat.zero_le _, Nat.zero_le _⟩ rfl rfl hl.1 (Nat.le_of_ble_eq_true rfl) dX6_bringBack_44 (fun H locs hW hS => ?_)
    obtain rfl := Option.some.inj h
    exact x_vret hC hr hW hS dX6_bringBack_47
  · replace h := xt hc h
    obtain rfl := Option.some.inj h
    exact x_vret hC hr hW hS dX6_bringBack_7
theorem dX7_isDigit_0 : decode cX7_isDigit 0 = .ok (.iload_n 0, 1) := by decide +kernel
theorem dX7_isDigit_1 : decode cX7_isDigit 1 = .ok (.bipush 48, 2) := by decide +kernel
theorem dX7_isDigit_3 : decode cX7_isDigit 3 = .ok (.if_icmp .lt 13, 3) := by decide +kernel
theorem dX7_isDigit_6 : decode cX7_isDigit 6 = .ok (.iload_n 0, 1) := by decide +kernel
theorem dX7_isDigit_7 : decode cX7_isDigit 7 = .ok (.bipush 57, 2) := by decide +kernel
theorem dX7_isDigit_9 : decode cX7_isDigit 9 = .ok (.if_icmp .gt 7, 3) := by decide +kernel
theorem dX7_isDigit_12 : decode cX7_isDigit 12 = .ok (.iconst 1, 1) := by decide +kernel
theorem dX7_isDigit_13 : decode cX7_isDigit 13 = .ok (.goto 4, 3) := by decide +kernel
theorem dX7_isDigit_16 : decode cX7_isDigit 16 = .ok (.iconst 0, 1) := by decide +kernel
theorem dX7_isDigit_17 : decode cX7_isDigit 17 = .ok (.ireturn, 1) := by decide +kernel
abbrev rX7_isDigit : Room := { frames := 0, cells := 0, slots := 0, locals := 0 }
set_option maxHeartbeats 4000000 in
set_option maxRecDepth 100000 in
theorem c_X7_isDigit (l : Launch) (D : va_G) (b : Nat) (cs : Cs3) (x0 : Int32) (S S1 : St) (r : Int32) (h : p_X7_isDigit x0 S = some (r, S1)) : Ct l yX7_isDigit cX7_isDigit 1 (some .boolean) rX7_isDigit D b cs [.int x0] S (some (.int r)) S1 := by
  refine x_met (by decide +kernel) (Nat.le_of_ble_eq_true rfl) ?_
  intro p e s m below meth c ls hC hr hW hS hl
  have hl : lv_has ls 1 [(0, .int x0)] := hl
  rw [p_X7_isDigit] at h
  refine lv_iload_n hC.1 hC.2.1 dX7_isDigit_0 rfl (lv_at hl 0 rfl) ?_
  refine lv_bipush (v := 48) hC.1 hC.2.1 dX7_isDigit_1 (by decide) ?_
  refine lv_icmp_lt (tgt := 16) hC.1 hC.2.1 dX7_isDigit_3 (by decide) (fun hc => ?_) (fun hc => ?_)
  · replace h := xt hc h
    refine lv_iconst (v := 0) hC.1 hC.2.1 dX7_isDigit_16 (by decide) ?_
    obtain ⟨rfl, rfl⟩ := xr h
    exact x_zret hC hr hW hS (Or.inl rfl) dX7_isDigit_17
  · replace h := xf hc h
    refine lv_iload_n hC.1 hC.2.1 dX7_isDigit_6 rfl (lv_at hl 0 rfl) ?_
    refine lv_bipush (v := 57) hC.1 hC.2.1 dX7_isDigit_7 (by decide) ?_
    refine lv_icmp_gt (tgt := 16) hC.1 hC.2.1 dX7_isDigit_9 (by decide) (fun hc => ?_) (fun hc => ?_)
    · replace h := xt hc h
      refine lv_iconst (v := 0) hC.1 hC.2.1 dX7_isDigit_16 (by decide) ?_
      obtain ⟨rfl, rfl⟩ := xr h
      exact x_zret hC hr hW hS (Or.inl rfl) dX7_isDigit_17
    · replace h := xf hc h
      refine lv_iconst (v := 1) hC.1 hC.2.1 dX7_isDigit_12 (by decide) ?_
      refine lv_goto (tgt := 17) hC.1 hC.2.1 dX7_isDigit_13 (by decide) ?_
      obtain ⟨rfl, rfl⟩ := xr h
      exact x_zret hC hr hW hS (Or.inr rfl) dX7_isDigit_17
theorem dX7_isSign_0 : decode cX7_isSign 0 = .ok (.iload_n 0, 1) := by decide +kernel
theorem dX7_isSign_1 : decode cX7_isSign 1 = .ok (.bipush 110, 2) := by decide +kernel
theorem dX7_isSign_3 : decode cX7_isSign 3 = .ok (.if_icmp .eq 27, 3) := by decide +kernel
theorem dX7_isSign_6 : decode cX7_isSign 6 = .ok (.iload_n 0, 1) := by decide +kernel
theorem dX7_isSign_7 : decode cX7_isSign 7 = .ok (.bipush 100, 2) := by decide +kernel
theorem dX7_isSign_9 : decode cX7_isSign 9 = .ok (.if_icmp .eq 21, 3) := by decide +kernel
theorem dX7_isSign_12 : decode cX7_isSign 12 = .ok (.iload_n 0, 1) := by decide +kernel
theorem dX7_isSign_13 : decode cX7_isSign 13 = .ok (.bipush 98, 2) := by decide +kernel
theorem dX7_isSign_15 : decode cX7_isSign 15 = .ok (.if_icmp .eq 15, 3) := by decide +kernel
theorem dX7_isSign_18 : decode cX7_isSign 18 = .ok (.iload_n 0, 1) := by decide +kernel
theorem dX7_isSign_19 : decode cX7_isSign 19 = .ok (.bipush 115, 2) := by decide +kernel
theorem dX7_isSign_21 : decode cX7_isSign 21 = .ok (.if_icmp .eq 9, 3) := by decide +kernel
theorem dX7_isSign_24 : decode cX7_isSign 24 = .ok (.iload_n 0, 1) := by decide +kernel
theorem dX7_isSign_25 : decode cX7_isSign 25 = .ok (.bipush 59, 2) := by decide +kernel
theorem dX7_isSign_27 : decode cX7_isSign 27 = .ok (.if_icmp .ne 7, 3) := by decide +kernel
theorem dX7_isSign_30 : decode cX7_isSign 30 = .ok (.iconst 1, 1) := by decide +kernel
theorem dX7_isSign_31 : decode cX7_isSign 31 = .ok (.goto 4, 3) := by decide +kernel
theorem dX7_isSign_34 : decode cX7_isSign 34 = .ok (.iconst 0, 1) := by decide +kernel
theorem dX7_isSign_35 : decode cX7_isSign 35 = .ok (.ireturn, 1) := by decide +kernel
abbrev rX7_isSign : Room := { frames := 0, cells := 0, slots := 0, locals := 0 }
set_option maxHeartbeats 4000000 in
set_option maxRecDepth 100000 in
theorem c_X7_isSign (l : Launch) (D : va_G) (b : Nat) (cs : Cs3) (x0 : Int32) (S S1 : St) (r : Int32) (h : p_X7_isSign x0 S = some (r, S1)) : Ct l yX7_isSign cX7_isSign 1 (some .boolean) rX7_isSign D b cs [.int x0] S (some (.int r)) S1 := by
  refine x_met (by decide +kernel) (Nat.le_of_ble_eq_true rfl) ?_
  intro p e s m below meth c ls hC hr hW hS hl
  have hl : lv_has ls 1 [(0, .int x0)] := hl
  rw [p_X7_isSign] at h
  refine lv_iload_n hC.1 hC.2.1 dX7_isSign_0 rfl (lv_at hl 0 rfl) ?_
  refine lv_bipush (v := 110) hC.1 hC.2.1 dX7_isSign_1 (by decide) ?_
  refine lv_icmp_eq (tgt := 30) hC.1 hC.2.1 dX7_isSign_3 (by decide) (fun hc => ?_) (fun hc => ?_)
  · replace h := xt hc h
    refine lv_iconst (v := 1) hC.1 hC.2.1 dX7_isSign_30 (by decide) ?_
    refine lv_goto (tgt := 35) hC.1 hC.2.1 dX7_isSign_31 (by decide) ?_
    obtain ⟨rfl, rfl⟩ := xr h
    exact x_zret hC hr hW hS (Or.inr rfl) dX7_isSign_35
  · replace h := xf hc h
    refine lv_iload_n hC.1 hC.2.1 dX7_isSign_6 rfl (lv_at hl 0 rfl) ?_
    refine lv_bipush (v := 100) hC.1 hC.2.1 dX7_isSign_7 (by decide) ?_
    refine lv_icmp_eq (tgt := 30) hC.1 hC.2.1 dX7_isSign_9 (by decide) (fun hc => ?_) (fun hc => ?_)
    · replace h := xt hc h
      refine lv_iconst (v := 1) hC.1 hC.2.1 dX7_isSign_30 (by decide) ?_
      refine lv_goto (tgt := 35) hC.1 hC.2.1 dX7_isSign_31 (by decide) ?_
      obtain ⟨rfl, rfl⟩ := xr h
      exact x_zret hC hr hW hS (Or.inr rfl) dX7_isSign_35
    · replace h := xf hc h
      refine lv_iload_n hC.1 hC.2.1 dX7_isSign_12 rfl (lv_at hl 0 rfl) ?_
      refine lv_bipush (v := 98) hC.1 hC.2.1 dX7_isSign_13 (by decide) ?_
      refine lv_icmp_eq (tgt := 30) hC.1 hC.2.1 dX7_isSign_15 (by decide) (fun hc => ?_) (fun hc => ?_)
      · replace h := xt hc h
        refine lv_iconst (v := 1) hC.1 hC.2.1 dX7_isSign_30 (by decide) ?_
        refine lv_goto (tgt := 35) hC.1 hC.2.1 dX7_isSign_31 (by decide) ?_
        obtain ⟨rfl, rfl⟩ := xr h
        exact x_zret hC hr hW hS (Or.inr rfl) dX7_isSign_35
      · replace h := xf hc h
        refine lv_iload_n hC.1 hC.2.1 dX7_isSign_18 rfl (lv_at hl 0 rfl) ?_
        refine lv_bipush (v := 115) hC.1 hC.2.1 dX7_isSign_19 (by decide) ?_
        refine lv_icmp_eq (tgt := 30) hC.1 hC.2.1 dX7_isSign_21 (by decide) (fun hc => ?_) (fun hc => ?_)
        · replace h := xt hc h
          refine lv_iconst (v := 1) hC.1 hC.2.1 dX7_isSign_30 (by decide) ?_
          refine lv_goto (tgt := 35) hC.1 hC.2.1 dX7_isSign_31 (by decide) ?_
          obtain ⟨rfl, rfl⟩ := xr h
          exact x_zret hC hr hW hS (Or.inr rfl) dX7_isSign_35
        · replace h := xf hc h
          refine lv_iload_n hC.1 hC.2.1 dX7_isSign_24 rfl (lv_at hl 0 rfl) ?_
          refine lv_bipush (v := 59) hC.1 hC.2.1 dX7_isSign_25 (by decide) ?_
          refine lv_icmp_ne (tgt := 34) hC.1 hC.2.1 dX7_isSign_27 (by decide) (fun hc => ?_) (fun hc => ?_)
          · replace h := xf hc h
            refine lv_iconst (v := 0) hC.1 hC.2.1 dX7_isSign_34 (by decide) ?_
            obtain ⟨rfl, rfl⟩ := xr h
            exact x_zret hC hr hW hS (Or.inl rfl) dX7_isSign_35
          · replace h := xt hc h
            refine lv_iconst (v := 1) hC.1 hC.2.1 dX7_isSign_30 (by decide) ?_
            refine lv_goto (tgt := 35) hC.1 hC.2.1 dX7_isSign_31 (by decide) ?_
            obtain ⟨rfl, rfl⟩ := xr h
            exact x_zret hC hr hW hS (Or.inr rfl) dX7_isSign_35
theorem dX7_readToken_0 : decode cX7_readToken 0 = .ok (.aload_n 0, 1) := by decide +kernel
theorem dX7_readToken_1 : decode cX7_readToken 1 = .ok (.getfield 19, 3) := by decide +kernel
theorem dX7_readToken_4 : decode cX7_readToken 4 = .ok (.aload_n 0, 1) := by decide +kernel
theorem dX7_readToken_5 : decode cX7_readToken 5 = .ok (.getfield 15, 3) := by decide +kernel
theorem dX7_readToken_8 : decode cX7_readToken 8 = .ok (.if_icmp .ge 30, 3) := by decide +kernel
theorem dX7_readToken_11 : decode cX7_readToken 11 = .ok (.aload_n 0, 1) := by decide +kernel
theorem dX7_readToken_12 : decode cX7_readToken 12 = .ok (.getfield 9, 3) := by decide +kernel
theorem dX7_readToken_15 : decode cX7_readToken 15 = .ok (.aload_n 0, 1) := by decide +kernel
theorem dX7_readToken_16 : decode cX7_readToken 16 = .ok (.getfield 19, 3) := by decide +kernel
theorem dX7_readToken_19 : decode cX7_readToken 19 = .ok (.iaload, 1) := by decide +kernel
theorem dX7_readToken_20 : decode cX7_readToken 20 = .ok (.bipush 32, 2) := by decide +kernel
theorem dX7_readToken_22 : decode cX7_readToken 22 = .ok (.if_icmp .ne 16, 3) := by decide +kernel
theorem dX7_readToken_25 : decode cX7_readToken 25 = .ok (.aload_n 0, 1) := by decide +kernel
theorem dX7_readToken_26 : decode cX7_readToken 26 = .ok (.dup, 1) := by decide +kernel
theorem dX7_readToken_27 : decode cX7_readToken 27 = .ok (.getfield 19, 3) := by decide +kernel
theorem dX7_readToken_30 : decode cX7_readToken 30 = .ok (.iconst 1, 1) := by decide +kernel
theorem dX7_readToken_31 : decode cX7_readToken 31 = .ok (.iadd, 1) := by decide +kernel
theorem dX7_readToken_32 : decode cX7_readToken 32 = .ok (.putfield 19, 3) := by decide +kernel
theorem dX7_readToken_35 : decode cX7_readToken 35 = .ok (.goto (-35), 3) := by decide +kernel
theorem dX7_readToken_38 : decode cX7_readToken 38 = .ok (.aload_n 0, 1) := by decide +kernel
theorem dX7_readToken_39 : decode cX7_readToken 39 = .ok (.aload_n 0, 1) := by decide +kernel
theorem dX7_readToken_40 : decode cX7_readToken 40 = .ok (.getfield 19, 3) := by decide +kernel
theorem dX7_readToken_43 : decode cX7_readToken 43 = .ok (.putfield 22, 3) := by decide +kernel
theorem dX7_readToken_46 : decode cX7_readToken 46 = .ok (.aload_n 0, 1) := by decide +kernel
theorem dX7_readToken_47 : decode cX7_readToken 47 = .ok (.getfield 19, 3) := by decide +kernel
theorem dX7_readToken_50 : decode cX7_readToken 50 = .ok (.aload_n 0, 1) := by decide +kernel
theorem dX7_readToken_51 : decode cX7_readToken 51 = .ok (.getfield 15, 3) := by decide +kernel
theorem dX7_readToken_54 : decode cX7_readToken 54 = .ok (.if_icmp .lt 9, 3) := by decide +kernel
theorem dX7_readToken_57 : decode cX7_readToken 57 = .ok (.aload_n 0, 1) := by decide +kernel
theorem dX7_readToken_58 : decode cX7_readToken 58 = .ok (.iconst (-1), 1) := by decide +kernel
theorem dX7_readToken_59 : decode cX7_readToken 59 = .ok (.putfield 25, 3) := by decide +kernel
theorem dX7_readToken_62 : decode cX7_readToken 62 = .ok (.return_, 1) := by decide +kernel
theorem dX7_readToken_63 : decode cX7_readToken 63 = .ok (.aload_n 0, 1) := by decide +kernel
theorem dX7_readToken_64 : decode cX7_readToken 64 = .ok (.getfield 9, 3) := by decide +kernel
theorem dX7_readToken_67 : decode cX7_readToken 67 = .ok (.aload_n 0, 1) := by decide +kernel
theorem dX7_readToken_68 : decode cX7_readToken 68 = .ok (.getfield 19, 3) := by decide +kernel
theorem dX7_readToken_71 : decode cX7_readToken 71 = .ok (.iaload, 1) := by decide +kernel
theorem dX7_readToken_72 : decode cX7_readToken 72 = .ok (.istore_n 1, 1) := by decide +kernel
theorem dX7_readToken_73 : decode cX7_readToken 73 = .ok (.aload_n 0, 1) := by decide +kernel
theorem dX7_readToken_74 : decode cX7_readToken 74 = .ok (.dup, 1) := by decide +kernel
theorem dX7_readToken_75 : decode cX7_readToken 75 = .ok (.getfield 19, 3) := by decide +kernel
theorem dX7_readToken_78 : decode cX7_readToken 78 = .ok (.iconst 1, 1) := by decide +kernel
theorem dX7_readToken_79 : decode cX7_readToken 79 = .ok (.iadd, 1) := by decide +kernel
theorem dX7_readToken_80 : decode cX7_readToken 80 = .ok (.putfield 19, 3) := by decide +kernel
theorem dX7_readToken_83 : decode cX7_readToken 83 = .ok (.iload_n 1, 1) := by decide +kernel
theorem dX7_readToken_84 : decode cX7_readToken 84 = .ok (.invokestatic 108, 3) := by decide +kernel
theorem dX7_readToken_87 : decode cX7_readToken 87 = .ok (.ifCond .ne 21, 3) := by decide +kernel
theorem dX7_readToken_90 : decode cX7_readToken 90 = .ok (.aload_n 0, 1) := by decide +kernel
theorem dX7_readToken_91 : decode cX7_readToken 91 = .ok (.iload_n 1, 1) := by decide +kernel
theorem dX7_readToken_92 : decode cX7_readToken 92 = .ok (.invokestatic 112, 3) := by decide +kernel
theorem dX7_readToken_95 : decode cX7_readToken 95 = .ok (.ifCond .eq 7, 3) := by decide +kernel
theorem dX7_readToken_98 : decode cX7_readToken 98 = .ok (.iload_n 1, 1) := by decide +kernel
theorem dX7_readToken_99 : decode cX7_readToken 99 = .ok (.goto 5, 3) := by decide +kernel
theorem dX7_readToken_102 : decode cX7_readToken 102 = .ok (.bipush (-3), 2) := by decide +kernel
theorem dX7_readToken_104 : decode cX7_readToken 104 = .ok (.putfield 25, 3) := by decide +kernel
theorem dX7_readToken_107 : decode cX7_readToken 107 = .ok (.return_, 1) := by decide +kernel
theorem dX7_readToken_108 : decode cX7_readToken 108 = .ok (.aload_n 0, 1) := by decide +kernel
theorem dX7_readToken_109 : decode cX7_readToken 109 = .ok (.iload_n 1, 1) := by decide +kernel
theorem dX7_readToken_110 : decode cX7_readToken 110 = .ok (.bipush 48, 2) := by decide +kernel
theorem dX7_readToken_112 : decode cX7_readToken 112 = .ok (.isub, 1) := by decide +kernel
theorem dX7_readToken_113 : decode cX7_readToken 113 = .ok (.putfield 28, 3) := by decide +kernel
theorem dX7_readToken_116 : decode cX7_readToken 116 = .ok (.iconst 0, 1) := by decide +kernel
theorem dX7_readToken_117 : decode cX7_readToken 117 = .ok (.istore_n 2, 1) := by decide +kernel
theorem dX7_readToken_118 : decode cX7_readToken 118 = .ok (.aload_n 0, 1) := by decide +kernel
theorem dX7_readToken_119 : decode cX7_readToken 119 = .ok (.getfield 19, 3) := by decide +kernel
theorem dX7_readToken_122 : decode cX7_readToken 122 = .ok (.aload_n 0, 1) := by decide +kernel
theorem dX7_readToken_123 : decode cX7_readToken 123 = .ok (.getfield 15, 3) := by decide +kernel
theorem dX7_readToken_126 : decode cX7_readToken 126 = .ok (.if_icmp .ge 77, 3) := by decide +kernel
theorem dX7_readToken_129 : decode cX7_readToken 129 = .ok (.aload_n 0, 1) := by decide +kernel
theorem dX7_readToken_130 : decode cX7_readToken 130 = .ok (.getfield 9, 3) := by decide +kernel
theorem dX7_readToken_133 : decode cX7_readToken 133 = .ok (.aload_n 0, 1) := by decide +kernel
theorem dX7_readToken_134 : decode cX7_readToken 134 = .ok (.getfield 19, 3) := by decide +kernel
theorem dX7_readToken_137 : decode cX7_readToken 137 = .ok (.iaload, 1) := by decide +kernel
theorem dX7_readToken_138 : decode cX7_readToken 138 = .ok (.invokestatic 108, 3) := by decide +kernel
theorem dX7_readToken_141 : decode cX7_readToken 141 = .ok (.ifCond .eq 62, 3) := by decide +kernel
theorem dX7_readToken_144 : decode cX7_readToken 144 = .ok (.iload_n 2, 1) := by decide +kernel
theorem dX7_readToken_145 : decode cX7_readToken 145 = .ok (.ifCond .ne 10, 3) := by decide +kernel
theorem dX7_readToken_148 : decode cX7_readToken 148 = .ok (.aload_n 0, 1) := by decide +kernel
theorem dX7_readToken_149 : decode cX7_readToken 149 = .ok (.getfield 28, 3) := by decide +kernel
theorem dX7_readToken_152 : decode cX7_readToken 152 = .ok (.ifCond .ne 7, 3) := by decide +kernel
theorem dX7_readToken_155 : decode cX7_readToken 155 = .ok (.iconst 1, 1) := by decide +kernel
theorem dX7_readToken_156 : decode cX7_readToken 156 = .ok (.goto 4, 3) := by decide +kernel
theorem dX7_readToken_159 : decode cX7_readToken 159 = .ok (.iconst 0, 1) := by decide +kernel
theorem dX7_readToken_160 : decode cX7_readToken 160 = .ok (.istore_n 2, 1) := by decide +kernel
theorem dX7_readToken_161 : decode cX7_readToken 161 = .ok (.aload_n 0, 1) := by decide +kernel
theorem dX7_readToken_162 : decode cX7_readToken 162 = .ok (.bipush 10, 2) := by decide +kernel
theorem dX7_readToken_164 : decode cX7_readToken 164 = .ok (.aload_n 0, 1) := by decide +kernel
theorem dX7_readToken_165 : decode cX7_readToken 165 = .ok (.getfield 28, 3) := by decide +kernel
theorem dX7_readToken_168 : decode cX7_readToken 168 = .ok (.imul, 1) := by decide +kernel
theorem dX7_readToken_169 : decode cX7_readToken 169 = .ok (.aload_n 0, 1) := by decide +kernel
theorem dX7_readToken_170 : decode cX7_readToken 170 = .ok (.getfield 9, 3) := by decide +kernel
theorem dX7_readToken_173 : decode cX7_readToken 173 = .ok (.aload_n 0, 1) := by decide +kernel
theorem dX7_readToken_174 : decode cX7_readToken 174 = .ok (.getfield 19, 3) := by decide +kernel
theorem dX7_readToken_177 : decode cX7_readToken 177 = .ok (.iaload, 1) := by decide +kernel
theorem dX7_readToken_178 : decode cX7_readToken 178 = .ok (.iadd, 1) := by decide +kernel
theorem dX7_readToken_179 : decode cX7_readToken 179 = .ok (.bipush 48, 2) := by decide +kernel
theorem dX7_readToken_181 : decode cX7_readToken 181 = .ok (.isub, 1) := by decide +kernel
theorem dX7_readToken_182 : decode cX7_readToken 182 = .ok (.bipush 100, 2) := by decide +kernel
theorem dX7_readToken_184 : decode cX7_readToken 184 = .ok (.invokestatic 115, 3) := by decide +kernel
theorem dX7_readToken_187 : decode cX7_readToken 187 = .ok (.putfield 28, 3) := by decide +kernel
theorem dX7_readToken_190 : decode cX7_readToken 190 = .ok (.aload_n 0, 1) := by decide +kernel
theorem dX7_readToken_191 : decode cX7_readToken 191 = .ok (.dup, 1) := by decide +kernel
theorem dX7_readToken_192 : decode cX7_readToken 192 = .ok (.getfield 19, 3) := by decide +kernel
theorem dX7_readToken_195 : decode cX7_readToken 195 = .ok (.iconst 1, 1) := by decide +kernel
theorem dX7_readToken_196 : decode cX7_readToken 196 = .ok (.iadd, 1) := by decide +kernel
theorem dX7_readToken_197 : decode cX7_readToken 197 = .ok (.putfield 19, 3) := by decide +kernel
theorem dX7_readToken_200 : decode cX7_readToken 200 = .ok (.goto (-82), 3) := by decide +kernel
theorem dX7_readToken_203 : decode cX7_readToken 203 = .ok (.aload_n 0, 1) := by decide +kernel
theorem dX7_readToken_204 : decode cX7_readToken 204 = .ok (.iload_n 2, 1) := by decide +kernel
theorem dX7_readToken_205 : decode cX7_readToken 205 = .ok (.ifCond .ne 12, 3) := by decide +kernel
theorem dX7_readToken_208 : decode cX7_readToken 208 = .ok (.aload_n 0, 1) := by decide +kernel
theorem dX7_readToken_209 : decode cX7_readToken 209 = .ok (.getfield 28, 3) := by decide +kernel
theorem dX7_readToken_212 : decode cX7_readToken 212 = .ok (.bipush 99, 2) := by decide +kernel
theorem dX7_readToken_214 : decode cX7_readToken 214 = .ok (.if_icmp .le 8, 3) := by decide +kernel
theorem dX7_readToken_217 : decode cX7_readToken 217 = .ok (.bipush (-3), 2) := by decide +kernel
theorem dX7_readToken_219 : decode cX7_readToken 219 = .ok (.goto 5, 3) := by decide +kernel
theorem dX7_readToken_222 : decode cX7_readToken 222 = .ok (.bipush (-2), 2) := by decide +kernel
theorem dX7_readToken_224 : decode cX7_readToken 224 = .ok (.putfield 25, 3) := by decide +kernel
theorem dX7_readToken_227 : decode cX7_readToken 227 = .ok (.return_, 1) := by decide +kernel
abbrev rX7_readToken : Room := { frames := 1, cells := 0, slots := 0, locals := 21 }
set_option maxHeartbeats 4000000 in
set_option maxRecDepth 100000 in
theorem w_X7_readToken_160 {p : Program} {l : Launch} {e : Env} {s : State} {m : MethodId} {args : Array Value} {below : List Frame} {meth : Method} {c : Code} {D : va_G} {b : Nat} {cs : Cs3} {S1 : St} {ag118 : Int32 → St → Option (St)} (hC : CX p s m args meth c RX7 cX7_readToken 3 D cs) (hr : meth.sig.returnType = none) (hag118 : ∀ (x2 : Int32) (S : St) (H : Heap) (locs : List Loc) (ls : Array Slot), ag118 x2 S = some S1 → Wd D b cs S H → va_S (AA b) s.heap H locs → lv_has ls 3 [(0, .ref (b + 1)), (2, .int x2)] → W p l e rX7_readToken s m args below meth c H locs 0 0 (MQ below (QX D b cs none S1) args s 0 0 (AA b)) (F0 m 118 ls [])) : ∀ (y0 : Int32) (S : St) (H : Heap) (locs : List Loc) (ls : Array Slot), q_X7_readToken_160 ag118 y0 S = some S1 → Wd D b cs S H → va_S (AA b) s.heap H locs → lv_has ls 3 [(0, .ref (b + 1))] → W p l e rX7_readToken s m args below meth c H locs 0 0 (MQ below (QX D b cs none S1) args s 0 0 (AA b)) (F0 m 160 ls [.int y0]) := by
  intro y0 S H locs ls h hW hS hl
  rw [q_X7_readToken_160] at h
  refine lv_istore_n (lv' := [(2, .int y0), (0, .ref (b + 1))]) hC.1 hC.2.1 dX7_readToken_160 rfl hl (by decide) rfl (fun ls hl => ?_)
  refine lv_aload_n hC.1 hC.2.1 dX7_readToken_161 rfl (lv_at hl 1 rfl) ?_
  refine lv_bipush (v := 10) hC.1 hC.2.1 dX7_readToken_162 (by decide) ?_
  refine lv_aload_n hC.1 hC.2.1 dX7_readToken_164 rfl (lv_at hl 1 rfl) ?_
  refine x_get (C := RX7) (T := TX7) (N := 7) (v := _) hC hW 1 (by decide) rfl rfl uX7 5 (by decide) fl_X7_28 rfl rfl dX7_readToken_165 ?_
  refine lv_imul hC.1 hC.2.1 dX7_readToken_168 ?_
  refine lv_aload_n hC.1 hC.2.1 dX7_readToken_169 rfl (lv_at hl 1 rfl) ?_
  refine x_get (C := RX7) (T := TX7) (N := 7) (v := _) hC hW 1 (by decide) rfl rfl uX7 0 (by decide) fl_X7_9 rfl rfl dX7_readToken_170 ?_
  refine lv_aload_n hC.1 hC.2.1 dX7_readToken_173 rfl (lv_at hl 1 rfl) ?_
  refine x_get (C := RX7) (T := TX7) (N := 7) (v := _) hC hW 1 (by decide) rfl rfl uX7 2 (by decide) fl_X7_19 rfl rfl dX7_readToken_174 ?_
  obtain ⟨hi, h⟩ := xg h
  refine x_iald hC hW 2 (by decide) rfl hi dX7_readToken_177 ?_
  refine lv_iadd hC.1 hC.2.1 dX7_readToken_178 ?_
  refine lv_bipush (v := 48) hC.1 hC.2.1 dX7_readToken_179 (by decide) ?_
  refine lv_isub hC.1 hC.2.1 dX7_readToken_181 ?_
  refine lv_bipush (v := 100) hC.1 hC.2.1 dX7_readToken_182 (by decide) ?_
  refine va_mmin (rest := [.ref (b + 1)]) hC.1 hC.2.1 (hC.2.2.1.trans hl.1.symm) hC.2.2.2.1 (hC.2.2.2.2.1 _ ml_X7_115) (hC.2.2.2.2.1 _ st_math_min) (hC.2.2.2.2.1 _ iw_math) (hC.2.2.2.2.1 _ cw_math_min) (Nat.le_of_ble_eq_true rfl) (Nat.le_of_ble_eq_true rfl) (Nat.zero_le _) (Nat.zero_le _) dX7_readToken_184 ?_
  refine x_puti (C := RX7) (T := TX7) (N := 7) (ty := .int) hC hW hS 1 (by decide) rfl rfl uX7 tyX7 tyX7_ok nmX7 5 (by decide) fl_X7_28 rfl (by decide +kernel) rfl rfl rfl dX7_readToken_187 (fun H locs hW hS => ?_)
  refine lv_aload_n hC.1 hC.2.1 dX7_readToken_190 rfl (lv_at hl 1 rfl) ?_
  refine lv_dup hC.1 hC.2.1 dX7_readToken_191 rfl ?_
  refine x_get (C := RX7) (T := TX7) (N := 7) (v := _) hC hW 1 (by decide) rfl rfl uX7 2 (by decide) fl_X7_19 rfl rfl dX7_readToken_192 ?_
  refine lv_iconst (v := 1) hC.1 hC.2.1 dX7_readToken_195 (by decide) ?_
  refine lv_iadd hC.1 hC.2.1 dX7_readToken_196 ?_
  refine x_puti (C := RX7) (T := TX7) (N := 7) (ty := .int) hC hW hS 1 (by decide) rfl rfl uX7 tyX7 tyX7_ok nmX7 2 (by decide) fl_X7_19 rfl (by decide +kernel) rfl rfl rfl dX7_readToken_197 (fun H locs hW hS => ?_)
  refine lv_goto (tgt := 118) hC.1 hC.2.1 dX7_readToken_200 (by decide) ?_
  exact hag118 _ _ _ _ _ h hW hS (lv_sub hl [1, 0] rfl)
set_option maxHeartbeats 4000000 in
set_option maxRecDepth 100000 in
theorem w_X7_readToken_155 {p : Program} {l : Launch} {e : Env} {s : State} {m : MethodId} {args : Array Value} {below : List Frame} {meth : Method} {c : Code} {D : va_G} {b : Nat} {cs : Cs3} {S1 : St} {ag118 : Int32 → St → Option (St)} (hC : CX p s m args meth c RX7 cX7_readToken 3 D cs) (hr : meth.sig.returnType = none) (hag118 : ∀ (x2 : Int32) (S : St) (H : Heap) (locs : List Loc) (ls : Array Slot), ag118 x2 S = some S1 → Wd D b cs S H → va_S (AA b) s.heap H locs → lv_has ls 3 [(0, .ref (b + 1)), (2, .int x2)] → W p l e rX7_readToken s m args below meth c H locs 0 0 (MQ below (QX D b cs none S1) args s 0 0 (AA b)) (F0 m 118 ls [])) : ∀ (S : St) (H : Heap) (locs : List Loc) (ls : Array Slot), q_X7_readToken_155 ag118 S = some S1 → Wd D b cs S H → va_S (AA b) s.heap H locs → lv_has ls 3 [(0, .ref (b + 1))] → W p l e rX7_readToken s m args below meth c H locs 0 0 (MQ below (QX D b cs none S1) args s 0 0 (AA b)) (F0 m 155 ls []) := by
  intro S H locs ls h hW hS hl
  rw [q_X7_readToken_155] at h
  refine lv_iconst (v := 1) hC.1 hC.2.1 dX7_readToken_155 (by decide) ?_
  refine lv_goto (tgt := 160) hC.1 hC.2.1 dX7_readToken_156 (by decide) ?_
  exact w_X7_readToken_160 hC hr hag118 _ _ _ _ _ h hW hS (lv_sub hl [0] rfl)
set_option maxHeartbeats 4000000 in
set_option maxRecDepth 100000 in
theorem w_X7_readToken_203 {p : Program} {l : Launch} {e : Env} {s : State} {m : MethodId} {args : Array Value} {below : List Frame} {meth : Method} {c : Code} {D : va_G} {b : Nat} {cs : Cs3} {S1 : St} (hC : CX p s m args meth c RX7 cX7_readToken 3 D cs) (hr : meth.sig.returnType = none) : ∀ (x2 : Int32) (S : St) (H : Heap) (locs : List Loc) (ls : Array Slot), q_X7_readToken_203 x2 S = some S1 → Wd D b cs S H → va_S (AA b) s.heap H locs → lv_has ls 3 [(0, .ref (b + 1)), (2, .int x2)] → W p l e rX7_readToken s m args below meth c H locs 0 0 (MQ below (QX D b cs none S1) args s 0 0 (AA b)) (F0 m 203 ls []) := by
  intro x2 S H locs ls h hW hS hl
  rw [q_X7_readToken_203] at h
  refine lv_aload_n hC.1 hC.2.1 dX7_readToken_203 rfl (lv_at hl 0 rfl) ?_
  refine lv_iload_n hC.1 hC.2.1 dX7_readToken_204 rfl (lv_at hl 1 rfl) ?_
  refine lv_if_ne (tgt := 217) hC.1 hC.2.1 dX7_readToken_205 (by decide) (fun hc => ?_) (fun hc => ?_)
  · replace h := xf hc h
    refine lv_bipush (v := -3) hC.1 hC.2.1 dX7_readToken_217 (by decide) ?_
    refine lv_goto (tgt := 224) hC.1 hC.2.1 dX7_readToken_219 (by decide) ?_
    refine x_puti (C := RX7) (T := TX7) (N := 7) (ty := .int) hC hW hS 1 (by decide) rfl rfl uX7 tyX7 tyX7_ok nmX7 4 (by decide) fl_X7_25 rfl (by decide +kernel) rfl rfl rfl dX7_readToken_224 (fun H locs hW hS => ?_)
    obtain rfl := Option.some.inj h
    exact x_vret hC hr hW hS dX7_readToken_227
  · replace h := xt hc h
    refine lv_aload_n hC.1 hC.2.1 dX7_readToken_208 rfl (lv_at hl 0 rfl) ?_
    refine x_get (C := RX7) (T := TX7) (N := 7) (v := _) hC hW 1 (by decide) rfl rfl uX7 5 (by decide) fl_X7_28 rfl rfl dX7_readToken_209 ?_
    refine lv_bipush (v := 99) hC.1 hC.2.1 dX7_readToken_212 (by decide) ?_
    refine lv_icmp_le (tgt := 222) hC.1 hC.2.1 dX7_readToken_214 (by decide) (fun hc => ?_) (fun hc => ?_)
    · replace h := xt hc h
      refine lv_bipush (v := -2) hC.1 hC.2.1 dX7_readToken_222 (by decide) ?_
      refine x_puti (C := RX7) (T := TX7) (N := 7) (ty := .int) hC hW hS 1 (by decide) rfl rfl uX7 tyX7 tyX7_ok nmX7 4 (by decide) fl_X7_25 rfl (by decide +kernel) rfl rfl rfl dX7_readToken_224 (fun H locs hW hS => ?_)
      obtain rfl := Option.some.inj h
      exact x_vret hC hr hW hS dX7_readToken_227
    · replace h := xf hc h
      refine lv_bipush (v := -3) hC.1 hC.2.1 dX7_readToken_217 (by decide) ?_
      refine lv_goto (tgt := 224) hC.1 hC.2.1 dX7_readToken_219 (by decide) ?_
      refine x_puti (C := RX7) (T := TX7) (N := 7) (ty := .int) hC hW hS 1 (by decide) rfl rfl uX7 tyX7 tyX7_ok nmX7 4 (by decide) fl_X7_25 rfl (by decide +kernel) rfl rfl rfl dX7_readToken_224 (fun H locs hW hS => ?_)
      obtain rfl := Option.some.inj h
      exact x_vret hC hr hW hS dX7_readToken_227
set_option maxHeartbeats 4000000 in
set_option maxRecDepth 100000 in
theorem w_X7_readToken_118 {p : Program} {l : Launch} {e : Env} {s : State} {m : MethodId} {args : Array Value} {below : List Frame} {meth : Method} {c : Code} {D : va_G} {b : Nat} {cs : Cs3} {S1 : St} (hC : CX p s m args meth c RX7 cX7_readToken 3 D cs) (hr : meth.sig.returnType = none) : ∀ (n : Nat) (x2 : Int32) (S : St) (H : Heap) (locs : List Loc) (ls : Array Slot), q_X7_readToken_118 n x2 S = some S1 → Wd D b cs S H → va_S (AA b) s.heap H locs → lv_has ls 3 [(0, .ref (b + 1)), (2, .int x2)] → W p l e rX7_readToken s m args below meth c H locs 0 0 (MQ below (QX D b cs none S1) args s 0 0 (AA b)) (F0 m 118 ls []) := by
  intro n
  induction n with
  | zero =>
    intro x2 S H locs ls h
    exact absurd h (by rw [q_X7_readToken_118]; exact fun q => nomatch q)
  | succ n IH =>
    intro x2 S H locs ls h hW hS hl
    rw [q_X7_readToken_118] at h
    refine lv_aload_n hC.1 hC.2.1 dX7_readToken_118 rfl (lv_at hl 0 rfl) ?_
    refine x_get (C := RX7) (T := TX7) (N := 7) (v := _) hC hW 1 (by decide) rfl rfl uX7 2 (by decide) fl_X7_19 rfl rfl dX7_readToken_119 ?_
    refine lv_aload_n hC.1 hC.2.1 dX7_readToken_122 rfl (lv_at hl 0 rfl) ?_
    refine x_get (C := RX7) (T := TX7) (N := 7) (v := _) hC hW 1 (by decide) rfl rfl uX7 1 (by decide) fl_X7_15 rfl rfl dX7_readToken_123 ?_
    refine lv_icmp_ge (tgt := 203) hC.1 hC.2.1 dX7_readToken_126 (by decide) (fun hc => ?_) (fun hc => ?_)
    · replace h := xt hc h
      exact w_X7_readToken_203 hC hr _ _ _ _ _ h hW hS (lv_sub hl [0, 1] rfl)
    · replace h := xf hc h
      refine lv_aload_n hC.1 hC.2.1 dX7_readToken_129 rfl (lv_at hl 0 rfl) ?_
      refine x_get (C := RX7) (T := TX7) (N := 7) (v := _) hC hW 1 (by decide) rfl rfl uX7 0 (by decide) fl_X7_9 rfl rfl dX7_readToken_130 ?_
      refine lv_aload_n hC.1 hC.2.1 dX7_readToken_133 rfl (lv_at hl 0 rfl) ?_
      refine x_get (C := RX7) (T := TX7) (N := 7) (v := _) hC hW 1 (by decide) rfl rfl uX7 2 (by decide) fl_X7_19 rfl rfl dX7_readToken_134 ?_
      obtain ⟨hi, h⟩ := xg h
      refine x_iald hC hW 2 (by decide) rfl hi dX7_readToken_137 ?_
      obtain ⟨⟨q138_r, q138_S⟩, hq, h⟩ := xb h
      try dsimp only at h
      refine x_callS (As := [.int (S.1 2 (S.1 1 2).toNatClampNeg)]) (rest := []) hC hW hS (c_X7_isDigit l D b cs _ _ _ _ hq) mi_X7_isDigit st_X7_isDigit ml_X7_108 ⟨rfl, rfl⟩ ⟨Nat.le_of_ble_eq_true rfl, Nat.le_of_ble_eq_true rfl⟩ ⟨Nat.zero_le _, Nat.zero_le _⟩ rfl rfl hl.1 (Nat.le_of_ble_eq_true rfl) dX7_readToken_138 (fun H locs hW hS => ?_)
      refine lv_if_eq (tgt := 203) hC.1 hC.2.1 dX7_readToken_141 (by decide) (fun hc => ?_) (fun hc => ?_)
      · replace h := xt hc h
        exact w_X7_readToken_203 hC hr _ _ _ _ _ h hW hS (lv_sub hl [0, 1] rfl)
      · replace h := xf hc h
        refine lv_iload_n hC.1 hC.2.1 dX7_readToken_144 rfl (lv_at hl 1 rfl) ?_
        refine lv_if_ne (tgt := 155) hC.1 hC.2.1 dX7_readToken_145 (by decide) (fun hc => ?_) (fun hc => ?_)
        · replace h := xf hc h
          exact w_X7_readToken_155 hC hr IH _ _ _ _ h hW hS (lv_sub hl [0] rfl)
        · replace h := xt hc h
          refine lv_aload_n hC.1 hC.2.1 dX7_readToken_148 rfl (lv_at hl 0 rfl) ?_
          refine x_get (C := RX7) (T := TX7) (N := 7) (v := _) hC hW 1 (by decide) rfl rfl uX7 5 (by decide) fl_X7_28 rfl rfl dX7_readToken_149 ?_
          refine lv_if_ne (tgt := 159) hC.1 hC.2.1 dX7_readToken_152 (by decide) (fun hc => ?_) (fun hc => ?_)
          · replace h := xf hc h
            refine lv_iconst (v := 0) hC.1 hC.2.1 dX7_readToken_159 (by decide) ?_
            exact w_X7_readToken_160 hC hr IH _ _ _ _ _ h hW hS (lv_sub hl [0] rfl)
          · replace h := xt hc h
            exact w_X7_readToken_155 hC hr IH _ _ _ _ h hW hS (lv_sub hl [0] rfl)
set_option maxHeartbeats 4000000 in
set_option maxRecDepth 100000 in
theorem w_X7_readToken_38 {p : Program} {l : Launch} {e : Env} {s : State} {m : MethodId} {args : Array Value} {below : List Frame} {meth : Method} {c : Code} {D : va_G} {b : Nat} {cs : Cs3} {S1 : St} (hC : CX p s m args meth c RX7 cX7_readToken 3 D cs) (hr : meth.sig.returnType = none) : ∀ (S : St) (H : Heap) (locs : List Loc) (ls : Array Slot), q_X7_readToken_38 S = some S1 → Wd D b cs S H → va_S (AA b) s.heap H locs → lv_has ls 3 [(0, .ref (b + 1))] → W p l e rX7_readToken s m args below meth c H locs 0 0 (MQ below (QX D b cs none S1) args s 0 0 (AA b)) (F0 m 38 ls []) := by
  intro S H locs ls h hW hS hl
  rw [q_X7_readToken_38] at h
  refine lv_aload_n hC.1 hC.2.1 dX7_readToken_38 rfl (lv_at hl 0 rfl) ?_
  refine lv_aload_n hC.1 hC.2.1 dX7_readToken_39 rfl (lv_at hl 0 rfl) ?_
  refine x_get (C := RX7) (T := TX7) (N := 7) (v := _) hC hW 1 (by decide) rfl rfl uX7 2 (by decide) fl_X7_19 rfl rfl dX7_readToken_40 ?_
  refine x_puti (C := RX7) (T := TX7) (N := 7) (ty := .int) hC hW hS 1 (by decide) rfl rfl uX7 tyX7 tyX7_ok nmX7 3 (by decide) fl_X7_22 rfl (by decide +kernel) rfl rfl rfl dX7_readToken_43 (fun H locs hW hS => ?_)
  refine lv_aload_n hC.1 hC.2.1 dX7_readToken_46 rfl (lv_at hl 0 rfl) ?_
  refine x_get (C := RX7) (T := TX7) (N := 7) (v := _) hC hW 1 (by decide) rfl rfl uX7 2 (by decide) fl_X7_19 rfl rfl dX7_readToken_47 ?_
  refine lv_aload_n hC.1 hC.2.1 dX7_readToken_50 rfl (lv_at hl 0 rfl) ?_
  refine x_get (C := RX7) (T := TX7) (N := 7) (v := _) hC hW 1 (by decide) rfl rfl uX7 1 (by decide) fl_X7_15 rfl rfl dX7_readToken_51 ?_
  refine lv_icmp_lt (tgt := 63) hC.1 hC.2.1 dX7_readToken_54 (by decide) (fun hc => ?_) (fun hc => ?_)
  · replace h := xt hc h
    refine lv_aload_n hC.1 hC.2.1 dX7_readToken_63 rfl (lv_at hl 0 rfl) ?_
    refine x_get (C := RX7) (T := TX7) (N := 7) (v := _) hC hW 1 (by decide) rfl rfl uX7 0 (by decide) fl_X7_9 rfl rfl dX7_readToken_64 ?_
    refine lv_aload_n hC.1 hC.2.1 dX7_readToken_67 rfl (lv_at hl 0 rfl) ?_
    refine x_get (C := RX7) (T := TX7) (N := 7) (v := _) hC hW 1 (by decide) rfl rfl uX7 2 (by decide) fl_X7_19 rfl rfl dX7_readToken_68 ?_
    obtain ⟨hi, h⟩ := xg h
    refine x_iald hC hW 2 (by decide) rfl hi dX7_readToken_71 ?_
    refine lv_istore_n (lv' := [(1, .int ((sI S 1 3 (S.1 1 2)).1 2 ((sI S 1 3 (S.1 1 2)).1 1 2).toNatClampNeg)), (0, .ref (b + 1))]) hC.1 hC.2.1 dX7_readToken_72 rfl hl (by decide) rfl (fun ls hl => ?_)
    refine lv_aload_n hC.1 hC.2.1 dX7_readToken_73 rfl (lv_at hl 1 rfl) ?_
    refine lv_dup hC.1 hC.2.1 dX7_readToken_74 rfl ?_
    refine x_get (C := RX7) (T := TX7) (N := 7) (v := _) hC hW 1 (by decide) rfl rfl uX7 2 (by decide) fl_X7_19 rfl rfl dX7_readToken_75 ?_
    refine lv_iconst (v := 1) hC.1 hC.2.1 dX7_readToken_78 (by decide) ?_
    refine lv_iadd hC.1 hC.2.1 dX7_readToken_79 ?_
    refine x_puti (C := RX7) (T := TX7) (N := 7) (ty := .int) hC hW hS 1 (by decide) rfl rfl uX7 tyX7 tyX7_ok nmX7 2 (by decide) fl_X7_19 rfl (by decide +kernel) rfl rfl rfl dX7_readToken_80 (fun H locs hW hS => ?_)
    refine lv_iload_n hC.1 hC.2.1 dX7_readToken_83 rfl (lv_at hl 0 rfl) ?_
    obtain ⟨⟨q84_r, q84_S⟩, hq, h⟩ := xb h
    try dsimp only at h
    refine x_callS (As := [.int ((sI S 1 3 (S.1 1 2)).1 2 ((sI S 1 3 (S.1 1 2)).1 1 2).toNatClampNeg)]) (rest := []) hC hW hS (c_X7_isDigit l D b cs _ _ _ _ hq) mi_X7_isDigit st_X7_isDigit ml_X7_108 ⟨rfl, rfl⟩ ⟨Nat.le_of_ble_eq_true rfl, Nat.le_of_ble_eq_true rfl⟩ ⟨Nat.zero_le _, Nat.zero_le _⟩ rfl rfl hl.1 (Nat.le_of_ble_eq_true rfl) dX7_readToken_84 (fun H locs hW hS => ?_)
    refine lv_if_ne (tgt := 108) hC.1 hC.2.1 dX7_readToken_87 (by decide) (fun hc => ?_) (fun hc => ?_)
    · replace h := xf hc h
      refine lv_aload_n hC.1 hC.2.1 dX7_readToken_108 rfl (lv_at hl 1 rfl) ?_
      refine lv_iload_n hC.1 hC.2.1 dX7_readToken_109 rfl (lv_at hl 0 rfl) ?_
      refine lv_bipush (v := 48) hC.1 hC.2.1 dX7_readToken_110 (by decide) ?_
      refine lv_isub hC.1 hC.2.1 dX7_readToken_112 ?_
      refine x_puti (C := RX7) (T := TX7) (N := 7) (ty := .int) hC hW hS 1 (by decide) rfl rfl uX7 tyX7 tyX7_ok nmX7 5 (by decide) fl_X7_28 rfl (by decide +kernel) rfl rfl rfl dX7_readToken_113 (fun H locs hW hS => ?_)
      refine lv_iconst (v := 0) hC.1 hC.2.1 dX7_readToken_116 (by decide) ?_
      refine lv_istore_n (lv' := [(2, .int (0 : Int32)), (1, .int ((sI S 1 3 (S.1 1 2)).1 2 ((sI S 1 3 (S.1 1 2)).1 1 2).toNatClampNeg)), (0, .ref (b + 1))]) hC.1 hC.2.1 dX7_readToken_117 rfl hl (by decide) rfl (fun ls hl => ?_)
      exact w_X7_readToken_118 hC hr _ _ _ _ _ _ h hW hS (lv_sub hl [2, 0] rfl)
    · replace h := xt hc h
      refine lv_aload_n hC.1 hC.2.1 dX7_readToken_90 rfl (lv_at hl 1 rfl) ?_
      refine lv_iload_n hC.1 hC.2.1 dX7_readToken_91 rfl (lv_at hl 0 rfl) ?_
      obtain ⟨⟨q92_r, q92_S⟩, hq, h⟩ := xb h
      try dsimp only at h
      refine x_callS (As := [.int ((sI S 1 3 (S.1 1 2)).1 2 ((sI S 1 3 (S.1 1 2)).1 1 2).toNatClampNeg)]) (rest := [.ref (b + 1)]) hC hW hS (c_X7_isSign l D b cs _ _ _ _ hq) mi_X7_isSign st_X7_isSign ml_X7_112 ⟨rfl, rfl⟩ ⟨Nat.le_of_ble_eq_true rfl, Nat.le_of_ble_eq_true rfl⟩ ⟨Nat.zero_le _, Nat.zero_le _⟩ rfl rfl hl.1 (Nat.le_of_ble_eq_true rfl) dX7_readToken_92 (fun H locs hW hS => ?_)
      refine lv_if_eq (tgt := 102) hC.1 hC.2.1 dX7_readToken_95 (by decide) (fun hc => ?_) (fun hc => ?_)
      · replace h := xt hc h
        refine lv_bipush (v := -3) hC.1 hC.2.1 dX7_readToken_102 (by decide) ?_
        refine x_puti (C := RX7) (T := TX7) (N := 7) (ty := .int) hC hW hS 1 (by decide) rfl rfl uX7 tyX7 tyX7_ok nmX7 4 (by decide) fl_X7_25 rfl (by decide +kernel) rfl rfl rfl dX7_readToken_104 (fun H locs hW hS => ?_)
        obtain rfl := Option.some.inj h
        exact x_vret hC hr hW hS dX7_readToken_107
      · replace h := xf hc h
        refine lv_iload_n hC.1 hC.2.1 dX7_readToken_98 rfl (lv_at hl 0 rfl) ?_
        refine lv_goto (tgt := 104) hC.1 hC.2.1 dX7_readToken_99 (by decide) ?_
        refine x_puti (C := RX7) (T := TX7) (N := 7) (ty := .int) hC hW hS 1 (by decide) rfl rfl uX7 tyX7 tyX7_ok nmX7 4 (by decide) fl_X7_25 rfl (by decide +kernel) rfl rfl rfl dX7_readToken_104 (fun H locs hW hS => ?_)
        obtain rfl := Option.some.inj h
        exact x_vret hC hr hW hS dX7_readToken_107
  · replace h := xf hc h
    refine lv_aload_n hC.1 hC.2.1 dX7_readToken_57 rfl (lv_at hl 0 rfl) ?_
    refine lv_iconst (v := -1) hC.1 hC.2.1 dX7_readToken_58 (by decide) ?_
    refine x_puti (C := RX7) (T := TX7) (N := 7) (ty := .int) hC hW hS 1 (by decide) rfl rfl uX7 tyX7 tyX7_ok nmX7 4 (by decide) fl_X7_25 rfl (by decide +kernel) rfl rfl rfl dX7_readToken_59 (fun H locs hW hS => ?_)
    obtain rfl := Option.some.inj h
    exact x_vret hC hr hW hS dX7_readToken_62
set_option maxHeartbeats 4000000 in
set_option maxRecDepth 100000 in
theorem w_X7_readToken_0 {p : Program} {l : Launch} {e : Env} {s : State} {m : MethodId} {args : Array Value} {below : List Frame} {meth : Method} {c : Code} {D : va_G} {b : Nat} {cs : Cs3} {S1 : St} (hC : CX p s m args meth c RX7 cX7_readToken 3 D cs) (hr : meth.sig.returnType = none) : ∀ (n : Nat) (S : St) (H : Heap) (locs : List Loc) (ls : Array Slot), q_X7_readToken_0 n S = some S1 → Wd D b cs S H → va_S (AA b) s.heap H locs → lv_has ls 3 [(0, .ref (b + 1))] → W p l e rX7_readToken s m args below meth c H locs 0 0 (MQ below (QX D b cs none S1) args s 0 0 (AA b)) (F0 m 0 ls []) := by
  intro n
  induction n with
  | zero =>
    intro S H locs ls h
    exact absurd h (by rw [q_X7_readToken_0]; exact fun q => nomatch q)
  | succ n IH =>
    intro S H locs ls h hW hS hl
    rw [q_X7_readToken_0] at h
    refine lv_aload_n hC.1 hC.2.1 dX7_readToken_0 rfl (lv_at hl 0 rfl) ?_
    refine x_get (C := RX7) (T := TX7) (N := 7) (v := _) hC hW 1 (by decide) rfl rfl uX7 2 (by decide) fl_X7_19 rfl rfl dX7_readToken_1 ?_
    refine lv_aload_n hC.1 hC.2.1 dX7_readToken_4 rfl (lv_at hl 0 rfl) ?_
    refine x_get (C := RX7) (T := TX7) (N := 7) (v := _) hC hW 1 (by decide) rfl rfl uX7 1 (by decide) fl_X7_15 rfl rfl dX7_readToken_5 ?_
    refine lv_icmp_ge (tgt := 38) hC.1 hC.2.1 dX7_readToken_8 (by decide) (fun hc => ?_) (fun hc => ?_)
    · replace h := xt hc h
      exact w_X7_readToken_38 hC hr _ _ _ _ h hW hS (lv_sub hl [0] rfl)
    · replace h := xf hc h
      refine lv_aload_n hC.1 hC.2.1 dX7_readToken_11 rfl (lv_at hl 0 rfl) ?_
      refine x_get (C := RX7) (T := TX7) (N := 7) (v := _) hC hW 1 (by decide) rfl rfl uX7 0 (by decide) fl_X7_9 rfl rfl dX7_readToken_12 ?_
      refine lv_aload_n hC.1 hC.2.1 dX7_readToken_15 rfl (lv_at hl 0 rfl) ?_
      refine x_get (C := RX7) (T := TX7) (N := 7) (v := _) hC hW 1 (by decide) rfl rfl uX7 2 (by decide) fl_X7_19 rfl rfl dX7_readToken_16 ?_
      obtain ⟨hi, h⟩ := xg h
      refine x_iald hC hW 2 (by decide) rfl hi dX7_readToken_19 ?_
      refine lv_bipush (v := 32) hC.1 hC.2.1 dX7_readToken_20 (by decide) ?_
      refine lv_icmp_ne (tgt := 38) hC.1 hC.2.1 dX7_readToken_22 (by decide) (fun hc => ?_) (fun hc => ?_)
      · replace h := xf hc h
        exact w_X7_readToken_38 hC hr _ _ _ _ h hW hS (lv_sub hl [0] rfl)
      · replace h := xt hc h
        refine lv_aload_n hC.1 hC.2.1 dX7_readToken_25 rfl (lv_at hl 0 rfl) ?_
        refine lv_dup hC.1 hC.2.1 dX7_readToken_26 rfl ?_
        refine x_get (C := RX7) (T := TX7) (N := 7) (v := _) hC hW 1 (by decide) rfl rfl uX7 2 (by decide) fl_X7_19 rfl rfl dX7_readToken_27 ?_
        refine lv_iconst (v := 1) hC.1 hC.2.1 dX7_readToken_30 (by decide) ?_
        refine lv_iadd hC.1 hC.2.1 dX7_readToken_31 ?_
        refine x_puti (C := RX7) (T := TX7) (N := 7) (ty := .int) hC hW hS 1 (by decide) rfl rfl uX7 tyX7 tyX7_ok nmX7 2 (by decide) fl_X7_19 rfl (by decide +kernel) rfl rfl rfl dX7_readToken_32 (fun H locs hW hS => ?_)
        refine lv_goto (tgt := 0) hC.1 hC.2.1 dX7_readToken_35 (by decide) ?_
        exact IH _ _ _ _ h hW hS (lv_sub hl [0] rfl)
set_option maxHeartbeats 4000000 in
set_option maxRecDepth 100000 in
theorem c_X7_readToken (l : Launch) (D : va_G) (b : Nat) (cs : Cs3) (S S1 : St) (h : p_X7_readToken S = some S1) : Ct l yX7_readToken cX7_readToken 3 none rX7_readToken D b cs [.ref (b + 1)] S none S1 := by
  refine x_met (by decide +kernel) (Nat.le_of_ble_eq_true rfl) ?_
  intro p e s m below meth c ls hC hr hW hS hl
  have hl : lv_has ls 3 [(0, .ref (b + 1))] := hl
  rw [p_X7_readToken] at h
  exact w_X7_readToken_0 hC hr _ _ _ _ _ h hW hS (lv_sub hl [0] rfl)
theorem dX7_readClose_0 : decode cX7_readClose 0 = .ok (.aload_n 0, 1) := by decide +kernel
theorem dX7_readClose_1 : decode cX7_readClose 1 = .ok (.invokevirtual 40, 3) := by decide +kernel
theorem dX7_readClose_4 : decode cX7_readClose 4 = .ok (.aload_n 0, 1) := by decide +kernel
theorem dX7_readClose_5 : decode cX7_readClose 5 = .ok (.getfield 25, 3) := by decide +kernel
theorem dX7_readClose_8 : decode cX7_readClose 8 = .ok (.bipush 59, 2) := by decide +kernel
theorem dX7_readClose_10 : decode cX7_readClose 10 = .ok (.if_icmp .ne 7, 3) := by decide +kernel
theorem dX7_readClose_13 : decode cX7_readClose 13 = .ok (.iconst 1, 1) := by decide +kernel
theorem dX7_readClose_14 : decode cX7_readClose 14 = .ok (.goto 4, 3) := by decide +kernel
theorem dX7_readClose_17 : decode cX7_readClose 17 = .ok (.iconst 0, 1) := by decide +kernel
theorem dX7_readClose_18 : decode cX7_readClose 18 = .ok (.ireturn, 1) := by decide +kernel
abbrev rX7_readClose : Room := { frames := 2, cells := 0, slots := 0, locals := 43 }
set_option maxHeartbeats 4000000 in
set_option maxRecDepth 100000 in
theorem c_X7_readClose (l : Launch) (D : va_G) (b : Nat) (cs : Cs3) (S S1 : St) (r : Int32) (h : p_X7_readClose S = some (r, S1)) : Ct l yX7_readClose cX7_readClose 1 (some .boolean) rX7_readClose D b cs [.ref (b + 1)] S (some (.int r)) S1 := by
  refine x_met (by decide +kernel) (Nat.le_of_ble_eq_true rfl) ?_
  intro p e s m below meth c ls hC hr hW hS hl
  have hl : lv_has ls 1 [(0, .ref (b + 1))] := hl
  rw [p_X7_readClose] at h
  refine lv_aload_n hC.1 hC.2.1 dX7_readClose_0 rfl (lv_at hl 0 rfl) ?_
  obtain ⟨q1, hq, h⟩ := xb h
  try dsimp only at h
  refine x_callV (T := TX7) (N := 7) (As := []) (rest := []) hC hW hS 1 (c_X7_readToken l D b cs _ _ hq) (by decide) rfl rfl mi_X7_readToken in_X7_readToken sl_X7_readToken ml_X7_40 ⟨rfl, rfl⟩ ⟨Nat.le_of_ble_eq_true rfl, Nat.le_of_ble_eq_true rfl⟩ ⟨Nat.zero_le _, Nat.zero_le _⟩ rfl rfl hl.1 (Nat.le_of_ble_eq_true rfl) dX7_readClose_1 (fun H locs hW hS => ?_)
  refine lv_aload_n hC.1 hC.2.1 dX7_readClose_4 rfl (lv_at hl 0 rfl) ?_
  refine x_get (C := RX7) (T := TX7) (N := 7) (v := _) hC hW 1 (by decide) rfl rfl uX7 4 (by decide) fl_X7_25 rfl rfl dX7_readClose_5 ?_
  refine lv_bipush (v := 59) hC.1 hC.2.1 dX7_readClose_8 (by decide) ?_
  refine lv_icmp_ne (tgt := 17) hC.1 hC.2.1 dX7_readClose_10 (by decide) (fun hc => ?_) (fun hc => ?_)
  · replace h := xf hc h
    refine lv_iconst (v := 0) hC.1 hC.2.1 dX7_readClose_17 (by decide) ?_
    obtain ⟨rfl, rfl⟩ := xr h
    exact x_zret hC hr hW hS (Or.inl rfl) dX7_readClose_18
  · replace h := xt hc h
    refine lv_iconst (v := 1) hC.1 hC.2.1 dX7_readClose_13 (by decide) ?_
    refine lv_goto (tgt := 18) hC.1 hC.2.1 dX7_readClose_14 (by decide) ?_
    obtain ⟨rfl, rfl⟩ := xr h
    exact x_zret hC hr hW hS (Or.inr rfl) dX7_readClose_18
