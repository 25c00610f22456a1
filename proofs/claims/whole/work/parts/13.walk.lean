-- walks: X1_shutOut X1_singersOf X1_lowestPitchOf X1_rowsOfThirds X2_becomesEmpty X2_becomes X3_add X3_suspects J6_bitCount_0f7a4 X3_bestDoor X4_takeKeys X4_allBoys X4_allDoors X4_fewestForAll
theorem dX1_shutOut_0 : decode cX1_shutOut 0 = .ok (.iconst 0, 1) := by decide +kernel
theorem dX1_shutOut_1 : decode cX1_shutOut 1 = .ok (.istore_n 2, 1) := by decide +kernel
theorem dX1_shutOut_2 : decode cX1_shutOut 2 = .ok (.iload_n 2, 1) := by decide +kernel
theorem dX1_shutOut_3 : decode cX1_shutOut 3 = .ok (.bipush 20, 2) := by decide +kernel
theorem dX1_shutOut_5 : decode cX1_shutOut 5 = .ok (.if_icmp .gt 32, 3) := by decide +kernel
theorem dX1_shutOut_8 : decode cX1_shutOut 8 = .ok (.aload_n 0, 1) := by decide +kernel
theorem dX1_shutOut_9 : decode cX1_shutOut 9 = .ok (.iload_n 1, 1) := by decide +kernel
theorem dX1_shutOut_10 : decode cX1_shutOut 10 = .ok (.iload_n 2, 1) := by decide +kernel
theorem dX1_shutOut_11 : decode cX1_shutOut 11 = .ok (.invokevirtual 94, 3) := by decide +kernel
theorem dX1_shutOut_14 : decode cX1_shutOut 14 = .ok (.aload_n 0, 1) := by decide +kernel
theorem dX1_shutOut_15 : decode cX1_shutOut 15 = .ok (.getfield 9, 3) := by decide +kernel
theorem dX1_shutOut_18 : decode cX1_shutOut 18 = .ok (.getfield 76, 3) := by decide +kernel
theorem dX1_shutOut_21 : decode cX1_shutOut 21 = .ok (.iload_n 1, 1) := by decide +kernel
theorem dX1_shutOut_22 : decode cX1_shutOut 22 = .ok (.iaload, 1) := by decide +kernel
theorem dX1_shutOut_23 : decode cX1_shutOut 23 = .ok (.ishr, 1) := by decide +kernel
theorem dX1_shutOut_24 : decode cX1_shutOut 24 = .ok (.iconst 1, 1) := by decide +kernel
theorem dX1_shutOut_25 : decode cX1_shutOut 25 = .ok (.iand, 1) := by decide +kernel
theorem dX1_shutOut_26 : decode cX1_shutOut 26 = .ok (.ifCond .ne 5, 3) := by decide +kernel
theorem dX1_shutOut_29 : decode cX1_shutOut 29 = .ok (.iload_n 2, 1) := by decide +kernel
theorem dX1_shutOut_30 : decode cX1_shutOut 30 = .ok (.ireturn, 1) := by decide +kernel
theorem dX1_shutOut_31 : decode cX1_shutOut 31 = .ok (.iinc 2 1, 3) := by decide +kernel
theorem dX1_shutOut_34 : decode cX1_shutOut 34 = .ok (.goto (-32), 3) := by decide +kernel
theorem dX1_shutOut_37 : decode cX1_shutOut 37 = .ok (.bipush (-9), 2) := by decide +kernel
theorem dX1_shutOut_39 : decode cX1_shutOut 39 = .ok (.ireturn, 1) := by decide +kernel
abbrev rX1_shutOut : Room := { frames := 4, cells := 0, slots := 0, locals := 96 }
set_option maxHeartbeats 4000000 in
set_option maxRecDepth 100000 in
theorem w_X1_shutOut_2 {p : Program} {l : Launch} {e : Env} {s : State} {m : MethodId} {args : Array Value} {below : List Frame} {meth : Method} {c : Code} {D : va_G} {b : Nat} {cs : Cs3} {r : Int32} {S1 : St} (hC : CX p s m args meth c RX1 cX1_shutOut 3 D cs) (hr : meth.sig.returnType = (some .int)) : ∀ (n : Nat) (x1 : Int32) (x2 : Int32) (S : St) (H : Heap) (locs : List Loc) (ls : Array Slot), q_X1_shutOut_2 n x1 x2 S = some (r, S1) → Wd D b cs S H → va_S (AA b) s.heap H locs → lv_has ls 3 [(0, .ref (b + 90)), (1, .int x1), (2, .int x2)] → W p l e rX1_shutOut s m args below meth c H locs 0 0 (MQ below (QX D b cs (some (.int r)) S1) args s 0 0 (AA b)) (F0 m 2 ls []) := by
  intro n
  induction n with
  | zero =>
    intro x1 x2 S H locs ls h
    exact absurd h (by rw [q_X1_shutOut_2]; exact fun q => nomatch q)
  | succ n IH =>
    intro x1 x2 S H locs ls h hW hS hl
    rw [q_X1_shutOut_2] at h
    refine lv_iload_n hC.1 hC.2.1 dX1_shutOut_2 rfl (lv_at hl 2 rfl) ?_
    refine lv_bipush (v := 20) hC.1 hC.2.1 dX1_shutOut_3 (by decide) ?_
    refine lv_icmp_gt (tgt := 37) hC.1 hC.2.1 dX1_shutOut_5 (by decide) (fun hc => ?_) (fun hc => ?_)
    · replace h := xt hc h
      refine lv_bipush (v := -9) hC.1 hC.2.1 dX1_shutOut_37 (by decide) ?_
      obtain ⟨rfl, rfl⟩ := xr h
      exact x_iret hC hr hW hS dX1_shutOut_39
    · replace h := xf hc h
      refine lv_aload_n hC.1 hC.2.1 dX1_shutOut_8 rfl (lv_at hl 0 rfl) ?_
      refine lv_iload_n hC.1 hC.2.1 dX1_shutOut_9 rfl (lv_at hl 1 rfl) ?_
      refine lv_iload_n hC.1 hC.2.1 dX1_shutOut_10 rfl (lv_at hl 2 rfl) ?_
      obtain ⟨⟨q11_r, q11_S⟩, hq, h⟩ := xb h
      try dsimp only at h
      refine x_callV (T := TX1) (N := 2) (As := [.int x1, .int x2]) (rest := []) hC hW hS 90 (c_X1_reach l D b cs _ _ _ _ _ hq) (by decide) rfl rfl mi_X1_reach in_X1_reach sl_X1_reach ml_X1_94 ⟨rfl, rfl⟩ ⟨Nat.le_of_ble_eq_true rfl, Nat.le_of_ble_eq_true rfl⟩ ⟨Nat.zero_le _, Nat.zero_le _⟩ rfl rfl hl.1 (Nat.le_of_ble_eq_true rfl) dX1_shutOut_11 (fun H locs hW hS => ?_)
      refine lv_aload_n hC.1 hC.2.1 dX1_shutOut_14 rfl (lv_at hl 0 rfl) ?_
      refine x_get (C := RX1) (T := TX1) (N := 2) (v := _) hC hW 90 (by decide) rfl rfl uX1 0 (by decide) fl_X1_9 rfl rfl dX1_shutOut_15 ?_
      refine x_get (C := RX2) (T := TX2) (N := 12) (v := _) hC hW 3 (by decide) rfl rfl uX2 11 (by decide) fl_X1_76 rfl rfl dX1_shutOut_18 ?_
      refine lv_iload_n hC.1 hC.2.1 dX1_shutOut_21 rfl (lv_at hl 1 rfl) ?_
      obtain ⟨hi, h⟩ := xg h
      refine x_iald hC hW 11 (by decide) rfl hi dX1_shutOut_22 ?_
      refine lv_ishr hC.1 hC.2.1 dX1_shutOut_23 ?_
      refine lv_iconst (v := 1) hC.1 hC.2.1 dX1_shutOut_24 (by decide) ?_
      refine lv_iand hC.1 hC.2.1 dX1_shutOut_25 ?_
      refine lv_if_ne (tgt := 31) hC.1 hC.2.1 dX1_shutOut_26 (by decide) (fun hc => ?_) (fun hc => ?_)
      · replace h := xf hc h
        refine lv_iinc (v := x2 + 1) (lv' := [(2, .int (x2 + 1)), (0, .ref (b + 90)), (1, .int x1)]) hC.1 hC.2.1 dX1_shutOut_31 hl (k := 2) rfl rfl (by decide) rfl (fun ls hl => ?_)
        refine lv_goto (tgt := 2) hC.1 hC.2.1 dX1_shutOut_34 (by decide) ?_
        exact IH _ _ _ _ _ _ h hW hS (lv_sub hl [1, 2, 0] rfl)
      · replace h := xt hc h
        refine lv_iload_n hC.1 hC.2.1 dX1_shutOut_29 rfl (lv_at hl 2 rfl) ?_
        obtain ⟨rfl, rfl⟩ := xr h
        exact x_iret hC hr hW hS dX1_shutOut_30
set_option maxHeartbeats 4000000 in
set_option maxRecDepth 100000 in
theorem c_X1_shutOut (l : Launch) (D : va_G) (b : Nat) (cs : Cs3) (x1 : Int32) (S S1 : St) (r : Int32) (h : p_X1_shutOut x1 S = some (r, S1)) : Ct l yX1_shutOut cX1_shutOut 3 (some .int) rX1_shutOut D b cs [.ref (b + 90), .int x1] S (some (.int r)) S1 := by
  refine x_met (by decide +kernel) (Nat.le_of_ble_eq_true rfl) ?_
  intro p e s m below meth c ls hC hr hW hS hl
  have hl : lv_has ls 3 [(0, .ref (b + 90)), (1, .int x1)] := hl
  rw [p_X1_shutOut] at h
  refine lv_iconst (v := 0) hC.1 hC.2.1 dX1_shutOut_0 (by decide) ?_
  refine lv_istore_n (lv' := [(2, .int (0 : Int32)), (0, .ref (b + 90)), (1, .int x1)]) hC.1 hC.2.1 dX1_shutOut_1 rfl hl (by decide) rfl (fun ls hl => ?_)
  exact w_X1_shutOut_2 hC hr _ _ _ _ _ _ _ h hW hS (lv_sub hl [1, 2, 0] rfl)
theorem dX1_singersOf_0 : decode cX1_singersOf 0 = .ok (.iconst 0, 1) := by decide +kernel
theorem dX1_singersOf_1 : decode cX1_singersOf 1 = .ok (.istore_n 2, 1) := by decide +kernel
theorem dX1_singersOf_2 : decode cX1_singersOf 2 = .ok (.iconst 0, 1) := by decide +kernel
theorem dX1_singersOf_3 : decode cX1_singersOf 3 = .ok (.istore_n 3, 1) := by decide +kernel
theorem dX1_singersOf_4 : decode cX1_singersOf 4 = .ok (.iload_n 3, 1) := by decide +kernel
theorem dX1_singersOf_5 : decode cX1_singersOf 5 = .ok (.aload_n 0, 1) := by decide +kernel
theorem dX1_singersOf_6 : decode cX1_singersOf 6 = .ok (.getfield 9, 3) := by decide +kernel
theorem dX1_singersOf_9 : decode cX1_singersOf 9 = .ok (.getfield 30, 3) := by decide +kernel
theorem dX1_singersOf_12 : decode cX1_singersOf 12 = .ok (.if_icmp .ge 24, 3) := by decide +kernel
theorem dX1_singersOf_15 : decode cX1_singersOf 15 = .ok (.aload_n 0, 1) := by decide +kernel
theorem dX1_singersOf_16 : decode cX1_singersOf 16 = .ok (.iload_n 3, 1) := by decide +kernel
theorem dX1_singersOf_17 : decode cX1_singersOf 17 = .ok (.iload_n 1, 1) := by decide +kernel
theorem dX1_singersOf_18 : decode cX1_singersOf 18 = .ok (.invokevirtual 67, 3) := by decide +kernel
theorem dX1_singersOf_21 : decode cX1_singersOf 21 = .ok (.ifCond .eq 9, 3) := by decide +kernel
theorem dX1_singersOf_24 : decode cX1_singersOf 24 = .ok (.iload_n 2, 1) := by decide +kernel
theorem dX1_singersOf_25 : decode cX1_singersOf 25 = .ok (.iconst 1, 1) := by decide +kernel
theorem dX1_singersOf_26 : decode cX1_singersOf 26 = .ok (.iload_n 3, 1) := by decide +kernel
theorem dX1_singersOf_27 : decode cX1_singersOf 27 = .ok (.ishl, 1) := by decide +kernel
theorem dX1_singersOf_28 : decode cX1_singersOf 28 = .ok (.ior, 1) := by decide +kernel
theorem dX1_singersOf_29 : decode cX1_singersOf 29 = .ok (.istore_n 2, 1) := by decide +kernel
theorem dX1_singersOf_30 : decode cX1_singersOf 30 = .ok (.iinc 3 1, 3) := by decide +kernel
theorem dX1_singersOf_33 : decode cX1_singersOf 33 = .ok (.goto (-29), 3) := by decide +kernel
theorem dX1_singersOf_36 : decode cX1_singersOf 36 = .ok (.iload_n 2, 1) := by decide +kernel
theorem dX1_singersOf_37 : decode cX1_singersOf 37 = .ok (.ireturn, 1) := by decide +kernel
abbrev rX1_singersOf : Room := { frames := 3, cells := 0, slots := 0, locals := 67 }
set_option maxHeartbeats 4000000 in
set_option maxRecDepth 100000 in
theorem w_X1_singersOf_4 {p : Program} {l : Launch} {e : Env} {s : State} {m : MethodId} {args : Array Value} {below : List Frame} {meth : Method} {c : Code} {D : va_G} {b : Nat} {cs : Cs3} {r : Int32} {S1 : St} (hC : CX p s m args meth c RX1 cX1_singersOf 4 D cs) (hr : meth.sig.returnType = (some .int)) : ∀ (n : Nat) (x1 : Int32) (x2 : Int32) (x3 : Int32) (S : St) (H : Heap) (locs : List Loc) (ls : Array Slot), q_X1_singersOf_4 n x1 x2 x3 S = some (r, S1) → Wd D b cs S H → va_S (AA b) s.heap H locs → lv_has ls 4 [(0, .ref (b + 90)), (1, .int x1), (2, .int x2), (3, .int x3)] → W p l e rX1_singersOf s m args below meth c H locs 0 0 (MQ below (QX D b cs (some (.int r)) S1) args s 0 0 (AA b)) (F0 m 4 ls []) := by
  intro n
  induction n with
  | zero =>
    intro x1 x2 x3 S H locs ls h
    exact absurd h (by rw [q_X1_singersOf_4]; exact fun q => nomatch q)
  | succ n IH =>
    intro x1 x2 x3 S H locs ls h hW hS hl
    rw [q_X1_singersOf_4] at h
    refine lv_iload_n hC.1 hC.2.1 dX1_singersOf_4 rfl (lv_at hl 3 rfl) ?_
    refine lv_aload_n hC.1 hC.2.1 dX1_singersOf_5 rfl (lv_at hl 0 rfl) ?_
    refine x_get (C := RX1) (T := TX1) (N := 2) (v := _) hC hW 90 (by decide) rfl rfl uX1 0 (by decide) fl_X1_9 rfl rfl dX1_singersOf_6 ?_
    refine x_get (C := RX2) (T := TX2) (N := 12) (v := _) hC hW 3 (by decide) rfl rfl uX2 2 (by decide) fl_X1_30 rfl rfl dX1_singersOf_9 ?_
    refine lv_icmp_ge (tgt := 36) hC.1 hC.2.1 dX1_singersOf_12 (by decide) (fun hc => ?_) (fun hc => ?_)
    · replace h := xt hc h
      refine lv_iload_n hC.1 hC.2.1 dX1_singersOf_36 rfl (lv_at hl 2 rfl) ?_
      obtain ⟨rfl, rfl⟩ := xr h
      exact x_iret hC hr hW hS dX1_singersOf_37
    · replace h := xf hc h
      refine lv_aload_n hC.1 hC.2.1 dX1_singersOf_15 rfl (lv_at hl 0 rfl) ?_
      refine lv_iload_n hC.1 hC.2.1 dX1_singersOf_16 rfl (lv_at hl 3 rfl) ?_
      refine lv_iload_n hC.1 hC.2.1 dX1_singersOf_17 rfl (lv_at hl 1 rfl) ?_
      obtain ⟨⟨q18_r, q18_S⟩, hq, h⟩ := xb h
      try dsimp only at h
      refine x_callV (T := TX1) (N := 2) (As := [.int x3, .int x1]) (rest := []) hC hW hS 90 (c_X1_sings l D b cs _ _ _ _ _ hq) (by decide) rfl rfl mi_X1_sings in_X1_sings sl_X1_sings ml_X1_67 ⟨rfl, rfl⟩ ⟨Nat.le_of_ble_eq_true rfl, Nat.le_of_ble_eq_true rfl⟩ ⟨Nat.zero_le _, Nat.zero_le _⟩ rfl rfl hl.1 (Nat.le_of_ble_eq_true rfl) dX1_singersOf_18 (fun H locs hW hS => ?_)
      refine lv_if_eq (tgt := 30) hC.1 hC.2.1 dX1_singersOf_21 (by decide) (fun hc => ?_) (fun hc => ?_)
      · replace h := xt hc h
        refine lv_iinc (v := x3 + 1) (lv' := [(3, .int (x3 + 1)), (0, .ref (b + 90)), (1, .int x1), (2, .int x2)]) hC.1 hC.2.1 dX1_singersOf_30 hl (k := 3) rfl rfl (by decide) rfl (fun ls hl => ?_)
        refine lv_goto (tgt := 4) hC.1 hC.2.1 dX1_singersOf_33 (by decide) ?_
        exact IH _ _ _ _ _ _ _ h hW hS (lv_sub hl [1, 2, 3, 0] rfl)
      · replace h := xf hc h
        refine lv_iload_n hC.1 hC.2.1 dX1_singersOf_24 rfl (lv_at hl 2 rfl) ?_
        refine lv_iconst (v := 1) hC.1 hC.2.1 dX1_singersOf_25 (by decide) ?_
        refine lv_iload_n hC.1 hC.2.1 dX1_singersOf_26 rfl (lv_at hl 3 rfl) ?_
        refine lv_ishl hC.1 hC.2.1 dX1_singersOf_27 ?_
        refine lv_ior hC.1 hC.2.1 dX1_singersOf_28 ?_
        refine lv_istore_n (lv' := [(2, .int (x2 ||| ((1 : Int32) <<< (x3 &&& 31)))), (0, .ref (b + 90)), (1, .int x1), (3, .int x3)]) hC.1 hC.2.1 dX1_singersOf_29 rfl hl (by decide) rfl (fun ls hl => ?_)
        refine lv_iinc (v := x3 + 1) (lv' := [(3, .int (x3 + 1)), (2, .int (x2 ||| ((1 : Int32) <<< (x3 &&& 31)))), (0, .ref (b + 90)), (1, .int x1)]) hC.1 hC.2.1 dX1_singersOf_30 hl (k := 3) rfl rfl (by decide) rfl (fun ls hl => ?_)
        refine lv_goto (tgt := 4) hC.1 hC.2.1 dX1_singersOf_33 (by decide) ?_
        exact IH _ _ _ _ _ _ _ h hW hS (lv_sub hl [2, 3, 1, 0] rfl)
set_option maxHeartbeats 4000000 in
set_option maxRecDepth 100000 in
theorem c_X1_singersOf (l : Launch) (D : va_G) (b : Nat) (cs : Cs3) (x1 : Int32) (S S1 : St) (r : Int32) (h : p_X1_singersOf x1 S = some (r, S1)) : Ct l yX1_singersOf cX1_singersOf 4 (some .int) rX1_singersOf D b cs [.ref (b + 90), .int x1] S (some (.int r)) S1 := by
  refine x_met (by decide +kernel) (Nat.le_of_ble_eq_true rfl) ?_
  intro p e s m below meth c ls hC hr hW hS hl
  have hl : lv_has ls 4 [(0, .ref (b + 90)), (1, .int x1)] := hl
  rw [p_X1_singersOf] at h
  refine lv_iconst (v := 0) hC.1 hC.2.1 dX1_singersOf_0 (by decide) ?_
  refine lv_istore_n (lv' := [(2, .int (0 : Int32)), (0, .ref (b + 90)), (1, .int x1)]) hC.1 hC.2.1 dX1_singersOf_1 rfl hl (by decide) rfl (fun ls hl => ?_)
  refine lv_iconst (v := 0) hC.1 hC.2.1 dX1_singersOf_2 (by decide) ?_
  refine lv_istore_n (lv' := [(3, .int (0 : Int32)), (2, .int (0 : Int32)), (0, .ref (b + 90)), (1, .int x1)]) hC.1 hC.2.1 dX1_singersOf_3 rfl hl (by decide) rfl (fun ls hl => ?_)
  exact w_X1_singersOf_4 hC hr _ _ _ _ _ _ _ _ h hW hS (lv_sub hl [2, 3, 1, 0] rfl)
theorem dX1_lowestPitchOf_0 : decode cX1_lowestPitchOf 0 = .ok (.iconst 0, 1) := by decide +kernel
theorem dX1_lowestPitchOf_1 : decode cX1_lowestPitchOf 1 = .ok (.istore_n 2, 1) := by decide +kernel
theorem dX1_lowestPitchOf_2 : decode cX1_lowestPitchOf 2 = .ok (.iload_n 2, 1) := by decide +kernel
theorem dX1_lowestPitchOf_3 : decode cX1_lowestPitchOf 3 = .ok (.bipush 40, 2) := by decide +kernel
theorem dX1_lowestPitchOf_5 : decode cX1_lowestPitchOf 5 = .ok (.if_icmp .gt 20, 3) := by decide +kernel
theorem dX1_lowestPitchOf_8 : decode cX1_lowestPitchOf 8 = .ok (.aload_n 0, 1) := by decide +kernel
theorem dX1_lowestPitchOf_9 : decode cX1_lowestPitchOf 9 = .ok (.iload_n 2, 1) := by decide +kernel
theorem dX1_lowestPitchOf_10 : decode cX1_lowestPitchOf 10 = .ok (.invokevirtual 97, 3) := by decide +kernel
theorem dX1_lowestPitchOf_13 : decode cX1_lowestPitchOf 13 = .ok (.iload_n 1, 1) := by decide +kernel
theorem dX1_lowestPitchOf_14 : decode cX1_lowestPitchOf 14 = .ok (.if_icmp .ne 5, 3) := by decide +kernel
theorem dX1_lowestPitchOf_17 : decode cX1_lowestPitchOf 17 = .ok (.iload_n 2, 1) := by decide +kernel
theorem dX1_lowestPitchOf_18 : decode cX1_lowestPitchOf 18 = .ok (.ireturn, 1) := by decide +kernel
theorem dX1_lowestPitchOf_19 : decode cX1_lowestPitchOf 19 = .ok (.iinc 2 1, 3) := by decide +kernel
theorem dX1_lowestPitchOf_22 : decode cX1_lowestPitchOf 22 = .ok (.goto (-20), 3) := by decide +kernel
theorem dX1_lowestPitchOf_25 : decode cX1_lowestPitchOf 25 = .ok (.bipush (-9), 2) := by decide +kernel
theorem dX1_lowestPitchOf_27 : decode cX1_lowestPitchOf 27 = .ok (.ireturn, 1) := by decide +kernel
abbrev rX1_lowestPitchOf : Room := { frames := 4, cells := 0, slots := 0, locals := 90 }
set_option maxHeartbeats 4000000 in
set_option maxRecDepth 100000 in
theorem w_X1_lowestPitchOf_2 {p : Program} {l : Launch} {e : Env} {s : State} {m : MethodId} {args : Array Value} {below : List Frame} {meth : Method} {c : Code} {D : va_G} {b : Nat} {cs : Cs3} {r : Int32} {S1 : St} (hC : CX p s m args meth c RX1 cX1_lowestPitchOf 3 D cs) (hr : meth.sig.returnType = (some .int)) : ∀ (n : Nat) (x1 : Int32) (x2 : Int32) (S : St) (H : Heap) (locs : List Loc) (ls : Array Slot), q_X1_lowestPitchOf_2 n x1 x2 S = some (r, S1) → Wd D b cs S H → va_S (AA b) s.heap H locs → lv_has ls 3 [(0, .ref (b + 90)), (1, .int x1), (2, .int x2)] → W p l e rX1_lowestPitchOf s m args below meth c H locs 0 0 (MQ below (QX D b cs (some (.int r)) S1) args s 0 0 (AA b)) (F0 m 2 ls []) := by
  intro n
  induction n with
  | zero =>
    intro x1 x2 S H locs ls h
    exact absurd h (by rw [q_X1_lowestPitchOf_2]; exact fun q => nomatch q)
  | succ n IH =>
    intro x1 x2 S H locs ls h hW hS hl
    rw [q_X1_lowestPitchOf_2] at h
    refine lv_iload_n hC.1 hC.2.1 dX1_lowestPitchOf_2 rfl (lv_at hl 2 rfl) ?_
    refine lv_bipush (v := 40) hC.1 hC.2.1 dX1_lowestPitchOf_3 (by decide) ?_
    refine lv_icmp_gt (tgt := 25) hC.1 hC.2.1 dX1_lowestPitchOf_5 (by decide) (fun hc => ?_) (fun hc => ?_)
    · replace h := xt hc h
      refine lv_bipush (v := -9) hC.1 hC.2.1 dX1_lowestPitchOf_25 (by decide) ?_
      obtain ⟨rfl, rfl⟩ := xr h
      exact x_iret hC hr hW hS dX1_lowestPitchOf_27
    · replace h := xf hc h
      refine lv_aload_n hC.1 hC.2.1 dX1_lowestPitchOf_8 rfl (lv_at hl 0 rfl) ?_
      refine lv_iload_n hC.1 hC.2.1 dX1_lowestPitchOf_9 rfl (lv_at hl 2 rfl) ?_
      obtain ⟨⟨q10_r, q10_S⟩, hq, h⟩ := xb h
      try dsimp only at h
      refine x_callV (T := TX1) (N := 2) (As := [.int x2]) (rest := []) hC hW hS 90 (c_X1_singersOf l D b cs _ _ _ _ hq) (by decide) rfl rfl mi_X1_singersOf in_X1_singersOf sl_X1_singersOf ml_X1_97 ⟨rfl, rfl⟩ ⟨Nat.le_of_ble_eq_true rfl, Nat.le_of_ble_eq_true rfl⟩ ⟨Nat.zero_le _, Nat.zero_le _⟩ rfl rfl hl.1 (Nat.le_of_ble_eq_true rfl) dX1_lowestPitchOf_10 (fun H locs hW hS => ?_)
      refine lv_iload_n hC.1 hC.2.1 dX1_lowestPitchOf_13 rfl (lv_at hl 1 rfl) ?_
      refine lv_icmp_ne (tgt := 19) hC.1 hC.2.1 dX1_lowestPitchOf_14 (by decide) (fun hc => ?_) (fun hc => ?_)
      · replace h := xf hc h
        refine lv_iinc (v := x2 + 1) (lv' := [(2, .int (x2 + 1)), (0, .ref (b + 90)), (1, .int x1)]) hC.1 hC.2.1 dX1_lowestPitchOf_19 hl (k := 2) rfl rfl (by decide) rfl (fun ls hl => ?_)
        refine lv_goto (tgt := 2) hC.1 hC.2.1 dX1_lowestPitchOf_22 (by decide) ?_
        exact IH _ _ _ _ _ _ h hW hS (lv_sub hl [1, 2, 0] rfl)
      · replace h := xt hc h
        refine lv_iload_n hC.1 hC.2.1 dX1_lowestPitchOf_17 rfl (lv_at hl 2 rfl) ?_
        obtain ⟨rfl, rfl⟩ := xr h
        exact x_iret hC hr hW hS dX1_lowestPitchOf_18
set_option maxHeartbeats 4000000 in
set_option maxRecDepth 100000 in
theorem c_X1_lowestPitchOf (l : Launch) (D : va_G) (b : Nat) (cs : Cs3) (x1 : Int32) (S S1 : St) (r : Int32) (h : p_X1_lowestPitchOf x1 S = some (r, S1)) : Ct l yX1_lowestPitchOf cX1_lowestPitchOf 3 (some .int) rX1_lowestPitchOf D b cs [.ref (b + 90), .int x1] S (some (.int r)) S1 := by
  refine x_met (by decide +kernel) (Nat.le_of_ble_eq_true rfl) ?_
  intro p e s m below meth c ls hC hr hW hS hl
  have hl : lv_has ls 3 [(0, .ref (b + 90)), (1, .int x1)] := hl
  rw [p_X1_lowestPitchOf] at h
  refine lv_iconst (v := 0) hC.1 hC.2.1 dX1_lowestPitchOf_0 (by decide) ?_
  refine lv_istore_n (lv' := [(2, .int (0 : Int32)), (0, .ref (b + 90)), (1, .int x1)]) hC.1 hC.2.1 dX1_lowestPitchOf_1 rfl hl (by decide) rfl (fun ls hl => ?_)
  exact w_X1_lowestPitchOf_2 hC hr _ _ _ _ _ _ _ h hW hS (lv_sub hl [1, 2, 0] rfl)
theorem dX1_rowsOfThirds_0 : decode cX1_rowsOfThirds 0 = .ok (.iconst 0, 1) := by decide +kernel
theorem dX1_rowsOfThirds_1 : decode cX1_rowsOfThirds 1 = .ok (.istore_n 3, 1) := by decide +kernel
theorem dX1_rowsOfThirds_2 : decode cX1_rowsOfThirds 2 = .ok (.iconst 0, 1) := by decide +kernel
theorem dX1_rowsOfThirds_3 : decode cX1_rowsOfThirds 3 = .ok (.istore 4, 2) := by decide +kernel
theorem dX1_rowsOfThirds_5 : decode cX1_rowsOfThirds 5 = .ok (.iload 4, 2) := by decide +kernel
theorem dX1_rowsOfThirds_7 : decode cX1_rowsOfThirds 7 = .ok (.aload_n 0, 1) := by decide +kernel
theorem dX1_rowsOfThirds_8 : decode cX1_rowsOfThirds 8 = .ok (.getfield 9, 3) := by decide +kernel
theorem dX1_rowsOfThirds_11 : decode cX1_rowsOfThirds 11 = .ok (.getfield 61, 3) := by decide +kernel
theorem dX1_rowsOfThirds_14 : decode cX1_rowsOfThirds 14 = .ok (.if_icmp .ge 109, 3) := by decide +kernel
theorem dX1_rowsOfThirds_17 : decode cX1_rowsOfThirds 17 = .ok (.iconst 0, 1) := by decide +kernel
theorem dX1_rowsOfThirds_18 : decode cX1_rowsOfThirds 18 = .ok (.istore 5, 2) := by decide +kernel
theorem dX1_rowsOfThirds_20 : decode cX1_rowsOfThirds 20 = .ok (.iload 5, 2) := by decide +kernel
theorem dX1_rowsOfThirds_22 : decode cX1_rowsOfThirds 22 = .ok (.aload_n 0, 1) := by decide +kernel
theorem dX1_rowsOfThirds_23 : decode cX1_rowsOfThirds 23 = .ok (.getfield 9, 3) := by decide +kernel
theorem dX1_rowsOfThirds_26 : decode cX1_rowsOfThirds 26 = .ok (.getfield 61, 3) := by decide +kernel
theorem dX1_rowsOfThirds_29 : decode cX1_rowsOfThirds 29 = .ok (.if_icmp .ge 88, 3) := by decide +kernel
theorem dX1_rowsOfThirds_32 : decode cX1_rowsOfThirds 32 = .ok (.aload_n 0, 1) := by decide +kernel
theorem dX1_rowsOfThirds_33 : decode cX1_rowsOfThirds 33 = .ok (.getfield 15, 3) := by decide +kernel
theorem dX1_rowsOfThirds_36 : decode cX1_rowsOfThirds 36 = .ok (.getfield 64, 3) := by decide +kernel
theorem dX1_rowsOfThirds_39 : decode cX1_rowsOfThirds 39 = .ok (.iload 4, 2) := by decide +kernel
theorem dX1_rowsOfThirds_41 : decode cX1_rowsOfThirds 41 = .ok (.iaload, 1) := by decide +kernel
theorem dX1_rowsOfThirds_42 : decode cX1_rowsOfThirds 42 = .ok (.aload_n 0, 1) := by decide +kernel
theorem dX1_rowsOfThirds_43 : decode cX1_rowsOfThirds 43 = .ok (.getfield 15, 3) := by decide +kernel
theorem dX1_rowsOfThirds_46 : decode cX1_rowsOfThirds 46 = .ok (.getfield 64, 3) := by decide +kernel
theorem dX1_rowsOfThirds_49 : decode cX1_rowsOfThirds 49 = .ok (.iload 5, 2) := by decide +kernel
theorem dX1_rowsOfThirds_51 : decode cX1_rowsOfThirds 51 = .ok (.iaload, 1) := by decide +kernel
theorem dX1_rowsOfThirds_52 : decode cX1_rowsOfThirds 52 = .ok (.isub, 1) := by decide +kernel
theorem dX1_rowsOfThirds_53 : decode cX1_rowsOfThirds 53 = .ok (.invokestatic 101, 3) := by decide +kernel
theorem dX1_rowsOfThirds_56 : decode cX1_rowsOfThirds 56 = .ok (.iconst 4, 1) := by decide +kernel
theorem dX1_rowsOfThirds_57 : decode cX1_rowsOfThirds 57 = .ok (.if_icmp .ne 7, 3) := by decide +kernel
theorem dX1_rowsOfThirds_60 : decode cX1_rowsOfThirds 60 = .ok (.iconst 1, 1) := by decide +kernel
theorem dX1_rowsOfThirds_61 : decode cX1_rowsOfThirds 61 = .ok (.goto 4, 3) := by decide +kernel
theorem dX1_rowsOfThirds_64 : decode cX1_rowsOfThirds 64 = .ok (.iconst 0, 1) := by decide +kernel
theorem dX1_rowsOfThirds_65 : decode cX1_rowsOfThirds 65 = .ok (.istore 6, 2) := by decide +kernel
theorem dX1_rowsOfThirds_67 : decode cX1_rowsOfThirds 67 = .ok (.iload 6, 2) := by decide +kernel
theorem dX1_rowsOfThirds_69 : decode cX1_rowsOfThirds 69 = .ok (.ifCond .eq 42, 3) := by decide +kernel
theorem dX1_rowsOfThirds_72 : decode cX1_rowsOfThirds 72 = .ok (.aload_n 0, 1) := by decide +kernel
theorem dX1_rowsOfThirds_73 : decode cX1_rowsOfThirds 73 = .ok (.iload_n 1, 1) := by decide +kernel
theorem dX1_rowsOfThirds_74 : decode cX1_rowsOfThirds 74 = .ok (.aload_n 0, 1) := by decide +kernel
theorem dX1_rowsOfThirds_75 : decode cX1_rowsOfThirds 75 = .ok (.getfield 15, 3) := by decide +kernel
theorem dX1_rowsOfThirds_78 : decode cX1_rowsOfThirds 78 = .ok (.getfield 64, 3) := by decide +kernel
theorem dX1_rowsOfThirds_81 : decode cX1_rowsOfThirds 81 = .ok (.iload 4, 2) := by decide +kernel
theorem dX1_rowsOfThirds_83 : decode cX1_rowsOfThirds 83 = .ok (.iaload, 1) := by decide +kernel
theorem dX1_rowsOfThirds_84 : decode cX1_rowsOfThirds 84 = .ok (.invokevirtual 67, 3) := by decide +kernel
theorem dX1_rowsOfThirds_87 : decode cX1_rowsOfThirds 87 = .ok (.ifCond .eq 24, 3) := by decide +kernel
theorem dX1_rowsOfThirds_90 : decode cX1_rowsOfThirds 90 = .ok (.aload_n 0, 1) := by decide +kernel
theorem dX1_rowsOfThirds_91 : decode cX1_rowsOfThirds 91 = .ok (.iload_n 2, 1) := by decide +kernel
theorem dX1_rowsOfThirds_92 : decode cX1_rowsOfThirds 92 = .ok (.aload_n 0, 1) := by decide +kernel
theorem dX1_rowsOfThirds_93 : decode cX1_rowsOfThirds 93 = .ok (.getfield 15, 3) := by decide +kernel
theorem dX1_rowsOfThirds_96 : decode cX1_rowsOfThirds 96 = .ok (.getfield 64, 3) := by decide +kernel
theorem dX1_rowsOfThirds_99 : decode cX1_rowsOfThirds 99 = .ok (.iload 5, 2) := by decide +kernel
theorem dX1_rowsOfThirds_101 : decode cX1_rowsOfThirds 101 = .ok (.iaload, 1) := by decide +kernel
theorem dX1_rowsOfThirds_102 : decode cX1_rowsOfThirds 102 = .ok (.invokevirtual 67, 3) := by decide +kernel
theorem dX1_rowsOfThirds_105 : decode cX1_rowsOfThirds 105 = .ok (.ifCond .eq 6, 3) := by decide +kernel
theorem dX1_rowsOfThirds_108 : decode cX1_rowsOfThirds 108 = .ok (.iinc 3 1, 3) := by decide +kernel
theorem dX1_rowsOfThirds_111 : decode cX1_rowsOfThirds 111 = .ok (.iinc 5 1, 3) := by decide +kernel
theorem dX1_rowsOfThirds_114 : decode cX1_rowsOfThirds 114 = .ok (.goto (-94), 3) := by decide +kernel
theorem dX1_rowsOfThirds_117 : decode cX1_rowsOfThirds 117 = .ok (.iinc 4 1, 3) := by decide +kernel
theorem dX1_rowsOfThirds_120 : decode cX1_rowsOfThirds 120 = .ok (.goto (-115), 3) := by decide +kernel
theorem dX1_rowsOfThirds_123 : decode cX1_rowsOfThirds 123 = .ok (.iload_n 3, 1) := by decide +kernel
theorem dX1_rowsOfThirds_124 : decode cX1_rowsOfThirds 124 = .ok (.ireturn, 1) := by decide +kernel
abbrev rX1_rowsOfThirds : Room := { frames := 3, cells := 0, slots := 0, locals := 67 }
set_option maxHeartbeats 4000000 in
set_option maxRecDepth 100000 in
theorem w_X1_rowsOfThirds_65 {p : Program} {l : Launch} {e : Env} {s : State} {m : MethodId} {args : Array Value} {below : List Frame} {meth : Method} {c : Code} {D : va_G} {b : Nat} {cs : Cs3} {r : Int32} {S1 : St} {ag5 : Int32 → Int32 → Int32 → Int32 → St → Option (Int32 × St)} {ag20 : Int32 → Int32 → Int32 → Int32 → Int32 → St → Option (Int32 × St)} (hC : CX p s m args meth c RX1 cX1_rowsOfThirds 7 D cs) (hr : meth.sig.returnType = (some .int)) (hag5 : ∀ (x1 : Int32) (x2 : Int32) (x3 : Int32) (x4 : Int32) (S : St) (H : Heap) (locs : List Loc) (ls : Array Slot), ag5 x1 x2 x3 x4 S = some (r, S1) → Wd D b cs S H → va_S (AA b) s.heap H locs → lv_has ls 7 [(0, .ref (b + 90)), (1, .int x1), (2, .int x2), (3, .int x3), (4, .int x4)] → W p l e rX1_rowsOfThirds s m args below meth c H locs 0 0 (MQ below (QX D b cs (some (.int r)) S1) args s 0 0 (AA b)) (F0 m 5 ls [])) (hag20 : ∀ (x1 : Int32) (x2 : Int32) (x3 : Int32) (x4 : Int32) (x5 : Int32) (S : St) (H : Heap) (locs : List Loc) (ls : Array Slot), ag20 x1 x2 x3 x4 x5 S = some (r, S1) → Wd D b cs S H → va_S (AA b) s.heap H locs → lv_has ls 7 [(0, .ref (b + 90)), (1, .int x1), (2, .int x2), (3, .int x3), (4, .int x4), (5, .int x5)] → W p l e rX1_rowsOfThirds s m args below meth c H locs 0 0 (MQ below (QX D b cs (some (.int r)) S1) args s 0 0 (AA b)) (F0 m 20 ls [])) : ∀ (x1 : Int32) (x2 : Int32) (x3 : Int32) (x4 : Int32) (x5 : Int32) (y0 : Int32) (S : St) (H : Heap) (locs : List Loc) (ls : Array Slot), q_X1_rowsOfThirds_65 ag5 ag20 x1 x2 x3 x4 x5 y0 S = some (r, S1) → Wd D b cs S H → va_S (AA b) s.heap H locs → lv_has ls 7 [(0, .ref (b + 90)), (1, .int x1), (2, .int x2), (3, .int x3), (4, .int x4), (5, .int x5)] → W p l e rX1_rowsOfThirds s m args below meth c H locs 0 0 (MQ below (QX D b cs (some (.int r)) S1) args s 0 0 (AA b)) (F0 m 65 ls [.int y0]) := by
  intro x1 x2 x3 x4 x5 y0 S H locs ls h hW hS hl
  rw [q_X1_rowsOfThirds_65] at h
  refine lv_istore (lv' := [(6, .int y0), (0, .ref (b + 90)), (1, .int x1), (2, .int x2), (3, .int x3), (4, .int x4), (5, .int x5)]) hC.1 hC.2.1 dX1_rowsOfThirds_65 hl (by decide) rfl (fun ls hl => ?_)
  refine lv_iload hC.1 hC.2.1 dX1_rowsOfThirds_67 (lv_at hl 0 rfl) ?_
  refine lv_if_eq (tgt := 111) hC.1 hC.2.1 dX1_rowsOfThirds_69 (by decide) (fun hc => ?_) (fun hc => ?_)
  · replace h := xt hc h
    refine lv_iinc (v := x5 + 1) (lv' := [(5, .int (x5 + 1)), (6, .int y0), (0, .ref (b + 90)), (1, .int x1), (2, .int x2), (3, .int x3), (4, .int x4)]) hC.1 hC.2.1 dX1_rowsOfThirds_111 hl (k := 6) rfl rfl (by decide) rfl (fun ls hl => ?_)
    refine lv_goto (tgt := 20) hC.1 hC.2.1 dX1_rowsOfThirds_114 (by decide) ?_
    exact hag20 _ _ _ _ _ _ _ _ _ h hW hS (lv_sub hl [2, 3, 4, 5, 6, 0] rfl)
  · replace h := xf hc h
    refine lv_aload_n hC.1 hC.2.1 dX1_rowsOfThirds_72 rfl (lv_at hl 1 rfl) ?_
    refine lv_iload_n hC.1 hC.2.1 dX1_rowsOfThirds_73 rfl (lv_at hl 2 rfl) ?_
    refine lv_aload_n hC.1 hC.2.1 dX1_rowsOfThirds_74 rfl (lv_at hl 1 rfl) ?_
    refine x_get (C := RX1) (T := TX1) (N := 2) (v := _) hC hW 90 (by decide) rfl rfl uX1 1 (by decide) fl_X1_15 rfl rfl dX1_rowsOfThirds_75 ?_
    refine x_get (C := RX8) (T := TX8) (N := 6) (v := _) hC hW 21 (by decide) rfl rfl uX8 3 (by decide) fl_X1_64 rfl rfl dX1_rowsOfThirds_78 ?_
    refine lv_iload hC.1 hC.2.1 dX1_rowsOfThirds_81 (lv_at hl 5 rfl) ?_
    obtain ⟨hi, h⟩ := xg h
    refine x_iald hC hW 25 (by decide) rfl hi dX1_rowsOfThirds_83 ?_
    obtain ⟨⟨q84_r, q84_S⟩, hq, h⟩ := xb h
    try dsimp only at h
    refine x_callV (T := TX1) (N := 2) (As := [.int x1, .int (S.1 25 x4.toNatClampNeg)]) (rest := []) hC hW hS 90 (c_X1_sings l D b cs _ _ _ _ _ hq) (by decide) rfl rfl mi_X1_sings in_X1_sings sl_X1_sings ml_X1_67 ⟨rfl, rfl⟩ ⟨Nat.le_of_ble_eq_true rfl, Nat.le_of_ble_eq_true rfl⟩ ⟨Nat.zero_le _, Nat.zero_le _⟩ rfl rfl hl.1 (Nat.le_of_ble_eq_true rfl) dX1_rowsOfThirds_84 (fun H locs hW hS => ?_)
    refine lv_if_eq (tgt := 111) hC.1 hC.2.1 dX1_rowsOfThirds_87 (by decide) (fun hc => ?_) (fun hc => ?_)
    · replace h := xt hc h
      refine lv_iinc (v := x5 + 1) (lv' := [(5, .int (x5 + 1)), (6, .int y0), (0, .ref (b + 90)), (1, .int x1), (2, .int x2), (3, .int x3), (4, .int x4)]) hC.1 hC.2.1 dX1_rowsOfThirds_111 hl (k := 6) rfl rfl (by decide) rfl (fun ls hl => ?_)
      refine lv_goto (tgt := 20) hC.1 hC.2.1 dX1_rowsOfThirds_114 (by decide) ?_
      exact hag20 _ _ _ _ _ _ _ _ _ h hW hS (lv_sub hl [2, 3, 4, 5, 6, 0] rfl)
    · replace h := xf hc h
      refine lv_aload_n hC.1 hC.2.1 dX1_rowsOfThirds_90 rfl (lv_at hl 1 rfl) ?_
      refine lv_iload_n hC.1 hC.2.1 dX1_rowsOfThirds_91 rfl (lv_at hl 3 rfl) ?_
      refine lv_aload_n hC.1 hC.2.1 dX1_rowsOfThirds_92 rfl (lv_at hl 1 rfl) ?_
      refine x_get (C := RX1) (T := TX1) (N := 2) (v := _) hC hW 90 (by decide) rfl rfl uX1 1 (by decide) fl_X1_15 rfl rfl dX1_rowsOfThirds_93 ?_
      refine x_get (C := RX8) (T := TX8) (N := 6) (v := _) hC hW 21 (by decide) rfl rfl uX8 3 (by decide) fl_X1_64 rfl rfl dX1_rowsOfThirds_96 ?_
      refine lv_iload hC.1 hC.2.1 dX1_rowsOfThirds_99 (lv_at hl 6 rfl) ?_
      obtain ⟨hi, h⟩ := xg h
      refine x_iald hC hW 25 (by decide) rfl hi dX1_rowsOfThirds_101 ?_
      obtain ⟨⟨q102_r, q102_S⟩, hq, h⟩ := xb h
      try dsimp only at h
      refine x_callV (T := TX1) (N := 2) (As := [.int x2, .int (q84_S.1 25 x5.toNatClampNeg)]) (rest := []) hC hW hS 90 (c_X1_sings l D b cs _ _ _ _ _ hq) (by decide) rfl rfl mi_X1_sings in_X1_sings sl_X1_sings ml_X1_67 ⟨rfl, rfl⟩ ⟨Nat.le_of_ble_eq_true rfl, Nat.le_of_ble_eq_true rfl⟩ ⟨Nat.zero_le _, Nat.zero_le _⟩ rfl rfl hl.1 (Nat.le_of_ble_eq_true rfl) dX1_rowsOfThirds_102 (fun H locs hW hS => ?_)
      refine lv_if_eq (tgt := 111) hC.1 hC.2.1 dX1_rowsOfThirds_105 (by decide) (fun hc => ?_) (fun hc => ?_)
      · replace h := xt hc h
        refine lv_iinc (v := x5 + 1) (lv' := [(5, .int (x5 + 1)), (6, .int y0), (0, .ref (b + 90)), (1, .int x1), (2, .int x2), (3, .int x3), (4, .int x4)]) hC.1 hC.2.1 dX1_rowsOfThirds_111 hl (k := 6) rfl rfl (by decide) rfl (fun ls hl => ?_)
        refine lv_goto (tgt := 20) hC.1 hC.2.1 dX1_rowsOfThirds_114 (by decide) ?_
        exact hag20 _ _ _ _ _ _ _ _ _ h hW hS (lv_sub hl [2, 3, 4, 5, 6, 0] rfl)
      · replace h := xf hc h
        refine lv_iinc (v := x3 + 1) (lv' := [(3, .int (x3 + 1)), (6, .int y0), (0, .ref (b + 90)), (1, .int x1), (2, .int x2), (4, .int x4), (5, .int x5)]) hC.1 hC.2.1 dX1_rowsOfThirds_108 hl (k := 4) rfl rfl (by decide) rfl (fun ls hl => ?_)
        refine lv_iinc (v := x5 + 1) (lv' := [(5, .int (x5 + 1)), (3, .int (x3 + 1)), (6, .int y0), (0, .ref (b + 90)), (1, .int x1), (2, .int x2), (4, .int x4)]) hC.1 hC.2.1 dX1_rowsOfThirds_111 hl (k := 6) rfl rfl (by decide) rfl (fun ls hl => ?_)
        refine lv_goto (tgt := 20) hC.1 hC.2.1 dX1_rowsOfThirds_114 (by decide) ?_
        exact hag20 _ _ _ _ _ _ _ _ _ h hW hS (lv_sub hl [3, 4, 5, 1, 6, 0] rfl)
set_option maxHeartbeats 4000000 in
set_option maxRecDepth 100000 in
theorem w_X1_rowsOfThirds_20 {p : Program} {l : Launch} {e : Env} {s : State} {m : MethodId} {args : Array Value} {below : List Frame} {meth : Method} {c : Code} {D : va_G} {b : Nat} {cs : Cs3} {r : Int32} {S1 : St} {ag5 : Int32 → Int32 → Int32 → Int32 → St → Option (Int32 × St)} (hC : CX p s m args meth c RX1 cX1_rowsOfThirds 7 D cs) (hr : meth.sig.returnType = (some .int)) (hag5 : ∀ (x1 : Int32) (x2 : Int32) (x3 : Int32) (x4 : Int32) (S : St) (H : Heap) (locs : List Loc) (ls : Array Slot), ag5 x1 x2 x3 x4 S = some (r, S1) → Wd D b cs S H → va_S (AA b) s.heap H locs → lv_has ls 7 [(0, .ref (b + 90)), (1, .int x1), (2, .int x2), (3, .int x3), (4, .int x4)] → W p l e rX1_rowsOfThirds s m args below meth c H locs 0 0 (MQ below (QX D b cs (some (.int r)) S1) args s 0 0 (AA b)) (F0 m 5 ls [])) : ∀ (n : Nat) (x1 : Int32) (x2 : Int32) (x3 : Int32) (x4 : Int32) (x5 : Int32) (S : St) (H : Heap) (locs : List Loc) (ls : Array Slot), q_X1_rowsOfThirds_20 ag5 n x1 x2 x3 x4 x5 S = some (r, S1) → Wd D b cs S H → va_S (AA b) s.heap H locs → lv_has ls 7 [(0, .ref (b + 90)), (1, .int x1), (2, .int x2), (3, .int x3), (4, .int x4), (5, .int x5)] → W p l e rX1_rowsOfThirds s m args below meth c H locs 0 0 (MQ below (QX D b cs (some (.int r)) S1) args s 0 0 (AA b)) (F0 m 20 ls []) := by
  intro n
  induction n with
  | zero =>
    intro x1 x2 x3 x4 x5 S H locs ls h
    exact absurd h (by rw [q_X1_rowsOfThirds_20]; exact fun q => nomatch q)
  | succ n IH =>
    intro x1 x2 x3 x4 x5 S H locs ls h hW hS hl
    rw [q_X1_rowsOfThirds_20] at h
    refine lv_iload hC.1 hC.2.1 dX1_rowsOfThirds_20 (lv_at hl 5 rfl) ?_
    refine lv_aload_n hC.1 hC.2.1 dX1_rowsOfThirds_22 rfl (lv_at hl 0 rfl) ?_
    refine x_get (C := RX1) (T := TX1) (N := 2) (v := _) hC hW 90 (by decide) rfl rfl uX1 0 (by decide) fl_X1_9 rfl rfl dX1_rowsOfThirds_23 ?_
    refine x_get (C := RX2) (T := TX2) (N := 12) (v := _) hC hW 3 (by decide) rfl rfl uX2 1 (by decide) fl_X1_61 rfl rfl dX1_rowsOfThirds_26 ?_
    refine lv_icmp_ge (tgt := 117) hC.1 hC.2.1 dX1_rowsOfThirds_29 (by decide) (fun hc => ?_) (fun hc => ?_)
    · replace h := xt hc h
      refine lv_iinc (v := x4 + 1) (lv' := [(4, .int (x4 + 1)), (0, .ref (b + 90)), (1, .int x1), (2, .int x2), (3, .int x3), (5, .int x5)]) hC.1 hC.2.1 dX1_rowsOfThirds_117 hl (k := 4) rfl rfl (by decide) rfl (fun ls hl => ?_)
      refine lv_goto (tgt := 5) hC.1 hC.2.1 dX1_rowsOfThirds_120 (by decide) ?_
      exact hag5 _ _ _ _ _ _ _ _ h hW hS (lv_sub hl [1, 2, 3, 4, 0] rfl)
    · replace h := xf hc h
      refine lv_aload_n hC.1 hC.2.1 dX1_rowsOfThirds_32 rfl (lv_at hl 0 rfl) ?_
      refine x_get (C := RX1) (T := TX1) (N := 2) (v := _) hC hW 90 (by decide) rfl rfl uX1 1 (by decide) fl_X1_15 rfl rfl dX1_rowsOfThirds_33 ?_
      refine x_get (C := RX8) (T := TX8) (N := 6) (v := _) hC hW 21 (by decide) rfl rfl uX8 3 (by decide) fl_X1_64 rfl rfl dX1_rowsOfThirds_36 ?_
      refine lv_iload hC.1 hC.2.1 dX1_rowsOfThirds_39 (lv_at hl 4 rfl) ?_
      obtain ⟨hi, h⟩ := xg h
      refine x_iald hC hW 25 (by decide) rfl hi dX1_rowsOfThirds_41 ?_
      refine lv_aload_n hC.1 hC.2.1 dX1_rowsOfThirds_42 rfl (lv_at hl 0 rfl) ?_
      refine x_get (C := RX1) (T := TX1) (N := 2) (v := _) hC hW 90 (by decide) rfl rfl uX1 1 (by decide) fl_X1_15 rfl rfl dX1_rowsOfThirds_43 ?_
      refine x_get (C := RX8) (T := TX8) (N := 6) (v := _) hC hW 21 (by decide) rfl rfl uX8 3 (by decide) fl_X1_64 rfl rfl dX1_rowsOfThirds_46 ?_
      refine lv_iload hC.1 hC.2.1 dX1_rowsOfThirds_49 (lv_at hl 5 rfl) ?_
      obtain ⟨hi, h⟩ := xg h
      refine x_iald hC hW 25 (by decide) rfl hi dX1_rowsOfThirds_51 ?_
      refine lv_isub hC.1 hC.2.1 dX1_rowsOfThirds_52 ?_
      refine va_mabs (rest := []) hC.1 hC.2.1 (hC.2.2.1.trans hl.1.symm) hC.2.2.2.1 (hC.2.2.2.2.1 _ ml_X1_101) (hC.2.2.2.2.1 _ st_math_abs) (hC.2.2.2.2.1 _ iw_math) (hC.2.2.2.2.1 _ cw_math_abs) (Nat.le_of_ble_eq_true rfl) (Nat.le_of_ble_eq_true rfl) (Nat.zero_le _) (Nat.zero_le _) dX1_rowsOfThirds_53 ?_
      refine lv_iconst (v := 4) hC.1 hC.2.1 dX1_rowsOfThirds_56 (by decide) ?_
      refine lv_icmp_ne (tgt := 64) hC.1 hC.2.1 dX1_rowsOfThirds_57 (by decide) (fun hc => ?_) (fun hc => ?_)
      · replace h := xf hc h
        refine lv_iconst (v := 0) hC.1 hC.2.1 dX1_rowsOfThirds_64 (by decide) ?_
        exact w_X1_rowsOfThirds_65 hC hr hag5 IH _ _ _ _ _ _ _ _ _ _ h hW hS (lv_sub hl [0, 1, 2, 3, 4, 5] rfl)
      · replace h := xt hc h
        refine lv_iconst (v := 1) hC.1 hC.2.1 dX1_rowsOfThirds_60 (by decide) ?_
        refine lv_goto (tgt := 65) hC.1 hC.2.1 dX1_rowsOfThirds_61 (by decide) ?_
        exact w_X1_rowsOfThirds_65 hC hr hag5 IH _ _ _ _ _ _ _ _ _ _ h hW hS (lv_sub hl [0, 1, 2, 3, 4, 5] rfl)
set_option maxHeartbeats 4000000 in
set_option maxRecDepth 100000 in
theorem w_X1_rowsOfThirds_5 {p : Program} {l : Launch} {e : Env} {s : State} {m : MethodId} {args : Array Value} {below : List Frame} {meth : Method} {c : Code} {D : va_G} {b : Nat} {cs : Cs3} {r : Int32} {S1 : St} (hC : CX p s m args meth c RX1 cX1_rowsOfThirds 7 D cs) (hr : meth.sig.returnType = (some .int)) : ∀ (n : Nat) (x1 : Int32) (x2 : Int32) (x3 : Int32) (x4 : Int32) (S : St) (H : Heap) (locs : List Loc) (ls : Array Slot), q_X1_rowsOfThirds_5 n x1 x2 x3 x4 S = some (r, S1) → Wd D b cs S H → va_S (AA b) s.heap H locs → lv_has ls 7 [(0, .ref (b + 90)), (1, .int x1), (2, .int x2), (3, .int x3), (4, .int x4)] → W p l e rX1_rowsOfThirds s m args below meth c H locs 0 0 (MQ below (QX D b cs (some (.int r)) S1) args s 0 0 (AA b)) (F0 m 5 ls []) := by
  intro n
  induction n with
  | zero =>
    intro x1 x2 x3 x4 S H locs ls h
    exact absurd h (by rw [q_X1_rowsOfThirds_5]; exact fun q => nomatch q)
  | succ n IH =>
    intro x1 x2 x3 x4 S H locs ls h hW hS hl
    rw [q_X1_rowsOfThirds_5] at h
    refine lv_iload hC.1 hC.2.1 dX1_rowsOfThirds_5 (lv_at hl 4 rfl) ?_
    refine lv_aload_n hC.1 hC.2.1 dX1_rowsOfThirds_7 rfl (lv_at hl 0 rfl) ?_
    refine x_get (C := RX1) (T := TX1) (N := 2) (v := _) hC hW 90 (by decide) rfl rfl uX1 0 (by decide) fl_X1_9 rfl rfl dX1_rowsOfThirds_8 ?_
    refine x_get (C := RX2) (T := TX2) (N := 12) (v := _) hC hW 3 (by decide) rfl rfl uX2 1 (by decide) fl_X1_61 rfl rfl dX1_rowsOfThirds_11 ?_
    refine lv_icmp_ge (tgt := 123) hC.1 hC.2.1 dX1_rowsOfThirds_14 (by decide) (fun hc => ?_) (fun hc => ?_)
    · replace h := xt hc h
      refine lv_iload_n hC.1 hC.2.1 dX1_rowsOfThirds_123 rfl (lv_at hl 3 rfl) ?_
      obtain ⟨rfl, rfl⟩ := xr h
      exact x_iret hC hr hW hS dX1_rowsOfThirds_124
    · replace h := xf hc h
      refine lv_iconst (v := 0) hC.1 hC.2.1 dX1_rowsOfThirds_17 (by decide) ?_
      refine lv_istore (lv' := [(5, .int (0 : Int32)), (0, .ref (b + 90)), (1, .int x1), (2, .int x2), (3, .int x3), (4, .int x4)]) hC.1 hC.2.1 dX1_rowsOfThirds_18 hl (by decide) rfl (fun ls hl => ?_)
      exact w_X1_rowsOfThirds_20 hC hr IH _ _ _ _ _ _ _ _ _ _ h hW hS (lv_sub hl [1, 2, 3, 4, 5, 0] rfl)
set_option maxHeartbeats 4000000 in
set_option maxRecDepth 100000 in
theorem c_X1_rowsOfThirds (l : Launch) (D : va_G) (b : Nat) (cs : Cs3) (x1 : Int32) (x2 : Int32) (S S1 : St) (r : Int32) (h : p_X1_rowsOfThirds x1 x2 S = some (r, S1)) : Ct l yX1_rowsOfThirds cX1_rowsOfThirds 7 (some .int) rX1_rowsOfThirds D b cs [.ref (b + 90), .int x1, .int x2] S (some (.int r)) S1 := by
  refine x_met (by decide +kernel) (Nat.le_of_ble_eq_true rfl) ?_
  intro p e s m below meth c ls hC hr hW hS hl
  have hl : lv_has ls 7 [(0, .ref (b + 90)), (1, .int x1), (2, .int x2)] := hl
  rw [p_X1_rowsOfThirds] at h
  refine lv_iconst (v := 0) hC.1 hC.2.1 dX1_rowsOfThirds_0 (by decide) ?_
  refine lv_istore_n (lv' := [(3, .int (0 : Int32)), (0, .ref (b + 90)), (1, .int x1), (2, .int x2)]) hC.1 hC.2.1 dX1_rowsOfThirds_1 rfl hl (by decide) rfl (fun ls hl => ?_)
  refine lv_iconst (v := 0) hC.1 hC.2.1 dX1_rowsOfThirds_2 (by decide) ?_
  refine lv_istore (lv' := [(4, .int (0 : Int32)), (3, .int (0 : Int32)), (0, .ref (b + 90)), (1, .int x1), (2, .int x2)]) hC.1 hC.2.1 dX1_rowsOfThirds_3 hl (by decide) rfl (fun ls hl => ?_)
  exact w_X1_rowsOfThirds_5 hC hr _ _ _ _ _ _ _ _ _ h hW hS (lv_sub hl [2, 3, 4, 1, 0] rfl)
theorem dX2_becomesEmpty_0 : decode cX2_becomesEmpty 0 = .ok (.aload_n 0, 1) := by decide +kernel
theorem dX2_becomesEmpty_1 : decode cX2_becomesEmpty 1 = .ok (.iconst 2, 1) := by decide +kernel
theorem dX2_becomesEmpty_2 : decode cX2_becomesEmpty 2 = .ok (.putfield 9, 3) := by decide +kernel
theorem dX2_becomesEmpty_5 : decode cX2_becomesEmpty 5 = .ok (.aload_n 0, 1) := by decide +kernel
theorem dX2_becomesEmpty_6 : decode cX2_becomesEmpty 6 = .ok (.iconst 0, 1) := by decide +kernel
theorem dX2_becomesEmpty_7 : decode cX2_becomesEmpty 7 = .ok (.putfield 15, 3) := by decide +kernel
theorem dX2_becomesEmpty_10 : decode cX2_becomesEmpty 10 = .ok (.aload_n 0, 1) := by decide +kernel
theorem dX2_becomesEmpty_11 : decode cX2_becomesEmpty 11 = .ok (.iconst 0, 1) := by decide +kernel
theorem dX2_becomesEmpty_12 : decode cX2_becomesEmpty 12 = .ok (.putfield 18, 3) := by decide +kernel
theorem dX2_becomesEmpty_15 : decode cX2_becomesEmpty 15 = .ok (.aload_n 0, 1) := by decide +kernel
theorem dX2_becomesEmpty_16 : decode cX2_becomesEmpty 16 = .ok (.iconst 5, 1) := by decide +kernel
theorem dX2_becomesEmpty_17 : decode cX2_becomesEmpty 17 = .ok (.putfield 21, 3) := by decide +kernel
theorem dX2_becomesEmpty_20 : decode cX2_becomesEmpty 20 = .ok (.return_, 1) := by decide +kernel
abbrev rX2_becomesEmpty : Room := { frames := 0, cells := 0, slots := 0, locals := 0 }
set_option maxHeartbeats 4000000 in
set_option maxRecDepth 100000 in
theorem c_X2_becomesEmpty (l : Launch) (D : va_G) (b : Nat) (cs : Cs3) (S S1 : St) (h : p_X2_becomesEmpty S = some S1) : Ct l yX2_becomesEmpty cX2_becomesEmpty 1 none rX2_becomesEmpty D b cs [.ref (b + 12)] S none S1 := by
  refine x_met (by decide +kernel) (Nat.le_of_ble_eq_true rfl) ?_
  intro p e s m below meth c ls hC hr hW hS hl
  have hl : lv_has ls 1 [(0, .ref (b + 12))] := hl
  rw [p_X2_becomesEmpty] at h
  refine lv_aload_n hC.1 hC.2.1 dX2_becomesEmpty_0 rfl (lv_at hl 0 rfl) ?_
  refine lv_iconst (v := 2) hC.1 hC.2.1 dX2_becomesEmpty_1 (by decide) ?_
  refine x_puti (C := RX2) (T := TX2) (N := 12) (ty := .int) hC hW hS 12 (by decide) rfl rfl uX2 tyX2 tyX2_ok nmX2 0 (by decide) fl_X2_9 rfl (by decide +kernel) rfl rfl rfl dX2_becomesEmpty_2 (fun H locs hW hS => ?_)
  refine lv_aload_n hC.1 hC.2.1 dX2_becomesEmpty_5 rfl (lv_at hl 0 rfl) ?_
  refine lv_iconst (v := 0) hC.1 hC.2.1 dX2_becomesEmpty_6 (by decide) ?_
  refine x_puti (C := RX2) (T := TX2) (N := 12) (ty := .int) hC hW hS 12 (by decide) rfl rfl uX2 tyX2 tyX2_ok nmX2 1 (by decide) fl_X2_15 rfl (by decide +kernel) rfl rfl rfl dX2_becomesEmpty_7 (fun H locs hW hS => ?_)
  refine lv_aload_n hC.1 hC.2.1 dX2_becomesEmpty_10 rfl (lv_at hl 0 rfl) ?_
  refine lv_iconst (v := 0) hC.1 hC.2.1 dX2_becomesEmpty_11 (by decide) ?_
  refine x_puti (C := RX2) (T := TX2) (N := 12) (ty := .int) hC hW hS 12 (by decide) rfl rfl uX2 tyX2 tyX2_ok nmX2 2 (by decide) fl_X2_18 rfl (by decide +kernel) rfl rfl rfl dX2_becomesEmpty_12 (fun H locs hW hS => ?_)
  refine lv_aload_n hC.1 hC.2.1 dX2_becomesEmpty_15 rfl (lv_at hl 0 rfl) ?_
  refine lv_iconst (v := 5) hC.1 hC.2.1 dX2_becomesEmpty_16 (by decide) ?_
  refine x_puti (C := RX2) (T := TX2) (N := 12) (ty := .int) hC hW hS 12 (by decide) rfl rfl uX2 tyX2 tyX2_ok nmX2 3 (by decide) fl_X2_21 rfl (by decide +kernel) rfl rfl rfl dX2_becomesEmpty_17 (fun H locs hW hS => ?_)
  obtain rfl := Option.some.inj h
  exact x_vret hC hr hW hS dX2_becomesEmpty_20
theorem dX2_becomes_0 : decode cX2_becomes 0 = .ok (.aload_n 0, 1) := by decide +kernel
theorem dX2_becomes_1 : decode cX2_becomes 1 = .ok (.aload_n 1, 1) := by decide +kernel
theorem dX2_becomes_2 : decode cX2_becomes 2 = .ok (.getfield 9, 3) := by decide +kernel
theorem dX2_becomes_5 : decode cX2_becomes 5 = .ok (.putfield 9, 3) := by decide +kernel
theorem dX2_becomes_8 : decode cX2_becomes 8 = .ok (.aload_n 0, 1) := by decide +kernel
theorem dX2_becomes_9 : decode cX2_becomes 9 = .ok (.aload_n 1, 1) := by decide +kernel
theorem dX2_becomes_10 : decode cX2_becomes 10 = .ok (.getfield 15, 3) := by decide +kernel
theorem dX2_becomes_13 : decode cX2_becomes 13 = .ok (.putfield 15, 3) := by decide +kernel
theorem dX2_becomes_16 : decode cX2_becomes 16 = .ok (.aload_n 0, 1) := by decide +kernel
theorem dX2_becomes_17 : decode cX2_becomes 17 = .ok (.aload_n 1, 1) := by decide +kernel
theorem dX2_becomes_18 : decode cX2_becomes 18 = .ok (.getfield 18, 3) := by decide +kernel
theorem dX2_becomes_21 : decode cX2_becomes 21 = .ok (.putfield 18, 3) := by decide +kernel
theorem dX2_becomes_24 : decode cX2_becomes 24 = .ok (.aload_n 0, 1) := by decide +kernel
theorem dX2_becomes_25 : decode cX2_becomes 25 = .ok (.aload_n 1, 1) := by decide +kernel
theorem dX2_becomes_26 : decode cX2_becomes 26 = .ok (.getfield 21, 3) := by decide +kernel
theorem dX2_becomes_29 : decode cX2_becomes 29 = .ok (.putfield 21, 3) := by decide +kernel
theorem dX2_becomes_32 : decode cX2_becomes 32 = .ok (.iconst 0, 1) := by decide +kernel
theorem dX2_becomes_33 : decode cX2_becomes 33 = .ok (.istore_n 2, 1) := by decide +kernel
theorem dX2_becomes_34 : decode cX2_becomes 34 = .ok (.iload_n 2, 1) := by decide +kernel
theorem dX2_becomes_35 : decode cX2_becomes 35 = .ok (.bipush 8, 2) := by decide +kernel
theorem dX2_becomes_37 : decode cX2_becomes 37 = .ok (.if_icmp .ge 45, 3) := by decide +kernel
theorem dX2_becomes_40 : decode cX2_becomes 40 = .ok (.aload_n 0, 1) := by decide +kernel
theorem dX2_becomes_41 : decode cX2_becomes 41 = .ok (.getfield 24, 3) := by decide +kernel
theorem dX2_becomes_44 : decode cX2_becomes 44 = .ok (.iload_n 2, 1) := by decide +kernel
theorem dX2_becomes_45 : decode cX2_becomes 45 = .ok (.aload_n 1, 1) := by decide +kernel
theorem dX2_becomes_46 : decode cX2_becomes 46 = .ok (.getfield 24, 3) := by decide +kernel
theorem dX2_becomes_49 : decode cX2_becomes 49 = .ok (.iload_n 2, 1) := by decide +kernel
theorem dX2_becomes_50 : decode cX2_becomes 50 = .ok (.iaload, 1) := by decide +kernel
theorem dX2_becomes_51 : decode cX2_becomes 51 = .ok (.iastore, 1) := by decide +kernel
theorem dX2_becomes_52 : decode cX2_becomes 52 = .ok (.aload_n 0, 1) := by decide +kernel
theorem dX2_becomes_53 : decode cX2_becomes 53 = .ok (.getfield 28, 3) := by decide +kernel
theorem dX2_becomes_56 : decode cX2_becomes 56 = .ok (.iload_n 2, 1) := by decide +kernel
theorem dX2_becomes_57 : decode cX2_becomes 57 = .ok (.aload_n 1, 1) := by decide +kernel
theorem dX2_becomes_58 : decode cX2_becomes 58 = .ok (.getfield 28, 3) := by decide +kernel
theorem dX2_becomes_61 : decode cX2_becomes 61 = .ok (.iload_n 2, 1) := by decide +kernel
theorem dX2_becomes_62 : decode cX2_becomes 62 = .ok (.iaload, 1) := by decide +kernel
theorem dX2_becomes_63 : decode cX2_becomes 63 = .ok (.iastore, 1) := by decide +kernel
theorem dX2_becomes_64 : decode cX2_becomes 64 = .ok (.aload_n 0, 1) := by decide +kernel
theorem dX2_becomes_65 : decode cX2_becomes 65 = .ok (.getfield 31, 3) := by decide +kernel
theorem dX2_becomes_68 : decode cX2_becomes 68 = .ok (.iload_n 2, 1) := by decide +kernel
theorem dX2_becomes_69 : decode cX2_becomes 69 = .ok (.aload_n 1, 1) := by decide +kernel
theorem dX2_becomes_70 : decode cX2_becomes 70 = .ok (.getfield 31, 3) := by decide +kernel
theorem dX2_becomes_73 : decode cX2_becomes 73 = .ok (.iload_n 2, 1) := by decide +kernel
theorem dX2_becomes_74 : decode cX2_becomes 74 = .ok (.iaload, 1) := by decide +kernel
theorem dX2_becomes_75 : decode cX2_becomes 75 = .ok (.iastore, 1) := by decide +kernel
theorem dX2_becomes_76 : decode cX2_becomes 76 = .ok (.iinc 2 1, 3) := by decide +kernel
theorem dX2_becomes_79 : decode cX2_becomes 79 = .ok (.goto (-45), 3) := by decide +kernel
theorem dX2_becomes_82 : decode cX2_becomes 82 = .ok (.iconst 0, 1) := by decide +kernel
theorem dX2_becomes_83 : decode cX2_becomes 83 = .ok (.istore_n 2, 1) := by decide +kernel
theorem dX2_becomes_84 : decode cX2_becomes 84 = .ok (.iload_n 2, 1) := by decide +kernel
theorem dX2_becomes_85 : decode cX2_becomes 85 = .ok (.iconst 5, 1) := by decide +kernel
theorem dX2_becomes_86 : decode cX2_becomes 86 = .ok (.if_icmp .ge 69, 3) := by decide +kernel
theorem dX2_becomes_89 : decode cX2_becomes 89 = .ok (.aload_n 0, 1) := by decide +kernel
theorem dX2_becomes_90 : decode cX2_becomes 90 = .ok (.getfield 34, 3) := by decide +kernel
theorem dX2_becomes_93 : decode cX2_becomes 93 = .ok (.iload_n 2, 1) := by decide +kernel
theorem dX2_becomes_94 : decode cX2_becomes 94 = .ok (.aload_n 1, 1) := by decide +kernel
theorem dX2_becomes_95 : decode cX2_becomes 95 = .ok (.getfield 34, 3) := by decide +kernel
theorem dX2_becomes_98 : decode cX2_becomes 98 = .ok (.iload_n 2, 1) := by decide +kernel
theorem dX2_becomes_99 : decode cX2_becomes 99 = .ok (.iaload, 1) := by decide +kernel
theorem dX2_becomes_100 : decode cX2_becomes 100 = .ok (.iastore, 1) := by decide +kernel
theorem dX2_becomes_101 : decode cX2_becomes 101 = .ok (.aload_n 0, 1) := by decide +kernel
theorem dX2_becomes_102 : decode cX2_becomes 102 = .ok (.getfield 37, 3) := by decide +kernel
theorem dX2_becomes_105 : decode cX2_becomes 105 = .ok (.iload_n 2, 1) := by decide +kernel
theorem dX2_becomes_106 : decode cX2_becomes 106 = .ok (.aload_n 1, 1) := by decide +kernel
theorem dX2_becomes_107 : decode cX2_becomes 107 = .ok (.getfield 37, 3) := by decide +kernel
theorem dX2_becomes_110 : decode cX2_becomes 110 = .ok (.iload_n 2, 1) := by decide +kernel
theorem dX2_becomes_111 : decode cX2_becomes 111 = .ok (.iaload, 1) := by decide +kernel
theorem dX2_becomes_112 : decode cX2_becomes 112 = .ok (.iastore, 1) := by decide +kernel
theorem dX2_becomes_113 : decode cX2_becomes 113 = .ok (.aload_n 0, 1) := by decide +kernel
theorem dX2_becomes_114 : decode cX2_becomes 114 = .ok (.getfield 40, 3) := by decide +kernel
theorem dX2_becomes_117 : decode cX2_becomes 117 = .ok (.iload_n 2, 1) := by decide +kernel
theorem dX2_becomes_118 : decode cX2_becomes 118 = .ok (.aload_n 1, 1) := by decide +kernel
theorem dX2_becomes_119 : decode cX2_becomes 119 = .ok (.getfield 40, 3) := by decide +kernel
theorem dX2_becomes_122 : decode cX2_becomes 122 = .ok (.iload_n 2, 1) := by decide +kernel
theorem dX2_becomes_123 : decode cX2_becomes 123 = .ok (.iaload, 1) := by decide +kernel
theorem dX2_becomes_124 : decode cX2_becomes 124 = .ok (.iastore, 1) := by decide +kernel
theorem dX2_becomes_125 : decode cX2_becomes 125 = .ok (.aload_n 0, 1) := by decide +kernel
theorem dX2_becomes_126 : decode cX2_becomes 126 = .ok (.getfield 43, 3) := by decide +kernel
theorem dX2_becomes_129 : decode cX2_becomes 129 = .ok (.iload_n 2, 1) := by decide +kernel
theorem dX2_becomes_130 : decode cX2_becomes 130 = .ok (.aload_n 1, 1) := by decide +kernel
theorem dX2_becomes_131 : decode cX2_becomes 131 = .ok (.getfield 43, 3) := by decide +kernel
theorem dX2_becomes_134 : decode cX2_becomes 134 = .ok (.iload_n 2, 1) := by decide +kernel
theorem dX2_becomes_135 : decode cX2_becomes 135 = .ok (.iaload, 1) := by decide +kernel
theorem dX2_becomes_136 : decode cX2_becomes 136 = .ok (.iastore, 1) := by decide +kernel
theorem dX2_becomes_137 : decode cX2_becomes 137 = .ok (.aload_n 0, 1) := by decide +kernel
theorem dX2_becomes_138 : decode cX2_becomes 138 = .ok (.getfield 46, 3) := by decide +kernel
theorem dX2_becomes_141 : decode cX2_becomes 141 = .ok (.iload_n 2, 1) := by decide +kernel
theorem dX2_becomes_142 : decode cX2_becomes 142 = .ok (.aload_n 1, 1) := by decide +kernel
theorem dX2_becomes_143 : decode cX2_becomes 143 = .ok (.getfield 46, 3) := by decide +kernel
theorem dX2_becomes_146 : decode cX2_becomes 146 = .ok (.iload_n 2, 1) := by decide +kernel
theorem dX2_becomes_147 : decode cX2_becomes 147 = .ok (.iaload, 1) := by decide +kernel
theorem dX2_becomes_148 : decode cX2_becomes 148 = .ok (.iastore, 1) := by decide +kernel
theorem dX2_becomes_149 : decode cX2_becomes 149 = .ok (.iinc 2 1, 3) := by decide +kernel
theorem dX2_becomes_152 : decode cX2_becomes 152 = .ok (.goto (-68), 3) := by decide +kernel
theorem dX2_becomes_155 : decode cX2_becomes 155 = .ok (.return_, 1) := by decide +kernel
abbrev rX2_becomes : Room := { frames := 0, cells := 0, slots := 0, locals := 0 }
set_option maxHeartbeats 4000000 in
set_option maxRecDepth 100000 in
theorem w_X2_becomes_84 {p : Program} {l : Launch} {e : Env} {s : State} {m : MethodId} {args : Array Value} {below : List Frame} {meth : Method} {c : Code} {D : va_G} {b : Nat} {cs : Cs3} {S1 : St} (hC : CX p s m args meth c RX2 cX2_becomes 3 D cs) (hr : meth.sig.returnType = none) : ∀ (n : Nat) (x2 : Int32) (S : St) (H : Heap) (locs : List Loc) (ls : Array Slot), q_X2_becomes_84 n x2 S = some S1 → Wd D b cs S H → va_S (AA b) s.heap H locs → lv_has ls 3 [(0, .ref (b + 3)), (1, .ref (b + 12)), (2, .int x2)] → W p l e rX2_becomes s m args below meth c H locs 0 0 (MQ below (QX D b cs none S1) args s 0 0 (AA b)) (F0 m 84 ls []) := by
  intro n
  induction n with
  | zero =>
    intro x2 S H locs ls h
    exact absurd h (by rw [q_X2_becomes_84]; exact fun q => nomatch q)
  | succ n IH =>
    intro x2 S H locs ls h hW hS hl
    rw [q_X2_becomes_84] at h
    refine lv_iload_n hC.1 hC.2.1 dX2_becomes_84 rfl (lv_at hl 2 rfl) ?_
    refine lv_iconst (v := 5) hC.1 hC.2.1 dX2_becomes_85 (by decide) ?_
    refine lv_icmp_ge (tgt := 155) hC.1 hC.2.1 dX2_becomes_86 (by decide) (fun hc => ?_) (fun hc => ?_)
    · replace h := xt hc h
      obtain rfl := Option.some.inj h
      exact x_vret hC hr hW hS dX2_becomes_155
    · replace h := xf hc h
      refine lv_aload_n hC.1 hC.2.1 dX2_becomes_89 rfl (lv_at hl 0 rfl) ?_
      refine x_get (C := RX2) (T := TX2) (N := 12) (v := _) hC hW 3 (by decide) rfl rfl uX2 7 (by decide) fl_X2_34 rfl rfl dX2_becomes_90 ?_
      refine lv_iload_n hC.1 hC.2.1 dX2_becomes_93 rfl (lv_at hl 2 rfl) ?_
      refine lv_aload_n hC.1 hC.2.1 dX2_becomes_94 rfl (lv_at hl 1 rfl) ?_
      refine x_get (C := RX2) (T := TX2) (N := 12) (v := _) hC hW 12 (by decide) rfl rfl uX2 7 (by decide) fl_X2_34 rfl rfl dX2_becomes_95 ?_
      refine lv_iload_n hC.1 hC.2.1 dX2_becomes_98 rfl (lv_at hl 2 rfl) ?_
      obtain ⟨hi, h⟩ := xg h
      refine x_iald hC hW 16 (by decide) rfl hi dX2_becomes_99 ?_
      obtain ⟨hi, h⟩ := xg h
      refine x_iast hC hW hS 7 (by decide) rfl hi dX2_becomes_100 (fun H locs hW hS => ?_)
      refine lv_aload_n hC.1 hC.2.1 dX2_becomes_101 rfl (lv_at hl 0 rfl) ?_
      refine x_get (C := RX2) (T := TX2) (N := 12) (v := _) hC hW 3 (by decide) rfl rfl uX2 8 (by decide) fl_X2_37 rfl rfl dX2_becomes_102 ?_
      refine lv_iload_n hC.1 hC.2.1 dX2_becomes_105 rfl (lv_at hl 2 rfl) ?_
      refine lv_aload_n hC.1 hC.2.1 dX2_becomes_106 rfl (lv_at hl 1 rfl) ?_
      refine x_get (C := RX2) (T := TX2) (N := 12) (v := _) hC hW 12 (by decide) rfl rfl uX2 8 (by decide) fl_X2_37 rfl rfl dX2_becomes_107 ?_
      refine lv_iload_n hC.1 hC.2.1 dX2_becomes_110 rfl (lv_at hl 2 rfl) ?_
      obtain ⟨hi, h⟩ := xg h
      refine x_iald hC hW 17 (by decide) rfl hi dX2_becomes_111 ?_
      obtain ⟨hi, h⟩ := xg h
      refine x_iast hC hW hS 8 (by decide) rfl hi dX2_becomes_112 (fun H locs hW hS => ?_)
      refine lv_aload_n hC.1 hC.2.1 dX2_becomes_113 rfl (lv_at hl 0 rfl) ?_
      refine x_get (C := RX2) (T := TX2) (N := 12) (v := _) hC hW 3 (by decide) rfl rfl uX2 9 (by decide) fl_X2_40 rfl rfl dX2_becomes_114 ?_
      refine lv_iload_n hC.1 hC.2.1 dX2_becomes_117 rfl (lv_at hl 2 rfl) ?_
      refine lv_aload_n hC.1 hC.2.1 dX2_becomes_118 rfl (lv_at hl 1 rfl) ?_
      refine x_get (C := RX2) (T := TX2) (N := 12) (v := _) hC hW 12 (by decide) rfl rfl uX2 9 (by decide) fl_X2_40 rfl rfl dX2_becomes_119 ?_
      refine lv_iload_n hC.1 hC.2.1 dX2_becomes_122 rfl (lv_at hl 2 rfl) ?_
      obtain ⟨hi, h⟩ := xg h
      refine x_iald hC hW 18 (by decide) rfl hi dX2_becomes_123 ?_
      obtain ⟨hi, h⟩ := xg h
      refine x_iast hC hW hS 9 (by decide) rfl hi dX2_becomes_124 (fun H locs hW hS => ?_)
      refine lv_aload_n hC.1 hC.2.1 dX2_becomes_125 rfl (lv_at hl 0 rfl) ?_
      refine x_get (C := RX2) (T := TX2) (N := 12) (v := _) hC hW 3 (by decide) rfl rfl uX2 10 (by decide) fl_X2_43 rfl rfl dX2_becomes_126 ?_
      refine lv_iload_n hC.1 hC.2.1 dX2_becomes_129 rfl (lv_at hl 2 rfl) ?_
      refine lv_aload_n hC.1 hC.2.1 dX2_becomes_130 rfl (lv_at hl 1 rfl) ?_
      refine x_get (C := RX2) (T := TX2) (N := 12) (v := _) hC hW 12 (by decide) rfl rfl uX2 10 (by decide) fl_X2_43 rfl rfl dX2_becomes_131 ?_
      refine lv_iload_n hC.1 hC.2.1 dX2_becomes_134 rfl (lv_at hl 2 rfl) ?_
      obtain ⟨hi, h⟩ := xg h
      refine x_iald hC hW 19 (by decide) rfl hi dX2_becomes_135 ?_
      obtain ⟨hi, h⟩ := xg h
      refine x_iast hC hW hS 10 (by decide) rfl hi dX2_becomes_136 (fun H locs hW hS => ?_)
      refine lv_aload_n hC.1 hC.2.1 dX2_becomes_137 rfl (lv_at hl 0 rfl) ?_
      refine x_get (C := RX2) (T := TX2) (N := 12) (v := _) hC hW 3 (by decide) rfl rfl uX2 11 (by decide) fl_X2_46 rfl rfl dX2_becomes_138 ?_
      refine lv_iload_n hC.1 hC.2.1 dX2_becomes_141 rfl (lv_at hl 2 rfl) ?_
      refine lv_aload_n hC.1 hC.2.1 dX2_becomes_142 rfl (lv_at hl 1 rfl) ?_
      refine x_get (C := RX2) (T := TX2) (N := 12) (v := _) hC hW 12 (by decide) rfl rfl uX2 11 (by decide) fl_X2_46 rfl rfl dX2_becomes_143 ?_
      refine lv_iload_n hC.1 hC.2.1 dX2_becomes_146 rfl (lv_at hl 2 rfl) ?_
      obtain ⟨hi, h⟩ := xg h
      refine x_iald hC hW 20 (by decide) rfl hi dX2_becomes_147 ?_
      obtain ⟨hi, h⟩ := xg h
      refine x_iast hC hW hS 11 (by decide) rfl hi dX2_becomes_148 (fun H locs hW hS => ?_)
      refine lv_iinc (v := x2 + 1) (lv' := [(2, .int (x2 + 1)), (0, .ref (b + 3)), (1, .ref (b + 12))]) hC.1 hC.2.1 dX2_becomes_149 hl (k := 2) rfl rfl (by decide) rfl (fun ls hl => ?_)
      refine lv_goto (tgt := 84) hC.1 hC.2.1 dX2_becomes_152 (by decide) ?_
      exact IH _ _ _ _ _ h hW hS (lv_sub hl [1, 2, 0] rfl)
set_option maxHeartbeats 4000000 in
set_option maxRecDepth 100000 in
theorem w_X2_becomes_34 {p : Program} {l : Launch} {e : Env} {s : State} {m : MethodId} {args : Array Value} {below : List Frame} {meth : Method} {c : Code} {D : va_G} {b : Nat} {cs : Cs3} {S1 : St} (hC : CX p s m args meth c RX2 cX2_becomes 3 D cs) (hr : meth.sig.returnType = none) : ∀ (n : Nat) (x2 : Int32) (S : St) (H : Heap) (locs : List Loc) (ls : Array Slot), q_X2_becomes_34 n x2 S = some S1 → Wd D b cs S H → va_S (AA b) s.heap H locs → lv_has ls 3 [(0, .ref (b + 3)), (1, .ref (b + 12)), (2, .int x2)] → W p l e rX2_becomes s m args below meth c H locs 0 0 (MQ below (QX D b cs none S1) args s 0 0 (AA b)) (F0 m 34 ls []) := by
  intro n
  induction n with
  | zero =>
    intro x2 S H locs ls h
    exact absurd h (by rw [q_X2_becomes_34]; exact fun q => nomatch q)
  | succ n IH =>
    intro x2 S H locs ls h hW hS hl
    rw [q_X2_becomes_34] at h
    refine lv_iload_n hC.1 hC.2.1 dX2_becomes_34 rfl (lv_at hl 2 rfl) ?_
    refine lv_bipush (v := 8) hC.1 hC.2.1 dX2_becomes_35 (by decide) ?_
    refine lv_icmp_ge (tgt := 82) hC.1 hC.2.1 dX2_becomes_37 (by decide) (fun hc => ?_) (fun hc => ?_)
    · replace h := xt hc h
      refine lv_iconst (v := 0) hC.1 hC.2.1 dX2_becomes_82 (by decide) ?_
      refine lv_istore_n (lv' := [(2, .int (0 : Int32)), (0, .ref (b + 3)), (1, .ref (b + 12))]) hC.1 hC.2.1 dX2_becomes_83 rfl hl (by decide) rfl (fun ls hl => ?_)
      exact w_X2_becomes_84 hC hr _ _ _ _ _ _ h hW hS (lv_sub hl [1, 2, 0] rfl)
    · replace h := xf hc h
      refine lv_aload_n hC.1 hC.2.1 dX2_becomes_40 rfl (lv_at hl 0 rfl) ?_
      refine x_get (C := RX2) (T := TX2) (N := 12) (v := _) hC hW 3 (by decide) rfl rfl uX2 4 (by decide) fl_X2_24 rfl rfl dX2_becomes_41 ?_
      refine lv_iload_n hC.1 hC.2.1 dX2_becomes_44 rfl (lv_at hl 2 rfl) ?_
      refine lv_aload_n hC.1 hC.2.1 dX2_becomes_45 rfl (lv_at hl 1 rfl) ?_
      refine x_get (C := RX2) (T := TX2) (N := 12) (v := _) hC hW 12 (by decide) rfl rfl uX2 4 (by decide) fl_X2_24 rfl rfl dX2_becomes_46 ?_
      refine lv_iload_n hC.1 hC.2.1 dX2_becomes_49 rfl (lv_at hl 2 rfl) ?_
      obtain ⟨hi, h⟩ := xg h
      refine x_iald hC hW 13 (by decide) rfl hi dX2_becomes_50 ?_
      obtain ⟨hi, h⟩ := xg h
      refine x_iast hC hW hS 4 (by decide) rfl hi dX2_becomes_51 (fun H locs hW hS => ?_)
      refine lv_aload_n hC.1 hC.2.1 dX2_becomes_52 rfl (lv_at hl 0 rfl) ?_
      refine x_get (C := RX2) (T := TX2) (N := 12) (v := _) hC hW 3 (by decide) rfl rfl uX2 5 (by decide) fl_X2_28 rfl rfl dX2_becomes_53 ?_
      refine lv_iload_n hC.1 hC.2.1 dX2_becomes_56 rfl (lv_at hl 2 rfl) ?_
      refine lv_aload_n hC.1 hC.2.1 dX2_becomes_57 rfl (lv_at hl 1 rfl) ?_
      refine x_get (C := RX2) (T := TX2) (N := 12) (v := _) hC hW 12 (by decide) rfl rfl uX2 5 (by decide) fl_X2_28 rfl rfl dX2_becomes_58 ?_
      refine lv_iload_n hC.1 hC.2.1 dX2_becomes_61 rfl (lv_at hl 2 rfl) ?_
      obtain ⟨hi, h⟩ := xg h
      refine x_iald hC hW 14 (by decide) rfl hi dX2_becomes_62 ?_
      obtain ⟨hi, h⟩ := xg h
      refine x_iast hC hW hS 5 (by decide) rfl hi dX2_becomes_63 (fun H locs hW hS => ?_)
      refine lv_aload_n hC.1 hC.2.1 dX2_becomes_64 rfl (lv_at hl 0 rfl) ?_
      refine x_get (C := RX2) (T := TX2) (N := 12) (v := _) hC hW 3 (by decide) rfl rfl uX2 6 (by decide) fl_X2_31 rfl rfl dX2_becomes_65 ?_
      refine lv_iload_n hC.1 hC.2.1 dX2_becomes_68 rfl (lv_at hl 2 rfl) ?_
      refine lv_aload_n hC.1 hC.2.1 dX2_becomes_69 rfl (lv_at hl 1 rfl) ?_
      refine x_get (C := RX2) (T := TX2) (N := 12) (v := _) hC hW 12 (by decide) rfl rfl uX2 6 (by decide) fl_X2_31 rfl rfl dX2_becomes_70 ?_
      refine lv_iload_n hC.1 hC.2.1 dX2_becomes_73 rfl (lv_at hl 2 rfl) ?_
      obtain ⟨hi, h⟩ := xg h
      refine x_iald hC hW 15 (by decide) rfl hi dX2_becomes_74 ?_
      obtain ⟨hi, h⟩ := xg h
      refine x_iast hC hW hS 6 (by decide) rfl hi dX2_becomes_75 (fun H locs hW hS => ?_)
      refine lv_iinc (v := x2 + 1) (lv' := [(2, .int (x2 + 1)), (0, .ref (b + 3)), (1, .ref (b + 12))]) hC.1 hC.2.1 dX2_becomes_76 hl (k := 2) rfl rfl (by decide) rfl (fun ls hl => ?_)
      refine lv_goto (tgt := 34) hC.1 hC.2.1 dX2_becomes_79 (by decide) ?_
      exact IH _ _ _ _ _ h hW hS (lv_sub hl [1, 2, 0] rfl)
set_option maxHeartbeats 4000000 in
set_option maxRecDepth 100000 in
theorem c_X2_becomes (l : Launch) (D : va_G) (b : Nat) (cs : Cs3) (S S1 : St) (h : p_X2_becomes S = some S1) : Ct l yX2_becomes cX2_becomes 3 none rX2_becomes D b cs [.ref (b + 3), .ref (b + 12)] S none S1 := by
  refine x_met (by decide +kernel) (Nat.le_of_ble_eq_true rfl) ?_
  intro p e s m below meth c ls hC hr hW hS hl
  have hl : lv_has ls 3 [(0, .ref (b + 3)), (1, .ref (b + 12))] := hl
  rw [p_X2_becomes] at h
  refine lv_aload_n hC.1 hC.2.1 dX2_becomes_0 rfl (lv_at hl 0 rfl) ?_
  refine lv_aload_n hC.1 hC.2.1 dX2_becomes_1 rfl (lv_at hl 1 rfl) ?_
  refine x_get (C := RX2) (T := TX2) (N := 12) (v := _) hC hW 12 (by decide) rfl rfl uX2 0 (by decide) fl_X2_9 rfl rfl dX2_becomes_2 ?_
  refine x_puti (C := RX2) (T := TX2) (N := 12) (ty := .int) hC hW hS 3 (by decide) rfl rfl uX2 tyX2 tyX2_ok nmX2 0 (by decide) fl_X2_9 rfl (by decide +kernel) rfl rfl rfl dX2_becomes_5 (fun H locs hW hS => ?_)
  refine lv_aload_n hC.1 hC.2.1 dX2_becomes_8 rfl (lv_at hl 0 rfl) ?_
  refine lv_aload_n hC.1 hC.2.1 dX2_becomes_9 rfl (lv_at hl 1 rfl) ?_
  refine x_get (C := RX2) (T := TX2) (N := 12) (v := _) hC hW 12 (by decide) rfl rfl uX2 1 (by decide) fl_X2_15 rfl rfl dX2_becomes_10 ?_
  refine x_puti (C := RX2) (T := TX2) (N := 12) (ty := .int) hC hW hS 3 (by decide) rfl rfl uX2 tyX2 tyX2_ok nmX2 1 (by decide) fl_X2_15 rfl (by decide +kernel) rfl rfl rfl dX2_becomes_13 (fun H locs hW hS => ?_)
  refine lv_aload_n hC.1 hC.2.1 dX2_becomes_16 rfl (lv_at hl 0 rfl) ?_
  refine lv_aload_n hC.1 hC.2.1 dX2_becomes_17 rfl (lv_at hl 1 rfl) ?_
  refine x_get (C := RX2) (T := TX2) (N := 12) (v := _) hC hW 12 (by decide) rfl rfl uX2 2 (by decide) fl_X2_18 rfl rfl dX2_becomes_18 ?_
  refine x_puti (C := RX2) (T := TX2) (N := 12) (ty := .int) hC hW hS 3 (by decide) rfl rfl uX2 tyX2 tyX2_ok nmX2 2 (by decide) fl_X2_18 rfl (by decide +kernel) rfl rfl rfl dX2_becomes_21 (fun H locs hW hS => ?_)
  refine lv_aload_n hC.1 hC.2.1 dX2_becomes_24 rfl (lv_at hl 0 rfl) ?_
  refine lv_aload_n hC.1 hC.2.1 dX2_becomes_25 rfl (lv_at hl 1 rfl) ?_
  refine x_get (C := RX2) (T := TX2) (N := 12) (v := _) hC hW 12 (by decide) rfl rfl uX2 3 (by decide) fl_X2_21 rfl rfl dX2_becomes_26 ?_
  refine x_puti (C := RX2) (T := TX2) (N := 12) (ty := .int) hC hW hS 3 (by decide) rfl rfl uX2 tyX2 tyX2_ok nmX2 3 (by decide) fl_X2_21 rfl (by decide +kernel) rfl rfl rfl dX2_becomes_29 (fun H locs hW hS => ?_)
  refine lv_iconst (v := 0) hC.1 hC.2.1 dX2_becomes_32 (by decide) ?_
  refine lv_istore_n (lv' := [(2, .int (0 : Int32)), (0, .ref (b + 3)), (1, .ref (b + 12))]) hC.1 hC.2.1 dX2_becomes_33 rfl hl (by decide) rfl (fun ls hl => ?_)
  exact w_X2_becomes_34 hC hr _ _ _ _ _ _ h hW hS (lv_sub hl [1, 2, 0] rfl)
theorem dX3_add_0 : decode cX3_add 0 = .ok (.aload_n 0, 1) := by decide +kernel
theorem dX3_add_1 : decode cX3_add 1 = .ok (.getfield 18, 3) := by decide +kernel
theorem dX3_add_4 : decode cX3_add 4 = .ok (.bipush 6, 2) := by decide +kernel
theorem dX3_add_6 : decode cX3_add 6 = .ok (.if_icmp .ge 33, 3) := by decide +kernel
theorem dX3_add_9 : decode cX3_add 9 = .ok (.aload_n 0, 1) := by decide +kernel
theorem dX3_add_10 : decode cX3_add 10 = .ok (.getfield 9, 3) := by decide +kernel
theorem dX3_add_13 : decode cX3_add 13 = .ok (.aload_n 0, 1) := by decide +kernel
theorem dX3_add_14 : decode cX3_add 14 = .ok (.getfield 18, 3) := by decide +kernel
theorem dX3_add_17 : decode cX3_add 17 = .ok (.iload_n 1, 1) := by decide +kernel
theorem dX3_add_18 : decode cX3_add 18 = .ok (.iastore, 1) := by decide +kernel
theorem dX3_add_19 : decode cX3_add 19 = .ok (.aload_n 0, 1) := by decide +kernel
theorem dX3_add_20 : decode cX3_add 20 = .ok (.getfield 15, 3) := by decide +kernel
theorem dX3_add_23 : decode cX3_add 23 = .ok (.aload_n 0, 1) := by decide +kernel
theorem dX3_add_24 : decode cX3_add 24 = .ok (.getfield 18, 3) := by decide +kernel
theorem dX3_add_27 : decode cX3_add 27 = .ok (.iload_n 2, 1) := by decide +kernel
theorem dX3_add_28 : decode cX3_add 28 = .ok (.iastore, 1) := by decide +kernel
theorem dX3_add_29 : decode cX3_add 29 = .ok (.aload_n 0, 1) := by decide +kernel
theorem dX3_add_30 : decode cX3_add 30 = .ok (.dup, 1) := by decide +kernel
theorem dX3_add_31 : decode cX3_add 31 = .ok (.getfield 18, 3) := by decide +kernel
theorem dX3_add_34 : decode cX3_add 34 = .ok (.iconst 1, 1) := by decide +kernel
theorem dX3_add_35 : decode cX3_add 35 = .ok (.iadd, 1) := by decide +kernel
theorem dX3_add_36 : decode cX3_add 36 = .ok (.putfield 18, 3) := by decide +kernel
theorem dX3_add_39 : decode cX3_add 39 = .ok (.return_, 1) := by decide +kernel
abbrev rX3_add : Room := { frames := 0, cells := 0, slots := 0, locals := 0 }
set_option maxHeartbeats 4000000 in
set_option maxRecDepth 100000 in
theorem c_X3_add (l : Launch) (D : va_G) (b : Nat) (cs : Cs3) (x1 : Int32) (x2 : Int32) (S S1 : St) (h : p_X3_add x1 x2 S = some S1) : Ct l yX3_add cX3_add 3 none rX3_add D b cs [.ref (b + 95), .int x1, .int x2] S none S1 := by
  refine x_met (by decide +kernel) (Nat.le_of_ble_eq_true rfl) ?_
  intro p e s m below meth c ls hC hr hW hS hl
  have hl : lv_has ls 3 [(0, .ref (b + 95)), (1, .int x1), (2, .int x2)] := hl
  rw [p_X3_add] at h
  refine lv_aload_n hC.1 hC.2.1 dX3_add_0 rfl (lv_at hl 0 rfl) ?_
  refine x_get (C := RX3) (T := TX3) (N := 4) (v := _) hC hW 95 (by decide) rfl rfl uX3 3 (by decide) fl_X3_18 rfl rfl dX3_add_1 ?_
  refine lv_bipush (v := 6) hC.1 hC.2.1 dX3_add_4 (by decide) ?_
  refine lv_icmp_ge (tgt := 39) hC.1 hC.2.1 dX3_add_6 (by decide) (fun hc => ?_) (fun hc => ?_)
  · replace h := xt hc h
    obtain rfl := Option.some.inj h
    exact x_vret hC hr hW hS dX3_add_39
  · replace h := xf hc h
    refine lv_aload_n hC.1 hC.2.1 dX3_add_9 rfl (lv_at hl 0 rfl) ?_
    refine x_get (C := RX3) (T := TX3) (N := 4) (v := _) hC hW 95 (by decide) rfl rfl uX3 1 (by decide) fl_X3_9 rfl rfl dX3_add_10 ?_
    refine lv_aload_n hC.1 hC.2.1 dX3_add_13 rfl (lv_at hl 0 rfl) ?_
    refine x_get (C := RX3) (T := TX3) (N := 4) (v := _) hC hW 95 (by decide) rfl rfl uX3 3 (by decide) fl_X3_18 rfl rfl dX3_add_14 ?_
    refine lv_iload_n hC.1 hC.2.1 dX3_add_17 rfl (lv_at hl 1 rfl) ?_
    obtain ⟨hi, h⟩ := xg h
    refine x_iast hC hW hS 96 (by decide) rfl hi dX3_add_18 (fun H locs hW hS => ?_)
    refine lv_aload_n hC.1 hC.2.1 dX3_add_19 rfl (lv_at hl 0 rfl) ?_
    refine x_get (C := RX3) (T := TX3) (N := 4) (v := _) hC hW 95 (by decide) rfl rfl uX3 2 (by decide) fl_X3_15 rfl rfl dX3_add_20 ?_
    refine lv_aload_n hC.1 hC.2.1 dX3_add_23 rfl (lv_at hl 0 rfl) ?_
    refine x_get (C := RX3) (T := TX3) (N := 4) (v := _) hC hW 95 (by decide) rfl rfl uX3 3 (by decide) fl_X3_18 rfl rfl dX3_add_24 ?_
    refine lv_iload_n hC.1 hC.2.1 dX3_add_27 rfl (lv_at hl 2 rfl) ?_
    obtain ⟨hi, h⟩ := xg h
    refine x_iast hC hW hS 97 (by decide) rfl hi dX3_add_28 (fun H locs hW hS => ?_)
    refine lv_aload_n hC.1 hC.2.1 dX3_add_29 rfl (lv_at hl 0 rfl) ?_
    refine lv_dup hC.1 hC.2.1 dX3_add_30 rfl ?_
    refine x_get (C := RX3) (T := TX3) (N := 4) (v := _) hC hW 95 (by decide) rfl rfl uX3 3 (by decide) fl_X3_18 rfl rfl dX3_add_31 ?_
    refine lv_iconst (v := 1) hC.1 hC.2.1 dX3_add_34 (by decide) ?_
    refine lv_iadd hC.1 hC.2.1 dX3_add_35 ?_
    refine x_puti (C := RX3) (T := TX3) (N := 4) (ty := .int) hC hW hS 95 (by decide) rfl rfl uX3 tyX3 tyX3_ok nmX3 3 (by decide) fl_X3_18 rfl (by decide +kernel) rfl rfl rfl dX3_add_36 (fun H locs hW hS => ?_)
    obtain rfl := Option.some.inj h
    exact x_vret hC hr hW hS dX3_add_39
theorem dX3_suspects_0 : decode cX3_suspects 0 = .ok (.iconst 1, 1) := by decide +kernel
theorem dX3_suspects_1 : decode cX3_suspects 1 = .ok (.aload_n 0, 1) := by decide +kernel
theorem dX3_suspects_2 : decode cX3_suspects 2 = .ok (.getfield 22, 3) := by decide +kernel
theorem dX3_suspects_5 : decode cX3_suspects 5 = .ok (.getfield 26, 3) := by decide +kernel
theorem dX3_suspects_8 : decode cX3_suspects 8 = .ok (.getfield 32, 3) := by decide +kernel
theorem dX3_suspects_11 : decode cX3_suspects 11 = .ok (.ishl, 1) := by decide +kernel
theorem dX3_suspects_12 : decode cX3_suspects 12 = .ok (.iconst 1, 1) := by decide +kernel
theorem dX3_suspects_13 : decode cX3_suspects 13 = .ok (.isub, 1) := by decide +kernel
theorem dX3_suspects_14 : decode cX3_suspects 14 = .ok (.istore_n 1, 1) := by decide +kernel
theorem dX3_suspects_15 : decode cX3_suspects 15 = .ok (.iconst 0, 1) := by decide +kernel
theorem dX3_suspects_16 : decode cX3_suspects 16 = .ok (.istore_n 2, 1) := by decide +kernel
theorem dX3_suspects_17 : decode cX3_suspects 17 = .ok (.iload_n 2, 1) := by decide +kernel
theorem dX3_suspects_18 : decode cX3_suspects 18 = .ok (.aload_n 0, 1) := by decide +kernel
theorem dX3_suspects_19 : decode cX3_suspects 19 = .ok (.getfield 18, 3) := by decide +kernel
theorem dX3_suspects_22 : decode cX3_suspects 22 = .ok (.if_icmp .ge 43, 3) := by decide +kernel
theorem dX3_suspects_25 : decode cX3_suspects 25 = .ok (.aload_n 0, 1) := by decide +kernel
theorem dX3_suspects_26 : decode cX3_suspects 26 = .ok (.getfield 22, 3) := by decide +kernel
theorem dX3_suspects_29 : decode cX3_suspects 29 = .ok (.aload_n 0, 1) := by decide +kernel
theorem dX3_suspects_30 : decode cX3_suspects 30 = .ok (.getfield 9, 3) := by decide +kernel
theorem dX3_suspects_33 : decode cX3_suspects 33 = .ok (.iload_n 2, 1) := by decide +kernel
theorem dX3_suspects_34 : decode cX3_suspects 34 = .ok (.iaload, 1) := by decide +kernel
theorem dX3_suspects_35 : decode cX3_suspects 35 = .ok (.invokevirtual 37, 3) := by decide +kernel
theorem dX3_suspects_38 : decode cX3_suspects 38 = .ok (.istore_n 3, 1) := by decide +kernel
theorem dX3_suspects_39 : decode cX3_suspects 39 = .ok (.iload_n 1, 1) := by decide +kernel
theorem dX3_suspects_40 : decode cX3_suspects 40 = .ok (.aload_n 0, 1) := by decide +kernel
theorem dX3_suspects_41 : decode cX3_suspects 41 = .ok (.getfield 15, 3) := by decide +kernel
theorem dX3_suspects_44 : decode cX3_suspects 44 = .ok (.iload_n 2, 1) := by decide +kernel
theorem dX3_suspects_45 : decode cX3_suspects 45 = .ok (.iaload, 1) := by decide +kernel
theorem dX3_suspects_46 : decode cX3_suspects 46 = .ok (.iconst 1, 1) := by decide +kernel
theorem dX3_suspects_47 : decode cX3_suspects 47 = .ok (.if_icmp .ne 7, 3) := by decide +kernel
theorem dX3_suspects_50 : decode cX3_suspects 50 = .ok (.iload_n 3, 1) := by decide +kernel
theorem dX3_suspects_51 : decode cX3_suspects 51 = .ok (.goto 6, 3) := by decide +kernel
theorem dX3_suspects_54 : decode cX3_suspects 54 = .ok (.iload_n 3, 1) := by decide +kernel
theorem dX3_suspects_55 : decode cX3_suspects 55 = .ok (.iconst (-1), 1) := by decide +kernel
theorem dX3_suspects_56 : decode cX3_suspects 56 = .ok (.ixor, 1) := by decide +kernel
theorem dX3_suspects_57 : decode cX3_suspects 57 = .ok (.iand, 1) := by decide +kernel
theorem dX3_suspects_58 : decode cX3_suspects 58 = .ok (.istore_n 1, 1) := by decide +kernel
theorem dX3_suspects_59 : decode cX3_suspects 59 = .ok (.iinc 2 1, 3) := by decide +kernel
theorem dX3_suspects_62 : decode cX3_suspects 62 = .ok (.goto (-45), 3) := by decide +kernel
theorem dX3_suspects_65 : decode cX3_suspects 65 = .ok (.iload_n 1, 1) := by decide +kernel
theorem dX3_suspects_66 : decode cX3_suspects 66 = .ok (.ireturn, 1) := by decide +kernel
abbrev rX3_suspects : Room := { frames := 5, cells := 0, slots := 0, locals := 112 }
set_option maxHeartbeats 4000000 in
set_option maxRecDepth 100000 in
theorem w_X3_suspects_17 {p : Program} {l : Launch} {e : Env} {s : State} {m : MethodId} {args : Array Value} {below : List Frame} {meth : Method} {c : Code} {D : va_G} {b : Nat} {cs : Cs3} {r : Int32} {S1 : St} (hC : CX p s m args meth c RX3 cX3_suspects 4 D cs) (hr : meth.sig.returnType = (some .int)) : ∀ (n : Nat) (x1 : Int32) (x2 : Int32) (S : St) (H : Heap) (locs : List Loc) (ls : Array Slot), q_X3_suspects_17 n x1 x2 S = some (r, S1) → Wd D b cs S H → va_S (AA b) s.heap H locs → lv_has ls 4 [(0, .ref (b + 95)), (1, .int x1), (2, .int x2)] → W p l e rX3_suspects s m args below meth c H locs 0 0 (MQ below (QX D b cs (some (.int r)) S1) args s 0 0 (AA b)) (F0 m 17 ls []) := by
  intro n
  induction n with
  | zero =>
    intro x1 x2 S H locs ls h
    exact absurd h (by rw [q_X3_suspects_17]; exact fun q => nomatch q)
  | succ n IH =>
    intro x1 x2 S H locs ls h hW hS hl
    rw [q_X3_suspects_17] at h
    refine lv_iload_n hC.1 hC.2.1 dX3_suspects_17 rfl (lv_at hl 2 rfl) ?_
    refine lv_aload_n hC.1 hC.2.1 dX3_suspects_18 rfl (lv_at hl 0 rfl) ?_
    refine x_get (C := RX3) (T := TX3) (N := 4) (v := _) hC hW 95 (by decide) rfl rfl uX3 3 (by decide) fl_X3_18 rfl rfl dX3_suspects_19 ?_
    refine lv_icmp_ge (tgt := 65) hC.1 hC.2.1 dX3_suspects_22 (by decide) (fun hc => ?_) (fun hc => ?_)
    · replace h := xt hc h
      refine lv_iload_n hC.1 hC.2.1 dX3_suspects_65 rfl (lv_at hl 1 rfl) ?_
      obtain ⟨rfl, rfl⟩ := xr h
      exact x_iret hC hr hW hS dX3_suspects_66
    · replace h := xf hc h
      refine lv_aload_n hC.1 hC.2.1 dX3_suspects_25 rfl (lv_at hl 0 rfl) ?_
      refine x_get (C := RX3) (T := TX3) (N := 4) (v := _) hC hW 95 (by decide) rfl rfl uX3 0 (by decide) fl_X3_22 rfl rfl dX3_suspects_26 ?_
      refine lv_aload_n hC.1 hC.2.1 dX3_suspects_29 rfl (lv_at hl 0 rfl) ?_
      refine x_get (C := RX3) (T := TX3) (N := 4) (v := _) hC hW 95 (by decide) rfl rfl uX3 1 (by decide) fl_X3_9 rfl rfl dX3_suspects_30 ?_
      refine lv_iload_n hC.1 hC.2.1 dX3_suspects_33 rfl (lv_at hl 2 rfl) ?_
      obtain ⟨hi, h⟩ := xg h
      refine x_iald hC hW 96 (by decide) rfl hi dX3_suspects_34 ?_
      obtain ⟨⟨q35_r, q35_S⟩, hq, h⟩ := xb h
      try dsimp only at h
      refine x_callV (T := TX1) (N := 2) (As := [.int (S.1 96 x2.toNatClampNeg)]) (rest := []) hC hW hS 90 (c_X1_openers l D b cs _ _ _ _ hq) (by decide) rfl rfl mi_X1_openers in_X1_openers sl_X1_openers ml_X3_37 ⟨rfl, rfl⟩ ⟨Nat.le_of_ble_eq_true rfl, Nat.le_of_ble_eq_true rfl⟩ ⟨Nat.zero_le _, Nat.zero_le _⟩ rfl rfl hl.1 (Nat.le_of_ble_eq_true rfl) dX3_suspects_35 (fun H locs hW hS => ?_)
      refine lv_istore_n (lv' := [(3, .int q35_r), (0, .ref (b + 95)), (1, .int x1), (2, .int x2)]) hC.1 hC.2.1 dX3_suspects_38 rfl hl (by decide) rfl (fun ls hl => ?_)
      refine lv_iload_n hC.1 hC.2.1 dX3_suspects_39 rfl (lv_at hl 2 rfl) ?_
      refine lv_aload_n hC.1 hC.2.1 dX3_suspects_40 rfl (lv_at hl 1 rfl) ?_
      refine x_get (C := RX3) (T := TX3) (N := 4) (v := _) hC hW 95 (by decide) rfl rfl uX3 2 (by decide) fl_X3_15 rfl rfl dX3_suspects_41 ?_
      refine lv_iload_n hC.1 hC.2.1 dX3_suspects_44 rfl (lv_at hl 3 rfl) ?_
      obtain ⟨hi, h⟩ := xg h
      refine x_iald hC hW 97 (by decide) rfl hi dX3_suspects_45 ?_
      refine lv_iconst (v := 1) hC.1 hC.2.1 dX3_suspects_46 (by decide) ?_
      refine lv_icmp_ne (tgt := 54) hC.1 hC.2.1 dX3_suspects_47 (by decide) (fun hc => ?_) (fun hc => ?_)
      · replace h := xf hc h
        refine lv_iload_n hC.1 hC.2.1 dX3_suspects_54 rfl (lv_at hl 0 rfl) ?_
        refine lv_iconst (v := -1) hC.1 hC.2.1 dX3_suspects_55 (by decide) ?_
        refine lv_ixor hC.1 hC.2.1 dX3_suspects_56 ?_
        refine lv_iand hC.1 hC.2.1 dX3_suspects_57 ?_
        refine lv_istore_n (lv' := [(1, .int (x1 &&& (q35_r ^^^ (-1 : Int32)))), (3, .int q35_r), (0, .ref (b + 95)), (2, .int x2)]) hC.1 hC.2.1 dX3_suspects_58 rfl hl (by decide) rfl (fun ls hl => ?_)
        refine lv_iinc (v := x2 + 1) (lv' := [(2, .int (x2 + 1)), (1, .int (x1 &&& (q35_r ^^^ (-1 : Int32)))), (3, .int q35_r), (0, .ref (b + 95))]) hC.1 hC.2.1 dX3_suspects_59 hl (k := 3) rfl rfl (by decide) rfl (fun ls hl => ?_)
        refine lv_goto (tgt := 17) hC.1 hC.2.1 dX3_suspects_62 (by decide) ?_
        exact IH _ _ _ _ _ _ h hW hS (lv_sub hl [3, 1, 0] rfl)
      · replace h := xt hc h
        refine lv_iload_n hC.1 hC.2.1 dX3_suspects_50 rfl (lv_at hl 0 rfl) ?_
        refine lv_goto (tgt := 57) hC.1 hC.2.1 dX3_suspects_51 (by decide) ?_
        refine lv_iand hC.1 hC.2.1 dX3_suspects_57 ?_
        refine lv_istore_n (lv' := [(1, .int (x1 &&& q35_r)), (3, .int q35_r), (0, .ref (b + 95)), (2, .int x2)]) hC.1 hC.2.1 dX3_suspects_58 rfl hl (by decide) rfl (fun ls hl => ?_)
        refine lv_iinc (v := x2 + 1) (lv' := [(2, .int (x2 + 1)), (1, .int (x1 &&& q35_r)), (3, .int q35_r), (0, .ref (b + 95))]) hC.1 hC.2.1 dX3_suspects_59 hl (k := 3) rfl rfl (by decide) rfl (fun ls hl => ?_)
        refine lv_goto (tgt := 17) hC.1 hC.2.1 dX3_suspects_62 (by decide) ?_
        exact IH _ _ _ _ _ _ h hW hS (lv_sub hl [3, 1, 0] rfl)
set_option maxHeartbeats 4000000 in
set_option maxRecDepth 100000 in
theorem c_X3_suspects (l : Launch) (D : va_G) (b : Nat) (cs : Cs3) (S S1 : St) (r : Int32) (h : p_X3_suspects S = some (r, S1)) : Ct l yX3_suspects cX3_suspects 4 (some .int) rX3_suspects D b cs [.ref (b + 95)] S (some (.int r)) S1 := by
  refine x_met (by decide +kernel) (Nat.le_of_ble_eq_true rfl) ?_
  intro p e s m below meth c ls hC hr hW hS hl
  have hl : lv_has ls 4 [(0, .ref (b + 95))] := hl
  rw [p_X3_suspects] at h
  refine lv_iconst (v := 1) hC.1 hC.2.1 dX3_suspects_0 (by decide) ?_
  refine lv_aload_n hC.1 hC.2.1 dX3_suspects_1 rfl (lv_at hl 0 rfl) ?_
  refine x_get (C := RX3) (T := TX3) (N := 4) (v := _) hC hW 95 (by decide) rfl rfl uX3 0 (by decide) fl_X3_22 rfl rfl dX3_suspects_2 ?_
  refine x_get (C := RX1) (T := TX1) (N := 2) (v := _) hC hW 90 (by decide) rfl rfl uX1 0 (by decide) fl_X3_26 rfl rfl dX3_suspects_5 ?_
  refine x_get (C := RX2) (T := TX2) (N := 12) (v := _) hC hW 3 (by decide) rfl rfl uX2 2 (by decide) fl_X3_32 rfl rfl dX3_suspects_8 ?_
  refine lv_ishl hC.1 hC.2.1 dX3_suspects_11 ?_
  refine lv_iconst (v := 1) hC.1 hC.2.1 dX3_suspects_12 (by decide) ?_
  refine lv_isub hC.1 hC.2.1 dX3_suspects_13 ?_
  refine lv_istore_n (lv' := [(1, .int (((1 : Int32) <<< ((S.1 3 2) &&& 31)) - (1 : Int32))), (0, .ref (b + 95))]) hC.1 hC.2.1 dX3_suspects_14 rfl hl (by decide) rfl (fun ls hl => ?_)
  refine lv_iconst (v := 0) hC.1 hC.2.1 dX3_suspects_15 (by decide) ?_
  refine lv_istore_n (lv' := [(2, .int (0 : Int32)), (1, .int (((1 : Int32) <<< ((S.1 3 2) &&& 31)) - (1 : Int32))), (0, .ref (b + 95))]) hC.1 hC.2.1 dX3_suspects_16 rfl hl (by decide) rfl (fun ls hl => ?_)
  exact w_X3_suspects_17 hC hr _ _ _ _ _ _ _ h hW hS (lv_sub hl [2, 1, 0] rfl)
theorem dJ6_bitCount_0f7a4_0 : decode cJ6_bitCount_0f7a4 0 = .ok (.iload_n 0, 1) := by decide +kernel
theorem dJ6_bitCount_0f7a4_1 : decode cJ6_bitCount_0f7a4 1 = .ok (.iload_n 0, 1) := by decide +kernel
theorem dJ6_bitCount_0f7a4_2 : decode cJ6_bitCount_0f7a4 2 = .ok (.iconst 1, 1) := by decide +kernel
theorem dJ6_bitCount_0f7a4_3 : decode cJ6_bitCount_0f7a4 3 = .ok (.iushr, 1) := by decide +kernel
theorem dJ6_bitCount_0f7a4_4 : decode cJ6_bitCount_0f7a4 4 = .ok (.ldc_w 265, 3) := by decide +kernel
theorem dJ6_bitCount_0f7a4_7 : decode cJ6_bitCount_0f7a4 7 = .ok (.iand, 1) := by decide +kernel
theorem dJ6_bitCount_0f7a4_8 : decode cJ6_bitCount_0f7a4 8 = .ok (.isub, 1) := by decide +kernel
theorem dJ6_bitCount_0f7a4_9 : decode cJ6_bitCount_0f7a4 9 = .ok (.istore_n 0, 1) := by decide +kernel
theorem dJ6_bitCount_0f7a4_10 : decode cJ6_bitCount_0f7a4 10 = .ok (.iload_n 0, 1) := by decide +kernel
theorem dJ6_bitCount_0f7a4_11 : decode cJ6_bitCount_0f7a4 11 = .ok (.ldc_w 266, 3) := by decide +kernel
theorem dJ6_bitCount_0f7a4_14 : decode cJ6_bitCount_0f7a4 14 = .ok (.iand, 1) := by decide +kernel
theorem dJ6_bitCount_0f7a4_15 : decode cJ6_bitCount_0f7a4 15 = .ok (.iload_n 0, 1) := by decide +kernel
theorem dJ6_bitCount_0f7a4_16 : decode cJ6_bitCount_0f7a4 16 = .ok (.iconst 2, 1) := by decide +kernel
theorem dJ6_bitCount_0f7a4_17 : decode cJ6_bitCount_0f7a4 17 = .ok (.iushr, 1) := by decide +kernel
theorem dJ6_bitCount_0f7a4_18 : decode cJ6_bitCount_0f7a4 18 = .ok (.ldc_w 266, 3) := by decide +kernel
theorem dJ6_bitCount_0f7a4_21 : decode cJ6_bitCount_0f7a4 21 = .ok (.iand, 1) := by decide +kernel
theorem dJ6_bitCount_0f7a4_22 : decode cJ6_bitCount_0f7a4 22 = .ok (.iadd, 1) := by decide +kernel
theorem dJ6_bitCount_0f7a4_23 : decode cJ6_bitCount_0f7a4 23 = .ok (.istore_n 0, 1) := by decide +kernel
theorem dJ6_bitCount_0f7a4_24 : decode cJ6_bitCount_0f7a4 24 = .ok (.iload_n 0, 1) := by decide +kernel
theorem dJ6_bitCount_0f7a4_25 : decode cJ6_bitCount_0f7a4 25 = .ok (.iload_n 0, 1) := by decide +kernel
theorem dJ6_bitCount_0f7a4_26 : decode cJ6_bitCount_0f7a4 26 = .ok (.iconst 4, 1) := by decide +kernel
theorem dJ6_bitCount_0f7a4_27 : decode cJ6_bitCount_0f7a4 27 = .ok (.iushr, 1) := by decide +kernel
theorem dJ6_bitCount_0f7a4_28 : decode cJ6_bitCount_0f7a4 28 = .ok (.iadd, 1) := by decide +kernel
theorem dJ6_bitCount_0f7a4_29 : decode cJ6_bitCount_0f7a4 29 = .ok (.ldc_w 267, 3) := by decide +kernel
theorem dJ6_bitCount_0f7a4_32 : decode cJ6_bitCount_0f7a4 32 = .ok (.iand, 1) := by decide +kernel
theorem dJ6_bitCount_0f7a4_33 : decode cJ6_bitCount_0f7a4 33 = .ok (.istore_n 0, 1) := by decide +kernel
theorem dJ6_bitCount_0f7a4_34 : decode cJ6_bitCount_0f7a4 34 = .ok (.iload_n 0, 1) := by decide +kernel
theorem dJ6_bitCount_0f7a4_35 : decode cJ6_bitCount_0f7a4 35 = .ok (.iload_n 0, 1) := by decide +kernel
theorem dJ6_bitCount_0f7a4_36 : decode cJ6_bitCount_0f7a4 36 = .ok (.bipush 8, 2) := by decide +kernel
theorem dJ6_bitCount_0f7a4_38 : decode cJ6_bitCount_0f7a4 38 = .ok (.iushr, 1) := by decide +kernel
theorem dJ6_bitCount_0f7a4_39 : decode cJ6_bitCount_0f7a4 39 = .ok (.iadd, 1) := by decide +kernel
theorem dJ6_bitCount_0f7a4_40 : decode cJ6_bitCount_0f7a4 40 = .ok (.istore_n 0, 1) := by decide +kernel
theorem dJ6_bitCount_0f7a4_41 : decode cJ6_bitCount_0f7a4 41 = .ok (.iload_n 0, 1) := by decide +kernel
theorem dJ6_bitCount_0f7a4_42 : decode cJ6_bitCount_0f7a4 42 = .ok (.iload_n 0, 1) := by decide +kernel
theorem dJ6_bitCount_0f7a4_43 : decode cJ6_bitCount_0f7a4 43 = .ok (.bipush 16, 2) := by decide +kernel
theorem dJ6_bitCount_0f7a4_45 : decode cJ6_bitCount_0f7a4 45 = .ok (.iushr, 1) := by decide +kernel
theorem dJ6_bitCount_0f7a4_46 : decode cJ6_bitCount_0f7a4 46 = .ok (.iadd, 1) := by decide +kernel
theorem dJ6_bitCount_0f7a4_47 : decode cJ6_bitCount_0f7a4 47 = .ok (.istore_n 0, 1) := by decide +kernel
theorem dJ6_bitCount_0f7a4_48 : decode cJ6_bitCount_0f7a4 48 = .ok (.iload_n 0, 1) := by decide +kernel
theorem dJ6_bitCount_0f7a4_49 : decode cJ6_bitCount_0f7a4 49 = .ok (.bipush 63, 2) := by decide +kernel
theorem dJ6_bitCount_0f7a4_51 : decode cJ6_bitCount_0f7a4 51 = .ok (.iand, 1) := by decide +kernel
theorem dJ6_bitCount_0f7a4_52 : decode cJ6_bitCount_0f7a4 52 = .ok (.ireturn, 1) := by decide +kernel
abbrev rJ6_bitCount_0f7a4 : Room := { frames := 0, cells := 0, slots := 0, locals := 0 }
set_option maxHeartbeats 4000000 in
set_option maxRecDepth 100000 in
theorem c_J6_bitCount_0f7a4 (l : Launch) (D : va_G) (b : Nat) (cs : Cs3) (x0 : Int32) (S S1 : St) (r : Int32) (h : p_J6_bitCount_0f7a4 x0 S = some (r, S1)) : Ct l yJ6_bitCount_0f7a4 cJ6_bitCount_0f7a4 1 (some .int) rJ6_bitCount_0f7a4 D b cs [.int x0] S (some (.int r)) S1 := by
  refine x_met (by decide +kernel) (Nat.le_of_ble_eq_true rfl) ?_
  intro p e s m below meth c ls hC hr hW hS hl
  have hl : lv_has ls 1 [(0, .int x0)] := hl
  rw [p_J6_bitCount_0f7a4] at h
  refine lv_iload_n hC.1 hC.2.1 dJ6_bitCount_0f7a4_0 rfl (lv_at hl 0 rfl) ?_
  refine lv_iload_n hC.1 hC.2.1 dJ6_bitCount_0f7a4_1 rfl (lv_at hl 0 rfl) ?_
  refine lv_iconst (v := 1) hC.1 hC.2.1 dJ6_bitCount_0f7a4_2 (by decide) ?_
  refine lv_iushr hC.1 hC.2.1 dJ6_bitCount_0f7a4_3 rfl ?_
  refine lv_ldcw (v := 1431655765) hC.1 hC.2.1 hC.2.2.2.1 (hC.2.2.2.2.1 _ kw_J6_265) dJ6_bitCount_0f7a4_4 ?_
  refine lv_iand hC.1 hC.2.1 dJ6_bitCount_0f7a4_7 ?_
  refine lv_isub hC.1 hC.2.1 dJ6_bitCount_0f7a4_8 ?_
  refine lv_istore_n (lv' := [(0, .int (x0 - (((x0.toUInt32 >>> ((1 : Int32).toUInt32 &&& Int32.toUInt32 31)).toInt32) &&& (1431655765 : Int32))))]) hC.1 hC.2.1 dJ6_bitCount_0f7a4_9 rfl hl (by decide) rfl (fun ls hl => ?_)
  refine lv_iload_n hC.1 hC.2.1 dJ6_bitCount_0f7a4_10 rfl (lv_at hl 0 rfl) ?_
  refine lv_ldcw (v := 858993459) hC.1 hC.2.1 hC.2.2.2.1 (hC.2.2.2.2.1 _ kw_J6_266) dJ6_bitCount_0f7a4_11 ?_
  refine lv_iand hC.1 hC.2.1 dJ6_bitCount_0f7a4_14 ?_
  refine lv_iload_n hC.1 hC.2.1 dJ6_bitCount_0f7a4_15 rfl (lv_at hl 0 rfl) ?_
  refine lv_iconst (v := 2) hC.1 hC.2.1 dJ6_bitCount_0f7a4_16 (by decide) ?_
  refine lv_iushr hC.1 hC.2.1 dJ6_bitCount_0f7a4_17 rfl ?_
  refine lv_ldcw (v := 858993459) hC.1 hC.2.1 hC.2.2.2.1 (hC.2.2.2.2.1 _ kw_J6_266) dJ6_bitCount_0f7a4_18 ?_
  refine lv_iand hC.1 hC.2.1 dJ6_bitCount_0f7a4_21 ?_
  refine lv_iadd hC.1 hC.2.1 dJ6_bitCount_0f7a4_22 ?_
  refine lv_istore_n (lv' := [(0, .int (((x0 - (((x0.toUInt32 >>> ((1 : Int32).toUInt32 &&& Int32.toUInt32 31)).toInt32) &&& (1431655765 : Int32))) &&& (858993459 : Int32)) + ((((x0 - (((x0.toUInt32 >>> ((1 : Int32).toUInt32 &&& Int32.toUInt32 31)).toInt32) &&& (1431655765 : Int32))).toUInt32 >>> ((2 : Int32).toUInt32 &&& Int32.toUInt32 31)).toInt32) &&& (858993459 : Int32))))]) hC.1 hC.2.1 dJ6_bitCount_0f7a4_23 rfl hl (by decide) rfl (fun ls hl => ?_)
  refine lv_iload_n hC.1 hC.2.1 dJ6_bitCount_0f7a4_24 rfl (lv_at hl 0 rfl) ?_
  refine lv_iload_n hC.1 hC.2.1 dJ6_bitCount_0f7a4_25 rfl (lv_at hl 0 rfl) ?_
  refine lv_iconst (v := 4) hC.1 hC.2.1 dJ6_bitCount_0f7a4_26 (by decide) ?_
  refine lv_iushr hC.1 hC.2.1 dJ6_bitCount_0f7a4_27 rfl ?_
  refine lv_iadd hC.1 hC.2.1 dJ6_bitCount_0f7a4_28 ?_
  refine lv_ldcw (v := 252645135) hC.1 hC.2.1 hC.2.2.2.1 (hC.2.2.2.2.1 _ kw_J6_267) dJ6_bitCount_0f7a4_29 ?_
  refine lv_iand hC.1 hC.2.1 dJ6_bitCount_0f7a4_32 ?_
  refine lv_istore_n (lv' := [(0, .int (((((x0 - (((x0.toUInt32 >>> ((1 : Int32).toUInt32 &&& Int32.toUInt32 31)).toInt32) &&& (1431655765 : Int32))) &&& (858993459 : Int32)) + ((((x0 - (((x0.toUInt32 >>> ((1 : Int32).toUInt32 &&& Int32.toUInt32 31)).toInt32) &&& (1431655765 : Int32))).toUInt32 >>> ((2 : Int32).toUInt32 &&& Int32.toUInt32 31)).toInt32) &&& (858993459 : Int32))) + (((((x0 - (((x0.toUInt32 >>> ((1 : Int32).toUInt32 &&& Int32.toUInt32 31)).toInt32) &&& (1431655765 : Int32))) &&& (858993459 : Int32)) + ((((x0 - (((x0.toUInt32 >>> ((1 : Int32).toUInt32 &&& Int32.toUInt32 31)).toInt32) &&& (1431655765 : Int32))).toUInt32 >>> ((2 : Int32).toUInt32 &&& Int32.toUInt32 31)).toInt32) &&& (858993459 : Int32))).toUInt32 >>> ((4 : Int32).toUInt32 &&& Int32.toUInt32 31)).toInt32)) &&& (252645135 : Int32)))]) hC.1 hC.2.1 dJ6_bitCount_0f7a4_33 rfl hl (by decide) rfl (fun ls hl => ?_)
  refine lv_iload_n hC.1 hC.2.1 dJ6_bitCount_0f7a4_34 rfl (lv_at hl 0 rfl) ?_
  refine lv_iload_n hC.1 hC.2.1 dJ6_bitCount_0f7a4_35 rfl (lv_at hl 0 rfl) ?_
  refine lv_bipush (v := 8) hC.1 hC.2.1 dJ6_bitCount_0f7a4_36 (by decide) ?_
  refine lv_iushr hC.1 hC.2.1 dJ6_bitCount_0f7a4_38 rfl ?_
  refine lv_iadd hC.1 hC.2.1 dJ6_bitCount_0f7a4_39 ?_
  refine lv_istore_n (lv' := [(0, .int ((((((x0 - (((x0.toUInt32 >>> ((1 : Int32).toUInt32 &&& Int32.toUInt32 31)).toInt32) &&& (1431655765 : Int32))) &&& (858993459 : Int32)) + ((((x0 - (((x0.toUInt32 >>> ((1 : Int32).toUInt32 &&& Int32.toUInt32 31)).toInt32) &&& (1431655765 : Int32))).toUInt32 >>> ((2 : Int32).toUInt32 &&& Int32.toUInt32 31)).toInt32) &&& (858993459 : Int32))) + (((((x0 - (((x0.toUInt32 >>> ((1 : Int32).toUInt32 &&& Int32.toUInt32 31)).toInt32) &&& (1431655765 : Int32))) &&& (858993459 : Int32)) + ((((x0 - (((x0.toUInt32 >>> ((1 : Int32).toUInt32 &&& Int32.toUInt32 31)).toInt32) &&& (1431655765 : Int32))).toUInt32 >>> ((2 : Int32).toUInt32 &&& Int32.toUInt32 31)).toInt32) &&& (858993459 : Int32))).toUInt32 >>> ((4 : Int32).toUInt32 &&& Int32.toUInt32 31)).toInt32)) &&& (252645135 : Int32)) + (((((((x0 - (((x0.toUInt32 >>> ((1 : Int32).toUInt32 &&& Int32.toUInt32 31)).toInt32) &&& (1431655765 : Int32))) &&& (858993459 : Int32)) + ((((x0 - (((x0.toUInt32 >>> ((1 : Int32).toUInt32 &&& Int32.toUInt32 31)).toInt32) &&& (1431655765 : Int32))).toUInt32 >>> ((2 : Int32).toUInt32 &&& Int32.toUInt32 31)).toInt32) &&& (858993459 : Int32))) + (((((x0 - (((x0.toUInt32 >>> ((1 : Int32).toUInt32 &&& Int32.toUInt32 31)).toInt32) &&& (1431655765 : Int32))) &&& (858993459 : Int32)) + ((((x0 - (((x0.toUInt32 >>> ((1 : Int32).toUInt32 &&& Int32.toUInt32 31)).toInt32) &&& (1431655765 : Int32))).toUInt32 >>> ((2 : Int32).toUInt32 &&& Int32.toUInt32 31)).toInt32) &&& (858993459 : Int32))).toUInt32 >>> ((4 : Int32).toUInt32 &&& Int32.toUInt32 31)).toInt32)) &&& (252645135 : Int32)).toUInt32 >>> ((8 : Int32).toUInt32 &&& Int32.toUInt32 31)).toInt32)))]) hC.1 hC.2.1 dJ6_bitCount_0f7a4_40 rfl hl (by decide) rfl (fun ls hl => ?_)
  refine lv_iload_n hC.1 hC.2.1 dJ6_bitCount_0f7a4_41 rfl (lv_at hl 0 rfl) ?_
  refine lv_iload_n hC.1 hC.2.1 dJ6_bitCount_0f7a4_42 rfl (lv_at hl 0 rfl) ?_
  refine lv_bipush (v := 16) hC.1 hC.2.1 dJ6_bitCount_0f7a4_43 (by decide) ?_
  refine lv_iushr hC.1 hC.2.1 dJ6_bitCount_0f7a4_45 rfl ?_
  refine lv_iadd hC.1 hC.2.1 dJ6_bitCount_0f7a4_46 ?_
  refine lv_istore_n (lv' := [(0, .int (((((((x0 - (((x0.toUInt32 >>> ((1 : Int32).toUInt32 &&& Int32.toUInt32 31)).toInt32) &&& (1431655765 : Int32))) &&& (858993459 : Int32)) + ((((x0 - (((x0.toUInt32 >>> ((1 : Int32).toUInt32 &&& Int32.toUInt32 31)).toInt32) &&& (1431655765 : Int32))).toUInt32 >>> ((2 : Int32).toUInt32 &&& Int32.toUInt32 31)).toInt32) &&& (858993459 : Int32))) + (((((x0 - (((x0.toUInt32 >>> ((1 : Int32).toUInt32 &&& Int32.toUInt32 31)).toInt32) &&& (1431655765 : Int32))) &&& (858993459 : Int32)) + ((((x0 - (((x0.toUInt32 >>> ((1 : Int32).toUInt32 &&& Int32.toUInt32 31)).toInt32) &&& (1431655765 : Int32))).toUInt32 >>> ((2 : Int32).toUInt32 &&& Int32.toUInt32 31)).toInt32) &&& (858993459 : Int32))).toUInt32 >>> ((4 : Int32).toUInt32 &&& Int32.toUInt32 31)).toInt32)) &&& (252645135 : Int32)) + (((((((x0 - (((x0.toUInt32 >>> ((1 : Int32).toUInt32 &&& Int32.toUInt32 31)).toInt32) &&& (1431655765 : Int32))) &&& (858993459 : Int32)) + ((((x0 - (((x0.toUInt32 >>> ((1 : Int32).toUInt32 &&& Int32.toUInt32 31)).toInt32) &&& (1431655765 : Int32))).toUInt32 >>> ((2 : Int32).toUInt32 &&& Int32.toUInt32 31)).toInt32) &&& (858993459 : Int32))) + (((((x0 - (((x0.toUInt32 >>> ((1 : Int32).toUInt32 &&& Int32.toUInt32 31)).toInt32) &&& (1431655765 : Int32))) &&& (858993459 : Int32)) + ((((x0 - (((x0.toUInt32 >>> ((1 : Int32).toUInt32 &&& Int32.toUInt32 31)).toInt32) &&& (1431655765 : Int32))).toUInt32 >>> ((2 : Int32).toUInt32 &&& Int32.toUInt32 31)).toInt32) &&& (858993459 : Int32))).toUInt32 >>> ((4 : Int32).toUInt32 &&& Int32.toUInt32 31)).toInt32)) &&& (252645135 : Int32)).toUInt32 >>> ((8 : Int32).toUInt32 &&& Int32.toUInt32 31)).toInt32)) + ((((((((x0 - (((x0.toUInt32 >>> ((1 : Int32).toUInt32 &&& Int32.toUInt32 31)).toInt32) &&& (1431655765 : Int32))) &&& (858993459 : Int32)) + ((((x0 - (((x0.toUInt32 >>> ((1 : Int32).toUInt32 &&& Int32.toUInt32 31)).toInt32) &&& (1431655765 : Int32))).toUInt32 >>> ((2 : Int32).toUInt32 &&& Int32.toUInt32 31)).toInt32) &&& (858993459 : Int32))) + (((((x0 - (((x0.toUInt32 >>> ((1 : Int32).toUInt32 &&& Int32.toUInt32 31)).toInt32) &&& (1431655765 : Int32))) &&& (858993459 : Int32)) + ((((x0 - (((x0.toUInt32 >>> ((1 : Int32).toUInt32 &&& Int32.toUInt32 31)).toInt32) &&& (1431655765 : Int32))).toUInt32 >>> ((2 : Int32).toUInt32 &&& Int32.toUInt32 31)).toInt32) &&& (858993459 : Int32))).toUInt32 >>> ((4 : Int32).toUInt32 &&& Int32.toUInt32 31)).toInt32)) &&& (252645135 : Int32)) + (((((((x0 - (((x0.toUInt32 >>> ((1 : Int32).toUInt32 &&& Int32.toUInt32 31)).toInt32) &&& (1431655765 : Int32))) &&& (858993459 : Int32)) + ((((x0 - (((x0.toUInt32 >>> ((1 : Int32).toUInt32 &&& Int32.toUInt32 31)).toInt32) &&& (1431655765 : Int32))).toUInt32 >>> ((2 : Int32).toUInt32 &&& Int32.toUInt32 31)).toInt32) &&& (858993459 : Int32))) + (((((x0 - (((x0.toUInt32 >>> ((1 : Int32).toUInt32 &&& Int32.toUInt32 31)).toInt32) &&& (1431655765 : Int32))) &&& (858993459 : Int32)) + ((((x0 - (((x0.toUInt32 >>> ((1 : Int32).toUInt32 &&& Int32.toUInt32 31)).toInt32) &&& (1431655765 : Int32))).toUInt32 >>> ((2 : Int32).toUInt32 &&& Int32.toUInt32 31)).toInt32) &&& (858993459 : Int32))).toUInt32 >>> ((4 : Int32).toUInt32 &&& Int32.toUInt32 31)).toInt32)) &&& (252645135 : Int32)).toUInt32 >>> ((8 : Int32).toUInt32 &&& Int32.toUInt32 31)).toInt32)).toUInt32 >>> ((16 : Int32).toUInt32 &&& Int32.toUInt32 31)).toInt32)))]) hC.1 hC.2.1 dJ6_bitCount_0f7a4_47 rfl hl (by decide) rfl (fun ls hl => ?_)
  refine lv_iload_n hC.1 hC.2.1 dJ6_bitCount_0f7a4_48 rfl (lv_at hl 0 rfl) ?_
  refine lv_bipush (v := 63) hC.1 hC.2.1 dJ6_bitCount_0f7a4_49 (by decide) ?_
  refine lv_iand hC.1 hC.2.1 dJ6_bitCount_0f7a4_51 ?_
  obtain ⟨rfl, rfl⟩ := xr h
  exact x_iret hC hr hW hS dJ6_bitCount_0f7a4_52
theorem dX3_bestDoor_0 : decode cX3_bestDoor 0 = .ok (.iload_n 1, 1) := by decide +kernel
theorem dX3_bestDoor_1 : decode cX3_bestDoor 1 = .ok (.invokestatic 41, 3) := by decide +kernel
theorem dX3_bestDoor_4 : decode cX3_bestDoor 4 = .ok (.istore_n 2, 1) := by decide +kernel
theorem dX3_bestDoor_5 : decode cX3_bestDoor 5 = .ok (.iload_n 2, 1) := by decide +kernel
theorem dX3_bestDoor_6 : decode cX3_bestDoor 6 = .ok (.iconst 1, 1) := by decide +kernel
theorem dX3_bestDoor_7 : decode cX3_bestDoor 7 = .ok (.if_icmp .gt 6, 3) := by decide +kernel
theorem dX3_bestDoor_10 : decode cX3_bestDoor 10 = .ok (.bipush (-9), 2) := by decide +kernel
theorem dX3_bestDoor_12 : decode cX3_bestDoor 12 = .ok (.ireturn, 1) := by decide +kernel
theorem dX3_bestDoor_13 : decode cX3_bestDoor 13 = .ok (.bipush (-9), 2) := by decide +kernel
theorem dX3_bestDoor_15 : decode cX3_bestDoor 15 = .ok (.istore_n 3, 1) := by decide +kernel
theorem dX3_bestDoor_16 : decode cX3_bestDoor 16 = .ok (.iload_n 2, 1) := by decide +kernel
theorem dX3_bestDoor_17 : decode cX3_bestDoor 17 = .ok (.iconst 1, 1) := by decide +kernel
theorem dX3_bestDoor_18 : decode cX3_bestDoor 18 = .ok (.iadd, 1) := by decide +kernel
theorem dX3_bestDoor_19 : decode cX3_bestDoor 19 = .ok (.istore 4, 2) := by decide +kernel
theorem dX3_bestDoor_21 : decode cX3_bestDoor 21 = .ok (.iconst 0, 1) := by decide +kernel
theorem dX3_bestDoor_22 : decode cX3_bestDoor 22 = .ok (.istore 5, 2) := by decide +kernel
theorem dX3_bestDoor_24 : decode cX3_bestDoor 24 = .ok (.iload 5, 2) := by decide +kernel
theorem dX3_bestDoor_26 : decode cX3_bestDoor 26 = .ok (.aload_n 0, 1) := by decide +kernel
theorem dX3_bestDoor_27 : decode cX3_bestDoor 27 = .ok (.getfield 22, 3) := by decide +kernel
theorem dX3_bestDoor_30 : decode cX3_bestDoor 30 = .ok (.getfield 26, 3) := by decide +kernel
theorem dX3_bestDoor_33 : decode cX3_bestDoor 33 = .ok (.getfield 46, 3) := by decide +kernel
theorem dX3_bestDoor_36 : decode cX3_bestDoor 36 = .ok (.if_icmp .ge 50, 3) := by decide +kernel
theorem dX3_bestDoor_39 : decode cX3_bestDoor 39 = .ok (.iload_n 1, 1) := by decide +kernel
theorem dX3_bestDoor_40 : decode cX3_bestDoor 40 = .ok (.aload_n 0, 1) := by decide +kernel
theorem dX3_bestDoor_41 : decode cX3_bestDoor 41 = .ok (.getfield 22, 3) := by decide +kernel
theorem dX3_bestDoor_44 : decode cX3_bestDoor 44 = .ok (.iload 5, 2) := by decide +kernel
theorem dX3_bestDoor_46 : decode cX3_bestDoor 46 = .ok (.invokevirtual 37, 3) := by decide +kernel
theorem dX3_bestDoor_49 : decode cX3_bestDoor 49 = .ok (.iand, 1) := by decide +kernel
theorem dX3_bestDoor_50 : decode cX3_bestDoor 50 = .ok (.invokestatic 41, 3) := by decide +kernel
theorem dX3_bestDoor_53 : decode cX3_bestDoor 53 = .ok (.istore 6, 2) := by decide +kernel
theorem dX3_bestDoor_55 : decode cX3_bestDoor 55 = .ok (.iload 6, 2) := by decide +kernel
theorem dX3_bestDoor_57 : decode cX3_bestDoor 57 = .ok (.iload_n 2, 1) := by decide +kernel
theorem dX3_bestDoor_58 : decode cX3_bestDoor 58 = .ok (.iload 6, 2) := by decide +kernel
theorem dX3_bestDoor_60 : decode cX3_bestDoor 60 = .ok (.isub, 1) := by decide +kernel
theorem dX3_bestDoor_61 : decode cX3_bestDoor 61 = .ok (.invokestatic 48, 3) := by decide +kernel
theorem dX3_bestDoor_64 : decode cX3_bestDoor 64 = .ok (.istore 7, 2) := by decide +kernel
theorem dX3_bestDoor_66 : decode cX3_bestDoor 66 = .ok (.iload 7, 2) := by decide +kernel
theorem dX3_bestDoor_68 : decode cX3_bestDoor 68 = .ok (.iload 4, 2) := by decide +kernel
theorem dX3_bestDoor_70 : decode cX3_bestDoor 70 = .ok (.if_icmp .ge 10, 3) := by decide +kernel
theorem dX3_bestDoor_73 : decode cX3_bestDoor 73 = .ok (.iload 5, 2) := by decide +kernel
theorem dX3_bestDoor_75 : decode cX3_bestDoor 75 = .ok (.istore_n 3, 1) := by decide +kernel
theorem dX3_bestDoor_76 : decode cX3_bestDoor 76 = .ok (.iload 7, 2) := by decide +kernel
theorem dX3_bestDoor_78 : decode cX3_bestDoor 78 = .ok (.istore 4, 2) := by decide +kernel
theorem dX3_bestDoor_80 : decode cX3_bestDoor 80 = .ok (.iinc 5 1, 3) := by decide +kernel
theorem dX3_bestDoor_83 : decode cX3_bestDoor 83 = .ok (.goto (-59), 3) := by decide +kernel
theorem dX3_bestDoor_86 : decode cX3_bestDoor 86 = .ok (.iload_n 3, 1) := by decide +kernel
theorem dX3_bestDoor_87 : decode cX3_bestDoor 87 = .ok (.ireturn, 1) := by decide +kernel
abbrev rX3_bestDoor : Room := { frames := 5, cells := 0, slots := 0, locals := 112 }
set_option maxHeartbeats 4000000 in
set_option maxRecDepth 100000 in
theorem w_X3_bestDoor_24 {p : Program} {l : Launch} {e : Env} {s : State} {m : MethodId} {args : Array Value} {below : List Frame} {meth : Method} {c : Code} {D : va_G} {b : Nat} {cs : Cs3} {r : Int32} {S1 : St} (hC : CX p s m args meth c RX3 cX3_bestDoor 8 D cs) (hr : meth.sig.returnType = (some .int)) : ∀ (n : Nat) (x1 : Int32) (x2 : Int32) (x3 : Int32) (x4 : Int32) (x5 : Int32) (S : St) (H : Heap) (locs : List Loc) (ls : Array Slot), q_X3_bestDoor_24 n x1 x2 x3 x4 x5 S = some (r, S1) → Wd D b cs S H → va_S (AA b) s.heap H locs → lv_has ls 8 [(0, .ref (b + 95)), (1, .int x1), (2, .int x2), (3, .int x3), (4, .int x4), (5, .int x5)] → W p l e rX3_bestDoor s m args below meth c H locs 0 0 (MQ below (QX D b cs (some (.int r)) S1) args s 0 0 (AA b)) (F0 m 24 ls []) := by
  intro n
  induction n with
  | zero =>
    intro x1 x2 x3 x4 x5 S H locs ls h
    exact absurd h (by rw [q_X3_bestDoor_24]; exact fun q => nomatch q)
  | succ n IH =>
    intro x1 x2 x3 x4 x5 S H locs ls h hW hS hl
    rw [q_X3_bestDoor_24] at h
    refine lv_iload hC.1 hC.2.1 dX3_bestDoor_24 (lv_at hl 5 rfl) ?_
    refine lv_aload_n hC.1 hC.2.1 dX3_bestDoor_26 rfl (lv_at hl 0 rfl) ?_
    refine x_get (C := RX3) (T := TX3) (N := 4) (v := _) hC hW 95 (by decide) rfl rfl uX3 0 (by decide) fl_X3_22 rfl rfl dX3_bestDoor_27 ?_
    refine x_get (C := RX1) (T := TX1) (N := 2) (v := _) hC hW 90 (by decide) rfl rfl uX1 0 (by decide) fl_X3_26 rfl rfl dX3_bestDoor_30 ?_
    refine x_get (C := RX2) (T := TX2) (N := 12) (v := _) hC hW 3 (by decide) rfl rfl uX2 1 (by decide) fl_X3_46 rfl rfl dX3_bestDoor_33 ?_
    refine lv_icmp_ge (tgt := 86) hC.1 hC.2.1 dX3_bestDoor_36 (by decide) (fun hc => ?_) (fun hc => ?_)
    · replace h := xt hc h
      refine lv_iload_n hC.1 hC.2.1 dX3_bestDoor_86 rfl (lv_at hl 3 rfl) ?_
      obtain ⟨rfl, rfl⟩ := xr h
      exact x_iret hC hr hW hS dX3_bestDoor_87
    · replace h := xf hc h
      refine lv_iload_n hC.1 hC.2.1 dX3_bestDoor_39 rfl (lv_at hl 1 rfl) ?_
      refine lv_aload_n hC.1 hC.2.1 dX3_bestDoor_40 rfl (lv_at hl 0 rfl) ?_
      refine x_get (C := RX3) (T := TX3) (N := 4) (v := _) hC hW 95 (by decide) rfl rfl uX3 0 (by decide) fl_X3_22 rfl rfl dX3_bestDoor_41 ?_
      refine lv_iload hC.1 hC.2.1 dX3_bestDoor_44 (lv_at hl 5 rfl) ?_
      obtain ⟨⟨q46_r, q46_S⟩, hq, h⟩ := xb h
      try dsimp only at h
      refine x_callV (T := TX1) (N := 2) (As := [.int x5]) (rest := [.int x1]) hC hW hS 90 (c_X1_openers l D b cs _ _ _ _ hq) (by decide) rfl rfl mi_X1_openers in_X1_openers sl_X1_openers ml_X3_37 ⟨rfl, rfl⟩ ⟨Nat.le_of_ble_eq_true rfl, Nat.le_of_ble_eq_true rfl⟩ ⟨Nat.zero_le _, Nat.zero_le _⟩ rfl rfl hl.1 (Nat.le_of_ble_eq_true rfl) dX3_bestDoor_46 (fun H locs hW hS => ?_)
      refine lv_iand hC.1 hC.2.1 dX3_bestDoor_49 ?_
      obtain ⟨⟨q50_r, q50_S⟩, hq, h⟩ := xb h
      try dsimp only at h
      refine x_callS (As := [.int (x1 &&& q46_r)]) (rest := []) hC hW hS (c_J6_bitCount_0f7a4 l D b cs _ _ _ _ hq) mi_J6_bitCount_0f7a4 st_J6_bitCount_0f7a4 ml_X3_41 ⟨rfl, rfl⟩ ⟨Nat.le_of_ble_eq_true rfl, Nat.le_of_ble_eq_true rfl⟩ ⟨Nat.zero_le _, Nat.zero_le _⟩ rfl rfl hl.1 (Nat.le_of_ble_eq_true rfl) dX3_bestDoor_50 (fun H locs hW hS => ?_)
      refine lv_istore (lv' := [(6, .int q50_r), (0, .ref (b + 95)), (1, .int x1), (2, .int x2), (3, .int x3), (4, .int x4), (5, .int x5)]) hC.1 hC.2.1 dX3_bestDoor_53 hl (by decide) rfl (fun ls hl => ?_)
      refine lv_iload hC.1 hC.2.1 dX3_bestDoor_55 (lv_at hl 0 rfl) ?_
      refine lv_iload_n hC.1 hC.2.1 dX3_bestDoor_57 rfl (lv_at hl 3 rfl) ?_
      refine lv_iload hC.1 hC.2.1 dX3_bestDoor_58 (lv_at hl 0 rfl) ?_
      refine lv_isub hC.1 hC.2.1 dX3_bestDoor_60 ?_
      refine va_mmax (rest := []) hC.1 hC.2.1 (hC.2.2.1.trans hl.1.symm) hC.2.2.2.1 (hC.2.2.2.2.1 _ ml_X3_48) (hC.2.2.2.2.1 _ st_math_max) (hC.2.2.2.2.1 _ iw_math) (hC.2.2.2.2.1 _ cw_math_max) (Nat.le_of_ble_eq_true rfl) (Nat.le_of_ble_eq_true rfl) (Nat.zero_le _) (Nat.zero_le _) dX3_bestDoor_61 ?_
      refine lv_istore (lv' := [(7, .int (if q50_r < (x2 - q50_r) then (x2 - q50_r) else q50_r)), (6, .int q50_r), (0, .ref (b + 95)), (1, .int x1), (2, .int x2), (3, .int x3), (4, .int x4), (5, .int x5)]) hC.1 hC.2.1 dX3_bestDoor_64 hl (by decide) rfl (fun ls hl => ?_)
      refine lv_iload hC.1 hC.2.1 dX3_bestDoor_66 (lv_at hl 0 rfl) ?_
      refine lv_iload hC.1 hC.2.1 dX3_bestDoor_68 (lv_at hl 6 rfl) ?_
      refine lv_icmp_ge (tgt := 80) hC.1 hC.2.1 dX3_bestDoor_70 (by decide) (fun hc => ?_) (fun hc => ?_)
      · replace h := xt hc h
        refine lv_iinc (v := x5 + 1) (lv' := [(5, .int (x5 + 1)), (7, .int (if q50_r < (x2 - q50_r) then (x2 - q50_r) else q50_r)), (6, .int q50_r), (0, .ref (b + 95)), (1, .int x1), (2, .int x2), (3, .int x3), (4, .int x4)]) hC.1 hC.2.1 dX3_bestDoor_80 hl (k := 7) rfl rfl (by decide) rfl (fun ls hl => ?_)
        refine lv_goto (tgt := 24) hC.1 hC.2.1 dX3_bestDoor_83 (by decide) ?_
        exact IH _ _ _ _ _ _ _ _ _ h hW hS (lv_sub hl [3, 4, 5, 6, 7, 0] rfl)
      · replace h := xf hc h
        refine lv_iload hC.1 hC.2.1 dX3_bestDoor_73 (lv_at hl 7 rfl) ?_
        refine lv_istore_n (lv' := [(3, .int x5), (7, .int (if q50_r < (x2 - q50_r) then (x2 - q50_r) else q50_r)), (6, .int q50_r), (0, .ref (b + 95)), (1, .int x1), (2, .int x2), (4, .int x4), (5, .int x5)]) hC.1 hC.2.1 dX3_bestDoor_75 rfl hl (by decide) rfl (fun ls hl => ?_)
        refine lv_iload hC.1 hC.2.1 dX3_bestDoor_76 (lv_at hl 1 rfl) ?_
        refine lv_istore (lv' := [(4, .int (if q50_r < (x2 - q50_r) then (x2 - q50_r) else q50_r)), (3, .int x5), (7, .int (if q50_r < (x2 - q50_r) then (x2 - q50_r) else q50_r)), (6, .int q50_r), (0, .ref (b + 95)), (1, .int x1), (2, .int x2), (5, .int x5)]) hC.1 hC.2.1 dX3_bestDoor_78 hl (by decide) rfl (fun ls hl => ?_)
        refine lv_iinc (v := x5 + 1) (lv' := [(5, .int (x5 + 1)), (4, .int (if q50_r < (x2 - q50_r) then (x2 - q50_r) else q50_r)), (3, .int x5), (7, .int (if q50_r < (x2 - q50_r) then (x2 - q50_r) else q50_r)), (6, .int q50_r), (0, .ref (b + 95)), (1, .int x1), (2, .int x2)]) hC.1 hC.2.1 dX3_bestDoor_80 hl (k := 7) rfl rfl (by decide) rfl (fun ls hl => ?_)
        refine lv_goto (tgt := 24) hC.1 hC.2.1 dX3_bestDoor_83 (by decide) ?_
        exact IH _ _ _ _ _ _ _ _ _ h hW hS (lv_sub hl [5, 6, 7, 2, 1, 0] rfl)
set_option maxHeartbeats 4000000 in
set_option maxRecDepth 100000 in
theorem c_X3_bestDoor (l : Launch) (D : va_G) (b : Nat) (cs : Cs3) (x1 : Int32) (S S1 : St) (r : Int32) (h : p_X3_bestDoor x1 S = some (r, S1)) : Ct l yX3_bestDoor cX3_bestDoor 8 (some .int) rX3_bestDoor D b cs [.ref (b + 95), .int x1] S (some (.int r)) S1 := by
  refine x_met (by decide +kernel) (Nat.le_of_ble_eq_true rfl) ?_
  intro p e s m below meth c ls hC hr hW hS hl
  have hl : lv_has ls 8 [(0, .ref (b + 95)), (1, .int x1)] := hl
  rw [p_X3_bestDoor] at h
  refine lv_iload_n hC.1 hC.2.1 dX3_bestDoor_0 rfl (lv_at hl 1 rfl) ?_
  obtain ⟨⟨q1_r, q1_S⟩, hq, h⟩ := xb h
  try dsimp only at h
  refine x_callS (As := [.int x1]) (rest := []) hC hW hS (c_J6_bitCount_0f7a4 l D b cs _ _ _ _ hq) mi_J6_bitCount_0f7a4 st_J6_bitCount_0f7a4 ml_X3_41 ⟨rfl, rfl⟩ ⟨Nat.le_of_ble_eq_true rfl, Nat.le_of_ble_eq_true rfl⟩ ⟨Nat.zero_le _, Nat.zero_le _⟩ rfl rfl hl.1 (Nat.le_of_ble_eq_true rfl) dX3_bestDoor_1 (fun H locs hW hS => ?_)
  refine lv_istore_n (lv' := [(2, .int q1_r), (0, .ref (b + 95)), (1, .int x1)]) hC.1 hC.2.1 dX3_bestDoor_4 rfl hl (by decide) rfl (fun ls hl => ?_)
  refine lv_iload_n hC.1 hC.2.1 dX3_bestDoor_5 rfl (lv_at hl 0 rfl) ?_
  refine lv_iconst (v := 1) hC.1 hC.2.1 dX3_bestDoor_6 (by decide) ?_
  refine lv_icmp_gt (tgt := 13) hC.1 hC.2.1 dX3_bestDoor_7 (by decide) (fun hc => ?_) (fun hc => ?_)
  · replace h := xt hc h
    refine lv_bipush (v := -9) hC.1 hC.2.1 dX3_bestDoor_13 (by decide) ?_
    refine lv_istore_n (lv' := [(3, .int (-9 : Int32)), (2, .int q1_r), (0, .ref (b + 95)), (1, .int x1)]) hC.1 hC.2.1 dX3_bestDoor_15 rfl hl (by decide) rfl (fun ls hl => ?_)
    refine lv_iload_n hC.1 hC.2.1 dX3_bestDoor_16 rfl (lv_at hl 1 rfl) ?_
    refine lv_iconst (v := 1) hC.1 hC.2.1 dX3_bestDoor_17 (by decide) ?_
    refine lv_iadd hC.1 hC.2.1 dX3_bestDoor_18 ?_
    refine lv_istore (lv' := [(4, .int (q1_r + (1 : Int32))), (3, .int (-9 : Int32)), (2, .int q1_r), (0, .ref (b + 95)), (1, .int x1)]) hC.1 hC.2.1 dX3_bestDoor_19 hl (by decide) rfl (fun ls hl => ?_)
    refine lv_iconst (v := 0) hC.1 hC.2.1 dX3_bestDoor_21 (by decide) ?_
    refine lv_istore (lv' := [(5, .int (0 : Int32)), (4, .int (q1_r + (1 : Int32))), (3, .int (-9 : Int32)), (2, .int q1_r), (0, .ref (b + 95)), (1, .int x1)]) hC.1 hC.2.1 dX3_bestDoor_22 hl (by decide) rfl (fun ls hl => ?_)
    exact w_X3_bestDoor_24 hC hr _ _ _ _ _ _ _ _ _ _ h hW hS (lv_sub hl [4, 5, 3, 2, 1, 0] rfl)
  · replace h := xf hc h
    refine lv_bipush (v := -9) hC.1 hC.2.1 dX3_bestDoor_10 (by decide) ?_
    obtain ⟨rfl, rfl⟩ := xr h
    exact x_iret hC hr hW hS dX3_bestDoor_12
theorem dX4_takeKeys_0 : decode cX4_takeKeys 0 = .ok (.iconst 0, 1) := by decide +kernel
theorem dX4_takeKeys_1 : decode cX4_takeKeys 1 = .ok (.istore_n 1, 1) := by decide +kernel
theorem dX4_takeKeys_2 : decode cX4_takeKeys 2 = .ok (.iload_n 1, 1) := by decide +kernel
theorem dX4_takeKeys_3 : decode cX4_takeKeys 3 = .ok (.aload_n 0, 1) := by decide +kernel
theorem dX4_takeKeys_4 : decode cX4_takeKeys 4 = .ok (.getfield 15, 3) := by decide +kernel
theorem dX4_takeKeys_7 : decode cX4_takeKeys 7 = .ok (.getfield 19, 3) := by decide +kernel
theorem dX4_takeKeys_10 : decode cX4_takeKeys 10 = .ok (.getfield 25, 3) := by decide +kernel
theorem dX4_takeKeys_13 : decode cX4_takeKeys 13 = .ok (.if_icmp .ge 56, 3) := by decide +kernel
theorem dX4_takeKeys_16 : decode cX4_takeKeys 16 = .ok (.aload_n 0, 1) := by decide +kernel
theorem dX4_takeKeys_17 : decode cX4_takeKeys 17 = .ok (.getfield 15, 3) := by decide +kernel
theorem dX4_takeKeys_20 : decode cX4_takeKeys 20 = .ok (.iload_n 1, 1) := by decide +kernel
theorem dX4_takeKeys_21 : decode cX4_takeKeys 21 = .ok (.iconst 0, 1) := by decide +kernel
theorem dX4_takeKeys_22 : decode cX4_takeKeys 22 = .ok (.invokevirtual 31, 3) := by decide +kernel
theorem dX4_takeKeys_25 : decode cX4_takeKeys 25 = .ok (.istore_n 2, 1) := by decide +kernel
theorem dX4_takeKeys_26 : decode cX4_takeKeys 26 = .ok (.iconst 1, 1) := by decide +kernel
theorem dX4_takeKeys_27 : decode cX4_takeKeys 27 = .ok (.iload_n 1, 1) := by decide +kernel
theorem dX4_takeKeys_28 : decode cX4_takeKeys 28 = .ok (.ishl, 1) := by decide +kernel
theorem dX4_takeKeys_29 : decode cX4_takeKeys 29 = .ok (.istore_n 3, 1) := by decide +kernel
theorem dX4_takeKeys_30 : decode cX4_takeKeys 30 = .ok (.iconst 0, 1) := by decide +kernel
theorem dX4_takeKeys_31 : decode cX4_takeKeys 31 = .ok (.istore 4, 2) := by decide +kernel
theorem dX4_takeKeys_33 : decode cX4_takeKeys 33 = .ok (.iload 4, 2) := by decide +kernel
theorem dX4_takeKeys_35 : decode cX4_takeKeys 35 = .ok (.iload_n 3, 1) := by decide +kernel
theorem dX4_takeKeys_36 : decode cX4_takeKeys 36 = .ok (.if_icmp .ge 27, 3) := by decide +kernel
theorem dX4_takeKeys_39 : decode cX4_takeKeys 39 = .ok (.aload_n 0, 1) := by decide +kernel
theorem dX4_takeKeys_40 : decode cX4_takeKeys 40 = .ok (.getfield 9, 3) := by decide +kernel
theorem dX4_takeKeys_43 : decode cX4_takeKeys 43 = .ok (.iload_n 3, 1) := by decide +kernel
theorem dX4_takeKeys_44 : decode cX4_takeKeys 44 = .ok (.iload 4, 2) := by decide +kernel
theorem dX4_takeKeys_46 : decode cX4_takeKeys 46 = .ok (.ior, 1) := by decide +kernel
theorem dX4_takeKeys_47 : decode cX4_takeKeys 47 = .ok (.aload_n 0, 1) := by decide +kernel
theorem dX4_takeKeys_48 : decode cX4_takeKeys 48 = .ok (.getfield 9, 3) := by decide +kernel
theorem dX4_takeKeys_51 : decode cX4_takeKeys 51 = .ok (.iload 4, 2) := by decide +kernel
theorem dX4_takeKeys_53 : decode cX4_takeKeys 53 = .ok (.iaload, 1) := by decide +kernel
theorem dX4_takeKeys_54 : decode cX4_takeKeys 54 = .ok (.iload_n 2, 1) := by decide +kernel
theorem dX4_takeKeys_55 : decode cX4_takeKeys 55 = .ok (.ior, 1) := by decide +kernel
theorem dX4_takeKeys_56 : decode cX4_takeKeys 56 = .ok (.iastore, 1) := by decide +kernel
theorem dX4_takeKeys_57 : decode cX4_takeKeys 57 = .ok (.iinc 4 1, 3) := by decide +kernel
theorem dX4_takeKeys_60 : decode cX4_takeKeys 60 = .ok (.goto (-27), 3) := by decide +kernel
theorem dX4_takeKeys_63 : decode cX4_takeKeys 63 = .ok (.iinc 1 1, 3) := by decide +kernel
theorem dX4_takeKeys_66 : decode cX4_takeKeys 66 = .ok (.goto (-64), 3) := by decide +kernel
theorem dX4_takeKeys_69 : decode cX4_takeKeys 69 = .ok (.return_, 1) := by decide +kernel
abbrev rX4_takeKeys : Room := { frames := 3, cells := 0, slots := 0, locals := 71 }
set_option maxHeartbeats 4000000 in
set_option maxRecDepth 100000 in
theorem w_X4_takeKeys_33 {p : Program} {l : Launch} {e : Env} {s : State} {m : MethodId} {args : Array Value} {below : List Frame} {meth : Method} {c : Code} {D : va_G} {b : Nat} {cs : Cs3} {S1 : St} {ag2 : Int32 → St → Option (St)} (hC : CX p s m args meth c RX4 cX4_takeKeys 5 D cs) (hr : meth.sig.returnType = none) (hag2 : ∀ (x1 : Int32) (S : St) (H : Heap) (locs : List Loc) (ls : Array Slot), ag2 x1 S = some S1 → Wd D b cs S H → va_S (AA b) s.heap H locs → lv_has ls 5 [(0, .ref (b + 91)), (1, .int x1)] → W p l e rX4_takeKeys s m args below meth c H locs 0 0 (MQ below (QX D b cs none S1) args s 0 0 (AA b)) (F0 m 2 ls [])) : ∀ (n : Nat) (x1 : Int32) (x2 : Int32) (x3 : Int32) (x4 : Int32) (S : St) (H : Heap) (locs : List Loc) (ls : Array Slot), q_X4_takeKeys_33 ag2 n x1 x2 x3 x4 S = some S1 → Wd D b cs S H → va_S (AA b) s.heap H locs → lv_has ls 5 [(0, .ref (b + 91)), (1, .int x1), (2, .int x2), (3, .int x3), (4, .int x4)] → W p l e rX4_takeKeys s m args below meth c H locs 0 0 (MQ below (QX D b cs none S1) args s 0 0 (AA b)) (F0 m 33 ls []) := by
  intro n
  induction n with
  | zero =>
    intro x1 x2 x3 x4 S H locs ls h
    exact absurd h (by rw [q_X4_takeKeys_33]; exact fun q => nomatch q)
  | succ n IH =>
    intro x1 x2 x3 x4 S H locs ls h hW hS hl
    rw [q_X4_takeKeys_33] at h
    refine lv_iload hC.1 hC.2.1 dX4_takeKeys_33 (lv_at hl 4 rfl) ?_
    refine lv_iload_n hC.1 hC.2.1 dX4_takeKeys_35 rfl (lv_at hl 3 rfl) ?_
    refine lv_icmp_ge (tgt := 63) hC.1 hC.2.1 dX4_takeKeys_36 (by decide) (fun hc => ?_) (fun hc => ?_)
    · replace h := xt hc h
      refine lv_iinc (v := x1 + 1) (lv' := [(1, .int (x1 + 1)), (0, .ref (b + 91)), (2, .int x2), (3, .int x3), (4, .int x4)]) hC.1 hC.2.1 dX4_takeKeys_63 hl (k := 1) rfl rfl (by decide) rfl (fun ls hl => ?_)
      refine lv_goto (tgt := 2) hC.1 hC.2.1 dX4_takeKeys_66 (by decide) ?_
      exact hag2 _ _ _ _ _ h hW hS (lv_sub hl [1, 0] rfl)
    · replace h := xf hc h
      refine lv_aload_n hC.1 hC.2.1 dX4_takeKeys_39 rfl (lv_at hl 0 rfl) ?_
      refine x_get (C := RX4) (T := TX4) (N := 2) (v := _) hC hW 91 (by decide) rfl rfl uX4 1 (by decide) fl_X4_9 rfl rfl dX4_takeKeys_40 ?_
      refine lv_iload_n hC.1 hC.2.1 dX4_takeKeys_43 rfl (lv_at hl 3 rfl) ?_
      refine lv_iload hC.1 hC.2.1 dX4_takeKeys_44 (lv_at hl 4 rfl) ?_
      refine lv_ior hC.1 hC.2.1 dX4_takeKeys_46 ?_
      refine lv_aload_n hC.1 hC.2.1 dX4_takeKeys_47 rfl (lv_at hl 0 rfl) ?_
      refine x_get (C := RX4) (T := TX4) (N := 2) (v := _) hC hW 91 (by decide) rfl rfl uX4 1 (by decide) fl_X4_9 rfl rfl dX4_takeKeys_48 ?_
      refine lv_iload hC.1 hC.2.1 dX4_takeKeys_51 (lv_at hl 4 rfl) ?_
      obtain ⟨hi, h⟩ := xg h
      refine x_iald hC hW 92 (by decide) rfl hi dX4_takeKeys_53 ?_
      refine lv_iload_n hC.1 hC.2.1 dX4_takeKeys_54 rfl (lv_at hl 2 rfl) ?_
      refine lv_ior hC.1 hC.2.1 dX4_takeKeys_55 ?_
      obtain ⟨hi, h⟩ := xg h
      refine x_iast hC hW hS 92 (by decide) rfl hi dX4_takeKeys_56 (fun H locs hW hS => ?_)
      refine lv_iinc (v := x4 + 1) (lv' := [(4, .int (x4 + 1)), (0, .ref (b + 91)), (1, .int x1), (2, .int x2), (3, .int x3)]) hC.1 hC.2.1 dX4_takeKeys_57 hl (k := 4) rfl rfl (by decide) rfl (fun ls hl => ?_)
      refine lv_goto (tgt := 33) hC.1 hC.2.1 dX4_takeKeys_60 (by decide) ?_
      exact IH _ _ _ _ _ _ _ _ h hW hS (lv_sub hl [1, 2, 3, 4, 0] rfl)
set_option maxHeartbeats 4000000 in
set_option maxRecDepth 100000 in
theorem w_X4_takeKeys_2 {p : Program} {l : Launch} {e : Env} {s : State} {m : MethodId} {args : Array Value} {below : List Frame} {meth : Method} {c : Code} {D : va_G} {b : Nat} {cs : Cs3} {S1 : St} (hC : CX p s m args meth c RX4 cX4_takeKeys 5 D cs) (hr : meth.sig.returnType = none) : ∀ (n : Nat) (x1 : Int32) (S : St) (H : Heap) (locs : List Loc) (ls : Array Slot), q_X4_takeKeys_2 n x1 S = some S1 → Wd D b cs S H → va_S (AA b) s.heap H locs → lv_has ls 5 [(0, .ref (b + 91)), (1, .int x1)] → W p l e rX4_takeKeys s m args below meth c H locs 0 0 (MQ below (QX D b cs none S1) args s 0 0 (AA b)) (F0 m 2 ls []) := by
  intro n
  induction n with
  | zero =>
    intro x1 S H locs ls h
    exact absurd h (by rw [q_X4_takeKeys_2]; exact fun q => nomatch q)
  | succ n IH =>
    intro x1 S H locs ls h hW hS hl
    rw [q_X4_takeKeys_2] at h
    refine lv_iload_n hC.1 hC.2.1 dX4_takeKeys_2 rfl (lv_at hl 1 rfl) ?_
    refine lv_aload_n hC.1 hC.2.1 dX4_takeKeys_3 rfl (lv_at hl 0 rfl) ?_
    refine x_get (C := RX4) (T := TX4) (N := 2) (v := _) hC hW 91 (by decide) rfl rfl uX4 0 (by decide) fl_X4_15 rfl rfl dX4_takeKeys_4 ?_
    refine x_get (C := RX1) (T := TX1) (N := 2) (v := _) hC hW 90 (by decide) rfl rfl uX1 0 (by decide) fl_X4_19 rfl rfl dX4_takeKeys_7 ?_
    refine x_get (C := RX2) (T := TX2) (N := 12) (v := _) hC hW 3 (by decide) rfl rfl uX2 2 (by decide) fl_X4_25 rfl rfl dX4_takeKeys_10 ?_
    refine lv_icmp_ge (tgt := 69) hC.1 hC.2.1 dX4_takeKeys_13 (by decide) (fun hc => ?_) (fun hc => ?_)
    · replace h := xt hc h
      obtain rfl := Option.some.inj h
      exact x_vret hC hr hW hS dX4_takeKeys_69
    · replace h := xf hc h
      refine lv_aload_n hC.1 hC.2.1 dX4_takeKeys_16 rfl (lv_at hl 0 rfl) ?_
      refine x_get (C := RX4) (T := TX4) (N := 2) (v := _) hC hW 91 (by decide) rfl rfl uX4 0 (by decide) fl_X4_15 rfl rfl dX4_takeKeys_17 ?_
      refine lv_iload_n hC.1 hC.2.1 dX4_takeKeys_20 rfl (lv_at hl 1 rfl) ?_
      refine lv_iconst (v := 0) hC.1 hC.2.1 dX4_takeKeys_21 (by decide) ?_
      obtain ⟨⟨q22_r, q22_S⟩, hq, h⟩ := xb h
      try dsimp only at h
      refine x_callV (T := TX1) (N := 2) (As := [.int x1, .int (0 : Int32)]) (rest := []) hC hW hS 90 (c_X1_keys l D b cs _ _ _ _ _ hq) (by decide) rfl rfl mi_X1_keys in_X1_keys sl_X1_keys ml_X4_31 ⟨rfl, rfl⟩ ⟨Nat.le_of_ble_eq_true rfl, Nat.le_of_ble_eq_true rfl⟩ ⟨Nat.zero_le _, Nat.zero_le _⟩ rfl rfl hl.1 (Nat.le_of_ble_eq_true rfl) dX4_takeKeys_22 (fun H locs hW hS => ?_)
      refine lv_istore_n (lv' := [(2, .int q22_r), (0, .ref (b + 91)), (1, .int x1)]) hC.1 hC.2.1 dX4_takeKeys_25 rfl hl (by decide) rfl (fun ls hl => ?_)
      refine lv_iconst (v := 1) hC.1 hC.2.1 dX4_takeKeys_26 (by decide) ?_
      refine lv_iload_n hC.1 hC.2.1 dX4_takeKeys_27 rfl (lv_at hl 2 rfl) ?_
      refine lv_ishl hC.1 hC.2.1 dX4_takeKeys_28 ?_
      refine lv_istore_n (lv' := [(3, .int ((1 : Int32) <<< (x1 &&& 31))), (2, .int q22_r), (0, .ref (b + 91)), (1, .int x1)]) hC.1 hC.2.1 dX4_takeKeys_29 rfl hl (by decide) rfl (fun ls hl => ?_)
      refine lv_iconst (v := 0) hC.1 hC.2.1 dX4_takeKeys_30 (by decide) ?_
      refine lv_istore (lv' := [(4, .int (0 : Int32)), (3, .int ((1 : Int32) <<< (x1 &&& 31))), (2, .int q22_r), (0, .ref (b + 91)), (1, .int x1)]) hC.1 hC.2.1 dX4_takeKeys_31 hl (by decide) rfl (fun ls hl => ?_)
      exact w_X4_takeKeys_33 hC hr IH _ _ _ _ _ _ _ _ _ h hW hS (lv_sub hl [3, 4, 2, 1, 0] rfl)
set_option maxHeartbeats 4000000 in
set_option maxRecDepth 100000 in
theorem c_X4_takeKeys (l : Launch) (D : va_G) (b : Nat) (cs : Cs3) (S S1 : St) (h : p_X4_takeKeys S = some S1) : Ct l yX4_takeKeys cX4_takeKeys 5 none rX4_takeKeys D b cs [.ref (b + 91)] S none S1 := by
  refine x_met (by decide +kernel) (Nat.le_of_ble_eq_true rfl) ?_
  intro p e s m below meth c ls hC hr hW hS hl
  have hl : lv_has ls 5 [(0, .ref (b + 91))] := hl
  rw [p_X4_takeKeys] at h
  refine lv_iconst (v := 0) hC.1 hC.2.1 dX4_takeKeys_0 (by decide) ?_
  refine lv_istore_n (lv' := [(1, .int (0 : Int32)), (0, .ref (b + 91))]) hC.1 hC.2.1 dX4_takeKeys_1 rfl hl (by decide) rfl (fun ls hl => ?_)
  exact w_X4_takeKeys_2 hC hr _ _ _ _ _ _ h hW hS (lv_sub hl [1, 0] rfl)
theorem dX4_allBoys_0 : decode cX4_allBoys 0 = .ok (.iconst 1, 1) := by decide +kernel
theorem dX4_allBoys_1 : decode cX4_allBoys 1 = .ok (.aload_n 0, 1) := by decide +kernel
theorem dX4_allBoys_2 : decode cX4_allBoys 2 = .ok (.getfield 15, 3) := by decide +kernel
theorem dX4_allBoys_5 : decode cX4_allBoys 5 = .ok (.getfield 19, 3) := by decide +kernel
theorem dX4_allBoys_8 : decode cX4_allBoys 8 = .ok (.getfield 25, 3) := by decide +kernel
theorem dX4_allBoys_11 : decode cX4_allBoys 11 = .ok (.ishl, 1) := by decide +kernel
theorem dX4_allBoys_12 : decode cX4_allBoys 12 = .ok (.iconst 1, 1) := by decide +kernel
theorem dX4_allBoys_13 : decode cX4_allBoys 13 = .ok (.isub, 1) := by decide +kernel
theorem dX4_allBoys_14 : decode cX4_allBoys 14 = .ok (.ireturn, 1) := by decide +kernel
abbrev rX4_allBoys : Room := { frames := 0, cells := 0, slots := 0, locals := 0 }
set_option maxHeartbeats 4000000 in
set_option maxRecDepth 100000 in
theorem c_X4_allBoys (l : Launch) (D : va_G) (b : Nat) (cs : Cs3) (S S1 : St) (r : Int32) (h : p_X4_allBoys S = some (r, S1)) : Ct l yX4_allBoys cX4_allBoys 1 (some .int) rX4_allBoys D b cs [.ref (b + 91)] S (some (.int r)) S1 := by
  refine x_met (by decide +kernel) (Nat.le_of_ble_eq_true rfl) ?_
  intro p e s m below meth c ls hC hr hW hS hl
  have hl : lv_has ls 1 [(0, .ref (b + 91))] := hl
  rw [p_X4_allBoys] at h
  refine lv_iconst (v := 1) hC.1 hC.2.1 dX4_allBoys_0 (by decide) ?_
  refine lv_aload_n hC.1 hC.2.1 dX4_allBoys_1 rfl (lv_at hl 0 rfl) ?_
  refine x_get (C := RX4) (T := TX4) (N := 2) (v := _) hC hW 91 (by decide) rfl rfl uX4 0 (by decide) fl_X4_15 rfl rfl dX4_allBoys_2 ?_
  refine x_get (C := RX1) (T := TX1) (N := 2) (v := _) hC hW 90 (by decide) rfl rfl uX1 0 (by decide) fl_X4_19 rfl rfl dX4_allBoys_5 ?_
  refine x_get (C := RX2) (T := TX2) (N := 12) (v := _) hC hW 3 (by decide) rfl rfl uX2 2 (by decide) fl_X4_25 rfl rfl dX4_allBoys_8 ?_
  refine lv_ishl hC.1 hC.2.1 dX4_allBoys_11 ?_
  refine lv_iconst (v := 1) hC.1 hC.2.1 dX4_allBoys_12 (by decide) ?_
  refine lv_isub hC.1 hC.2.1 dX4_allBoys_13 ?_
  obtain ⟨rfl, rfl⟩ := xr h
  exact x_iret hC hr hW hS dX4_allBoys_14
theorem dX4_allDoors_0 : decode cX4_allDoors 0 = .ok (.iconst 1, 1) := by decide +kernel
theorem dX4_allDoors_1 : decode cX4_allDoors 1 = .ok (.aload_n 0, 1) := by decide +kernel
theorem dX4_allDoors_2 : decode cX4_allDoors 2 = .ok (.getfield 15, 3) := by decide +kernel
theorem dX4_allDoors_5 : decode cX4_allDoors 5 = .ok (.getfield 19, 3) := by decide +kernel
theorem dX4_allDoors_8 : decode cX4_allDoors 8 = .ok (.getfield 35, 3) := by decide +kernel
theorem dX4_allDoors_11 : decode cX4_allDoors 11 = .ok (.ishl, 1) := by decide +kernel
theorem dX4_allDoors_12 : decode cX4_allDoors 12 = .ok (.iconst 1, 1) := by decide +kernel
theorem dX4_allDoors_13 : decode cX4_allDoors 13 = .ok (.isub, 1) := by decide +kernel
theorem dX4_allDoors_14 : decode cX4_allDoors 14 = .ok (.ireturn, 1) := by decide +kernel
abbrev rX4_allDoors : Room := { frames := 0, cells := 0, slots := 0, locals := 0 }
set_option maxHeartbeats 4000000 in
set_option maxRecDepth 100000 in
theorem c_X4_allDoors (l : Launch) (D : va_G) (b : Nat) (cs : Cs3) (S S1 : St) (r : Int32) (h : p_X4_allDoors S = some (r, S1)) : Ct l yX4_allDoors cX4_allDoors 1 (some .int) rX4_allDoors D b cs [.ref (b + 91)] S (some (.int r)) S1 := by
  refine x_met (by decide +kernel) (Nat.le_of_ble_eq_true rfl) ?_
  intro p e s m below meth c ls hC hr hW hS hl
  have hl : lv_has ls 1 [(0, .ref (b + 91))] := hl
  rw [p_X4_allDoors] at h
  refine lv_iconst (v := 1) hC.1 hC.2.1 dX4_allDoors_0 (by decide) ?_
  refine lv_aload_n hC.1 hC.2.1 dX4_allDoors_1 rfl (lv_at hl 0 rfl) ?_
  refine x_get (C := RX4) (T := TX4) (N := 2) (v := _) hC hW 91 (by decide) rfl rfl uX4 0 (by decide) fl_X4_15 rfl rfl dX4_allDoors_2 ?_
  refine x_get (C := RX1) (T := TX1) (N := 2) (v := _) hC hW 90 (by decide) rfl rfl uX1 0 (by decide) fl_X4_19 rfl rfl dX4_allDoors_5 ?_
  refine x_get (C := RX2) (T := TX2) (N := 12) (v := _) hC hW 3 (by decide) rfl rfl uX2 1 (by decide) fl_X4_35 rfl rfl dX4_allDoors_8 ?_
  refine lv_ishl hC.1 hC.2.1 dX4_allDoors_11 ?_
  refine lv_iconst (v := 1) hC.1 hC.2.1 dX4_allDoors_12 (by decide) ?_
  refine lv_isub hC.1 hC.2.1 dX4_allDoors_13 ?_
  obtain ⟨rfl, rfl⟩ := xr h
  exact x_iret hC hr hW hS dX4_allDoors_14
theorem dX4_fewestForAll_0 : decode cX4_fewestForAll 0 = .ok (.aload_n 0, 1) := by decide +kernel
theorem dX4_fewestForAll_1 : decode cX4_fewestForAll 1 = .ok (.invokevirtual 38, 3) := by decide +kernel
theorem dX4_fewestForAll_4 : decode cX4_fewestForAll 4 = .ok (.aload_n 0, 1) := by decide +kernel
theorem dX4_fewestForAll_5 : decode cX4_fewestForAll 5 = .ok (.invokevirtual 41, 3) := by decide +kernel
theorem dX4_fewestForAll_8 : decode cX4_fewestForAll 8 = .ok (.istore_n 1, 1) := by decide +kernel
theorem dX4_fewestForAll_9 : decode cX4_fewestForAll 9 = .ok (.aload_n 0, 1) := by decide +kernel
theorem dX4_fewestForAll_10 : decode cX4_fewestForAll 10 = .ok (.invokevirtual 45, 3) := by decide +kernel
theorem dX4_fewestForAll_13 : decode cX4_fewestForAll 13 = .ok (.istore_n 2, 1) := by decide +kernel
theorem dX4_fewestForAll_14 : decode cX4_fewestForAll 14 = .ok (.bipush (-9), 2) := by decide +kernel
theorem dX4_fewestForAll_16 : decode cX4_fewestForAll 16 = .ok (.istore_n 3, 1) := by decide +kernel
theorem dX4_fewestForAll_17 : decode cX4_fewestForAll 17 = .ok (.iconst 0, 1) := by decide +kernel
theorem dX4_fewestForAll_18 : decode cX4_fewestForAll 18 = .ok (.istore 4, 2) := by decide +kernel
theorem dX4_fewestForAll_20 : decode cX4_fewestForAll 20 = .ok (.iload 4, 2) := by decide +kernel
theorem dX4_fewestForAll_22 : decode cX4_fewestForAll 22 = .ok (.iload_n 1, 1) := by decide +kernel
theorem dX4_fewestForAll_23 : decode cX4_fewestForAll 23 = .ok (.if_icmp .gt 53, 3) := by decide +kernel
theorem dX4_fewestForAll_26 : decode cX4_fewestForAll 26 = .ok (.iload_n 3, 1) := by decide +kernel
theorem dX4_fewestForAll_27 : decode cX4_fewestForAll 27 = .ok (.bipush (-9), 2) := by decide +kernel
theorem dX4_fewestForAll_29 : decode cX4_fewestForAll 29 = .ok (.if_icmp .eq 15, 3) := by decide +kernel
theorem dX4_fewestForAll_32 : decode cX4_fewestForAll 32 = .ok (.iload 4, 2) := by decide +kernel
theorem dX4_fewestForAll_34 : decode cX4_fewestForAll 34 = .ok (.invokestatic 48, 3) := by decide +kernel
theorem dX4_fewestForAll_37 : decode cX4_fewestForAll 37 = .ok (.iload_n 3, 1) := by decide +kernel
theorem dX4_fewestForAll_38 : decode cX4_fewestForAll 38 = .ok (.invokestatic 48, 3) := by decide +kernel
theorem dX4_fewestForAll_41 : decode cX4_fewestForAll 41 = .ok (.if_icmp .ge 7, 3) := by decide +kernel
theorem dX4_fewestForAll_44 : decode cX4_fewestForAll 44 = .ok (.iconst 1, 1) := by decide +kernel
theorem dX4_fewestForAll_45 : decode cX4_fewestForAll 45 = .ok (.goto 4, 3) := by decide +kernel
theorem dX4_fewestForAll_48 : decode cX4_fewestForAll 48 = .ok (.iconst 0, 1) := by decide +kernel
theorem dX4_fewestForAll_49 : decode cX4_fewestForAll 49 = .ok (.istore 5, 2) := by decide +kernel
theorem dX4_fewestForAll_51 : decode cX4_fewestForAll 51 = .ok (.iload 5, 2) := by decide +kernel
theorem dX4_fewestForAll_53 : decode cX4_fewestForAll 53 = .ok (.ifCond .eq 17, 3) := by decide +kernel
theorem dX4_fewestForAll_56 : decode cX4_fewestForAll 56 = .ok (.aload_n 0, 1) := by decide +kernel
theorem dX4_fewestForAll_57 : decode cX4_fewestForAll 57 = .ok (.getfield 9, 3) := by decide +kernel
theorem dX4_fewestForAll_60 : decode cX4_fewestForAll 60 = .ok (.iload 4, 2) := by decide +kernel
theorem dX4_fewestForAll_62 : decode cX4_fewestForAll 62 = .ok (.iaload, 1) := by decide +kernel
theorem dX4_fewestForAll_63 : decode cX4_fewestForAll 63 = .ok (.iload_n 2, 1) := by decide +kernel
theorem dX4_fewestForAll_64 : decode cX4_fewestForAll 64 = .ok (.if_icmp .ne 6, 3) := by decide +kernel
theorem dX4_fewestForAll_67 : decode cX4_fewestForAll 67 = .ok (.iload 4, 2) := by decide +kernel
theorem dX4_fewestForAll_69 : decode cX4_fewestForAll 69 = .ok (.istore_n 3, 1) := by decide +kernel
theorem dX4_fewestForAll_70 : decode cX4_fewestForAll 70 = .ok (.iinc 4 1, 3) := by decide +kernel
theorem dX4_fewestForAll_73 : decode cX4_fewestForAll 73 = .ok (.goto (-53), 3) := by decide +kernel
theorem dX4_fewestForAll_76 : decode cX4_fewestForAll 76 = .ok (.iload_n 3, 1) := by decide +kernel
theorem dX4_fewestForAll_77 : decode cX4_fewestForAll 77 = .ok (.ireturn, 1) := by decide +kernel
abbrev rX4_fewestForAll : Room := { frames := 4, cells := 0, slots := 0, locals := 95 }
set_option maxHeartbeats 4000000 in
set_option maxRecDepth 100000 in
theorem w_X4_fewestForAll_49 {p : Program} {l : Launch} {e : Env} {s : State} {m : MethodId} {args : Array Value} {below : List Frame} {meth : Method} {c : Code} {D : va_G} {b : Nat} {cs : Cs3} {r : Int32} {S1 : St} {ag20 : Int32 → Int32 → Int32 → Int32 → St → Option (Int32 × St)} (hC : CX p s m args meth c RX4 cX4_fewestForAll 6 D cs) (hr : meth.sig.returnType = (some .int)) (hag20 : ∀ (x1 : Int32) (x2 : Int32) (x3 : Int32) (x4 : Int32) (S : St) (H : Heap) (locs : List Loc) (ls : Array Slot), ag20 x1 x2 x3 x4 S = some (r, S1) → Wd D b cs S H → va_S (AA b) s.heap H locs → lv_has ls 6 [(0, .ref (b + 91)), (1, .int x1), (2, .int x2), (3, .int x3), (4, .int x4)] → W p l e rX4_fewestForAll s m args below meth c H locs 0 0 (MQ below (QX D b cs (some (.int r)) S1) args s 0 0 (AA b)) (F0 m 20 ls [])) : ∀ (x1 : Int32) (x2 : Int32) (x3 : Int32) (x4 : Int32) (y0 : Int32) (S : St) (H : Heap) (locs : List Loc) (ls : Array Slot), q_X4_fewestForAll_49 ag20 x1 x2 x3 x4 y0 S = some (r, S1) → Wd D b cs S H → va_S (AA b) s.heap H locs → lv_has ls 6 [(0, .ref (b + 91)), (1, .int x1), (2, .int x2), (3, .int x3), (4, .int x4)] → W p l e rX4_fewestForAll s m args below meth c H locs 0 0 (MQ below (QX D b cs (some (.int r)) S1) args s 0 0 (AA b)) (F0 m 49 ls [.int y0]) := by
  intro x1 x2 x3 x4 y0 S H locs ls h hW hS hl
  rw [q_X4_fewestForAll_49] at h
  refine lv_istore (lv' := [(5, .int y0), (0, .ref (b + 91)), (1, .int x1), (2, .int x2), (3, .int x3), (4, .int x4)]) hC.1 hC.2.1 dX4_fewestForAll_49 hl (by decide) rfl (fun ls hl => ?_)
  refine lv_iload hC.1 hC.2.1 dX4_fewestForAll_51 (lv_at hl 0 rfl) ?_
  refine lv_if_eq (tgt := 70) hC.1 hC.2.1 dX4_fewestForAll_53 (by decide) (fun hc => ?_) (fun hc => ?_)
  · replace h := xt hc h
    refine lv_iinc (v := x4 + 1) (lv' := [(4, .int (x4 + 1)), (5, .int y0), (0, .ref (b + 91)), (1, .int x1), (2, .int x2), (3, .int x3)]) hC.1 hC.2.1 dX4_fewestForAll_70 hl (k := 5) rfl rfl (by decide) rfl (fun ls hl => ?_)
    refine lv_goto (tgt := 20) hC.1 hC.2.1 dX4_fewestForAll_73 (by decide) ?_
    exact hag20 _ _ _ _ _ _ _ _ h hW hS (lv_sub hl [2, 3, 4, 5, 0] rfl)
  · replace h := xf hc h
    refine lv_aload_n hC.1 hC.2.1 dX4_fewestForAll_56 rfl (lv_at hl 1 rfl) ?_
    refine x_get (C := RX4) (T := TX4) (N := 2) (v := _) hC hW 91 (by decide) rfl rfl uX4 1 (by decide) fl_X4_9 rfl rfl dX4_fewestForAll_57 ?_
    refine lv_iload hC.1 hC.2.1 dX4_fewestForAll_60 (lv_at hl 5 rfl) ?_
    obtain ⟨hi, h⟩ := xg h
    refine x_iald hC hW 92 (by decide) rfl hi dX4_fewestForAll_62 ?_
    refine lv_iload_n hC.1 hC.2.1 dX4_fewestForAll_63 rfl (lv_at hl 3 rfl) ?_
    refine lv_icmp_ne (tgt := 70) hC.1 hC.2.1 dX4_fewestForAll_64 (by decide) (fun hc => ?_) (fun hc => ?_)
    · replace h := xf hc h
      refine lv_iinc (v := x4 + 1) (lv' := [(4, .int (x4 + 1)), (5, .int y0), (0, .ref (b + 91)), (1, .int x1), (2, .int x2), (3, .int x3)]) hC.1 hC.2.1 dX4_fewestForAll_70 hl (k := 5) rfl rfl (by decide) rfl (fun ls hl => ?_)
      refine lv_goto (tgt := 20) hC.1 hC.2.1 dX4_fewestForAll_73 (by decide) ?_
      exact hag20 _ _ _ _ _ _ _ _ h hW hS (lv_sub hl [2, 3, 4, 5, 0] rfl)
    · replace h := xt hc h
      refine lv_iload hC.1 hC.2.1 dX4_fewestForAll_67 (lv_at hl 5 rfl) ?_
      refine lv_istore_n (lv' := [(3, .int x4), (5, .int y0), (0, .ref (b + 91)), (1, .int x1), (2, .int x2), (4, .int x4)]) hC.1 hC.2.1 dX4_fewestForAll_69 rfl hl (by decide) rfl (fun ls hl => ?_)
      refine lv_iinc (v := x4 + 1) (lv' := [(4, .int (x4 + 1)), (3, .int x4), (5, .int y0), (0, .ref (b + 91)), (1, .int x1), (2, .int x2)]) hC.1 hC.2.1 dX4_fewestForAll_70 hl (k := 5) rfl rfl (by decide) rfl (fun ls hl => ?_)
      refine lv_goto (tgt := 20) hC.1 hC.2.1 dX4_fewestForAll_73 (by decide) ?_
      exact hag20 _ _ _ _ _ _ _ _ h hW hS (lv_sub hl [3, 4, 5, 1, 0] rfl)
set_option maxHeartbeats 4000000 in
set_option maxRecDepth 100000 in
theorem w_X4_fewestForAll_44 {p : Program} {l : Launch} {e : Env} {s : State} {m : MethodId} {args : Array Value} {below : List Frame} {meth : Method} {c : Code} {D : va_G} {b : Nat} {cs : Cs3} {r : Int32} {S1 : St} {ag20 : Int32 → Int32 → Int32 → Int32 → St → Option (Int32 × St)} (hC : CX p s m args meth c RX4 cX4_fewestForAll 6 D cs) (hr : meth.sig.returnType = (some .int)) (hag20 : ∀ (x1 : Int32) (x2 : Int32) (x3 : Int32) (x4 : Int32) (S : St) (H : Heap) (locs : List Loc) (ls : Array Slot), ag20 x1 x2 x3 x4 S = some (r, S1) → Wd D b cs S H → va_S (AA b) s.heap H locs → lv_has ls 6 [(0, .ref (b + 91)), (1, .int x1), (2, .int x2), (3, .int x3), (4, .int x4)] → W p l e rX4_fewestForAll s m args below meth c H locs 0 0 (MQ below (QX D b cs (some (.int r)) S1) args s 0 0 (AA b)) (F0 m 20 ls [])) : ∀ (x1 : Int32) (x2 : Int32) (x3 : Int32) (x4 : Int32) (S : St) (H : Heap) (locs : List Loc) (ls : Array Slot), q_X4_fewestForAll_44 ag20 x1 x2 x3 x4 S = some (r, S1) → Wd D b cs S H → va_S (AA b) s.heap H locs → lv_has ls 6 [(0, .ref (b + 91)), (1, .int x1), (2, .int x2), (3, .int x3), (4, .int x4)] → W p l e rX4_fewestForAll s m args below meth c H locs 0 0 (MQ below (QX D b cs (some (.int r)) S1) args s 0 0 (AA b)) (F0 m 44 ls []) := by
  intro x1 x2 x3 x4 S H locs ls h hW hS hl
  rw [q_X4_fewestForAll_44] at h
  refine lv_iconst (v := 1) hC.1 hC.2.1 dX4_fewestForAll_44 (by decide) ?_
  refine lv_goto (tgt := 49) hC.1 hC.2.1 dX4_fewestForAll_45 (by decide) ?_
  exact w_X4_fewestForAll_49 hC hr hag20 _ _ _ _ _ _ _ _ _ h hW hS (lv_sub hl [0, 1, 2, 3, 4] rfl)
set_option maxHeartbeats 4000000 in
set_option maxRecDepth 100000 in
theorem w_X4_fewestForAll_20 {p : Program} {l : Launch} {e : Env} {s : State} {m : MethodId} {args : Array Value} {below : List Frame} {meth : Method} {c : Code} {D : va_G} {b : Nat} {cs : Cs3} {r : Int32} {S1 : St} (hC : CX p s m args meth c RX4 cX4_fewestForAll 6 D cs) (hr : meth.sig.returnType = (some .int)) : ∀ (n : Nat) (x1 : Int32) (x2 : Int32) (x3 : Int32) (x4 : Int32) (S : St) (H : Heap) (locs : List Loc) (ls : Array Slot), q_X4_fewestForAll_20 n x1 x2 x3 x4 S = some (r, S1) → Wd D b cs S H → va_S (AA b) s.heap H locs → lv_has ls 6 [(0, .ref (b + 91)), (1, .int x1), (2, .int x2), (3, .int x3), (4, .int x4)] → W p l e rX4_fewestForAll s m args below meth c H locs 0 0 (MQ below (QX D b cs (some (.int r)) S1) args s 0 0 (AA b)) (F0 m 20 ls []) := by
  intro n
  induction n with
  | zero =>
    intro x1 x2 x3 x4 S H locs ls h
    exact absurd h (by rw [q_X4_fewestForAll_20]; exact fun q => nomatch q)
  | succ n IH =>
    intro x1 x2 x3 x4 S H locs ls h hW hS hl
    rw [q_X4_fewestForAll_20] at h
    refine lv_iload hC.1 hC.2.1 dX4_fewestForAll_20 (lv_at hl 4 rfl) ?_
    refine lv_iload_n hC.1 hC.2.1 dX4_fewestForAll_22 rfl (lv_at hl 1 rfl) ?_
    refine lv_icmp_gt (tgt := 76) hC.1 hC.2.1 dX4_fewestForAll_23 (by decide) (fun hc => ?_) (fun hc => ?_)
    · replace h := xt hc h
      refine lv_iload_n hC.1 hC.2.1 dX4_fewestForAll_76 rfl (lv_at hl 3 rfl) ?_
      obtain ⟨rfl, rfl⟩ := xr h
      exact x_iret hC hr hW hS dX4_fewestForAll_77
    · replace h := xf hc h
      refine lv_iload_n hC.1 hC.2.1 dX4_fewestForAll_26 rfl (lv_at hl 3 rfl) ?_
      refine lv_bipush (v := -9) hC.1 hC.2.1 dX4_fewestForAll_27 (by decide) ?_
      refine lv_icmp_eq (tgt := 44) hC.1 hC.2.1 dX4_fewestForAll_29 (by decide) (fun hc => ?_) (fun hc => ?_)
      · replace h := xt hc h
        exact w_X4_fewestForAll_44 hC hr IH _ _ _ _ _ _ _ _ h hW hS (lv_sub hl [0, 1, 2, 3, 4] rfl)
      · replace h := xf hc h
        refine lv_iload hC.1 hC.2.1 dX4_fewestForAll_32 (lv_at hl 4 rfl) ?_
        obtain ⟨⟨q34_r, q34_S⟩, hq, h⟩ := xb h
        try dsimp only at h
        refine x_callS (As := [.int x4]) (rest := []) hC hW hS (c_J6_bitCount_0f7a4 l D b cs _ _ _ _ hq) mi_J6_bitCount_0f7a4 st_J6_bitCount_0f7a4 ml_X4_48 ⟨rfl, rfl⟩ ⟨Nat.le_of_ble_eq_true rfl, Nat.le_of_ble_eq_true rfl⟩ ⟨Nat.zero_le _, Nat.zero_le _⟩ rfl rfl hl.1 (Nat.le_of_ble_eq_true rfl) dX4_fewestForAll_34 (fun H locs hW hS => ?_)
        refine lv_iload_n hC.1 hC.2.1 dX4_fewestForAll_37 rfl (lv_at hl 3 rfl) ?_
        obtain ⟨⟨q38_r, q38_S⟩, hq, h⟩ := xb h
        try dsimp only at h
        refine x_callS (As := [.int x3]) (rest := [.int q34_r]) hC hW hS (c_J6_bitCount_0f7a4 l D b cs _ _ _ _ hq) mi_J6_bitCount_0f7a4 st_J6_bitCount_0f7a4 ml_X4_48 ⟨rfl, rfl⟩ ⟨Nat.le_of_ble_eq_true rfl, Nat.le_of_ble_eq_true rfl⟩ ⟨Nat.zero_le _, Nat.zero_le _⟩ rfl rfl hl.1 (Nat.le_of_ble_eq_true rfl) dX4_fewestForAll_38 (fun H locs hW hS => ?_)
        refine lv_icmp_ge (tgt := 48) hC.1 hC.2.1 dX4_fewestForAll_41 (by decide) (fun hc => ?_) (fun hc => ?_)
        · replace h := xt hc h
          refine lv_iconst (v := 0) hC.1 hC.2.1 dX4_fewestForAll_48 (by decide) ?_
          exact w_X4_fewestForAll_49 hC hr IH _ _ _ _ _ _ _ _ _ h hW hS (lv_sub hl [0, 1, 2, 3, 4] rfl)
        · replace h := xf hc h
          exact w_X4_fewestForAll_44 hC hr IH _ _ _ _ _ _ _ _ h hW hS (lv_sub hl [0, 1, 2, 3, 4] rfl)
set_option maxHeartbeats 4000000 in
set_option maxRecDepth 100000 in
theorem c_X4_fewestForAll (l : Launch) (D : va_G) (b : Nat) (cs : Cs3) (S S1 : St) (r : Int32) (h : p_X4_fewestForAll S = some (r, S1)) : Ct l yX4_fewestForAll cX4_fewestForAll 6 (some .int) rX4_fewestForAll D b cs [.ref (b + 91)] S (some (.int r)) S1 := by
  refine x_met (by decide +kernel) (Nat.le_of_ble_eq_true rfl) ?_
  intro p e s m below meth c ls hC hr hW hS hl
  have hl : lv_has ls 6 [(0, .ref (b + 91))] := hl
  rw [p_X4_fewestForAll] at h
  refine lv_aload_n hC.1 hC.2.1 dX4_fewestForAll_0 rfl (lv_at hl 0 rfl) ?_
  obtain ⟨q1, hq, h⟩ := xb h
  try dsimp only at h
  refine x_callV (T := TX4) (N := 2) (As := []) (rest := []) hC hW hS 91 (c_X4_takeKeys l D b cs _ _ hq) (by decide) rfl rfl mi_X4_takeKeys in_X4_takeKeys sl_X4_takeKeys ml_X4_38 ⟨rfl, rfl⟩ ⟨Nat.le_of_ble_eq_true rfl, Nat.le_of_ble_eq_true rfl⟩ ⟨Nat.zero_le _, Nat.zero_le _⟩ rfl rfl hl.1 (Nat.le_of_ble_eq_true rfl) dX4_fewestForAll_1 (fun H locs hW hS => ?_)
  refine lv_aload_n hC.1 hC.2.1 dX4_fewestForAll_4 rfl (lv_at hl 0 rfl) ?_
  obtain ⟨⟨q5_r, q5_S⟩, hq, h⟩ := xb h
  try dsimp only at h
  refine x_callV (T := TX4) (N := 2) (As := []) (rest := []) hC hW hS 91 (c_X4_allBoys l D b cs _ _ _ hq) (by decide) rfl rfl mi_X4_allBoys in_X4_allBoys sl_X4_allBoys ml_X4_41 ⟨rfl, rfl⟩ ⟨Nat.le_of_ble_eq_true rfl, Nat.le_of_ble_eq_true rfl⟩ ⟨Nat.zero_le _, Nat.zero_le _⟩ rfl rfl hl.1 (Nat.le_of_ble_eq_true rfl) dX4_fewestForAll_5 (fun H locs hW hS => ?_)
  refine lv_istore_n (lv' := [(1, .int q5_r), (0, .ref (b + 91))]) hC.1 hC.2.1 dX4_fewestForAll_8 rfl hl (by decide) rfl (fun ls hl => ?_)
  refine lv_aload_n hC.1 hC.2.1 dX4_fewestForAll_9 rfl (lv_at hl 1 rfl) ?_
  obtain ⟨⟨q10_r, q10_S⟩, hq, h⟩ := xb h
  try dsimp only at h
  refine x_callV (T := TX4) (N := 2) (As := []) (rest := []) hC hW hS 91 (c_X4_allDoors l D b cs _ _ _ hq) (by decide) rfl rfl mi_X4_allDoors in_X4_allDoors sl_X4_allDoors ml_X4_45 ⟨rfl, rfl⟩ ⟨Nat.le_of_ble_eq_true rfl, Nat.le_of_ble_eq_true rfl⟩ ⟨Nat.zero_le _, Nat.zero_le _⟩ rfl rfl hl.1 (Nat.le_of_ble_eq_true rfl) dX4_fewestForAll_10 (fun H locs hW hS => ?_)
  refine lv_istore_n (lv' := [(2, .int q10_r), (1, .int q5_r), (0, .ref (b + 91))]) hC.1 hC.2.1 dX4_fewestForAll_13 rfl hl (by decide) rfl (fun ls hl => ?_)
  refine lv_bipush (v := -9) hC.1 hC.2.1 dX4_fewestForAll_14 (by decide) ?_
  refine lv_istore_n (lv' := [(3, .int (-9 : Int32)), (2, .int q10_r), (1, .int q5_r), (0, .ref (b + 91))]) hC.1 hC.2.1 dX4_fewestForAll_16 rfl hl (by decide) rfl (fun ls hl => ?_)
  refine lv_iconst (v := 0) hC.1 hC.2.1 dX4_fewestForAll_17 (by decide) ?_
  refine lv_istore (lv' := [(4, .int (0 : Int32)), (3, .int (-9 : Int32)), (2, .int q10_r), (1, .int q5_r), (0, .ref (b + 91))]) hC.1 hC.2.1 dX4_fewestForAll_18 hl (by decide) rfl (fun ls hl => ?_)
  exact w_X4_fewestForAll_20 hC hr _ _ _ _ _ _ _ _ _ h hW hS (lv_sub hl [4, 3, 2, 1, 0] rfl)
