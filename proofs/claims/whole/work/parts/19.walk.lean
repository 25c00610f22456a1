-- walks: X10_keysIn X10_keys X10_openers X10_wider X10_reachBy X10_shutOf X10_door X10_boy X10_atHome X10_coverOf X10_now
theorem dX10_keysIn_0 : decode cX10_keysIn 0 = .ok (.aload_n 0, 1) := by decide +kernel
theorem dX10_keysIn_1 : decode cX10_keysIn 1 = .ok (.getfield 40, 3) := by decide +kernel
theorem dX10_keysIn_4 : decode cX10_keysIn 4 = .ok (.iconst 5, 1) := by decide +kernel
theorem dX10_keysIn_5 : decode cX10_keysIn 5 = .ok (.iload_n 1, 1) := by decide +kernel
theorem dX10_keysIn_6 : decode cX10_keysIn 6 = .ok (.iadd, 1) := by decide +kernel
theorem dX10_keysIn_7 : decode cX10_keysIn 7 = .ok (.iaload, 1) := by decide +kernel
theorem dX10_keysIn_8 : decode cX10_keysIn 8 = .ok (.iload_n 2, 1) := by decide +kernel
theorem dX10_keysIn_9 : decode cX10_keysIn 9 = .ok (.iadd, 1) := by decide +kernel
theorem dX10_keysIn_10 : decode cX10_keysIn 10 = .ok (.istore_n 3, 1) := by decide +kernel
theorem dX10_keysIn_11 : decode cX10_keysIn 11 = .ok (.iload_n 2, 1) := by decide +kernel
theorem dX10_keysIn_12 : decode cX10_keysIn 12 = .ok (.ifCond .ne 15, 3) := by decide +kernel
theorem dX10_keysIn_15 : decode cX10_keysIn 15 = .ok (.aload_n 0, 1) := by decide +kernel
theorem dX10_keysIn_16 : decode cX10_keysIn 16 = .ok (.getfield 40, 3) := by decide +kernel
theorem dX10_keysIn_19 : decode cX10_keysIn 19 = .ok (.bipush 10, 2) := by decide +kernel
theorem dX10_keysIn_21 : decode cX10_keysIn 21 = .ok (.iload_n 1, 1) := by decide +kernel
theorem dX10_keysIn_22 : decode cX10_keysIn 22 = .ok (.iadd, 1) := by decide +kernel
theorem dX10_keysIn_23 : decode cX10_keysIn 23 = .ok (.iaload, 1) := by decide +kernel
theorem dX10_keysIn_24 : decode cX10_keysIn 24 = .ok (.goto 4, 3) := by decide +kernel
theorem dX10_keysIn_27 : decode cX10_keysIn 27 = .ok (.iconst 0, 1) := by decide +kernel
theorem dX10_keysIn_28 : decode cX10_keysIn 28 = .ok (.istore 4, 2) := by decide +kernel
theorem dX10_keysIn_30 : decode cX10_keysIn 30 = .ok (.iconst 0, 1) := by decide +kernel
theorem dX10_keysIn_31 : decode cX10_keysIn 31 = .ok (.istore 5, 2) := by decide +kernel
theorem dX10_keysIn_33 : decode cX10_keysIn 33 = .ok (.iconst 0, 1) := by decide +kernel
theorem dX10_keysIn_34 : decode cX10_keysIn 34 = .ok (.istore 6, 2) := by decide +kernel
theorem dX10_keysIn_36 : decode cX10_keysIn 36 = .ok (.iload 6, 2) := by decide +kernel
theorem dX10_keysIn_38 : decode cX10_keysIn 38 = .ok (.aload_n 0, 1) := by decide +kernel
theorem dX10_keysIn_39 : decode cX10_keysIn 39 = .ok (.getfield 13, 3) := by decide +kernel
theorem dX10_keysIn_42 : decode cX10_keysIn 42 = .ok (.iconst 1, 1) := by decide +kernel
theorem dX10_keysIn_43 : decode cX10_keysIn 43 = .ok (.iaload, 1) := by decide +kernel
theorem dX10_keysIn_44 : decode cX10_keysIn 44 = .ok (.if_icmp .ge 79, 3) := by decide +kernel
theorem dX10_keysIn_47 : decode cX10_keysIn 47 = .ok (.aload_n 0, 1) := by decide +kernel
theorem dX10_keysIn_48 : decode cX10_keysIn 48 = .ok (.getfield 40, 3) := by decide +kernel
theorem dX10_keysIn_51 : decode cX10_keysIn 51 = .ok (.bipush 23, 2) := by decide +kernel
theorem dX10_keysIn_53 : decode cX10_keysIn 53 = .ok (.iaload, 1) := by decide +kernel
theorem dX10_keysIn_54 : decode cX10_keysIn 54 = .ok (.iload 6, 2) := by decide +kernel
theorem dX10_keysIn_56 : decode cX10_keysIn 56 = .ok (.invokestatic 138, 3) := by decide +kernel
theorem dX10_keysIn_59 : decode cX10_keysIn 59 = .ok (.ifCond .ne 33, 3) := by decide +kernel
theorem dX10_keysIn_62 : decode cX10_keysIn 62 = .ok (.aload_n 0, 1) := by decide +kernel
theorem dX10_keysIn_63 : decode cX10_keysIn 63 = .ok (.getfield 40, 3) := by decide +kernel
theorem dX10_keysIn_66 : decode cX10_keysIn 66 = .ok (.bipush 15, 2) := by decide +kernel
theorem dX10_keysIn_68 : decode cX10_keysIn 68 = .ok (.iload 6, 2) := by decide +kernel
theorem dX10_keysIn_70 : decode cX10_keysIn 70 = .ok (.iadd, 1) := by decide +kernel
theorem dX10_keysIn_71 : decode cX10_keysIn 71 = .ok (.iaload, 1) := by decide +kernel
theorem dX10_keysIn_72 : decode cX10_keysIn 72 = .ok (.aload_n 0, 1) := by decide +kernel
theorem dX10_keysIn_73 : decode cX10_keysIn 73 = .ok (.iload_n 1, 1) := by decide +kernel
theorem dX10_keysIn_74 : decode cX10_keysIn 74 = .ok (.iload_n 3, 1) := by decide +kernel
theorem dX10_keysIn_75 : decode cX10_keysIn 75 = .ok (.invokevirtual 131, 3) := by decide +kernel
theorem dX10_keysIn_78 : decode cX10_keysIn 78 = .ok (.aload_n 0, 1) := by decide +kernel
theorem dX10_keysIn_79 : decode cX10_keysIn 79 = .ok (.iload_n 1, 1) := by decide +kernel
theorem dX10_keysIn_80 : decode cX10_keysIn 80 = .ok (.iload_n 3, 1) := by decide +kernel
theorem dX10_keysIn_81 : decode cX10_keysIn 81 = .ok (.iload 4, 2) := by decide +kernel
theorem dX10_keysIn_83 : decode cX10_keysIn 83 = .ok (.invokevirtual 134, 3) := by decide +kernel
theorem dX10_keysIn_86 : decode cX10_keysIn 86 = .ok (.invokestatic 69, 3) := by decide +kernel
theorem dX10_keysIn_89 : decode cX10_keysIn 89 = .ok (.ifCond .eq 7, 3) := by decide +kernel
theorem dX10_keysIn_92 : decode cX10_keysIn 92 = .ok (.iconst 1, 1) := by decide +kernel
theorem dX10_keysIn_93 : decode cX10_keysIn 93 = .ok (.goto 4, 3) := by decide +kernel
theorem dX10_keysIn_96 : decode cX10_keysIn 96 = .ok (.iconst 0, 1) := by decide +kernel
theorem dX10_keysIn_97 : decode cX10_keysIn 97 = .ok (.istore 7, 2) := by decide +kernel
theorem dX10_keysIn_99 : decode cX10_keysIn 99 = .ok (.iload 5, 2) := by decide +kernel
theorem dX10_keysIn_101 : decode cX10_keysIn 101 = .ok (.iload 7, 2) := by decide +kernel
theorem dX10_keysIn_103 : decode cX10_keysIn 103 = .ok (.ifCond .eq 10, 3) := by decide +kernel
theorem dX10_keysIn_106 : decode cX10_keysIn 106 = .ok (.iconst 1, 1) := by decide +kernel
theorem dX10_keysIn_107 : decode cX10_keysIn 107 = .ok (.iload 6, 2) := by decide +kernel
theorem dX10_keysIn_109 : decode cX10_keysIn 109 = .ok (.ishl, 1) := by decide +kernel
theorem dX10_keysIn_110 : decode cX10_keysIn 110 = .ok (.goto 4, 3) := by decide +kernel
theorem dX10_keysIn_113 : decode cX10_keysIn 113 = .ok (.iconst 0, 1) := by decide +kernel
theorem dX10_keysIn_114 : decode cX10_keysIn 114 = .ok (.ior, 1) := by decide +kernel
theorem dX10_keysIn_115 : decode cX10_keysIn 115 = .ok (.istore 5, 2) := by decide +kernel
theorem dX10_keysIn_117 : decode cX10_keysIn 117 = .ok (.iinc 6 1, 3) := by decide +kernel
theorem dX10_keysIn_120 : decode cX10_keysIn 120 = .ok (.goto (-84), 3) := by decide +kernel
theorem dX10_keysIn_123 : decode cX10_keysIn 123 = .ok (.iload 5, 2) := by decide +kernel
theorem dX10_keysIn_125 : decode cX10_keysIn 125 = .ok (.ireturn, 1) := by decide +kernel
abbrev rX10_keysIn : Room := { frames := 1, cells := 0, slots := 0, locals := 23 }
set_option maxHeartbeats 4000000 in
set_option maxRecDepth 100000 in
theorem w_X10_keysIn_97 {p : Program} {l : Launch} {e : Env} {s : State} {m : MethodId} {args : Array Value} {below : List Frame} {meth : Method} {c : Code} {D : va_G} {b : Nat} {cs : Cs3} {r : Int32} {S1 : St} {ag36 : Int32 → Int32 → Int32 → Int32 → Int32 → St → Option (Int32 × St)} (hC : CX p s m args meth c RX10 cX10_keysIn 8 D cs) (hr : meth.sig.returnType = (some .int)) (hag36 : ∀ (x1 : Int32) (x3 : Int32) (x4 : Int32) (x5 : Int32) (x6 : Int32) (S : St) (H : Heap) (locs : List Loc) (ls : Array Slot), ag36 x1 x3 x4 x5 x6 S = some (r, S1) → Wd D b cs S H → va_S (AA b) s.heap H locs → lv_has ls 8 [(0, .ref (b + 99)), (1, .int x1), (3, .int x3), (4, .int x4), (5, .int x5), (6, .int x6)] → W p l e rX10_keysIn s m args below meth c H locs 0 0 (MQ below (QX D b cs (some (.int r)) S1) args s 0 0 (AA b)) (F0 m 36 ls [])) : ∀ (x1 : Int32) (x3 : Int32) (x4 : Int32) (x5 : Int32) (x6 : Int32) (y0 : Int32) (S : St) (H : Heap) (locs : List Loc) (ls : Array Slot), q_X10_keysIn_97 ag36 x1 x3 x4 x5 x6 y0 S = some (r, S1) → Wd D b cs S H → va_S (AA b) s.heap H locs → lv_has ls 8 [(0, .ref (b + 99)), (1, .int x1), (3, .int x3), (4, .int x4), (5, .int x5), (6, .int x6)] → W p l e rX10_keysIn s m args below meth c H locs 0 0 (MQ below (QX D b cs (some (.int r)) S1) args s 0 0 (AA b)) (F0 m 97 ls [.int y0]) := by
  intro x1 x3 x4 x5 x6 y0 S H locs ls h hW hS hl
  rw [q_X10_keysIn_97] at h
  refine lv_istore (lv' := [(7, .int y0), (0, .ref (b + 99)), (1, .int x1), (3, .int x3), (4, .int x4), (5, .int x5), (6, .int x6)]) hC.1 hC.2.1 dX10_keysIn_97 hl (by decide) rfl (fun ls hl => ?_)
  refine lv_iload hC.1 hC.2.1 dX10_keysIn_99 (lv_at hl 5 rfl) ?_
  refine lv_iload hC.1 hC.2.1 dX10_keysIn_101 (lv_at hl 0 rfl) ?_
  refine lv_if_eq (tgt := 113) hC.1 hC.2.1 dX10_keysIn_103 (by decide) (fun hc => ?_) (fun hc => ?_)
  · replace h := xt hc h
    refine lv_iconst (v := 0) hC.1 hC.2.1 dX10_keysIn_113 (by decide) ?_
    refine lv_ior hC.1 hC.2.1 dX10_keysIn_114 ?_
    refine lv_istore (lv' := [(5, .int (x5 ||| (0 : Int32))), (7, .int y0), (0, .ref (b + 99)), (1, .int x1), (3, .int x3), (4, .int x4), (6, .int x6)]) hC.1 hC.2.1 dX10_keysIn_115 hl (by decide) rfl (fun ls hl => ?_)
    refine lv_iinc (v := x6 + 1) (lv' := [(6, .int (x6 + 1)), (5, .int (x5 ||| (0 : Int32))), (7, .int y0), (0, .ref (b + 99)), (1, .int x1), (3, .int x3), (4, .int x4)]) hC.1 hC.2.1 dX10_keysIn_117 hl (k := 6) rfl rfl (by decide) rfl (fun ls hl => ?_)
    refine lv_goto (tgt := 36) hC.1 hC.2.1 dX10_keysIn_120 (by decide) ?_
    exact hag36 _ _ _ _ _ _ _ _ _ h hW hS (lv_sub hl [3, 4, 5, 6, 1, 0] rfl)
  · replace h := xf hc h
    refine lv_iconst (v := 1) hC.1 hC.2.1 dX10_keysIn_106 (by decide) ?_
    refine lv_iload hC.1 hC.2.1 dX10_keysIn_107 (lv_at hl 6 rfl) ?_
    refine lv_ishl hC.1 hC.2.1 dX10_keysIn_109 ?_
    refine lv_goto (tgt := 114) hC.1 hC.2.1 dX10_keysIn_110 (by decide) ?_
    refine lv_ior hC.1 hC.2.1 dX10_keysIn_114 ?_
    refine lv_istore (lv' := [(5, .int (x5 ||| ((1 : Int32) <<< (x6 &&& 31)))), (7, .int y0), (0, .ref (b + 99)), (1, .int x1), (3, .int x3), (4, .int x4), (6, .int x6)]) hC.1 hC.2.1 dX10_keysIn_115 hl (by decide) rfl (fun ls hl => ?_)
    refine lv_iinc (v := x6 + 1) (lv' := [(6, .int (x6 + 1)), (5, .int (x5 ||| ((1 : Int32) <<< (x6 &&& 31)))), (7, .int y0), (0, .ref (b + 99)), (1, .int x1), (3, .int x3), (4, .int x4)]) hC.1 hC.2.1 dX10_keysIn_117 hl (k := 6) rfl rfl (by decide) rfl (fun ls hl => ?_)
    refine lv_goto (tgt := 36) hC.1 hC.2.1 dX10_keysIn_120 (by decide) ?_
    exact hag36 _ _ _ _ _ _ _ _ _ h hW hS (lv_sub hl [3, 4, 5, 6, 1, 0] rfl)
set_option maxHeartbeats 4000000 in
set_option maxRecDepth 100000 in
theorem w_X10_keysIn_92 {p : Program} {l : Launch} {e : Env} {s : State} {m : MethodId} {args : Array Value} {below : List Frame} {meth : Method} {c : Code} {D : va_G} {b : Nat} {cs : Cs3} {r : Int32} {S1 : St} {ag36 : Int32 → Int32 → Int32 → Int32 → Int32 → St → Option (Int32 × St)} (hC : CX p s m args meth c RX10 cX10_keysIn 8 D cs) (hr : meth.sig.returnType = (some .int)) (hag36 : ∀ (x1 : Int32) (x3 : Int32) (x4 : Int32) (x5 : Int32) (x6 : Int32) (S : St) (H : Heap) (locs : List Loc) (ls : Array Slot), ag36 x1 x3 x4 x5 x6 S = some (r, S1) → Wd D b cs S H → va_S (AA b) s.heap H locs → lv_has ls 8 [(0, .ref (b + 99)), (1, .int x1), (3, .int x3), (4, .int x4), (5, .int x5), (6, .int x6)] → W p l e rX10_keysIn s m args below meth c H locs 0 0 (MQ below (QX D b cs (some (.int r)) S1) args s 0 0 (AA b)) (F0 m 36 ls [])) : ∀ (x1 : Int32) (x3 : Int32) (x4 : Int32) (x5 : Int32) (x6 : Int32) (S : St) (H : Heap) (locs : List Loc) (ls : Array Slot), q_X10_keysIn_92 ag36 x1 x3 x4 x5 x6 S = some (r, S1) → Wd D b cs S H → va_S (AA b) s.heap H locs → lv_has ls 8 [(0, .ref (b + 99)), (1, .int x1), (3, .int x3), (4, .int x4), (5, .int x5), (6, .int x6)] → W p l e rX10_keysIn s m args below meth c H locs 0 0 (MQ below (QX D b cs (some (.int r)) S1) args s 0 0 (AA b)) (F0 m 92 ls []) := by
  intro x1 x3 x4 x5 x6 S H locs ls h hW hS hl
  rw [q_X10_keysIn_92] at h
  refine lv_iconst (v := 1) hC.1 hC.2.1 dX10_keysIn_92 (by decide) ?_
  refine lv_goto (tgt := 97) hC.1 hC.2.1 dX10_keysIn_93 (by decide) ?_
  exact w_X10_keysIn_97 hC hr hag36 _ _ _ _ _ _ _ _ _ _ h hW hS (lv_sub hl [0, 1, 2, 3, 4, 5] rfl)
set_option maxHeartbeats 4000000 in
set_option maxRecDepth 100000 in
theorem w_X10_keysIn_36 {p : Program} {l : Launch} {e : Env} {s : State} {m : MethodId} {args : Array Value} {below : List Frame} {meth : Method} {c : Code} {D : va_G} {b : Nat} {cs : Cs3} {r : Int32} {S1 : St} (hC : CX p s m args meth c RX10 cX10_keysIn 8 D cs) (hr : meth.sig.returnType = (some .int)) : ∀ (n : Nat) (x1 : Int32) (x3 : Int32) (x4 : Int32) (x5 : Int32) (x6 : Int32) (S : St) (H : Heap) (locs : List Loc) (ls : Array Slot), q_X10_keysIn_36 n x1 x3 x4 x5 x6 S = some (r, S1) → Wd D b cs S H → va_S (AA b) s.heap H locs → lv_has ls 8 [(0, .ref (b + 99)), (1, .int x1), (3, .int x3), (4, .int x4), (5, .int x5), (6, .int x6)] → W p l e rX10_keysIn s m args below meth c H locs 0 0 (MQ below (QX D b cs (some (.int r)) S1) args s 0 0 (AA b)) (F0 m 36 ls []) := by
  intro n
  induction n with
  | zero =>
    intro x1 x3 x4 x5 x6 S H locs ls h
    exact absurd h (by rw [q_X10_keysIn_36]; exact fun q => nomatch q)
  | succ n IH =>
    intro x1 x3 x4 x5 x6 S H locs ls h hW hS hl
    rw [q_X10_keysIn_36] at h
    refine lv_iload hC.1 hC.2.1 dX10_keysIn_36 (lv_at hl 5 rfl) ?_
    refine lv_aload_n hC.1 hC.2.1 dX10_keysIn_38 rfl (lv_at hl 0 rfl) ?_
    refine x_get (C := RX10) (T := TX10) (N := 27) (v := _) hC hW 99 (by decide) rfl rfl uX10 10 (by decide) fl_X10_13 rfl rfl dX10_keysIn_39 ?_
    refine lv_iconst (v := 1) hC.1 hC.2.1 dX10_keysIn_42 (by decide) ?_
    obtain ⟨hi, h⟩ := xg h
    refine x_iald hC hW 101 (by decide) rfl hi dX10_keysIn_43 ?_
    refine lv_icmp_ge (tgt := 123) hC.1 hC.2.1 dX10_keysIn_44 (by decide) (fun hc => ?_) (fun hc => ?_)
    · replace h := xt hc h
      refine lv_iload hC.1 hC.2.1 dX10_keysIn_123 (lv_at hl 4 rfl) ?_
      obtain ⟨rfl, rfl⟩ := xr h
      exact x_iret hC hr hW hS dX10_keysIn_125
    · replace h := xf hc h
      refine lv_aload_n hC.1 hC.2.1 dX10_keysIn_47 rfl (lv_at hl 0 rfl) ?_
      refine x_get (C := RX10) (T := TX10) (N := 27) (v := _) hC hW 99 (by decide) rfl rfl uX10 19 (by decide) fl_X10_40 rfl rfl dX10_keysIn_48 ?_
      refine lv_bipush (v := 23) hC.1 hC.2.1 dX10_keysIn_51 (by decide) ?_
      obtain ⟨hi, h⟩ := xg h
      refine x_iald hC hW 110 (by decide) rfl hi dX10_keysIn_53 ?_
      refine lv_iload hC.1 hC.2.1 dX10_keysIn_54 (lv_at hl 5 rfl) ?_
      obtain ⟨⟨q56_r, q56_S⟩, hq, h⟩ := xb h
      try dsimp only at h
      refine x_callS (As := [.int (S.1 110 (23 : Int32).toNatClampNeg), .int x6]) (rest := []) hC hW hS (c_X10_has l D b cs _ _ _ _ _ hq) mi_X10_has st_X10_has ml_X10_138 ⟨rfl, rfl⟩ ⟨Nat.le_of_ble_eq_true rfl, Nat.le_of_ble_eq_true rfl⟩ ⟨Nat.zero_le _, Nat.zero_le _⟩ rfl rfl hl.1 (Nat.le_of_ble_eq_true rfl) dX10_keysIn_56 (fun H locs hW hS => ?_)
      refine lv_if_ne (tgt := 92) hC.1 hC.2.1 dX10_keysIn_59 (by decide) (fun hc => ?_) (fun hc => ?_)
      · replace h := xf hc h
        exact w_X10_keysIn_92 hC hr IH _ _ _ _ _ _ _ _ _ h hW hS (lv_sub hl [0, 1, 2, 3, 4, 5] rfl)
      · replace h := xt hc h
        refine lv_aload_n hC.1 hC.2.1 dX10_keysIn_62 rfl (lv_at hl 0 rfl) ?_
        refine x_get (C := RX10) (T := TX10) (N := 27) (v := _) hC hW 99 (by decide) rfl rfl uX10 19 (by decide) fl_X10_40 rfl rfl dX10_keysIn_63 ?_
        refine lv_bipush (v := 15) hC.1 hC.2.1 dX10_keysIn_66 (by decide) ?_
        refine lv_iload hC.1 hC.2.1 dX10_keysIn_68 (lv_at hl 5 rfl) ?_
        refine lv_iadd hC.1 hC.2.1 dX10_keysIn_70 ?_
        obtain ⟨hi, h⟩ := xg h
        refine x_iald hC hW 110 (by decide) rfl hi dX10_keysIn_71 ?_
        refine lv_aload_n hC.1 hC.2.1 dX10_keysIn_72 rfl (lv_at hl 0 rfl) ?_
        refine lv_iload_n hC.1 hC.2.1 dX10_keysIn_73 rfl (lv_at hl 1 rfl) ?_
        refine lv_iload_n hC.1 hC.2.1 dX10_keysIn_74 rfl (lv_at hl 2 rfl) ?_
        obtain ⟨⟨q75_r, q75_S⟩, hq, h⟩ := xb h
        try dsimp only at h
        refine x_callV (T := TX10) (N := 27) (As := [.int x1, .int x3]) (rest := [.int (q56_S.1 110 ((15 : Int32) + x6).toNatClampNeg)]) hC hW hS 99 (c_X10_lowest l D b cs _ _ _ _ _ hq) (by decide) rfl rfl mi_X10_lowest in_X10_lowest sl_X10_lowest ml_X10_131 ⟨rfl, rfl⟩ ⟨Nat.le_of_ble_eq_true rfl, Nat.le_of_ble_eq_true rfl⟩ ⟨Nat.zero_le _, Nat.zero_le _⟩ rfl rfl hl.1 (Nat.le_of_ble_eq_true rfl) dX10_keysIn_75 (fun H locs hW hS => ?_)
        refine lv_aload_n hC.1 hC.2.1 dX10_keysIn_78 rfl (lv_at hl 0 rfl) ?_
        refine lv_iload_n hC.1 hC.2.1 dX10_keysIn_79 rfl (lv_at hl 1 rfl) ?_
        refine lv_iload_n hC.1 hC.2.1 dX10_keysIn_80 rfl (lv_at hl 2 rfl) ?_
        refine lv_iload hC.1 hC.2.1 dX10_keysIn_81 (lv_at hl 3 rfl) ?_
        obtain ⟨⟨q83_r, q83_S⟩, hq, h⟩ := xb h
        try dsimp only at h
        refine x_callV (T := TX10) (N := 27) (As := [.int x1, .int x3, .int x4]) (rest := [.int q75_r, .int (q56_S.1 110 ((15 : Int32) + x6).toNatClampNeg)]) hC hW hS 99 (c_X10_highest l D b cs _ _ _ _ _ _ hq) (by decide) rfl rfl mi_X10_highest in_X10_highest sl_X10_highest ml_X10_134 ⟨rfl, rfl⟩ ⟨Nat.le_of_ble_eq_true rfl, Nat.le_of_ble_eq_true rfl⟩ ⟨Nat.zero_le _, Nat.zero_le _⟩ rfl rfl hl.1 (Nat.le_of_ble_eq_true rfl) dX10_keysIn_83 (fun H locs hW hS => ?_)
        obtain ⟨⟨q86_r, q86_S⟩, hq, h⟩ := xb h
        try dsimp only at h
        refine x_callS (As := [.int (q56_S.1 110 ((15 : Int32) + x6).toNatClampNeg), .int q75_r, .int q83_r]) (rest := []) hC hW hS (c_X10_in l D b cs _ _ _ _ _ _ hq) mi_X10_in st_X10_in ml_X10_69 ⟨rfl, rfl⟩ ⟨Nat.le_of_ble_eq_true rfl, Nat.le_of_ble_eq_true rfl⟩ ⟨Nat.zero_le _, Nat.zero_le _⟩ rfl rfl hl.1 (Nat.le_of_ble_eq_true rfl) dX10_keysIn_86 (fun H locs hW hS => ?_)
        refine lv_if_eq (tgt := 96) hC.1 hC.2.1 dX10_keysIn_89 (by decide) (fun hc => ?_) (fun hc => ?_)
        · replace h := xt hc h
          refine lv_iconst (v := 0) hC.1 hC.2.1 dX10_keysIn_96 (by decide) ?_
          exact w_X10_keysIn_97 hC hr IH _ _ _ _ _ _ _ _ _ _ h hW hS (lv_sub hl [0, 1, 2, 3, 4, 5] rfl)
        · replace h := xf hc h
          exact w_X10_keysIn_92 hC hr IH _ _ _ _ _ _ _ _ _ h hW hS (lv_sub hl [0, 1, 2, 3, 4, 5] rfl)
set_option maxHeartbeats 4000000 in
set_option maxRecDepth 100000 in
theorem c_X10_keysIn (l : Launch) (D : va_G) (b : Nat) (cs : Cs3) (x1 : Int32) (x2 : Int32) (S S1 : St) (r : Int32) (h : p_X10_keysIn x1 x2 S = some (r, S1)) : Ct l yX10_keysIn cX10_keysIn 8 (some .int) rX10_keysIn D b cs [.ref (b + 99), .int x1, .int x2] S (some (.int r)) S1 := by
  refine x_met (by decide +kernel) (Nat.le_of_ble_eq_true rfl) ?_
  intro p e s m below meth c ls hC hr hW hS hl
  have hl : lv_has ls 8 [(0, .ref (b + 99)), (1, .int x1), (2, .int x2)] := hl
  rw [p_X10_keysIn] at h
  refine lv_aload_n hC.1 hC.2.1 dX10_keysIn_0 rfl (lv_at hl 0 rfl) ?_
  refine x_get (C := RX10) (T := TX10) (N := 27) (v := _) hC hW 99 (by decide) rfl rfl uX10 19 (by decide) fl_X10_40 rfl rfl dX10_keysIn_1 ?_
  refine lv_iconst (v := 5) hC.1 hC.2.1 dX10_keysIn_4 (by decide) ?_
  refine lv_iload_n hC.1 hC.2.1 dX10_keysIn_5 rfl (lv_at hl 1 rfl) ?_
  refine lv_iadd hC.1 hC.2.1 dX10_keysIn_6 ?_
  obtain ⟨hi, h⟩ := xg h
  refine x_iald hC hW 110 (by decide) rfl hi dX10_keysIn_7 ?_
  refine lv_iload_n hC.1 hC.2.1 dX10_keysIn_8 rfl (lv_at hl 2 rfl) ?_
  refine lv_iadd hC.1 hC.2.1 dX10_keysIn_9 ?_
  refine lv_istore_n (lv' := [(3, .int ((S.1 110 ((5 : Int32) + x1).toNatClampNeg) + x2)), (0, .ref (b + 99)), (1, .int x1), (2, .int x2)]) hC.1 hC.2.1 dX10_keysIn_10 rfl hl (by decide) rfl (fun ls hl => ?_)
  refine lv_iload_n hC.1 hC.2.1 dX10_keysIn_11 rfl (lv_at hl 3 rfl) ?_
  refine lv_if_ne (tgt := 27) hC.1 hC.2.1 dX10_keysIn_12 (by decide) (fun hc => ?_) (fun hc => ?_)
  · replace h := xf hc h
    refine lv_iconst (v := 0) hC.1 hC.2.1 dX10_keysIn_27 (by decide) ?_
    refine lv_istore (lv' := [(4, .int (0 : Int32)), (3, .int ((S.1 110 ((5 : Int32) + x1).toNatClampNeg) + x2)), (0, .ref (b + 99)), (1, .int x1), (2, .int x2)]) hC.1 hC.2.1 dX10_keysIn_28 hl (by decide) rfl (fun ls hl => ?_)
    refine lv_iconst (v := 0) hC.1 hC.2.1 dX10_keysIn_30 (by decide) ?_
    refine lv_istore (lv' := [(5, .int (0 : Int32)), (4, .int (0 : Int32)), (3, .int ((S.1 110 ((5 : Int32) + x1).toNatClampNeg) + x2)), (0, .ref (b + 99)), (1, .int x1), (2, .int x2)]) hC.1 hC.2.1 dX10_keysIn_31 hl (by decide) rfl (fun ls hl => ?_)
    refine lv_iconst (v := 0) hC.1 hC.2.1 dX10_keysIn_33 (by decide) ?_
    refine lv_istore (lv' := [(6, .int (0 : Int32)), (5, .int (0 : Int32)), (4, .int (0 : Int32)), (3, .int ((S.1 110 ((5 : Int32) + x1).toNatClampNeg) + x2)), (0, .ref (b + 99)), (1, .int x1), (2, .int x2)]) hC.1 hC.2.1 dX10_keysIn_34 hl (by decide) rfl (fun ls hl => ?_)
    exact w_X10_keysIn_36 hC hr _ _ _ _ _ _ _ _ _ _ h hW hS (lv_sub hl [4, 5, 3, 2, 1, 0] rfl)
  · replace h := xt hc h
    refine lv_aload_n hC.1 hC.2.1 dX10_keysIn_15 rfl (lv_at hl 1 rfl) ?_
    refine x_get (C := RX10) (T := TX10) (N := 27) (v := _) hC hW 99 (by decide) rfl rfl uX10 19 (by decide) fl_X10_40 rfl rfl dX10_keysIn_16 ?_
    refine lv_bipush (v := 10) hC.1 hC.2.1 dX10_keysIn_19 (by decide) ?_
    refine lv_iload_n hC.1 hC.2.1 dX10_keysIn_21 rfl (lv_at hl 2 rfl) ?_
    refine lv_iadd hC.1 hC.2.1 dX10_keysIn_22 ?_
    obtain ⟨hi, h⟩ := xg h
    refine x_iald hC hW 110 (by decide) rfl hi dX10_keysIn_23 ?_
    refine lv_goto (tgt := 28) hC.1 hC.2.1 dX10_keysIn_24 (by decide) ?_
    refine lv_istore (lv' := [(4, .int (S.1 110 ((10 : Int32) + x1).toNatClampNeg)), (3, .int ((S.1 110 ((5 : Int32) + x1).toNatClampNeg) + x2)), (0, .ref (b + 99)), (1, .int x1), (2, .int x2)]) hC.1 hC.2.1 dX10_keysIn_28 hl (by decide) rfl (fun ls hl => ?_)
    refine lv_iconst (v := 0) hC.1 hC.2.1 dX10_keysIn_30 (by decide) ?_
    refine lv_istore (lv' := [(5, .int (0 : Int32)), (4, .int (S.1 110 ((10 : Int32) + x1).toNatClampNeg)), (3, .int ((S.1 110 ((5 : Int32) + x1).toNatClampNeg) + x2)), (0, .ref (b + 99)), (1, .int x1), (2, .int x2)]) hC.1 hC.2.1 dX10_keysIn_31 hl (by decide) rfl (fun ls hl => ?_)
    refine lv_iconst (v := 0) hC.1 hC.2.1 dX10_keysIn_33 (by decide) ?_
    refine lv_istore (lv' := [(6, .int (0 : Int32)), (5, .int (0 : Int32)), (4, .int (S.1 110 ((10 : Int32) + x1).toNatClampNeg)), (3, .int ((S.1 110 ((5 : Int32) + x1).toNatClampNeg) + x2)), (0, .ref (b + 99)), (1, .int x1), (2, .int x2)]) hC.1 hC.2.1 dX10_keysIn_34 hl (by decide) rfl (fun ls hl => ?_)
    exact w_X10_keysIn_36 hC hr _ _ _ _ _ _ _ _ _ _ h hW hS (lv_sub hl [4, 5, 3, 2, 1, 0] rfl)
theorem dX10_keys_0 : decode cX10_keys 0 = .ok (.aload_n 0, 1) := by decide +kernel
theorem dX10_keys_1 : decode cX10_keys 1 = .ok (.iload_n 1, 1) := by decide +kernel
theorem dX10_keys_2 : decode cX10_keys 2 = .ok (.iconst 0, 1) := by decide +kernel
theorem dX10_keys_3 : decode cX10_keys 3 = .ok (.invokevirtual 142, 3) := by decide +kernel
theorem dX10_keys_6 : decode cX10_keys 6 = .ok (.ireturn, 1) := by decide +kernel
abbrev rX10_keys : Room := { frames := 2, cells := 0, slots := 0, locals := 50 }
set_option maxHeartbeats 4000000 in
set_option maxRecDepth 100000 in
theorem c_X10_keys (l : Launch) (D : va_G) (b : Nat) (cs : Cs3) (x1 : Int32) (S S1 : St) (r : Int32) (h : p_X10_keys x1 S = some (r, S1)) : Ct l yX10_keys cX10_keys 2 (some .int) rX10_keys D b cs [.ref (b + 99), .int x1] S (some (.int r)) S1 := by
  refine x_met (by decide +kernel) (Nat.le_of_ble_eq_true rfl) ?_
  intro p e s m below meth c ls hC hr hW hS hl
  have hl : lv_has ls 2 [(0, .ref (b + 99)), (1, .int x1)] := hl
  rw [p_X10_keys] at h
  refine lv_aload_n hC.1 hC.2.1 dX10_keys_0 rfl (lv_at hl 0 rfl) ?_
  refine lv_iload_n hC.1 hC.2.1 dX10_keys_1 rfl (lv_at hl 1 rfl) ?_
  refine lv_iconst (v := 0) hC.1 hC.2.1 dX10_keys_2 (by decide) ?_
  obtain ⟨⟨q3_r, q3_S⟩, hq, h⟩ := xb h
  try dsimp only at h
  refine x_callV (T := TX10) (N := 27) (As := [.int x1, .int (0 : Int32)]) (rest := []) hC hW hS 99 (c_X10_keysIn l D b cs _ _ _ _ _ hq) (by decide) rfl rfl mi_X10_keysIn in_X10_keysIn sl_X10_keysIn ml_X10_142 ⟨rfl, rfl⟩ ⟨Nat.le_of_ble_eq_true rfl, Nat.le_of_ble_eq_true rfl⟩ ⟨Nat.zero_le _, Nat.zero_le _⟩ rfl rfl hl.1 (Nat.le_of_ble_eq_true rfl) dX10_keys_3 (fun H locs hW hS => ?_)
  obtain ⟨rfl, rfl⟩ := xr h
  exact x_iret hC hr hW hS dX10_keys_6
theorem dX10_openers_0 : decode cX10_openers 0 = .ok (.iconst 0, 1) := by decide +kernel
theorem dX10_openers_1 : decode cX10_openers 1 = .ok (.istore_n 2, 1) := by decide +kernel
theorem dX10_openers_2 : decode cX10_openers 2 = .ok (.iconst 0, 1) := by decide +kernel
theorem dX10_openers_3 : decode cX10_openers 3 = .ok (.istore_n 3, 1) := by decide +kernel
theorem dX10_openers_4 : decode cX10_openers 4 = .ok (.iload_n 3, 1) := by decide +kernel
theorem dX10_openers_5 : decode cX10_openers 5 = .ok (.aload_n 0, 1) := by decide +kernel
theorem dX10_openers_6 : decode cX10_openers 6 = .ok (.getfield 13, 3) := by decide +kernel
theorem dX10_openers_9 : decode cX10_openers 9 = .ok (.iconst 2, 1) := by decide +kernel
theorem dX10_openers_10 : decode cX10_openers 10 = .ok (.iaload, 1) := by decide +kernel
theorem dX10_openers_11 : decode cX10_openers 11 = .ok (.if_icmp .ge 31, 3) := by decide +kernel
theorem dX10_openers_14 : decode cX10_openers 14 = .ok (.iload_n 2, 1) := by decide +kernel
theorem dX10_openers_15 : decode cX10_openers 15 = .ok (.aload_n 0, 1) := by decide +kernel
theorem dX10_openers_16 : decode cX10_openers 16 = .ok (.iload_n 3, 1) := by decide +kernel
theorem dX10_openers_17 : decode cX10_openers 17 = .ok (.invokevirtual 145, 3) := by decide +kernel
theorem dX10_openers_20 : decode cX10_openers 20 = .ok (.iload_n 1, 1) := by decide +kernel
theorem dX10_openers_21 : decode cX10_openers 21 = .ok (.invokestatic 138, 3) := by decide +kernel
theorem dX10_openers_24 : decode cX10_openers 24 = .ok (.ifCond .eq 9, 3) := by decide +kernel
theorem dX10_openers_27 : decode cX10_openers 27 = .ok (.iconst 1, 1) := by decide +kernel
theorem dX10_openers_28 : decode cX10_openers 28 = .ok (.iload_n 3, 1) := by decide +kernel
theorem dX10_openers_29 : decode cX10_openers 29 = .ok (.ishl, 1) := by decide +kernel
theorem dX10_openers_30 : decode cX10_openers 30 = .ok (.goto 4, 3) := by decide +kernel
theorem dX10_openers_33 : decode cX10_openers 33 = .ok (.iconst 0, 1) := by decide +kernel
theorem dX10_openers_34 : decode cX10_openers 34 = .ok (.ior, 1) := by decide +kernel
theorem dX10_openers_35 : decode cX10_openers 35 = .ok (.istore_n 2, 1) := by decide +kernel
theorem dX10_openers_36 : decode cX10_openers 36 = .ok (.iinc 3 1, 3) := by decide +kernel
theorem dX10_openers_39 : decode cX10_openers 39 = .ok (.goto (-35), 3) := by decide +kernel
theorem dX10_openers_42 : decode cX10_openers 42 = .ok (.iload_n 2, 1) := by decide +kernel
theorem dX10_openers_43 : decode cX10_openers 43 = .ok (.ireturn, 1) := by decide +kernel
abbrev rX10_openers : Room := { frames := 3, cells := 0, slots := 0, locals := 71 }
set_option maxHeartbeats 4000000 in
set_option maxRecDepth 100000 in
theorem w_X10_openers_4 {p : Program} {l : Launch} {e : Env} {s : State} {m : MethodId} {args : Array Value} {below : List Frame} {meth : Method} {c : Code} {D : va_G} {b : Nat} {cs : Cs3} {r : Int32} {S1 : St} (hC : CX p s m args meth c RX10 cX10_openers 4 D cs) (hr : meth.sig.returnType = (some .int)) : ∀ (n : Nat) (x1 : Int32) (x2 : Int32) (x3 : Int32) (S : St) (H : Heap) (locs : List Loc) (ls : Array Slot), q_X10_openers_4 n x1 x2 x3 S = some (r, S1) → Wd D b cs S H → va_S (AA b) s.heap H locs → lv_has ls 4 [(0, .ref (b + 99)), (1, .int x1), (2, .int x2), (3, .int x3)] → W p l e rX10_openers s m args below meth c H locs 0 0 (MQ below (QX D b cs (some (.int r)) S1) args s 0 0 (AA b)) (F0 m 4 ls []) := by
  intro n
  induction n with
  | zero =>
    intro x1 x2 x3 S H locs ls h
    exact absurd h (by rw [q_X10_openers_4]; exact fun q => nomatch q)
  | succ n IH =>
    intro x1 x2 x3 S H locs ls h hW hS hl
    rw [q_X10_openers_4] at h
    refine lv_iload_n hC.1 hC.2.1 dX10_openers_4 rfl (lv_at hl 3 rfl) ?_
    refine lv_aload_n hC.1 hC.2.1 dX10_openers_5 rfl (lv_at hl 0 rfl) ?_
    refine x_get (C := RX10) (T := TX10) (N := 27) (v := _) hC hW 99 (by decide) rfl rfl uX10 10 (by decide) fl_X10_13 rfl rfl dX10_openers_6 ?_
    refine lv_iconst (v := 2) hC.1 hC.2.1 dX10_openers_9 (by decide) ?_
    obtain ⟨hi, h⟩ := xg h
    refine x_iald hC hW 101 (by decide) rfl hi dX10_openers_10 ?_
    refine lv_icmp_ge (tgt := 42) hC.1 hC.2.1 dX10_openers_11 (by decide) (fun hc => ?_) (fun hc => ?_)
    · replace h := xt hc h
      refine lv_iload_n hC.1 hC.2.1 dX10_openers_42 rfl (lv_at hl 2 rfl) ?_
      obtain ⟨rfl, rfl⟩ := xr h
      exact x_iret hC hr hW hS dX10_openers_43
    · replace h := xf hc h
      refine lv_iload_n hC.1 hC.2.1 dX10_openers_14 rfl (lv_at hl 2 rfl) ?_
      refine lv_aload_n hC.1 hC.2.1 dX10_openers_15 rfl (lv_at hl 0 rfl) ?_
      refine lv_iload_n hC.1 hC.2.1 dX10_openers_16 rfl (lv_at hl 3 rfl) ?_
      obtain ⟨⟨q17_r, q17_S⟩, hq, h⟩ := xb h
      try dsimp only at h
      refine x_callV (T := TX10) (N := 27) (As := [.int x3]) (rest := [.int x2]) hC hW hS 99 (c_X10_keys l D b cs _ _ _ _ hq) (by decide) rfl rfl mi_X10_keys in_X10_keys sl_X10_keys ml_X10_145 ⟨rfl, rfl⟩ ⟨Nat.le_of_ble_eq_true rfl, Nat.le_of_ble_eq_true rfl⟩ ⟨Nat.zero_le _, Nat.zero_le _⟩ rfl rfl hl.1 (Nat.le_of_ble_eq_true rfl) dX10_openers_17 (fun H locs hW hS => ?_)
      refine lv_iload_n hC.1 hC.2.1 dX10_openers_20 rfl (lv_at hl 1 rfl) ?_
      obtain ⟨⟨q21_r, q21_S⟩, hq, h⟩ := xb h
      try dsimp only at h
      refine x_callS (As := [.int q17_r, .int x1]) (rest := [.int x2]) hC hW hS (c_X10_has l D b cs _ _ _ _ _ hq) mi_X10_has st_X10_has ml_X10_138 ⟨rfl, rfl⟩ ⟨Nat.le_of_ble_eq_true rfl, Nat.le_of_ble_eq_true rfl⟩ ⟨Nat.zero_le _, Nat.zero_le _⟩ rfl rfl hl.1 (Nat.le_of_ble_eq_true rfl) dX10_openers_21 (fun H locs hW hS => ?_)
      refine lv_if_eq (tgt := 33) hC.1 hC.2.1 dX10_openers_24 (by decide) (fun hc => ?_) (fun hc => ?_)
      · replace h := xt hc h
        refine lv_iconst (v := 0) hC.1 hC.2.1 dX10_openers_33 (by decide) ?_
        refine lv_ior hC.1 hC.2.1 dX10_openers_34 ?_
        refine lv_istore_n (lv' := [(2, .int (x2 ||| (0 : Int32))), (0, .ref (b + 99)), (1, .int x1), (3, .int x3)]) hC.1 hC.2.1 dX10_openers_35 rfl hl (by decide) rfl (fun ls hl => ?_)
        refine lv_iinc (v := x3 + 1) (lv' := [(3, .int (x3 + 1)), (2, .int (x2 ||| (0 : Int32))), (0, .ref (b + 99)), (1, .int x1)]) hC.1 hC.2.1 dX10_openers_36 hl (k := 3) rfl rfl (by decide) rfl (fun ls hl => ?_)
        refine lv_goto (tgt := 4) hC.1 hC.2.1 dX10_openers_39 (by decide) ?_
        exact IH _ _ _ _ _ _ _ h hW hS (lv_sub hl [2, 3, 1, 0] rfl)
      · replace h := xf hc h
        refine lv_iconst (v := 1) hC.1 hC.2.1 dX10_openers_27 (by decide) ?_
        refine lv_iload_n hC.1 hC.2.1 dX10_openers_28 rfl (lv_at hl 3 rfl) ?_
        refine lv_ishl hC.1 hC.2.1 dX10_openers_29 ?_
        refine lv_goto (tgt := 34) hC.1 hC.2.1 dX10_openers_30 (by decide) ?_
        refine lv_ior hC.1 hC.2.1 dX10_openers_34 ?_
        refine lv_istore_n (lv' := [(2, .int (x2 ||| ((1 : Int32) <<< (x3 &&& 31)))), (0, .ref (b + 99)), (1, .int x1), (3, .int x3)]) hC.1 hC.2.1 dX10_openers_35 rfl hl (by decide) rfl (fun ls hl => ?_)
        refine lv_iinc (v := x3 + 1) (lv' := [(3, .int (x3 + 1)), (2, .int (x2 ||| ((1 : Int32) <<< (x3 &&& 31)))), (0, .ref (b + 99)), (1, .int x1)]) hC.1 hC.2.1 dX10_openers_36 hl (k := 3) rfl rfl (by decide) rfl (fun ls hl => ?_)
        refine lv_goto (tgt := 4) hC.1 hC.2.1 dX10_openers_39 (by decide) ?_
        exact IH _ _ _ _ _ _ _ h hW hS (lv_sub hl [2, 3, 1, 0] rfl)
set_option maxHeartbeats 4000000 in
set_option maxRecDepth 100000 in
theorem c_X10_openers (l : Launch) (D : va_G) (b : Nat) (cs : Cs3) (x1 : Int32) (S S1 : St) (r : Int32) (h : p_X10_openers x1 S = some (r, S1)) : Ct l yX10_openers cX10_openers 4 (some .int) rX10_openers D b cs [.ref (b + 99), .int x1] S (some (.int r)) S1 := by
  refine x_met (by decide +kernel) (Nat.le_of_ble_eq_true rfl) ?_
  intro p e s m below meth c ls hC hr hW hS hl
  have hl : lv_has ls 4 [(0, .ref (b + 99)), (1, .int x1)] := hl
  rw [p_X10_openers] at h
  refine lv_iconst (v := 0) hC.1 hC.2.1 dX10_openers_0 (by decide) ?_
  refine lv_istore_n (lv' := [(2, .int (0 : Int32)), (0, .ref (b + 99)), (1, .int x1)]) hC.1 hC.2.1 dX10_openers_1 rfl hl (by decide) rfl (fun ls hl => ?_)
  refine lv_iconst (v := 0) hC.1 hC.2.1 dX10_openers_2 (by decide) ?_
  refine lv_istore_n (lv' := [(3, .int (0 : Int32)), (2, .int (0 : Int32)), (0, .ref (b + 99)), (1, .int x1)]) hC.1 hC.2.1 dX10_openers_3 rfl hl (by decide) rfl (fun ls hl => ?_)
  exact w_X10_openers_4 hC hr _ _ _ _ _ _ _ _ h hW hS (lv_sub hl [2, 3, 1, 0] rfl)
theorem dX10_wider_0 : decode cX10_wider 0 = .ok (.iload_n 1, 1) := by decide +kernel
theorem dX10_wider_1 : decode cX10_wider 1 = .ok (.istore_n 3, 1) := by decide +kernel
theorem dX10_wider_2 : decode cX10_wider 2 = .ok (.iconst 0, 1) := by decide +kernel
theorem dX10_wider_3 : decode cX10_wider 3 = .ok (.istore 4, 2) := by decide +kernel
theorem dX10_wider_5 : decode cX10_wider 5 = .ok (.iload 4, 2) := by decide +kernel
theorem dX10_wider_7 : decode cX10_wider 7 = .ok (.aload_n 0, 1) := by decide +kernel
theorem dX10_wider_8 : decode cX10_wider 8 = .ok (.getfield 13, 3) := by decide +kernel
theorem dX10_wider_11 : decode cX10_wider 11 = .ok (.iconst 1, 1) := by decide +kernel
theorem dX10_wider_12 : decode cX10_wider 12 = .ok (.iaload, 1) := by decide +kernel
theorem dX10_wider_13 : decode cX10_wider 13 = .ok (.if_icmp .ge 78, 3) := by decide +kernel
theorem dX10_wider_16 : decode cX10_wider 16 = .ok (.iload_n 2, 1) := by decide +kernel
theorem dX10_wider_17 : decode cX10_wider 17 = .ok (.iload 4, 2) := by decide +kernel
theorem dX10_wider_19 : decode cX10_wider 19 = .ok (.invokestatic 138, 3) := by decide +kernel
theorem dX10_wider_22 : decode cX10_wider 22 = .ok (.ifCond .eq 63, 3) := by decide +kernel
theorem dX10_wider_25 : decode cX10_wider 25 = .ok (.iload_n 3, 1) := by decide +kernel
theorem dX10_wider_26 : decode cX10_wider 26 = .ok (.iload_n 1, 1) := by decide +kernel
theorem dX10_wider_27 : decode cX10_wider 27 = .ok (.aload_n 0, 1) := by decide +kernel
theorem dX10_wider_28 : decode cX10_wider 28 = .ok (.getfield 16, 3) := by decide +kernel
theorem dX10_wider_31 : decode cX10_wider 31 = .ok (.iload 4, 2) := by decide +kernel
theorem dX10_wider_33 : decode cX10_wider 33 = .ok (.iaload, 1) := by decide +kernel
theorem dX10_wider_34 : decode cX10_wider 34 = .ok (.invokestatic 138, 3) := by decide +kernel
theorem dX10_wider_37 : decode cX10_wider 37 = .ok (.ifCond .eq 15, 3) := by decide +kernel
theorem dX10_wider_40 : decode cX10_wider 40 = .ok (.iconst 1, 1) := by decide +kernel
theorem dX10_wider_41 : decode cX10_wider 41 = .ok (.aload_n 0, 1) := by decide +kernel
theorem dX10_wider_42 : decode cX10_wider 42 = .ok (.getfield 19, 3) := by decide +kernel
theorem dX10_wider_45 : decode cX10_wider 45 = .ok (.iload 4, 2) := by decide +kernel
theorem dX10_wider_47 : decode cX10_wider 47 = .ok (.iaload, 1) := by decide +kernel
theorem dX10_wider_48 : decode cX10_wider 48 = .ok (.ishl, 1) := by decide +kernel
theorem dX10_wider_49 : decode cX10_wider 49 = .ok (.goto 4, 3) := by decide +kernel
theorem dX10_wider_52 : decode cX10_wider 52 = .ok (.iconst 0, 1) := by decide +kernel
theorem dX10_wider_53 : decode cX10_wider 53 = .ok (.ior, 1) := by decide +kernel
theorem dX10_wider_54 : decode cX10_wider 54 = .ok (.istore_n 3, 1) := by decide +kernel
theorem dX10_wider_55 : decode cX10_wider 55 = .ok (.iload_n 3, 1) := by decide +kernel
theorem dX10_wider_56 : decode cX10_wider 56 = .ok (.iload_n 1, 1) := by decide +kernel
theorem dX10_wider_57 : decode cX10_wider 57 = .ok (.aload_n 0, 1) := by decide +kernel
theorem dX10_wider_58 : decode cX10_wider 58 = .ok (.getfield 19, 3) := by decide +kernel
theorem dX10_wider_61 : decode cX10_wider 61 = .ok (.iload 4, 2) := by decide +kernel
theorem dX10_wider_63 : decode cX10_wider 63 = .ok (.iaload, 1) := by decide +kernel
theorem dX10_wider_64 : decode cX10_wider 64 = .ok (.invokestatic 138, 3) := by decide +kernel
theorem dX10_wider_67 : decode cX10_wider 67 = .ok (.ifCond .eq 15, 3) := by decide +kernel
theorem dX10_wider_70 : decode cX10_wider 70 = .ok (.iconst 1, 1) := by decide +kernel
theorem dX10_wider_71 : decode cX10_wider 71 = .ok (.aload_n 0, 1) := by decide +kernel
theorem dX10_wider_72 : decode cX10_wider 72 = .ok (.getfield 16, 3) := by decide +kernel
theorem dX10_wider_75 : decode cX10_wider 75 = .ok (.iload 4, 2) := by decide +kernel
theorem dX10_wider_77 : decode cX10_wider 77 = .ok (.iaload, 1) := by decide +kernel
theorem dX10_wider_78 : decode cX10_wider 78 = .ok (.ishl, 1) := by decide +kernel
theorem dX10_wider_79 : decode cX10_wider 79 = .ok (.goto 4, 3) := by decide +kernel
theorem dX10_wider_82 : decode cX10_wider 82 = .ok (.iconst 0, 1) := by decide +kernel
theorem dX10_wider_83 : decode cX10_wider 83 = .ok (.ior, 1) := by decide +kernel
theorem dX10_wider_84 : decode cX10_wider 84 = .ok (.istore_n 3, 1) := by decide +kernel
theorem dX10_wider_85 : decode cX10_wider 85 = .ok (.iinc 4 1, 3) := by decide +kernel
theorem dX10_wider_88 : decode cX10_wider 88 = .ok (.goto (-83), 3) := by decide +kernel
theorem dX10_wider_91 : decode cX10_wider 91 = .ok (.iload_n 3, 1) := by decide +kernel
theorem dX10_wider_92 : decode cX10_wider 92 = .ok (.ireturn, 1) := by decide +kernel
abbrev rX10_wider : Room := { frames := 1, cells := 0, slots := 0, locals := 21 }
set_option maxHeartbeats 4000000 in
set_option maxRecDepth 100000 in
theorem w_X10_wider_53 {p : Program} {l : Launch} {e : Env} {s : State} {m : MethodId} {args : Array Value} {below : List Frame} {meth : Method} {c : Code} {D : va_G} {b : Nat} {cs : Cs3} {r : Int32} {S1 : St} {ag5 : Int32 → Int32 → Int32 → Int32 → St → Option (Int32 × St)} (hC : CX p s m args meth c RX10 cX10_wider 5 D cs) (hr : meth.sig.returnType = (some .int)) (hag5 : ∀ (x1 : Int32) (x2 : Int32) (x3 : Int32) (x4 : Int32) (S : St) (H : Heap) (locs : List Loc) (ls : Array Slot), ag5 x1 x2 x3 x4 S = some (r, S1) → Wd D b cs S H → va_S (AA b) s.heap H locs → lv_has ls 5 [(0, .ref (b + 99)), (1, .int x1), (2, .int x2), (3, .int x3), (4, .int x4)] → W p l e rX10_wider s m args below meth c H locs 0 0 (MQ below (QX D b cs (some (.int r)) S1) args s 0 0 (AA b)) (F0 m 5 ls [])) : ∀ (x1 : Int32) (x2 : Int32) (x4 : Int32) (y0 : Int32) (y1 : Int32) (S : St) (H : Heap) (locs : List Loc) (ls : Array Slot), q_X10_wider_53 ag5 x1 x2 x4 y0 y1 S = some (r, S1) → Wd D b cs S H → va_S (AA b) s.heap H locs → lv_has ls 5 [(0, .ref (b + 99)), (1, .int x1), (2, .int x2), (4, .int x4)] → W p l e rX10_wider s m args below meth c H locs 0 0 (MQ below (QX D b cs (some (.int r)) S1) args s 0 0 (AA b)) (F0 m 53 ls [.int y0, .int y1]) := by
  intro x1 x2 x4 y0 y1 S H locs ls h hW hS hl
  rw [q_X10_wider_53] at h
  refine lv_ior hC.1 hC.2.1 dX10_wider_53 ?_
  refine lv_istore_n (lv' := [(3, .int (y1 ||| y0)), (0, .ref (b + 99)), (1, .int x1), (2, .int x2), (4, .int x4)]) hC.1 hC.2.1 dX10_wider_54 rfl hl (by decide) rfl (fun ls hl => ?_)
  refine lv_iload_n hC.1 hC.2.1 dX10_wider_55 rfl (lv_at hl 0 rfl) ?_
  refine lv_iload_n hC.1 hC.2.1 dX10_wider_56 rfl (lv_at hl 2 rfl) ?_
  refine lv_aload_n hC.1 hC.2.1 dX10_wider_57 rfl (lv_at hl 1 rfl) ?_
  refine x_get (C := RX10) (T := TX10) (N := 27) (v := _) hC hW 99 (by decide) rfl rfl uX10 12 (by decide) fl_X10_19 rfl rfl dX10_wider_58 ?_
  refine lv_iload hC.1 hC.2.1 dX10_wider_61 (lv_at hl 4 rfl) ?_
  obtain ⟨hi, h⟩ := xg h
  refine x_iald hC hW 103 (by decide) rfl hi dX10_wider_63 ?_
  obtain ⟨⟨q64_r, q64_S⟩, hq, h⟩ := xb h
  try dsimp only at h
  refine x_callS (As := [.int x1, .int (S.1 103 x4.toNatClampNeg)]) (rest := [.int (y1 ||| y0)]) hC hW hS (c_X10_has l D b cs _ _ _ _ _ hq) mi_X10_has st_X10_has ml_X10_138 ⟨rfl, rfl⟩ ⟨Nat.le_of_ble_eq_true rfl, Nat.le_of_ble_eq_true rfl⟩ ⟨Nat.zero_le _, Nat.zero_le _⟩ rfl rfl hl.1 (Nat.le_of_ble_eq_true rfl) dX10_wider_64 (fun H locs hW hS => ?_)
  refine lv_if_eq (tgt := 82) hC.1 hC.2.1 dX10_wider_67 (by decide) (fun hc => ?_) (fun hc => ?_)
  · replace h := xt hc h
    refine lv_iconst (v := 0) hC.1 hC.2.1 dX10_wider_82 (by decide) ?_
    refine lv_ior hC.1 hC.2.1 dX10_wider_83 ?_
    refine lv_istore_n (lv' := [(3, .int ((y1 ||| y0) ||| (0 : Int32))), (0, .ref (b + 99)), (1, .int x1), (2, .int x2), (4, .int x4)]) hC.1 hC.2.1 dX10_wider_84 rfl hl (by decide) rfl (fun ls hl => ?_)
    refine lv_iinc (v := x4 + 1) (lv' := [(4, .int (x4 + 1)), (3, .int ((y1 ||| y0) ||| (0 : Int32))), (0, .ref (b + 99)), (1, .int x1), (2, .int x2)]) hC.1 hC.2.1 dX10_wider_85 hl (k := 4) rfl rfl (by decide) rfl (fun ls hl => ?_)
    refine lv_goto (tgt := 5) hC.1 hC.2.1 dX10_wider_88 (by decide) ?_
    exact hag5 _ _ _ _ _ _ _ _ h hW hS (lv_sub hl [2, 3, 4, 1, 0] rfl)
  · replace h := xf hc h
    refine lv_iconst (v := 1) hC.1 hC.2.1 dX10_wider_70 (by decide) ?_
    refine lv_aload_n hC.1 hC.2.1 dX10_wider_71 rfl (lv_at hl 1 rfl) ?_
    refine x_get (C := RX10) (T := TX10) (N := 27) (v := _) hC hW 99 (by decide) rfl rfl uX10 11 (by decide) fl_X10_16 rfl rfl dX10_wider_72 ?_
    refine lv_iload hC.1 hC.2.1 dX10_wider_75 (lv_at hl 4 rfl) ?_
    obtain ⟨hi, h⟩ := xg h
    refine x_iald hC hW 102 (by decide) rfl hi dX10_wider_77 ?_
    refine lv_ishl hC.1 hC.2.1 dX10_wider_78 ?_
    refine lv_goto (tgt := 83) hC.1 hC.2.1 dX10_wider_79 (by decide) ?_
    refine lv_ior hC.1 hC.2.1 dX10_wider_83 ?_
    refine lv_istore_n (lv' := [(3, .int ((y1 ||| y0) ||| ((1 : Int32) <<< ((q64_S.1 102 x4.toNatClampNeg) &&& 31)))), (0, .ref (b + 99)), (1, .int x1), (2, .int x2), (4, .int x4)]) hC.1 hC.2.1 dX10_wider_84 rfl hl (by decide) rfl (fun ls hl => ?_)
    refine lv_iinc (v := x4 + 1) (lv' := [(4, .int (x4 + 1)), (3, .int ((y1 ||| y0) ||| ((1 : Int32) <<< ((q64_S.1 102 x4.toNatClampNeg) &&& 31)))), (0, .ref (b + 99)), (1, .int x1), (2, .int x2)]) hC.1 hC.2.1 dX10_wider_85 hl (k := 4) rfl rfl (by decide) rfl (fun ls hl => ?_)
    refine lv_goto (tgt := 5) hC.1 hC.2.1 dX10_wider_88 (by decide) ?_
    exact hag5 _ _ _ _ _ _ _ _ h hW hS (lv_sub hl [2, 3, 4, 1, 0] rfl)
set_option maxHeartbeats 4000000 in
set_option maxRecDepth 100000 in
theorem w_X10_wider_5 {p : Program} {l : Launch} {e : Env} {s : State} {m : MethodId} {args : Array Value} {below : List Frame} {meth : Method} {c : Code} {D : va_G} {b : Nat} {cs : Cs3} {r : Int32} {S1 : St} (hC : CX p s m args meth c RX10 cX10_wider 5 D cs) (hr : meth.sig.returnType = (some .int)) : ∀ (n : Nat) (x1 : Int32) (x2 : Int32) (x3 : Int32) (x4 : Int32) (S : St) (H : Heap) (locs : List Loc) (ls : Array Slot), q_X10_wider_5 n x1 x2 x3 x4 S = some (r, S1) → Wd D b cs S H → va_S (AA b) s.heap H locs → lv_has ls 5 [(0, .ref (b + 99)), (1, .int x1), (2, .int x2), (3, .int x3), (4, .int x4)] → W p l e rX10_wider s m args below meth c H locs 0 0 (MQ below (QX D b cs (some (.int r)) S1) args s 0 0 (AA b)) (F0 m 5 ls []) := by
  intro n
  induction n with
  | zero =>
    intro x1 x2 x3 x4 S H locs ls h
    exact absurd h (by rw [q_X10_wider_5]; exact fun q => nomatch q)
  | succ n IH =>
    intro x1 x2 x3 x4 S H locs ls h hW hS hl
    rw [q_X10_wider_5] at h
    refine lv_iload hC.1 hC.2.1 dX10_wider_5 (lv_at hl 4 rfl) ?_
    refine lv_aload_n hC.1 hC.2.1 dX10_wider_7 rfl (lv_at hl 0 rfl) ?_
    refine x_get (C := RX10) (T := TX10) (N := 27) (v := _) hC hW 99 (by decide) rfl rfl uX10 10 (by decide) fl_X10_13 rfl rfl dX10_wider_8 ?_
    refine lv_iconst (v := 1) hC.1 hC.2.1 dX10_wider_11 (by decide) ?_
    obtain ⟨hi, h⟩ := xg h
    refine x_iald hC hW 101 (by decide) rfl hi dX10_wider_12 ?_
    refine lv_icmp_ge (tgt := 91) hC.1 hC.2.1 dX10_wider_13 (by decide) (fun hc => ?_) (fun hc => ?_)
    · replace h := xt hc h
      refine lv_iload_n hC.1 hC.2.1 dX10_wider_91 rfl (lv_at hl 3 rfl) ?_
      obtain ⟨rfl, rfl⟩ := xr h
      exact x_iret hC hr hW hS dX10_wider_92
    · replace h := xf hc h
      refine lv_iload_n hC.1 hC.2.1 dX10_wider_16 rfl (lv_at hl 2 rfl) ?_
      refine lv_iload hC.1 hC.2.1 dX10_wider_17 (lv_at hl 4 rfl) ?_
      obtain ⟨⟨q19_r, q19_S⟩, hq, h⟩ := xb h
      try dsimp only at h
      refine x_callS (As := [.int x2, .int x4]) (rest := []) hC hW hS (c_X10_has l D b cs _ _ _ _ _ hq) mi_X10_has st_X10_has ml_X10_138 ⟨rfl, rfl⟩ ⟨Nat.le_of_ble_eq_true rfl, Nat.le_of_ble_eq_true rfl⟩ ⟨Nat.zero_le _, Nat.zero_le _⟩ rfl rfl hl.1 (Nat.le_of_ble_eq_true rfl) dX10_wider_19 (fun H locs hW hS => ?_)
      refine lv_if_eq (tgt := 85) hC.1 hC.2.1 dX10_wider_22 (by decide) (fun hc => ?_) (fun hc => ?_)
      · replace h := xt hc h
        refine lv_iinc (v := x4 + 1) (lv' := [(4, .int (x4 + 1)), (0, .ref (b + 99)), (1, .int x1), (2, .int x2), (3, .int x3)]) hC.1 hC.2.1 dX10_wider_85 hl (k := 4) rfl rfl (by decide) rfl (fun ls hl => ?_)
        refine lv_goto (tgt := 5) hC.1 hC.2.1 dX10_wider_88 (by decide) ?_
        exact IH _ _ _ _ _ _ _ _ h hW hS (lv_sub hl [1, 2, 3, 4, 0] rfl)
      · replace h := xf hc h
        refine lv_iload_n hC.1 hC.2.1 dX10_wider_25 rfl (lv_at hl 3 rfl) ?_
        refine lv_iload_n hC.1 hC.2.1 dX10_wider_26 rfl (lv_at hl 1 rfl) ?_
        refine lv_aload_n hC.1 hC.2.1 dX10_wider_27 rfl (lv_at hl 0 rfl) ?_
        refine x_get (C := RX10) (T := TX10) (N := 27) (v := _) hC hW 99 (by decide) rfl rfl uX10 11 (by decide) fl_X10_16 rfl rfl dX10_wider_28 ?_
        refine lv_iload hC.1 hC.2.1 dX10_wider_31 (lv_at hl 4 rfl) ?_
        obtain ⟨hi, h⟩ := xg h
        refine x_iald hC hW 102 (by decide) rfl hi dX10_wider_33 ?_
        obtain ⟨⟨q34_r, q34_S⟩, hq, h⟩ := xb h
        try dsimp only at h
        refine x_callS (As := [.int x1, .int (q19_S.1 102 x4.toNatClampNeg)]) (rest := [.int x3]) hC hW hS (c_X10_has l D b cs _ _ _ _ _ hq) mi_X10_has st_X10_has ml_X10_138 ⟨rfl, rfl⟩ ⟨Nat.le_of_ble_eq_true rfl, Nat.le_of_ble_eq_true rfl⟩ ⟨Nat.zero_le _, Nat.zero_le _⟩ rfl rfl hl.1 (Nat.le_of_ble_eq_true rfl) dX10_wider_34 (fun H locs hW hS => ?_)
        refine lv_if_eq (tgt := 52) hC.1 hC.2.1 dX10_wider_37 (by decide) (fun hc => ?_) (fun hc => ?_)
        · replace h := xt hc h
          refine lv_iconst (v := 0) hC.1 hC.2.1 dX10_wider_52 (by decide) ?_
          exact w_X10_wider_53 hC hr IH _ _ _ _ _ _ _ _ _ h hW hS (lv_sub hl [0, 1, 2, 4] rfl)
        · replace h := xf hc h
          refine lv_iconst (v := 1) hC.1 hC.2.1 dX10_wider_40 (by decide) ?_
          refine lv_aload_n hC.1 hC.2.1 dX10_wider_41 rfl (lv_at hl 0 rfl) ?_
          refine x_get (C := RX10) (T := TX10) (N := 27) (v := _) hC hW 99 (by decide) rfl rfl uX10 12 (by decide) fl_X10_19 rfl rfl dX10_wider_42 ?_
          refine lv_iload hC.1 hC.2.1 dX10_wider_45 (lv_at hl 4 rfl) ?_
          obtain ⟨hi, h⟩ := xg h
          refine x_iald hC hW 103 (by decide) rfl hi dX10_wider_47 ?_
          refine lv_ishl hC.1 hC.2.1 dX10_wider_48 ?_
          refine lv_goto (tgt := 53) hC.1 hC.2.1 dX10_wider_49 (by decide) ?_
          exact w_X10_wider_53 hC hr IH _ _ _ _ _ _ _ _ _ h hW hS (lv_sub hl [0, 1, 2, 4] rfl)
set_option maxHeartbeats 4000000 in
set_option maxRecDepth 100000 in
theorem c_X10_wider (l : Launch) (D : va_G) (b : Nat) (cs : Cs3) (x1 : Int32) (x2 : Int32) (S S1 : St) (r : Int32) (h : p_X10_wider x1 x2 S = some (r, S1)) : Ct l yX10_wider cX10_wider 5 (some .int) rX10_wider D b cs [.ref (b + 99), .int x1, .int x2] S (some (.int r)) S1 := by
  refine x_met (by decide +kernel) (Nat.le_of_ble_eq_true rfl) ?_
  intro p e s m below meth c ls hC hr hW hS hl
  have hl : lv_has ls 5 [(0, .ref (b + 99)), (1, .int x1), (2, .int x2)] := hl
  rw [p_X10_wider] at h
  refine lv_iload_n hC.1 hC.2.1 dX10_wider_0 rfl (lv_at hl 1 rfl) ?_
  refine lv_istore_n (lv' := [(3, .int x1), (0, .ref (b + 99)), (1, .int x1), (2, .int x2)]) hC.1 hC.2.1 dX10_wider_1 rfl hl (by decide) rfl (fun ls hl => ?_)
  refine lv_iconst (v := 0) hC.1 hC.2.1 dX10_wider_2 (by decide) ?_
  refine lv_istore (lv' := [(4, .int (0 : Int32)), (3, .int x1), (0, .ref (b + 99)), (1, .int x1), (2, .int x2)]) hC.1 hC.2.1 dX10_wider_3 hl (by decide) rfl (fun ls hl => ?_)
  exact w_X10_wider_5 hC hr _ _ _ _ _ _ _ _ _ h hW hS (lv_sub hl [2, 3, 4, 1, 0] rfl)
theorem dX10_reachBy_0 : decode cX10_reachBy 0 = .ok (.iconst 1, 1) := by decide +kernel
theorem dX10_reachBy_1 : decode cX10_reachBy 1 = .ok (.aload_n 0, 1) := by decide +kernel
theorem dX10_reachBy_2 : decode cX10_reachBy 2 = .ok (.getfield 40, 3) := by decide +kernel
theorem dX10_reachBy_5 : decode cX10_reachBy 5 = .ok (.iconst 0, 1) := by decide +kernel
theorem dX10_reachBy_6 : decode cX10_reachBy 6 = .ok (.iload_n 1, 1) := by decide +kernel
theorem dX10_reachBy_7 : decode cX10_reachBy 7 = .ok (.iadd, 1) := by decide +kernel
theorem dX10_reachBy_8 : decode cX10_reachBy 8 = .ok (.iaload, 1) := by decide +kernel
theorem dX10_reachBy_9 : decode cX10_reachBy 9 = .ok (.ishl, 1) := by decide +kernel
theorem dX10_reachBy_10 : decode cX10_reachBy 10 = .ok (.istore_n 3, 1) := by decide +kernel
theorem dX10_reachBy_11 : decode cX10_reachBy 11 = .ok (.iconst 0, 1) := by decide +kernel
theorem dX10_reachBy_12 : decode cX10_reachBy 12 = .ok (.istore 4, 2) := by decide +kernel
theorem dX10_reachBy_14 : decode cX10_reachBy 14 = .ok (.iload 4, 2) := by decide +kernel
theorem dX10_reachBy_16 : decode cX10_reachBy 16 = .ok (.bipush 8, 2) := by decide +kernel
theorem dX10_reachBy_18 : decode cX10_reachBy 18 = .ok (.if_icmp .ge 16, 3) := by decide +kernel
theorem dX10_reachBy_21 : decode cX10_reachBy 21 = .ok (.aload_n 0, 1) := by decide +kernel
theorem dX10_reachBy_22 : decode cX10_reachBy 22 = .ok (.iload_n 3, 1) := by decide +kernel
theorem dX10_reachBy_23 : decode cX10_reachBy 23 = .ok (.iload_n 2, 1) := by decide +kernel
theorem dX10_reachBy_24 : decode cX10_reachBy 24 = .ok (.invokevirtual 148, 3) := by decide +kernel
theorem dX10_reachBy_27 : decode cX10_reachBy 27 = .ok (.istore_n 3, 1) := by decide +kernel
theorem dX10_reachBy_28 : decode cX10_reachBy 28 = .ok (.iinc 4 1, 3) := by decide +kernel
theorem dX10_reachBy_31 : decode cX10_reachBy 31 = .ok (.goto (-17), 3) := by decide +kernel
theorem dX10_reachBy_34 : decode cX10_reachBy 34 = .ok (.iload_n 3, 1) := by decide +kernel
theorem dX10_reachBy_35 : decode cX10_reachBy 35 = .ok (.ireturn, 1) := by decide +kernel
abbrev rX10_reachBy : Room := { frames := 2, cells := 0, slots := 0, locals := 45 }
set_option maxHeartbeats 4000000 in
set_option maxRecDepth 100000 in
theorem w_X10_reachBy_14 {p : Program} {l : Launch} {e : Env} {s : State} {m : MethodId} {args : Array Value} {below : List Frame} {meth : Method} {c : Code} {D : va_G} {b : Nat} {cs : Cs3} {r : Int32} {S1 : St} (hC : CX p s m args meth c RX10 cX10_reachBy 5 D cs) (hr : meth.sig.returnType = (some .int)) : ∀ (n : Nat) (x2 : Int32) (x3 : Int32) (x4 : Int32) (S : St) (H : Heap) (locs : List Loc) (ls : Array Slot), q_X10_reachBy_14 n x2 x3 x4 S = some (r, S1) → Wd D b cs S H → va_S (AA b) s.heap H locs → lv_has ls 5 [(0, .ref (b + 99)), (2, .int x2), (3, .int x3), (4, .int x4)] → W p l e rX10_reachBy s m args below meth c H locs 0 0 (MQ below (QX D b cs (some (.int r)) S1) args s 0 0 (AA b)) (F0 m 14 ls []) := by
  intro n
  induction n with
  | zero =>
    intro x2 x3 x4 S H locs ls h
    exact absurd h (by rw [q_X10_reachBy_14]; exact fun q => nomatch q)
  | succ n IH =>
    intro x2 x3 x4 S H locs ls h hW hS hl
    rw [q_X10_reachBy_14] at h
    refine lv_iload hC.1 hC.2.1 dX10_reachBy_14 (lv_at hl 3 rfl) ?_
    refine lv_bipush (v := 8) hC.1 hC.2.1 dX10_reachBy_16 (by decide) ?_
    refine lv_icmp_ge (tgt := 34) hC.1 hC.2.1 dX10_reachBy_18 (by decide) (fun hc => ?_) (fun hc => ?_)
    · replace h := xt hc h
      refine lv_iload_n hC.1 hC.2.1 dX10_reachBy_34 rfl (lv_at hl 2 rfl) ?_
      obtain ⟨rfl, rfl⟩ := xr h
      exact x_iret hC hr hW hS dX10_reachBy_35
    · replace h := xf hc h
      refine lv_aload_n hC.1 hC.2.1 dX10_reachBy_21 rfl (lv_at hl 0 rfl) ?_
      refine lv_iload_n hC.1 hC.2.1 dX10_reachBy_22 rfl (lv_at hl 2 rfl) ?_
      refine lv_iload_n hC.1 hC.2.1 dX10_reachBy_23 rfl (lv_at hl 1 rfl) ?_
      obtain ⟨⟨q24_r, q24_S⟩, hq, h⟩ := xb h
      try dsimp only at h
      refine x_callV (T := TX10) (N := 27) (As := [.int x3, .int x2]) (rest := []) hC hW hS 99 (c_X10_wider l D b cs _ _ _ _ _ hq) (by decide) rfl rfl mi_X10_wider in_X10_wider sl_X10_wider ml_X10_148 ⟨rfl, rfl⟩ ⟨Nat.le_of_ble_eq_true rfl, Nat.le_of_ble_eq_true rfl⟩ ⟨Nat.zero_le _, Nat.zero_le _⟩ rfl rfl hl.1 (Nat.le_of_ble_eq_true rfl) dX10_reachBy_24 (fun H locs hW hS => ?_)
      refine lv_istore_n (lv' := [(3, .int q24_r), (0, .ref (b + 99)), (2, .int x2), (4, .int x4)]) hC.1 hC.2.1 dX10_reachBy_27 rfl hl (by decide) rfl (fun ls hl => ?_)
      refine lv_iinc (v := x4 + 1) (lv' := [(4, .int (x4 + 1)), (3, .int q24_r), (0, .ref (b + 99)), (2, .int x2)]) hC.1 hC.2.1 dX10_reachBy_28 hl (k := 3) rfl rfl (by decide) rfl (fun ls hl => ?_)
      refine lv_goto (tgt := 14) hC.1 hC.2.1 dX10_reachBy_31 (by decide) ?_
      exact IH _ _ _ _ _ _ _ h hW hS (lv_sub hl [2, 3, 1, 0] rfl)
set_option maxHeartbeats 4000000 in
set_option maxRecDepth 100000 in
theorem c_X10_reachBy (l : Launch) (D : va_G) (b : Nat) (cs : Cs3) (x1 : Int32) (x2 : Int32) (S S1 : St) (r : Int32) (h : p_X10_reachBy x1 x2 S = some (r, S1)) : Ct l yX10_reachBy cX10_reachBy 5 (some .int) rX10_reachBy D b cs [.ref (b + 99), .int x1, .int x2] S (some (.int r)) S1 := by
  refine x_met (by decide +kernel) (Nat.le_of_ble_eq_true rfl) ?_
  intro p e s m below meth c ls hC hr hW hS hl
  have hl : lv_has ls 5 [(0, .ref (b + 99)), (1, .int x1), (2, .int x2)] := hl
  rw [p_X10_reachBy] at h
  refine lv_iconst (v := 1) hC.1 hC.2.1 dX10_reachBy_0 (by decide) ?_
  refine lv_aload_n hC.1 hC.2.1 dX10_reachBy_1 rfl (lv_at hl 0 rfl) ?_
  refine x_get (C := RX10) (T := TX10) (N := 27) (v := _) hC hW 99 (by decide) rfl rfl uX10 19 (by decide) fl_X10_40 rfl rfl dX10_reachBy_2 ?_
  refine lv_iconst (v := 0) hC.1 hC.2.1 dX10_reachBy_5 (by decide) ?_
  refine lv_iload_n hC.1 hC.2.1 dX10_reachBy_6 rfl (lv_at hl 1 rfl) ?_
  refine lv_iadd hC.1 hC.2.1 dX10_reachBy_7 ?_
  obtain ⟨hi, h⟩ := xg h
  refine x_iald hC hW 110 (by decide) rfl hi dX10_reachBy_8 ?_
  refine lv_ishl hC.1 hC.2.1 dX10_reachBy_9 ?_
  refine lv_istore_n (lv' := [(3, .int ((1 : Int32) <<< ((S.1 110 ((0 : Int32) + x1).toNatClampNeg) &&& 31))), (0, .ref (b + 99)), (1, .int x1), (2, .int x2)]) hC.1 hC.2.1 dX10_reachBy_10 rfl hl (by decide) rfl (fun ls hl => ?_)
  refine lv_iconst (v := 0) hC.1 hC.2.1 dX10_reachBy_11 (by decide) ?_
  refine lv_istore (lv' := [(4, .int (0 : Int32)), (3, .int ((1 : Int32) <<< ((S.1 110 ((0 : Int32) + x1).toNatClampNeg) &&& 31))), (0, .ref (b + 99)), (1, .int x1), (2, .int x2)]) hC.1 hC.2.1 dX10_reachBy_12 hl (by decide) rfl (fun ls hl => ?_)
  exact w_X10_reachBy_14 hC hr _ _ _ _ _ _ _ _ h hW hS (lv_sub hl [2, 4, 1, 0] rfl)
theorem dX10_shutOf_0 : decode cX10_shutOf 0 = .ok (.iconst 0, 1) := by decide +kernel
theorem dX10_shutOf_1 : decode cX10_shutOf 1 = .ok (.istore_n 2, 1) := by decide +kernel
theorem dX10_shutOf_2 : decode cX10_shutOf 2 = .ok (.iload_n 2, 1) := by decide +kernel
theorem dX10_shutOf_3 : decode cX10_shutOf 3 = .ok (.bipush 20, 2) := by decide +kernel
theorem dX10_shutOf_5 : decode cX10_shutOf 5 = .ok (.if_icmp .gt 34, 3) := by decide +kernel
theorem dX10_shutOf_8 : decode cX10_shutOf 8 = .ok (.aload_n 0, 1) := by decide +kernel
theorem dX10_shutOf_9 : decode cX10_shutOf 9 = .ok (.iload_n 1, 1) := by decide +kernel
theorem dX10_shutOf_10 : decode cX10_shutOf 10 = .ok (.aload_n 0, 1) := by decide +kernel
theorem dX10_shutOf_11 : decode cX10_shutOf 11 = .ok (.iload_n 1, 1) := by decide +kernel
theorem dX10_shutOf_12 : decode cX10_shutOf 12 = .ok (.iload_n 2, 1) := by decide +kernel
theorem dX10_shutOf_13 : decode cX10_shutOf 13 = .ok (.invokevirtual 142, 3) := by decide +kernel
theorem dX10_shutOf_16 : decode cX10_shutOf 16 = .ok (.invokevirtual 151, 3) := by decide +kernel
theorem dX10_shutOf_19 : decode cX10_shutOf 19 = .ok (.aload_n 0, 1) := by decide +kernel
theorem dX10_shutOf_20 : decode cX10_shutOf 20 = .ok (.getfield 37, 3) := by decide +kernel
theorem dX10_shutOf_23 : decode cX10_shutOf 23 = .ok (.iload_n 1, 1) := by decide +kernel
theorem dX10_shutOf_24 : decode cX10_shutOf 24 = .ok (.iaload, 1) := by decide +kernel
theorem dX10_shutOf_25 : decode cX10_shutOf 25 = .ok (.invokestatic 138, 3) := by decide +kernel
theorem dX10_shutOf_28 : decode cX10_shutOf 28 = .ok (.ifCond .ne 5, 3) := by decide +kernel
theorem dX10_shutOf_31 : decode cX10_shutOf 31 = .ok (.iload_n 2, 1) := by decide +kernel
theorem dX10_shutOf_32 : decode cX10_shutOf 32 = .ok (.ireturn, 1) := by decide +kernel
theorem dX10_shutOf_33 : decode cX10_shutOf 33 = .ok (.iinc 2 1, 3) := by decide +kernel
theorem dX10_shutOf_36 : decode cX10_shutOf 36 = .ok (.goto (-34), 3) := by decide +kernel
theorem dX10_shutOf_39 : decode cX10_shutOf 39 = .ok (.bipush (-9), 2) := by decide +kernel
theorem dX10_shutOf_41 : decode cX10_shutOf 41 = .ok (.ireturn, 1) := by decide +kernel
abbrev rX10_shutOf : Room := { frames := 3, cells := 0, slots := 0, locals := 69 }
set_option maxHeartbeats 4000000 in
set_option maxRecDepth 100000 in
theorem w_X10_shutOf_2 {p : Program} {l : Launch} {e : Env} {s : State} {m : MethodId} {args : Array Value} {below : List Frame} {meth : Method} {c : Code} {D : va_G} {b : Nat} {cs : Cs3} {r : Int32} {S1 : St} (hC : CX p s m args meth c RX10 cX10_shutOf 3 D cs) (hr : meth.sig.returnType = (some .int)) : ∀ (n : Nat) (x1 : Int32) (x2 : Int32) (S : St) (H : Heap) (locs : List Loc) (ls : Array Slot), q_X10_shutOf_2 n x1 x2 S = some (r, S1) → Wd D b cs S H → va_S (AA b) s.heap H locs → lv_has ls 3 [(0, .ref (b + 99)), (1, .int x1), (2, .int x2)] → W p l e rX10_shutOf s m args below meth c H locs 0 0 (MQ below (QX D b cs (some (.int r)) S1) args s 0 0 (AA b)) (F0 m 2 ls []) := by
  intro n
  induction n with
  | zero =>
    intro x1 x2 S H locs ls h
    exact absurd h (by rw [q_X10_shutOf_2]; exact fun q => nomatch q)
  | succ n IH =>
    intro x1 x2 S H locs ls h hW hS hl
    rw [q_X10_shutOf_2] at h
    refine lv_iload_n hC.1 hC.2.1 dX10_shutOf_2 rfl (lv_at hl 2 rfl) ?_
    refine lv_bipush (v := 20) hC.1 hC.2.1 dX10_shutOf_3 (by decide) ?_
    refine lv_icmp_gt (tgt := 39) hC.1 hC.2.1 dX10_shutOf_5 (by decide) (fun hc => ?_) (fun hc => ?_)
    · replace h := xt hc h
      refine lv_bipush (v := -9) hC.1 hC.2.1 dX10_shutOf_39 (by decide) ?_
      obtain ⟨rfl, rfl⟩ := xr h
      exact x_iret hC hr hW hS dX10_shutOf_41
    · replace h := xf hc h
      refine lv_aload_n hC.1 hC.2.1 dX10_shutOf_8 rfl (lv_at hl 0 rfl) ?_
      refine lv_iload_n hC.1 hC.2.1 dX10_shutOf_9 rfl (lv_at hl 1 rfl) ?_
      refine lv_aload_n hC.1 hC.2.1 dX10_shutOf_10 rfl (lv_at hl 0 rfl) ?_
      refine lv_iload_n hC.1 hC.2.1 dX10_shutOf_11 rfl (lv_at hl 1 rfl) ?_
      refine lv_iload_n hC.1 hC.2.1 dX10_shutOf_12 rfl (lv_at hl 2 rfl) ?_
      obtain ⟨⟨q13_r, q13_S⟩, hq, h⟩ := xb h
      try dsimp only at h
      refine x_callV (T := TX10) (N := 27) (As := [.int x1, .int x2]) (rest := [.int x1, .ref (b + 99)]) hC hW hS 99 (c_X10_keysIn l D b cs _ _ _ _ _ hq) (by decide) rfl rfl mi_X10_keysIn in_X10_keysIn sl_X10_keysIn ml_X10_142 ⟨rfl, rfl⟩ ⟨Nat.le_of_ble_eq_true rfl, Nat.le_of_ble_eq_true rfl⟩ ⟨Nat.zero_le _, Nat.zero_le _⟩ rfl rfl hl.1 (Nat.le_of_ble_eq_true rfl) dX10_shutOf_13 (fun H locs hW hS => ?_)
      obtain ⟨⟨q16_r, q16_S⟩, hq, h⟩ := xb h
      try dsimp only at h
      refine x_callV (T := TX10) (N := 27) (As := [.int x1, .int q13_r]) (rest := []) hC hW hS 99 (c_X10_reachBy l D b cs _ _ _ _ _ hq) (by decide) rfl rfl mi_X10_reachBy in_X10_reachBy sl_X10_reachBy ml_X10_151 ⟨rfl, rfl⟩ ⟨Nat.le_of_ble_eq_true rfl, Nat.le_of_ble_eq_true rfl⟩ ⟨Nat.zero_le _, Nat.zero_le _⟩ rfl rfl hl.1 (Nat.le_of_ble_eq_true rfl) dX10_shutOf_16 (fun H locs hW hS => ?_)
      refine lv_aload_n hC.1 hC.2.1 dX10_shutOf_19 rfl (lv_at hl 0 rfl) ?_
      refine x_get (C := RX10) (T := TX10) (N := 27) (v := _) hC hW 99 (by decide) rfl rfl uX10 18 (by decide) fl_X10_37 rfl rfl dX10_shutOf_20 ?_
      refine lv_iload_n hC.1 hC.2.1 dX10_shutOf_23 rfl (lv_at hl 1 rfl) ?_
      obtain ⟨hi, h⟩ := xg h
      refine x_iald hC hW 109 (by decide) rfl hi dX10_shutOf_24 ?_
      obtain ⟨⟨q25_r, q25_S⟩, hq, h⟩ := xb h
      try dsimp only at h
      refine x_callS (As := [.int q16_r, .int (q16_S.1 109 x1.toNatClampNeg)]) (rest := []) hC hW hS (c_X10_has l D b cs _ _ _ _ _ hq) mi_X10_has st_X10_has ml_X10_138 ⟨rfl, rfl⟩ ⟨Nat.le_of_ble_eq_true rfl, Nat.le_of_ble_eq_true rfl⟩ ⟨Nat.zero_le _, Nat.zero_le _⟩ rfl rfl hl.1 (Nat.le_of_ble_eq_true rfl) dX10_shutOf_25 (fun H locs hW hS => ?_)
      refine lv_if_ne (tgt := 33) hC.1 hC.2.1 dX10_shutOf_28 (by decide) (fun hc => ?_) (fun hc => ?_)
      · replace h := xf hc h
        refine lv_iinc (v := x2 + 1) (lv' := [(2, .int (x2 + 1)), (0, .ref (b + 99)), (1, .int x1)]) hC.1 hC.2.1 dX10_shutOf_33 hl (k := 2) rfl rfl (by decide) rfl (fun ls hl => ?_)
        refine lv_goto (tgt := 2) hC.1 hC.2.1 dX10_shutOf_36 (by decide) ?_
        exact IH _ _ _ _ _ _ h hW hS (lv_sub hl [1, 2, 0] rfl)
      · replace h := xt hc h
        refine lv_iload_n hC.1 hC.2.1 dX10_shutOf_31 rfl (lv_at hl 2 rfl) ?_
        obtain ⟨rfl, rfl⟩ := xr h
        exact x_iret hC hr hW hS dX10_shutOf_32
set_option maxHeartbeats 4000000 in
set_option maxRecDepth 100000 in
theorem c_X10_shutOf (l : Launch) (D : va_G) (b : Nat) (cs : Cs3) (x1 : Int32) (S S1 : St) (r : Int32) (h : p_X10_shutOf x1 S = some (r, S1)) : Ct l yX10_shutOf cX10_shutOf 3 (some .int) rX10_shutOf D b cs [.ref (b + 99), .int x1] S (some (.int r)) S1 := by
  refine x_met (by decide +kernel) (Nat.le_of_ble_eq_true rfl) ?_
  intro p e s m below meth c ls hC hr hW hS hl
  have hl : lv_has ls 3 [(0, .ref (b + 99)), (1, .int x1)] := hl
  rw [p_X10_shutOf] at h
  refine lv_iconst (v := 0) hC.1 hC.2.1 dX10_shutOf_0 (by decide) ?_
  refine lv_istore_n (lv' := [(2, .int (0 : Int32)), (0, .ref (b + 99)), (1, .int x1)]) hC.1 hC.2.1 dX10_shutOf_1 rfl hl (by decide) rfl (fun ls hl => ?_)
  exact w_X10_shutOf_2 hC hr _ _ _ _ _ _ _ h hW hS (lv_sub hl [1, 2, 0] rfl)
theorem dX10_door_0 : decode cX10_door 0 = .ok (.aload_n 0, 1) := by decide +kernel
theorem dX10_door_1 : decode cX10_door 1 = .ok (.iconst 0, 1) := by decide +kernel
theorem dX10_door_2 : decode cX10_door 2 = .ok (.putfield 65, 3) := by decide +kernel
theorem dX10_door_5 : decode cX10_door 5 = .ok (.aload_n 0, 1) := by decide +kernel
theorem dX10_door_6 : decode cX10_door 6 = .ok (.iload_n 1, 1) := by decide +kernel
theorem dX10_door_7 : decode cX10_door 7 = .ok (.invokevirtual 154, 3) := by decide +kernel
theorem dX10_door_10 : decode cX10_door 10 = .ok (.ifCond .eq 12, 3) := by decide +kernel
theorem dX10_door_13 : decode cX10_door 13 = .ok (.iload_n 2, 1) := by decide +kernel
theorem dX10_door_14 : decode cX10_door 14 = .ok (.iconst 0, 1) := by decide +kernel
theorem dX10_door_15 : decode cX10_door 15 = .ok (.iconst 4, 1) := by decide +kernel
theorem dX10_door_16 : decode cX10_door 16 = .ok (.invokestatic 69, 3) := by decide +kernel
theorem dX10_door_19 : decode cX10_door 19 = .ok (.ifCond .ne 5, 3) := by decide +kernel
theorem dX10_door_22 : decode cX10_door 22 = .ok (.iconst (-1), 1) := by decide +kernel
theorem dX10_door_23 : decode cX10_door 23 = .ok (.ireturn, 1) := by decide +kernel
theorem dX10_door_24 : decode cX10_door 24 = .ok (.iload_n 2, 1) := by decide +kernel
theorem dX10_door_25 : decode cX10_door 25 = .ok (.iconst 2, 1) := by decide +kernel
theorem dX10_door_26 : decode cX10_door 26 = .ok (.if_icmp .ge 23, 3) := by decide +kernel
theorem dX10_door_29 : decode cX10_door 29 = .ok (.iload_n 2, 1) := by decide +kernel
theorem dX10_door_30 : decode cX10_door 30 = .ok (.ifCond .ne 12, 3) := by decide +kernel
theorem dX10_door_33 : decode cX10_door 33 = .ok (.aload_n 0, 1) := by decide +kernel
theorem dX10_door_34 : decode cX10_door 34 = .ok (.getfield 16, 3) := by decide +kernel
theorem dX10_door_37 : decode cX10_door 37 = .ok (.iload_n 1, 1) := by decide +kernel
theorem dX10_door_38 : decode cX10_door 38 = .ok (.iaload, 1) := by decide +kernel
theorem dX10_door_39 : decode cX10_door 39 = .ok (.goto 9, 3) := by decide +kernel
theorem dX10_door_42 : decode cX10_door 42 = .ok (.aload_n 0, 1) := by decide +kernel
theorem dX10_door_43 : decode cX10_door 43 = .ok (.getfield 19, 3) := by decide +kernel
theorem dX10_door_46 : decode cX10_door 46 = .ok (.iload_n 1, 1) := by decide +kernel
theorem dX10_door_47 : decode cX10_door 47 = .ok (.iaload, 1) := by decide +kernel
theorem dX10_door_48 : decode cX10_door 48 = .ok (.ireturn, 1) := by decide +kernel
theorem dX10_door_49 : decode cX10_door 49 = .ok (.iload_n 2, 1) := by decide +kernel
theorem dX10_door_50 : decode cX10_door 50 = .ok (.iconst 2, 1) := by decide +kernel
theorem dX10_door_51 : decode cX10_door 51 = .ok (.if_icmp .ne 15, 3) := by decide +kernel
theorem dX10_door_54 : decode cX10_door 54 = .ok (.aload_n 0, 1) := by decide +kernel
theorem dX10_door_55 : decode cX10_door 55 = .ok (.getfield 40, 3) := by decide +kernel
theorem dX10_door_58 : decode cX10_door 58 = .ok (.bipush 15, 2) := by decide +kernel
theorem dX10_door_60 : decode cX10_door 60 = .ok (.iload_n 1, 1) := by decide +kernel
theorem dX10_door_61 : decode cX10_door 61 = .ok (.iadd, 1) := by decide +kernel
theorem dX10_door_62 : decode cX10_door 62 = .ok (.iaload, 1) := by decide +kernel
theorem dX10_door_63 : decode cX10_door 63 = .ok (.goto 27, 3) := by decide +kernel
theorem dX10_door_66 : decode cX10_door 66 = .ok (.iload_n 2, 1) := by decide +kernel
theorem dX10_door_67 : decode cX10_door 67 = .ok (.iconst 3, 1) := by decide +kernel
theorem dX10_door_68 : decode cX10_door 68 = .ok (.if_icmp .ne 17, 3) := by decide +kernel
theorem dX10_door_71 : decode cX10_door 71 = .ok (.aload_n 0, 1) := by decide +kernel
theorem dX10_door_72 : decode cX10_door 72 = .ok (.getfield 40, 3) := by decide +kernel
theorem dX10_door_75 : decode cX10_door 75 = .ok (.bipush 23, 2) := by decide +kernel
theorem dX10_door_77 : decode cX10_door 77 = .ok (.iaload, 1) := by decide +kernel
theorem dX10_door_78 : decode cX10_door 78 = .ok (.iload_n 1, 1) := by decide +kernel
theorem dX10_door_79 : decode cX10_door 79 = .ok (.ishr, 1) := by decide +kernel
theorem dX10_door_80 : decode cX10_door 80 = .ok (.iconst 1, 1) := by decide +kernel
theorem dX10_door_81 : decode cX10_door 81 = .ok (.iand, 1) := by decide +kernel
theorem dX10_door_82 : decode cX10_door 82 = .ok (.goto 8, 3) := by decide +kernel
theorem dX10_door_85 : decode cX10_door 85 = .ok (.aload_n 0, 1) := by decide +kernel
theorem dX10_door_86 : decode cX10_door 86 = .ok (.iload_n 1, 1) := by decide +kernel
theorem dX10_door_87 : decode cX10_door 87 = .ok (.invokevirtual 157, 3) := by decide +kernel
theorem dX10_door_90 : decode cX10_door 90 = .ok (.ireturn, 1) := by decide +kernel
abbrev rX10_door : Room := { frames := 4, cells := 0, slots := 0, locals := 94 }
set_option maxHeartbeats 4000000 in
set_option maxRecDepth 100000 in
theorem c_X10_door (l : Launch) (D : va_G) (b : Nat) (cs : Cs3) (x1 : Int32) (x2 : Int32) (S S1 : St) (r : Int32) (h : p_X10_door x1 x2 S = some (r, S1)) : Ct l yX10_door cX10_door 3 (some .int) rX10_door D b cs [.ref (b + 99), .int x1, .int x2] S (some (.int r)) S1 := by
  refine x_met (by decide +kernel) (Nat.le_of_ble_eq_true rfl) ?_
  intro p e s m below meth c ls hC hr hW hS hl
  have hl : lv_has ls 3 [(0, .ref (b + 99)), (1, .int x1), (2, .int x2)] := hl
  rw [p_X10_door] at h
  refine lv_aload_n hC.1 hC.2.1 dX10_door_0 rfl (lv_at hl 0 rfl) ?_
  refine lv_iconst (v := 0) hC.1 hC.2.1 dX10_door_1 (by decide) ?_
  refine x_puti (C := RX10) (T := TX10) (N := 27) (ty := .int) hC hW hS 99 (by decide) rfl rfl uX10 tyX10 tyX10_ok nmX10 0 (by decide) fl_X10_65 rfl (by decide +kernel) rfl rfl rfl dX10_door_2 (fun H locs hW hS => ?_)
  refine lv_aload_n hC.1 hC.2.1 dX10_door_5 rfl (lv_at hl 0 rfl) ?_
  refine lv_iload_n hC.1 hC.2.1 dX10_door_6 rfl (lv_at hl 1 rfl) ?_
  obtain ⟨⟨q7_r, q7_S⟩, hq, h⟩ := xb h
  try dsimp only at h
  refine x_callV (T := TX10) (N := 27) (As := [.int x1]) (rest := []) hC hW hS 99 (c_X10_isDoor l D b cs _ _ _ _ hq) (by decide) rfl rfl mi_X10_isDoor in_X10_isDoor sl_X10_isDoor ml_X10_154 ⟨rfl, rfl⟩ ⟨Nat.le_of_ble_eq_true rfl, Nat.le_of_ble_eq_true rfl⟩ ⟨Nat.zero_le _, Nat.zero_le _⟩ rfl rfl hl.1 (Nat.le_of_ble_eq_true rfl) dX10_door_7 (fun H locs hW hS => ?_)
  refine lv_if_eq (tgt := 22) hC.1 hC.2.1 dX10_door_10 (by decide) (fun hc => ?_) (fun hc => ?_)
  · replace h := xt hc h
    refine lv_iconst (v := -1) hC.1 hC.2.1 dX10_door_22 (by decide) ?_
    obtain ⟨rfl, rfl⟩ := xr h
    exact x_iret hC hr hW hS dX10_door_23
  · replace h := xf hc h
    refine lv_iload_n hC.1 hC.2.1 dX10_door_13 rfl (lv_at hl 2 rfl) ?_
    refine lv_iconst (v := 0) hC.1 hC.2.1 dX10_door_14 (by decide) ?_
    refine lv_iconst (v := 4) hC.1 hC.2.1 dX10_door_15 (by decide) ?_
    obtain ⟨⟨q16_r, q16_S⟩, hq, h⟩ := xb h
    try dsimp only at h
    refine x_callS (As := [.int x2, .int (0 : Int32), .int (4 : Int32)]) (rest := []) hC hW hS (c_X10_in l D b cs _ _ _ _ _ _ hq) mi_X10_in st_X10_in ml_X10_69 ⟨rfl, rfl⟩ ⟨Nat.le_of_ble_eq_true rfl, Nat.le_of_ble_eq_true rfl⟩ ⟨Nat.zero_le _, Nat.zero_le _⟩ rfl rfl hl.1 (Nat.le_of_ble_eq_true rfl) dX10_door_16 (fun H locs hW hS => ?_)
    refine lv_if_ne (tgt := 24) hC.1 hC.2.1 dX10_door_19 (by decide) (fun hc => ?_) (fun hc => ?_)
    · replace h := xf hc h
      refine lv_iload_n hC.1 hC.2.1 dX10_door_24 rfl (lv_at hl 2 rfl) ?_
      refine lv_iconst (v := 2) hC.1 hC.2.1 dX10_door_25 (by decide) ?_
      refine lv_icmp_ge (tgt := 49) hC.1 hC.2.1 dX10_door_26 (by decide) (fun hc => ?_) (fun hc => ?_)
      · replace h := xt hc h
        refine lv_iload_n hC.1 hC.2.1 dX10_door_49 rfl (lv_at hl 2 rfl) ?_
        refine lv_iconst (v := 2) hC.1 hC.2.1 dX10_door_50 (by decide) ?_
        refine lv_icmp_ne (tgt := 66) hC.1 hC.2.1 dX10_door_51 (by decide) (fun hc => ?_) (fun hc => ?_)
        · replace h := xf hc h
          refine lv_iload_n hC.1 hC.2.1 dX10_door_66 rfl (lv_at hl 2 rfl) ?_
          refine lv_iconst (v := 3) hC.1 hC.2.1 dX10_door_67 (by decide) ?_
          refine lv_icmp_ne (tgt := 85) hC.1 hC.2.1 dX10_door_68 (by decide) (fun hc => ?_) (fun hc => ?_)
          · replace h := xf hc h
            refine lv_aload_n hC.1 hC.2.1 dX10_door_85 rfl (lv_at hl 0 rfl) ?_
            refine lv_iload_n hC.1 hC.2.1 dX10_door_86 rfl (lv_at hl 1 rfl) ?_
            obtain ⟨⟨q87_r, q87_S⟩, hq, h⟩ := xb h
            try dsimp only at h
            refine x_callV (T := TX10) (N := 27) (As := [.int x1]) (rest := []) hC hW hS 99 (c_X10_openers l D b cs _ _ _ _ hq) (by decide) rfl rfl mi_X10_openers in_X10_openers sl_X10_openers ml_X10_157 ⟨rfl, rfl⟩ ⟨Nat.le_of_ble_eq_true rfl, Nat.le_of_ble_eq_true rfl⟩ ⟨Nat.zero_le _, Nat.zero_le _⟩ rfl rfl hl.1 (Nat.le_of_ble_eq_true rfl) dX10_door_87 (fun H locs hW hS => ?_)
            obtain ⟨rfl, rfl⟩ := xr h
            exact x_iret hC hr hW hS dX10_door_90
          · replace h := xt hc h
            refine lv_aload_n hC.1 hC.2.1 dX10_door_71 rfl (lv_at hl 0 rfl) ?_
            refine x_get (C := RX10) (T := TX10) (N := 27) (v := _) hC hW 99 (by decide) rfl rfl uX10 19 (by decide) fl_X10_40 rfl rfl dX10_door_72 ?_
            refine lv_bipush (v := 23) hC.1 hC.2.1 dX10_door_75 (by decide) ?_
            obtain ⟨hi, h⟩ := xg h
            refine x_iald hC hW 110 (by decide) rfl hi dX10_door_77 ?_
            refine lv_iload_n hC.1 hC.2.1 dX10_door_78 rfl (lv_at hl 1 rfl) ?_
            refine lv_ishr hC.1 hC.2.1 dX10_door_79 ?_
            refine lv_iconst (v := 1) hC.1 hC.2.1 dX10_door_80 (by decide) ?_
            refine lv_iand hC.1 hC.2.1 dX10_door_81 ?_
            refine lv_goto (tgt := 90) hC.1 hC.2.1 dX10_door_82 (by decide) ?_
            obtain ⟨rfl, rfl⟩ := xr h
            exact x_iret hC hr hW hS dX10_door_90
        · replace h := xt hc h
          refine lv_aload_n hC.1 hC.2.1 dX10_door_54 rfl (lv_at hl 0 rfl) ?_
          refine x_get (C := RX10) (T := TX10) (N := 27) (v := _) hC hW 99 (by decide) rfl rfl uX10 19 (by decide) fl_X10_40 rfl rfl dX10_door_55 ?_
          refine lv_bipush (v := 15) hC.1 hC.2.1 dX10_door_58 (by decide) ?_
          refine lv_iload_n hC.1 hC.2.1 dX10_door_60 rfl (lv_at hl 1 rfl) ?_
          refine lv_iadd hC.1 hC.2.1 dX10_door_61 ?_
          obtain ⟨hi, h⟩ := xg h
          refine x_iald hC hW 110 (by decide) rfl hi dX10_door_62 ?_
          refine lv_goto (tgt := 90) hC.1 hC.2.1 dX10_door_63 (by decide) ?_
          obtain ⟨rfl, rfl⟩ := xr h
          exact x_iret hC hr hW hS dX10_door_90
      · replace h := xf hc h
        refine lv_iload_n hC.1 hC.2.1 dX10_door_29 rfl (lv_at hl 2 rfl) ?_
        refine lv_if_ne (tgt := 42) hC.1 hC.2.1 dX10_door_30 (by decide) (fun hc => ?_) (fun hc => ?_)
        · replace h := xf hc h
          refine lv_aload_n hC.1 hC.2.1 dX10_door_42 rfl (lv_at hl 0 rfl) ?_
          refine x_get (C := RX10) (T := TX10) (N := 27) (v := _) hC hW 99 (by decide) rfl rfl uX10 12 (by decide) fl_X10_19 rfl rfl dX10_door_43 ?_
          refine lv_iload_n hC.1 hC.2.1 dX10_door_46 rfl (lv_at hl 1 rfl) ?_
          obtain ⟨hi, h⟩ := xg h
          refine x_iald hC hW 103 (by decide) rfl hi dX10_door_47 ?_
          obtain ⟨rfl, rfl⟩ := xr h
          exact x_iret hC hr hW hS dX10_door_48
        · replace h := xt hc h
          refine lv_aload_n hC.1 hC.2.1 dX10_door_33 rfl (lv_at hl 0 rfl) ?_
          refine x_get (C := RX10) (T := TX10) (N := 27) (v := _) hC hW 99 (by decide) rfl rfl uX10 11 (by decide) fl_X10_16 rfl rfl dX10_door_34 ?_
          refine lv_iload_n hC.1 hC.2.1 dX10_door_37 rfl (lv_at hl 1 rfl) ?_
          obtain ⟨hi, h⟩ := xg h
          refine x_iald hC hW 102 (by decide) rfl hi dX10_door_38 ?_
          refine lv_goto (tgt := 48) hC.1 hC.2.1 dX10_door_39 (by decide) ?_
          obtain ⟨rfl, rfl⟩ := xr h
          exact x_iret hC hr hW hS dX10_door_48
    · replace h := xt hc h
      refine lv_iconst (v := -1) hC.1 hC.2.1 dX10_door_22 (by decide) ?_
      obtain ⟨rfl, rfl⟩ := xr h
      exact x_iret hC hr hW hS dX10_door_23
theorem dX10_boy_0 : decode cX10_boy 0 = .ok (.aload_n 0, 1) := by decide +kernel
theorem dX10_boy_1 : decode cX10_boy 1 = .ok (.iconst 0, 1) := by decide +kernel
theorem dX10_boy_2 : decode cX10_boy 2 = .ok (.putfield 65, 3) := by decide +kernel
theorem dX10_boy_5 : decode cX10_boy 5 = .ok (.aload_n 0, 1) := by decide +kernel
theorem dX10_boy_6 : decode cX10_boy 6 = .ok (.iload_n 1, 1) := by decide +kernel
theorem dX10_boy_7 : decode cX10_boy 7 = .ok (.invokevirtual 160, 3) := by decide +kernel
theorem dX10_boy_10 : decode cX10_boy 10 = .ok (.ifCond .eq 13, 3) := by decide +kernel
theorem dX10_boy_13 : decode cX10_boy 13 = .ok (.iload_n 2, 1) := by decide +kernel
theorem dX10_boy_14 : decode cX10_boy 14 = .ok (.iconst 0, 1) := by decide +kernel
theorem dX10_boy_15 : decode cX10_boy 15 = .ok (.bipush 9, 2) := by decide +kernel
theorem dX10_boy_17 : decode cX10_boy 17 = .ok (.invokestatic 69, 3) := by decide +kernel
theorem dX10_boy_20 : decode cX10_boy 20 = .ok (.ifCond .ne 6, 3) := by decide +kernel
theorem dX10_boy_23 : decode cX10_boy 23 = .ok (.ldc 163, 2) := by decide +kernel
theorem dX10_boy_25 : decode cX10_boy 25 = .ok (.ireturn, 1) := by decide +kernel
theorem dX10_boy_26 : decode cX10_boy 26 = .ok (.iload_n 2, 1) := by decide +kernel
theorem dX10_boy_27 : decode cX10_boy 27 = .ok (.iconst 4, 1) := by decide +kernel
theorem dX10_boy_28 : decode cX10_boy 28 = .ok (.if_icmp .ge 76, 3) := by decide +kernel
theorem dX10_boy_31 : decode cX10_boy 31 = .ok (.iload_n 2, 1) := by decide +kernel
theorem dX10_boy_32 : decode cX10_boy 32 = .ok (.ifCond .ne 19, 3) := by decide +kernel
theorem dX10_boy_35 : decode cX10_boy 35 = .ok (.aload_n 0, 1) := by decide +kernel
theorem dX10_boy_36 : decode cX10_boy 36 = .ok (.iload_n 1, 1) := by decide +kernel
theorem dX10_boy_37 : decode cX10_boy 37 = .ok (.aload_n 0, 1) := by decide +kernel
theorem dX10_boy_38 : decode cX10_boy 38 = .ok (.getfield 40, 3) := by decide +kernel
theorem dX10_boy_41 : decode cX10_boy 41 = .ok (.iconst 5, 1) := by decide +kernel
theorem dX10_boy_42 : decode cX10_boy 42 = .ok (.iload_n 1, 1) := by decide +kernel
theorem dX10_boy_43 : decode cX10_boy 43 = .ok (.iadd, 1) := by decide +kernel
theorem dX10_boy_44 : decode cX10_boy 44 = .ok (.iaload, 1) := by decide +kernel
theorem dX10_boy_45 : decode cX10_boy 45 = .ok (.invokevirtual 131, 3) := by decide +kernel
theorem dX10_boy_48 : decode cX10_boy 48 = .ok (.goto 55, 3) := by decide +kernel
theorem dX10_boy_51 : decode cX10_boy 51 = .ok (.iload_n 2, 1) := by decide +kernel
theorem dX10_boy_52 : decode cX10_boy 52 = .ok (.iconst 1, 1) := by decide +kernel
theorem dX10_boy_53 : decode cX10_boy 53 = .ok (.if_icmp .ne 28, 3) := by decide +kernel
theorem dX10_boy_56 : decode cX10_boy 56 = .ok (.aload_n 0, 1) := by decide +kernel
theorem dX10_boy_57 : decode cX10_boy 57 = .ok (.iload_n 1, 1) := by decide +kernel
theorem dX10_boy_58 : decode cX10_boy 58 = .ok (.aload_n 0, 1) := by decide +kernel
theorem dX10_boy_59 : decode cX10_boy 59 = .ok (.getfield 40, 3) := by decide +kernel
theorem dX10_boy_62 : decode cX10_boy 62 = .ok (.iconst 5, 1) := by decide +kernel
theorem dX10_boy_63 : decode cX10_boy 63 = .ok (.iload_n 1, 1) := by decide +kernel
theorem dX10_boy_64 : decode cX10_boy 64 = .ok (.iadd, 1) := by decide +kernel
theorem dX10_boy_65 : decode cX10_boy 65 = .ok (.iaload, 1) := by decide +kernel
theorem dX10_boy_66 : decode cX10_boy 66 = .ok (.aload_n 0, 1) := by decide +kernel
theorem dX10_boy_67 : decode cX10_boy 67 = .ok (.getfield 40, 3) := by decide +kernel
theorem dX10_boy_70 : decode cX10_boy 70 = .ok (.bipush 10, 2) := by decide +kernel
theorem dX10_boy_72 : decode cX10_boy 72 = .ok (.iload_n 1, 1) := by decide +kernel
theorem dX10_boy_73 : decode cX10_boy 73 = .ok (.iadd, 1) := by decide +kernel
theorem dX10_boy_74 : decode cX10_boy 74 = .ok (.iaload, 1) := by decide +kernel
theorem dX10_boy_75 : decode cX10_boy 75 = .ok (.invokevirtual 134, 3) := by decide +kernel
theorem dX10_boy_78 : decode cX10_boy 78 = .ok (.goto 25, 3) := by decide +kernel
theorem dX10_boy_81 : decode cX10_boy 81 = .ok (.iload_n 2, 1) := by decide +kernel
theorem dX10_boy_82 : decode cX10_boy 82 = .ok (.iconst 2, 1) := by decide +kernel
theorem dX10_boy_83 : decode cX10_boy 83 = .ok (.if_icmp .ne 14, 3) := by decide +kernel
theorem dX10_boy_86 : decode cX10_boy 86 = .ok (.aload_n 0, 1) := by decide +kernel
theorem dX10_boy_87 : decode cX10_boy 87 = .ok (.getfield 40, 3) := by decide +kernel
theorem dX10_boy_90 : decode cX10_boy 90 = .ok (.iconst 5, 1) := by decide +kernel
theorem dX10_boy_91 : decode cX10_boy 91 = .ok (.iload_n 1, 1) := by decide +kernel
theorem dX10_boy_92 : decode cX10_boy 92 = .ok (.iadd, 1) := by decide +kernel
theorem dX10_boy_93 : decode cX10_boy 93 = .ok (.iaload, 1) := by decide +kernel
theorem dX10_boy_94 : decode cX10_boy 94 = .ok (.goto 9, 3) := by decide +kernel
theorem dX10_boy_97 : decode cX10_boy 97 = .ok (.aload_n 0, 1) := by decide +kernel
theorem dX10_boy_98 : decode cX10_boy 98 = .ok (.getfield 34, 3) := by decide +kernel
theorem dX10_boy_101 : decode cX10_boy 101 = .ok (.iload_n 1, 1) := by decide +kernel
theorem dX10_boy_102 : decode cX10_boy 102 = .ok (.iaload, 1) := by decide +kernel
theorem dX10_boy_103 : decode cX10_boy 103 = .ok (.ireturn, 1) := by decide +kernel
theorem dX10_boy_104 : decode cX10_boy 104 = .ok (.iload_n 2, 1) := by decide +kernel
theorem dX10_boy_105 : decode cX10_boy 105 = .ok (.bipush 7, 2) := by decide +kernel
theorem dX10_boy_107 : decode cX10_boy 107 = .ok (.if_icmp .ge 43, 3) := by decide +kernel
theorem dX10_boy_110 : decode cX10_boy 110 = .ok (.iload_n 2, 1) := by decide +kernel
theorem dX10_boy_111 : decode cX10_boy 111 = .ok (.iconst 4, 1) := by decide +kernel
theorem dX10_boy_112 : decode cX10_boy 112 = .ok (.if_icmp .ne 12, 3) := by decide +kernel
theorem dX10_boy_115 : decode cX10_boy 115 = .ok (.aload_n 0, 1) := by decide +kernel
theorem dX10_boy_116 : decode cX10_boy 116 = .ok (.getfield 37, 3) := by decide +kernel
theorem dX10_boy_119 : decode cX10_boy 119 = .ok (.iload_n 1, 1) := by decide +kernel
theorem dX10_boy_120 : decode cX10_boy 120 = .ok (.iaload, 1) := by decide +kernel
theorem dX10_boy_121 : decode cX10_boy 121 = .ok (.goto 28, 3) := by decide +kernel
theorem dX10_boy_124 : decode cX10_boy 124 = .ok (.iload_n 2, 1) := by decide +kernel
theorem dX10_boy_125 : decode cX10_boy 125 = .ok (.iconst 5, 1) := by decide +kernel
theorem dX10_boy_126 : decode cX10_boy 126 = .ok (.if_icmp .ne 14, 3) := by decide +kernel
theorem dX10_boy_129 : decode cX10_boy 129 = .ok (.aload_n 0, 1) := by decide +kernel
theorem dX10_boy_130 : decode cX10_boy 130 = .ok (.getfield 40, 3) := by decide +kernel
theorem dX10_boy_133 : decode cX10_boy 133 = .ok (.iconst 0, 1) := by decide +kernel
theorem dX10_boy_134 : decode cX10_boy 134 = .ok (.iload_n 1, 1) := by decide +kernel
theorem dX10_boy_135 : decode cX10_boy 135 = .ok (.iadd, 1) := by decide +kernel
theorem dX10_boy_136 : decode cX10_boy 136 = .ok (.iaload, 1) := by decide +kernel
theorem dX10_boy_137 : decode cX10_boy 137 = .ok (.goto 12, 3) := by decide +kernel
theorem dX10_boy_140 : decode cX10_boy 140 = .ok (.aload_n 0, 1) := by decide +kernel
theorem dX10_boy_141 : decode cX10_boy 141 = .ok (.getfield 40, 3) := by decide +kernel
theorem dX10_boy_144 : decode cX10_boy 144 = .ok (.bipush 10, 2) := by decide +kernel
theorem dX10_boy_146 : decode cX10_boy 146 = .ok (.iload_n 1, 1) := by decide +kernel
theorem dX10_boy_147 : decode cX10_boy 147 = .ok (.iadd, 1) := by decide +kernel
theorem dX10_boy_148 : decode cX10_boy 148 = .ok (.iaload, 1) := by decide +kernel
theorem dX10_boy_149 : decode cX10_boy 149 = .ok (.ireturn, 1) := by decide +kernel
theorem dX10_boy_150 : decode cX10_boy 150 = .ok (.iload_n 2, 1) := by decide +kernel
theorem dX10_boy_151 : decode cX10_boy 151 = .ok (.bipush 7, 2) := by decide +kernel
theorem dX10_boy_153 : decode cX10_boy 153 = .ok (.if_icmp .ne 11, 3) := by decide +kernel
theorem dX10_boy_156 : decode cX10_boy 156 = .ok (.aload_n 0, 1) := by decide +kernel
theorem dX10_boy_157 : decode cX10_boy 157 = .ok (.iload_n 1, 1) := by decide +kernel
theorem dX10_boy_158 : decode cX10_boy 158 = .ok (.invokevirtual 145, 3) := by decide +kernel
theorem dX10_boy_161 : decode cX10_boy 161 = .ok (.goto 27, 3) := by decide +kernel
theorem dX10_boy_164 : decode cX10_boy 164 = .ok (.iload_n 2, 1) := by decide +kernel
theorem dX10_boy_165 : decode cX10_boy 165 = .ok (.bipush 8, 2) := by decide +kernel
theorem dX10_boy_167 : decode cX10_boy 167 = .ok (.if_icmp .ne 16, 3) := by decide +kernel
theorem dX10_boy_170 : decode cX10_boy 170 = .ok (.aload_n 0, 1) := by decide +kernel
theorem dX10_boy_171 : decode cX10_boy 171 = .ok (.iload_n 1, 1) := by decide +kernel
theorem dX10_boy_172 : decode cX10_boy 172 = .ok (.aload_n 0, 1) := by decide +kernel
theorem dX10_boy_173 : decode cX10_boy 173 = .ok (.iload_n 1, 1) := by decide +kernel
theorem dX10_boy_174 : decode cX10_boy 174 = .ok (.invokevirtual 145, 3) := by decide +kernel
theorem dX10_boy_177 : decode cX10_boy 177 = .ok (.invokevirtual 151, 3) := by decide +kernel
theorem dX10_boy_180 : decode cX10_boy 180 = .ok (.goto 8, 3) := by decide +kernel
theorem dX10_boy_183 : decode cX10_boy 183 = .ok (.aload_n 0, 1) := by decide +kernel
theorem dX10_boy_184 : decode cX10_boy 184 = .ok (.iload_n 1, 1) := by decide +kernel
theorem dX10_boy_185 : decode cX10_boy 185 = .ok (.invokevirtual 164, 3) := by decide +kernel
theorem dX10_boy_188 : decode cX10_boy 188 = .ok (.ireturn, 1) := by decide +kernel
abbrev rX10_boy : Room := { frames := 4, cells := 0, slots := 0, locals := 91 }
set_option maxHeartbeats 4000000 in
set_option maxRecDepth 100000 in
theorem c_X10_boy (l : Launch) (D : va_G) (b : Nat) (cs : Cs3) (x1 : Int32) (x2 : Int32) (S S1 : St) (r : Int32) (h : p_X10_boy x1 x2 S = some (r, S1)) : Ct l yX10_boy cX10_boy 3 (some .int) rX10_boy D b cs [.ref (b + 99), .int x1, .int x2] S (some (.int r)) S1 := by
  refine x_met (by decide +kernel) (Nat.le_of_ble_eq_true rfl) ?_
  intro p e s m below meth c ls hC hr hW hS hl
  have hl : lv_has ls 3 [(0, .ref (b + 99)), (1, .int x1), (2, .int x2)] := hl
  rw [p_X10_boy] at h
  refine lv_aload_n hC.1 hC.2.1 dX10_boy_0 rfl (lv_at hl 0 rfl) ?_
  refine lv_iconst (v := 0) hC.1 hC.2.1 dX10_boy_1 (by decide) ?_
  refine x_puti (C := RX10) (T := TX10) (N := 27) (ty := .int) hC hW hS 99 (by decide) rfl rfl uX10 tyX10 tyX10_ok nmX10 0 (by decide) fl_X10_65 rfl (by decide +kernel) rfl rfl rfl dX10_boy_2 (fun H locs hW hS => ?_)
  refine lv_aload_n hC.1 hC.2.1 dX10_boy_5 rfl (lv_at hl 0 rfl) ?_
  refine lv_iload_n hC.1 hC.2.1 dX10_boy_6 rfl (lv_at hl 1 rfl) ?_
  obtain ⟨⟨q7_r, q7_S⟩, hq, h⟩ := xb h
  try dsimp only at h
  refine x_callV (T := TX10) (N := 27) (As := [.int x1]) (rest := []) hC hW hS 99 (c_X10_isBoy l D b cs _ _ _ _ hq) (by decide) rfl rfl mi_X10_isBoy in_X10_isBoy sl_X10_isBoy ml_X10_160 ⟨rfl, rfl⟩ ⟨Nat.le_of_ble_eq_true rfl, Nat.le_of_ble_eq_true rfl⟩ ⟨Nat.zero_le _, Nat.zero_le _⟩ rfl rfl hl.1 (Nat.le_of_ble_eq_true rfl) dX10_boy_7 (fun H locs hW hS => ?_)
  refine lv_if_eq (tgt := 23) hC.1 hC.2.1 dX10_boy_10 (by decide) (fun hc => ?_) (fun hc => ?_)
  · replace h := xt hc h
    refine lv_ldc (v := -1000000) hC.1 hC.2.1 hC.2.2.2.1 (hC.2.2.2.2.1 _ kw_X10_163) dX10_boy_23 ?_
    obtain ⟨rfl, rfl⟩ := xr h
    exact x_iret hC hr hW hS dX10_boy_25
  · replace h := xf hc h
    refine lv_iload_n hC.1 hC.2.1 dX10_boy_13 rfl (lv_at hl 2 rfl) ?_
    refine lv_iconst (v := 0) hC.1 hC.2.1 dX10_boy_14 (by decide) ?_
    refine lv_bipush (v := 9) hC.1 hC.2.1 dX10_boy_15 (by decide) ?_
    obtain ⟨⟨q17_r, q17_S⟩, hq, h⟩ := xb h
    try dsimp only at h
    refine x_callS (As := [.int x2, .int (0 : Int32), .int (9 : Int32)]) (rest := []) hC hW hS (c_X10_in l D b cs _ _ _ _ _ _ hq) mi_X10_in st_X10_in ml_X10_69 ⟨rfl, rfl⟩ ⟨Nat.le_of_ble_eq_true rfl, Nat.le_of_ble_eq_true rfl⟩ ⟨Nat.zero_le _, Nat.zero_le _⟩ rfl rfl hl.1 (Nat.le_of_ble_eq_true rfl) dX10_boy_17 (fun H locs hW hS => ?_)
    refine lv_if_ne (tgt := 26) hC.1 hC.2.1 dX10_boy_20 (by decide) (fun hc => ?_) (fun hc => ?_)
    · replace h := xf hc h
      refine lv_iload_n hC.1 hC.2.1 dX10_boy_26 rfl (lv_at hl 2 rfl) ?_
      refine lv_iconst (v := 4) hC.1 hC.2.1 dX10_boy_27 (by decide) ?_
      refine lv_icmp_ge (tgt := 104) hC.1 hC.2.1 dX10_boy_28 (by decide) (fun hc => ?_) (fun hc => ?_)
      · replace h := xt hc h
        refine lv_iload_n hC.1 hC.2.1 dX10_boy_104 rfl (lv_at hl 2 rfl) ?_
        refine lv_bipush (v := 7) hC.1 hC.2.1 dX10_boy_105 (by decide) ?_
        refine lv_icmp_ge (tgt := 150) hC.1 hC.2.1 dX10_boy_107 (by decide) (fun hc => ?_) (fun hc => ?_)
        · replace h := xt hc h
          refine lv_iload_n hC.1 hC.2.1 dX10_boy_150 rfl (lv_at hl 2 rfl) ?_
          refine lv_bipush (v := 7) hC.1 hC.2.1 dX10_boy_151 (by decide) ?_
          refine lv_icmp_ne (tgt := 164) hC.1 hC.2.1 dX10_boy_153 (by decide) (fun hc => ?_) (fun hc => ?_)
          · replace h := xf hc h
            refine lv_iload_n hC.1 hC.2.1 dX10_boy_164 rfl (lv_at hl 2 rfl) ?_
            refine lv_bipush (v := 8) hC.1 hC.2.1 dX10_boy_165 (by decide) ?_
            refine lv_icmp_ne (tgt := 183) hC.1 hC.2.1 dX10_boy_167 (by decide) (fun hc => ?_) (fun hc => ?_)
            · replace h := xf hc h
              refine lv_aload_n hC.1 hC.2.1 dX10_boy_183 rfl (lv_at hl 0 rfl) ?_
              refine lv_iload_n hC.1 hC.2.1 dX10_boy_184 rfl (lv_at hl 1 rfl) ?_
              obtain ⟨⟨q185_r, q185_S⟩, hq, h⟩ := xb h
              try dsimp only at h
              refine x_callV (T := TX10) (N := 27) (As := [.int x1]) (rest := []) hC hW hS 99 (c_X10_shutOf l D b cs _ _ _ _ hq) (by decide) rfl rfl mi_X10_shutOf in_X10_shutOf sl_X10_shutOf ml_X10_164 ⟨rfl, rfl⟩ ⟨Nat.le_of_ble_eq_true rfl, Nat.le_of_ble_eq_true rfl⟩ ⟨Nat.zero_le _, Nat.zero_le _⟩ rfl rfl hl.1 (Nat.le_of_ble_eq_true rfl) dX10_boy_185 (fun H locs hW hS => ?_)
              obtain ⟨rfl, rfl⟩ := xr h
              exact x_iret hC hr hW hS dX10_boy_188
            · replace h := xt hc h
              refine lv_aload_n hC.1 hC.2.1 dX10_boy_170 rfl (lv_at hl 0 rfl) ?_
              refine lv_iload_n hC.1 hC.2.1 dX10_boy_171 rfl (lv_at hl 1 rfl) ?_
              refine lv_aload_n hC.1 hC.2.1 dX10_boy_172 rfl (lv_at hl 0 rfl) ?_
              refine lv_iload_n hC.1 hC.2.1 dX10_boy_173 rfl (lv_at hl 1 rfl) ?_
              obtain ⟨⟨q174_r, q174_S⟩, hq, h⟩ := xb h
              try dsimp only at h
              refine x_callV (T := TX10) (N := 27) (As := [.int x1]) (rest := [.int x1, .ref (b + 99)]) hC hW hS 99 (c_X10_keys l D b cs _ _ _ _ hq) (by decide) rfl rfl mi_X10_keys in_X10_keys sl_X10_keys ml_X10_145 ⟨rfl, rfl⟩ ⟨Nat.le_of_ble_eq_true rfl, Nat.le_of_ble_eq_true rfl⟩ ⟨Nat.zero_le _, Nat.zero_le _⟩ rfl rfl hl.1 (Nat.le_of_ble_eq_true rfl) dX10_boy_174 (fun H locs hW hS => ?_)
              obtain ⟨⟨q177_r, q177_S⟩, hq, h⟩ := xb h
              try dsimp only at h
              refine x_callV (T := TX10) (N := 27) (As := [.int x1, .int q174_r]) (rest := []) hC hW hS 99 (c_X10_reachBy l D b cs _ _ _ _ _ hq) (by decide) rfl rfl mi_X10_reachBy in_X10_reachBy sl_X10_reachBy ml_X10_151 ⟨rfl, rfl⟩ ⟨Nat.le_of_ble_eq_true rfl, Nat.le_of_ble_eq_true rfl⟩ ⟨Nat.zero_le _, Nat.zero_le _⟩ rfl rfl hl.1 (Nat.le_of_ble_eq_true rfl) dX10_boy_177 (fun H locs hW hS => ?_)
              refine lv_goto (tgt := 188) hC.1 hC.2.1 dX10_boy_180 (by decide) ?_
              obtain ⟨rfl, rfl⟩ := xr h
              exact x_iret hC hr hW hS dX10_boy_188
          · replace h := xt hc h
            refine lv_aload_n hC.1 hC.2.1 dX10_boy_156 rfl (lv_at hl 0 rfl) ?_
            refine lv_iload_n hC.1 hC.2.1 dX10_boy_157 rfl (lv_at hl 1 rfl) ?_
            obtain ⟨⟨q158_r, q158_S⟩, hq, h⟩ := xb h
            try dsimp only at h
            refine x_callV (T := TX10) (N := 27) (As := [.int x1]) (rest := []) hC hW hS 99 (c_X10_keys l D b cs _ _ _ _ hq) (by decide) rfl rfl mi_X10_keys in_X10_keys sl_X10_keys ml_X10_145 ⟨rfl, rfl⟩ ⟨Nat.le_of_ble_eq_true rfl, Nat.le_of_ble_eq_true rfl⟩ ⟨Nat.zero_le _, Nat.zero_le _⟩ rfl rfl hl.1 (Nat.le_of_ble_eq_true rfl) dX10_boy_158 (fun H locs hW hS => ?_)
            refine lv_goto (tgt := 188) hC.1 hC.2.1 dX10_boy_161 (by decide) ?_
            obtain ⟨rfl, rfl⟩ := xr h
            exact x_iret hC hr hW hS dX10_boy_188
        · replace h := xf hc h
          refine lv_iload_n hC.1 hC.2.1 dX10_boy_110 rfl (lv_at hl 2 rfl) ?_
          refine lv_iconst (v := 4) hC.1 hC.2.1 dX10_boy_111 (by decide) ?_
          refine lv_icmp_ne (tgt := 124) hC.1 hC.2.1 dX10_boy_112 (by decide) (fun hc => ?_) (fun hc => ?_)
          · replace h := xf hc h
            refine lv_iload_n hC.1 hC.2.1 dX10_boy_124 rfl (lv_at hl 2 rfl) ?_
            refine lv_iconst (v := 5) hC.1 hC.2.1 dX10_boy_125 (by decide) ?_
            refine lv_icmp_ne (tgt := 140) hC.1 hC.2.1 dX10_boy_126 (by decide) (fun hc => ?_) (fun hc => ?_)
            · replace h := xf hc h
              refine lv_aload_n hC.1 hC.2.1 dX10_boy_140 rfl (lv_at hl 0 rfl) ?_
              refine x_get (C := RX10) (T := TX10) (N := 27) (v := _) hC hW 99 (by decide) rfl rfl uX10 19 (by decide) fl_X10_40 rfl rfl dX10_boy_141 ?_
              refine lv_bipush (v := 10) hC.1 hC.2.1 dX10_boy_144 (by decide) ?_
              refine lv_iload_n hC.1 hC.2.1 dX10_boy_146 rfl (lv_at hl 1 rfl) ?_
              refine lv_iadd hC.1 hC.2.1 dX10_boy_147 ?_
              obtain ⟨hi, h⟩ := xg h
              refine x_iald hC hW 110 (by decide) rfl hi dX10_boy_148 ?_
              obtain ⟨rfl, rfl⟩ := xr h
              exact x_iret hC hr hW hS dX10_boy_149
            · replace h := xt hc h
              refine lv_aload_n hC.1 hC.2.1 dX10_boy_129 rfl (lv_at hl 0 rfl) ?_
              refine x_get (C := RX10) (T := TX10) (N := 27) (v := _) hC hW 99 (by decide) rfl rfl uX10 19 (by decide) fl_X10_40 rfl rfl dX10_boy_130 ?_
              refine lv_iconst (v := 0) hC.1 hC.2.1 dX10_boy_133 (by decide) ?_
              refine lv_iload_n hC.1 hC.2.1 dX10_boy_134 rfl (lv_at hl 1 rfl) ?_
              refine lv_iadd hC.1 hC.2.1 dX10_boy_135 ?_
              obtain ⟨hi, h⟩ := xg h
              refine x_iald hC hW 110 (by decide) rfl hi dX10_boy_136 ?_
              refine lv_goto (tgt := 149) hC.1 hC.2.1 dX10_boy_137 (by decide) ?_
              obtain ⟨rfl, rfl⟩ := xr h
              exact x_iret hC hr hW hS dX10_boy_149
          · replace h := xt hc h
            refine lv_aload_n hC.1 hC.2.1 dX10_boy_115 rfl (lv_at hl 0 rfl) ?_
            refine x_get (C := RX10) (T := TX10) (N := 27) (v := _) hC hW 99 (by decide) rfl rfl uX10 18 (by decide) fl_X10_37 rfl rfl dX10_boy_116 ?_
            refine lv_iload_n hC.1 hC.2.1 dX10_boy_119 rfl (lv_at hl 1 rfl) ?_
            obtain ⟨hi, h⟩ := xg h
            refine x_iald hC hW 109 (by decide) rfl hi dX10_boy_120 ?_
            refine lv_goto (tgt := 149) hC.1 hC.2.1 dX10_boy_121 (by decide) ?_
            obtain ⟨rfl, rfl⟩ := xr h
            exact x_iret hC hr hW hS dX10_boy_149
      · replace h := xf hc h
        refine lv_iload_n hC.1 hC.2.1 dX10_boy_31 rfl (lv_at hl 2 rfl) ?_
        refine lv_if_ne (tgt := 51) hC.1 hC.2.1 dX10_boy_32 (by decide) (fun hc => ?_) (fun hc => ?_)
        · replace h := xf hc h
          refine lv_iload_n hC.1 hC.2.1 dX10_boy_51 rfl (lv_at hl 2 rfl) ?_
          refine lv_iconst (v := 1) hC.1 hC.2.1 dX10_boy_52 (by decide) ?_
          refine lv_icmp_ne (tgt := 81) hC.1 hC.2.1 dX10_boy_53 (by decide) (fun hc => ?_) (fun hc => ?_)
          · replace h := xf hc h
            refine lv_iload_n hC.1 hC.2.1 dX10_boy_81 rfl (lv_at hl 2 rfl) ?_
            refine lv_iconst (v := 2) hC.1 hC.2.1 dX10_boy_82 (by decide) ?_
            refine lv_icmp_ne (tgt := 97) hC.1 hC.2.1 dX10_boy_83 (by decide) (fun hc => ?_) (fun hc => ?_)
            · replace h := xf hc h
              refine lv_aload_n hC.1 hC.2.1 dX10_boy_97 rfl (lv_at hl 0 rfl) ?_
              refine x_get (C := RX10) (T := TX10) (N := 27) (v := _) hC hW 99 (by decide) rfl rfl uX10 17 (by decide) fl_X10_34 rfl rfl dX10_boy_98 ?_
              refine lv_iload_n hC.1 hC.2.1 dX10_boy_101 rfl (lv_at hl 1 rfl) ?_
              obtain ⟨hi, h⟩ := xg h
              refine x_iald hC hW 108 (by decide) rfl hi dX10_boy_102 ?_
              obtain ⟨rfl, rfl⟩ := xr h
              exact x_iret hC hr hW hS dX10_boy_103
            · replace h := xt hc h
              refine lv_aload_n hC.1 hC.2.1 dX10_boy_86 rfl (lv_at hl 0 rfl) ?_
              refine x_get (C := RX10) (T := TX10) (N := 27) (v := _) hC hW 99 (by decide) rfl rfl uX10 19 (by decide) fl_X10_40 rfl rfl dX10_boy_87 ?_
              refine lv_iconst (v := 5) hC.1 hC.2.1 dX10_boy_90 (by decide) ?_
              refine lv_iload_n hC.1 hC.2.1 dX10_boy_91 rfl (lv_at hl 1 rfl) ?_
              refine lv_iadd hC.1 hC.2.1 dX10_boy_92 ?_
              obtain ⟨hi, h⟩ := xg h
              refine x_iald hC hW 110 (by decide) rfl hi dX10_boy_93 ?_
              refine lv_goto (tgt := 103) hC.1 hC.2.1 dX10_boy_94 (by decide) ?_
              obtain ⟨rfl, rfl⟩ := xr h
              exact x_iret hC hr hW hS dX10_boy_103
          · replace h := xt hc h
            refine lv_aload_n hC.1 hC.2.1 dX10_boy_56 rfl (lv_at hl 0 rfl) ?_
            refine lv_iload_n hC.1 hC.2.1 dX10_boy_57 rfl (lv_at hl 1 rfl) ?_
            refine lv_aload_n hC.1 hC.2.1 dX10_boy_58 rfl (lv_at hl 0 rfl) ?_
            refine x_get (C := RX10) (T := TX10) (N := 27) (v := _) hC hW 99 (by decide) rfl rfl uX10 19 (by decide) fl_X10_40 rfl rfl dX10_boy_59 ?_
            refine lv_iconst (v := 5) hC.1 hC.2.1 dX10_boy_62 (by decide) ?_
            refine lv_iload_n hC.1 hC.2.1 dX10_boy_63 rfl (lv_at hl 1 rfl) ?_
            refine lv_iadd hC.1 hC.2.1 dX10_boy_64 ?_
            obtain ⟨hi, h⟩ := xg h
            refine x_iald hC hW 110 (by decide) rfl hi dX10_boy_65 ?_
            refine lv_aload_n hC.1 hC.2.1 dX10_boy_66 rfl (lv_at hl 0 rfl) ?_
            refine x_get (C := RX10) (T := TX10) (N := 27) (v := _) hC hW 99 (by decide) rfl rfl uX10 19 (by decide) fl_X10_40 rfl rfl dX10_boy_67 ?_
            refine lv_bipush (v := 10) hC.1 hC.2.1 dX10_boy_70 (by decide) ?_
            refine lv_iload_n hC.1 hC.2.1 dX10_boy_72 rfl (lv_at hl 1 rfl) ?_
            refine lv_iadd hC.1 hC.2.1 dX10_boy_73 ?_
            obtain ⟨hi, h⟩ := xg h
            refine x_iald hC hW 110 (by decide) rfl hi dX10_boy_74 ?_
            obtain ⟨⟨q75_r, q75_S⟩, hq, h⟩ := xb h
            try dsimp only at h
            refine x_callV (T := TX10) (N := 27) (As := [.int x1, .int (q17_S.1 110 ((5 : Int32) + x1).toNatClampNeg), .int (q17_S.1 110 ((10 : Int32) + x1).toNatClampNeg)]) (rest := []) hC hW hS 99 (c_X10_highest l D b cs _ _ _ _ _ _ hq) (by decide) rfl rfl mi_X10_highest in_X10_highest sl_X10_highest ml_X10_134 ⟨rfl, rfl⟩ ⟨Nat.le_of_ble_eq_true rfl, Nat.le_of_ble_eq_true rfl⟩ ⟨Nat.zero_le _, Nat.zero_le _⟩ rfl rfl hl.1 (Nat.le_of_ble_eq_true rfl) dX10_boy_75 (fun H locs hW hS => ?_)
            refine lv_goto (tgt := 103) hC.1 hC.2.1 dX10_boy_78 (by decide) ?_
            obtain ⟨rfl, rfl⟩ := xr h
            exact x_iret hC hr hW hS dX10_boy_103
        · replace h := xt hc h
          refine lv_aload_n hC.1 hC.2.1 dX10_boy_35 rfl (lv_at hl 0 rfl) ?_
          refine lv_iload_n hC.1 hC.2.1 dX10_boy_36 rfl (lv_at hl 1 rfl) ?_
          refine lv_aload_n hC.1 hC.2.1 dX10_boy_37 rfl (lv_at hl 0 rfl) ?_
          refine x_get (C := RX10) (T := TX10) (N := 27) (v := _) hC hW 99 (by decide) rfl rfl uX10 19 (by decide) fl_X10_40 rfl rfl dX10_boy_38 ?_
          refine lv_iconst (v := 5) hC.1 hC.2.1 dX10_boy_41 (by decide) ?_
          refine lv_iload_n hC.1 hC.2.1 dX10_boy_42 rfl (lv_at hl 1 rfl) ?_
          refine lv_iadd hC.1 hC.2.1 dX10_boy_43 ?_
          obtain ⟨hi, h⟩ := xg h
          refine x_iald hC hW 110 (by decide) rfl hi dX10_boy_44 ?_
          obtain ⟨⟨q45_r, q45_S⟩, hq, h⟩ := xb h
          try dsimp only at h
          refine x_callV (T := TX10) (N := 27) (As := [.int x1, .int (q17_S.1 110 ((5 : Int32) + x1).toNatClampNeg)]) (rest := []) hC hW hS 99 (c_X10_lowest l D b cs _ _ _ _ _ hq) (by decide) rfl rfl mi_X10_lowest in_X10_lowest sl_X10_lowest ml_X10_131 ⟨rfl, rfl⟩ ⟨Nat.le_of_ble_eq_true rfl, Nat.le_of_ble_eq_true rfl⟩ ⟨Nat.zero_le _, Nat.zero_le _⟩ rfl rfl hl.1 (Nat.le_of_ble_eq_true rfl) dX10_boy_45 (fun H locs hW hS => ?_)
          refine lv_goto (tgt := 103) hC.1 hC.2.1 dX10_boy_48 (by decide) ?_
          obtain ⟨rfl, rfl⟩ := xr h
          exact x_iret hC hr hW hS dX10_boy_103
    · replace h := xt hc h
      refine lv_ldc (v := -1000000) hC.1 hC.2.1 hC.2.2.2.1 (hC.2.2.2.2.1 _ kw_X10_163) dX10_boy_23 ?_
      obtain ⟨rfl, rfl⟩ := xr h
      exact x_iret hC hr hW hS dX10_boy_25
theorem dX10_atHome_0 : decode cX10_atHome 0 = .ok (.iconst 0, 1) := by decide +kernel
theorem dX10_atHome_1 : decode cX10_atHome 1 = .ok (.istore_n 1, 1) := by decide +kernel
theorem dX10_atHome_2 : decode cX10_atHome 2 = .ok (.iconst 0, 1) := by decide +kernel
theorem dX10_atHome_3 : decode cX10_atHome 3 = .ok (.istore_n 2, 1) := by decide +kernel
theorem dX10_atHome_4 : decode cX10_atHome 4 = .ok (.iload_n 2, 1) := by decide +kernel
theorem dX10_atHome_5 : decode cX10_atHome 5 = .ok (.aload_n 0, 1) := by decide +kernel
theorem dX10_atHome_6 : decode cX10_atHome 6 = .ok (.getfield 13, 3) := by decide +kernel
theorem dX10_atHome_9 : decode cX10_atHome 9 = .ok (.iconst 2, 1) := by decide +kernel
theorem dX10_atHome_10 : decode cX10_atHome 10 = .ok (.iaload, 1) := by decide +kernel
theorem dX10_atHome_11 : decode cX10_atHome 11 = .ok (.if_icmp .ge 36, 3) := by decide +kernel
theorem dX10_atHome_14 : decode cX10_atHome 14 = .ok (.iload_n 1, 1) := by decide +kernel
theorem dX10_atHome_15 : decode cX10_atHome 15 = .ok (.aload_n 0, 1) := by decide +kernel
theorem dX10_atHome_16 : decode cX10_atHome 16 = .ok (.getfield 40, 3) := by decide +kernel
theorem dX10_atHome_19 : decode cX10_atHome 19 = .ok (.iconst 0, 1) := by decide +kernel
theorem dX10_atHome_20 : decode cX10_atHome 20 = .ok (.iload_n 2, 1) := by decide +kernel
theorem dX10_atHome_21 : decode cX10_atHome 21 = .ok (.iadd, 1) := by decide +kernel
theorem dX10_atHome_22 : decode cX10_atHome 22 = .ok (.iaload, 1) := by decide +kernel
theorem dX10_atHome_23 : decode cX10_atHome 23 = .ok (.aload_n 0, 1) := by decide +kernel
theorem dX10_atHome_24 : decode cX10_atHome 24 = .ok (.getfield 37, 3) := by decide +kernel
theorem dX10_atHome_27 : decode cX10_atHome 27 = .ok (.iload_n 2, 1) := by decide +kernel
theorem dX10_atHome_28 : decode cX10_atHome 28 = .ok (.iaload, 1) := by decide +kernel
theorem dX10_atHome_29 : decode cX10_atHome 29 = .ok (.if_icmp .ne 9, 3) := by decide +kernel
theorem dX10_atHome_32 : decode cX10_atHome 32 = .ok (.iconst 1, 1) := by decide +kernel
theorem dX10_atHome_33 : decode cX10_atHome 33 = .ok (.iload_n 2, 1) := by decide +kernel
theorem dX10_atHome_34 : decode cX10_atHome 34 = .ok (.ishl, 1) := by decide +kernel
theorem dX10_atHome_35 : decode cX10_atHome 35 = .ok (.goto 4, 3) := by decide +kernel
theorem dX10_atHome_38 : decode cX10_atHome 38 = .ok (.iconst 0, 1) := by decide +kernel
theorem dX10_atHome_39 : decode cX10_atHome 39 = .ok (.ior, 1) := by decide +kernel
theorem dX10_atHome_40 : decode cX10_atHome 40 = .ok (.istore_n 1, 1) := by decide +kernel
theorem dX10_atHome_41 : decode cX10_atHome 41 = .ok (.iinc 2 1, 3) := by decide +kernel
theorem dX10_atHome_44 : decode cX10_atHome 44 = .ok (.goto (-40), 3) := by decide +kernel
theorem dX10_atHome_47 : decode cX10_atHome 47 = .ok (.iload_n 1, 1) := by decide +kernel
theorem dX10_atHome_48 : decode cX10_atHome 48 = .ok (.ireturn, 1) := by decide +kernel
abbrev rX10_atHome : Room := { frames := 0, cells := 0, slots := 0, locals := 0 }
set_option maxHeartbeats 4000000 in
set_option maxRecDepth 100000 in
theorem w_X10_atHome_4 {p : Program} {l : Launch} {e : Env} {s : State} {m : MethodId} {args : Array Value} {below : List Frame} {meth : Method} {c : Code} {D : va_G} {b : Nat} {cs : Cs3} {r : Int32} {S1 : St} (hC : CX p s m args meth c RX10 cX10_atHome 3 D cs) (hr : meth.sig.returnType = (some .int)) : ∀ (n : Nat) (x1 : Int32) (x2 : Int32) (S : St) (H : Heap) (locs : List Loc) (ls : Array Slot), q_X10_atHome_4 n x1 x2 S = some (r, S1) → Wd D b cs S H → va_S (AA b) s.heap H locs → lv_has ls 3 [(0, .ref (b + 99)), (1, .int x1), (2, .int x2)] → W p l e rX10_atHome s m args below meth c H locs 0 0 (MQ below (QX D b cs (some (.int r)) S1) args s 0 0 (AA b)) (F0 m 4 ls []) := by
  intro n
  induction n with
  | zero =>
    intro x1 x2 S H locs ls h
    exact absurd h (by rw [q_X10_atHome_4]; exact fun q => nomatch q)
  | succ n IH =>
    intro x1 x2 S H locs ls h hW hS hl
    rw [q_X10_atHome_4] at h
    refine lv_iload_n hC.1 hC.2.1 dX10_atHome_4 rfl (lv_at hl 2 rfl) ?_
    refine lv_aload_n hC.1 hC.2.1 dX10_atHome_5 rfl (lv_at hl 0 rfl) ?_
    refine x_get (C := RX10) (T := TX10) (N := 27) (v := _) hC hW 99 (by decide) rfl rfl uX10 10 (by decide) fl_X10_13 rfl rfl dX10_atHome_6 ?_
    refine lv_iconst (v := 2) hC.1 hC.2.1 dX10_atHome_9 (by decide) ?_
    obtain ⟨hi, h⟩ := xg h
    refine x_iald hC hW 101 (by decide) rfl hi dX10_atHome_10 ?_
    refine lv_icmp_ge (tgt := 47) hC.1 hC.2.1 dX10_atHome_11 (by decide) (fun hc => ?_) (fun hc => ?_)
    · replace h := xt hc h
      refine lv_iload_n hC.1 hC.2.1 dX10_atHome_47 rfl (lv_at hl 1 rfl) ?_
      obtain ⟨rfl, rfl⟩ := xr h
      exact x_iret hC hr hW hS dX10_atHome_48
    · replace h := xf hc h
      refine lv_iload_n hC.1 hC.2.1 dX10_atHome_14 rfl (lv_at hl 1 rfl) ?_
      refine lv_aload_n hC.1 hC.2.1 dX10_atHome_15 rfl (lv_at hl 0 rfl) ?_
      refine x_get (C := RX10) (T := TX10) (N := 27) (v := _) hC hW 99 (by decide) rfl rfl uX10 19 (by decide) fl_X10_40 rfl rfl dX10_atHome_16 ?_
      refine lv_iconst (v := 0) hC.1 hC.2.1 dX10_atHome_19 (by decide) ?_
      refine lv_iload_n hC.1 hC.2.1 dX10_atHome_20 rfl (lv_at hl 2 rfl) ?_
      refine lv_iadd hC.1 hC.2.1 dX10_atHome_21 ?_
      obtain ⟨hi, h⟩ := xg h
      refine x_iald hC hW 110 (by decide) rfl hi dX10_atHome_22 ?_
      refine lv_aload_n hC.1 hC.2.1 dX10_atHome_23 rfl (lv_at hl 0 rfl) ?_
      refine x_get (C := RX10) (T := TX10) (N := 27) (v := _) hC hW 99 (by decide) rfl rfl uX10 18 (by decide) fl_X10_37 rfl rfl dX10_atHome_24 ?_
      refine lv_iload_n hC.1 hC.2.1 dX10_atHome_27 rfl (lv_at hl 2 rfl) ?_
      obtain ⟨hi, h⟩ := xg h
      refine x_iald hC hW 109 (by decide) rfl hi dX10_atHome_28 ?_
      refine lv_icmp_ne (tgt := 38) hC.1 hC.2.1 dX10_atHome_29 (by decide) (fun hc => ?_) (fun hc => ?_)
      · replace h := xf hc h
        refine lv_iconst (v := 0) hC.1 hC.2.1 dX10_atHome_38 (by decide) ?_
        refine lv_ior hC.1 hC.2.1 dX10_atHome_39 ?_
        refine lv_istore_n (lv' := [(1, .int (x1 ||| (0 : Int32))), (0, .ref (b + 99)), (2, .int x2)]) hC.1 hC.2.1 dX10_atHome_40 rfl hl (by decide) rfl (fun ls hl => ?_)
        refine lv_iinc (v := x2 + 1) (lv' := [(2, .int (x2 + 1)), (1, .int (x1 ||| (0 : Int32))), (0, .ref (b + 99))]) hC.1 hC.2.1 dX10_atHome_41 hl (k := 2) rfl rfl (by decide) rfl (fun ls hl => ?_)
        refine lv_goto (tgt := 4) hC.1 hC.2.1 dX10_atHome_44 (by decide) ?_
        exact IH _ _ _ _ _ _ h hW hS (lv_sub hl [2, 1, 0] rfl)
      · replace h := xt hc h
        refine lv_iconst (v := 1) hC.1 hC.2.1 dX10_atHome_32 (by decide) ?_
        refine lv_iload_n hC.1 hC.2.1 dX10_atHome_33 rfl (lv_at hl 2 rfl) ?_
        refine lv_ishl hC.1 hC.2.1 dX10_atHome_34 ?_
        refine lv_goto (tgt := 39) hC.1 hC.2.1 dX10_atHome_35 (by decide) ?_
        refine lv_ior hC.1 hC.2.1 dX10_atHome_39 ?_
        refine lv_istore_n (lv' := [(1, .int (x1 ||| ((1 : Int32) <<< (x2 &&& 31)))), (0, .ref (b + 99)), (2, .int x2)]) hC.1 hC.2.1 dX10_atHome_40 rfl hl (by decide) rfl (fun ls hl => ?_)
        refine lv_iinc (v := x2 + 1) (lv' := [(2, .int (x2 + 1)), (1, .int (x1 ||| ((1 : Int32) <<< (x2 &&& 31)))), (0, .ref (b + 99))]) hC.1 hC.2.1 dX10_atHome_41 hl (k := 2) rfl rfl (by decide) rfl (fun ls hl => ?_)
        refine lv_goto (tgt := 4) hC.1 hC.2.1 dX10_atHome_44 (by decide) ?_
        exact IH _ _ _ _ _ _ h hW hS (lv_sub hl [2, 1, 0] rfl)
set_option maxHeartbeats 4000000 in
set_option maxRecDepth 100000 in
theorem c_X10_atHome (l : Launch) (D : va_G) (b : Nat) (cs : Cs3) (S S1 : St) (r : Int32) (h : p_X10_atHome S = some (r, S1)) : Ct l yX10_atHome cX10_atHome 3 (some .int) rX10_atHome D b cs [.ref (b + 99)] S (some (.int r)) S1 := by
  refine x_met (by decide +kernel) (Nat.le_of_ble_eq_true rfl) ?_
  intro p e s m below meth c ls hC hr hW hS hl
  have hl : lv_has ls 3 [(0, .ref (b + 99))] := hl
  rw [p_X10_atHome] at h
  refine lv_iconst (v := 0) hC.1 hC.2.1 dX10_atHome_0 (by decide) ?_
  refine lv_istore_n (lv' := [(1, .int (0 : Int32)), (0, .ref (b + 99))]) hC.1 hC.2.1 dX10_atHome_1 rfl hl (by decide) rfl (fun ls hl => ?_)
  refine lv_iconst (v := 0) hC.1 hC.2.1 dX10_atHome_2 (by decide) ?_
  refine lv_istore_n (lv' := [(2, .int (0 : Int32)), (1, .int (0 : Int32)), (0, .ref (b + 99))]) hC.1 hC.2.1 dX10_atHome_3 rfl hl (by decide) rfl (fun ls hl => ?_)
  exact w_X10_atHome_4 hC hr _ _ _ _ _ _ _ h hW hS (lv_sub hl [2, 1, 0] rfl)
theorem dX10_coverOf_0 : decode cX10_coverOf 0 = .ok (.bipush (-9), 2) := by decide +kernel
theorem dX10_coverOf_2 : decode cX10_coverOf 2 = .ok (.istore_n 1, 1) := by decide +kernel
theorem dX10_coverOf_3 : decode cX10_coverOf 3 = .ok (.iconst 1, 1) := by decide +kernel
theorem dX10_coverOf_4 : decode cX10_coverOf 4 = .ok (.aload_n 0, 1) := by decide +kernel
theorem dX10_coverOf_5 : decode cX10_coverOf 5 = .ok (.getfield 13, 3) := by decide +kernel
theorem dX10_coverOf_8 : decode cX10_coverOf 8 = .ok (.iconst 1, 1) := by decide +kernel
theorem dX10_coverOf_9 : decode cX10_coverOf 9 = .ok (.iaload, 1) := by decide +kernel
theorem dX10_coverOf_10 : decode cX10_coverOf 10 = .ok (.ishl, 1) := by decide +kernel
theorem dX10_coverOf_11 : decode cX10_coverOf 11 = .ok (.iconst 1, 1) := by decide +kernel
theorem dX10_coverOf_12 : decode cX10_coverOf 12 = .ok (.isub, 1) := by decide +kernel
theorem dX10_coverOf_13 : decode cX10_coverOf 13 = .ok (.istore_n 2, 1) := by decide +kernel
theorem dX10_coverOf_14 : decode cX10_coverOf 14 = .ok (.iconst 1, 1) := by decide +kernel
theorem dX10_coverOf_15 : decode cX10_coverOf 15 = .ok (.aload_n 0, 1) := by decide +kernel
theorem dX10_coverOf_16 : decode cX10_coverOf 16 = .ok (.getfield 13, 3) := by decide +kernel
theorem dX10_coverOf_19 : decode cX10_coverOf 19 = .ok (.iconst 2, 1) := by decide +kernel
theorem dX10_coverOf_20 : decode cX10_coverOf 20 = .ok (.iaload, 1) := by decide +kernel
theorem dX10_coverOf_21 : decode cX10_coverOf 21 = .ok (.ishl, 1) := by decide +kernel
theorem dX10_coverOf_22 : decode cX10_coverOf 22 = .ok (.iconst 1, 1) := by decide +kernel
theorem dX10_coverOf_23 : decode cX10_coverOf 23 = .ok (.isub, 1) := by decide +kernel
theorem dX10_coverOf_24 : decode cX10_coverOf 24 = .ok (.istore_n 3, 1) := by decide +kernel
theorem dX10_coverOf_25 : decode cX10_coverOf 25 = .ok (.iload_n 3, 1) := by decide +kernel
theorem dX10_coverOf_26 : decode cX10_coverOf 26 = .ok (.ifCond .lt 85, 3) := by decide +kernel
theorem dX10_coverOf_29 : decode cX10_coverOf 29 = .ok (.iconst 0, 1) := by decide +kernel
theorem dX10_coverOf_30 : decode cX10_coverOf 30 = .ok (.istore 4, 2) := by decide +kernel
theorem dX10_coverOf_32 : decode cX10_coverOf 32 = .ok (.iconst 0, 1) := by decide +kernel
theorem dX10_coverOf_33 : decode cX10_coverOf 33 = .ok (.istore 5, 2) := by decide +kernel
theorem dX10_coverOf_35 : decode cX10_coverOf 35 = .ok (.iload 5, 2) := by decide +kernel
theorem dX10_coverOf_37 : decode cX10_coverOf 37 = .ok (.aload_n 0, 1) := by decide +kernel
theorem dX10_coverOf_38 : decode cX10_coverOf 38 = .ok (.getfield 13, 3) := by decide +kernel
theorem dX10_coverOf_41 : decode cX10_coverOf 41 = .ok (.iconst 2, 1) := by decide +kernel
theorem dX10_coverOf_42 : decode cX10_coverOf 42 = .ok (.iaload, 1) := by decide +kernel
theorem dX10_coverOf_43 : decode cX10_coverOf 43 = .ok (.if_icmp .ge 33, 3) := by decide +kernel
theorem dX10_coverOf_46 : decode cX10_coverOf 46 = .ok (.iload 4, 2) := by decide +kernel
theorem dX10_coverOf_48 : decode cX10_coverOf 48 = .ok (.iload_n 3, 1) := by decide +kernel
theorem dX10_coverOf_49 : decode cX10_coverOf 49 = .ok (.iload 5, 2) := by decide +kernel
theorem dX10_coverOf_51 : decode cX10_coverOf 51 = .ok (.invokestatic 138, 3) := by decide +kernel
theorem dX10_coverOf_54 : decode cX10_coverOf 54 = .ok (.ifCond .eq 12, 3) := by decide +kernel
theorem dX10_coverOf_57 : decode cX10_coverOf 57 = .ok (.aload_n 0, 1) := by decide +kernel
theorem dX10_coverOf_58 : decode cX10_coverOf 58 = .ok (.iload 5, 2) := by decide +kernel
theorem dX10_coverOf_60 : decode cX10_coverOf 60 = .ok (.invokevirtual 145, 3) := by decide +kernel
theorem dX10_coverOf_63 : decode cX10_coverOf 63 = .ok (.goto 4, 3) := by decide +kernel
theorem dX10_coverOf_66 : decode cX10_coverOf 66 = .ok (.iconst 0, 1) := by decide +kernel
theorem dX10_coverOf_67 : decode cX10_coverOf 67 = .ok (.ior, 1) := by decide +kernel
theorem dX10_coverOf_68 : decode cX10_coverOf 68 = .ok (.istore 4, 2) := by decide +kernel
theorem dX10_coverOf_70 : decode cX10_coverOf 70 = .ok (.iinc 5 1, 3) := by decide +kernel
theorem dX10_coverOf_73 : decode cX10_coverOf 73 = .ok (.goto (-38), 3) := by decide +kernel
theorem dX10_coverOf_76 : decode cX10_coverOf 76 = .ok (.iload 4, 2) := by decide +kernel
theorem dX10_coverOf_78 : decode cX10_coverOf 78 = .ok (.iload_n 2, 1) := by decide +kernel
theorem dX10_coverOf_79 : decode cX10_coverOf 79 = .ok (.if_icmp .ne 24, 3) := by decide +kernel
theorem dX10_coverOf_82 : decode cX10_coverOf 82 = .ok (.iload_n 1, 1) := by decide +kernel
theorem dX10_coverOf_83 : decode cX10_coverOf 83 = .ok (.bipush (-9), 2) := by decide +kernel
theorem dX10_coverOf_85 : decode cX10_coverOf 85 = .ok (.if_icmp .eq 14, 3) := by decide +kernel
theorem dX10_coverOf_88 : decode cX10_coverOf 88 = .ok (.iload_n 3, 1) := by decide +kernel
theorem dX10_coverOf_89 : decode cX10_coverOf 89 = .ok (.invokestatic 167, 3) := by decide +kernel
theorem dX10_coverOf_92 : decode cX10_coverOf 92 = .ok (.iload_n 1, 1) := by decide +kernel
theorem dX10_coverOf_93 : decode cX10_coverOf 93 = .ok (.invokestatic 167, 3) := by decide +kernel
theorem dX10_coverOf_96 : decode cX10_coverOf 96 = .ok (.if_icmp .gt 7, 3) := by decide +kernel
theorem dX10_coverOf_99 : decode cX10_coverOf 99 = .ok (.iload_n 3, 1) := by decide +kernel
theorem dX10_coverOf_100 : decode cX10_coverOf 100 = .ok (.goto 4, 3) := by decide +kernel
theorem dX10_coverOf_103 : decode cX10_coverOf 103 = .ok (.iload_n 1, 1) := by decide +kernel
theorem dX10_coverOf_104 : decode cX10_coverOf 104 = .ok (.istore_n 1, 1) := by decide +kernel
theorem dX10_coverOf_105 : decode cX10_coverOf 105 = .ok (.iinc 3 (-1), 3) := by decide +kernel
theorem dX10_coverOf_108 : decode cX10_coverOf 108 = .ok (.goto (-83), 3) := by decide +kernel
theorem dX10_coverOf_111 : decode cX10_coverOf 111 = .ok (.iload_n 1, 1) := by decide +kernel
theorem dX10_coverOf_112 : decode cX10_coverOf 112 = .ok (.ireturn, 1) := by decide +kernel
abbrev rX10_coverOf : Room := { frames := 3, cells := 0, slots := 0, locals := 71 }
set_option maxHeartbeats 4000000 in
set_option maxRecDepth 100000 in
theorem w_X10_coverOf_35 {p : Program} {l : Launch} {e : Env} {s : State} {m : MethodId} {args : Array Value} {below : List Frame} {meth : Method} {c : Code} {D : va_G} {b : Nat} {cs : Cs3} {r : Int32} {S1 : St} {ag25 : Int32 → Int32 → Int32 → St → Option (Int32 × St)} (hC : CX p s m args meth c RX10 cX10_coverOf 6 D cs) (hr : meth.sig.returnType = (some .int)) (hag25 : ∀ (x1 : Int32) (x2 : Int32) (x3 : Int32) (S : St) (H : Heap) (locs : List Loc) (ls : Array Slot), ag25 x1 x2 x3 S = some (r, S1) → Wd D b cs S H → va_S (AA b) s.heap H locs → lv_has ls 6 [(0, .ref (b + 99)), (1, .int x1), (2, .int x2), (3, .int x3)] → W p l e rX10_coverOf s m args below meth c H locs 0 0 (MQ below (QX D b cs (some (.int r)) S1) args s 0 0 (AA b)) (F0 m 25 ls [])) : ∀ (n : Nat) (x1 : Int32) (x2 : Int32) (x3 : Int32) (x4 : Int32) (x5 : Int32) (S : St) (H : Heap) (locs : List Loc) (ls : Array Slot), q_X10_coverOf_35 ag25 n x1 x2 x3 x4 x5 S = some (r, S1) → Wd D b cs S H → va_S (AA b) s.heap H locs → lv_has ls 6 [(0, .ref (b + 99)), (1, .int x1), (2, .int x2), (3, .int x3), (4, .int x4), (5, .int x5)] → W p l e rX10_coverOf s m args below meth c H locs 0 0 (MQ below (QX D b cs (some (.int r)) S1) args s 0 0 (AA b)) (F0 m 35 ls []) := by
  intro n
  induction n with
  | zero =>
    intro x1 x2 x3 x4 x5 S H locs ls h
    exact absurd h (by rw [q_X10_coverOf_35]; exact fun q => nomatch q)
  | succ n IH =>
    intro x1 x2 x3 x4 x5 S H locs ls h hW hS hl
    rw [q_X10_coverOf_35] at h
    refine lv_iload hC.1 hC.2.1 dX10_coverOf_35 (lv_at hl 5 rfl) ?_
    refine lv_aload_n hC.1 hC.2.1 dX10_coverOf_37 rfl (lv_at hl 0 rfl) ?_
    refine x_get (C := RX10) (T := TX10) (N := 27) (v := _) hC hW 99 (by decide) rfl rfl uX10 10 (by decide) fl_X10_13 rfl rfl dX10_coverOf_38 ?_
    refine lv_iconst (v := 2) hC.1 hC.2.1 dX10_coverOf_41 (by decide) ?_
    obtain ⟨hi, h⟩ := xg h
    refine x_iald hC hW 101 (by decide) rfl hi dX10_coverOf_42 ?_
    refine lv_icmp_ge (tgt := 76) hC.1 hC.2.1 dX10_coverOf_43 (by decide) (fun hc => ?_) (fun hc => ?_)
    · replace h := xt hc h
      refine lv_iload hC.1 hC.2.1 dX10_coverOf_76 (lv_at hl 4 rfl) ?_
      refine lv_iload_n hC.1 hC.2.1 dX10_coverOf_78 rfl (lv_at hl 2 rfl) ?_
      refine lv_icmp_ne (tgt := 103) hC.1 hC.2.1 dX10_coverOf_79 (by decide) (fun hc => ?_) (fun hc => ?_)
      · replace h := xf hc h
        refine lv_iload_n hC.1 hC.2.1 dX10_coverOf_103 rfl (lv_at hl 1 rfl) ?_
        refine lv_istore_n (lv' := [(1, .int x1), (0, .ref (b + 99)), (2, .int x2), (3, .int x3), (4, .int x4), (5, .int x5)]) hC.1 hC.2.1 dX10_coverOf_104 rfl hl (by decide) rfl (fun ls hl => ?_)
        refine lv_iinc (v := x3 + (-1)) (lv' := [(3, .int (x3 + (-1))), (1, .int x1), (0, .ref (b + 99)), (2, .int x2), (4, .int x4), (5, .int x5)]) hC.1 hC.2.1 dX10_coverOf_105 hl (k := 3) rfl rfl (by decide) rfl (fun ls hl => ?_)
        refine lv_goto (tgt := 25) hC.1 hC.2.1 dX10_coverOf_108 (by decide) ?_
        exact hag25 _ _ _ _ _ _ _ h hW hS (lv_sub hl [2, 1, 3, 0] rfl)
      · replace h := xt hc h
        refine lv_iload_n hC.1 hC.2.1 dX10_coverOf_82 rfl (lv_at hl 1 rfl) ?_
        refine lv_bipush (v := -9) hC.1 hC.2.1 dX10_coverOf_83 (by decide) ?_
        refine lv_icmp_eq (tgt := 99) hC.1 hC.2.1 dX10_coverOf_85 (by decide) (fun hc => ?_) (fun hc => ?_)
        · replace h := xt hc h
          refine lv_iload_n hC.1 hC.2.1 dX10_coverOf_99 rfl (lv_at hl 3 rfl) ?_
          refine lv_goto (tgt := 104) hC.1 hC.2.1 dX10_coverOf_100 (by decide) ?_
          refine lv_istore_n (lv' := [(1, .int x3), (0, .ref (b + 99)), (2, .int x2), (3, .int x3), (4, .int x4), (5, .int x5)]) hC.1 hC.2.1 dX10_coverOf_104 rfl hl (by decide) rfl (fun ls hl => ?_)
          refine lv_iinc (v := x3 + (-1)) (lv' := [(3, .int (x3 + (-1))), (1, .int x3), (0, .ref (b + 99)), (2, .int x2), (4, .int x4), (5, .int x5)]) hC.1 hC.2.1 dX10_coverOf_105 hl (k := 3) rfl rfl (by decide) rfl (fun ls hl => ?_)
          refine lv_goto (tgt := 25) hC.1 hC.2.1 dX10_coverOf_108 (by decide) ?_
          exact hag25 _ _ _ _ _ _ _ h hW hS (lv_sub hl [2, 1, 3, 0] rfl)
        · replace h := xf hc h
          refine lv_iload_n hC.1 hC.2.1 dX10_coverOf_88 rfl (lv_at hl 3 rfl) ?_
          obtain ⟨⟨q89_r, q89_S⟩, hq, h⟩ := xb h
          try dsimp only at h
          refine x_callS (As := [.int x3]) (rest := []) hC hW hS (c_X10_ones l D b cs _ _ _ _ hq) mi_X10_ones st_X10_ones ml_X10_167 ⟨rfl, rfl⟩ ⟨Nat.le_of_ble_eq_true rfl, Nat.le_of_ble_eq_true rfl⟩ ⟨Nat.zero_le _, Nat.zero_le _⟩ rfl rfl hl.1 (Nat.le_of_ble_eq_true rfl) dX10_coverOf_89 (fun H locs hW hS => ?_)
          refine lv_iload_n hC.1 hC.2.1 dX10_coverOf_92 rfl (lv_at hl 1 rfl) ?_
          obtain ⟨⟨q93_r, q93_S⟩, hq, h⟩ := xb h
          try dsimp only at h
          refine x_callS (As := [.int x1]) (rest := [.int q89_r]) hC hW hS (c_X10_ones l D b cs _ _ _ _ hq) mi_X10_ones st_X10_ones ml_X10_167 ⟨rfl, rfl⟩ ⟨Nat.le_of_ble_eq_true rfl, Nat.le_of_ble_eq_true rfl⟩ ⟨Nat.zero_le _, Nat.zero_le _⟩ rfl rfl hl.1 (Nat.le_of_ble_eq_true rfl) dX10_coverOf_93 (fun H locs hW hS => ?_)
          refine lv_icmp_gt (tgt := 103) hC.1 hC.2.1 dX10_coverOf_96 (by decide) (fun hc => ?_) (fun hc => ?_)
          · replace h := xt hc h
            refine lv_iload_n hC.1 hC.2.1 dX10_coverOf_103 rfl (lv_at hl 1 rfl) ?_
            refine lv_istore_n (lv' := [(1, .int x1), (0, .ref (b + 99)), (2, .int x2), (3, .int x3), (4, .int x4), (5, .int x5)]) hC.1 hC.2.1 dX10_coverOf_104 rfl hl (by decide) rfl (fun ls hl => ?_)
            refine lv_iinc (v := x3 + (-1)) (lv' := [(3, .int (x3 + (-1))), (1, .int x1), (0, .ref (b + 99)), (2, .int x2), (4, .int x4), (5, .int x5)]) hC.1 hC.2.1 dX10_coverOf_105 hl (k := 3) rfl rfl (by decide) rfl (fun ls hl => ?_)
            refine lv_goto (tgt := 25) hC.1 hC.2.1 dX10_coverOf_108 (by decide) ?_
            exact hag25 _ _ _ _ _ _ _ h hW hS (lv_sub hl [2, 1, 3, 0] rfl)
          · replace h := xf hc h
            refine lv_iload_n hC.1 hC.2.1 dX10_coverOf_99 rfl (lv_at hl 3 rfl) ?_
            refine lv_goto (tgt := 104) hC.1 hC.2.1 dX10_coverOf_100 (by decide) ?_
            refine lv_istore_n (lv' := [(1, .int x3), (0, .ref (b + 99)), (2, .int x2), (3, .int x3), (4, .int x4), (5, .int x5)]) hC.1 hC.2.1 dX10_coverOf_104 rfl hl (by decide) rfl (fun ls hl => ?_)
            refine lv_iinc (v := x3 + (-1)) (lv' := [(3, .int (x3 + (-1))), (1, .int x3), (0, .ref (b + 99)), (2, .int x2), (4, .int x4), (5, .int x5)]) hC.1 hC.2.1 dX10_coverOf_105 hl (k := 3) rfl rfl (by decide) rfl (fun ls hl => ?_)
            refine lv_goto (tgt := 25) hC.1 hC.2.1 dX10_coverOf_108 (by decide) ?_
            exact hag25 _ _ _ _ _ _ _ h hW hS (lv_sub hl [2, 1, 3, 0] rfl)
    · replace h := xf hc h
      refine lv_iload hC.1 hC.2.1 dX10_coverOf_46 (lv_at hl 4 rfl) ?_
      refine lv_iload_n hC.1 hC.2.1 dX10_coverOf_48 rfl (lv_at hl 3 rfl) ?_
      refine lv_iload hC.1 hC.2.1 dX10_coverOf_49 (lv_at hl 5 rfl) ?_
      obtain ⟨⟨q51_r, q51_S⟩, hq, h⟩ := xb h
      try dsimp only at h
      refine x_callS (As := [.int x3, .int x5]) (rest := [.int x4]) hC hW hS (c_X10_has l D b cs _ _ _ _ _ hq) mi_X10_has st_X10_has ml_X10_138 ⟨rfl, rfl⟩ ⟨Nat.le_of_ble_eq_true rfl, Nat.le_of_ble_eq_true rfl⟩ ⟨Nat.zero_le _, Nat.zero_le _⟩ rfl rfl hl.1 (Nat.le_of_ble_eq_true rfl) dX10_coverOf_51 (fun H locs hW hS => ?_)
      refine lv_if_eq (tgt := 66) hC.1 hC.2.1 dX10_coverOf_54 (by decide) (fun hc => ?_) (fun hc => ?_)
      · replace h := xt hc h
        refine lv_iconst (v := 0) hC.1 hC.2.1 dX10_coverOf_66 (by decide) ?_
        refine lv_ior hC.1 hC.2.1 dX10_coverOf_67 ?_
        refine lv_istore (lv' := [(4, .int (x4 ||| (0 : Int32))), (0, .ref (b + 99)), (1, .int x1), (2, .int x2), (3, .int x3), (5, .int x5)]) hC.1 hC.2.1 dX10_coverOf_68 hl (by decide) rfl (fun ls hl => ?_)
        refine lv_iinc (v := x5 + 1) (lv' := [(5, .int (x5 + 1)), (4, .int (x4 ||| (0 : Int32))), (0, .ref (b + 99)), (1, .int x1), (2, .int x2), (3, .int x3)]) hC.1 hC.2.1 dX10_coverOf_70 hl (k := 5) rfl rfl (by decide) rfl (fun ls hl => ?_)
        refine lv_goto (tgt := 35) hC.1 hC.2.1 dX10_coverOf_73 (by decide) ?_
        exact IH _ _ _ _ _ _ _ _ _ h hW hS (lv_sub hl [2, 3, 4, 5, 1, 0] rfl)
      · replace h := xf hc h
        refine lv_aload_n hC.1 hC.2.1 dX10_coverOf_57 rfl (lv_at hl 0 rfl) ?_
        refine lv_iload hC.1 hC.2.1 dX10_coverOf_58 (lv_at hl 5 rfl) ?_
        obtain ⟨⟨q60_r, q60_S⟩, hq, h⟩ := xb h
        try dsimp only at h
        refine x_callV (T := TX10) (N := 27) (As := [.int x5]) (rest := [.int x4]) hC hW hS 99 (c_X10_keys l D b cs _ _ _ _ hq) (by decide) rfl rfl mi_X10_keys in_X10_keys sl_X10_keys ml_X10_145 ⟨rfl, rfl⟩ ⟨Nat.le_of_ble_eq_true rfl, Nat.le_of_ble_eq_true rfl⟩ ⟨Nat.zero_le _, Nat.zero_le _⟩ rfl rfl hl.1 (Nat.le_of_ble_eq_true rfl) dX10_coverOf_60 (fun H locs hW hS => ?_)
        refine lv_goto (tgt := 67) hC.1 hC.2.1 dX10_coverOf_63 (by decide) ?_
        refine lv_ior hC.1 hC.2.1 dX10_coverOf_67 ?_
        refine lv_istore (lv' := [(4, .int (x4 ||| q60_r)), (0, .ref (b + 99)), (1, .int x1), (2, .int x2), (3, .int x3), (5, .int x5)]) hC.1 hC.2.1 dX10_coverOf_68 hl (by decide) rfl (fun ls hl => ?_)
        refine lv_iinc (v := x5 + 1) (lv' := [(5, .int (x5 + 1)), (4, .int (x4 ||| q60_r)), (0, .ref (b + 99)), (1, .int x1), (2, .int x2), (3, .int x3)]) hC.1 hC.2.1 dX10_coverOf_70 hl (k := 5) rfl rfl (by decide) rfl (fun ls hl => ?_)
        refine lv_goto (tgt := 35) hC.1 hC.2.1 dX10_coverOf_73 (by decide) ?_
        exact IH _ _ _ _ _ _ _ _ _ h hW hS (lv_sub hl [2, 3, 4, 5, 1, 0] rfl)
set_option maxHeartbeats 4000000 in
set_option maxRecDepth 100000 in
theorem w_X10_coverOf_25 {p : Program} {l : Launch} {e : Env} {s : State} {m : MethodId} {args : Array Value} {below : List Frame} {meth : Method} {c : Code} {D : va_G} {b : Nat} {cs : Cs3} {r : Int32} {S1 : St} (hC : CX p s m args meth c RX10 cX10_coverOf 6 D cs) (hr : meth.sig.returnType = (some .int)) : ∀ (n : Nat) (x1 : Int32) (x2 : Int32) (x3 : Int32) (S : St) (H : Heap) (locs : List Loc) (ls : Array Slot), q_X10_coverOf_25 n x1 x2 x3 S = some (r, S1) → Wd D b cs S H → va_S (AA b) s.heap H locs → lv_has ls 6 [(0, .ref (b + 99)), (1, .int x1), (2, .int x2), (3, .int x3)] → W p l e rX10_coverOf s m args below meth c H locs 0 0 (MQ below (QX D b cs (some (.int r)) S1) args s 0 0 (AA b)) (F0 m 25 ls []) := by
  intro n
  induction n with
  | zero =>
    intro x1 x2 x3 S H locs ls h
    exact absurd h (by rw [q_X10_coverOf_25]; exact fun q => nomatch q)
  | succ n IH =>
    intro x1 x2 x3 S H locs ls h hW hS hl
    rw [q_X10_coverOf_25] at h
    refine lv_iload_n hC.1 hC.2.1 dX10_coverOf_25 rfl (lv_at hl 3 rfl) ?_
    refine lv_if_lt (tgt := 111) hC.1 hC.2.1 dX10_coverOf_26 (by decide) (fun hc => ?_) (fun hc => ?_)
    · replace h := xt hc h
      refine lv_iload_n hC.1 hC.2.1 dX10_coverOf_111 rfl (lv_at hl 1 rfl) ?_
      obtain ⟨rfl, rfl⟩ := xr h
      exact x_iret hC hr hW hS dX10_coverOf_112
    · replace h := xf hc h
      refine lv_iconst (v := 0) hC.1 hC.2.1 dX10_coverOf_29 (by decide) ?_
      refine lv_istore (lv' := [(4, .int (0 : Int32)), (0, .ref (b + 99)), (1, .int x1), (2, .int x2), (3, .int x3)]) hC.1 hC.2.1 dX10_coverOf_30 hl (by decide) rfl (fun ls hl => ?_)
      refine lv_iconst (v := 0) hC.1 hC.2.1 dX10_coverOf_32 (by decide) ?_
      refine lv_istore (lv' := [(5, .int (0 : Int32)), (4, .int (0 : Int32)), (0, .ref (b + 99)), (1, .int x1), (2, .int x2), (3, .int x3)]) hC.1 hC.2.1 dX10_coverOf_33 hl (by decide) rfl (fun ls hl => ?_)
      exact w_X10_coverOf_35 hC hr IH _ _ _ _ _ _ _ _ _ _ h hW hS (lv_sub hl [2, 3, 4, 5, 1, 0] rfl)
set_option maxHeartbeats 4000000 in
set_option maxRecDepth 100000 in
theorem c_X10_coverOf (l : Launch) (D : va_G) (b : Nat) (cs : Cs3) (S S1 : St) (r : Int32) (h : p_X10_coverOf S = some (r, S1)) : Ct l yX10_coverOf cX10_coverOf 6 (some .int) rX10_coverOf D b cs [.ref (b + 99)] S (some (.int r)) S1 := by
  refine x_met (by decide +kernel) (Nat.le_of_ble_eq_true rfl) ?_
  intro p e s m below meth c ls hC hr hW hS hl
  have hl : lv_has ls 6 [(0, .ref (b + 99))] := hl
  rw [p_X10_coverOf] at h
  refine lv_bipush (v := -9) hC.1 hC.2.1 dX10_coverOf_0 (by decide) ?_
  refine lv_istore_n (lv' := [(1, .int (-9 : Int32)), (0, .ref (b + 99))]) hC.1 hC.2.1 dX10_coverOf_2 rfl hl (by decide) rfl (fun ls hl => ?_)
  refine lv_iconst (v := 1) hC.1 hC.2.1 dX10_coverOf_3 (by decide) ?_
  refine lv_aload_n hC.1 hC.2.1 dX10_coverOf_4 rfl (lv_at hl 1 rfl) ?_
  refine x_get (C := RX10) (T := TX10) (N := 27) (v := _) hC hW 99 (by decide) rfl rfl uX10 10 (by decide) fl_X10_13 rfl rfl dX10_coverOf_5 ?_
  refine lv_iconst (v := 1) hC.1 hC.2.1 dX10_coverOf_8 (by decide) ?_
  obtain ⟨hi, h⟩ := xg h
  refine x_iald hC hW 101 (by decide) rfl hi dX10_coverOf_9 ?_
  refine lv_ishl hC.1 hC.2.1 dX10_coverOf_10 ?_
  refine lv_iconst (v := 1) hC.1 hC.2.1 dX10_coverOf_11 (by decide) ?_
  refine lv_isub hC.1 hC.2.1 dX10_coverOf_12 ?_
  refine lv_istore_n (lv' := [(2, .int (((1 : Int32) <<< ((S.1 101 (1 : Int32).toNatClampNeg) &&& 31)) - (1 : Int32))), (1, .int (-9 : Int32)), (0, .ref (b + 99))]) hC.1 hC.2.1 dX10_coverOf_13 rfl hl (by decide) rfl (fun ls hl => ?_)
  refine lv_iconst (v := 1) hC.1 hC.2.1 dX10_coverOf_14 (by decide) ?_
  refine lv_aload_n hC.1 hC.2.1 dX10_coverOf_15 rfl (lv_at hl 2 rfl) ?_
  refine x_get (C := RX10) (T := TX10) (N := 27) (v := _) hC hW 99 (by decide) rfl rfl uX10 10 (by decide) fl_X10_13 rfl rfl dX10_coverOf_16 ?_
  refine lv_iconst (v := 2) hC.1 hC.2.1 dX10_coverOf_19 (by decide) ?_
  obtain ⟨hi, h⟩ := xg h
  refine x_iald hC hW 101 (by decide) rfl hi dX10_coverOf_20 ?_
  refine lv_ishl hC.1 hC.2.1 dX10_coverOf_21 ?_
  refine lv_iconst (v := 1) hC.1 hC.2.1 dX10_coverOf_22 (by decide) ?_
  refine lv_isub hC.1 hC.2.1 dX10_coverOf_23 ?_
  refine lv_istore_n (lv' := [(3, .int (((1 : Int32) <<< ((S.1 101 (2 : Int32).toNatClampNeg) &&& 31)) - (1 : Int32))), (2, .int (((1 : Int32) <<< ((S.1 101 (1 : Int32).toNatClampNeg) &&& 31)) - (1 : Int32))), (1, .int (-9 : Int32)), (0, .ref (b + 99))]) hC.1 hC.2.1 dX10_coverOf_24 rfl hl (by decide) rfl (fun ls hl => ?_)
  exact w_X10_coverOf_25 hC hr _ _ _ _ _ _ _ _ h hW hS (lv_sub hl [3, 2, 1, 0] rfl)
theorem dX10_now_0 : decode cX10_now 0 = .ok (.aload_n 0, 1) := by decide +kernel
theorem dX10_now_1 : decode cX10_now 1 = .ok (.iconst 0, 1) := by decide +kernel
theorem dX10_now_2 : decode cX10_now 2 = .ok (.putfield 65, 3) := by decide +kernel
theorem dX10_now_5 : decode cX10_now 5 = .ok (.iload_n 1, 1) := by decide +kernel
theorem dX10_now_6 : decode cX10_now 6 = .ok (.iconst 0, 1) := by decide +kernel
theorem dX10_now_7 : decode cX10_now 7 = .ok (.iconst 4, 1) := by decide +kernel
theorem dX10_now_8 : decode cX10_now 8 = .ok (.invokestatic 69, 3) := by decide +kernel
theorem dX10_now_11 : decode cX10_now 11 = .ok (.ifCond .ne 5, 3) := by decide +kernel
theorem dX10_now_14 : decode cX10_now 14 = .ok (.iconst (-1), 1) := by decide +kernel
theorem dX10_now_15 : decode cX10_now 15 = .ok (.ireturn, 1) := by decide +kernel
theorem dX10_now_16 : decode cX10_now 16 = .ok (.iload_n 1, 1) := by decide +kernel
theorem dX10_now_17 : decode cX10_now 17 = .ok (.iconst 2, 1) := by decide +kernel
theorem dX10_now_18 : decode cX10_now 18 = .ok (.if_icmp .ge 25, 3) := by decide +kernel
theorem dX10_now_21 : decode cX10_now 21 = .ok (.iload_n 1, 1) := by decide +kernel
theorem dX10_now_22 : decode cX10_now 22 = .ok (.ifCond .ne 13, 3) := by decide +kernel
theorem dX10_now_25 : decode cX10_now 25 = .ok (.aload_n 0, 1) := by decide +kernel
theorem dX10_now_26 : decode cX10_now 26 = .ok (.getfield 40, 3) := by decide +kernel
theorem dX10_now_29 : decode cX10_now 29 = .ok (.bipush 24, 2) := by decide +kernel
theorem dX10_now_31 : decode cX10_now 31 = .ok (.iaload, 1) := by decide +kernel
theorem dX10_now_32 : decode cX10_now 32 = .ok (.goto 10, 3) := by decide +kernel
theorem dX10_now_35 : decode cX10_now 35 = .ok (.aload_n 0, 1) := by decide +kernel
theorem dX10_now_36 : decode cX10_now 36 = .ok (.getfield 40, 3) := by decide +kernel
theorem dX10_now_39 : decode cX10_now 39 = .ok (.bipush 23, 2) := by decide +kernel
theorem dX10_now_41 : decode cX10_now 41 = .ok (.iaload, 1) := by decide +kernel
theorem dX10_now_42 : decode cX10_now 42 = .ok (.ireturn, 1) := by decide +kernel
theorem dX10_now_43 : decode cX10_now 43 = .ok (.iload_n 1, 1) := by decide +kernel
theorem dX10_now_44 : decode cX10_now 44 = .ok (.iconst 2, 1) := by decide +kernel
theorem dX10_now_45 : decode cX10_now 45 = .ok (.if_icmp .ne 10, 3) := by decide +kernel
theorem dX10_now_48 : decode cX10_now 48 = .ok (.aload_n 0, 1) := by decide +kernel
theorem dX10_now_49 : decode cX10_now 49 = .ok (.invokevirtual 170, 3) := by decide +kernel
theorem dX10_now_52 : decode cX10_now 52 = .ok (.goto 19, 3) := by decide +kernel
theorem dX10_now_55 : decode cX10_now 55 = .ok (.iload_n 1, 1) := by decide +kernel
theorem dX10_now_56 : decode cX10_now 56 = .ok (.iconst 3, 1) := by decide +kernel
theorem dX10_now_57 : decode cX10_now 57 = .ok (.if_icmp .ne 10, 3) := by decide +kernel
theorem dX10_now_60 : decode cX10_now 60 = .ok (.aload_n 0, 1) := by decide +kernel
theorem dX10_now_61 : decode cX10_now 61 = .ok (.invokevirtual 174, 3) := by decide +kernel
theorem dX10_now_64 : decode cX10_now 64 = .ok (.goto 7, 3) := by decide +kernel
theorem dX10_now_67 : decode cX10_now 67 = .ok (.aload_n 0, 1) := by decide +kernel
theorem dX10_now_68 : decode cX10_now 68 = .ok (.getfield 128, 3) := by decide +kernel
theorem dX10_now_71 : decode cX10_now 71 = .ok (.ireturn, 1) := by decide +kernel
abbrev rX10_now : Room := { frames := 4, cells := 0, slots := 0, locals := 96 }
set_option maxHeartbeats 4000000 in
set_option maxRecDepth 100000 in
theorem c_X10_now (l : Launch) (D : va_G) (b : Nat) (cs : Cs3) (x1 : Int32) (S S1 : St) (r : Int32) (h : p_X10_now x1 S = some (r, S1)) : Ct l yX10_now cX10_now 2 (some .int) rX10_now D b cs [.ref (b + 99), .int x1] S (some (.int r)) S1 := by
  refine x_met (by decide +kernel) (Nat.le_of_ble_eq_true rfl) ?_
  intro p e s m below meth c ls hC hr hW hS hl
  have hl : lv_has ls 2 [(0, .ref (b + 99)), (1, .int x1)] := hl
  rw [p_X10_now] at h
  refine lv_aload_n hC.1 hC.2.1 dX10_now_0 rfl (lv_at hl 0 rfl) ?_
  refine lv_iconst (v := 0) hC.1 hC.2.1 dX10_now_1 (by decide) ?_
  refine x_puti (C := RX10) (T := TX10) (N := 27) (ty := .int) hC hW hS 99 (by decide) rfl rfl uX10 tyX10 tyX10_ok nmX10 0 (by decide) fl_X10_65 rfl (by decide +kernel) rfl rfl rfl dX10_now_2 (fun H locs hW hS => ?_)
  refine lv_iload_n hC.1 hC.2.1 dX10_now_5 rfl (lv_at hl 1 rfl) ?_
  refine lv_iconst (v := 0) hC.1 hC.2.1 dX10_now_6 (by decide) ?_
  refine lv_iconst (v := 4) hC.1 hC.2.1 dX10_now_7 (by decide) ?_
  obtain ⟨⟨q8_r, q8_S⟩, hq, h⟩ := xb h
  try dsimp only at h
  refine x_callS (As := [.int x1, .int (0 : Int32), .int (4 : Int32)]) (rest := []) hC hW hS (c_X10_in l D b cs _ _ _ _ _ _ hq) mi_X10_in st_X10_in ml_X10_69 ⟨rfl, rfl⟩ ⟨Nat.le_of_ble_eq_true rfl, Nat.le_of_ble_eq_true rfl⟩ ⟨Nat.zero_le _, Nat.zero_le _⟩ rfl rfl hl.1 (Nat.le_of_ble_eq_true rfl) dX10_now_8 (fun H locs hW hS => ?_)
  refine lv_if_ne (tgt := 16) hC.1 hC.2.1 dX10_now_11 (by decide) (fun hc => ?_) (fun hc => ?_)
  · replace h := xf hc h
    refine lv_iload_n hC.1 hC.2.1 dX10_now_16 rfl (lv_at hl 1 rfl) ?_
    refine lv_iconst (v := 2) hC.1 hC.2.1 dX10_now_17 (by decide) ?_
    refine lv_icmp_ge (tgt := 43) hC.1 hC.2.1 dX10_now_18 (by decide) (fun hc => ?_) (fun hc => ?_)
    · replace h := xt hc h
      refine lv_iload_n hC.1 hC.2.1 dX10_now_43 rfl (lv_at hl 1 rfl) ?_
      refine lv_iconst (v := 2) hC.1 hC.2.1 dX10_now_44 (by decide) ?_
      refine lv_icmp_ne (tgt := 55) hC.1 hC.2.1 dX10_now_45 (by decide) (fun hc => ?_) (fun hc => ?_)
      · replace h := xf hc h
        refine lv_iload_n hC.1 hC.2.1 dX10_now_55 rfl (lv_at hl 1 rfl) ?_
        refine lv_iconst (v := 3) hC.1 hC.2.1 dX10_now_56 (by decide) ?_
        refine lv_icmp_ne (tgt := 67) hC.1 hC.2.1 dX10_now_57 (by decide) (fun hc => ?_) (fun hc => ?_)
        · replace h := xf hc h
          refine lv_aload_n hC.1 hC.2.1 dX10_now_67 rfl (lv_at hl 0 rfl) ?_
          refine x_get (C := RX10) (T := TX10) (N := 27) (v := _) hC hW 99 (by decide) rfl rfl uX10 23 (by decide) fl_X10_128 rfl rfl dX10_now_68 ?_
          obtain ⟨rfl, rfl⟩ := xr h
          exact x_iret hC hr hW hS dX10_now_71
        · replace h := xt hc h
          refine lv_aload_n hC.1 hC.2.1 dX10_now_60 rfl (lv_at hl 0 rfl) ?_
          obtain ⟨⟨q61_r, q61_S⟩, hq, h⟩ := xb h
          try dsimp only at h
          refine x_callV (T := TX10) (N := 27) (As := []) (rest := []) hC hW hS 99 (c_X10_coverOf l D b cs _ _ _ hq) (by decide) rfl rfl mi_X10_coverOf in_X10_coverOf sl_X10_coverOf ml_X10_174 ⟨rfl, rfl⟩ ⟨Nat.le_of_ble_eq_true rfl, Nat.le_of_ble_eq_true rfl⟩ ⟨Nat.zero_le _, Nat.zero_le _⟩ rfl rfl hl.1 (Nat.le_of_ble_eq_true rfl) dX10_now_61 (fun H locs hW hS => ?_)
          refine lv_goto (tgt := 71) hC.1 hC.2.1 dX10_now_64 (by decide) ?_
          obtain ⟨rfl, rfl⟩ := xr h
          exact x_iret hC hr hW hS dX10_now_71
      · replace h := xt hc h
        refine lv_aload_n hC.1 hC.2.1 dX10_now_48 rfl (lv_at hl 0 rfl) ?_
        obtain ⟨⟨q49_r, q49_S⟩, hq, h⟩ := xb h
        try dsimp only at h
        refine x_callV (T := TX10) (N := 27) (As := []) (rest := []) hC hW hS 99 (c_X10_atHome l D b cs _ _ _ hq) (by decide) rfl rfl mi_X10_atHome in_X10_atHome sl_X10_atHome ml_X10_170 ⟨rfl, rfl⟩ ⟨Nat.le_of_ble_eq_true rfl, Nat.le_of_ble_eq_true rfl⟩ ⟨Nat.zero_le _, Nat.zero_le _⟩ rfl rfl hl.1 (Nat.le_of_ble_eq_true rfl) dX10_now_49 (fun H locs hW hS => ?_)
        refine lv_goto (tgt := 71) hC.1 hC.2.1 dX10_now_52 (by decide) ?_
        obtain ⟨rfl, rfl⟩ := xr h
        exact x_iret hC hr hW hS dX10_now_71
    · replace h := xf hc h
      refine lv_iload_n hC.1 hC.2.1 dX10_now_21 rfl (lv_at hl 1 rfl) ?_
      refine lv_if_ne (tgt := 35) hC.1 hC.2.1 dX10_now_22 (by decide) (fun hc => ?_) (fun hc => ?_)
      · replace h := xf hc h
        refine lv_aload_n hC.1 hC.2.1 dX10_now_35 rfl (lv_at hl 0 rfl) ?_
        refine x_get (C := RX10) (T := TX10) (N := 27) (v := _) hC hW 99 (by decide) rfl rfl uX10 19 (by decide) fl_X10_40 rfl rfl dX10_now_36 ?_
        refine lv_bipush (v := 23) hC.1 hC.2.1 dX10_now_39 (by decide) ?_
        obtain ⟨hi, h⟩ := xg h
        refine x_iald hC hW 110 (by decide) rfl hi dX10_now_41 ?_
        obtain ⟨rfl, rfl⟩ := xr h
        exact x_iret hC hr hW hS dX10_now_42
      · replace h := xt hc h
        refine lv_aload_n hC.1 hC.2.1 dX10_now_25 rfl (lv_at hl 0 rfl) ?_
        refine x_get (C := RX10) (T := TX10) (N := 27) (v := _) hC hW 99 (by decide) rfl rfl uX10 19 (by decide) fl_X10_40 rfl rfl dX10_now_26 ?_
        refine lv_bipush (v := 24) hC.1 hC.2.1 dX10_now_29 (by decide) ?_
        obtain ⟨hi, h⟩ := xg h
        refine x_iald hC hW 110 (by decide) rfl hi dX10_now_31 ?_
        refine lv_goto (tgt := 42) hC.1 hC.2.1 dX10_now_32 (by decide) ?_
        obtain ⟨rfl, rfl⟩ := xr h
        exact x_iret hC hr hW hS dX10_now_42
  · replace h := xt hc h
    refine lv_iconst (v := -1) hC.1 hC.2.1 dX10_now_14 (by decide) ?_
    obtain ⟨rfl, rfl⟩ := xr h
    exact x_iret hC hr hW hS dX10_now_15
