-- walks: X0_commonDivisor X0_weighNumbers X0_reckon X1_isBroken X1_unbroken X1_lowest X1_highest X9_within X1_sings X1_keys X1_opens X1_openers X1_atHome X1_beyond X1_spread X1_reach X1_fewestDoors
theorem dX0_commonDivisor_0 : decode cX0_commonDivisor 0 = .ok (.iload_n 0, 1) := by decide +kernel
theorem dX0_commonDivisor_1 : decode cX0_commonDivisor 1 = .ok (.istore_n 2, 1) := by decide +kernel
theorem dX0_commonDivisor_2 : decode cX0_commonDivisor 2 = .ok (.iload_n 1, 1) := by decide +kernel
theorem dX0_commonDivisor_3 : decode cX0_commonDivisor 3 = .ok (.istore_n 3, 1) := by decide +kernel
theorem dX0_commonDivisor_4 : decode cX0_commonDivisor 4 = .ok (.iconst 0, 1) := by decide +kernel
theorem dX0_commonDivisor_5 : decode cX0_commonDivisor 5 = .ok (.istore 4, 2) := by decide +kernel
theorem dX0_commonDivisor_7 : decode cX0_commonDivisor 7 = .ok (.iload 4, 2) := by decide +kernel
theorem dX0_commonDivisor_9 : decode cX0_commonDivisor 9 = .ok (.bipush 64, 2) := by decide +kernel
theorem dX0_commonDivisor_11 : decode cX0_commonDivisor 11 = .ok (.if_icmp .ge 23, 3) := by decide +kernel
theorem dX0_commonDivisor_14 : decode cX0_commonDivisor 14 = .ok (.iload_n 3, 1) := by decide +kernel
theorem dX0_commonDivisor_15 : decode cX0_commonDivisor 15 = .ok (.ifCond .eq 19, 3) := by decide +kernel
theorem dX0_commonDivisor_18 : decode cX0_commonDivisor 18 = .ok (.iload_n 2, 1) := by decide +kernel
theorem dX0_commonDivisor_19 : decode cX0_commonDivisor 19 = .ok (.iload_n 3, 1) := by decide +kernel
theorem dX0_commonDivisor_20 : decode cX0_commonDivisor 20 = .ok (.irem, 1) := by decide +kernel
theorem dX0_commonDivisor_21 : decode cX0_commonDivisor 21 = .ok (.istore 5, 2) := by decide +kernel
theorem dX0_commonDivisor_23 : decode cX0_commonDivisor 23 = .ok (.iload_n 3, 1) := by decide +kernel
theorem dX0_commonDivisor_24 : decode cX0_commonDivisor 24 = .ok (.istore_n 2, 1) := by decide +kernel
theorem dX0_commonDivisor_25 : decode cX0_commonDivisor 25 = .ok (.iload 5, 2) := by decide +kernel
theorem dX0_commonDivisor_27 : decode cX0_commonDivisor 27 = .ok (.istore_n 3, 1) := by decide +kernel
theorem dX0_commonDivisor_28 : decode cX0_commonDivisor 28 = .ok (.iinc 4 1, 3) := by decide +kernel
theorem dX0_commonDivisor_31 : decode cX0_commonDivisor 31 = .ok (.goto (-24), 3) := by decide +kernel
theorem dX0_commonDivisor_34 : decode cX0_commonDivisor 34 = .ok (.iload_n 2, 1) := by decide +kernel
theorem dX0_commonDivisor_35 : decode cX0_commonDivisor 35 = .ok (.ireturn, 1) := by decide +kernel
abbrev rX0_commonDivisor : Room := { frames := 0, cells := 0, slots := 0, locals := 0 }
set_option maxHeartbeats 4000000 in
set_option maxRecDepth 100000 in
theorem w_X0_commonDivisor_7 {p : Program} {l : Launch} {e : Env} {s : State} {m : MethodId} {args : Array Value} {below : List Frame} {meth : Method} {c : Code} {D : va_G} {b : Nat} {cs : Cs3} {r : Int32} {S1 : St} (hC : CX p s m args meth c RX0 cX0_commonDivisor 6 D cs) (hr : meth.sig.returnType = (some .int)) : ∀ (n : Nat) (x2 : Int32) (x3 : Int32) (x4 : Int32) (S : St) (H : Heap) (locs : List Loc) (ls : Array Slot), q_X0_commonDivisor_7 n x2 x3 x4 S = some (r, S1) → Wd D b cs S H → va_S (AA b) s.heap H locs → lv_has ls 6 [(2, .int x2), (3, .int x3), (4, .int x4)] → W p l e rX0_commonDivisor s m args below meth c H locs 0 0 (MQ below (QX D b cs (some (.int r)) S1) args s 0 0 (AA b)) (F0 m 7 ls []) := by
  intro n
  induction n with
  | zero =>
    intro x2 x3 x4 S H locs ls h
    exact absurd h (by rw [q_X0_commonDivisor_7]; exact fun q => nomatch q)
  | succ n IH =>
    intro x2 x3 x4 S H locs ls h hW hS hl
    rw [q_X0_commonDivisor_7] at h
    refine lv_iload hC.1 hC.2.1 dX0_commonDivisor_7 (lv_at hl 2 rfl) ?_
    refine lv_bipush (v := 64) hC.1 hC.2.1 dX0_commonDivisor_9 (by decide) ?_
    refine lv_icmp_ge (tgt := 34) hC.1 hC.2.1 dX0_commonDivisor_11 (by decide) (fun hc => ?_) (fun hc => ?_)
    · replace h := xt hc h
      refine lv_iload_n hC.1 hC.2.1 dX0_commonDivisor_34 rfl (lv_at hl 0 rfl) ?_
      obtain ⟨rfl, rfl⟩ := xr h
      exact x_iret hC hr hW hS dX0_commonDivisor_35
    · replace h := xf hc h
      refine lv_iload_n hC.1 hC.2.1 dX0_commonDivisor_14 rfl (lv_at hl 1 rfl) ?_
      refine lv_if_eq (tgt := 34) hC.1 hC.2.1 dX0_commonDivisor_15 (by decide) (fun hc => ?_) (fun hc => ?_)
      · replace h := xt hc h
        refine lv_iload_n hC.1 hC.2.1 dX0_commonDivisor_34 rfl (lv_at hl 0 rfl) ?_
        obtain ⟨rfl, rfl⟩ := xr h
        exact x_iret hC hr hW hS dX0_commonDivisor_35
      · replace h := xf hc h
        refine lv_iload_n hC.1 hC.2.1 dX0_commonDivisor_18 rfl (lv_at hl 0 rfl) ?_
        refine lv_iload_n hC.1 hC.2.1 dX0_commonDivisor_19 rfl (lv_at hl 1 rfl) ?_
        obtain ⟨hne, h⟩ := xg h
        refine lv_irem hC.1 hC.2.1 dX0_commonDivisor_20 hne ?_
        refine lv_istore (lv' := [(5, .int (x2 - x2 / x3 * x3)), (2, .int x2), (3, .int x3), (4, .int x4)]) hC.1 hC.2.1 dX0_commonDivisor_21 hl (by decide) rfl (fun ls hl => ?_)
        refine lv_iload_n hC.1 hC.2.1 dX0_commonDivisor_23 rfl (lv_at hl 2 rfl) ?_
        refine lv_istore_n (lv' := [(2, .int x3), (5, .int (x2 - x2 / x3 * x3)), (3, .int x3), (4, .int x4)]) hC.1 hC.2.1 dX0_commonDivisor_24 rfl hl (by decide) rfl (fun ls hl => ?_)
        refine lv_iload hC.1 hC.2.1 dX0_commonDivisor_25 (lv_at hl 1 rfl) ?_
        refine lv_istore_n (lv' := [(3, .int (x2 - x2 / x3 * x3)), (2, .int x3), (5, .int (x2 - x2 / x3 * x3)), (4, .int x4)]) hC.1 hC.2.1 dX0_commonDivisor_27 rfl hl (by decide) rfl (fun ls hl => ?_)
        refine lv_iinc (v := x4 + 1) (lv' := [(4, .int (x4 + 1)), (3, .int (x2 - x2 / x3 * x3)), (2, .int x3), (5, .int (x2 - x2 / x3 * x3))]) hC.1 hC.2.1 dX0_commonDivisor_28 hl (k := 3) rfl rfl (by decide) rfl (fun ls hl => ?_)
        refine lv_goto (tgt := 7) hC.1 hC.2.1 dX0_commonDivisor_31 (by decide) ?_
        exact IH _ _ _ _ _ _ _ h hW hS (lv_sub hl [2, 1, 0] rfl)
set_option maxHeartbeats 4000000 in
set_option maxRecDepth 100000 in
theorem c_X0_commonDivisor (l : Launch) (D : va_G) (b : Nat) (cs : Cs3) (x0 : Int32) (x1 : Int32) (S S1 : St) (r : Int32) (h : p_X0_commonDivisor x0 x1 S = some (r, S1)) : Ct l yX0_commonDivisor cX0_commonDivisor 6 (some .int) rX0_commonDivisor D b cs [.int x0, .int x1] S (some (.int r)) S1 := by
  refine x_met (by decide +kernel) (Nat.le_of_ble_eq_true rfl) ?_
  intro p e s m below meth c ls hC hr hW hS hl
  have hl : lv_has ls 6 [(0, .int x0), (1, .int x1)] := hl
  rw [p_X0_commonDivisor] at h
  refine lv_iload_n hC.1 hC.2.1 dX0_commonDivisor_0 rfl (lv_at hl 0 rfl) ?_
  refine lv_istore_n (lv' := [(2, .int x0), (0, .int x0), (1, .int x1)]) hC.1 hC.2.1 dX0_commonDivisor_1 rfl hl (by decide) rfl (fun ls hl => ?_)
  refine lv_iload_n hC.1 hC.2.1 dX0_commonDivisor_2 rfl (lv_at hl 2 rfl) ?_
  refine lv_istore_n (lv' := [(3, .int x1), (2, .int x0), (0, .int x0), (1, .int x1)]) hC.1 hC.2.1 dX0_commonDivisor_3 rfl hl (by decide) rfl (fun ls hl => ?_)
  refine lv_iconst (v := 0) hC.1 hC.2.1 dX0_commonDivisor_4 (by decide) ?_
  refine lv_istore (lv' := [(4, .int (0 : Int32)), (3, .int x1), (2, .int x0), (0, .int x0), (1, .int x1)]) hC.1 hC.2.1 dX0_commonDivisor_5 hl (by decide) rfl (fun ls hl => ?_)
  exact w_X0_commonDivisor_7 hC hr _ _ _ _ _ _ _ _ h hW hS (lv_sub hl [2, 1, 0] rfl)
theorem dX0_weighNumbers_0 : decode cX0_weighNumbers 0 = .ok (.iconst 0, 1) := by decide +kernel
theorem dX0_weighNumbers_1 : decode cX0_weighNumbers 1 = .ok (.istore_n 3, 1) := by decide +kernel
theorem dX0_weighNumbers_2 : decode cX0_weighNumbers 2 = .ok (.iload_n 3, 1) := by decide +kernel
theorem dX0_weighNumbers_3 : decode cX0_weighNumbers 3 = .ok (.iconst 5, 1) := by decide +kernel
theorem dX0_weighNumbers_4 : decode cX0_weighNumbers 4 = .ok (.if_icmp .gt 24, 3) := by decide +kernel
theorem dX0_weighNumbers_7 : decode cX0_weighNumbers 7 = .ok (.aload_n 0, 1) := by decide +kernel
theorem dX0_weighNumbers_8 : decode cX0_weighNumbers 8 = .ok (.getfield 9, 3) := by decide +kernel
theorem dX0_weighNumbers_11 : decode cX0_weighNumbers 11 = .ok (.iload_n 3, 1) := by decide +kernel
theorem dX0_weighNumbers_12 : decode cX0_weighNumbers 12 = .ok (.iload_n 3, 1) := by decide +kernel
theorem dX0_weighNumbers_13 : decode cX0_weighNumbers 13 = .ok (.ifCond .ne 7, 3) := by decide +kernel
theorem dX0_weighNumbers_16 : decode cX0_weighNumbers 16 = .ok (.iconst 1, 1) := by decide +kernel
theorem dX0_weighNumbers_17 : decode cX0_weighNumbers 17 = .ok (.goto 4, 3) := by decide +kernel
theorem dX0_weighNumbers_20 : decode cX0_weighNumbers 20 = .ok (.iconst 0, 1) := by decide +kernel
theorem dX0_weighNumbers_21 : decode cX0_weighNumbers 21 = .ok (.iastore, 1) := by decide +kernel
theorem dX0_weighNumbers_22 : decode cX0_weighNumbers 22 = .ok (.iinc 3 1, 3) := by decide +kernel
theorem dX0_weighNumbers_25 : decode cX0_weighNumbers 25 = .ok (.goto (-23), 3) := by decide +kernel
theorem dX0_weighNumbers_28 : decode cX0_weighNumbers 28 = .ok (.iconst 0, 1) := by decide +kernel
theorem dX0_weighNumbers_29 : decode cX0_weighNumbers 29 = .ok (.istore_n 3, 1) := by decide +kernel
theorem dX0_weighNumbers_30 : decode cX0_weighNumbers 30 = .ok (.iload_n 3, 1) := by decide +kernel
theorem dX0_weighNumbers_31 : decode cX0_weighNumbers 31 = .ok (.iload_n 1, 1) := by decide +kernel
theorem dX0_weighNumbers_32 : decode cX0_weighNumbers 32 = .ok (.if_icmp .ge 67, 3) := by decide +kernel
theorem dX0_weighNumbers_35 : decode cX0_weighNumbers 35 = .ok (.iload_n 1, 1) := by decide +kernel
theorem dX0_weighNumbers_36 : decode cX0_weighNumbers 36 = .ok (.istore 4, 2) := by decide +kernel
theorem dX0_weighNumbers_38 : decode cX0_weighNumbers 38 = .ok (.iload 4, 2) := by decide +kernel
theorem dX0_weighNumbers_40 : decode cX0_weighNumbers 40 = .ok (.ifCond .le 40, 3) := by decide +kernel
theorem dX0_weighNumbers_43 : decode cX0_weighNumbers 43 = .ok (.aload_n 0, 1) := by decide +kernel
theorem dX0_weighNumbers_44 : decode cX0_weighNumbers 44 = .ok (.getfield 9, 3) := by decide +kernel
theorem dX0_weighNumbers_47 : decode cX0_weighNumbers 47 = .ok (.iload 4, 2) := by decide +kernel
theorem dX0_weighNumbers_49 : decode cX0_weighNumbers 49 = .ok (.aload_n 0, 1) := by decide +kernel
theorem dX0_weighNumbers_50 : decode cX0_weighNumbers 50 = .ok (.getfield 9, 3) := by decide +kernel
theorem dX0_weighNumbers_53 : decode cX0_weighNumbers 53 = .ok (.iload 4, 2) := by decide +kernel
theorem dX0_weighNumbers_55 : decode cX0_weighNumbers 55 = .ok (.iaload, 1) := by decide +kernel
theorem dX0_weighNumbers_56 : decode cX0_weighNumbers 56 = .ok (.bipush 10, 2) := by decide +kernel
theorem dX0_weighNumbers_58 : decode cX0_weighNumbers 58 = .ok (.iload_n 2, 1) := by decide +kernel
theorem dX0_weighNumbers_59 : decode cX0_weighNumbers 59 = .ok (.isub, 1) := by decide +kernel
theorem dX0_weighNumbers_60 : decode cX0_weighNumbers 60 = .ok (.imul, 1) := by decide +kernel
theorem dX0_weighNumbers_61 : decode cX0_weighNumbers 61 = .ok (.aload_n 0, 1) := by decide +kernel
theorem dX0_weighNumbers_62 : decode cX0_weighNumbers 62 = .ok (.getfield 9, 3) := by decide +kernel
theorem dX0_weighNumbers_65 : decode cX0_weighNumbers 65 = .ok (.iload 4, 2) := by decide +kernel
theorem dX0_weighNumbers_67 : decode cX0_weighNumbers 67 = .ok (.iconst 1, 1) := by decide +kernel
theorem dX0_weighNumbers_68 : decode cX0_weighNumbers 68 = .ok (.isub, 1) := by decide +kernel
theorem dX0_weighNumbers_69 : decode cX0_weighNumbers 69 = .ok (.iaload, 1) := by decide +kernel
theorem dX0_weighNumbers_70 : decode cX0_weighNumbers 70 = .ok (.iload_n 2, 1) := by decide +kernel
theorem dX0_weighNumbers_71 : decode cX0_weighNumbers 71 = .ok (.imul, 1) := by decide +kernel
theorem dX0_weighNumbers_72 : decode cX0_weighNumbers 72 = .ok (.iadd, 1) := by decide +kernel
theorem dX0_weighNumbers_73 : decode cX0_weighNumbers 73 = .ok (.iastore, 1) := by decide +kernel
theorem dX0_weighNumbers_74 : decode cX0_weighNumbers 74 = .ok (.iinc 4 (-1), 3) := by decide +kernel
theorem dX0_weighNumbers_77 : decode cX0_weighNumbers 77 = .ok (.goto (-39), 3) := by decide +kernel
theorem dX0_weighNumbers_80 : decode cX0_weighNumbers 80 = .ok (.aload_n 0, 1) := by decide +kernel
theorem dX0_weighNumbers_81 : decode cX0_weighNumbers 81 = .ok (.getfield 9, 3) := by decide +kernel
theorem dX0_weighNumbers_84 : decode cX0_weighNumbers 84 = .ok (.iconst 0, 1) := by decide +kernel
theorem dX0_weighNumbers_85 : decode cX0_weighNumbers 85 = .ok (.dup2, 1) := by decide +kernel
theorem dX0_weighNumbers_86 : decode cX0_weighNumbers 86 = .ok (.iaload, 1) := by decide +kernel
theorem dX0_weighNumbers_87 : decode cX0_weighNumbers 87 = .ok (.bipush 10, 2) := by decide +kernel
theorem dX0_weighNumbers_89 : decode cX0_weighNumbers 89 = .ok (.iload_n 2, 1) := by decide +kernel
theorem dX0_weighNumbers_90 : decode cX0_weighNumbers 90 = .ok (.isub, 1) := by decide +kernel
theorem dX0_weighNumbers_91 : decode cX0_weighNumbers 91 = .ok (.imul, 1) := by decide +kernel
theorem dX0_weighNumbers_92 : decode cX0_weighNumbers 92 = .ok (.iastore, 1) := by decide +kernel
theorem dX0_weighNumbers_93 : decode cX0_weighNumbers 93 = .ok (.iinc 3 1, 3) := by decide +kernel
theorem dX0_weighNumbers_96 : decode cX0_weighNumbers 96 = .ok (.goto (-66), 3) := by decide +kernel
theorem dX0_weighNumbers_99 : decode cX0_weighNumbers 99 = .ok (.return_, 1) := by decide +kernel
abbrev rX0_weighNumbers : Room := { frames := 0, cells := 0, slots := 0, locals := 0 }
set_option maxHeartbeats 4000000 in
set_option maxRecDepth 100000 in
theorem w_X0_weighNumbers_38 {p : Program} {l : Launch} {e : Env} {s : State} {m : MethodId} {args : Array Value} {below : List Frame} {meth : Method} {c : Code} {D : va_G} {b : Nat} {cs : Cs3} {S1 : St} {ag30 : Int32 → Int32 → Int32 → St → Option (St)} (hC : CX p s m args meth c RX0 cX0_weighNumbers 5 D cs) (hr : meth.sig.returnType = none) (hag30 : ∀ (x1 : Int32) (x2 : Int32) (x3 : Int32) (S : St) (H : Heap) (locs : List Loc) (ls : Array Slot), ag30 x1 x2 x3 S = some S1 → Wd D b cs S H → va_S (AA b) s.heap H locs → lv_has ls 5 [(0, .ref (b + 93)), (1, .int x1), (2, .int x2), (3, .int x3)] → W p l e rX0_weighNumbers s m args below meth c H locs 0 0 (MQ below (QX D b cs none S1) args s 0 0 (AA b)) (F0 m 30 ls [])) : ∀ (n : Nat) (x1 : Int32) (x2 : Int32) (x3 : Int32) (x4 : Int32) (S : St) (H : Heap) (locs : List Loc) (ls : Array Slot), q_X0_weighNumbers_38 ag30 n x1 x2 x3 x4 S = some S1 → Wd D b cs S H → va_S (AA b) s.heap H locs → lv_has ls 5 [(0, .ref (b + 93)), (1, .int x1), (2, .int x2), (3, .int x3), (4, .int x4)] → W p l e rX0_weighNumbers s m args below meth c H locs 0 0 (MQ below (QX D b cs none S1) args s 0 0 (AA b)) (F0 m 38 ls []) := by
  intro n
  induction n with
  | zero =>
    intro x1 x2 x3 x4 S H locs ls h
    exact absurd h (by rw [q_X0_weighNumbers_38]; exact fun q => nomatch q)
  | succ n IH =>
    intro x1 x2 x3 x4 S H locs ls h hW hS hl
    rw [q_X0_weighNumbers_38] at h
    refine lv_iload hC.1 hC.2.1 dX0_weighNumbers_38 (lv_at hl 4 rfl) ?_
    refine lv_if_le (tgt := 80) hC.1 hC.2.1 dX0_weighNumbers_40 (by decide) (fun hc => ?_) (fun hc => ?_)
    · replace h := xt hc h
      refine lv_aload_n hC.1 hC.2.1 dX0_weighNumbers_80 rfl (lv_at hl 0 rfl) ?_
      refine x_get (C := RX0) (T := TX0) (N := 3) (v := _) hC hW 93 (by decide) rfl rfl uX0 0 (by decide) fl_X0_9 rfl rfl dX0_weighNumbers_81 ?_
      refine lv_iconst (v := 0) hC.1 hC.2.1 dX0_weighNumbers_84 (by decide) ?_
      refine lv_dup2_11 hC.1 hC.2.1 dX0_weighNumbers_85 rfl rfl ?_
      obtain ⟨hi, h⟩ := xg h
      refine x_iald hC hW 94 (by decide) rfl hi dX0_weighNumbers_86 ?_
      refine lv_bipush (v := 10) hC.1 hC.2.1 dX0_weighNumbers_87 (by decide) ?_
      refine lv_iload_n hC.1 hC.2.1 dX0_weighNumbers_89 rfl (lv_at hl 2 rfl) ?_
      refine lv_isub hC.1 hC.2.1 dX0_weighNumbers_90 ?_
      refine lv_imul hC.1 hC.2.1 dX0_weighNumbers_91 ?_
      obtain ⟨hi, h⟩ := xg h
      refine x_iast hC hW hS 94 (by decide) rfl hi dX0_weighNumbers_92 (fun H locs hW hS => ?_)
      refine lv_iinc (v := x3 + 1) (lv' := [(3, .int (x3 + 1)), (0, .ref (b + 93)), (1, .int x1), (2, .int x2), (4, .int x4)]) hC.1 hC.2.1 dX0_weighNumbers_93 hl (k := 3) rfl rfl (by decide) rfl (fun ls hl => ?_)
      refine lv_goto (tgt := 30) hC.1 hC.2.1 dX0_weighNumbers_96 (by decide) ?_
      exact hag30 _ _ _ _ _ _ _ h hW hS (lv_sub hl [1, 2, 3, 0] rfl)
    · replace h := xf hc h
      refine lv_aload_n hC.1 hC.2.1 dX0_weighNumbers_43 rfl (lv_at hl 0 rfl) ?_
      refine x_get (C := RX0) (T := TX0) (N := 3) (v := _) hC hW 93 (by decide) rfl rfl uX0 0 (by decide) fl_X0_9 rfl rfl dX0_weighNumbers_44 ?_
      refine lv_iload hC.1 hC.2.1 dX0_weighNumbers_47 (lv_at hl 4 rfl) ?_
      refine lv_aload_n hC.1 hC.2.1 dX0_weighNumbers_49 rfl (lv_at hl 0 rfl) ?_
      refine x_get (C := RX0) (T := TX0) (N := 3) (v := _) hC hW 93 (by decide) rfl rfl uX0 0 (by decide) fl_X0_9 rfl rfl dX0_weighNumbers_50 ?_
      refine lv_iload hC.1 hC.2.1 dX0_weighNumbers_53 (lv_at hl 4 rfl) ?_
      obtain ⟨hi, h⟩ := xg h
      refine x_iald hC hW 94 (by decide) rfl hi dX0_weighNumbers_55 ?_
      refine lv_bipush (v := 10) hC.1 hC.2.1 dX0_weighNumbers_56 (by decide) ?_
      refine lv_iload_n hC.1 hC.2.1 dX0_weighNumbers_58 rfl (lv_at hl 2 rfl) ?_
      refine lv_isub hC.1 hC.2.1 dX0_weighNumbers_59 ?_
      refine lv_imul hC.1 hC.2.1 dX0_weighNumbers_60 ?_
      refine lv_aload_n hC.1 hC.2.1 dX0_weighNumbers_61 rfl (lv_at hl 0 rfl) ?_
      refine x_get (C := RX0) (T := TX0) (N := 3) (v := _) hC hW 93 (by decide) rfl rfl uX0 0 (by decide) fl_X0_9 rfl rfl dX0_weighNumbers_62 ?_
      refine lv_iload hC.1 hC.2.1 dX0_weighNumbers_65 (lv_at hl 4 rfl) ?_
      refine lv_iconst (v := 1) hC.1 hC.2.1 dX0_weighNumbers_67 (by decide) ?_
      refine lv_isub hC.1 hC.2.1 dX0_weighNumbers_68 ?_
      obtain ⟨hi, h⟩ := xg h
      refine x_iald hC hW 94 (by decide) rfl hi dX0_weighNumbers_69 ?_
      refine lv_iload_n hC.1 hC.2.1 dX0_weighNumbers_70 rfl (lv_at hl 2 rfl) ?_
      refine lv_imul hC.1 hC.2.1 dX0_weighNumbers_71 ?_
      refine lv_iadd hC.1 hC.2.1 dX0_weighNumbers_72 ?_
      obtain ⟨hi, h⟩ := xg h
      refine x_iast hC hW hS 94 (by decide) rfl hi dX0_weighNumbers_73 (fun H locs hW hS => ?_)
      refine lv_iinc (v := x4 + (-1)) (lv' := [(4, .int (x4 + (-1))), (0, .ref (b + 93)), (1, .int x1), (2, .int x2), (3, .int x3)]) hC.1 hC.2.1 dX0_weighNumbers_74 hl (k := 4) rfl rfl (by decide) rfl (fun ls hl => ?_)
      refine lv_goto (tgt := 38) hC.1 hC.2.1 dX0_weighNumbers_77 (by decide) ?_
      exact IH _ _ _ _ _ _ _ _ h hW hS (lv_sub hl [1, 2, 3, 4, 0] rfl)
set_option maxHeartbeats 4000000 in
set_option maxRecDepth 100000 in
theorem w_X0_weighNumbers_30 {p : Program} {l : Launch} {e : Env} {s : State} {m : MethodId} {args : Array Value} {below : List Frame} {meth : Method} {c : Code} {D : va_G} {b : Nat} {cs : Cs3} {S1 : St} (hC : CX p s m args meth c RX0 cX0_weighNumbers 5 D cs) (hr : meth.sig.returnType = none) : ∀ (n : Nat) (x1 : Int32) (x2 : Int32) (x3 : Int32) (S : St) (H : Heap) (locs : List Loc) (ls : Array Slot), q_X0_weighNumbers_30 n x1 x2 x3 S = some S1 → Wd D b cs S H → va_S (AA b) s.heap H locs → lv_has ls 5 [(0, .ref (b + 93)), (1, .int x1), (2, .int x2), (3, .int x3)] → W p l e rX0_weighNumbers s m args below meth c H locs 0 0 (MQ below (QX D b cs none S1) args s 0 0 (AA b)) (F0 m 30 ls []) := by
  intro n
  induction n with
  | zero =>
    intro x1 x2 x3 S H locs ls h
    exact absurd h (by rw [q_X0_weighNumbers_30]; exact fun q => nomatch q)
  | succ n IH =>
    intro x1 x2 x3 S H locs ls h hW hS hl
    rw [q_X0_weighNumbers_30] at h
    refine lv_iload_n hC.1 hC.2.1 dX0_weighNumbers_30 rfl (lv_at hl 3 rfl) ?_
    refine lv_iload_n hC.1 hC.2.1 dX0_weighNumbers_31 rfl (lv_at hl 1 rfl) ?_
    refine lv_icmp_ge (tgt := 99) hC.1 hC.2.1 dX0_weighNumbers_32 (by decide) (fun hc => ?_) (fun hc => ?_)
    · replace h := xt hc h
      obtain rfl := Option.some.inj h
      exact x_vret hC hr hW hS dX0_weighNumbers_99
    · replace h := xf hc h
      refine lv_iload_n hC.1 hC.2.1 dX0_weighNumbers_35 rfl (lv_at hl 1 rfl) ?_
      refine lv_istore (lv' := [(4, .int x1), (0, .ref (b + 93)), (1, .int x1), (2, .int x2), (3, .int x3)]) hC.1 hC.2.1 dX0_weighNumbers_36 hl (by decide) rfl (fun ls hl => ?_)
      exact w_X0_weighNumbers_38 hC hr IH _ _ _ _ _ _ _ _ _ h hW hS (lv_sub hl [1, 2, 3, 4, 0] rfl)
set_option maxHeartbeats 4000000 in
set_option maxRecDepth 100000 in
theorem w_X0_weighNumbers_2 {p : Program} {l : Launch} {e : Env} {s : State} {m : MethodId} {args : Array Value} {below : List Frame} {meth : Method} {c : Code} {D : va_G} {b : Nat} {cs : Cs3} {S1 : St} (hC : CX p s m args meth c RX0 cX0_weighNumbers 5 D cs) (hr : meth.sig.returnType = none) : ∀ (n : Nat) (x1 : Int32) (x2 : Int32) (x3 : Int32) (S : St) (H : Heap) (locs : List Loc) (ls : Array Slot), q_X0_weighNumbers_2 n x1 x2 x3 S = some S1 → Wd D b cs S H → va_S (AA b) s.heap H locs → lv_has ls 5 [(0, .ref (b + 93)), (1, .int x1), (2, .int x2), (3, .int x3)] → W p l e rX0_weighNumbers s m args below meth c H locs 0 0 (MQ below (QX D b cs none S1) args s 0 0 (AA b)) (F0 m 2 ls []) := by
  intro n
  induction n with
  | zero =>
    intro x1 x2 x3 S H locs ls h
    exact absurd h (by rw [q_X0_weighNumbers_2]; exact fun q => nomatch q)
  | succ n IH =>
    intro x1 x2 x3 S H locs ls h hW hS hl
    rw [q_X0_weighNumbers_2] at h
    refine lv_iload_n hC.1 hC.2.1 dX0_weighNumbers_2 rfl (lv_at hl 3 rfl) ?_
    refine lv_iconst (v := 5) hC.1 hC.2.1 dX0_weighNumbers_3 (by decide) ?_
    refine lv_icmp_gt (tgt := 28) hC.1 hC.2.1 dX0_weighNumbers_4 (by decide) (fun hc => ?_) (fun hc => ?_)
    · replace h := xt hc h
      refine lv_iconst (v := 0) hC.1 hC.2.1 dX0_weighNumbers_28 (by decide) ?_
      refine lv_istore_n (lv' := [(3, .int (0 : Int32)), (0, .ref (b + 93)), (1, .int x1), (2, .int x2)]) hC.1 hC.2.1 dX0_weighNumbers_29 rfl hl (by decide) rfl (fun ls hl => ?_)
      exact w_X0_weighNumbers_30 hC hr _ _ _ _ _ _ _ _ h hW hS (lv_sub hl [1, 2, 3, 0] rfl)
    · replace h := xf hc h
      refine lv_aload_n hC.1 hC.2.1 dX0_weighNumbers_7 rfl (lv_at hl 0 rfl) ?_
      refine x_get (C := RX0) (T := TX0) (N := 3) (v := _) hC hW 93 (by decide) rfl rfl uX0 0 (by decide) fl_X0_9 rfl rfl dX0_weighNumbers_8 ?_
      refine lv_iload_n hC.1 hC.2.1 dX0_weighNumbers_11 rfl (lv_at hl 3 rfl) ?_
      refine lv_iload_n hC.1 hC.2.1 dX0_weighNumbers_12 rfl (lv_at hl 3 rfl) ?_
      refine lv_if_ne (tgt := 20) hC.1 hC.2.1 dX0_weighNumbers_13 (by decide) (fun hc => ?_) (fun hc => ?_)
      · replace h := xf hc h
        refine lv_iconst (v := 0) hC.1 hC.2.1 dX0_weighNumbers_20 (by decide) ?_
        obtain ⟨hi, h⟩ := xg h
        refine x_iast hC hW hS 94 (by decide) rfl hi dX0_weighNumbers_21 (fun H locs hW hS => ?_)
        refine lv_iinc (v := x3 + 1) (lv' := [(3, .int (x3 + 1)), (0, .ref (b + 93)), (1, .int x1), (2, .int x2)]) hC.1 hC.2.1 dX0_weighNumbers_22 hl (k := 3) rfl rfl (by decide) rfl (fun ls hl => ?_)
        refine lv_goto (tgt := 2) hC.1 hC.2.1 dX0_weighNumbers_25 (by decide) ?_
        exact IH _ _ _ _ _ _ _ h hW hS (lv_sub hl [1, 2, 3, 0] rfl)
      · replace h := xt hc h
        refine lv_iconst (v := 1) hC.1 hC.2.1 dX0_weighNumbers_16 (by decide) ?_
        refine lv_goto (tgt := 21) hC.1 hC.2.1 dX0_weighNumbers_17 (by decide) ?_
        obtain ⟨hi, h⟩ := xg h
        refine x_iast hC hW hS 94 (by decide) rfl hi dX0_weighNumbers_21 (fun H locs hW hS => ?_)
        refine lv_iinc (v := x3 + 1) (lv' := [(3, .int (x3 + 1)), (0, .ref (b + 93)), (1, .int x1), (2, .int x2)]) hC.1 hC.2.1 dX0_weighNumbers_22 hl (k := 3) rfl rfl (by decide) rfl (fun ls hl => ?_)
        refine lv_goto (tgt := 2) hC.1 hC.2.1 dX0_weighNumbers_25 (by decide) ?_
        exact IH _ _ _ _ _ _ _ h hW hS (lv_sub hl [1, 2, 3, 0] rfl)
set_option maxHeartbeats 4000000 in
set_option maxRecDepth 100000 in
theorem c_X0_weighNumbers (l : Launch) (D : va_G) (b : Nat) (cs : Cs3) (x1 : Int32) (x2 : Int32) (S S1 : St) (h : p_X0_weighNumbers x1 x2 S = some S1) : Ct l yX0_weighNumbers cX0_weighNumbers 5 none rX0_weighNumbers D b cs [.ref (b + 93), .int x1, .int x2] S none S1 := by
  refine x_met (by decide +kernel) (Nat.le_of_ble_eq_true rfl) ?_
  intro p e s m below meth c ls hC hr hW hS hl
  have hl : lv_has ls 5 [(0, .ref (b + 93)), (1, .int x1), (2, .int x2)] := hl
  rw [p_X0_weighNumbers] at h
  refine lv_iconst (v := 0) hC.1 hC.2.1 dX0_weighNumbers_0 (by decide) ?_
  refine lv_istore_n (lv' := [(3, .int (0 : Int32)), (0, .ref (b + 93)), (1, .int x1), (2, .int x2)]) hC.1 hC.2.1 dX0_weighNumbers_1 rfl hl (by decide) rfl (fun ls hl => ?_)
  exact w_X0_weighNumbers_2 hC hr _ _ _ _ _ _ _ _ h hW hS (lv_sub hl [1, 2, 3, 0] rfl)
theorem dX0_reckon_0 : decode cX0_reckon 0 = .ok (.aload_n 0, 1) := by decide +kernel
theorem dX0_reckon_1 : decode cX0_reckon 1 = .ok (.iload_n 1, 1) := by decide +kernel
theorem dX0_reckon_2 : decode cX0_reckon 2 = .ok (.iload_n 2, 1) := by decide +kernel
theorem dX0_reckon_3 : decode cX0_reckon 3 = .ok (.invokevirtual 22, 3) := by decide +kernel
theorem dX0_reckon_6 : decode cX0_reckon 6 = .ok (.aload_n 0, 1) := by decide +kernel
theorem dX0_reckon_7 : decode cX0_reckon 7 = .ok (.iconst 0, 1) := by decide +kernel
theorem dX0_reckon_8 : decode cX0_reckon 8 = .ok (.putfield 15, 3) := by decide +kernel
theorem dX0_reckon_11 : decode cX0_reckon 11 = .ok (.aload_n 0, 1) := by decide +kernel
theorem dX0_reckon_12 : decode cX0_reckon 12 = .ok (.iconst 1, 1) := by decide +kernel
theorem dX0_reckon_13 : decode cX0_reckon 13 = .ok (.putfield 19, 3) := by decide +kernel
theorem dX0_reckon_16 : decode cX0_reckon 16 = .ok (.iconst 0, 1) := by decide +kernel
theorem dX0_reckon_17 : decode cX0_reckon 17 = .ok (.istore 4, 2) := by decide +kernel
theorem dX0_reckon_19 : decode cX0_reckon 19 = .ok (.iload 4, 2) := by decide +kernel
theorem dX0_reckon_21 : decode cX0_reckon 21 = .ok (.iload_n 1, 1) := by decide +kernel
theorem dX0_reckon_22 : decode cX0_reckon 22 = .ok (.if_icmp .gt 31, 3) := by decide +kernel
theorem dX0_reckon_25 : decode cX0_reckon 25 = .ok (.iload 4, 2) := by decide +kernel
theorem dX0_reckon_27 : decode cX0_reckon 27 = .ok (.iload_n 3, 1) := by decide +kernel
theorem dX0_reckon_28 : decode cX0_reckon 28 = .ok (.if_icmp .gt 19, 3) := by decide +kernel
theorem dX0_reckon_31 : decode cX0_reckon 31 = .ok (.aload_n 0, 1) := by decide +kernel
theorem dX0_reckon_32 : decode cX0_reckon 32 = .ok (.dup, 1) := by decide +kernel
theorem dX0_reckon_33 : decode cX0_reckon 33 = .ok (.getfield 15, 3) := by decide +kernel
theorem dX0_reckon_36 : decode cX0_reckon 36 = .ok (.aload_n 0, 1) := by decide +kernel
theorem dX0_reckon_37 : decode cX0_reckon 37 = .ok (.getfield 9, 3) := by decide +kernel
theorem dX0_reckon_40 : decode cX0_reckon 40 = .ok (.iload 4, 2) := by decide +kernel
theorem dX0_reckon_42 : decode cX0_reckon 42 = .ok (.iaload, 1) := by decide +kernel
theorem dX0_reckon_43 : decode cX0_reckon 43 = .ok (.iadd, 1) := by decide +kernel
theorem dX0_reckon_44 : decode cX0_reckon 44 = .ok (.putfield 15, 3) := by decide +kernel
theorem dX0_reckon_47 : decode cX0_reckon 47 = .ok (.iinc 4 1, 3) := by decide +kernel
theorem dX0_reckon_50 : decode cX0_reckon 50 = .ok (.goto (-31), 3) := by decide +kernel
theorem dX0_reckon_53 : decode cX0_reckon 53 = .ok (.iconst 0, 1) := by decide +kernel
theorem dX0_reckon_54 : decode cX0_reckon 54 = .ok (.istore 4, 2) := by decide +kernel
theorem dX0_reckon_56 : decode cX0_reckon 56 = .ok (.iload 4, 2) := by decide +kernel
theorem dX0_reckon_58 : decode cX0_reckon 58 = .ok (.iload_n 1, 1) := by decide +kernel
theorem dX0_reckon_59 : decode cX0_reckon 59 = .ok (.if_icmp .ge 20, 3) := by decide +kernel
theorem dX0_reckon_62 : decode cX0_reckon 62 = .ok (.aload_n 0, 1) := by decide +kernel
theorem dX0_reckon_63 : decode cX0_reckon 63 = .ok (.dup, 1) := by decide +kernel
theorem dX0_reckon_64 : decode cX0_reckon 64 = .ok (.getfield 19, 3) := by decide +kernel
theorem dX0_reckon_67 : decode cX0_reckon 67 = .ok (.bipush 10, 2) := by decide +kernel
theorem dX0_reckon_69 : decode cX0_reckon 69 = .ok (.imul, 1) := by decide +kernel
theorem dX0_reckon_70 : decode cX0_reckon 70 = .ok (.putfield 19, 3) := by decide +kernel
theorem dX0_reckon_73 : decode cX0_reckon 73 = .ok (.iinc 4 1, 3) := by decide +kernel
theorem dX0_reckon_76 : decode cX0_reckon 76 = .ok (.goto (-20), 3) := by decide +kernel
theorem dX0_reckon_79 : decode cX0_reckon 79 = .ok (.aload_n 0, 1) := by decide +kernel
theorem dX0_reckon_80 : decode cX0_reckon 80 = .ok (.getfield 19, 3) := by decide +kernel
theorem dX0_reckon_83 : decode cX0_reckon 83 = .ok (.aload_n 0, 1) := by decide +kernel
theorem dX0_reckon_84 : decode cX0_reckon 84 = .ok (.getfield 15, 3) := by decide +kernel
theorem dX0_reckon_87 : decode cX0_reckon 87 = .ok (.invokestatic 26, 3) := by decide +kernel
theorem dX0_reckon_90 : decode cX0_reckon 90 = .ok (.istore 4, 2) := by decide +kernel
theorem dX0_reckon_92 : decode cX0_reckon 92 = .ok (.iload 4, 2) := by decide +kernel
theorem dX0_reckon_94 : decode cX0_reckon 94 = .ok (.iconst 1, 1) := by decide +kernel
theorem dX0_reckon_95 : decode cX0_reckon 95 = .ok (.if_icmp .le 25, 3) := by decide +kernel
theorem dX0_reckon_98 : decode cX0_reckon 98 = .ok (.aload_n 0, 1) := by decide +kernel
theorem dX0_reckon_99 : decode cX0_reckon 99 = .ok (.dup, 1) := by decide +kernel
theorem dX0_reckon_100 : decode cX0_reckon 100 = .ok (.getfield 15, 3) := by decide +kernel
theorem dX0_reckon_103 : decode cX0_reckon 103 = .ok (.iload 4, 2) := by decide +kernel
theorem dX0_reckon_105 : decode cX0_reckon 105 = .ok (.idiv, 1) := by decide +kernel
theorem dX0_reckon_106 : decode cX0_reckon 106 = .ok (.putfield 15, 3) := by decide +kernel
theorem dX0_reckon_109 : decode cX0_reckon 109 = .ok (.aload_n 0, 1) := by decide +kernel
theorem dX0_reckon_110 : decode cX0_reckon 110 = .ok (.dup, 1) := by decide +kernel
theorem dX0_reckon_111 : decode cX0_reckon 111 = .ok (.getfield 19, 3) := by decide +kernel
theorem dX0_reckon_114 : decode cX0_reckon 114 = .ok (.iload 4, 2) := by decide +kernel
theorem dX0_reckon_116 : decode cX0_reckon 116 = .ok (.idiv, 1) := by decide +kernel
theorem dX0_reckon_117 : decode cX0_reckon 117 = .ok (.putfield 19, 3) := by decide +kernel
theorem dX0_reckon_120 : decode cX0_reckon 120 = .ok (.return_, 1) := by decide +kernel
abbrev rX0_reckon : Room := { frames := 1, cells := 0, slots := 0, locals := 25 }
set_option maxHeartbeats 4000000 in
set_option maxRecDepth 100000 in
theorem w_X0_reckon_56 {p : Program} {l : Launch} {e : Env} {s : State} {m : MethodId} {args : Array Value} {below : List Frame} {meth : Method} {c : Code} {D : va_G} {b : Nat} {cs : Cs3} {S1 : St} (hC : CX p s m args meth c RX0 cX0_reckon 5 D cs) (hr : meth.sig.returnType = none) : ∀ (n : Nat) (x1 : Int32) (x4 : Int32) (S : St) (H : Heap) (locs : List Loc) (ls : Array Slot), q_X0_reckon_56 n x1 x4 S = some S1 → Wd D b cs S H → va_S (AA b) s.heap H locs → lv_has ls 5 [(0, .ref (b + 93)), (1, .int x1), (4, .int x4)] → W p l e rX0_reckon s m args below meth c H locs 0 0 (MQ below (QX D b cs none S1) args s 0 0 (AA b)) (F0 m 56 ls []) := by
  intro n
  induction n with
  | zero =>
    intro x1 x4 S H locs ls h
    exact absurd h (by rw [q_X0_reckon_56]; exact fun q => nomatch q)
  | succ n IH =>
    intro x1 x4 S H locs ls h hW hS hl
    rw [q_X0_reckon_56] at h
    refine lv_iload hC.1 hC.2.1 dX0_reckon_56 (lv_at hl 2 rfl) ?_
    refine lv_iload_n hC.1 hC.2.1 dX0_reckon_58 rfl (lv_at hl 1 rfl) ?_
    refine lv_icmp_ge (tgt := 79) hC.1 hC.2.1 dX0_reckon_59 (by decide) (fun hc => ?_) (fun hc => ?_)
    · replace h := xt hc h
      refine lv_aload_n hC.1 hC.2.1 dX0_reckon_79 rfl (lv_at hl 0 rfl) ?_
      refine x_get (C := RX0) (T := TX0) (N := 3) (v := _) hC hW 93 (by decide) rfl rfl uX0 2 (by decide) fl_X0_19 rfl rfl dX0_reckon_80 ?_
      refine lv_aload_n hC.1 hC.2.1 dX0_reckon_83 rfl (lv_at hl 0 rfl) ?_
      refine x_get (C := RX0) (T := TX0) (N := 3) (v := _) hC hW 93 (by decide) rfl rfl uX0 1 (by decide) fl_X0_15 rfl rfl dX0_reckon_84 ?_
      obtain ⟨⟨q87_r, q87_S⟩, hq, h⟩ := xb h
      try dsimp only at h
      refine x_callS (As := [.int (S.1 93 2), .int (S.1 93 1)]) (rest := []) hC hW hS (c_X0_commonDivisor l D b cs _ _ _ _ _ hq) mi_X0_commonDivisor st_X0_commonDivisor ml_X0_26 ⟨rfl, rfl⟩ ⟨Nat.le_of_ble_eq_true rfl, Nat.le_of_ble_eq_true rfl⟩ ⟨Nat.zero_le _, Nat.zero_le _⟩ rfl rfl hl.1 (Nat.le_of_ble_eq_true rfl) dX0_reckon_87 (fun H locs hW hS => ?_)
      refine lv_istore (lv' := [(4, .int q87_r), (0, .ref (b + 93)), (1, .int x1)]) hC.1 hC.2.1 dX0_reckon_90 hl (by decide) rfl (fun ls hl => ?_)
      refine lv_iload hC.1 hC.2.1 dX0_reckon_92 (lv_at hl 0 rfl) ?_
      refine lv_iconst (v := 1) hC.1 hC.2.1 dX0_reckon_94 (by decide) ?_
      refine lv_icmp_le (tgt := 120) hC.1 hC.2.1 dX0_reckon_95 (by decide) (fun hc => ?_) (fun hc => ?_)
      · replace h := xt hc h
        obtain rfl := Option.some.inj h
        exact x_vret hC hr hW hS dX0_reckon_120
      · replace h := xf hc h
        refine lv_aload_n hC.1 hC.2.1 dX0_reckon_98 rfl (lv_at hl 1 rfl) ?_
        refine lv_dup hC.1 hC.2.1 dX0_reckon_99 rfl ?_
        refine x_get (C := RX0) (T := TX0) (N := 3) (v := _) hC hW 93 (by decide) rfl rfl uX0 1 (by decide) fl_X0_15 rfl rfl dX0_reckon_100 ?_
        refine lv_iload hC.1 hC.2.1 dX0_reckon_103 (lv_at hl 0 rfl) ?_
        obtain ⟨hne, h⟩ := xg h
        refine lv_idiv hC.1 hC.2.1 dX0_reckon_105 hne ?_
        refine x_puti (C := RX0) (T := TX0) (N := 3) (ty := .int) hC hW hS 93 (by decide) rfl rfl uX0 tyX0 tyX0_ok nmX0 1 (by decide) fl_X0_15 rfl (by decide +kernel) rfl rfl rfl dX0_reckon_106 (fun H locs hW hS => ?_)
        refine lv_aload_n hC.1 hC.2.1 dX0_reckon_109 rfl (lv_at hl 1 rfl) ?_
        refine lv_dup hC.1 hC.2.1 dX0_reckon_110 rfl ?_
        refine x_get (C := RX0) (T := TX0) (N := 3) (v := _) hC hW 93 (by decide) rfl rfl uX0 2 (by decide) fl_X0_19 rfl rfl dX0_reckon_111 ?_
        refine lv_iload hC.1 hC.2.1 dX0_reckon_114 (lv_at hl 0 rfl) ?_
        obtain ⟨hne, h⟩ := xg h
        refine lv_idiv hC.1 hC.2.1 dX0_reckon_116 hne ?_
        refine x_puti (C := RX0) (T := TX0) (N := 3) (ty := .int) hC hW hS 93 (by decide) rfl rfl uX0 tyX0 tyX0_ok nmX0 2 (by decide) fl_X0_19 rfl (by decide +kernel) rfl rfl rfl dX0_reckon_117 (fun H locs hW hS => ?_)
        obtain rfl := Option.some.inj h
        exact x_vret hC hr hW hS dX0_reckon_120
    · replace h := xf hc h
      refine lv_aload_n hC.1 hC.2.1 dX0_reckon_62 rfl (lv_at hl 0 rfl) ?_
      refine lv_dup hC.1 hC.2.1 dX0_reckon_63 rfl ?_
      refine x_get (C := RX0) (T := TX0) (N := 3) (v := _) hC hW 93 (by decide) rfl rfl uX0 2 (by decide) fl_X0_19 rfl rfl dX0_reckon_64 ?_
      refine lv_bipush (v := 10) hC.1 hC.2.1 dX0_reckon_67 (by decide) ?_
      refine lv_imul hC.1 hC.2.1 dX0_reckon_69 ?_
      refine x_puti (C := RX0) (T := TX0) (N := 3) (ty := .int) hC hW hS 93 (by decide) rfl rfl uX0 tyX0 tyX0_ok nmX0 2 (by decide) fl_X0_19 rfl (by decide +kernel) rfl rfl rfl dX0_reckon_70 (fun H locs hW hS => ?_)
      refine lv_iinc (v := x4 + 1) (lv' := [(4, .int (x4 + 1)), (0, .ref (b + 93)), (1, .int x1)]) hC.1 hC.2.1 dX0_reckon_73 hl (k := 2) rfl rfl (by decide) rfl (fun ls hl => ?_)
      refine lv_goto (tgt := 56) hC.1 hC.2.1 dX0_reckon_76 (by decide) ?_
      exact IH _ _ _ _ _ _ h hW hS (lv_sub hl [1, 2, 0] rfl)
set_option maxHeartbeats 4000000 in
set_option maxRecDepth 100000 in
theorem w_X0_reckon_19 {p : Program} {l : Launch} {e : Env} {s : State} {m : MethodId} {args : Array Value} {below : List Frame} {meth : Method} {c : Code} {D : va_G} {b : Nat} {cs : Cs3} {S1 : St} (hC : CX p s m args meth c RX0 cX0_reckon 5 D cs) (hr : meth.sig.returnType = none) : ∀ (n : Nat) (x1 : Int32) (x3 : Int32) (x4 : Int32) (S : St) (H : Heap) (locs : List Loc) (ls : Array Slot), q_X0_reckon_19 n x1 x3 x4 S = some S1 → Wd D b cs S H → va_S (AA b) s.heap H locs → lv_has ls 5 [(0, .ref (b + 93)), (1, .int x1), (3, .int x3), (4, .int x4)] → W p l e rX0_reckon s m args below meth c H locs 0 0 (MQ below (QX D b cs none S1) args s 0 0 (AA b)) (F0 m 19 ls []) := by
  intro n
  induction n with
  | zero =>
    intro x1 x3 x4 S H locs ls h
    exact absurd h (by rw [q_X0_reckon_19]; exact fun q => nomatch q)
  | succ n IH =>
    intro x1 x3 x4 S H locs ls h hW hS hl
    rw [q_X0_reckon_19] at h
    refine lv_iload hC.1 hC.2.1 dX0_reckon_19 (lv_at hl 3 rfl) ?_
    refine lv_iload_n hC.1 hC.2.1 dX0_reckon_21 rfl (lv_at hl 1 rfl) ?_
    refine lv_icmp_gt (tgt := 53) hC.1 hC.2.1 dX0_reckon_22 (by decide) (fun hc => ?_) (fun hc => ?_)
    · replace h := xt hc h
      refine lv_iconst (v := 0) hC.1 hC.2.1 dX0_reckon_53 (by decide) ?_
      refine lv_istore (lv' := [(4, .int (0 : Int32)), (0, .ref (b + 93)), (1, .int x1), (3, .int x3)]) hC.1 hC.2.1 dX0_reckon_54 hl (by decide) rfl (fun ls hl => ?_)
      exact w_X0_reckon_56 hC hr _ _ _ _ _ _ _ h hW hS (lv_sub hl [1, 2, 0] rfl)
    · replace h := xf hc h
      refine lv_iload hC.1 hC.2.1 dX0_reckon_25 (lv_at hl 3 rfl) ?_
      refine lv_iload_n hC.1 hC.2.1 dX0_reckon_27 rfl (lv_at hl 2 rfl) ?_
      refine lv_icmp_gt (tgt := 47) hC.1 hC.2.1 dX0_reckon_28 (by decide) (fun hc => ?_) (fun hc => ?_)
      · replace h := xt hc h
        refine lv_iinc (v := x4 + 1) (lv' := [(4, .int (x4 + 1)), (0, .ref (b + 93)), (1, .int x1), (3, .int x3)]) hC.1 hC.2.1 dX0_reckon_47 hl (k := 3) rfl rfl (by decide) rfl (fun ls hl => ?_)
        refine lv_goto (tgt := 19) hC.1 hC.2.1 dX0_reckon_50 (by decide) ?_
        exact IH _ _ _ _ _ _ _ h hW hS (lv_sub hl [1, 2, 3, 0] rfl)
      · replace h := xf hc h
        refine lv_aload_n hC.1 hC.2.1 dX0_reckon_31 rfl (lv_at hl 0 rfl) ?_
        refine lv_dup hC.1 hC.2.1 dX0_reckon_32 rfl ?_
        refine x_get (C := RX0) (T := TX0) (N := 3) (v := _) hC hW 93 (by decide) rfl rfl uX0 1 (by decide) fl_X0_15 rfl rfl dX0_reckon_33 ?_
        refine lv_aload_n hC.1 hC.2.1 dX0_reckon_36 rfl (lv_at hl 0 rfl) ?_
        refine x_get (C := RX0) (T := TX0) (N := 3) (v := _) hC hW 93 (by decide) rfl rfl uX0 0 (by decide) fl_X0_9 rfl rfl dX0_reckon_37 ?_
        refine lv_iload hC.1 hC.2.1 dX0_reckon_40 (lv_at hl 3 rfl) ?_
        obtain ⟨hi, h⟩ := xg h
        refine x_iald hC hW 94 (by decide) rfl hi dX0_reckon_42 ?_
        refine lv_iadd hC.1 hC.2.1 dX0_reckon_43 ?_
        refine x_puti (C := RX0) (T := TX0) (N := 3) (ty := .int) hC hW hS 93 (by decide) rfl rfl uX0 tyX0 tyX0_ok nmX0 1 (by decide) fl_X0_15 rfl (by decide +kernel) rfl rfl rfl dX0_reckon_44 (fun H locs hW hS => ?_)
        refine lv_iinc (v := x4 + 1) (lv' := [(4, .int (x4 + 1)), (0, .ref (b + 93)), (1, .int x1), (3, .int x3)]) hC.1 hC.2.1 dX0_reckon_47 hl (k := 3) rfl rfl (by decide) rfl (fun ls hl => ?_)
        refine lv_goto (tgt := 19) hC.1 hC.2.1 dX0_reckon_50 (by decide) ?_
        exact IH _ _ _ _ _ _ _ h hW hS (lv_sub hl [1, 2, 3, 0] rfl)
set_option maxHeartbeats 4000000 in
set_option maxRecDepth 100000 in
theorem c_X0_reckon (l : Launch) (D : va_G) (b : Nat) (cs : Cs3) (x1 : Int32) (x2 : Int32) (x3 : Int32) (S S1 : St) (h : p_X0_reckon x1 x2 x3 S = some S1) : Ct l yX0_reckon cX0_reckon 5 none rX0_reckon D b cs [.ref (b + 93), .int x1, .int x2, .int x3] S none S1 := by
  refine x_met (by decide +kernel) (Nat.le_of_ble_eq_true rfl) ?_
  intro p e s m below meth c ls hC hr hW hS hl
  have hl : lv_has ls 5 [(0, .ref (b + 93)), (1, .int x1), (2, .int x2), (3, .int x3)] := hl
  rw [p_X0_reckon] at h
  refine lv_aload_n hC.1 hC.2.1 dX0_reckon_0 rfl (lv_at hl 0 rfl) ?_
  refine lv_iload_n hC.1 hC.2.1 dX0_reckon_1 rfl (lv_at hl 1 rfl) ?_
  refine lv_iload_n hC.1 hC.2.1 dX0_reckon_2 rfl (lv_at hl 2 rfl) ?_
  obtain ⟨q3, hq, h⟩ := xb h
  try dsimp only at h
  refine x_callV (T := TX0) (N := 3) (As := [.int x1, .int x2]) (rest := []) hC hW hS 93 (c_X0_weighNumbers l D b cs _ _ _ _ hq) (by decide) rfl rfl mi_X0_weighNumbers in_X0_weighNumbers sl_X0_weighNumbers ml_X0_22 ⟨rfl, rfl⟩ ⟨Nat.le_of_ble_eq_true rfl, Nat.le_of_ble_eq_true rfl⟩ ⟨Nat.zero_le _, Nat.zero_le _⟩ rfl rfl hl.1 (Nat.le_of_ble_eq_true rfl) dX0_reckon_3 (fun H locs hW hS => ?_)
  refine lv_aload_n hC.1 hC.2.1 dX0_reckon_6 rfl (lv_at hl 0 rfl) ?_
  refine lv_iconst (v := 0) hC.1 hC.2.1 dX0_reckon_7 (by decide) ?_
  refine x_puti (C := RX0) (T := TX0) (N := 3) (ty := .int) hC hW hS 93 (by decide) rfl rfl uX0 tyX0 tyX0_ok nmX0 1 (by decide) fl_X0_15 rfl (by decide +kernel) rfl rfl rfl dX0_reckon_8 (fun H locs hW hS => ?_)
  refine lv_aload_n hC.1 hC.2.1 dX0_reckon_11 rfl (lv_at hl 0 rfl) ?_
  refine lv_iconst (v := 1) hC.1 hC.2.1 dX0_reckon_12 (by decide) ?_
  refine x_puti (C := RX0) (T := TX0) (N := 3) (ty := .int) hC hW hS 93 (by decide) rfl rfl uX0 tyX0 tyX0_ok nmX0 2 (by decide) fl_X0_19 rfl (by decide +kernel) rfl rfl rfl dX0_reckon_13 (fun H locs hW hS => ?_)
  refine lv_iconst (v := 0) hC.1 hC.2.1 dX0_reckon_16 (by decide) ?_
  refine lv_istore (lv' := [(4, .int (0 : Int32)), (0, .ref (b + 93)), (1, .int x1), (2, .int x2), (3, .int x3)]) hC.1 hC.2.1 dX0_reckon_17 hl (by decide) rfl (fun ls hl => ?_)
  exact w_X0_reckon_19 hC hr _ _ _ _ _ _ _ _ h hW hS (lv_sub hl [1, 2, 4, 0] rfl)
theorem dX1_isBroken_0 : decode cX1_isBroken 0 = .ok (.aload_n 0, 1) := by decide +kernel
theorem dX1_isBroken_1 : decode cX1_isBroken 1 = .ok (.getfield 15, 3) := by decide +kernel
theorem dX1_isBroken_4 : decode cX1_isBroken 4 = .ok (.getfield 19, 3) := by decide +kernel
theorem dX1_isBroken_7 : decode cX1_isBroken 7 = .ok (.iload_n 1, 1) := by decide +kernel
theorem dX1_isBroken_8 : decode cX1_isBroken 8 = .ok (.iaload, 1) := by decide +kernel
theorem dX1_isBroken_9 : decode cX1_isBroken 9 = .ok (.iload_n 2, 1) := by decide +kernel
theorem dX1_isBroken_10 : decode cX1_isBroken 10 = .ok (.iadd, 1) := by decide +kernel
theorem dX1_isBroken_11 : decode cX1_isBroken 11 = .ok (.aload_n 0, 1) := by decide +kernel
theorem dX1_isBroken_12 : decode cX1_isBroken 12 = .ok (.getfield 9, 3) := by decide +kernel
theorem dX1_isBroken_15 : decode cX1_isBroken 15 = .ok (.getfield 25, 3) := by decide +kernel
theorem dX1_isBroken_18 : decode cX1_isBroken 18 = .ok (.iload_n 1, 1) := by decide +kernel
theorem dX1_isBroken_19 : decode cX1_isBroken 19 = .ok (.iaload, 1) := by decide +kernel
theorem dX1_isBroken_20 : decode cX1_isBroken 20 = .ok (.if_icmp .lt 7, 3) := by decide +kernel
theorem dX1_isBroken_23 : decode cX1_isBroken 23 = .ok (.iconst 1, 1) := by decide +kernel
theorem dX1_isBroken_24 : decode cX1_isBroken 24 = .ok (.goto 4, 3) := by decide +kernel
theorem dX1_isBroken_27 : decode cX1_isBroken 27 = .ok (.iconst 0, 1) := by decide +kernel
theorem dX1_isBroken_28 : decode cX1_isBroken 28 = .ok (.ireturn, 1) := by decide +kernel
abbrev rX1_isBroken : Room := { frames := 0, cells := 0, slots := 0, locals := 0 }
set_option maxHeartbeats 4000000 in
set_option maxRecDepth 100000 in
theorem c_X1_isBroken (l : Launch) (D : va_G) (b : Nat) (cs : Cs3) (x1 : Int32) (x2 : Int32) (S S1 : St) (r : Int32) (h : p_X1_isBroken x1 x2 S = some (r, S1)) : Ct l yX1_isBroken cX1_isBroken 3 (some .boolean) rX1_isBroken D b cs [.ref (b + 90), .int x1, .int x2] S (some (.int r)) S1 := by
  refine x_met (by decide +kernel) (Nat.le_of_ble_eq_true rfl) ?_
  intro p e s m below meth c ls hC hr hW hS hl
  have hl : lv_has ls 3 [(0, .ref (b + 90)), (1, .int x1), (2, .int x2)] := hl
  rw [p_X1_isBroken] at h
  refine lv_aload_n hC.1 hC.2.1 dX1_isBroken_0 rfl (lv_at hl 0 rfl) ?_
  refine x_get (C := RX1) (T := TX1) (N := 2) (v := _) hC hW 90 (by decide) rfl rfl uX1 1 (by decide) fl_X1_15 rfl rfl dX1_isBroken_1 ?_
  refine x_get (C := RX8) (T := TX8) (N := 6) (v := _) hC hW 21 (by decide) rfl rfl uX8 1 (by decide) fl_X1_19 rfl rfl dX1_isBroken_4 ?_
  refine lv_iload_n hC.1 hC.2.1 dX1_isBroken_7 rfl (lv_at hl 1 rfl) ?_
  obtain ⟨hi, h⟩ := xg h
  refine x_iald hC hW 23 (by decide) rfl hi dX1_isBroken_8 ?_
  refine lv_iload_n hC.1 hC.2.1 dX1_isBroken_9 rfl (lv_at hl 2 rfl) ?_
  refine lv_iadd hC.1 hC.2.1 dX1_isBroken_10 ?_
  refine lv_aload_n hC.1 hC.2.1 dX1_isBroken_11 rfl (lv_at hl 0 rfl) ?_
  refine x_get (C := RX1) (T := TX1) (N := 2) (v := _) hC hW 90 (by decide) rfl rfl uX1 0 (by decide) fl_X1_9 rfl rfl dX1_isBroken_12 ?_
  refine x_get (C := RX2) (T := TX2) (N := 12) (v := _) hC hW 3 (by decide) rfl rfl uX2 10 (by decide) fl_X1_25 rfl rfl dX1_isBroken_15 ?_
  refine lv_iload_n hC.1 hC.2.1 dX1_isBroken_18 rfl (lv_at hl 1 rfl) ?_
  obtain ⟨hi, h⟩ := xg h
  refine x_iald hC hW 10 (by decide) rfl hi dX1_isBroken_19 ?_
  refine lv_icmp_lt (tgt := 27) hC.1 hC.2.1 dX1_isBroken_20 (by decide) (fun hc => ?_) (fun hc => ?_)
  · replace h := xt hc h
    refine lv_iconst (v := 0) hC.1 hC.2.1 dX1_isBroken_27 (by decide) ?_
    obtain ⟨rfl, rfl⟩ := xr h
    exact x_zret hC hr hW hS (Or.inl rfl) dX1_isBroken_28
  · replace h := xf hc h
    refine lv_iconst (v := 1) hC.1 hC.2.1 dX1_isBroken_23 (by decide) ?_
    refine lv_goto (tgt := 28) hC.1 hC.2.1 dX1_isBroken_24 (by decide) ?_
    obtain ⟨rfl, rfl⟩ := xr h
    exact x_zret hC hr hW hS (Or.inr rfl) dX1_isBroken_28
theorem dX1_unbroken_0 : decode cX1_unbroken 0 = .ok (.iconst 0, 1) := by decide +kernel
theorem dX1_unbroken_1 : decode cX1_unbroken 1 = .ok (.istore_n 1, 1) := by decide +kernel
theorem dX1_unbroken_2 : decode cX1_unbroken 2 = .ok (.iconst 0, 1) := by decide +kernel
theorem dX1_unbroken_3 : decode cX1_unbroken 3 = .ok (.istore_n 2, 1) := by decide +kernel
theorem dX1_unbroken_4 : decode cX1_unbroken 4 = .ok (.iload_n 2, 1) := by decide +kernel
theorem dX1_unbroken_5 : decode cX1_unbroken 5 = .ok (.aload_n 0, 1) := by decide +kernel
theorem dX1_unbroken_6 : decode cX1_unbroken 6 = .ok (.getfield 9, 3) := by decide +kernel
theorem dX1_unbroken_9 : decode cX1_unbroken 9 = .ok (.getfield 30, 3) := by decide +kernel
theorem dX1_unbroken_12 : decode cX1_unbroken 12 = .ok (.if_icmp .ge 21, 3) := by decide +kernel
theorem dX1_unbroken_15 : decode cX1_unbroken 15 = .ok (.aload_n 0, 1) := by decide +kernel
theorem dX1_unbroken_16 : decode cX1_unbroken 16 = .ok (.iload_n 2, 1) := by decide +kernel
theorem dX1_unbroken_17 : decode cX1_unbroken 17 = .ok (.iconst 0, 1) := by decide +kernel
theorem dX1_unbroken_18 : decode cX1_unbroken 18 = .ok (.invokevirtual 34, 3) := by decide +kernel
theorem dX1_unbroken_21 : decode cX1_unbroken 21 = .ok (.ifCond .ne 6, 3) := by decide +kernel
theorem dX1_unbroken_24 : decode cX1_unbroken 24 = .ok (.iinc 1 1, 3) := by decide +kernel
theorem dX1_unbroken_27 : decode cX1_unbroken 27 = .ok (.iinc 2 1, 3) := by decide +kernel
theorem dX1_unbroken_30 : decode cX1_unbroken 30 = .ok (.goto (-26), 3) := by decide +kernel
theorem dX1_unbroken_33 : decode cX1_unbroken 33 = .ok (.iload_n 1, 1) := by decide +kernel
theorem dX1_unbroken_34 : decode cX1_unbroken 34 = .ok (.ireturn, 1) := by decide +kernel
abbrev rX1_unbroken : Room := { frames := 1, cells := 0, slots := 0, locals := 22 }
set_option maxHeartbeats 4000000 in
set_option maxRecDepth 100000 in
theorem w_X1_unbroken_4 {p : Program} {l : Launch} {e : Env} {s : State} {m : MethodId} {args : Array Value} {below : List Frame} {meth : Method} {c : Code} {D : va_G} {b : Nat} {cs : Cs3} {r : Int32} {S1 : St} (hC : CX p s m args meth c RX1 cX1_unbroken 3 D cs) (hr : meth.sig.returnType = (some .int)) : ∀ (n : Nat) (x1 : Int32) (x2 : Int32) (S : St) (H : Heap) (locs : List Loc) (ls : Array Slot), q_X1_unbroken_4 n x1 x2 S = some (r, S1) → Wd D b cs S H → va_S (AA b) s.heap H locs → lv_has ls 3 [(0, .ref (b + 90)), (1, .int x1), (2, .int x2)] → W p l e rX1_unbroken s m args below meth c H locs 0 0 (MQ below (QX D b cs (some (.int r)) S1) args s 0 0 (AA b)) (F0 m 4 ls []) := by
  intro n
  induction n with
  | zero =>
    intro x1 x2 S H locs ls h
    exact absurd h (by rw [q_X1_unbroken_4]; exact fun q => nomatch q)
  | succ n IH =>
    intro x1 x2 S H locs ls h hW hS hl
    rw [q_X1_unbroken_4] at h
    refine lv_iload_n hC.1 hC.2.1 dX1_unbroken_4 rfl (lv_at hl 2 rfl) ?_
    refine lv_aload_n hC.1 hC.2.1 dX1_unbroken_5 rfl (lv_at hl 0 rfl) ?_
    refine x_get (C := RX1) (T := TX1) (N := 2) (v := _) hC hW 90 (by decide) rfl rfl uX1 0 (by decide) fl_X1_9 rfl rfl dX1_unbroken_6 ?_
    refine x_get (C := RX2) (T := TX2) (N := 12) (v := _) hC hW 3 (by decide) rfl rfl uX2 2 (by decide) fl_X1_30 rfl rfl dX1_unbroken_9 ?_
    refine lv_icmp_ge (tgt := 33) hC.1 hC.2.1 dX1_unbroken_12 (by decide) (fun hc => ?_) (fun hc => ?_)
    · replace h := xt hc h
      refine lv_iload_n hC.1 hC.2.1 dX1_unbroken_33 rfl (lv_at hl 1 rfl) ?_
      obtain ⟨rfl, rfl⟩ := xr h
      exact x_iret hC hr hW hS dX1_unbroken_34
    · replace h := xf hc h
      refine lv_aload_n hC.1 hC.2.1 dX1_unbroken_15 rfl (lv_at hl 0 rfl) ?_
      refine lv_iload_n hC.1 hC.2.1 dX1_unbroken_16 rfl (lv_at hl 2 rfl) ?_
      refine lv_iconst (v := 0) hC.1 hC.2.1 dX1_unbroken_17 (by decide) ?_
      obtain ⟨⟨q18_r, q18_S⟩, hq, h⟩ := xb h
      try dsimp only at h
      refine x_callV (T := TX1) (N := 2) (As := [.int x2, .int (0 : Int32)]) (rest := []) hC hW hS 90 (c_X1_isBroken l D b cs _ _ _ _ _ hq) (by decide) rfl rfl mi_X1_isBroken in_X1_isBroken sl_X1_isBroken ml_X1_34 ⟨rfl, rfl⟩ ⟨Nat.le_of_ble_eq_true rfl, Nat.le_of_ble_eq_true rfl⟩ ⟨Nat.zero_le _, Nat.zero_le _⟩ rfl rfl hl.1 (Nat.le_of_ble_eq_true rfl) dX1_unbroken_18 (fun H locs hW hS => ?_)
      refine lv_if_ne (tgt := 27) hC.1 hC.2.1 dX1_unbroken_21 (by decide) (fun hc => ?_) (fun hc => ?_)
      · replace h := xf hc h
        refine lv_iinc (v := x2 + 1) (lv' := [(2, .int (x2 + 1)), (0, .ref (b + 90)), (1, .int x1)]) hC.1 hC.2.1 dX1_unbroken_27 hl (k := 2) rfl rfl (by decide) rfl (fun ls hl => ?_)
        refine lv_goto (tgt := 4) hC.1 hC.2.1 dX1_unbroken_30 (by decide) ?_
        exact IH _ _ _ _ _ _ h hW hS (lv_sub hl [1, 2, 0] rfl)
      · replace h := xt hc h
        refine lv_iinc (v := x1 + 1) (lv' := [(1, .int (x1 + 1)), (0, .ref (b + 90)), (2, .int x2)]) hC.1 hC.2.1 dX1_unbroken_24 hl (k := 1) rfl rfl (by decide) rfl (fun ls hl => ?_)
        refine lv_iinc (v := x2 + 1) (lv' := [(2, .int (x2 + 1)), (1, .int (x1 + 1)), (0, .ref (b + 90))]) hC.1 hC.2.1 dX1_unbroken_27 hl (k := 2) rfl rfl (by decide) rfl (fun ls hl => ?_)
        refine lv_goto (tgt := 4) hC.1 hC.2.1 dX1_unbroken_30 (by decide) ?_
        exact IH _ _ _ _ _ _ h hW hS (lv_sub hl [2, 1, 0] rfl)
set_option maxHeartbeats 4000000 in
set_option maxRecDepth 100000 in
theorem c_X1_unbroken (l : Launch) (D : va_G) (b : Nat) (cs : Cs3) (S S1 : St) (r : Int32) (h : p_X1_unbroken S = some (r, S1)) : Ct l yX1_unbroken cX1_unbroken 3 (some .int) rX1_unbroken D b cs [.ref (b + 90)] S (some (.int r)) S1 := by
  refine x_met (by decide +kernel) (Nat.le_of_ble_eq_true rfl) ?_
  intro p e s m below meth c ls hC hr hW hS hl
  have hl : lv_has ls 3 [(0, .ref (b + 90))] := hl
  rw [p_X1_unbroken] at h
  refine lv_iconst (v := 0) hC.1 hC.2.1 dX1_unbroken_0 (by decide) ?_
  refine lv_istore_n (lv' := [(1, .int (0 : Int32)), (0, .ref (b + 90))]) hC.1 hC.2.1 dX1_unbroken_1 rfl hl (by decide) rfl (fun ls hl => ?_)
  refine lv_iconst (v := 0) hC.1 hC.2.1 dX1_unbroken_2 (by decide) ?_
  refine lv_istore_n (lv' := [(2, .int (0 : Int32)), (1, .int (0 : Int32)), (0, .ref (b + 90))]) hC.1 hC.2.1 dX1_unbroken_3 rfl hl (by decide) rfl (fun ls hl => ?_)
  exact w_X1_unbroken_4 hC hr _ _ _ _ _ _ _ h hW hS (lv_sub hl [2, 1, 0] rfl)
theorem dX1_lowest_0 : decode cX1_lowest 0 = .ok (.aload_n 0, 1) := by decide +kernel
theorem dX1_lowest_1 : decode cX1_lowest 1 = .ok (.getfield 9, 3) := by decide +kernel
theorem dX1_lowest_4 : decode cX1_lowest 4 = .ok (.getfield 38, 3) := by decide +kernel
theorem dX1_lowest_7 : decode cX1_lowest 7 = .ok (.iload_n 1, 1) := by decide +kernel
theorem dX1_lowest_8 : decode cX1_lowest 8 = .ok (.iaload, 1) := by decide +kernel
theorem dX1_lowest_9 : decode cX1_lowest 9 = .ok (.aload_n 0, 1) := by decide +kernel
theorem dX1_lowest_10 : decode cX1_lowest 10 = .ok (.iload_n 1, 1) := by decide +kernel
theorem dX1_lowest_11 : decode cX1_lowest 11 = .ok (.iload_n 2, 1) := by decide +kernel
theorem dX1_lowest_12 : decode cX1_lowest 12 = .ok (.invokevirtual 34, 3) := by decide +kernel
theorem dX1_lowest_15 : decode cX1_lowest 15 = .ok (.ifCond .eq 8, 3) := by decide +kernel
theorem dX1_lowest_18 : decode cX1_lowest 18 = .ok (.bipush 12, 2) := by decide +kernel
theorem dX1_lowest_20 : decode cX1_lowest 20 = .ok (.goto 4, 3) := by decide +kernel
theorem dX1_lowest_23 : decode cX1_lowest 23 = .ok (.iconst 0, 1) := by decide +kernel
theorem dX1_lowest_24 : decode cX1_lowest 24 = .ok (.isub, 1) := by decide +kernel
theorem dX1_lowest_25 : decode cX1_lowest 25 = .ok (.ireturn, 1) := by decide +kernel
abbrev rX1_lowest : Room := { frames := 1, cells := 0, slots := 0, locals := 22 }
set_option maxHeartbeats 4000000 in
set_option maxRecDepth 100000 in
theorem c_X1_lowest (l : Launch) (D : va_G) (b : Nat) (cs : Cs3) (x1 : Int32) (x2 : Int32) (S S1 : St) (r : Int32) (h : p_X1_lowest x1 x2 S = some (r, S1)) : Ct l yX1_lowest cX1_lowest 3 (some .int) rX1_lowest D b cs [.ref (b + 90), .int x1, .int x2] S (some (.int r)) S1 := by
  refine x_met (by decide +kernel) (Nat.le_of_ble_eq_true rfl) ?_
  intro p e s m below meth c ls hC hr hW hS hl
  have hl : lv_has ls 3 [(0, .ref (b + 90)), (1, .int x1), (2, .int x2)] := hl
  rw [p_X1_lowest] at h
  refine lv_aload_n hC.1 hC.2.1 dX1_lowest_0 rfl (lv_at hl 0 rfl) ?_
  refine x_get (C := RX1) (T := TX1) (N := 2) (v := _) hC hW 90 (by decide) rfl rfl uX1 0 (by decide) fl_X1_9 rfl rfl dX1_lowest_1 ?_
  refine x_get (C := RX2) (T := TX2) (N := 12) (v := _) hC hW 3 (by decide) rfl rfl uX2 7 (by decide) fl_X1_38 rfl rfl dX1_lowest_4 ?_
  refine lv_iload_n hC.1 hC.2.1 dX1_lowest_7 rfl (lv_at hl 1 rfl) ?_
  obtain ⟨hi, h⟩ := xg h
  refine x_iald hC hW 7 (by decide) rfl hi dX1_lowest_8 ?_
  refine lv_aload_n hC.1 hC.2.1 dX1_lowest_9 rfl (lv_at hl 0 rfl) ?_
  refine lv_iload_n hC.1 hC.2.1 dX1_lowest_10 rfl (lv_at hl 1 rfl) ?_
  refine lv_iload_n hC.1 hC.2.1 dX1_lowest_11 rfl (lv_at hl 2 rfl) ?_
  obtain ⟨⟨q12_r, q12_S⟩, hq, h⟩ := xb h
  try dsimp only at h
  refine x_callV (T := TX1) (N := 2) (As := [.int x1, .int x2]) (rest := [.int (S.1 7 x1.toNatClampNeg)]) hC hW hS 90 (c_X1_isBroken l D b cs _ _ _ _ _ hq) (by decide) rfl rfl mi_X1_isBroken in_X1_isBroken sl_X1_isBroken ml_X1_34 ⟨rfl, rfl⟩ ⟨Nat.le_of_ble_eq_true rfl, Nat.le_of_ble_eq_true rfl⟩ ⟨Nat.zero_le _, Nat.zero_le _⟩ rfl rfl hl.1 (Nat.le_of_ble_eq_true rfl) dX1_lowest_12 (fun H locs hW hS => ?_)
  refine lv_if_eq (tgt := 23) hC.1 hC.2.1 dX1_lowest_15 (by decide) (fun hc => ?_) (fun hc => ?_)
  · replace h := xt hc h
    refine lv_iconst (v := 0) hC.1 hC.2.1 dX1_lowest_23 (by decide) ?_
    refine lv_isub hC.1 hC.2.1 dX1_lowest_24 ?_
    obtain ⟨rfl, rfl⟩ := xr h
    exact x_iret hC hr hW hS dX1_lowest_25
  · replace h := xf hc h
    refine lv_bipush (v := 12) hC.1 hC.2.1 dX1_lowest_18 (by decide) ?_
    refine lv_goto (tgt := 24) hC.1 hC.2.1 dX1_lowest_20 (by decide) ?_
    refine lv_isub hC.1 hC.2.1 dX1_lowest_24 ?_
    obtain ⟨rfl, rfl⟩ := xr h
    exact x_iret hC hr hW hS dX1_lowest_25
theorem dX1_highest_0 : decode cX1_highest 0 = .ok (.iload_n 2, 1) := by decide +kernel
theorem dX1_highest_1 : decode cX1_highest 1 = .ok (.ifCond .ne 15, 3) := by decide +kernel
theorem dX1_highest_4 : decode cX1_highest 4 = .ok (.aload_n 0, 1) := by decide +kernel
theorem dX1_highest_5 : decode cX1_highest 5 = .ok (.getfield 15, 3) := by decide +kernel
theorem dX1_highest_8 : decode cX1_highest 8 = .ok (.getfield 41, 3) := by decide +kernel
theorem dX1_highest_11 : decode cX1_highest 11 = .ok (.iload_n 1, 1) := by decide +kernel
theorem dX1_highest_12 : decode cX1_highest 12 = .ok (.iaload, 1) := by decide +kernel
theorem dX1_highest_13 : decode cX1_highest 13 = .ok (.goto 4, 3) := by decide +kernel
theorem dX1_highest_16 : decode cX1_highest 16 = .ok (.iconst 0, 1) := by decide +kernel
theorem dX1_highest_17 : decode cX1_highest 17 = .ok (.istore_n 3, 1) := by decide +kernel
theorem dX1_highest_18 : decode cX1_highest 18 = .ok (.aload_n 0, 1) := by decide +kernel
theorem dX1_highest_19 : decode cX1_highest 19 = .ok (.getfield 9, 3) := by decide +kernel
theorem dX1_highest_22 : decode cX1_highest 22 = .ok (.getfield 44, 3) := by decide +kernel
theorem dX1_highest_25 : decode cX1_highest 25 = .ok (.iload_n 1, 1) := by decide +kernel
theorem dX1_highest_26 : decode cX1_highest 26 = .ok (.iaload, 1) := by decide +kernel
theorem dX1_highest_27 : decode cX1_highest 27 = .ok (.aload_n 0, 1) := by decide +kernel
theorem dX1_highest_28 : decode cX1_highest 28 = .ok (.iload_n 1, 1) := by decide +kernel
theorem dX1_highest_29 : decode cX1_highest 29 = .ok (.iload_n 2, 1) := by decide +kernel
theorem dX1_highest_30 : decode cX1_highest 30 = .ok (.invokevirtual 34, 3) := by decide +kernel
theorem dX1_highest_33 : decode cX1_highest 33 = .ok (.ifCond .eq 8, 3) := by decide +kernel
theorem dX1_highest_36 : decode cX1_highest 36 = .ok (.bipush 12, 2) := by decide +kernel
theorem dX1_highest_38 : decode cX1_highest 38 = .ok (.goto 4, 3) := by decide +kernel
theorem dX1_highest_41 : decode cX1_highest 41 = .ok (.iconst 0, 1) := by decide +kernel
theorem dX1_highest_42 : decode cX1_highest 42 = .ok (.isub, 1) := by decide +kernel
theorem dX1_highest_43 : decode cX1_highest 43 = .ok (.iload_n 3, 1) := by decide +kernel
theorem dX1_highest_44 : decode cX1_highest 44 = .ok (.isub, 1) := by decide +kernel
theorem dX1_highest_45 : decode cX1_highest 45 = .ok (.ireturn, 1) := by decide +kernel
abbrev rX1_highest : Room := { frames := 1, cells := 0, slots := 0, locals := 22 }
set_option maxHeartbeats 4000000 in
set_option maxRecDepth 100000 in
theorem w_X1_highest_17 {p : Program} {l : Launch} {e : Env} {s : State} {m : MethodId} {args : Array Value} {below : List Frame} {meth : Method} {c : Code} {D : va_G} {b : Nat} {cs : Cs3} {r : Int32} {S1 : St} (hC : CX p s m args meth c RX1 cX1_highest 4 D cs) (hr : meth.sig.returnType = (some .int)) : ∀ (x1 : Int32) (x2 : Int32) (y0 : Int32) (S : St) (H : Heap) (locs : List Loc) (ls : Array Slot), q_X1_highest_17 x1 x2 y0 S = some (r, S1) → Wd D b cs S H → va_S (AA b) s.heap H locs → lv_has ls 4 [(0, .ref (b + 90)), (1, .int x1), (2, .int x2)] → W p l e rX1_highest s m args below meth c H locs 0 0 (MQ below (QX D b cs (some (.int r)) S1) args s 0 0 (AA b)) (F0 m 17 ls [.int y0]) := by
  intro x1 x2 y0 S H locs ls h hW hS hl
  rw [q_X1_highest_17] at h
  refine lv_istore_n (lv' := [(3, .int y0), (0, .ref (b + 90)), (1, .int x1), (2, .int x2)]) hC.1 hC.2.1 dX1_highest_17 rfl hl (by decide) rfl (fun ls hl => ?_)
  refine lv_aload_n hC.1 hC.2.1 dX1_highest_18 rfl (lv_at hl 1 rfl) ?_
  refine x_get (C := RX1) (T := TX1) (N := 2) (v := _) hC hW 90 (by decide) rfl rfl uX1 0 (by decide) fl_X1_9 rfl rfl dX1_highest_19 ?_
  refine x_get (C := RX2) (T := TX2) (N := 12) (v := _) hC hW 3 (by decide) rfl rfl uX2 8 (by decide) fl_X1_44 rfl rfl dX1_highest_22 ?_
  refine lv_iload_n hC.1 hC.2.1 dX1_highest_25 rfl (lv_at hl 2 rfl) ?_
  obtain ⟨hi, h⟩ := xg h
  refine x_iald hC hW 8 (by decide) rfl hi dX1_highest_26 ?_
  refine lv_aload_n hC.1 hC.2.1 dX1_highest_27 rfl (lv_at hl 1 rfl) ?_
  refine lv_iload_n hC.1 hC.2.1 dX1_highest_28 rfl (lv_at hl 2 rfl) ?_
  refine lv_iload_n hC.1 hC.2.1 dX1_highest_29 rfl (lv_at hl 3 rfl) ?_
  obtain ⟨⟨q30_r, q30_S⟩, hq, h⟩ := xb h
  try dsimp only at h
  refine x_callV (T := TX1) (N := 2) (As := [.int x1, .int x2]) (rest := [.int (S.1 8 x1.toNatClampNeg)]) hC hW hS 90 (c_X1_isBroken l D b cs _ _ _ _ _ hq) (by decide) rfl rfl mi_X1_isBroken in_X1_isBroken sl_X1_isBroken ml_X1_34 ⟨rfl, rfl⟩ ⟨Nat.le_of_ble_eq_true rfl, Nat.le_of_ble_eq_true rfl⟩ ⟨Nat.zero_le _, Nat.zero_le _⟩ rfl rfl hl.1 (Nat.le_of_ble_eq_true rfl) dX1_highest_30 (fun H locs hW hS => ?_)
  refine lv_if_eq (tgt := 41) hC.1 hC.2.1 dX1_highest_33 (by decide) (fun hc => ?_) (fun hc => ?_)
  · replace h := xt hc h
    refine lv_iconst (v := 0) hC.1 hC.2.1 dX1_highest_41 (by decide) ?_
    refine lv_isub hC.1 hC.2.1 dX1_highest_42 ?_
    refine lv_iload_n hC.1 hC.2.1 dX1_highest_43 rfl (lv_at hl 0 rfl) ?_
    refine lv_isub hC.1 hC.2.1 dX1_highest_44 ?_
    obtain ⟨rfl, rfl⟩ := xr h
    exact x_iret hC hr hW hS dX1_highest_45
  · replace h := xf hc h
    refine lv_bipush (v := 12) hC.1 hC.2.1 dX1_highest_36 (by decide) ?_
    refine lv_goto (tgt := 42) hC.1 hC.2.1 dX1_highest_38 (by decide) ?_
    refine lv_isub hC.1 hC.2.1 dX1_highest_42 ?_
    refine lv_iload_n hC.1 hC.2.1 dX1_highest_43 rfl (lv_at hl 0 rfl) ?_
    refine lv_isub hC.1 hC.2.1 dX1_highest_44 ?_
    obtain ⟨rfl, rfl⟩ := xr h
    exact x_iret hC hr hW hS dX1_highest_45
set_option maxHeartbeats 4000000 in
set_option maxRecDepth 100000 in
theorem c_X1_highest (l : Launch) (D : va_G) (b : Nat) (cs : Cs3) (x1 : Int32) (x2 : Int32) (S S1 : St) (r : Int32) (h : p_X1_highest x1 x2 S = some (r, S1)) : Ct l yX1_highest cX1_highest 4 (some .int) rX1_highest D b cs [.ref (b + 90), .int x1, .int x2] S (some (.int r)) S1 := by
  refine x_met (by decide +kernel) (Nat.le_of_ble_eq_true rfl) ?_
  intro p e s m below meth c ls hC hr hW hS hl
  have hl : lv_has ls 4 [(0, .ref (b + 90)), (1, .int x1), (2, .int x2)] := hl
  rw [p_X1_highest] at h
  refine lv_iload_n hC.1 hC.2.1 dX1_highest_0 rfl (lv_at hl 2 rfl) ?_
  refine lv_if_ne (tgt := 16) hC.1 hC.2.1 dX1_highest_1 (by decide) (fun hc => ?_) (fun hc => ?_)
  · replace h := xf hc h
    refine lv_iconst (v := 0) hC.1 hC.2.1 dX1_highest_16 (by decide) ?_
    exact w_X1_highest_17 hC hr _ _ _ _ _ _ _ h hW hS (lv_sub hl [0, 1, 2] rfl)
  · replace h := xt hc h
    refine lv_aload_n hC.1 hC.2.1 dX1_highest_4 rfl (lv_at hl 0 rfl) ?_
    refine x_get (C := RX1) (T := TX1) (N := 2) (v := _) hC hW 90 (by decide) rfl rfl uX1 1 (by decide) fl_X1_15 rfl rfl dX1_highest_5 ?_
    refine x_get (C := RX8) (T := TX8) (N := 6) (v := _) hC hW 21 (by decide) rfl rfl uX8 2 (by decide) fl_X1_41 rfl rfl dX1_highest_8 ?_
    refine lv_iload_n hC.1 hC.2.1 dX1_highest_11 rfl (lv_at hl 1 rfl) ?_
    obtain ⟨hi, h⟩ := xg h
    refine x_iald hC hW 24 (by decide) rfl hi dX1_highest_12 ?_
    refine lv_goto (tgt := 17) hC.1 hC.2.1 dX1_highest_13 (by decide) ?_
    exact w_X1_highest_17 hC hr _ _ _ _ _ _ _ h hW hS (lv_sub hl [0, 1, 2] rfl)
theorem dX9_within_0 : decode cX9_within 0 = .ok (.iload_n 0, 1) := by decide +kernel
theorem dX9_within_1 : decode cX9_within 1 = .ok (.iload_n 1, 1) := by decide +kernel
theorem dX9_within_2 : decode cX9_within 2 = .ok (.if_icmp .lt 12, 3) := by decide +kernel
theorem dX9_within_5 : decode cX9_within 5 = .ok (.iload_n 0, 1) := by decide +kernel
theorem dX9_within_6 : decode cX9_within 6 = .ok (.iload_n 2, 1) := by decide +kernel
theorem dX9_within_7 : decode cX9_within 7 = .ok (.if_icmp .gt 7, 3) := by decide +kernel
theorem dX9_within_10 : decode cX9_within 10 = .ok (.iconst 1, 1) := by decide +kernel
theorem dX9_within_11 : decode cX9_within 11 = .ok (.goto 4, 3) := by decide +kernel
theorem dX9_within_14 : decode cX9_within 14 = .ok (.iconst 0, 1) := by decide +kernel
theorem dX9_within_15 : decode cX9_within 15 = .ok (.ireturn, 1) := by decide +kernel
abbrev rX9_within : Room := { frames := 0, cells := 0, slots := 0, locals := 0 }
set_option maxHeartbeats 4000000 in
set_option maxRecDepth 100000 in
theorem c_X9_within (l : Launch) (D : va_G) (b : Nat) (cs : Cs3) (x0 : Int32) (x1 : Int32) (x2 : Int32) (S S1 : St) (r : Int32) (h : p_X9_within x0 x1 x2 S = some (r, S1)) : Ct l yX9_within cX9_within 3 (some .boolean) rX9_within D b cs [.int x0, .int x1, .int x2] S (some (.int r)) S1 := by
  refine x_met (by decide +kernel) (Nat.le_of_ble_eq_true rfl) ?_
  intro p e s m below meth c ls hC hr hW hS hl
  have hl : lv_has ls 3 [(0, .int x0), (1, .int x1), (2, .int x2)] := hl
  rw [p_X9_within] at h
  refine lv_iload_n hC.1 hC.2.1 dX9_within_0 rfl (lv_at hl 0 rfl) ?_
  refine lv_iload_n hC.1 hC.2.1 dX9_within_1 rfl (lv_at hl 1 rfl) ?_
  refine lv_icmp_lt (tgt := 14) hC.1 hC.2.1 dX9_within_2 (by decide) (fun hc => ?_) (fun hc => ?_)
  · replace h := xt hc h
    refine lv_iconst (v := 0) hC.1 hC.2.1 dX9_within_14 (by decide) ?_
    obtain ⟨rfl, rfl⟩ := xr h
    exact x_zret hC hr hW hS (Or.inl rfl) dX9_within_15
  · replace h := xf hc h
    refine lv_iload_n hC.1 hC.2.1 dX9_within_5 rfl (lv_at hl 0 rfl) ?_
    refine lv_iload_n hC.1 hC.2.1 dX9_within_6 rfl (lv_at hl 2 rfl) ?_
    refine lv_icmp_gt (tgt := 14) hC.1 hC.2.1 dX9_within_7 (by decide) (fun hc => ?_) (fun hc => ?_)
    · replace h := xt hc h
      refine lv_iconst (v := 0) hC.1 hC.2.1 dX9_within_14 (by decide) ?_
      obtain ⟨rfl, rfl⟩ := xr h
      exact x_zret hC hr hW hS (Or.inl rfl) dX9_within_15
    · replace h := xf hc h
      refine lv_iconst (v := 1) hC.1 hC.2.1 dX9_within_10 (by decide) ?_
      refine lv_goto (tgt := 15) hC.1 hC.2.1 dX9_within_11 (by decide) ?_
      obtain ⟨rfl, rfl⟩ := xr h
      exact x_zret hC hr hW hS (Or.inr rfl) dX9_within_15
theorem dX1_sings_0 : decode cX1_sings 0 = .ok (.iload_n 2, 1) := by decide +kernel
theorem dX1_sings_1 : decode cX1_sings 1 = .ok (.aload_n 0, 1) := by decide +kernel
theorem dX1_sings_2 : decode cX1_sings 2 = .ok (.iload_n 1, 1) := by decide +kernel
theorem dX1_sings_3 : decode cX1_sings 3 = .ok (.iconst 0, 1) := by decide +kernel
theorem dX1_sings_4 : decode cX1_sings 4 = .ok (.invokevirtual 47, 3) := by decide +kernel
theorem dX1_sings_7 : decode cX1_sings 7 = .ok (.aload_n 0, 1) := by decide +kernel
theorem dX1_sings_8 : decode cX1_sings 8 = .ok (.iload_n 1, 1) := by decide +kernel
theorem dX1_sings_9 : decode cX1_sings 9 = .ok (.iconst 0, 1) := by decide +kernel
theorem dX1_sings_10 : decode cX1_sings 10 = .ok (.invokevirtual 51, 3) := by decide +kernel
theorem dX1_sings_13 : decode cX1_sings 13 = .ok (.invokestatic 54, 3) := by decide +kernel
theorem dX1_sings_16 : decode cX1_sings 16 = .ok (.ireturn, 1) := by decide +kernel
abbrev rX1_sings : Room := { frames := 2, cells := 0, slots := 0, locals := 45 }
set_option maxHeartbeats 4000000 in
set_option maxRecDepth 100000 in
theorem c_X1_sings (l : Launch) (D : va_G) (b : Nat) (cs : Cs3) (x1 : Int32) (x2 : Int32) (S S1 : St) (r : Int32) (h : p_X1_sings x1 x2 S = some (r, S1)) : Ct l yX1_sings cX1_sings 3 (some .boolean) rX1_sings D b cs [.ref (b + 90), .int x1, .int x2] S (some (.int r)) S1 := by
  refine x_met (by decide +kernel) (Nat.le_of_ble_eq_true rfl) ?_
  intro p e s m below meth c ls hC hr hW hS hl
  have hl : lv_has ls 3 [(0, .ref (b + 90)), (1, .int x1), (2, .int x2)] := hl
  rw [p_X1_sings] at h
  refine lv_iload_n hC.1 hC.2.1 dX1_sings_0 rfl (lv_at hl 2 rfl) ?_
  refine lv_aload_n hC.1 hC.2.1 dX1_sings_1 rfl (lv_at hl 0 rfl) ?_
  refine lv_iload_n hC.1 hC.2.1 dX1_sings_2 rfl (lv_at hl 1 rfl) ?_
  refine lv_iconst (v := 0) hC.1 hC.2.1 dX1_sings_3 (by decide) ?_
  obtain ⟨⟨q4_r, q4_S⟩, hq, h⟩ := xb h
  try dsimp only at h
  refine x_callV (T := TX1) (N := 2) (As := [.int x1, .int (0 : Int32)]) (rest := [.int x2]) hC hW hS 90 (c_X1_lowest l D b cs _ _ _ _ _ hq) (by decide) rfl rfl mi_X1_lowest in_X1_lowest sl_X1_lowest ml_X1_47 ⟨rfl, rfl⟩ ⟨Nat.le_of_ble_eq_true rfl, Nat.le_of_ble_eq_true rfl⟩ ⟨Nat.zero_le _, Nat.zero_le _⟩ rfl rfl hl.1 (Nat.le_of_ble_eq_true rfl) dX1_sings_4 (fun H locs hW hS => ?_)
  refine lv_aload_n hC.1 hC.2.1 dX1_sings_7 rfl (lv_at hl 0 rfl) ?_
  refine lv_iload_n hC.1 hC.2.1 dX1_sings_8 rfl (lv_at hl 1 rfl) ?_
  refine lv_iconst (v := 0) hC.1 hC.2.1 dX1_sings_9 (by decide) ?_
  obtain ⟨⟨q10_r, q10_S⟩, hq, h⟩ := xb h
  try dsimp only at h
  refine x_callV (T := TX1) (N := 2) (As := [.int x1, .int (0 : Int32)]) (rest := [.int q4_r, .int x2]) hC hW hS 90 (c_X1_highest l D b cs _ _ _ _ _ hq) (by decide) rfl rfl mi_X1_highest in_X1_highest sl_X1_highest ml_X1_51 ⟨rfl, rfl⟩ ⟨Nat.le_of_ble_eq_true rfl, Nat.le_of_ble_eq_true rfl⟩ ⟨Nat.zero_le _, Nat.zero_le _⟩ rfl rfl hl.1 (Nat.le_of_ble_eq_true rfl) dX1_sings_10 (fun H locs hW hS => ?_)
  obtain ⟨⟨q13_r, q13_S⟩, hq, h⟩ := xb h
  try dsimp only at h
  refine x_callSN (As := [.int x2, .int q4_r, .int q10_r]) (rest := []) hC hW hS (c_X9_within l D b cs _ _ _ _ _ _ hq) mi_X9_within st_X9_within ml_X1_54 ⟨rfl, rfl⟩ ⟨Nat.le_of_ble_eq_true rfl, Nat.le_of_ble_eq_true rfl⟩ ⟨Nat.zero_le _, Nat.zero_le _⟩ rfl rfl hl.1 (Nat.le_of_ble_eq_true rfl) dX1_sings_13 (fun H locs hW hS => ?_)
  obtain ⟨hv, h⟩ := xg h
  obtain ⟨rfl, rfl⟩ := xr h
  exact x_zret hC hr hW hS hv dX1_sings_16
theorem dX1_keys_0 : decode cX1_keys 0 = .ok (.aload_n 0, 1) := by decide +kernel
theorem dX1_keys_1 : decode cX1_keys 1 = .ok (.iload_n 1, 1) := by decide +kernel
theorem dX1_keys_2 : decode cX1_keys 2 = .ok (.iload_n 2, 1) := by decide +kernel
theorem dX1_keys_3 : decode cX1_keys 3 = .ok (.invokevirtual 47, 3) := by decide +kernel
theorem dX1_keys_6 : decode cX1_keys 6 = .ok (.istore_n 3, 1) := by decide +kernel
theorem dX1_keys_7 : decode cX1_keys 7 = .ok (.aload_n 0, 1) := by decide +kernel
theorem dX1_keys_8 : decode cX1_keys 8 = .ok (.iload_n 1, 1) := by decide +kernel
theorem dX1_keys_9 : decode cX1_keys 9 = .ok (.iload_n 2, 1) := by decide +kernel
theorem dX1_keys_10 : decode cX1_keys 10 = .ok (.invokevirtual 51, 3) := by decide +kernel
theorem dX1_keys_13 : decode cX1_keys 13 = .ok (.istore 4, 2) := by decide +kernel
theorem dX1_keys_15 : decode cX1_keys 15 = .ok (.aload_n 0, 1) := by decide +kernel
theorem dX1_keys_16 : decode cX1_keys 16 = .ok (.getfield 15, 3) := by decide +kernel
theorem dX1_keys_19 : decode cX1_keys 19 = .ok (.getfield 58, 3) := by decide +kernel
theorem dX1_keys_22 : decode cX1_keys 22 = .ok (.istore 5, 2) := by decide +kernel
theorem dX1_keys_24 : decode cX1_keys 24 = .ok (.iconst 0, 1) := by decide +kernel
theorem dX1_keys_25 : decode cX1_keys 25 = .ok (.istore 6, 2) := by decide +kernel
theorem dX1_keys_27 : decode cX1_keys 27 = .ok (.iload 6, 2) := by decide +kernel
theorem dX1_keys_29 : decode cX1_keys 29 = .ok (.aload_n 0, 1) := by decide +kernel
theorem dX1_keys_30 : decode cX1_keys 30 = .ok (.getfield 9, 3) := by decide +kernel
theorem dX1_keys_33 : decode cX1_keys 33 = .ok (.getfield 61, 3) := by decide +kernel
theorem dX1_keys_36 : decode cX1_keys 36 = .ok (.if_icmp .ge 37, 3) := by decide +kernel
theorem dX1_keys_39 : decode cX1_keys 39 = .ok (.aload_n 0, 1) := by decide +kernel
theorem dX1_keys_40 : decode cX1_keys 40 = .ok (.getfield 15, 3) := by decide +kernel
theorem dX1_keys_43 : decode cX1_keys 43 = .ok (.getfield 64, 3) := by decide +kernel
theorem dX1_keys_46 : decode cX1_keys 46 = .ok (.iload 6, 2) := by decide +kernel
theorem dX1_keys_48 : decode cX1_keys 48 = .ok (.iaload, 1) := by decide +kernel
theorem dX1_keys_49 : decode cX1_keys 49 = .ok (.iload_n 3, 1) := by decide +kernel
theorem dX1_keys_50 : decode cX1_keys 50 = .ok (.iload 4, 2) := by decide +kernel
theorem dX1_keys_52 : decode cX1_keys 52 = .ok (.invokestatic 54, 3) := by decide +kernel
theorem dX1_keys_55 : decode cX1_keys 55 = .ok (.ifCond .eq 12, 3) := by decide +kernel
theorem dX1_keys_58 : decode cX1_keys 58 = .ok (.iload 5, 2) := by decide +kernel
theorem dX1_keys_60 : decode cX1_keys 60 = .ok (.iconst 1, 1) := by decide +kernel
theorem dX1_keys_61 : decode cX1_keys 61 = .ok (.iload 6, 2) := by decide +kernel
theorem dX1_keys_63 : decode cX1_keys 63 = .ok (.ishl, 1) := by decide +kernel
theorem dX1_keys_64 : decode cX1_keys 64 = .ok (.ior, 1) := by decide +kernel
theorem dX1_keys_65 : decode cX1_keys 65 = .ok (.istore 5, 2) := by decide +kernel
theorem dX1_keys_67 : decode cX1_keys 67 = .ok (.iinc 6 1, 3) := by decide +kernel
theorem dX1_keys_70 : decode cX1_keys 70 = .ok (.goto (-43), 3) := by decide +kernel
theorem dX1_keys_73 : decode cX1_keys 73 = .ok (.iload 5, 2) := by decide +kernel
theorem dX1_keys_75 : decode cX1_keys 75 = .ok (.ireturn, 1) := by decide +kernel
abbrev rX1_keys : Room := { frames := 2, cells := 0, slots := 0, locals := 45 }
set_option maxHeartbeats 4000000 in
set_option maxRecDepth 100000 in
theorem w_X1_keys_27 {p : Program} {l : Launch} {e : Env} {s : State} {m : MethodId} {args : Array Value} {below : List Frame} {meth : Method} {c : Code} {D : va_G} {b : Nat} {cs : Cs3} {r : Int32} {S1 : St} (hC : CX p s m args meth c RX1 cX1_keys 7 D cs) (hr : meth.sig.returnType = (some .int)) : ∀ (n : Nat) (x3 : Int32) (x4 : Int32) (x5 : Int32) (x6 : Int32) (S : St) (H : Heap) (locs : List Loc) (ls : Array Slot), q_X1_keys_27 n x3 x4 x5 x6 S = some (r, S1) → Wd D b cs S H → va_S (AA b) s.heap H locs → lv_has ls 7 [(0, .ref (b + 90)), (3, .int x3), (4, .int x4), (5, .int x5), (6, .int x6)] → W p l e rX1_keys s m args below meth c H locs 0 0 (MQ below (QX D b cs (some (.int r)) S1) args s 0 0 (AA b)) (F0 m 27 ls []) := by
  intro n
  induction n with
  | zero =>
    intro x3 x4 x5 x6 S H locs ls h
    exact absurd h (by rw [q_X1_keys_27]; exact fun q => nomatch q)
  | succ n IH =>
    intro x3 x4 x5 x6 S H locs ls h hW hS hl
    rw [q_X1_keys_27] at h
    refine lv_iload hC.1 hC.2.1 dX1_keys_27 (lv_at hl 4 rfl) ?_
    refine lv_aload_n hC.1 hC.2.1 dX1_keys_29 rfl (lv_at hl 0 rfl) ?_
    refine x_get (C := RX1) (T := TX1) (N := 2) (v := _) hC hW 90 (by decide) rfl rfl uX1 0 (by decide) fl_X1_9 rfl rfl dX1_keys_30 ?_
    refine x_get (C := RX2) (T := TX2) (N := 12) (v := _) hC hW 3 (by decide) rfl rfl uX2 1 (by decide) fl_X1_61 rfl rfl dX1_keys_33 ?_
    refine lv_icmp_ge (tgt := 73) hC.1 hC.2.1 dX1_keys_36 (by decide) (fun hc => ?_) (fun hc => ?_)
    · replace h := xt hc h
      refine lv_iload hC.1 hC.2.1 dX1_keys_73 (lv_at hl 3 rfl) ?_
      obtain ⟨rfl, rfl⟩ := xr h
      exact x_iret hC hr hW hS dX1_keys_75
    · replace h := xf hc h
      refine lv_aload_n hC.1 hC.2.1 dX1_keys_39 rfl (lv_at hl 0 rfl) ?_
      refine x_get (C := RX1) (T := TX1) (N := 2) (v := _) hC hW 90 (by decide) rfl rfl uX1 1 (by decide) fl_X1_15 rfl rfl dX1_keys_40 ?_
      refine x_get (C := RX8) (T := TX8) (N := 6) (v := _) hC hW 21 (by decide) rfl rfl uX8 3 (by decide) fl_X1_64 rfl rfl dX1_keys_43 ?_
      refine lv_iload hC.1 hC.2.1 dX1_keys_46 (lv_at hl 4 rfl) ?_
      obtain ⟨hi, h⟩ := xg h
      refine x_iald hC hW 25 (by decide) rfl hi dX1_keys_48 ?_
      refine lv_iload_n hC.1 hC.2.1 dX1_keys_49 rfl (lv_at hl 1 rfl) ?_
      refine lv_iload hC.1 hC.2.1 dX1_keys_50 (lv_at hl 2 rfl) ?_
      obtain ⟨⟨q52_r, q52_S⟩, hq, h⟩ := xb h
      try dsimp only at h
      refine x_callSN (As := [.int (S.1 25 x6.toNatClampNeg), .int x3, .int x4]) (rest := []) hC hW hS (c_X9_within l D b cs _ _ _ _ _ _ hq) mi_X9_within st_X9_within ml_X1_54 ⟨rfl, rfl⟩ ⟨Nat.le_of_ble_eq_true rfl, Nat.le_of_ble_eq_true rfl⟩ ⟨Nat.zero_le _, Nat.zero_le _⟩ rfl rfl hl.1 (Nat.le_of_ble_eq_true rfl) dX1_keys_52 (fun H locs hW hS => ?_)
      refine lv_if_eq (tgt := 67) hC.1 hC.2.1 dX1_keys_55 (by decide) (fun hc => ?_) (fun hc => ?_)
      · replace h := xt hc h
        refine lv_iinc (v := x6 + 1) (lv' := [(6, .int (x6 + 1)), (0, .ref (b + 90)), (3, .int x3), (4, .int x4), (5, .int x5)]) hC.1 hC.2.1 dX1_keys_67 hl (k := 4) rfl rfl (by decide) rfl (fun ls hl => ?_)
        refine lv_goto (tgt := 27) hC.1 hC.2.1 dX1_keys_70 (by decide) ?_
        exact IH _ _ _ _ _ _ _ _ h hW hS (lv_sub hl [1, 2, 3, 4, 0] rfl)
      · replace h := xf hc h
        refine lv_iload hC.1 hC.2.1 dX1_keys_58 (lv_at hl 3 rfl) ?_
        refine lv_iconst (v := 1) hC.1 hC.2.1 dX1_keys_60 (by decide) ?_
        refine lv_iload hC.1 hC.2.1 dX1_keys_61 (lv_at hl 4 rfl) ?_
        refine lv_ishl hC.1 hC.2.1 dX1_keys_63 ?_
        refine lv_ior hC.1 hC.2.1 dX1_keys_64 ?_
        refine lv_istore (lv' := [(5, .int (x5 ||| ((1 : Int32) <<< (x6 &&& 31)))), (0, .ref (b + 90)), (3, .int x3), (4, .int x4), (6, .int x6)]) hC.1 hC.2.1 dX1_keys_65 hl (by decide) rfl (fun ls hl => ?_)
        refine lv_iinc (v := x6 + 1) (lv' := [(6, .int (x6 + 1)), (5, .int (x5 ||| ((1 : Int32) <<< (x6 &&& 31)))), (0, .ref (b + 90)), (3, .int x3), (4, .int x4)]) hC.1 hC.2.1 dX1_keys_67 hl (k := 4) rfl rfl (by decide) rfl (fun ls hl => ?_)
        refine lv_goto (tgt := 27) hC.1 hC.2.1 dX1_keys_70 (by decide) ?_
        exact IH _ _ _ _ _ _ _ _ h hW hS (lv_sub hl [2, 3, 4, 1, 0] rfl)
set_option maxHeartbeats 4000000 in
set_option maxRecDepth 100000 in
theorem c_X1_keys (l : Launch) (D : va_G) (b : Nat) (cs : Cs3) (x1 : Int32) (x2 : Int32) (S S1 : St) (r : Int32) (h : p_X1_keys x1 x2 S = some (r, S1)) : Ct l yX1_keys cX1_keys 7 (some .int) rX1_keys D b cs [.ref (b + 90), .int x1, .int x2] S (some (.int r)) S1 := by
  refine x_met (by decide +kernel) (Nat.le_of_ble_eq_true rfl) ?_
  intro p e s m below meth c ls hC hr hW hS hl
  have hl : lv_has ls 7 [(0, .ref (b + 90)), (1, .int x1), (2, .int x2)] := hl
  rw [p_X1_keys] at h
  refine lv_aload_n hC.1 hC.2.1 dX1_keys_0 rfl (lv_at hl 0 rfl) ?_
  refine lv_iload_n hC.1 hC.2.1 dX1_keys_1 rfl (lv_at hl 1 rfl) ?_
  refine lv_iload_n hC.1 hC.2.1 dX1_keys_2 rfl (lv_at hl 2 rfl) ?_
  obtain ⟨⟨q3_r, q3_S⟩, hq, h⟩ := xb h
  try dsimp only at h
  refine x_callV (T := TX1) (N := 2) (As := [.int x1, .int x2]) (rest := []) hC hW hS 90 (c_X1_lowest l D b cs _ _ _ _ _ hq) (by decide) rfl rfl mi_X1_lowest in_X1_lowest sl_X1_lowest ml_X1_47 ⟨rfl, rfl⟩ ⟨Nat.le_of_ble_eq_true rfl, Nat.le_of_ble_eq_true rfl⟩ ⟨Nat.zero_le _, Nat.zero_le _⟩ rfl rfl hl.1 (Nat.le_of_ble_eq_true rfl) dX1_keys_3 (fun H locs hW hS => ?_)
  refine lv_istore_n (lv' := [(3, .int q3_r), (0, .ref (b + 90)), (1, .int x1), (2, .int x2)]) hC.1 hC.2.1 dX1_keys_6 rfl hl (by decide) rfl (fun ls hl => ?_)
  refine lv_aload_n hC.1 hC.2.1 dX1_keys_7 rfl (lv_at hl 1 rfl) ?_
  refine lv_iload_n hC.1 hC.2.1 dX1_keys_8 rfl (lv_at hl 2 rfl) ?_
  refine lv_iload_n hC.1 hC.2.1 dX1_keys_9 rfl (lv_at hl 3 rfl) ?_
  obtain ⟨⟨q10_r, q10_S⟩, hq, h⟩ := xb h
  try dsimp only at h
  refine x_callV (T := TX1) (N := 2) (As := [.int x1, .int x2]) (rest := []) hC hW hS 90 (c_X1_highest l D b cs _ _ _ _ _ hq) (by decide) rfl rfl mi_X1_highest in_X1_highest sl_X1_highest ml_X1_51 ⟨rfl, rfl⟩ ⟨Nat.le_of_ble_eq_true rfl, Nat.le_of_ble_eq_true rfl⟩ ⟨Nat.zero_le _, Nat.zero_le _⟩ rfl rfl hl.1 (Nat.le_of_ble_eq_true rfl) dX1_keys_10 (fun H locs hW hS => ?_)
  refine lv_istore (lv' := [(4, .int q10_r), (3, .int q3_r), (0, .ref (b + 90)), (1, .int x1), (2, .int x2)]) hC.1 hC.2.1 dX1_keys_13 hl (by decide) rfl (fun ls hl => ?_)
  refine lv_aload_n hC.1 hC.2.1 dX1_keys_15 rfl (lv_at hl 2 rfl) ?_
  refine x_get (C := RX1) (T := TX1) (N := 2) (v := _) hC hW 90 (by decide) rfl rfl uX1 1 (by decide) fl_X1_15 rfl rfl dX1_keys_16 ?_
  refine x_get (C := RX8) (T := TX8) (N := 6) (v := _) hC hW 21 (by decide) rfl rfl uX8 4 (by decide) fl_X1_58 rfl rfl dX1_keys_19 ?_
  refine lv_istore (lv' := [(5, .int (q10_S.1 21 4)), (4, .int q10_r), (3, .int q3_r), (0, .ref (b + 90)), (1, .int x1), (2, .int x2)]) hC.1 hC.2.1 dX1_keys_22 hl (by decide) rfl (fun ls hl => ?_)
  refine lv_iconst (v := 0) hC.1 hC.2.1 dX1_keys_24 (by decide) ?_
  refine lv_istore (lv' := [(6, .int (0 : Int32)), (5, .int (q10_S.1 21 4)), (4, .int q10_r), (3, .int q3_r), (0, .ref (b + 90)), (1, .int x1), (2, .int x2)]) hC.1 hC.2.1 dX1_keys_25 hl (by decide) rfl (fun ls hl => ?_)
  exact w_X1_keys_27 hC hr _ _ _ _ _ _ _ _ _ h hW hS (lv_sub hl [4, 3, 2, 1, 0] rfl)
theorem dX1_opens_0 : decode cX1_opens 0 = .ok (.aload_n 0, 1) := by decide +kernel
theorem dX1_opens_1 : decode cX1_opens 1 = .ok (.getfield 15, 3) := by decide +kernel
theorem dX1_opens_4 : decode cX1_opens 4 = .ok (.getfield 58, 3) := by decide +kernel
theorem dX1_opens_7 : decode cX1_opens 7 = .ok (.iload_n 2, 1) := by decide +kernel
theorem dX1_opens_8 : decode cX1_opens 8 = .ok (.ishr, 1) := by decide +kernel
theorem dX1_opens_9 : decode cX1_opens 9 = .ok (.iconst 1, 1) := by decide +kernel
theorem dX1_opens_10 : decode cX1_opens 10 = .ok (.iand, 1) := by decide +kernel
theorem dX1_opens_11 : decode cX1_opens 11 = .ok (.iconst 1, 1) := by decide +kernel
theorem dX1_opens_12 : decode cX1_opens 12 = .ok (.if_icmp .eq 20, 3) := by decide +kernel
theorem dX1_opens_15 : decode cX1_opens 15 = .ok (.aload_n 0, 1) := by decide +kernel
theorem dX1_opens_16 : decode cX1_opens 16 = .ok (.iload_n 1, 1) := by decide +kernel
theorem dX1_opens_17 : decode cX1_opens 17 = .ok (.aload_n 0, 1) := by decide +kernel
theorem dX1_opens_18 : decode cX1_opens 18 = .ok (.getfield 15, 3) := by decide +kernel
theorem dX1_opens_21 : decode cX1_opens 21 = .ok (.getfield 64, 3) := by decide +kernel
theorem dX1_opens_24 : decode cX1_opens 24 = .ok (.iload_n 2, 1) := by decide +kernel
theorem dX1_opens_25 : decode cX1_opens 25 = .ok (.iaload, 1) := by decide +kernel
theorem dX1_opens_26 : decode cX1_opens 26 = .ok (.invokevirtual 67, 3) := by decide +kernel
theorem dX1_opens_29 : decode cX1_opens 29 = .ok (.ifCond .eq 7, 3) := by decide +kernel
theorem dX1_opens_32 : decode cX1_opens 32 = .ok (.iconst 1, 1) := by decide +kernel
theorem dX1_opens_33 : decode cX1_opens 33 = .ok (.goto 4, 3) := by decide +kernel
theorem dX1_opens_36 : decode cX1_opens 36 = .ok (.iconst 0, 1) := by decide +kernel
theorem dX1_opens_37 : decode cX1_opens 37 = .ok (.ireturn, 1) := by decide +kernel
abbrev rX1_opens : Room := { frames := 3, cells := 0, slots := 0, locals := 67 }
set_option maxHeartbeats 4000000 in
set_option maxRecDepth 100000 in
theorem c_X1_opens (l : Launch) (D : va_G) (b : Nat) (cs : Cs3) (x1 : Int32) (x2 : Int32) (S S1 : St) (r : Int32) (h : p_X1_opens x1 x2 S = some (r, S1)) : Ct l yX1_opens cX1_opens 3 (some .boolean) rX1_opens D b cs [.ref (b + 90), .int x1, .int x2] S (some (.int r)) S1 := by
  refine x_met (by decide +kernel) (Nat.le_of_ble_eq_true rfl) ?_
  intro p e s m below meth c ls hC hr hW hS hl
  have hl : lv_has ls 3 [(0, .ref (b + 90)), (1, .int x1), (2, .int x2)] := hl
  rw [p_X1_opens] at h
  refine lv_aload_n hC.1 hC.2.1 dX1_opens_0 rfl (lv_at hl 0 rfl) ?_
  refine x_get (C := RX1) (T := TX1) (N := 2) (v := _) hC hW 90 (by decide) rfl rfl uX1 1 (by decide) fl_X1_15 rfl rfl dX1_opens_1 ?_
  refine x_get (C := RX8) (T := TX8) (N := 6) (v := _) hC hW 21 (by decide) rfl rfl uX8 4 (by decide) fl_X1_58 rfl rfl dX1_opens_4 ?_
  refine lv_iload_n hC.1 hC.2.1 dX1_opens_7 rfl (lv_at hl 2 rfl) ?_
  refine lv_ishr hC.1 hC.2.1 dX1_opens_8 ?_
  refine lv_iconst (v := 1) hC.1 hC.2.1 dX1_opens_9 (by decide) ?_
  refine lv_iand hC.1 hC.2.1 dX1_opens_10 ?_
  refine lv_iconst (v := 1) hC.1 hC.2.1 dX1_opens_11 (by decide) ?_
  refine lv_icmp_eq (tgt := 32) hC.1 hC.2.1 dX1_opens_12 (by decide) (fun hc => ?_) (fun hc => ?_)
  · replace h := xt hc h
    refine lv_iconst (v := 1) hC.1 hC.2.1 dX1_opens_32 (by decide) ?_
    refine lv_goto (tgt := 37) hC.1 hC.2.1 dX1_opens_33 (by decide) ?_
    obtain ⟨rfl, rfl⟩ := xr h
    exact x_zret hC hr hW hS (Or.inr rfl) dX1_opens_37
  · replace h := xf hc h
    refine lv_aload_n hC.1 hC.2.1 dX1_opens_15 rfl (lv_at hl 0 rfl) ?_
    refine lv_iload_n hC.1 hC.2.1 dX1_opens_16 rfl (lv_at hl 1 rfl) ?_
    refine lv_aload_n hC.1 hC.2.1 dX1_opens_17 rfl (lv_at hl 0 rfl) ?_
    refine x_get (C := RX1) (T := TX1) (N := 2) (v := _) hC hW 90 (by decide) rfl rfl uX1 1 (by decide) fl_X1_15 rfl rfl dX1_opens_18 ?_
    refine x_get (C := RX8) (T := TX8) (N := 6) (v := _) hC hW 21 (by decide) rfl rfl uX8 3 (by decide) fl_X1_64 rfl rfl dX1_opens_21 ?_
    refine lv_iload_n hC.1 hC.2.1 dX1_opens_24 rfl (lv_at hl 2 rfl) ?_
    obtain ⟨hi, h⟩ := xg h
    refine x_iald hC hW 25 (by decide) rfl hi dX1_opens_25 ?_
    obtain ⟨⟨q26_r, q26_S⟩, hq, h⟩ := xb h
    try dsimp only at h
    refine x_callV (T := TX1) (N := 2) (As := [.int x1, .int (S.1 25 x2.toNatClampNeg)]) (rest := []) hC hW hS 90 (c_X1_sings l D b cs _ _ _ _ _ hq) (by decide) rfl rfl mi_X1_sings in_X1_sings sl_X1_sings ml_X1_67 ⟨rfl, rfl⟩ ⟨Nat.le_of_ble_eq_true rfl, Nat.le_of_ble_eq_true rfl⟩ ⟨Nat.zero_le _, Nat.zero_le _⟩ rfl rfl hl.1 (Nat.le_of_ble_eq_true rfl) dX1_opens_26 (fun H locs hW hS => ?_)
    refine lv_if_eq (tgt := 36) hC.1 hC.2.1 dX1_opens_29 (by decide) (fun hc => ?_) (fun hc => ?_)
    · replace h := xt hc h
      refine lv_iconst (v := 0) hC.1 hC.2.1 dX1_opens_36 (by decide) ?_
      obtain ⟨rfl, rfl⟩ := xr h
      exact x_zret hC hr hW hS (Or.inl rfl) dX1_opens_37
    · replace h := xf hc h
      refine lv_iconst (v := 1) hC.1 hC.2.1 dX1_opens_32 (by decide) ?_
      refine lv_goto (tgt := 37) hC.1 hC.2.1 dX1_opens_33 (by decide) ?_
      obtain ⟨rfl, rfl⟩ := xr h
      exact x_zret hC hr hW hS (Or.inr rfl) dX1_opens_37
theorem dX1_openers_0 : decode cX1_openers 0 = .ok (.iconst 0, 1) := by decide +kernel
theorem dX1_openers_1 : decode cX1_openers 1 = .ok (.istore_n 2, 1) := by decide +kernel
theorem dX1_openers_2 : decode cX1_openers 2 = .ok (.iconst 0, 1) := by decide +kernel
theorem dX1_openers_3 : decode cX1_openers 3 = .ok (.istore_n 3, 1) := by decide +kernel
theorem dX1_openers_4 : decode cX1_openers 4 = .ok (.iload_n 3, 1) := by decide +kernel
theorem dX1_openers_5 : decode cX1_openers 5 = .ok (.aload_n 0, 1) := by decide +kernel
theorem dX1_openers_6 : decode cX1_openers 6 = .ok (.getfield 9, 3) := by decide +kernel
theorem dX1_openers_9 : decode cX1_openers 9 = .ok (.getfield 30, 3) := by decide +kernel
theorem dX1_openers_12 : decode cX1_openers 12 = .ok (.if_icmp .ge 24, 3) := by decide +kernel
theorem dX1_openers_15 : decode cX1_openers 15 = .ok (.aload_n 0, 1) := by decide +kernel
theorem dX1_openers_16 : decode cX1_openers 16 = .ok (.iload_n 3, 1) := by decide +kernel
theorem dX1_openers_17 : decode cX1_openers 17 = .ok (.iload_n 1, 1) := by decide +kernel
theorem dX1_openers_18 : decode cX1_openers 18 = .ok (.invokevirtual 70, 3) := by decide +kernel
theorem dX1_openers_21 : decode cX1_openers 21 = .ok (.ifCond .eq 9, 3) := by decide +kernel
theorem dX1_openers_24 : decode cX1_openers 24 = .ok (.iload_n 2, 1) := by decide +kernel
theorem dX1_openers_25 : decode cX1_openers 25 = .ok (.iconst 1, 1) := by decide +kernel
theorem dX1_openers_26 : decode cX1_openers 26 = .ok (.iload_n 3, 1) := by decide +kernel
theorem dX1_openers_27 : decode cX1_openers 27 = .ok (.ishl, 1) := by decide +kernel
theorem dX1_openers_28 : decode cX1_openers 28 = .ok (.ior, 1) := by decide +kernel
theorem dX1_openers_29 : decode cX1_openers 29 = .ok (.istore_n 2, 1) := by decide +kernel
theorem dX1_openers_30 : decode cX1_openers 30 = .ok (.iinc 3 1, 3) := by decide +kernel
theorem dX1_openers_33 : decode cX1_openers 33 = .ok (.goto (-29), 3) := by decide +kernel
theorem dX1_openers_36 : decode cX1_openers 36 = .ok (.iload_n 2, 1) := by decide +kernel
theorem dX1_openers_37 : decode cX1_openers 37 = .ok (.ireturn, 1) := by decide +kernel
abbrev rX1_openers : Room := { frames := 4, cells := 0, slots := 0, locals := 89 }
set_option maxHeartbeats 4000000 in
set_option maxRecDepth 100000 in
theorem w_X1_openers_4 {p : Program} {l : Launch} {e : Env} {s : State} {m : MethodId} {args : Array Value} {below : List Frame} {meth : Method} {c : Code} {D : va_G} {b : Nat} {cs : Cs3} {r : Int32} {S1 : St} (hC : CX p s m args meth c RX1 cX1_openers 4 D cs) (hr : meth.sig.returnType = (some .int)) : ∀ (n : Nat) (x1 : Int32) (x2 : Int32) (x3 : Int32) (S : St) (H : Heap) (locs : List Loc) (ls : Array Slot), q_X1_openers_4 n x1 x2 x3 S = some (r, S1) → Wd D b cs S H → va_S (AA b) s.heap H locs → lv_has ls 4 [(0, .ref (b + 90)), (1, .int x1), (2, .int x2), (3, .int x3)] → W p l e rX1_openers s m args below meth c H locs 0 0 (MQ below (QX D b cs (some (.int r)) S1) args s 0 0 (AA b)) (F0 m 4 ls []) := by
  intro n
  induction n with
  | zero =>
    intro x1 x2 x3 S H locs ls h
    exact absurd h (by rw [q_X1_openers_4]; exact fun q => nomatch q)
  | succ n IH =>
    intro x1 x2 x3 S H locs ls h hW hS hl
    rw [q_X1_openers_4] at h
    refine lv_iload_n hC.1 hC.2.1 dX1_openers_4 rfl (lv_at hl 3 rfl) ?_
    refine lv_aload_n hC.1 hC.2.1 dX1_openers_5 rfl (lv_at hl 0 rfl) ?_
    refine x_get (C := RX1) (T := TX1) (N := 2) (v := _) hC hW 90 (by decide) rfl rfl uX1 0 (by decide) fl_X1_9 rfl rfl dX1_openers_6 ?_
    refine x_get (C := RX2) (T := TX2) (N := 12) (v := _) hC hW 3 (by decide) rfl rfl uX2 2 (by decide) fl_X1_30 rfl rfl dX1_openers_9 ?_
    refine lv_icmp_ge (tgt := 36) hC.1 hC.2.1 dX1_openers_12 (by decide) (fun hc => ?_) (fun hc => ?_)
    · replace h := xt hc h
      refine lv_iload_n hC.1 hC.2.1 dX1_openers_36 rfl (lv_at hl 2 rfl) ?_
      obtain ⟨rfl, rfl⟩ := xr h
      exact x_iret hC hr hW hS dX1_openers_37
    · replace h := xf hc h
      refine lv_aload_n hC.1 hC.2.1 dX1_openers_15 rfl (lv_at hl 0 rfl) ?_
      refine lv_iload_n hC.1 hC.2.1 dX1_openers_16 rfl (lv_at hl 3 rfl) ?_
      refine lv_iload_n hC.1 hC.2.1 dX1_openers_17 rfl (lv_at hl 1 rfl) ?_
      obtain ⟨⟨q18_r, q18_S⟩, hq, h⟩ := xb h
      try dsimp only at h
      refine x_callV (T := TX1) (N := 2) (As := [.int x3, .int x1]) (rest := []) hC hW hS 90 (c_X1_opens l D b cs _ _ _ _ _ hq) (by decide) rfl rfl mi_X1_opens in_X1_opens sl_X1_opens ml_X1_70 ⟨rfl, rfl⟩ ⟨Nat.le_of_ble_eq_true rfl, Nat.le_of_ble_eq_true rfl⟩ ⟨Nat.zero_le _, Nat.zero_le _⟩ rfl rfl hl.1 (Nat.le_of_ble_eq_true rfl) dX1_openers_18 (fun H locs hW hS => ?_)
      refine lv_if_eq (tgt := 30) hC.1 hC.2.1 dX1_openers_21 (by decide) (fun hc => ?_) (fun hc => ?_)
      · replace h := xt hc h
        refine lv_iinc (v := x3 + 1) (lv' := [(3, .int (x3 + 1)), (0, .ref (b + 90)), (1, .int x1), (2, .int x2)]) hC.1 hC.2.1 dX1_openers_30 hl (k := 3) rfl rfl (by decide) rfl (fun ls hl => ?_)
        refine lv_goto (tgt := 4) hC.1 hC.2.1 dX1_openers_33 (by decide) ?_
        exact IH _ _ _ _ _ _ _ h hW hS (lv_sub hl [1, 2, 3, 0] rfl)
      · replace h := xf hc h
        refine lv_iload_n hC.1 hC.2.1 dX1_openers_24 rfl (lv_at hl 2 rfl) ?_
        refine lv_iconst (v := 1) hC.1 hC.2.1 dX1_openers_25 (by decide) ?_
        refine lv_iload_n hC.1 hC.2.1 dX1_openers_26 rfl (lv_at hl 3 rfl) ?_
        refine lv_ishl hC.1 hC.2.1 dX1_openers_27 ?_
        refine lv_ior hC.1 hC.2.1 dX1_openers_28 ?_
        refine lv_istore_n (lv' := [(2, .int (x2 ||| ((1 : Int32) <<< (x3 &&& 31)))), (0, .ref (b + 90)), (1, .int x1), (3, .int x3)]) hC.1 hC.2.1 dX1_openers_29 rfl hl (by decide) rfl (fun ls hl => ?_)
        refine lv_iinc (v := x3 + 1) (lv' := [(3, .int (x3 + 1)), (2, .int (x2 ||| ((1 : Int32) <<< (x3 &&& 31)))), (0, .ref (b + 90)), (1, .int x1)]) hC.1 hC.2.1 dX1_openers_30 hl (k := 3) rfl rfl (by decide) rfl (fun ls hl => ?_)
        refine lv_goto (tgt := 4) hC.1 hC.2.1 dX1_openers_33 (by decide) ?_
        exact IH _ _ _ _ _ _ _ h hW hS (lv_sub hl [2, 3, 1, 0] rfl)
set_option maxHeartbeats 4000000 in
set_option maxRecDepth 100000 in
theorem c_X1_openers (l : Launch) (D : va_G) (b : Nat) (cs : Cs3) (x1 : Int32) (S S1 : St) (r : Int32) (h : p_X1_openers x1 S = some (r, S1)) : Ct l yX1_openers cX1_openers 4 (some .int) rX1_openers D b cs [.ref (b + 90), .int x1] S (some (.int r)) S1 := by
  refine x_met (by decide +kernel) (Nat.le_of_ble_eq_true rfl) ?_
  intro p e s m below meth c ls hC hr hW hS hl
  have hl : lv_has ls 4 [(0, .ref (b + 90)), (1, .int x1)] := hl
  rw [p_X1_openers] at h
  refine lv_iconst (v := 0) hC.1 hC.2.1 dX1_openers_0 (by decide) ?_
  refine lv_istore_n (lv' := [(2, .int (0 : Int32)), (0, .ref (b + 90)), (1, .int x1)]) hC.1 hC.2.1 dX1_openers_1 rfl hl (by decide) rfl (fun ls hl => ?_)
  refine lv_iconst (v := 0) hC.1 hC.2.1 dX1_openers_2 (by decide) ?_
  refine lv_istore_n (lv' := [(3, .int (0 : Int32)), (2, .int (0 : Int32)), (0, .ref (b + 90)), (1, .int x1)]) hC.1 hC.2.1 dX1_openers_3 rfl hl (by decide) rfl (fun ls hl => ?_)
  exact w_X1_openers_4 hC hr _ _ _ _ _ _ _ _ h hW hS (lv_sub hl [2, 3, 1, 0] rfl)
theorem dX1_atHome_0 : decode cX1_atHome 0 = .ok (.iconst 0, 1) := by decide +kernel
theorem dX1_atHome_1 : decode cX1_atHome 1 = .ok (.istore_n 1, 1) := by decide +kernel
theorem dX1_atHome_2 : decode cX1_atHome 2 = .ok (.iconst 0, 1) := by decide +kernel
theorem dX1_atHome_3 : decode cX1_atHome 3 = .ok (.istore_n 2, 1) := by decide +kernel
theorem dX1_atHome_4 : decode cX1_atHome 4 = .ok (.iload_n 2, 1) := by decide +kernel
theorem dX1_atHome_5 : decode cX1_atHome 5 = .ok (.aload_n 0, 1) := by decide +kernel
theorem dX1_atHome_6 : decode cX1_atHome 6 = .ok (.getfield 9, 3) := by decide +kernel
theorem dX1_atHome_9 : decode cX1_atHome 9 = .ok (.getfield 30, 3) := by decide +kernel
theorem dX1_atHome_12 : decode cX1_atHome 12 = .ok (.if_icmp .ge 36, 3) := by decide +kernel
theorem dX1_atHome_15 : decode cX1_atHome 15 = .ok (.aload_n 0, 1) := by decide +kernel
theorem dX1_atHome_16 : decode cX1_atHome 16 = .ok (.getfield 15, 3) := by decide +kernel
theorem dX1_atHome_19 : decode cX1_atHome 19 = .ok (.getfield 73, 3) := by decide +kernel
theorem dX1_atHome_22 : decode cX1_atHome 22 = .ok (.iload_n 2, 1) := by decide +kernel
theorem dX1_atHome_23 : decode cX1_atHome 23 = .ok (.iaload, 1) := by decide +kernel
theorem dX1_atHome_24 : decode cX1_atHome 24 = .ok (.aload_n 0, 1) := by decide +kernel
theorem dX1_atHome_25 : decode cX1_atHome 25 = .ok (.getfield 9, 3) := by decide +kernel
theorem dX1_atHome_28 : decode cX1_atHome 28 = .ok (.getfield 76, 3) := by decide +kernel
theorem dX1_atHome_31 : decode cX1_atHome 31 = .ok (.iload_n 2, 1) := by decide +kernel
theorem dX1_atHome_32 : decode cX1_atHome 32 = .ok (.iaload, 1) := by decide +kernel
theorem dX1_atHome_33 : decode cX1_atHome 33 = .ok (.if_icmp .ne 9, 3) := by decide +kernel
theorem dX1_atHome_36 : decode cX1_atHome 36 = .ok (.iload_n 1, 1) := by decide +kernel
theorem dX1_atHome_37 : decode cX1_atHome 37 = .ok (.iconst 1, 1) := by decide +kernel
theorem dX1_atHome_38 : decode cX1_atHome 38 = .ok (.iload_n 2, 1) := by decide +kernel
theorem dX1_atHome_39 : decode cX1_atHome 39 = .ok (.ishl, 1) := by decide +kernel
theorem dX1_atHome_40 : decode cX1_atHome 40 = .ok (.ior, 1) := by decide +kernel
theorem dX1_atHome_41 : decode cX1_atHome 41 = .ok (.istore_n 1, 1) := by decide +kernel
theorem dX1_atHome_42 : decode cX1_atHome 42 = .ok (.iinc 2 1, 3) := by decide +kernel
theorem dX1_atHome_45 : decode cX1_atHome 45 = .ok (.goto (-41), 3) := by decide +kernel
theorem dX1_atHome_48 : decode cX1_atHome 48 = .ok (.iload_n 1, 1) := by decide +kernel
theorem dX1_atHome_49 : decode cX1_atHome 49 = .ok (.ireturn, 1) := by decide +kernel
abbrev rX1_atHome : Room := { frames := 0, cells := 0, slots := 0, locals := 0 }
set_option maxHeartbeats 4000000 in
set_option maxRecDepth 100000 in
theorem w_X1_atHome_4 {p : Program} {l : Launch} {e : Env} {s : State} {m : MethodId} {args : Array Value} {below : List Frame} {meth : Method} {c : Code} {D : va_G} {b : Nat} {cs : Cs3} {r : Int32} {S1 : St} (hC : CX p s m args meth c RX1 cX1_atHome 3 D cs) (hr : meth.sig.returnType = (some .int)) : ∀ (n : Nat) (x1 : Int32) (x2 : Int32) (S : St) (H : Heap) (locs : List Loc) (ls : Array Slot), q_X1_atHome_4 n x1 x2 S = some (r, S1) → Wd D b cs S H → va_S (AA b) s.heap H locs → lv_has ls 3 [(0, .ref (b + 90)), (1, .int x1), (2, .int x2)] → W p l e rX1_atHome s m args below meth c H locs 0 0 (MQ below (QX D b cs (some (.int r)) S1) args s 0 0 (AA b)) (F0 m 4 ls []) := by
  intro n
  induction n with
  | zero =>
    intro x1 x2 S H locs ls h
    exact absurd h (by rw [q_X1_atHome_4]; exact fun q => nomatch q)
  | succ n IH =>
    intro x1 x2 S H locs ls h hW hS hl
    rw [q_X1_atHome_4] at h
    refine lv_iload_n hC.1 hC.2.1 dX1_atHome_4 rfl (lv_at hl 2 rfl) ?_
    refine lv_aload_n hC.1 hC.2.1 dX1_atHome_5 rfl (lv_at hl 0 rfl) ?_
    refine x_get (C := RX1) (T := TX1) (N := 2) (v := _) hC hW 90 (by decide) rfl rfl uX1 0 (by decide) fl_X1_9 rfl rfl dX1_atHome_6 ?_
    refine x_get (C := RX2) (T := TX2) (N := 12) (v := _) hC hW 3 (by decide) rfl rfl uX2 2 (by decide) fl_X1_30 rfl rfl dX1_atHome_9 ?_
    refine lv_icmp_ge (tgt := 48) hC.1 hC.2.1 dX1_atHome_12 (by decide) (fun hc => ?_) (fun hc => ?_)
    · replace h := xt hc h
      refine lv_iload_n hC.1 hC.2.1 dX1_atHome_48 rfl (lv_at hl 1 rfl) ?_
      obtain ⟨rfl, rfl⟩ := xr h
      exact x_iret hC hr hW hS dX1_atHome_49
    · replace h := xf hc h
      refine lv_aload_n hC.1 hC.2.1 dX1_atHome_15 rfl (lv_at hl 0 rfl) ?_
      refine x_get (C := RX1) (T := TX1) (N := 2) (v := _) hC hW 90 (by decide) rfl rfl uX1 1 (by decide) fl_X1_15 rfl rfl dX1_atHome_16 ?_
      refine x_get (C := RX8) (T := TX8) (N := 6) (v := _) hC hW 21 (by decide) rfl rfl uX8 0 (by decide) fl_X1_73 rfl rfl dX1_atHome_19 ?_
      refine lv_iload_n hC.1 hC.2.1 dX1_atHome_22 rfl (lv_at hl 2 rfl) ?_
      obtain ⟨hi, h⟩ := xg h
      refine x_iald hC hW 22 (by decide) rfl hi dX1_atHome_23 ?_
      refine lv_aload_n hC.1 hC.2.1 dX1_atHome_24 rfl (lv_at hl 0 rfl) ?_
      refine x_get (C := RX1) (T := TX1) (N := 2) (v := _) hC hW 90 (by decide) rfl rfl uX1 0 (by decide) fl_X1_9 rfl rfl dX1_atHome_25 ?_
      refine x_get (C := RX2) (T := TX2) (N := 12) (v := _) hC hW 3 (by decide) rfl rfl uX2 11 (by decide) fl_X1_76 rfl rfl dX1_atHome_28 ?_
      refine lv_iload_n hC.1 hC.2.1 dX1_atHome_31 rfl (lv_at hl 2 rfl) ?_
      obtain ⟨hi, h⟩ := xg h
      refine x_iald hC hW 11 (by decide) rfl hi dX1_atHome_32 ?_
      refine lv_icmp_ne (tgt := 42) hC.1 hC.2.1 dX1_atHome_33 (by decide) (fun hc => ?_) (fun hc => ?_)
      · replace h := xf hc h
        refine lv_iinc (v := x2 + 1) (lv' := [(2, .int (x2 + 1)), (0, .ref (b + 90)), (1, .int x1)]) hC.1 hC.2.1 dX1_atHome_42 hl (k := 2) rfl rfl (by decide) rfl (fun ls hl => ?_)
        refine lv_goto (tgt := 4) hC.1 hC.2.1 dX1_atHome_45 (by decide) ?_
        exact IH _ _ _ _ _ _ h hW hS (lv_sub hl [1, 2, 0] rfl)
      · replace h := xt hc h
        refine lv_iload_n hC.1 hC.2.1 dX1_atHome_36 rfl (lv_at hl 1 rfl) ?_
        refine lv_iconst (v := 1) hC.1 hC.2.1 dX1_atHome_37 (by decide) ?_
        refine lv_iload_n hC.1 hC.2.1 dX1_atHome_38 rfl (lv_at hl 2 rfl) ?_
        refine lv_ishl hC.1 hC.2.1 dX1_atHome_39 ?_
        refine lv_ior hC.1 hC.2.1 dX1_atHome_40 ?_
        refine lv_istore_n (lv' := [(1, .int (x1 ||| ((1 : Int32) <<< (x2 &&& 31)))), (0, .ref (b + 90)), (2, .int x2)]) hC.1 hC.2.1 dX1_atHome_41 rfl hl (by decide) rfl (fun ls hl => ?_)
        refine lv_iinc (v := x2 + 1) (lv' := [(2, .int (x2 + 1)), (1, .int (x1 ||| ((1 : Int32) <<< (x2 &&& 31)))), (0, .ref (b + 90))]) hC.1 hC.2.1 dX1_atHome_42 hl (k := 2) rfl rfl (by decide) rfl (fun ls hl => ?_)
        refine lv_goto (tgt := 4) hC.1 hC.2.1 dX1_atHome_45 (by decide) ?_
        exact IH _ _ _ _ _ _ h hW hS (lv_sub hl [2, 1, 0] rfl)
set_option maxHeartbeats 4000000 in
set_option maxRecDepth 100000 in
theorem c_X1_atHome (l : Launch) (D : va_G) (b : Nat) (cs : Cs3) (S S1 : St) (r : Int32) (h : p_X1_atHome S = some (r, S1)) : Ct l yX1_atHome cX1_atHome 3 (some .int) rX1_atHome D b cs [.ref (b + 90)] S (some (.int r)) S1 := by
  refine x_met (by decide +kernel) (Nat.le_of_ble_eq_true rfl) ?_
  intro p e s m below meth c ls hC hr hW hS hl
  have hl : lv_has ls 3 [(0, .ref (b + 90))] := hl
  rw [p_X1_atHome] at h
  refine lv_iconst (v := 0) hC.1 hC.2.1 dX1_atHome_0 (by decide) ?_
  refine lv_istore_n (lv' := [(1, .int (0 : Int32)), (0, .ref (b + 90))]) hC.1 hC.2.1 dX1_atHome_1 rfl hl (by decide) rfl (fun ls hl => ?_)
  refine lv_iconst (v := 0) hC.1 hC.2.1 dX1_atHome_2 (by decide) ?_
  refine lv_istore_n (lv' := [(2, .int (0 : Int32)), (1, .int (0 : Int32)), (0, .ref (b + 90))]) hC.1 hC.2.1 dX1_atHome_3 rfl hl (by decide) rfl (fun ls hl => ?_)
  exact w_X1_atHome_4 hC hr _ _ _ _ _ _ _ h hW hS (lv_sub hl [2, 1, 0] rfl)
theorem dX1_beyond_0 : decode cX1_beyond 0 = .ok (.aload_n 0, 1) := by decide +kernel
theorem dX1_beyond_1 : decode cX1_beyond 1 = .ok (.getfield 9, 3) := by decide +kernel
theorem dX1_beyond_4 : decode cX1_beyond 4 = .ok (.getfield 79, 3) := by decide +kernel
theorem dX1_beyond_7 : decode cX1_beyond 7 = .ok (.iload_n 2, 1) := by decide +kernel
theorem dX1_beyond_8 : decode cX1_beyond 8 = .ok (.iaload, 1) := by decide +kernel
theorem dX1_beyond_9 : decode cX1_beyond 9 = .ok (.aload_n 0, 1) := by decide +kernel
theorem dX1_beyond_10 : decode cX1_beyond 10 = .ok (.getfield 15, 3) := by decide +kernel
theorem dX1_beyond_13 : decode cX1_beyond 13 = .ok (.getfield 73, 3) := by decide +kernel
theorem dX1_beyond_16 : decode cX1_beyond 16 = .ok (.iload_n 1, 1) := by decide +kernel
theorem dX1_beyond_17 : decode cX1_beyond 17 = .ok (.iaload, 1) := by decide +kernel
theorem dX1_beyond_18 : decode cX1_beyond 18 = .ok (.if_icmp .ne 13, 3) := by decide +kernel
theorem dX1_beyond_21 : decode cX1_beyond 21 = .ok (.aload_n 0, 1) := by decide +kernel
theorem dX1_beyond_22 : decode cX1_beyond 22 = .ok (.getfield 9, 3) := by decide +kernel
theorem dX1_beyond_25 : decode cX1_beyond 25 = .ok (.getfield 82, 3) := by decide +kernel
theorem dX1_beyond_28 : decode cX1_beyond 28 = .ok (.iload_n 2, 1) := by decide +kernel
theorem dX1_beyond_29 : decode cX1_beyond 29 = .ok (.iaload, 1) := by decide +kernel
theorem dX1_beyond_30 : decode cX1_beyond 30 = .ok (.ireturn, 1) := by decide +kernel
theorem dX1_beyond_31 : decode cX1_beyond 31 = .ok (.aload_n 0, 1) := by decide +kernel
theorem dX1_beyond_32 : decode cX1_beyond 32 = .ok (.getfield 9, 3) := by decide +kernel
theorem dX1_beyond_35 : decode cX1_beyond 35 = .ok (.getfield 82, 3) := by decide +kernel
theorem dX1_beyond_38 : decode cX1_beyond 38 = .ok (.iload_n 2, 1) := by decide +kernel
theorem dX1_beyond_39 : decode cX1_beyond 39 = .ok (.iaload, 1) := by decide +kernel
theorem dX1_beyond_40 : decode cX1_beyond 40 = .ok (.aload_n 0, 1) := by decide +kernel
theorem dX1_beyond_41 : decode cX1_beyond 41 = .ok (.getfield 15, 3) := by decide +kernel
theorem dX1_beyond_44 : decode cX1_beyond 44 = .ok (.getfield 73, 3) := by decide +kernel
theorem dX1_beyond_47 : decode cX1_beyond 47 = .ok (.iload_n 1, 1) := by decide +kernel
theorem dX1_beyond_48 : decode cX1_beyond 48 = .ok (.iaload, 1) := by decide +kernel
theorem dX1_beyond_49 : decode cX1_beyond 49 = .ok (.if_icmp .ne 15, 3) := by decide +kernel
theorem dX1_beyond_52 : decode cX1_beyond 52 = .ok (.aload_n 0, 1) := by decide +kernel
theorem dX1_beyond_53 : decode cX1_beyond 53 = .ok (.getfield 9, 3) := by decide +kernel
theorem dX1_beyond_56 : decode cX1_beyond 56 = .ok (.getfield 79, 3) := by decide +kernel
theorem dX1_beyond_59 : decode cX1_beyond 59 = .ok (.iload_n 2, 1) := by decide +kernel
theorem dX1_beyond_60 : decode cX1_beyond 60 = .ok (.iaload, 1) := by decide +kernel
theorem dX1_beyond_61 : decode cX1_beyond 61 = .ok (.goto 5, 3) := by decide +kernel
theorem dX1_beyond_64 : decode cX1_beyond 64 = .ok (.bipush (-9), 2) := by decide +kernel
theorem dX1_beyond_66 : decode cX1_beyond 66 = .ok (.ireturn, 1) := by decide +kernel
abbrev rX1_beyond : Room := { frames := 0, cells := 0, slots := 0, locals := 0 }
set_option maxHeartbeats 4000000 in
set_option maxRecDepth 100000 in
theorem c_X1_beyond (l : Launch) (D : va_G) (b : Nat) (cs : Cs3) (x1 : Int32) (x2 : Int32) (S S1 : St) (r : Int32) (h : p_X1_beyond x1 x2 S = some (r, S1)) : Ct l yX1_beyond cX1_beyond 3 (some .int) rX1_beyond D b cs [.ref (b + 90), .int x1, .int x2] S (some (.int r)) S1 := by
  refine x_met (by decide +kernel) (Nat.le_of_ble_eq_true rfl) ?_
  intro p e s m below meth c ls hC hr hW hS hl
  have hl : lv_has ls 3 [(0, .ref (b + 90)), (1, .int x1), (2, .int x2)] := hl
  rw [p_X1_beyond] at h
  refine lv_aload_n hC.1 hC.2.1 dX1_beyond_0 rfl (lv_at hl 0 rfl) ?_
  refine x_get (C := RX1) (T := TX1) (N := 2) (v := _) hC hW 90 (by decide) rfl rfl uX1 0 (by decide) fl_X1_9 rfl rfl dX1_beyond_1 ?_
  refine x_get (C := RX2) (T := TX2) (N := 12) (v := _) hC hW 3 (by decide) rfl rfl uX2 4 (by decide) fl_X1_79 rfl rfl dX1_beyond_4 ?_
  refine lv_iload_n hC.1 hC.2.1 dX1_beyond_7 rfl (lv_at hl 2 rfl) ?_
  obtain ⟨hi, h⟩ := xg h
  refine x_iald hC hW 4 (by decide) rfl hi dX1_beyond_8 ?_
  refine lv_aload_n hC.1 hC.2.1 dX1_beyond_9 rfl (lv_at hl 0 rfl) ?_
  refine x_get (C := RX1) (T := TX1) (N := 2) (v := _) hC hW 90 (by decide) rfl rfl uX1 1 (by decide) fl_X1_15 rfl rfl dX1_beyond_10 ?_
  refine x_get (C := RX8) (T := TX8) (N := 6) (v := _) hC hW 21 (by decide) rfl rfl uX8 0 (by decide) fl_X1_73 rfl rfl dX1_beyond_13 ?_
  refine lv_iload_n hC.1 hC.2.1 dX1_beyond_16 rfl (lv_at hl 1 rfl) ?_
  obtain ⟨hi, h⟩ := xg h
  refine x_iald hC hW 22 (by decide) rfl hi dX1_beyond_17 ?_
  refine lv_icmp_ne (tgt := 31) hC.1 hC.2.1 dX1_beyond_18 (by decide) (fun hc => ?_) (fun hc => ?_)
  · replace h := xf hc h
    refine lv_aload_n hC.1 hC.2.1 dX1_beyond_31 rfl (lv_at hl 0 rfl) ?_
    refine x_get (C := RX1) (T := TX1) (N := 2) (v := _) hC hW 90 (by decide) rfl rfl uX1 0 (by decide) fl_X1_9 rfl rfl dX1_beyond_32 ?_
    refine x_get (C := RX2) (T := TX2) (N := 12) (v := _) hC hW 3 (by decide) rfl rfl uX2 5 (by decide) fl_X1_82 rfl rfl dX1_beyond_35 ?_
    refine lv_iload_n hC.1 hC.2.1 dX1_beyond_38 rfl (lv_at hl 2 rfl) ?_
    obtain ⟨hi, h⟩ := xg h
    refine x_iald hC hW 5 (by decide) rfl hi dX1_beyond_39 ?_
    refine lv_aload_n hC.1 hC.2.1 dX1_beyond_40 rfl (lv_at hl 0 rfl) ?_
    refine x_get (C := RX1) (T := TX1) (N := 2) (v := _) hC hW 90 (by decide) rfl rfl uX1 1 (by decide) fl_X1_15 rfl rfl dX1_beyond_41 ?_
    refine x_get (C := RX8) (T := TX8) (N := 6) (v := _) hC hW 21 (by decide) rfl rfl uX8 0 (by decide) fl_X1_73 rfl rfl dX1_beyond_44 ?_
    refine lv_iload_n hC.1 hC.2.1 dX1_beyond_47 rfl (lv_at hl 1 rfl) ?_
    obtain ⟨hi, h⟩ := xg h
    refine x_iald hC hW 22 (by decide) rfl hi dX1_beyond_48 ?_
    refine lv_icmp_ne (tgt := 64) hC.1 hC.2.1 dX1_beyond_49 (by decide) (fun hc => ?_) (fun hc => ?_)
    · replace h := xf hc h
      refine lv_bipush (v := -9) hC.1 hC.2.1 dX1_beyond_64 (by decide) ?_
      obtain ⟨rfl, rfl⟩ := xr h
      exact x_iret hC hr hW hS dX1_beyond_66
    · replace h := xt hc h
      refine lv_aload_n hC.1 hC.2.1 dX1_beyond_52 rfl (lv_at hl 0 rfl) ?_
      refine x_get (C := RX1) (T := TX1) (N := 2) (v := _) hC hW 90 (by decide) rfl rfl uX1 0 (by decide) fl_X1_9 rfl rfl dX1_beyond_53 ?_
      refine x_get (C := RX2) (T := TX2) (N := 12) (v := _) hC hW 3 (by decide) rfl rfl uX2 4 (by decide) fl_X1_79 rfl rfl dX1_beyond_56 ?_
      refine lv_iload_n hC.1 hC.2.1 dX1_beyond_59 rfl (lv_at hl 2 rfl) ?_
      obtain ⟨hi, h⟩ := xg h
      refine x_iald hC hW 4 (by decide) rfl hi dX1_beyond_60 ?_
      refine lv_goto (tgt := 66) hC.1 hC.2.1 dX1_beyond_61 (by decide) ?_
      obtain ⟨rfl, rfl⟩ := xr h
      exact x_iret hC hr hW hS dX1_beyond_66
  · replace h := xt hc h
    refine lv_aload_n hC.1 hC.2.1 dX1_beyond_21 rfl (lv_at hl 0 rfl) ?_
    refine x_get (C := RX1) (T := TX1) (N := 2) (v := _) hC hW 90 (by decide) rfl rfl uX1 0 (by decide) fl_X1_9 rfl rfl dX1_beyond_22 ?_
    refine x_get (C := RX2) (T := TX2) (N := 12) (v := _) hC hW 3 (by decide) rfl rfl uX2 5 (by decide) fl_X1_82 rfl rfl dX1_beyond_25 ?_
    refine lv_iload_n hC.1 hC.2.1 dX1_beyond_28 rfl (lv_at hl 2 rfl) ?_
    obtain ⟨hi, h⟩ := xg h
    refine x_iald hC hW 5 (by decide) rfl hi dX1_beyond_29 ?_
    obtain ⟨rfl, rfl⟩ := xr h
    exact x_iret hC hr hW hS dX1_beyond_30
theorem dX1_spread_0 : decode cX1_spread 0 = .ok (.iload_n 1, 1) := by decide +kernel
theorem dX1_spread_1 : decode cX1_spread 1 = .ok (.istore_n 3, 1) := by decide +kernel
theorem dX1_spread_2 : decode cX1_spread 2 = .ok (.iconst 0, 1) := by decide +kernel
theorem dX1_spread_3 : decode cX1_spread 3 = .ok (.istore 4, 2) := by decide +kernel
theorem dX1_spread_5 : decode cX1_spread 5 = .ok (.iload 4, 2) := by decide +kernel
theorem dX1_spread_7 : decode cX1_spread 7 = .ok (.aload_n 0, 1) := by decide +kernel
theorem dX1_spread_8 : decode cX1_spread 8 = .ok (.getfield 9, 3) := by decide +kernel
theorem dX1_spread_11 : decode cX1_spread 11 = .ok (.getfield 61, 3) := by decide +kernel
theorem dX1_spread_14 : decode cX1_spread 14 = .ok (.if_icmp .ge 58, 3) := by decide +kernel
theorem dX1_spread_17 : decode cX1_spread 17 = .ok (.iconst 1, 1) := by decide +kernel
theorem dX1_spread_18 : decode cX1_spread 18 = .ok (.aload_n 0, 1) := by decide +kernel
theorem dX1_spread_19 : decode cX1_spread 19 = .ok (.getfield 9, 3) := by decide +kernel
theorem dX1_spread_22 : decode cX1_spread 22 = .ok (.getfield 79, 3) := by decide +kernel
theorem dX1_spread_25 : decode cX1_spread 25 = .ok (.iload 4, 2) := by decide +kernel
theorem dX1_spread_27 : decode cX1_spread 27 = .ok (.iaload, 1) := by decide +kernel
theorem dX1_spread_28 : decode cX1_spread 28 = .ok (.ishl, 1) := by decide +kernel
theorem dX1_spread_29 : decode cX1_spread 29 = .ok (.iconst 1, 1) := by decide +kernel
theorem dX1_spread_30 : decode cX1_spread 30 = .ok (.aload_n 0, 1) := by decide +kernel
theorem dX1_spread_31 : decode cX1_spread 31 = .ok (.getfield 9, 3) := by decide +kernel
theorem dX1_spread_34 : decode cX1_spread 34 = .ok (.getfield 82, 3) := by decide +kernel
theorem dX1_spread_37 : decode cX1_spread 37 = .ok (.iload 4, 2) := by decide +kernel
theorem dX1_spread_39 : decode cX1_spread 39 = .ok (.iaload, 1) := by decide +kernel
theorem dX1_spread_40 : decode cX1_spread 40 = .ok (.ishl, 1) := by decide +kernel
theorem dX1_spread_41 : decode cX1_spread 41 = .ok (.ior, 1) := by decide +kernel
theorem dX1_spread_42 : decode cX1_spread 42 = .ok (.istore 5, 2) := by decide +kernel
theorem dX1_spread_44 : decode cX1_spread 44 = .ok (.iload_n 2, 1) := by decide +kernel
theorem dX1_spread_45 : decode cX1_spread 45 = .ok (.iload 4, 2) := by decide +kernel
theorem dX1_spread_47 : decode cX1_spread 47 = .ok (.ishr, 1) := by decide +kernel
theorem dX1_spread_48 : decode cX1_spread 48 = .ok (.iconst 1, 1) := by decide +kernel
theorem dX1_spread_49 : decode cX1_spread 49 = .ok (.iand, 1) := by decide +kernel
theorem dX1_spread_50 : decode cX1_spread 50 = .ok (.iconst 1, 1) := by decide +kernel
theorem dX1_spread_51 : decode cX1_spread 51 = .ok (.if_icmp .ne 15, 3) := by decide +kernel
theorem dX1_spread_54 : decode cX1_spread 54 = .ok (.iload_n 1, 1) := by decide +kernel
theorem dX1_spread_55 : decode cX1_spread 55 = .ok (.iload 5, 2) := by decide +kernel
theorem dX1_spread_57 : decode cX1_spread 57 = .ok (.iand, 1) := by decide +kernel
theorem dX1_spread_58 : decode cX1_spread 58 = .ok (.ifCond .eq 8, 3) := by decide +kernel
theorem dX1_spread_61 : decode cX1_spread 61 = .ok (.iload_n 3, 1) := by decide +kernel
theorem dX1_spread_62 : decode cX1_spread 62 = .ok (.iload 5, 2) := by decide +kernel
theorem dX1_spread_64 : decode cX1_spread 64 = .ok (.ior, 1) := by decide +kernel
theorem dX1_spread_65 : decode cX1_spread 65 = .ok (.istore_n 3, 1) := by decide +kernel
theorem dX1_spread_66 : decode cX1_spread 66 = .ok (.iinc 4 1, 3) := by decide +kernel
theorem dX1_spread_69 : decode cX1_spread 69 = .ok (.goto (-64), 3) := by decide +kernel
theorem dX1_spread_72 : decode cX1_spread 72 = .ok (.iload_n 3, 1) := by decide +kernel
theorem dX1_spread_73 : decode cX1_spread 73 = .ok (.ireturn, 1) := by decide +kernel
abbrev rX1_spread : Room := { frames := 0, cells := 0, slots := 0, locals := 0 }
set_option maxHeartbeats 4000000 in
set_option maxRecDepth 100000 in
theorem w_X1_spread_5 {p : Program} {l : Launch} {e : Env} {s : State} {m : MethodId} {args : Array Value} {below : List Frame} {meth : Method} {c : Code} {D : va_G} {b : Nat} {cs : Cs3} {r : Int32} {S1 : St} (hC : CX p s m args meth c RX1 cX1_spread 6 D cs) (hr : meth.sig.returnType = (some .int)) : ∀ (n : Nat) (x1 : Int32) (x2 : Int32) (x3 : Int32) (x4 : Int32) (S : St) (H : Heap) (locs : List Loc) (ls : Array Slot), q_X1_spread_5 n x1 x2 x3 x4 S = some (r, S1) → Wd D b cs S H → va_S (AA b) s.heap H locs → lv_has ls 6 [(0, .ref (b + 90)), (1, .int x1), (2, .int x2), (3, .int x3), (4, .int x4)] → W p l e rX1_spread s m args below meth c H locs 0 0 (MQ below (QX D b cs (some (.int r)) S1) args s 0 0 (AA b)) (F0 m 5 ls []) := by
  intro n
  induction n with
  | zero =>
    intro x1 x2 x3 x4 S H locs ls h
    exact absurd h (by rw [q_X1_spread_5]; exact fun q => nomatch q)
  | succ n IH =>
    intro x1 x2 x3 x4 S H locs ls h hW hS hl
    rw [q_X1_spread_5] at h
    refine lv_iload hC.1 hC.2.1 dX1_spread_5 (lv_at hl 4 rfl) ?_
    refine lv_aload_n hC.1 hC.2.1 dX1_spread_7 rfl (lv_at hl 0 rfl) ?_
    refine x_get (C := RX1) (T := TX1) (N := 2) (v := _) hC hW 90 (by decide) rfl rfl uX1 0 (by decide) fl_X1_9 rfl rfl dX1_spread_8 ?_
    refine x_get (C := RX2) (T := TX2) (N := 12) (v := _) hC hW 3 (by decide) rfl rfl uX2 1 (by decide) fl_X1_61 rfl rfl dX1_spread_11 ?_
    refine lv_icmp_ge (tgt := 72) hC.1 hC.2.1 dX1_spread_14 (by decide) (fun hc => ?_) (fun hc => ?_)
    · replace h := xt hc h
      refine lv_iload_n hC.1 hC.2.1 dX1_spread_72 rfl (lv_at hl 3 rfl) ?_
      obtain ⟨rfl, rfl⟩ := xr h
      exact x_iret hC hr hW hS dX1_spread_73
    · replace h := xf hc h
      refine lv_iconst (v := 1) hC.1 hC.2.1 dX1_spread_17 (by decide) ?_
      refine lv_aload_n hC.1 hC.2.1 dX1_spread_18 rfl (lv_at hl 0 rfl) ?_
      refine x_get (C := RX1) (T := TX1) (N := 2) (v := _) hC hW 90 (by decide) rfl rfl uX1 0 (by decide) fl_X1_9 rfl rfl dX1_spread_19 ?_
      refine x_get (C := RX2) (T := TX2) (N := 12) (v := _) hC hW 3 (by decide) rfl rfl uX2 4 (by decide) fl_X1_79 rfl rfl dX1_spread_22 ?_
      refine lv_iload hC.1 hC.2.1 dX1_spread_25 (lv_at hl 4 rfl) ?_
      obtain ⟨hi, h⟩ := xg h
      refine x_iald hC hW 4 (by decide) rfl hi dX1_spread_27 ?_
      refine lv_ishl hC.1 hC.2.1 dX1_spread_28 ?_
      refine lv_iconst (v := 1) hC.1 hC.2.1 dX1_spread_29 (by decide) ?_
      refine lv_aload_n hC.1 hC.2.1 dX1_spread_30 rfl (lv_at hl 0 rfl) ?_
      refine x_get (C := RX1) (T := TX1) (N := 2) (v := _) hC hW 90 (by decide) rfl rfl uX1 0 (by decide) fl_X1_9 rfl rfl dX1_spread_31 ?_
      refine x_get (C := RX2) (T := TX2) (N := 12) (v := _) hC hW 3 (by decide) rfl rfl uX2 5 (by decide) fl_X1_82 rfl rfl dX1_spread_34 ?_
      refine lv_iload hC.1 hC.2.1 dX1_spread_37 (lv_at hl 4 rfl) ?_
      obtain ⟨hi, h⟩ := xg h
      refine x_iald hC hW 5 (by decide) rfl hi dX1_spread_39 ?_
      refine lv_ishl hC.1 hC.2.1 dX1_spread_40 ?_
      refine lv_ior hC.1 hC.2.1 dX1_spread_41 ?_
      refine lv_istore (lv' := [(5, .int (((1 : Int32) <<< ((S.1 4 x4.toNatClampNeg) &&& 31)) ||| ((1 : Int32) <<< ((S.1 5 x4.toNatClampNeg) &&& 31)))), (0, .ref (b + 90)), (1, .int x1), (2, .int x2), (3, .int x3), (4, .int x4)]) hC.1 hC.2.1 dX1_spread_42 hl (by decide) rfl (fun ls hl => ?_)
      refine lv_iload_n hC.1 hC.2.1 dX1_spread_44 rfl (lv_at hl 3 rfl) ?_
      refine lv_iload hC.1 hC.2.1 dX1_spread_45 (lv_at hl 5 rfl) ?_
      refine lv_ishr hC.1 hC.2.1 dX1_spread_47 ?_
      refine lv_iconst (v := 1) hC.1 hC.2.1 dX1_spread_48 (by decide) ?_
      refine lv_iand hC.1 hC.2.1 dX1_spread_49 ?_
      refine lv_iconst (v := 1) hC.1 hC.2.1 dX1_spread_50 (by decide) ?_
      refine lv_icmp_ne (tgt := 66) hC.1 hC.2.1 dX1_spread_51 (by decide) (fun hc => ?_) (fun hc => ?_)
      · replace h := xf hc h
        refine lv_iinc (v := x4 + 1) (lv' := [(4, .int (x4 + 1)), (5, .int (((1 : Int32) <<< ((S.1 4 x4.toNatClampNeg) &&& 31)) ||| ((1 : Int32) <<< ((S.1 5 x4.toNatClampNeg) &&& 31)))), (0, .ref (b + 90)), (1, .int x1), (2, .int x2), (3, .int x3)]) hC.1 hC.2.1 dX1_spread_66 hl (k := 5) rfl rfl (by decide) rfl (fun ls hl => ?_)
        refine lv_goto (tgt := 5) hC.1 hC.2.1 dX1_spread_69 (by decide) ?_
        exact IH _ _ _ _ _ _ _ _ h hW hS (lv_sub hl [2, 3, 4, 5, 0] rfl)
      · replace h := xt hc h
        refine lv_iload_n hC.1 hC.2.1 dX1_spread_54 rfl (lv_at hl 2 rfl) ?_
        refine lv_iload hC.1 hC.2.1 dX1_spread_55 (lv_at hl 0 rfl) ?_
        refine lv_iand hC.1 hC.2.1 dX1_spread_57 ?_
        refine lv_if_eq (tgt := 66) hC.1 hC.2.1 dX1_spread_58 (by decide) (fun hc => ?_) (fun hc => ?_)
        · replace h := xt hc h
          refine lv_iinc (v := x4 + 1) (lv' := [(4, .int (x4 + 1)), (5, .int (((1 : Int32) <<< ((S.1 4 x4.toNatClampNeg) &&& 31)) ||| ((1 : Int32) <<< ((S.1 5 x4.toNatClampNeg) &&& 31)))), (0, .ref (b + 90)), (1, .int x1), (2, .int x2), (3, .int x3)]) hC.1 hC.2.1 dX1_spread_66 hl (k := 5) rfl rfl (by decide) rfl (fun ls hl => ?_)
          refine lv_goto (tgt := 5) hC.1 hC.2.1 dX1_spread_69 (by decide) ?_
          exact IH _ _ _ _ _ _ _ _ h hW hS (lv_sub hl [2, 3, 4, 5, 0] rfl)
        · replace h := xf hc h
          refine lv_iload_n hC.1 hC.2.1 dX1_spread_61 rfl (lv_at hl 4 rfl) ?_
          refine lv_iload hC.1 hC.2.1 dX1_spread_62 (lv_at hl 0 rfl) ?_
          refine lv_ior hC.1 hC.2.1 dX1_spread_64 ?_
          refine lv_istore_n (lv' := [(3, .int (x3 ||| (((1 : Int32) <<< ((S.1 4 x4.toNatClampNeg) &&& 31)) ||| ((1 : Int32) <<< ((S.1 5 x4.toNatClampNeg) &&& 31))))), (5, .int (((1 : Int32) <<< ((S.1 4 x4.toNatClampNeg) &&& 31)) ||| ((1 : Int32) <<< ((S.1 5 x4.toNatClampNeg) &&& 31)))), (0, .ref (b + 90)), (1, .int x1), (2, .int x2), (4, .int x4)]) hC.1 hC.2.1 dX1_spread_65 rfl hl (by decide) rfl (fun ls hl => ?_)
          refine lv_iinc (v := x4 + 1) (lv' := [(4, .int (x4 + 1)), (3, .int (x3 ||| (((1 : Int32) <<< ((S.1 4 x4.toNatClampNeg) &&& 31)) ||| ((1 : Int32) <<< ((S.1 5 x4.toNatClampNeg) &&& 31))))), (5, .int (((1 : Int32) <<< ((S.1 4 x4.toNatClampNeg) &&& 31)) ||| ((1 : Int32) <<< ((S.1 5 x4.toNatClampNeg) &&& 31)))), (0, .ref (b + 90)), (1, .int x1), (2, .int x2)]) hC.1 hC.2.1 dX1_spread_66 hl (k := 5) rfl rfl (by decide) rfl (fun ls hl => ?_)
          refine lv_goto (tgt := 5) hC.1 hC.2.1 dX1_spread_69 (by decide) ?_
          exact IH _ _ _ _ _ _ _ _ h hW hS (lv_sub hl [3, 4, 5, 1, 0] rfl)
set_option maxHeartbeats 4000000 in
set_option maxRecDepth 100000 in
theorem c_X1_spread (l : Launch) (D : va_G) (b : Nat) (cs : Cs3) (x1 : Int32) (x2 : Int32) (S S1 : St) (r : Int32) (h : p_X1_spread x1 x2 S = some (r, S1)) : Ct l yX1_spread cX1_spread 6 (some .int) rX1_spread D b cs [.ref (b + 90), .int x1, .int x2] S (some (.int r)) S1 := by
  refine x_met (by decide +kernel) (Nat.le_of_ble_eq_true rfl) ?_
  intro p e s m below meth c ls hC hr hW hS hl
  have hl : lv_has ls 6 [(0, .ref (b + 90)), (1, .int x1), (2, .int x2)] := hl
  rw [p_X1_spread] at h
  refine lv_iload_n hC.1 hC.2.1 dX1_spread_0 rfl (lv_at hl 1 rfl) ?_
  refine lv_istore_n (lv' := [(3, .int x1), (0, .ref (b + 90)), (1, .int x1), (2, .int x2)]) hC.1 hC.2.1 dX1_spread_1 rfl hl (by decide) rfl (fun ls hl => ?_)
  refine lv_iconst (v := 0) hC.1 hC.2.1 dX1_spread_2 (by decide) ?_
  refine lv_istore (lv' := [(4, .int (0 : Int32)), (3, .int x1), (0, .ref (b + 90)), (1, .int x1), (2, .int x2)]) hC.1 hC.2.1 dX1_spread_3 hl (by decide) rfl (fun ls hl => ?_)
  exact w_X1_spread_5 hC hr _ _ _ _ _ _ _ _ _ h hW hS (lv_sub hl [2, 3, 4, 1, 0] rfl)
theorem dX1_reach_0 : decode cX1_reach 0 = .ok (.aload_n 0, 1) := by decide +kernel
theorem dX1_reach_1 : decode cX1_reach 1 = .ok (.iload_n 1, 1) := by decide +kernel
theorem dX1_reach_2 : decode cX1_reach 2 = .ok (.iload_n 2, 1) := by decide +kernel
theorem dX1_reach_3 : decode cX1_reach 3 = .ok (.invokevirtual 85, 3) := by decide +kernel
theorem dX1_reach_6 : decode cX1_reach 6 = .ok (.istore_n 3, 1) := by decide +kernel
theorem dX1_reach_7 : decode cX1_reach 7 = .ok (.iconst 1, 1) := by decide +kernel
theorem dX1_reach_8 : decode cX1_reach 8 = .ok (.aload_n 0, 1) := by decide +kernel
theorem dX1_reach_9 : decode cX1_reach 9 = .ok (.getfield 15, 3) := by decide +kernel
theorem dX1_reach_12 : decode cX1_reach 12 = .ok (.getfield 73, 3) := by decide +kernel
theorem dX1_reach_15 : decode cX1_reach 15 = .ok (.iload_n 1, 1) := by decide +kernel
theorem dX1_reach_16 : decode cX1_reach 16 = .ok (.iaload, 1) := by decide +kernel
theorem dX1_reach_17 : decode cX1_reach 17 = .ok (.ishl, 1) := by decide +kernel
theorem dX1_reach_18 : decode cX1_reach 18 = .ok (.istore 4, 2) := by decide +kernel
theorem dX1_reach_20 : decode cX1_reach 20 = .ok (.iconst 1, 1) := by decide +kernel
theorem dX1_reach_21 : decode cX1_reach 21 = .ok (.istore 5, 2) := by decide +kernel
theorem dX1_reach_23 : decode cX1_reach 23 = .ok (.iload 5, 2) := by decide +kernel
theorem dX1_reach_25 : decode cX1_reach 25 = .ok (.aload_n 0, 1) := by decide +kernel
theorem dX1_reach_26 : decode cX1_reach 26 = .ok (.getfield 9, 3) := by decide +kernel
theorem dX1_reach_29 : decode cX1_reach 29 = .ok (.getfield 88, 3) := by decide +kernel
theorem dX1_reach_32 : decode cX1_reach 32 = .ok (.if_icmp .ge 18, 3) := by decide +kernel
theorem dX1_reach_35 : decode cX1_reach 35 = .ok (.aload_n 0, 1) := by decide +kernel
theorem dX1_reach_36 : decode cX1_reach 36 = .ok (.iload 4, 2) := by decide +kernel
theorem dX1_reach_38 : decode cX1_reach 38 = .ok (.iload_n 3, 1) := by decide +kernel
theorem dX1_reach_39 : decode cX1_reach 39 = .ok (.invokevirtual 91, 3) := by decide +kernel
theorem dX1_reach_42 : decode cX1_reach 42 = .ok (.istore 4, 2) := by decide +kernel
theorem dX1_reach_44 : decode cX1_reach 44 = .ok (.iinc 5 1, 3) := by decide +kernel
theorem dX1_reach_47 : decode cX1_reach 47 = .ok (.goto (-24), 3) := by decide +kernel
theorem dX1_reach_50 : decode cX1_reach 50 = .ok (.iload 4, 2) := by decide +kernel
theorem dX1_reach_52 : decode cX1_reach 52 = .ok (.ireturn, 1) := by decide +kernel
abbrev rX1_reach : Room := { frames := 3, cells := 0, slots := 0, locals := 71 }
set_option maxHeartbeats 4000000 in
set_option maxRecDepth 100000 in
theorem w_X1_reach_23 {p : Program} {l : Launch} {e : Env} {s : State} {m : MethodId} {args : Array Value} {below : List Frame} {meth : Method} {c : Code} {D : va_G} {b : Nat} {cs : Cs3} {r : Int32} {S1 : St} (hC : CX p s m args meth c RX1 cX1_reach 6 D cs) (hr : meth.sig.returnType = (some .int)) : ∀ (n : Nat) (x3 : Int32) (x4 : Int32) (x5 : Int32) (S : St) (H : Heap) (locs : List Loc) (ls : Array Slot), q_X1_reach_23 n x3 x4 x5 S = some (r, S1) → Wd D b cs S H → va_S (AA b) s.heap H locs → lv_has ls 6 [(0, .ref (b + 90)), (3, .int x3), (4, .int x4), (5, .int x5)] → W p l e rX1_reach s m args below meth c H locs 0 0 (MQ below (QX D b cs (some (.int r)) S1) args s 0 0 (AA b)) (F0 m 23 ls []) := by
  intro n
  induction n with
  | zero =>
    intro x3 x4 x5 S H locs ls h
    exact absurd h (by rw [q_X1_reach_23]; exact fun q => nomatch q)
  | succ n IH =>
    intro x3 x4 x5 S H locs ls h hW hS hl
    rw [q_X1_reach_23] at h
    refine lv_iload hC.1 hC.2.1 dX1_reach_23 (lv_at hl 3 rfl) ?_
    refine lv_aload_n hC.1 hC.2.1 dX1_reach_25 rfl (lv_at hl 0 rfl) ?_
    refine x_get (C := RX1) (T := TX1) (N := 2) (v := _) hC hW 90 (by decide) rfl rfl uX1 0 (by decide) fl_X1_9 rfl rfl dX1_reach_26 ?_
    refine x_get (C := RX2) (T := TX2) (N := 12) (v := _) hC hW 3 (by decide) rfl rfl uX2 0 (by decide) fl_X1_88 rfl rfl dX1_reach_29 ?_
    refine lv_icmp_ge (tgt := 50) hC.1 hC.2.1 dX1_reach_32 (by decide) (fun hc => ?_) (fun hc => ?_)
    · replace h := xt hc h
      refine lv_iload hC.1 hC.2.1 dX1_reach_50 (lv_at hl 2 rfl) ?_
      obtain ⟨rfl, rfl⟩ := xr h
      exact x_iret hC hr hW hS dX1_reach_52
    · replace h := xf hc h
      refine lv_aload_n hC.1 hC.2.1 dX1_reach_35 rfl (lv_at hl 0 rfl) ?_
      refine lv_iload hC.1 hC.2.1 dX1_reach_36 (lv_at hl 2 rfl) ?_
      refine lv_iload_n hC.1 hC.2.1 dX1_reach_38 rfl (lv_at hl 1 rfl) ?_
      obtain ⟨⟨q39_r, q39_S⟩, hq, h⟩ := xb h
      try dsimp only at h
      refine x_callV (T := TX1) (N := 2) (As := [.int x4, .int x3]) (rest := []) hC hW hS 90 (c_X1_spread l D b cs _ _ _ _ _ hq) (by decide) rfl rfl mi_X1_spread in_X1_spread sl_X1_spread ml_X1_91 ⟨rfl, rfl⟩ ⟨Nat.le_of_ble_eq_true rfl, Nat.le_of_ble_eq_true rfl⟩ ⟨Nat.zero_le _, Nat.zero_le _⟩ rfl rfl hl.1 (Nat.le_of_ble_eq_true rfl) dX1_reach_39 (fun H locs hW hS => ?_)
      refine lv_istore (lv' := [(4, .int q39_r), (0, .ref (b + 90)), (3, .int x3), (5, .int x5)]) hC.1 hC.2.1 dX1_reach_42 hl (by decide) rfl (fun ls hl => ?_)
      refine lv_iinc (v := x5 + 1) (lv' := [(5, .int (x5 + 1)), (4, .int q39_r), (0, .ref (b + 90)), (3, .int x3)]) hC.1 hC.2.1 dX1_reach_44 hl (k := 3) rfl rfl (by decide) rfl (fun ls hl => ?_)
      refine lv_goto (tgt := 23) hC.1 hC.2.1 dX1_reach_47 (by decide) ?_
      exact IH _ _ _ _ _ _ _ h hW hS (lv_sub hl [2, 3, 1, 0] rfl)
set_option maxHeartbeats 4000000 in
set_option maxRecDepth 100000 in
theorem c_X1_reach (l : Launch) (D : va_G) (b : Nat) (cs : Cs3) (x1 : Int32) (x2 : Int32) (S S1 : St) (r : Int32) (h : p_X1_reach x1 x2 S = some (r, S1)) : Ct l yX1_reach cX1_reach 6 (some .int) rX1_reach D b cs [.ref (b + 90), .int x1, .int x2] S (some (.int r)) S1 := by
  refine x_met (by decide +kernel) (Nat.le_of_ble_eq_true rfl) ?_
  intro p e s m below meth c ls hC hr hW hS hl
  have hl : lv_has ls 6 [(0, .ref (b + 90)), (1, .int x1), (2, .int x2)] := hl
  rw [p_X1_reach] at h
  refine lv_aload_n hC.1 hC.2.1 dX1_reach_0 rfl (lv_at hl 0 rfl) ?_
  refine lv_iload_n hC.1 hC.2.1 dX1_reach_1 rfl (lv_at hl 1 rfl) ?_
  refine lv_iload_n hC.1 hC.2.1 dX1_reach_2 rfl (lv_at hl 2 rfl) ?_
  obtain ⟨⟨q3_r, q3_S⟩, hq, h⟩ := xb h
  try dsimp only at h
  refine x_callV (T := TX1) (N := 2) (As := [.int x1, .int x2]) (rest := []) hC hW hS 90 (c_X1_keys l D b cs _ _ _ _ _ hq) (by decide) rfl rfl mi_X1_keys in_X1_keys sl_X1_keys ml_X1_85 ⟨rfl, rfl⟩ ⟨Nat.le_of_ble_eq_true rfl, Nat.le_of_ble_eq_true rfl⟩ ⟨Nat.zero_le _, Nat.zero_le _⟩ rfl rfl hl.1 (Nat.le_of_ble_eq_true rfl) dX1_reach_3 (fun H locs hW hS => ?_)
  refine lv_istore_n (lv' := [(3, .int q3_r), (0, .ref (b + 90)), (1, .int x1), (2, .int x2)]) hC.1 hC.2.1 dX1_reach_6 rfl hl (by decide) rfl (fun ls hl => ?_)
  refine lv_iconst (v := 1) hC.1 hC.2.1 dX1_reach_7 (by decide) ?_
  refine lv_aload_n hC.1 hC.2.1 dX1_reach_8 rfl (lv_at hl 1 rfl) ?_
  refine x_get (C := RX1) (T := TX1) (N := 2) (v := _) hC hW 90 (by decide) rfl rfl uX1 1 (by decide) fl_X1_15 rfl rfl dX1_reach_9 ?_
  refine x_get (C := RX8) (T := TX8) (N := 6) (v := _) hC hW 21 (by decide) rfl rfl uX8 0 (by decide) fl_X1_73 rfl rfl dX1_reach_12 ?_
  refine lv_iload_n hC.1 hC.2.1 dX1_reach_15 rfl (lv_at hl 2 rfl) ?_
  obtain ⟨hi, h⟩ := xg h
  refine x_iald hC hW 22 (by decide) rfl hi dX1_reach_16 ?_
  refine lv_ishl hC.1 hC.2.1 dX1_reach_17 ?_
  refine lv_istore (lv' := [(4, .int ((1 : Int32) <<< ((q3_S.1 22 x1.toNatClampNeg) &&& 31))), (3, .int q3_r), (0, .ref (b + 90)), (1, .int x1), (2, .int x2)]) hC.1 hC.2.1 dX1_reach_18 hl (by decide) rfl (fun ls hl => ?_)
  refine lv_iconst (v := 1) hC.1 hC.2.1 dX1_reach_20 (by decide) ?_
  refine lv_istore (lv' := [(5, .int (1 : Int32)), (4, .int ((1 : Int32) <<< ((q3_S.1 22 x1.toNatClampNeg) &&& 31))), (3, .int q3_r), (0, .ref (b + 90)), (1, .int x1), (2, .int x2)]) hC.1 hC.2.1 dX1_reach_21 hl (by decide) rfl (fun ls hl => ?_)
  exact w_X1_reach_23 hC hr _ _ _ _ _ _ _ _ h hW hS (lv_sub hl [3, 2, 1, 0] rfl)
theorem dX1_fewestDoors_0 : decode cX1_fewestDoors 0 = .ok (.aload_n 0, 1) := by decide +kernel
theorem dX1_fewestDoors_1 : decode cX1_fewestDoors 1 = .ok (.iload_n 1, 1) := by decide +kernel
theorem dX1_fewestDoors_2 : decode cX1_fewestDoors 2 = .ok (.iconst 0, 1) := by decide +kernel
theorem dX1_fewestDoors_3 : decode cX1_fewestDoors 3 = .ok (.invokevirtual 85, 3) := by decide +kernel
theorem dX1_fewestDoors_6 : decode cX1_fewestDoors 6 = .ok (.istore_n 3, 1) := by decide +kernel
theorem dX1_fewestDoors_7 : decode cX1_fewestDoors 7 = .ok (.iconst 1, 1) := by decide +kernel
theorem dX1_fewestDoors_8 : decode cX1_fewestDoors 8 = .ok (.aload_n 0, 1) := by decide +kernel
theorem dX1_fewestDoors_9 : decode cX1_fewestDoors 9 = .ok (.getfield 15, 3) := by decide +kernel
theorem dX1_fewestDoors_12 : decode cX1_fewestDoors 12 = .ok (.getfield 73, 3) := by decide +kernel
theorem dX1_fewestDoors_15 : decode cX1_fewestDoors 15 = .ok (.iload_n 1, 1) := by decide +kernel
theorem dX1_fewestDoors_16 : decode cX1_fewestDoors 16 = .ok (.iaload, 1) := by decide +kernel
theorem dX1_fewestDoors_17 : decode cX1_fewestDoors 17 = .ok (.ishl, 1) := by decide +kernel
theorem dX1_fewestDoors_18 : decode cX1_fewestDoors 18 = .ok (.istore 4, 2) := by decide +kernel
theorem dX1_fewestDoors_20 : decode cX1_fewestDoors 20 = .ok (.iconst 0, 1) := by decide +kernel
theorem dX1_fewestDoors_21 : decode cX1_fewestDoors 21 = .ok (.istore 5, 2) := by decide +kernel
theorem dX1_fewestDoors_23 : decode cX1_fewestDoors 23 = .ok (.iload 5, 2) := by decide +kernel
theorem dX1_fewestDoors_25 : decode cX1_fewestDoors 25 = .ok (.aload_n 0, 1) := by decide +kernel
theorem dX1_fewestDoors_26 : decode cX1_fewestDoors 26 = .ok (.getfield 9, 3) := by decide +kernel
theorem dX1_fewestDoors_29 : decode cX1_fewestDoors 29 = .ok (.getfield 88, 3) := by decide +kernel
theorem dX1_fewestDoors_32 : decode cX1_fewestDoors 32 = .ok (.if_icmp .ge 31, 3) := by decide +kernel
theorem dX1_fewestDoors_35 : decode cX1_fewestDoors 35 = .ok (.iload 4, 2) := by decide +kernel
theorem dX1_fewestDoors_37 : decode cX1_fewestDoors 37 = .ok (.iload_n 2, 1) := by decide +kernel
theorem dX1_fewestDoors_38 : decode cX1_fewestDoors 38 = .ok (.ishr, 1) := by decide +kernel
theorem dX1_fewestDoors_39 : decode cX1_fewestDoors 39 = .ok (.iconst 1, 1) := by decide +kernel
theorem dX1_fewestDoors_40 : decode cX1_fewestDoors 40 = .ok (.iand, 1) := by decide +kernel
theorem dX1_fewestDoors_41 : decode cX1_fewestDoors 41 = .ok (.iconst 1, 1) := by decide +kernel
theorem dX1_fewestDoors_42 : decode cX1_fewestDoors 42 = .ok (.if_icmp .ne 6, 3) := by decide +kernel
theorem dX1_fewestDoors_45 : decode cX1_fewestDoors 45 = .ok (.iload 5, 2) := by decide +kernel
theorem dX1_fewestDoors_47 : decode cX1_fewestDoors 47 = .ok (.ireturn, 1) := by decide +kernel
theorem dX1_fewestDoors_48 : decode cX1_fewestDoors 48 = .ok (.aload_n 0, 1) := by decide +kernel
theorem dX1_fewestDoors_49 : decode cX1_fewestDoors 49 = .ok (.iload 4, 2) := by decide +kernel
theorem dX1_fewestDoors_51 : decode cX1_fewestDoors 51 = .ok (.iload_n 3, 1) := by decide +kernel
theorem dX1_fewestDoors_52 : decode cX1_fewestDoors 52 = .ok (.invokevirtual 91, 3) := by decide +kernel
theorem dX1_fewestDoors_55 : decode cX1_fewestDoors 55 = .ok (.istore 4, 2) := by decide +kernel
theorem dX1_fewestDoors_57 : decode cX1_fewestDoors 57 = .ok (.iinc 5 1, 3) := by decide +kernel
theorem dX1_fewestDoors_60 : decode cX1_fewestDoors 60 = .ok (.goto (-37), 3) := by decide +kernel
theorem dX1_fewestDoors_63 : decode cX1_fewestDoors 63 = .ok (.bipush (-9), 2) := by decide +kernel
theorem dX1_fewestDoors_65 : decode cX1_fewestDoors 65 = .ok (.ireturn, 1) := by decide +kernel
abbrev rX1_fewestDoors : Room := { frames := 3, cells := 0, slots := 0, locals := 71 }
set_option maxHeartbeats 4000000 in
set_option maxRecDepth 100000 in
theorem w_X1_fewestDoors_23 {p : Program} {l : Launch} {e : Env} {s : State} {m : MethodId} {args : Array Value} {below : List Frame} {meth : Method} {c : Code} {D : va_G} {b : Nat} {cs : Cs3} {r : Int32} {S1 : St} (hC : CX p s m args meth c RX1 cX1_fewestDoors 6 D cs) (hr : meth.sig.returnType = (some .int)) : ∀ (n : Nat) (x2 : Int32) (x3 : Int32) (x4 : Int32) (x5 : Int32) (S : St) (H : Heap) (locs : List Loc) (ls : Array Slot), q_X1_fewestDoors_23 n x2 x3 x4 x5 S = some (r, S1) → Wd D b cs S H → va_S (AA b) s.heap H locs → lv_has ls 6 [(0, .ref (b + 90)), (2, .int x2), (3, .int x3), (4, .int x4), (5, .int x5)] → W p l e rX1_fewestDoors s m args below meth c H locs 0 0 (MQ below (QX D b cs (some (.int r)) S1) args s 0 0 (AA b)) (F0 m 23 ls []) := by
  intro n
  induction n with
  | zero =>
    intro x2 x3 x4 x5 S H locs ls h
    exact absurd h (by rw [q_X1_fewestDoors_23]; exact fun q => nomatch q)
  | succ n IH =>
    intro x2 x3 x4 x5 S H locs ls h hW hS hl
    rw [q_X1_fewestDoors_23] at h
    refine lv_iload hC.1 hC.2.1 dX1_fewestDoors_23 (lv_at hl 4 rfl) ?_
    refine lv_aload_n hC.1 hC.2.1 dX1_fewestDoors_25 rfl (lv_at hl 0 rfl) ?_
    refine x_get (C := RX1) (T := TX1) (N := 2) (v := _) hC hW 90 (by decide) rfl rfl uX1 0 (by decide) fl_X1_9 rfl rfl dX1_fewestDoors_26 ?_
    refine x_get (C := RX2) (T := TX2) (N := 12) (v := _) hC hW 3 (by decide) rfl rfl uX2 0 (by decide) fl_X1_88 rfl rfl dX1_fewestDoors_29 ?_
    refine lv_icmp_ge (tgt := 63) hC.1 hC.2.1 dX1_fewestDoors_32 (by decide) (fun hc => ?_) (fun hc => ?_)
    · replace h := xt hc h
      refine lv_bipush (v := -9) hC.1 hC.2.1 dX1_fewestDoors_63 (by decide) ?_
      obtain ⟨rfl, rfl⟩ := xr h
      exact x_iret hC hr hW hS dX1_fewestDoors_65
    · replace h := xf hc h
      refine lv_iload hC.1 hC.2.1 dX1_fewestDoors_35 (lv_at hl 3 rfl) ?_
      refine lv_iload_n hC.1 hC.2.1 dX1_fewestDoors_37 rfl (lv_at hl 1 rfl) ?_
      refine lv_ishr hC.1 hC.2.1 dX1_fewestDoors_38 ?_
      refine lv_iconst (v := 1) hC.1 hC.2.1 dX1_fewestDoors_39 (by decide) ?_
      refine lv_iand hC.1 hC.2.1 dX1_fewestDoors_40 ?_
      refine lv_iconst (v := 1) hC.1 hC.2.1 dX1_fewestDoors_41 (by decide) ?_
      refine lv_icmp_ne (tgt := 48) hC.1 hC.2.1 dX1_fewestDoors_42 (by decide) (fun hc => ?_) (fun hc => ?_)
      · replace h := xf hc h
        refine lv_aload_n hC.1 hC.2.1 dX1_fewestDoors_48 rfl (lv_at hl 0 rfl) ?_
        refine lv_iload hC.1 hC.2.1 dX1_fewestDoors_49 (lv_at hl 3 rfl) ?_
        refine lv_iload_n hC.1 hC.2.1 dX1_fewestDoors_51 rfl (lv_at hl 2 rfl) ?_
        obtain ⟨⟨q52_r, q52_S⟩, hq, h⟩ := xb h
        try dsimp only at h
        refine x_callV (T := TX1) (N := 2) (As := [.int x4, .int x3]) (rest := []) hC hW hS 90 (c_X1_spread l D b cs _ _ _ _ _ hq) (by decide) rfl rfl mi_X1_spread in_X1_spread sl_X1_spread ml_X1_91 ⟨rfl, rfl⟩ ⟨Nat.le_of_ble_eq_true rfl, Nat.le_of_ble_eq_true rfl⟩ ⟨Nat.zero_le _, Nat.zero_le _⟩ rfl rfl hl.1 (Nat.le_of_ble_eq_true rfl) dX1_fewestDoors_52 (fun H locs hW hS => ?_)
        refine lv_istore (lv' := [(4, .int q52_r), (0, .ref (b + 90)), (2, .int x2), (3, .int x3), (5, .int x5)]) hC.1 hC.2.1 dX1_fewestDoors_55 hl (by decide) rfl (fun ls hl => ?_)
        refine lv_iinc (v := x5 + 1) (lv' := [(5, .int (x5 + 1)), (4, .int q52_r), (0, .ref (b + 90)), (2, .int x2), (3, .int x3)]) hC.1 hC.2.1 dX1_fewestDoors_57 hl (k := 4) rfl rfl (by decide) rfl (fun ls hl => ?_)
        refine lv_goto (tgt := 23) hC.1 hC.2.1 dX1_fewestDoors_60 (by decide) ?_
        exact IH _ _ _ _ _ _ _ _ h hW hS (lv_sub hl [2, 3, 4, 1, 0] rfl)
      · replace h := xt hc h
        refine lv_iload hC.1 hC.2.1 dX1_fewestDoors_45 (lv_at hl 4 rfl) ?_
        obtain ⟨rfl, rfl⟩ := xr h
        exact x_iret hC hr hW hS dX1_fewestDoors_47
set_option maxHeartbeats 4000000 in
set_option maxRecDepth 100000 in
theorem c_X1_fewestDoors (l : Launch) (D : va_G) (b : Nat) (cs : Cs3) (x1 : Int32) (x2 : Int32) (S S1 : St) (r : Int32) (h : p_X1_fewestDoors x1 x2 S = some (r, S1)) : Ct l yX1_fewestDoors cX1_fewestDoors 6 (some .int) rX1_fewestDoors D b cs [.ref (b + 90), .int x1, .int x2] S (some (.int r)) S1 := by
  refine x_met (by decide +kernel) (Nat.le_of_ble_eq_true rfl) ?_
  intro p e s m below meth c ls hC hr hW hS hl
  have hl : lv_has ls 6 [(0, .ref (b + 90)), (1, .int x1), (2, .int x2)] := hl
  rw [p_X1_fewestDoors] at h
  refine lv_aload_n hC.1 hC.2.1 dX1_fewestDoors_0 rfl (lv_at hl 0 rfl) ?_
  refine lv_iload_n hC.1 hC.2.1 dX1_fewestDoors_1 rfl (lv_at hl 1 rfl) ?_
  refine lv_iconst (v := 0) hC.1 hC.2.1 dX1_fewestDoors_2 (by decide) ?_
  obtain ⟨⟨q3_r, q3_S⟩, hq, h⟩ := xb h
  try dsimp only at h
  refine x_callV (T := TX1) (N := 2) (As := [.int x1, .int (0 : Int32)]) (rest := []) hC hW hS 90 (c_X1_keys l D b cs _ _ _ _ _ hq) (by decide) rfl rfl mi_X1_keys in_X1_keys sl_X1_keys ml_X1_85 ⟨rfl, rfl⟩ ⟨Nat.le_of_ble_eq_true rfl, Nat.le_of_ble_eq_true rfl⟩ ⟨Nat.zero_le _, Nat.zero_le _⟩ rfl rfl hl.1 (Nat.le_of_ble_eq_true rfl) dX1_fewestDoors_3 (fun H locs hW hS => ?_)
  refine lv_istore_n (lv' := [(3, .int q3_r), (0, .ref (b + 90)), (1, .int x1), (2, .int x2)]) hC.1 hC.2.1 dX1_fewestDoors_6 rfl hl (by decide) rfl (fun ls hl => ?_)
  refine lv_iconst (v := 1) hC.1 hC.2.1 dX1_fewestDoors_7 (by decide) ?_
  refine lv_aload_n hC.1 hC.2.1 dX1_fewestDoors_8 rfl (lv_at hl 1 rfl) ?_
  refine x_get (C := RX1) (T := TX1) (N := 2) (v := _) hC hW 90 (by decide) rfl rfl uX1 1 (by decide) fl_X1_15 rfl rfl dX1_fewestDoors_9 ?_
  refine x_get (C := RX8) (T := TX8) (N := 6) (v := _) hC hW 21 (by decide) rfl rfl uX8 0 (by decide) fl_X1_73 rfl rfl dX1_fewestDoors_12 ?_
  refine lv_iload_n hC.1 hC.2.1 dX1_fewestDoors_15 rfl (lv_at hl 2 rfl) ?_
  obtain ⟨hi, h⟩ := xg h
  refine x_iald hC hW 22 (by decide) rfl hi dX1_fewestDoors_16 ?_
  refine lv_ishl hC.1 hC.2.1 dX1_fewestDoors_17 ?_
  refine lv_istore (lv' := [(4, .int ((1 : Int32) <<< ((q3_S.1 22 x1.toNatClampNeg) &&& 31))), (3, .int q3_r), (0, .ref (b + 90)), (1, .int x1), (2, .int x2)]) hC.1 hC.2.1 dX1_fewestDoors_18 hl (by decide) rfl (fun ls hl => ?_)
  refine lv_iconst (v := 0) hC.1 hC.2.1 dX1_fewestDoors_20 (by decide) ?_
  refine lv_istore (lv' := [(5, .int (0 : Int32)), (4, .int ((1 : Int32) <<< ((q3_S.1 22 x1.toNatClampNeg) &&& 31))), (3, .int q3_r), (0, .ref (b + 90)), (1, .int x1), (2, .int x2)]) hC.1 hC.2.1 dX1_fewestDoors_21 hl (by decide) rfl (fun ls hl => ?_)
  exact w_X1_fewestDoors_23 hC hr _ _ _ _ _ _ _ _ _ h hW hS (lv_sub hl [3, 5, 2, 1, 0] rfl)
