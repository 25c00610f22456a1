-- walks: X10_notes X10_goes X10_colds X10_props X10_year X10_michaelmas X10_undo X10_way X10_nines X10_postIn X10_standing
theorem dX10_notes_0 : decode cX10_notes 0 = .ok (.aload_n 0, 1) := by decide +kernel
theorem dX10_notes_1 : decode cX10_notes 1 = .ok (.getfield 128, 3) := by decide +kernel
theorem dX10_notes_4 : decode cX10_notes 4 = .ok (.bipush 10, 2) := by decide +kernel
theorem dX10_notes_6 : decode cX10_notes 6 = .ok (.if_icmp .ne 39, 3) := by decide +kernel
theorem dX10_notes_9 : decode cX10_notes 9 = .ok (.iconst 0, 1) := by decide +kernel
theorem dX10_notes_10 : decode cX10_notes 10 = .ok (.istore_n 1, 1) := by decide +kernel
theorem dX10_notes_11 : decode cX10_notes 11 = .ok (.iload_n 1, 1) := by decide +kernel
theorem dX10_notes_12 : decode cX10_notes 12 = .ok (.sipush 225, 3) := by decide +kernel
theorem dX10_notes_15 : decode cX10_notes 15 = .ok (.if_icmp .ge 24, 3) := by decide +kernel
theorem dX10_notes_18 : decode cX10_notes 18 = .ok (.aload_n 0, 1) := by decide +kernel
theorem dX10_notes_19 : decode cX10_notes 19 = .ok (.getfield 50, 3) := by decide +kernel
theorem dX10_notes_22 : decode cX10_notes 22 = .ok (.iload_n 1, 1) := by decide +kernel
theorem dX10_notes_23 : decode cX10_notes 23 = .ok (.aload_n 0, 1) := by decide +kernel
theorem dX10_notes_24 : decode cX10_notes 24 = .ok (.getfield 50, 3) := by decide +kernel
theorem dX10_notes_27 : decode cX10_notes 27 = .ok (.iload_n 1, 1) := by decide +kernel
theorem dX10_notes_28 : decode cX10_notes 28 = .ok (.bipush 25, 2) := by decide +kernel
theorem dX10_notes_30 : decode cX10_notes 30 = .ok (.iadd, 1) := by decide +kernel
theorem dX10_notes_31 : decode cX10_notes 31 = .ok (.iaload, 1) := by decide +kernel
theorem dX10_notes_32 : decode cX10_notes 32 = .ok (.iastore, 1) := by decide +kernel
theorem dX10_notes_33 : decode cX10_notes 33 = .ok (.iinc 1 1, 3) := by decide +kernel
theorem dX10_notes_36 : decode cX10_notes 36 = .ok (.goto (-25), 3) := by decide +kernel
theorem dX10_notes_39 : decode cX10_notes 39 = .ok (.aload_n 0, 1) := by decide +kernel
theorem dX10_notes_40 : decode cX10_notes 40 = .ok (.bipush 9, 2) := by decide +kernel
theorem dX10_notes_42 : decode cX10_notes 42 = .ok (.putfield 128, 3) := by decide +kernel
theorem dX10_notes_45 : decode cX10_notes 45 = .ok (.iconst 0, 1) := by decide +kernel
theorem dX10_notes_46 : decode cX10_notes 46 = .ok (.istore_n 1, 1) := by decide +kernel
theorem dX10_notes_47 : decode cX10_notes 47 = .ok (.iload_n 1, 1) := by decide +kernel
theorem dX10_notes_48 : decode cX10_notes 48 = .ok (.bipush 25, 2) := by decide +kernel
theorem dX10_notes_50 : decode cX10_notes 50 = .ok (.if_icmp .ge 29, 3) := by decide +kernel
theorem dX10_notes_53 : decode cX10_notes 53 = .ok (.aload_n 0, 1) := by decide +kernel
theorem dX10_notes_54 : decode cX10_notes 54 = .ok (.getfield 50, 3) := by decide +kernel
theorem dX10_notes_57 : decode cX10_notes 57 = .ok (.bipush 25, 2) := by decide +kernel
theorem dX10_notes_59 : decode cX10_notes 59 = .ok (.aload_n 0, 1) := by decide +kernel
theorem dX10_notes_60 : decode cX10_notes 60 = .ok (.getfield 128, 3) := by decide +kernel
theorem dX10_notes_63 : decode cX10_notes 63 = .ok (.imul, 1) := by decide +kernel
theorem dX10_notes_64 : decode cX10_notes 64 = .ok (.iload_n 1, 1) := by decide +kernel
theorem dX10_notes_65 : decode cX10_notes 65 = .ok (.iadd, 1) := by decide +kernel
theorem dX10_notes_66 : decode cX10_notes 66 = .ok (.aload_n 0, 1) := by decide +kernel
theorem dX10_notes_67 : decode cX10_notes 67 = .ok (.getfield 40, 3) := by decide +kernel
theorem dX10_notes_70 : decode cX10_notes 70 = .ok (.iload_n 1, 1) := by decide +kernel
theorem dX10_notes_71 : decode cX10_notes 71 = .ok (.iaload, 1) := by decide +kernel
theorem dX10_notes_72 : decode cX10_notes 72 = .ok (.iastore, 1) := by decide +kernel
theorem dX10_notes_73 : decode cX10_notes 73 = .ok (.iinc 1 1, 3) := by decide +kernel
theorem dX10_notes_76 : decode cX10_notes 76 = .ok (.goto (-29), 3) := by decide +kernel
theorem dX10_notes_79 : decode cX10_notes 79 = .ok (.aload_n 0, 1) := by decide +kernel
theorem dX10_notes_80 : decode cX10_notes 80 = .ok (.dup, 1) := by decide +kernel
theorem dX10_notes_81 : decode cX10_notes 81 = .ok (.getfield 128, 3) := by decide +kernel
theorem dX10_notes_84 : decode cX10_notes 84 = .ok (.iconst 1, 1) := by decide +kernel
theorem dX10_notes_85 : decode cX10_notes 85 = .ok (.iadd, 1) := by decide +kernel
theorem dX10_notes_86 : decode cX10_notes 86 = .ok (.putfield 128, 3) := by decide +kernel
theorem dX10_notes_89 : decode cX10_notes 89 = .ok (.return_, 1) := by decide +kernel
abbrev rX10_notes : Room := { frames := 0, cells := 0, slots := 0, locals := 0 }
set_option maxHeartbeats 4000000 in
set_option maxRecDepth 100000 in
theorem w_X10_notes_47 {p : Program} {l : Launch} {e : Env} {s : State} {m : MethodId} {args : Array Value} {below : List Frame} {meth : Method} {c : Code} {D : va_G} {b : Nat} {cs : Cs3} {S1 : St} (hC : CX p s m args meth c RX10 cX10_notes 2 D cs) (hr : meth.sig.returnType = none) : ∀ (n : Nat) (x1 : Int32) (S : St) (H : Heap) (locs : List Loc) (ls : Array Slot), q_X10_notes_47 n x1 S = some S1 → Wd D b cs S H → va_S (AA b) s.heap H locs → lv_has ls 2 [(0, .ref (b + 99)), (1, .int x1)] → W p l e rX10_notes s m args below meth c H locs 0 0 (MQ below (QX D b cs none S1) args s 0 0 (AA b)) (F0 m 47 ls []) := by
  intro n
  induction n with
  | zero =>
    intro x1 S H locs ls h
    exact absurd h (by rw [q_X10_notes_47]; exact fun q => nomatch q)
  | succ n IH =>
    intro x1 S H locs ls h hW hS hl
    rw [q_X10_notes_47] at h
    refine lv_iload_n hC.1 hC.2.1 dX10_notes_47 rfl (lv_at hl 1 rfl) ?_
    refine lv_bipush (v := 25) hC.1 hC.2.1 dX10_notes_48 (by decide) ?_
    refine lv_icmp_ge (tgt := 79) hC.1 hC.2.1 dX10_notes_50 (by decide) (fun hc => ?_) (fun hc => ?_)
    · replace h := xt hc h
      refine lv_aload_n hC.1 hC.2.1 dX10_notes_79 rfl (lv_at hl 0 rfl) ?_
      refine lv_dup hC.1 hC.2.1 dX10_notes_80 rfl ?_
      refine x_get (C := RX10) (T := TX10) (N := 27) (v := _) hC hW 99 (by decide) rfl rfl uX10 23 (by decide) fl_X10_128 rfl rfl dX10_notes_81 ?_
      refine lv_iconst (v := 1) hC.1 hC.2.1 dX10_notes_84 (by decide) ?_
      refine lv_iadd hC.1 hC.2.1 dX10_notes_85 ?_
      refine x_puti (C := RX10) (T := TX10) (N := 27) (ty := .int) hC hW hS 99 (by decide) rfl rfl uX10 tyX10 tyX10_ok nmX10 23 (by decide) fl_X10_128 rfl (by decide +kernel) rfl rfl rfl dX10_notes_86 (fun H locs hW hS => ?_)
      obtain rfl := Option.some.inj h
      exact x_vret hC hr hW hS dX10_notes_89
    · replace h := xf hc h
      refine lv_aload_n hC.1 hC.2.1 dX10_notes_53 rfl (lv_at hl 0 rfl) ?_
      refine x_get (C := RX10) (T := TX10) (N := 27) (v := _) hC hW 99 (by decide) rfl rfl uX10 22 (by decide) fl_X10_50 rfl rfl dX10_notes_54 ?_
      refine lv_bipush (v := 25) hC.1 hC.2.1 dX10_notes_57 (by decide) ?_
      refine lv_aload_n hC.1 hC.2.1 dX10_notes_59 rfl (lv_at hl 0 rfl) ?_
      refine x_get (C := RX10) (T := TX10) (N := 27) (v := _) hC hW 99 (by decide) rfl rfl uX10 23 (by decide) fl_X10_128 rfl rfl dX10_notes_60 ?_
      refine lv_imul hC.1 hC.2.1 dX10_notes_63 ?_
      refine lv_iload_n hC.1 hC.2.1 dX10_notes_64 rfl (lv_at hl 1 rfl) ?_
      refine lv_iadd hC.1 hC.2.1 dX10_notes_65 ?_
      refine lv_aload_n hC.1 hC.2.1 dX10_notes_66 rfl (lv_at hl 0 rfl) ?_
      refine x_get (C := RX10) (T := TX10) (N := 27) (v := _) hC hW 99 (by decide) rfl rfl uX10 19 (by decide) fl_X10_40 rfl rfl dX10_notes_67 ?_
      refine lv_iload_n hC.1 hC.2.1 dX10_notes_70 rfl (lv_at hl 1 rfl) ?_
      obtain ⟨hi, h⟩ := xg h
      refine x_iald hC hW 110 (by decide) rfl hi dX10_notes_71 ?_
      obtain ⟨hi, h⟩ := xg h
      refine x_iast hC hW hS 113 (by decide) rfl hi dX10_notes_72 (fun H locs hW hS => ?_)
      refine lv_iinc (v := x1 + 1) (lv' := [(1, .int (x1 + 1)), (0, .ref (b + 99))]) hC.1 hC.2.1 dX10_notes_73 hl (k := 1) rfl rfl (by decide) rfl (fun ls hl => ?_)
      refine lv_goto (tgt := 47) hC.1 hC.2.1 dX10_notes_76 (by decide) ?_
      exact IH _ _ _ _ _ h hW hS (lv_sub hl [1, 0] rfl)
set_option maxHeartbeats 4000000 in
set_option maxRecDepth 100000 in
theorem w_X10_notes_11 {p : Program} {l : Launch} {e : Env} {s : State} {m : MethodId} {args : Array Value} {below : List Frame} {meth : Method} {c : Code} {D : va_G} {b : Nat} {cs : Cs3} {S1 : St} (hC : CX p s m args meth c RX10 cX10_notes 2 D cs) (hr : meth.sig.returnType = none) : ∀ (n : Nat) (x1 : Int32) (S : St) (H : Heap) (locs : List Loc) (ls : Array Slot), q_X10_notes_11 n x1 S = some S1 → Wd D b cs S H → va_S (AA b) s.heap H locs → lv_has ls 2 [(0, .ref (b + 99)), (1, .int x1)] → W p l e rX10_notes s m args below meth c H locs 0 0 (MQ below (QX D b cs none S1) args s 0 0 (AA b)) (F0 m 11 ls []) := by
  intro n
  induction n with
  | zero =>
    intro x1 S H locs ls h
    exact absurd h (by rw [q_X10_notes_11]; exact fun q => nomatch q)
  | succ n IH =>
    intro x1 S H locs ls h hW hS hl
    rw [q_X10_notes_11] at h
    refine lv_iload_n hC.1 hC.2.1 dX10_notes_11 rfl (lv_at hl 1 rfl) ?_
    refine lv_sipush (v := 225) hC.1 hC.2.1 dX10_notes_12 (by decide) ?_
    refine lv_icmp_ge (tgt := 39) hC.1 hC.2.1 dX10_notes_15 (by decide) (fun hc => ?_) (fun hc => ?_)
    · replace h := xt hc h
      refine lv_aload_n hC.1 hC.2.1 dX10_notes_39 rfl (lv_at hl 0 rfl) ?_
      refine lv_bipush (v := 9) hC.1 hC.2.1 dX10_notes_40 (by decide) ?_
      refine x_puti (C := RX10) (T := TX10) (N := 27) (ty := .int) hC hW hS 99 (by decide) rfl rfl uX10 tyX10 tyX10_ok nmX10 23 (by decide) fl_X10_128 rfl (by decide +kernel) rfl rfl rfl dX10_notes_42 (fun H locs hW hS => ?_)
      refine lv_iconst (v := 0) hC.1 hC.2.1 dX10_notes_45 (by decide) ?_
      refine lv_istore_n (lv' := [(1, .int (0 : Int32)), (0, .ref (b + 99))]) hC.1 hC.2.1 dX10_notes_46 rfl hl (by decide) rfl (fun ls hl => ?_)
      exact w_X10_notes_47 hC hr _ _ _ _ _ _ h hW hS (lv_sub hl [1, 0] rfl)
    · replace h := xf hc h
      refine lv_aload_n hC.1 hC.2.1 dX10_notes_18 rfl (lv_at hl 0 rfl) ?_
      refine x_get (C := RX10) (T := TX10) (N := 27) (v := _) hC hW 99 (by decide) rfl rfl uX10 22 (by decide) fl_X10_50 rfl rfl dX10_notes_19 ?_
      refine lv_iload_n hC.1 hC.2.1 dX10_notes_22 rfl (lv_at hl 1 rfl) ?_
      refine lv_aload_n hC.1 hC.2.1 dX10_notes_23 rfl (lv_at hl 0 rfl) ?_
      refine x_get (C := RX10) (T := TX10) (N := 27) (v := _) hC hW 99 (by decide) rfl rfl uX10 22 (by decide) fl_X10_50 rfl rfl dX10_notes_24 ?_
      refine lv_iload_n hC.1 hC.2.1 dX10_notes_27 rfl (lv_at hl 1 rfl) ?_
      refine lv_bipush (v := 25) hC.1 hC.2.1 dX10_notes_28 (by decide) ?_
      refine lv_iadd hC.1 hC.2.1 dX10_notes_30 ?_
      obtain ⟨hi, h⟩ := xg h
      refine x_iald hC hW 113 (by decide) rfl hi dX10_notes_31 ?_
      obtain ⟨hi, h⟩ := xg h
      refine x_iast hC hW hS 113 (by decide) rfl hi dX10_notes_32 (fun H locs hW hS => ?_)
      refine lv_iinc (v := x1 + 1) (lv' := [(1, .int (x1 + 1)), (0, .ref (b + 99))]) hC.1 hC.2.1 dX10_notes_33 hl (k := 1) rfl rfl (by decide) rfl (fun ls hl => ?_)
      refine lv_goto (tgt := 11) hC.1 hC.2.1 dX10_notes_36 (by decide) ?_
      exact IH _ _ _ _ _ h hW hS (lv_sub hl [1, 0] rfl)
set_option maxHeartbeats 4000000 in
set_option maxRecDepth 100000 in
theorem c_X10_notes (l : Launch) (D : va_G) (b : Nat) (cs : Cs3) (S S1 : St) (h : p_X10_notes S = some S1) : Ct l yX10_notes cX10_notes 2 none rX10_notes D b cs [.ref (b + 99)] S none S1 := by
  refine x_met (by decide +kernel) (Nat.le_of_ble_eq_true rfl) ?_
  intro p e s m below meth c ls hC hr hW hS hl
  have hl : lv_has ls 2 [(0, .ref (b + 99))] := hl
  rw [p_X10_notes] at h
  refine lv_aload_n hC.1 hC.2.1 dX10_notes_0 rfl (lv_at hl 0 rfl) ?_
  refine x_get (C := RX10) (T := TX10) (N := 27) (v := _) hC hW 99 (by decide) rfl rfl uX10 23 (by decide) fl_X10_128 rfl rfl dX10_notes_1 ?_
  refine lv_bipush (v := 10) hC.1 hC.2.1 dX10_notes_4 (by decide) ?_
  refine lv_icmp_ne (tgt := 45) hC.1 hC.2.1 dX10_notes_6 (by decide) (fun hc => ?_) (fun hc => ?_)
  · replace h := xf hc h
    refine lv_iconst (v := 0) hC.1 hC.2.1 dX10_notes_45 (by decide) ?_
    refine lv_istore_n (lv' := [(1, .int (0 : Int32)), (0, .ref (b + 99))]) hC.1 hC.2.1 dX10_notes_46 rfl hl (by decide) rfl (fun ls hl => ?_)
    exact w_X10_notes_47 hC hr _ _ _ _ _ _ h hW hS (lv_sub hl [1, 0] rfl)
  · replace h := xt hc h
    refine lv_iconst (v := 0) hC.1 hC.2.1 dX10_notes_9 (by decide) ?_
    refine lv_istore_n (lv' := [(1, .int (0 : Int32)), (0, .ref (b + 99))]) hC.1 hC.2.1 dX10_notes_10 rfl hl (by decide) rfl (fun ls hl => ?_)
    exact w_X10_notes_11 hC hr _ _ _ _ _ _ h hW hS (lv_sub hl [1, 0] rfl)
theorem dX10_goes_0 : decode cX10_goes 0 = .ok (.aload_n 0, 1) := by decide +kernel
theorem dX10_goes_1 : decode cX10_goes 1 = .ok (.iconst 0, 1) := by decide +kernel
theorem dX10_goes_2 : decode cX10_goes 2 = .ok (.putfield 65, 3) := by decide +kernel
theorem dX10_goes_5 : decode cX10_goes 5 = .ok (.aload_n 0, 1) := by decide +kernel
theorem dX10_goes_6 : decode cX10_goes 6 = .ok (.iload_n 1, 1) := by decide +kernel
theorem dX10_goes_7 : decode cX10_goes 7 = .ok (.invokevirtual 160, 3) := by decide +kernel
theorem dX10_goes_10 : decode cX10_goes 10 = .ok (.ifCond .eq 11, 3) := by decide +kernel
theorem dX10_goes_13 : decode cX10_goes 13 = .ok (.aload_n 0, 1) := by decide +kernel
theorem dX10_goes_14 : decode cX10_goes 14 = .ok (.iload_n 2, 1) := by decide +kernel
theorem dX10_goes_15 : decode cX10_goes 15 = .ok (.invokevirtual 154, 3) := by decide +kernel
theorem dX10_goes_18 : decode cX10_goes 18 = .ok (.ifCond .ne 5, 3) := by decide +kernel
theorem dX10_goes_21 : decode cX10_goes 21 = .ok (.iconst (-1), 1) := by decide +kernel
theorem dX10_goes_22 : decode cX10_goes 22 = .ok (.ireturn, 1) := by decide +kernel
theorem dX10_goes_23 : decode cX10_goes 23 = .ok (.aload_n 0, 1) := by decide +kernel
theorem dX10_goes_24 : decode cX10_goes 24 = .ok (.getfield 40, 3) := by decide +kernel
theorem dX10_goes_27 : decode cX10_goes 27 = .ok (.iconst 0, 1) := by decide +kernel
theorem dX10_goes_28 : decode cX10_goes 28 = .ok (.iload_n 1, 1) := by decide +kernel
theorem dX10_goes_29 : decode cX10_goes 29 = .ok (.iadd, 1) := by decide +kernel
theorem dX10_goes_30 : decode cX10_goes 30 = .ok (.iaload, 1) := by decide +kernel
theorem dX10_goes_31 : decode cX10_goes 31 = .ok (.istore_n 3, 1) := by decide +kernel
theorem dX10_goes_32 : decode cX10_goes 32 = .ok (.aload_n 0, 1) := by decide +kernel
theorem dX10_goes_33 : decode cX10_goes 33 = .ok (.getfield 16, 3) := by decide +kernel
theorem dX10_goes_36 : decode cX10_goes 36 = .ok (.iload_n 2, 1) := by decide +kernel
theorem dX10_goes_37 : decode cX10_goes 37 = .ok (.iaload, 1) := by decide +kernel
theorem dX10_goes_38 : decode cX10_goes 38 = .ok (.iload_n 3, 1) := by decide +kernel
theorem dX10_goes_39 : decode cX10_goes 39 = .ok (.if_icmp .eq 13, 3) := by decide +kernel
theorem dX10_goes_42 : decode cX10_goes 42 = .ok (.aload_n 0, 1) := by decide +kernel
theorem dX10_goes_43 : decode cX10_goes 43 = .ok (.getfield 19, 3) := by decide +kernel
theorem dX10_goes_46 : decode cX10_goes 46 = .ok (.iload_n 2, 1) := by decide +kernel
theorem dX10_goes_47 : decode cX10_goes 47 = .ok (.iaload, 1) := by decide +kernel
theorem dX10_goes_48 : decode cX10_goes 48 = .ok (.iload_n 3, 1) := by decide +kernel
theorem dX10_goes_49 : decode cX10_goes 49 = .ok (.if_icmp .ne 15, 3) := by decide +kernel
theorem dX10_goes_52 : decode cX10_goes 52 = .ok (.aload_n 0, 1) := by decide +kernel
theorem dX10_goes_53 : decode cX10_goes 53 = .ok (.iload_n 1, 1) := by decide +kernel
theorem dX10_goes_54 : decode cX10_goes 54 = .ok (.invokevirtual 145, 3) := by decide +kernel
theorem dX10_goes_57 : decode cX10_goes 57 = .ok (.iload_n 2, 1) := by decide +kernel
theorem dX10_goes_58 : decode cX10_goes 58 = .ok (.invokestatic 138, 3) := by decide +kernel
theorem dX10_goes_61 : decode cX10_goes 61 = .ok (.ifCond .ne 6, 3) := by decide +kernel
theorem dX10_goes_64 : decode cX10_goes 64 = .ok (.bipush (-2), 2) := by decide +kernel
theorem dX10_goes_66 : decode cX10_goes 66 = .ok (.ireturn, 1) := by decide +kernel
theorem dX10_goes_67 : decode cX10_goes 67 = .ok (.aload_n 0, 1) := by decide +kernel
theorem dX10_goes_68 : decode cX10_goes 68 = .ok (.invokevirtual 177, 3) := by decide +kernel
theorem dX10_goes_71 : decode cX10_goes 71 = .ok (.aload_n 0, 1) := by decide +kernel
theorem dX10_goes_72 : decode cX10_goes 72 = .ok (.getfield 40, 3) := by decide +kernel
theorem dX10_goes_75 : decode cX10_goes 75 = .ok (.iconst 0, 1) := by decide +kernel
theorem dX10_goes_76 : decode cX10_goes 76 = .ok (.iload_n 1, 1) := by decide +kernel
theorem dX10_goes_77 : decode cX10_goes 77 = .ok (.iadd, 1) := by decide +kernel
theorem dX10_goes_78 : decode cX10_goes 78 = .ok (.aload_n 0, 1) := by decide +kernel
theorem dX10_goes_79 : decode cX10_goes 79 = .ok (.getfield 16, 3) := by decide +kernel
theorem dX10_goes_82 : decode cX10_goes 82 = .ok (.iload_n 2, 1) := by decide +kernel
theorem dX10_goes_83 : decode cX10_goes 83 = .ok (.iaload, 1) := by decide +kernel
theorem dX10_goes_84 : decode cX10_goes 84 = .ok (.iload_n 3, 1) := by decide +kernel
theorem dX10_goes_85 : decode cX10_goes 85 = .ok (.if_icmp .ne 12, 3) := by decide +kernel
theorem dX10_goes_88 : decode cX10_goes 88 = .ok (.aload_n 0, 1) := by decide +kernel
theorem dX10_goes_89 : decode cX10_goes 89 = .ok (.getfield 19, 3) := by decide +kernel
theorem dX10_goes_92 : decode cX10_goes 92 = .ok (.iload_n 2, 1) := by decide +kernel
theorem dX10_goes_93 : decode cX10_goes 93 = .ok (.iaload, 1) := by decide +kernel
theorem dX10_goes_94 : decode cX10_goes 94 = .ok (.goto 9, 3) := by decide +kernel
theorem dX10_goes_97 : decode cX10_goes 97 = .ok (.aload_n 0, 1) := by decide +kernel
theorem dX10_goes_98 : decode cX10_goes 98 = .ok (.getfield 16, 3) := by decide +kernel
theorem dX10_goes_101 : decode cX10_goes 101 = .ok (.iload_n 2, 1) := by decide +kernel
theorem dX10_goes_102 : decode cX10_goes 102 = .ok (.iaload, 1) := by decide +kernel
theorem dX10_goes_103 : decode cX10_goes 103 = .ok (.iastore, 1) := by decide +kernel
theorem dX10_goes_104 : decode cX10_goes 104 = .ok (.aload_n 0, 1) := by decide +kernel
theorem dX10_goes_105 : decode cX10_goes 105 = .ok (.getfield 40, 3) := by decide +kernel
theorem dX10_goes_108 : decode cX10_goes 108 = .ok (.iconst 0, 1) := by decide +kernel
theorem dX10_goes_109 : decode cX10_goes 109 = .ok (.iload_n 1, 1) := by decide +kernel
theorem dX10_goes_110 : decode cX10_goes 110 = .ok (.iadd, 1) := by decide +kernel
theorem dX10_goes_111 : decode cX10_goes 111 = .ok (.iaload, 1) := by decide +kernel
theorem dX10_goes_112 : decode cX10_goes 112 = .ok (.ireturn, 1) := by decide +kernel
abbrev rX10_goes : Room := { frames := 3, cells := 0, slots := 0, locals := 71 }
set_option maxHeartbeats 4000000 in
set_option maxRecDepth 100000 in
theorem w_X10_goes_103 {p : Program} {l : Launch} {e : Env} {s : State} {m : MethodId} {args : Array Value} {below : List Frame} {meth : Method} {c : Code} {D : va_G} {b : Nat} {cs : Cs3} {r : Int32} {S1 : St} (hC : CX p s m args meth c RX10 cX10_goes 4 D cs) (hr : meth.sig.returnType = (some .int)) : ∀ (x1 : Int32) (y0 : Int32) (y1 : Int32) (S : St) (H : Heap) (locs : List Loc) (ls : Array Slot), q_X10_goes_103 x1 y0 y1 S = some (r, S1) → Wd D b cs S H → va_S (AA b) s.heap H locs → lv_has ls 4 [(0, .ref (b + 99)), (1, .int x1)] → W p l e rX10_goes s m args below meth c H locs 0 0 (MQ below (QX D b cs (some (.int r)) S1) args s 0 0 (AA b)) (F0 m 103 ls [.int y0, .int y1, .ref (b + 110)]) := by
  intro x1 y0 y1 S H locs ls h hW hS hl
  rw [q_X10_goes_103] at h
  obtain ⟨hi, h⟩ := xg h
  refine x_iast hC hW hS 110 (by decide) rfl hi dX10_goes_103 (fun H locs hW hS => ?_)
  refine lv_aload_n hC.1 hC.2.1 dX10_goes_104 rfl (lv_at hl 0 rfl) ?_
  refine x_get (C := RX10) (T := TX10) (N := 27) (v := _) hC hW 99 (by decide) rfl rfl uX10 19 (by decide) fl_X10_40 rfl rfl dX10_goes_105 ?_
  refine lv_iconst (v := 0) hC.1 hC.2.1 dX10_goes_108 (by decide) ?_
  refine lv_iload_n hC.1 hC.2.1 dX10_goes_109 rfl (lv_at hl 1 rfl) ?_
  refine lv_iadd hC.1 hC.2.1 dX10_goes_110 ?_
  obtain ⟨hi, h⟩ := xg h
  refine x_iald hC hW 110 (by decide) rfl hi dX10_goes_111 ?_
  obtain ⟨rfl, rfl⟩ := xr h
  exact x_iret hC hr hW hS dX10_goes_112
set_option maxHeartbeats 4000000 in
set_option maxRecDepth 100000 in
theorem w_X10_goes_52 {p : Program} {l : Launch} {e : Env} {s : State} {m : MethodId} {args : Array Value} {below : List Frame} {meth : Method} {c : Code} {D : va_G} {b : Nat} {cs : Cs3} {r : Int32} {S1 : St} (hC : CX p s m args meth c RX10 cX10_goes 4 D cs) (hr : meth.sig.returnType = (some .int)) : ∀ (x1 : Int32) (x2 : Int32) (x3 : Int32) (S : St) (H : Heap) (locs : List Loc) (ls : Array Slot), q_X10_goes_52 x1 x2 x3 S = some (r, S1) → Wd D b cs S H → va_S (AA b) s.heap H locs → lv_has ls 4 [(0, .ref (b + 99)), (1, .int x1), (2, .int x2), (3, .int x3)] → W p l e rX10_goes s m args below meth c H locs 0 0 (MQ below (QX D b cs (some (.int r)) S1) args s 0 0 (AA b)) (F0 m 52 ls []) := by
  intro x1 x2 x3 S H locs ls h hW hS hl
  rw [q_X10_goes_52] at h
  refine lv_aload_n hC.1 hC.2.1 dX10_goes_52 rfl (lv_at hl 0 rfl) ?_
  refine lv_iload_n hC.1 hC.2.1 dX10_goes_53 rfl (lv_at hl 1 rfl) ?_
  obtain ⟨⟨q54_r, q54_S⟩, hq, h⟩ := xb h
  try dsimp only at h
  refine x_callV (T := TX10) (N := 27) (As := [.int x1]) (rest := []) hC hW hS 99 (c_X10_keys l D b cs _ _ _ _ hq) (by decide) rfl rfl mi_X10_keys in_X10_keys sl_X10_keys ml_X10_145 ⟨rfl, rfl⟩ ⟨Nat.le_of_ble_eq_true rfl, Nat.le_of_ble_eq_true rfl⟩ ⟨Nat.zero_le _, Nat.zero_le _⟩ rfl rfl hl.1 (Nat.le_of_ble_eq_true rfl) dX10_goes_54 (fun H locs hW hS => ?_)
  refine lv_iload_n hC.1 hC.2.1 dX10_goes_57 rfl (lv_at hl 2 rfl) ?_
  obtain ⟨⟨q58_r, q58_S⟩, hq, h⟩ := xb h
  try dsimp only at h
  refine x_callS (As := [.int q54_r, .int x2]) (rest := []) hC hW hS (c_X10_has l D b cs _ _ _ _ _ hq) mi_X10_has st_X10_has ml_X10_138 ⟨rfl, rfl⟩ ⟨Nat.le_of_ble_eq_true rfl, Nat.le_of_ble_eq_true rfl⟩ ⟨Nat.zero_le _, Nat.zero_le _⟩ rfl rfl hl.1 (Nat.le_of_ble_eq_true rfl) dX10_goes_58 (fun H locs hW hS => ?_)
  refine lv_if_ne (tgt := 67) hC.1 hC.2.1 dX10_goes_61 (by decide) (fun hc => ?_) (fun hc => ?_)
  · replace h := xf hc h
    refine lv_aload_n hC.1 hC.2.1 dX10_goes_67 rfl (lv_at hl 0 rfl) ?_
    obtain ⟨q68, hq, h⟩ := xb h
    try dsimp only at h
    refine x_callV (T := TX10) (N := 27) (As := []) (rest := []) hC hW hS 99 (c_X10_notes l D b cs _ _ hq) (by decide) rfl rfl mi_X10_notes in_X10_notes sl_X10_notes ml_X10_177 ⟨rfl, rfl⟩ ⟨Nat.le_of_ble_eq_true rfl, Nat.le_of_ble_eq_true rfl⟩ ⟨Nat.zero_le _, Nat.zero_le _⟩ rfl rfl hl.1 (Nat.le_of_ble_eq_true rfl) dX10_goes_68 (fun H locs hW hS => ?_)
    refine lv_aload_n hC.1 hC.2.1 dX10_goes_71 rfl (lv_at hl 0 rfl) ?_
    refine x_get (C := RX10) (T := TX10) (N := 27) (v := _) hC hW 99 (by decide) rfl rfl uX10 19 (by decide) fl_X10_40 rfl rfl dX10_goes_72 ?_
    refine lv_iconst (v := 0) hC.1 hC.2.1 dX10_goes_75 (by decide) ?_
    refine lv_iload_n hC.1 hC.2.1 dX10_goes_76 rfl (lv_at hl 1 rfl) ?_
    refine lv_iadd hC.1 hC.2.1 dX10_goes_77 ?_
    refine lv_aload_n hC.1 hC.2.1 dX10_goes_78 rfl (lv_at hl 0 rfl) ?_
    refine x_get (C := RX10) (T := TX10) (N := 27) (v := _) hC hW 99 (by decide) rfl rfl uX10 11 (by decide) fl_X10_16 rfl rfl dX10_goes_79 ?_
    refine lv_iload_n hC.1 hC.2.1 dX10_goes_82 rfl (lv_at hl 2 rfl) ?_
    obtain ⟨hi, h⟩ := xg h
    refine x_iald hC hW 102 (by decide) rfl hi dX10_goes_83 ?_
    refine lv_iload_n hC.1 hC.2.1 dX10_goes_84 rfl (lv_at hl 3 rfl) ?_
    refine lv_icmp_ne (tgt := 97) hC.1 hC.2.1 dX10_goes_85 (by decide) (fun hc => ?_) (fun hc => ?_)
    · replace h := xf hc h
      refine lv_aload_n hC.1 hC.2.1 dX10_goes_97 rfl (lv_at hl 0 rfl) ?_
      refine x_get (C := RX10) (T := TX10) (N := 27) (v := _) hC hW 99 (by decide) rfl rfl uX10 11 (by decide) fl_X10_16 rfl rfl dX10_goes_98 ?_
      refine lv_iload_n hC.1 hC.2.1 dX10_goes_101 rfl (lv_at hl 2 rfl) ?_
      obtain ⟨hi, h⟩ := xg h
      refine x_iald hC hW 102 (by decide) rfl hi dX10_goes_102 ?_
      exact w_X10_goes_103 hC hr _ _ _ _ _ _ _ h hW hS (lv_sub hl [0, 1] rfl)
    · replace h := xt hc h
      refine lv_aload_n hC.1 hC.2.1 dX10_goes_88 rfl (lv_at hl 0 rfl) ?_
      refine x_get (C := RX10) (T := TX10) (N := 27) (v := _) hC hW 99 (by decide) rfl rfl uX10 12 (by decide) fl_X10_19 rfl rfl dX10_goes_89 ?_
      refine lv_iload_n hC.1 hC.2.1 dX10_goes_92 rfl (lv_at hl 2 rfl) ?_
      obtain ⟨hi, h⟩ := xg h
      refine x_iald hC hW 103 (by decide) rfl hi dX10_goes_93 ?_
      refine lv_goto (tgt := 103) hC.1 hC.2.1 dX10_goes_94 (by decide) ?_
      exact w_X10_goes_103 hC hr _ _ _ _ _ _ _ h hW hS (lv_sub hl [0, 1] rfl)
  · replace h := xt hc h
    refine lv_bipush (v := -2) hC.1 hC.2.1 dX10_goes_64 (by decide) ?_
    obtain ⟨rfl, rfl⟩ := xr h
    exact x_iret hC hr hW hS dX10_goes_66
set_option maxHeartbeats 4000000 in
set_option maxRecDepth 100000 in
theorem c_X10_goes (l : Launch) (D : va_G) (b : Nat) (cs : Cs3) (x1 : Int32) (x2 : Int32) (S S1 : St) (r : Int32) (h : p_X10_goes x1 x2 S = some (r, S1)) : Ct l yX10_goes cX10_goes 4 (some .int) rX10_goes D b cs [.ref (b + 99), .int x1, .int x2] S (some (.int r)) S1 := by
  refine x_met (by decide +kernel) (Nat.le_of_ble_eq_true rfl) ?_
  intro p e s m below meth c ls hC hr hW hS hl
  have hl : lv_has ls 4 [(0, .ref (b + 99)), (1, .int x1), (2, .int x2)] := hl
  rw [p_X10_goes] at h
  refine lv_aload_n hC.1 hC.2.1 dX10_goes_0 rfl (lv_at hl 0 rfl) ?_
  refine lv_iconst (v := 0) hC.1 hC.2.1 dX10_goes_1 (by decide) ?_
  refine x_puti (C := RX10) (T := TX10) (N := 27) (ty := .int) hC hW hS 99 (by decide) rfl rfl uX10 tyX10 tyX10_ok nmX10 0 (by decide) fl_X10_65 rfl (by decide +kernel) rfl rfl rfl dX10_goes_2 (fun H locs hW hS => ?_)
  refine lv_aload_n hC.1 hC.2.1 dX10_goes_5 rfl (lv_at hl 0 rfl) ?_
  refine lv_iload_n hC.1 hC.2.1 dX10_goes_6 rfl (lv_at hl 1 rfl) ?_
  obtain ⟨⟨q7_r, q7_S⟩, hq, h⟩ := xb h
  try dsimp only at h
  refine x_callV (T := TX10) (N := 27) (As := [.int x1]) (rest := []) hC hW hS 99 (c_X10_isBoy l D b cs _ _ _ _ hq) (by decide) rfl rfl mi_X10_isBoy in_X10_isBoy sl_X10_isBoy ml_X10_160 ⟨rfl, rfl⟩ ⟨Nat.le_of_ble_eq_true rfl, Nat.le_of_ble_eq_true rfl⟩ ⟨Nat.zero_le _, Nat.zero_le _⟩ rfl rfl hl.1 (Nat.le_of_ble_eq_true rfl) dX10_goes_7 (fun H locs hW hS => ?_)
  refine lv_if_eq (tgt := 21) hC.1 hC.2.1 dX10_goes_10 (by decide) (fun hc => ?_) (fun hc => ?_)
  · replace h := xt hc h
    refine lv_iconst (v := -1) hC.1 hC.2.1 dX10_goes_21 (by decide) ?_
    obtain ⟨rfl, rfl⟩ := xr h
    exact x_iret hC hr hW hS dX10_goes_22
  · replace h := xf hc h
    refine lv_aload_n hC.1 hC.2.1 dX10_goes_13 rfl (lv_at hl 0 rfl) ?_
    refine lv_iload_n hC.1 hC.2.1 dX10_goes_14 rfl (lv_at hl 2 rfl) ?_
    obtain ⟨⟨q15_r, q15_S⟩, hq, h⟩ := xb h
    try dsimp only at h
    refine x_callV (T := TX10) (N := 27) (As := [.int x2]) (rest := []) hC hW hS 99 (c_X10_isDoor l D b cs _ _ _ _ hq) (by decide) rfl rfl mi_X10_isDoor in_X10_isDoor sl_X10_isDoor ml_X10_154 ⟨rfl, rfl⟩ ⟨Nat.le_of_ble_eq_true rfl, Nat.le_of_ble_eq_true rfl⟩ ⟨Nat.zero_le _, Nat.zero_le _⟩ rfl rfl hl.1 (Nat.le_of_ble_eq_true rfl) dX10_goes_15 (fun H locs hW hS => ?_)
    refine lv_if_ne (tgt := 23) hC.1 hC.2.1 dX10_goes_18 (by decide) (fun hc => ?_) (fun hc => ?_)
    · replace h := xf hc h
      refine lv_aload_n hC.1 hC.2.1 dX10_goes_23 rfl (lv_at hl 0 rfl) ?_
      refine x_get (C := RX10) (T := TX10) (N := 27) (v := _) hC hW 99 (by decide) rfl rfl uX10 19 (by decide) fl_X10_40 rfl rfl dX10_goes_24 ?_
      refine lv_iconst (v := 0) hC.1 hC.2.1 dX10_goes_27 (by decide) ?_
      refine lv_iload_n hC.1 hC.2.1 dX10_goes_28 rfl (lv_at hl 1 rfl) ?_
      refine lv_iadd hC.1 hC.2.1 dX10_goes_29 ?_
      obtain ⟨hi, h⟩ := xg h
      refine x_iald hC hW 110 (by decide) rfl hi dX10_goes_30 ?_
      refine lv_istore_n (lv' := [(3, .int (q15_S.1 110 ((0 : Int32) + x1).toNatClampNeg)), (0, .ref (b + 99)), (1, .int x1), (2, .int x2)]) hC.1 hC.2.1 dX10_goes_31 rfl hl (by decide) rfl (fun ls hl => ?_)
      refine lv_aload_n hC.1 hC.2.1 dX10_goes_32 rfl (lv_at hl 1 rfl) ?_
      refine x_get (C := RX10) (T := TX10) (N := 27) (v := _) hC hW 99 (by decide) rfl rfl uX10 11 (by decide) fl_X10_16 rfl rfl dX10_goes_33 ?_
      refine lv_iload_n hC.1 hC.2.1 dX10_goes_36 rfl (lv_at hl 3 rfl) ?_
      obtain ⟨hi, h⟩ := xg h
      refine x_iald hC hW 102 (by decide) rfl hi dX10_goes_37 ?_
      refine lv_iload_n hC.1 hC.2.1 dX10_goes_38 rfl (lv_at hl 0 rfl) ?_
      refine lv_icmp_eq (tgt := 52) hC.1 hC.2.1 dX10_goes_39 (by decide) (fun hc => ?_) (fun hc => ?_)
      · replace h := xt hc h
        exact w_X10_goes_52 hC hr _ _ _ _ _ _ _ h hW hS (lv_sub hl [1, 2, 3, 0] rfl)
      · replace h := xf hc h
        refine lv_aload_n hC.1 hC.2.1 dX10_goes_42 rfl (lv_at hl 1 rfl) ?_
        refine x_get (C := RX10) (T := TX10) (N := 27) (v := _) hC hW 99 (by decide) rfl rfl uX10 12 (by decide) fl_X10_19 rfl rfl dX10_goes_43 ?_
        refine lv_iload_n hC.1 hC.2.1 dX10_goes_46 rfl (lv_at hl 3 rfl) ?_
        obtain ⟨hi, h⟩ := xg h
        refine x_iald hC hW 103 (by decide) rfl hi dX10_goes_47 ?_
        refine lv_iload_n hC.1 hC.2.1 dX10_goes_48 rfl (lv_at hl 0 rfl) ?_
        refine lv_icmp_ne (tgt := 64) hC.1 hC.2.1 dX10_goes_49 (by decide) (fun hc => ?_) (fun hc => ?_)
        · replace h := xf hc h
          refine lv_bipush (v := -2) hC.1 hC.2.1 dX10_goes_64 (by decide) ?_
          obtain ⟨rfl, rfl⟩ := xr h
          exact x_iret hC hr hW hS dX10_goes_66
        · replace h := xt hc h
          exact w_X10_goes_52 hC hr _ _ _ _ _ _ _ h hW hS (lv_sub hl [1, 2, 3, 0] rfl)
    · replace h := xt hc h
      refine lv_iconst (v := -1) hC.1 hC.2.1 dX10_goes_21 (by decide) ?_
      obtain ⟨rfl, rfl⟩ := xr h
      exact x_iret hC hr hW hS dX10_goes_22
theorem dX10_colds_0 : decode cX10_colds 0 = .ok (.aload_n 0, 1) := by decide +kernel
theorem dX10_colds_1 : decode cX10_colds 1 = .ok (.iconst 0, 1) := by decide +kernel
theorem dX10_colds_2 : decode cX10_colds 2 = .ok (.putfield 65, 3) := by decide +kernel
theorem dX10_colds_5 : decode cX10_colds 5 = .ok (.aload_n 0, 1) := by decide +kernel
theorem dX10_colds_6 : decode cX10_colds 6 = .ok (.iload_n 1, 1) := by decide +kernel
theorem dX10_colds_7 : decode cX10_colds 7 = .ok (.invokevirtual 160, 3) := by decide +kernel
theorem dX10_colds_10 : decode cX10_colds 10 = .ok (.ifCond .eq 13, 3) := by decide +kernel
theorem dX10_colds_13 : decode cX10_colds 13 = .ok (.iload_n 2, 1) := by decide +kernel
theorem dX10_colds_14 : decode cX10_colds 14 = .ok (.iconst 0, 1) := by decide +kernel
theorem dX10_colds_15 : decode cX10_colds 15 = .ok (.bipush 9, 2) := by decide +kernel
theorem dX10_colds_17 : decode cX10_colds 17 = .ok (.invokestatic 69, 3) := by decide +kernel
theorem dX10_colds_20 : decode cX10_colds 20 = .ok (.ifCond .ne 5, 3) := by decide +kernel
theorem dX10_colds_23 : decode cX10_colds 23 = .ok (.iconst (-1), 1) := by decide +kernel
theorem dX10_colds_24 : decode cX10_colds 24 = .ok (.ireturn, 1) := by decide +kernel
theorem dX10_colds_25 : decode cX10_colds 25 = .ok (.aload_n 0, 1) := by decide +kernel
theorem dX10_colds_26 : decode cX10_colds 26 = .ok (.getfield 40, 3) := by decide +kernel
theorem dX10_colds_29 : decode cX10_colds 29 = .ok (.bipush 10, 2) := by decide +kernel
theorem dX10_colds_31 : decode cX10_colds 31 = .ok (.iload_n 1, 1) := by decide +kernel
theorem dX10_colds_32 : decode cX10_colds 32 = .ok (.iadd, 1) := by decide +kernel
theorem dX10_colds_33 : decode cX10_colds 33 = .ok (.iaload, 1) := by decide +kernel
theorem dX10_colds_34 : decode cX10_colds 34 = .ok (.istore_n 3, 1) := by decide +kernel
theorem dX10_colds_35 : decode cX10_colds 35 = .ok (.iload_n 3, 1) := by decide +kernel
theorem dX10_colds_36 : decode cX10_colds 36 = .ok (.iload_n 2, 1) := by decide +kernel
theorem dX10_colds_37 : decode cX10_colds 37 = .ok (.if_icmp .ne 6, 3) := by decide +kernel
theorem dX10_colds_40 : decode cX10_colds 40 = .ok (.bipush (-2), 2) := by decide +kernel
theorem dX10_colds_42 : decode cX10_colds 42 = .ok (.ireturn, 1) := by decide +kernel
theorem dX10_colds_43 : decode cX10_colds 43 = .ok (.aload_n 0, 1) := by decide +kernel
theorem dX10_colds_44 : decode cX10_colds 44 = .ok (.invokevirtual 177, 3) := by decide +kernel
theorem dX10_colds_47 : decode cX10_colds 47 = .ok (.aload_n 0, 1) := by decide +kernel
theorem dX10_colds_48 : decode cX10_colds 48 = .ok (.getfield 40, 3) := by decide +kernel
theorem dX10_colds_51 : decode cX10_colds 51 = .ok (.bipush 10, 2) := by decide +kernel
theorem dX10_colds_53 : decode cX10_colds 53 = .ok (.iload_n 1, 1) := by decide +kernel
theorem dX10_colds_54 : decode cX10_colds 54 = .ok (.iadd, 1) := by decide +kernel
theorem dX10_colds_55 : decode cX10_colds 55 = .ok (.iload_n 2, 1) := by decide +kernel
theorem dX10_colds_56 : decode cX10_colds 56 = .ok (.iastore, 1) := by decide +kernel
theorem dX10_colds_57 : decode cX10_colds 57 = .ok (.iload_n 3, 1) := by decide +kernel
theorem dX10_colds_58 : decode cX10_colds 58 = .ok (.ireturn, 1) := by decide +kernel
abbrev rX10_colds : Room := { frames := 2, cells := 0, slots := 0, locals := 43 }
set_option maxHeartbeats 4000000 in
set_option maxRecDepth 100000 in
theorem c_X10_colds (l : Launch) (D : va_G) (b : Nat) (cs : Cs3) (x1 : Int32) (x2 : Int32) (S S1 : St) (r : Int32) (h : p_X10_colds x1 x2 S = some (r, S1)) : Ct l yX10_colds cX10_colds 4 (some .int) rX10_colds D b cs [.ref (b + 99), .int x1, .int x2] S (some (.int r)) S1 := by
  refine x_met (by decide +kernel) (Nat.le_of_ble_eq_true rfl) ?_
  intro p e s m below meth c ls hC hr hW hS hl
  have hl : lv_has ls 4 [(0, .ref (b + 99)), (1, .int x1), (2, .int x2)] := hl
  rw [p_X10_colds] at h
  refine lv_aload_n hC.1 hC.2.1 dX10_colds_0 rfl (lv_at hl 0 rfl) ?_
  refine lv_iconst (v := 0) hC.1 hC.2.1 dX10_colds_1 (by decide) ?_
  refine x_puti (C := RX10) (T := TX10) (N := 27) (ty := .int) hC hW hS 99 (by decide) rfl rfl uX10 tyX10 tyX10_ok nmX10 0 (by decide) fl_X10_65 rfl (by decide +kernel) rfl rfl rfl dX10_colds_2 (fun H locs hW hS => ?_)
  refine lv_aload_n hC.1 hC.2.1 dX10_colds_5 rfl (lv_at hl 0 rfl) ?_
  refine lv_iload_n hC.1 hC.2.1 dX10_colds_6 rfl (lv_at hl 1 rfl) ?_
  obtain ⟨⟨q7_r, q7_S⟩, hq, h⟩ := xb h
  try dsimp only at h
  refine x_callV (T := TX10) (N := 27) (As := [.int x1]) (rest := []) hC hW hS 99 (c_X10_isBoy l D b cs _ _ _ _ hq) (by decide) rfl rfl mi_X10_isBoy in_X10_isBoy sl_X10_isBoy ml_X10_160 ⟨rfl, rfl⟩ ⟨Nat.le_of_ble_eq_true rfl, Nat.le_of_ble_eq_true rfl⟩ ⟨Nat.zero_le _, Nat.zero_le _⟩ rfl rfl hl.1 (Nat.le_of_ble_eq_true rfl) dX10_colds_7 (fun H locs hW hS => ?_)
  refine lv_if_eq (tgt := 23) hC.1 hC.2.1 dX10_colds_10 (by decide) (fun hc => ?_) (fun hc => ?_)
  · replace h := xt hc h
    refine lv_iconst (v := -1) hC.1 hC.2.1 dX10_colds_23 (by decide) ?_
    obtain ⟨rfl, rfl⟩ := xr h
    exact x_iret hC hr hW hS dX10_colds_24
  · replace h := xf hc h
    refine lv_iload_n hC.1 hC.2.1 dX10_colds_13 rfl (lv_at hl 2 rfl) ?_
    refine lv_iconst (v := 0) hC.1 hC.2.1 dX10_colds_14 (by decide) ?_
    refine lv_bipush (v := 9) hC.1 hC.2.1 dX10_colds_15 (by decide) ?_
    obtain ⟨⟨q17_r, q17_S⟩, hq, h⟩ := xb h
    try dsimp only at h
    refine x_callS (As := [.int x2, .int (0 : Int32), .int (9 : Int32)]) (rest := []) hC hW hS (c_X10_in l D b cs _ _ _ _ _ _ hq) mi_X10_in st_X10_in ml_X10_69 ⟨rfl, rfl⟩ ⟨Nat.le_of_ble_eq_true rfl, Nat.le_of_ble_eq_true rfl⟩ ⟨Nat.zero_le _, Nat.zero_le _⟩ rfl rfl hl.1 (Nat.le_of_ble_eq_true rfl) dX10_colds_17 (fun H locs hW hS => ?_)
    refine lv_if_ne (tgt := 25) hC.1 hC.2.1 dX10_colds_20 (by decide) (fun hc => ?_) (fun hc => ?_)
    · replace h := xf hc h
      refine lv_aload_n hC.1 hC.2.1 dX10_colds_25 rfl (lv_at hl 0 rfl) ?_
      refine x_get (C := RX10) (T := TX10) (N := 27) (v := _) hC hW 99 (by decide) rfl rfl uX10 19 (by decide) fl_X10_40 rfl rfl dX10_colds_26 ?_
      refine lv_bipush (v := 10) hC.1 hC.2.1 dX10_colds_29 (by decide) ?_
      refine lv_iload_n hC.1 hC.2.1 dX10_colds_31 rfl (lv_at hl 1 rfl) ?_
      refine lv_iadd hC.1 hC.2.1 dX10_colds_32 ?_
      obtain ⟨hi, h⟩ := xg h
      refine x_iald hC hW 110 (by decide) rfl hi dX10_colds_33 ?_
      refine lv_istore_n (lv' := [(3, .int (q17_S.1 110 ((10 : Int32) + x1).toNatClampNeg)), (0, .ref (b + 99)), (1, .int x1), (2, .int x2)]) hC.1 hC.2.1 dX10_colds_34 rfl hl (by decide) rfl (fun ls hl => ?_)
      refine lv_iload_n hC.1 hC.2.1 dX10_colds_35 rfl (lv_at hl 0 rfl) ?_
      refine lv_iload_n hC.1 hC.2.1 dX10_colds_36 rfl (lv_at hl 3 rfl) ?_
      refine lv_icmp_ne (tgt := 43) hC.1 hC.2.1 dX10_colds_37 (by decide) (fun hc => ?_) (fun hc => ?_)
      · replace h := xf hc h
        refine lv_aload_n hC.1 hC.2.1 dX10_colds_43 rfl (lv_at hl 1 rfl) ?_
        obtain ⟨q44, hq, h⟩ := xb h
        try dsimp only at h
        refine x_callV (T := TX10) (N := 27) (As := []) (rest := []) hC hW hS 99 (c_X10_notes l D b cs _ _ hq) (by decide) rfl rfl mi_X10_notes in_X10_notes sl_X10_notes ml_X10_177 ⟨rfl, rfl⟩ ⟨Nat.le_of_ble_eq_true rfl, Nat.le_of_ble_eq_true rfl⟩ ⟨Nat.zero_le _, Nat.zero_le _⟩ rfl rfl hl.1 (Nat.le_of_ble_eq_true rfl) dX10_colds_44 (fun H locs hW hS => ?_)
        refine lv_aload_n hC.1 hC.2.1 dX10_colds_47 rfl (lv_at hl 1 rfl) ?_
        refine x_get (C := RX10) (T := TX10) (N := 27) (v := _) hC hW 99 (by decide) rfl rfl uX10 19 (by decide) fl_X10_40 rfl rfl dX10_colds_48 ?_
        refine lv_bipush (v := 10) hC.1 hC.2.1 dX10_colds_51 (by decide) ?_
        refine lv_iload_n hC.1 hC.2.1 dX10_colds_53 rfl (lv_at hl 2 rfl) ?_
        refine lv_iadd hC.1 hC.2.1 dX10_colds_54 ?_
        refine lv_iload_n hC.1 hC.2.1 dX10_colds_55 rfl (lv_at hl 3 rfl) ?_
        obtain ⟨hi, h⟩ := xg h
        refine x_iast hC hW hS 110 (by decide) rfl hi dX10_colds_56 (fun H locs hW hS => ?_)
        refine lv_iload_n hC.1 hC.2.1 dX10_colds_57 rfl (lv_at hl 0 rfl) ?_
        obtain ⟨rfl, rfl⟩ := xr h
        exact x_iret hC hr hW hS dX10_colds_58
      · replace h := xt hc h
        refine lv_bipush (v := -2) hC.1 hC.2.1 dX10_colds_40 (by decide) ?_
        obtain ⟨rfl, rfl⟩ := xr h
        exact x_iret hC hr hW hS dX10_colds_42
    · replace h := xt hc h
      refine lv_iconst (v := -1) hC.1 hC.2.1 dX10_colds_23 (by decide) ?_
      obtain ⟨rfl, rfl⟩ := xr h
      exact x_iret hC hr hW hS dX10_colds_24
theorem dX10_props_0 : decode cX10_props 0 = .ok (.aload_n 0, 1) := by decide +kernel
theorem dX10_props_1 : decode cX10_props 1 = .ok (.iconst 0, 1) := by decide +kernel
theorem dX10_props_2 : decode cX10_props 2 = .ok (.putfield 65, 3) := by decide +kernel
theorem dX10_props_5 : decode cX10_props 5 = .ok (.aload_n 0, 1) := by decide +kernel
theorem dX10_props_6 : decode cX10_props 6 = .ok (.iload_n 1, 1) := by decide +kernel
theorem dX10_props_7 : decode cX10_props 7 = .ok (.invokevirtual 154, 3) := by decide +kernel
theorem dX10_props_10 : decode cX10_props 10 = .ok (.ifCond .eq 12, 3) := by decide +kernel
theorem dX10_props_13 : decode cX10_props 13 = .ok (.iload_n 2, 1) := by decide +kernel
theorem dX10_props_14 : decode cX10_props 14 = .ok (.iconst 0, 1) := by decide +kernel
theorem dX10_props_15 : decode cX10_props 15 = .ok (.iconst 1, 1) := by decide +kernel
theorem dX10_props_16 : decode cX10_props 16 = .ok (.invokestatic 69, 3) := by decide +kernel
theorem dX10_props_19 : decode cX10_props 19 = .ok (.ifCond .ne 5, 3) := by decide +kernel
theorem dX10_props_22 : decode cX10_props 22 = .ok (.iconst (-1), 1) := by decide +kernel
theorem dX10_props_23 : decode cX10_props 23 = .ok (.ireturn, 1) := by decide +kernel
theorem dX10_props_24 : decode cX10_props 24 = .ok (.aload_n 0, 1) := by decide +kernel
theorem dX10_props_25 : decode cX10_props 25 = .ok (.getfield 40, 3) := by decide +kernel
theorem dX10_props_28 : decode cX10_props 28 = .ok (.bipush 23, 2) := by decide +kernel
theorem dX10_props_30 : decode cX10_props 30 = .ok (.iaload, 1) := by decide +kernel
theorem dX10_props_31 : decode cX10_props 31 = .ok (.iload_n 1, 1) := by decide +kernel
theorem dX10_props_32 : decode cX10_props 32 = .ok (.ishr, 1) := by decide +kernel
theorem dX10_props_33 : decode cX10_props 33 = .ok (.iconst 1, 1) := by decide +kernel
theorem dX10_props_34 : decode cX10_props 34 = .ok (.iand, 1) := by decide +kernel
theorem dX10_props_35 : decode cX10_props 35 = .ok (.iload_n 2, 1) := by decide +kernel
theorem dX10_props_36 : decode cX10_props 36 = .ok (.if_icmp .ne 6, 3) := by decide +kernel
theorem dX10_props_39 : decode cX10_props 39 = .ok (.bipush (-2), 2) := by decide +kernel
theorem dX10_props_41 : decode cX10_props 41 = .ok (.ireturn, 1) := by decide +kernel
theorem dX10_props_42 : decode cX10_props 42 = .ok (.aload_n 0, 1) := by decide +kernel
theorem dX10_props_43 : decode cX10_props 43 = .ok (.invokevirtual 177, 3) := by decide +kernel
theorem dX10_props_46 : decode cX10_props 46 = .ok (.aload_n 0, 1) := by decide +kernel
theorem dX10_props_47 : decode cX10_props 47 = .ok (.getfield 40, 3) := by decide +kernel
theorem dX10_props_50 : decode cX10_props 50 = .ok (.bipush 23, 2) := by decide +kernel
theorem dX10_props_52 : decode cX10_props 52 = .ok (.dup2, 1) := by decide +kernel
theorem dX10_props_53 : decode cX10_props 53 = .ok (.iaload, 1) := by decide +kernel
theorem dX10_props_54 : decode cX10_props 54 = .ok (.iconst 1, 1) := by decide +kernel
theorem dX10_props_55 : decode cX10_props 55 = .ok (.iload_n 1, 1) := by decide +kernel
theorem dX10_props_56 : decode cX10_props 56 = .ok (.ishl, 1) := by decide +kernel
theorem dX10_props_57 : decode cX10_props 57 = .ok (.ixor, 1) := by decide +kernel
theorem dX10_props_58 : decode cX10_props 58 = .ok (.iastore, 1) := by decide +kernel
theorem dX10_props_59 : decode cX10_props 59 = .ok (.aload_n 0, 1) := by decide +kernel
theorem dX10_props_60 : decode cX10_props 60 = .ok (.getfield 40, 3) := by decide +kernel
theorem dX10_props_63 : decode cX10_props 63 = .ok (.bipush 23, 2) := by decide +kernel
theorem dX10_props_65 : decode cX10_props 65 = .ok (.iaload, 1) := by decide +kernel
theorem dX10_props_66 : decode cX10_props 66 = .ok (.invokestatic 167, 3) := by decide +kernel
theorem dX10_props_69 : decode cX10_props 69 = .ok (.ireturn, 1) := by decide +kernel
abbrev rX10_props : Room := { frames := 2, cells := 0, slots := 0, locals := 43 }
set_option maxHeartbeats 4000000 in
set_option maxRecDepth 100000 in
theorem c_X10_props (l : Launch) (D : va_G) (b : Nat) (cs : Cs3) (x1 : Int32) (x2 : Int32) (S S1 : St) (r : Int32) (h : p_X10_props x1 x2 S = some (r, S1)) : Ct l yX10_props cX10_props 3 (some .int) rX10_props D b cs [.ref (b + 99), .int x1, .int x2] S (some (.int r)) S1 := by
  refine x_met (by decide +kernel) (Nat.le_of_ble_eq_true rfl) ?_
  intro p e s m below meth c ls hC hr hW hS hl
  have hl : lv_has ls 3 [(0, .ref (b + 99)), (1, .int x1), (2, .int x2)] := hl
  rw [p_X10_props] at h
  refine lv_aload_n hC.1 hC.2.1 dX10_props_0 rfl (lv_at hl 0 rfl) ?_
  refine lv_iconst (v := 0) hC.1 hC.2.1 dX10_props_1 (by decide) ?_
  refine x_puti (C := RX10) (T := TX10) (N := 27) (ty := .int) hC hW hS 99 (by decide) rfl rfl uX10 tyX10 tyX10_ok nmX10 0 (by decide) fl_X10_65 rfl (by decide +kernel) rfl rfl rfl dX10_props_2 (fun H locs hW hS => ?_)
  refine lv_aload_n hC.1 hC.2.1 dX10_props_5 rfl (lv_at hl 0 rfl) ?_
  refine lv_iload_n hC.1 hC.2.1 dX10_props_6 rfl (lv_at hl 1 rfl) ?_
  obtain ⟨⟨q7_r, q7_S⟩, hq, h⟩ := xb h
  try dsimp only at h
  refine x_callV (T := TX10) (N := 27) (As := [.int x1]) (rest := []) hC hW hS 99 (c_X10_isDoor l D b cs _ _ _ _ hq) (by decide) rfl rfl mi_X10_isDoor in_X10_isDoor sl_X10_isDoor ml_X10_154 ⟨rfl, rfl⟩ ⟨Nat.le_of_ble_eq_true rfl, Nat.le_of_ble_eq_true rfl⟩ ⟨Nat.zero_le _, Nat.zero_le _⟩ rfl rfl hl.1 (Nat.le_of_ble_eq_true rfl) dX10_props_7 (fun H locs hW hS => ?_)
  refine lv_if_eq (tgt := 22) hC.1 hC.2.1 dX10_props_10 (by decide) (fun hc => ?_) (fun hc => ?_)
  · replace h := xt hc h
    refine lv_iconst (v := -1) hC.1 hC.2.1 dX10_props_22 (by decide) ?_
    obtain ⟨rfl, rfl⟩ := xr h
    exact x_iret hC hr hW hS dX10_props_23
  · replace h := xf hc h
    refine lv_iload_n hC.1 hC.2.1 dX10_props_13 rfl (lv_at hl 2 rfl) ?_
    refine lv_iconst (v := 0) hC.1 hC.2.1 dX10_props_14 (by decide) ?_
    refine lv_iconst (v := 1) hC.1 hC.2.1 dX10_props_15 (by decide) ?_
    obtain ⟨⟨q16_r, q16_S⟩, hq, h⟩ := xb h
    try dsimp only at h
    refine x_callS (As := [.int x2, .int (0 : Int32), .int (1 : Int32)]) (rest := []) hC hW hS (c_X10_in l D b cs _ _ _ _ _ _ hq) mi_X10_in st_X10_in ml_X10_69 ⟨rfl, rfl⟩ ⟨Nat.le_of_ble_eq_true rfl, Nat.le_of_ble_eq_true rfl⟩ ⟨Nat.zero_le _, Nat.zero_le _⟩ rfl rfl hl.1 (Nat.le_of_ble_eq_true rfl) dX10_props_16 (fun H locs hW hS => ?_)
    refine lv_if_ne (tgt := 24) hC.1 hC.2.1 dX10_props_19 (by decide) (fun hc => ?_) (fun hc => ?_)
    · replace h := xf hc h
      refine lv_aload_n hC.1 hC.2.1 dX10_props_24 rfl (lv_at hl 0 rfl) ?_
      refine x_get (C := RX10) (T := TX10) (N := 27) (v := _) hC hW 99 (by decide) rfl rfl uX10 19 (by decide) fl_X10_40 rfl rfl dX10_props_25 ?_
      refine lv_bipush (v := 23) hC.1 hC.2.1 dX10_props_28 (by decide) ?_
      obtain ⟨hi, h⟩ := xg h
      refine x_iald hC hW 110 (by decide) rfl hi dX10_props_30 ?_
      refine lv_iload_n hC.1 hC.2.1 dX10_props_31 rfl (lv_at hl 1 rfl) ?_
      refine lv_ishr hC.1 hC.2.1 dX10_props_32 ?_
      refine lv_iconst (v := 1) hC.1 hC.2.1 dX10_props_33 (by decide) ?_
      refine lv_iand hC.1 hC.2.1 dX10_props_34 ?_
      refine lv_iload_n hC.1 hC.2.1 dX10_props_35 rfl (lv_at hl 2 rfl) ?_
      refine lv_icmp_ne (tgt := 42) hC.1 hC.2.1 dX10_props_36 (by decide) (fun hc => ?_) (fun hc => ?_)
      · replace h := xf hc h
        refine lv_aload_n hC.1 hC.2.1 dX10_props_42 rfl (lv_at hl 0 rfl) ?_
        obtain ⟨q43, hq, h⟩ := xb h
        try dsimp only at h
        refine x_callV (T := TX10) (N := 27) (As := []) (rest := []) hC hW hS 99 (c_X10_notes l D b cs _ _ hq) (by decide) rfl rfl mi_X10_notes in_X10_notes sl_X10_notes ml_X10_177 ⟨rfl, rfl⟩ ⟨Nat.le_of_ble_eq_true rfl, Nat.le_of_ble_eq_true rfl⟩ ⟨Nat.zero_le _, Nat.zero_le _⟩ rfl rfl hl.1 (Nat.le_of_ble_eq_true rfl) dX10_props_43 (fun H locs hW hS => ?_)
        refine lv_aload_n hC.1 hC.2.1 dX10_props_46 rfl (lv_at hl 0 rfl) ?_
        refine x_get (C := RX10) (T := TX10) (N := 27) (v := _) hC hW 99 (by decide) rfl rfl uX10 19 (by decide) fl_X10_40 rfl rfl dX10_props_47 ?_
        refine lv_bipush (v := 23) hC.1 hC.2.1 dX10_props_50 (by decide) ?_
        refine lv_dup2_11 hC.1 hC.2.1 dX10_props_52 rfl rfl ?_
        obtain ⟨hi, h⟩ := xg h
        refine x_iald hC hW 110 (by decide) rfl hi dX10_props_53 ?_
        refine lv_iconst (v := 1) hC.1 hC.2.1 dX10_props_54 (by decide) ?_
        refine lv_iload_n hC.1 hC.2.1 dX10_props_55 rfl (lv_at hl 1 rfl) ?_
        refine lv_ishl hC.1 hC.2.1 dX10_props_56 ?_
        refine lv_ixor hC.1 hC.2.1 dX10_props_57 ?_
        obtain ⟨hi, h⟩ := xg h
        refine x_iast hC hW hS 110 (by decide) rfl hi dX10_props_58 (fun H locs hW hS => ?_)
        refine lv_aload_n hC.1 hC.2.1 dX10_props_59 rfl (lv_at hl 0 rfl) ?_
        refine x_get (C := RX10) (T := TX10) (N := 27) (v := _) hC hW 99 (by decide) rfl rfl uX10 19 (by decide) fl_X10_40 rfl rfl dX10_props_60 ?_
        refine lv_bipush (v := 23) hC.1 hC.2.1 dX10_props_63 (by decide) ?_
        obtain ⟨hi, h⟩ := xg h
        refine x_iald hC hW 110 (by decide) rfl hi dX10_props_65 ?_
        obtain ⟨⟨q66_r, q66_S⟩, hq, h⟩ := xb h
        try dsimp only at h
        refine x_callS (As := [.int ((sI q43 110 (23 : Int32).toNatClampNeg ((q43.1 110 (23 : Int32).toNatClampNeg) ^^^ ((1 : Int32) <<< (x1 &&& 31)))).1 110 (23 : Int32).toNatClampNeg)]) (rest := []) hC hW hS (c_X10_ones l D b cs _ _ _ _ hq) mi_X10_ones st_X10_ones ml_X10_167 ⟨rfl, rfl⟩ ⟨Nat.le_of_ble_eq_true rfl, Nat.le_of_ble_eq_true rfl⟩ ⟨Nat.zero_le _, Nat.zero_le _⟩ rfl rfl hl.1 (Nat.le_of_ble_eq_true rfl) dX10_props_66 (fun H locs hW hS => ?_)
        obtain ⟨rfl, rfl⟩ := xr h
        exact x_iret hC hr hW hS dX10_props_69
      · replace h := xt hc h
        refine lv_bipush (v := -2) hC.1 hC.2.1 dX10_props_39 (by decide) ?_
        obtain ⟨rfl, rfl⟩ := xr h
        exact x_iret hC hr hW hS dX10_props_41
    · replace h := xt hc h
      refine lv_iconst (v := -1) hC.1 hC.2.1 dX10_props_22 (by decide) ?_
      obtain ⟨rfl, rfl⟩ := xr h
      exact x_iret hC hr hW hS dX10_props_23
theorem dX10_year_0 : decode cX10_year 0 = .ok (.aload_n 0, 1) := by decide +kernel
theorem dX10_year_1 : decode cX10_year 1 = .ok (.iconst 0, 1) := by decide +kernel
theorem dX10_year_2 : decode cX10_year 2 = .ok (.putfield 65, 3) := by decide +kernel
theorem dX10_year_5 : decode cX10_year 5 = .ok (.aload_n 0, 1) := by decide +kernel
theorem dX10_year_6 : decode cX10_year 6 = .ok (.getfield 40, 3) := by decide +kernel
theorem dX10_year_9 : decode cX10_year 9 = .ok (.bipush 24, 2) := by decide +kernel
theorem dX10_year_11 : decode cX10_year 11 = .ok (.iaload, 1) := by decide +kernel
theorem dX10_year_12 : decode cX10_year 12 = .ok (.bipush 99, 2) := by decide +kernel
theorem dX10_year_14 : decode cX10_year 14 = .ok (.if_icmp .ne 6, 3) := by decide +kernel
theorem dX10_year_17 : decode cX10_year 17 = .ok (.bipush (-2), 2) := by decide +kernel
theorem dX10_year_19 : decode cX10_year 19 = .ok (.ireturn, 1) := by decide +kernel
theorem dX10_year_20 : decode cX10_year 20 = .ok (.aload_n 0, 1) := by decide +kernel
theorem dX10_year_21 : decode cX10_year 21 = .ok (.invokevirtual 177, 3) := by decide +kernel
theorem dX10_year_24 : decode cX10_year 24 = .ok (.iconst 0, 1) := by decide +kernel
theorem dX10_year_25 : decode cX10_year 25 = .ok (.istore_n 1, 1) := by decide +kernel
theorem dX10_year_26 : decode cX10_year 26 = .ok (.iconst 0, 1) := by decide +kernel
theorem dX10_year_27 : decode cX10_year 27 = .ok (.istore_n 2, 1) := by decide +kernel
theorem dX10_year_28 : decode cX10_year 28 = .ok (.iload_n 2, 1) := by decide +kernel
theorem dX10_year_29 : decode cX10_year 29 = .ok (.aload_n 0, 1) := by decide +kernel
theorem dX10_year_30 : decode cX10_year 30 = .ok (.getfield 13, 3) := by decide +kernel
theorem dX10_year_33 : decode cX10_year 33 = .ok (.iconst 2, 1) := by decide +kernel
theorem dX10_year_34 : decode cX10_year 34 = .ok (.iaload, 1) := by decide +kernel
theorem dX10_year_35 : decode cX10_year 35 = .ok (.if_icmp .ge 56, 3) := by decide +kernel
theorem dX10_year_38 : decode cX10_year 38 = .ok (.aload_n 0, 1) := by decide +kernel
theorem dX10_year_39 : decode cX10_year 39 = .ok (.getfield 40, 3) := by decide +kernel
theorem dX10_year_42 : decode cX10_year 42 = .ok (.iconst 5, 1) := by decide +kernel
theorem dX10_year_43 : decode cX10_year 43 = .ok (.iload_n 2, 1) := by decide +kernel
theorem dX10_year_44 : decode cX10_year 44 = .ok (.iadd, 1) := by decide +kernel
theorem dX10_year_45 : decode cX10_year 45 = .ok (.dup2, 1) := by decide +kernel
theorem dX10_year_46 : decode cX10_year 46 = .ok (.iaload, 1) := by decide +kernel
theorem dX10_year_47 : decode cX10_year 47 = .ok (.iconst 1, 1) := by decide +kernel
theorem dX10_year_48 : decode cX10_year 48 = .ok (.iadd, 1) := by decide +kernel
theorem dX10_year_49 : decode cX10_year 49 = .ok (.iastore, 1) := by decide +kernel
theorem dX10_year_50 : decode cX10_year 50 = .ok (.aload_n 0, 1) := by decide +kernel
theorem dX10_year_51 : decode cX10_year 51 = .ok (.getfield 40, 3) := by decide +kernel
theorem dX10_year_54 : decode cX10_year 54 = .ok (.bipush 10, 2) := by decide +kernel
theorem dX10_year_56 : decode cX10_year 56 = .ok (.iload_n 2, 1) := by decide +kernel
theorem dX10_year_57 : decode cX10_year 57 = .ok (.iadd, 1) := by decide +kernel
theorem dX10_year_58 : decode cX10_year 58 = .ok (.iconst 0, 1) := by decide +kernel
theorem dX10_year_59 : decode cX10_year 59 = .ok (.iastore, 1) := by decide +kernel
theorem dX10_year_60 : decode cX10_year 60 = .ok (.iload_n 1, 1) := by decide +kernel
theorem dX10_year_61 : decode cX10_year 61 = .ok (.aload_n 0, 1) := by decide +kernel
theorem dX10_year_62 : decode cX10_year 62 = .ok (.getfield 40, 3) := by decide +kernel
theorem dX10_year_65 : decode cX10_year 65 = .ok (.iconst 5, 1) := by decide +kernel
theorem dX10_year_66 : decode cX10_year 66 = .ok (.iload_n 2, 1) := by decide +kernel
theorem dX10_year_67 : decode cX10_year 67 = .ok (.iadd, 1) := by decide +kernel
theorem dX10_year_68 : decode cX10_year 68 = .ok (.iaload, 1) := by decide +kernel
theorem dX10_year_69 : decode cX10_year 69 = .ok (.aload_n 0, 1) := by decide +kernel
theorem dX10_year_70 : decode cX10_year 70 = .ok (.getfield 34, 3) := by decide +kernel
theorem dX10_year_73 : decode cX10_year 73 = .ok (.iload_n 2, 1) := by decide +kernel
theorem dX10_year_74 : decode cX10_year 74 = .ok (.iaload, 1) := by decide +kernel
theorem dX10_year_75 : decode cX10_year 75 = .ok (.if_icmp .ne 7, 3) := by decide +kernel
theorem dX10_year_78 : decode cX10_year 78 = .ok (.iconst 1, 1) := by decide +kernel
theorem dX10_year_79 : decode cX10_year 79 = .ok (.goto 4, 3) := by decide +kernel
theorem dX10_year_82 : decode cX10_year 82 = .ok (.iconst 0, 1) := by decide +kernel
theorem dX10_year_83 : decode cX10_year 83 = .ok (.iadd, 1) := by decide +kernel
theorem dX10_year_84 : decode cX10_year 84 = .ok (.istore_n 1, 1) := by decide +kernel
theorem dX10_year_85 : decode cX10_year 85 = .ok (.iinc 2 1, 3) := by decide +kernel
theorem dX10_year_88 : decode cX10_year 88 = .ok (.goto (-60), 3) := by decide +kernel
theorem dX10_year_91 : decode cX10_year 91 = .ok (.aload_n 0, 1) := by decide +kernel
theorem dX10_year_92 : decode cX10_year 92 = .ok (.getfield 40, 3) := by decide +kernel
theorem dX10_year_95 : decode cX10_year 95 = .ok (.bipush 24, 2) := by decide +kernel
theorem dX10_year_97 : decode cX10_year 97 = .ok (.dup2, 1) := by decide +kernel
theorem dX10_year_98 : decode cX10_year 98 = .ok (.iaload, 1) := by decide +kernel
theorem dX10_year_99 : decode cX10_year 99 = .ok (.iconst 1, 1) := by decide +kernel
theorem dX10_year_100 : decode cX10_year 100 = .ok (.iadd, 1) := by decide +kernel
theorem dX10_year_101 : decode cX10_year 101 = .ok (.iastore, 1) := by decide +kernel
theorem dX10_year_102 : decode cX10_year 102 = .ok (.iload_n 1, 1) := by decide +kernel
theorem dX10_year_103 : decode cX10_year 103 = .ok (.ireturn, 1) := by decide +kernel
abbrev rX10_year : Room := { frames := 1, cells := 0, slots := 0, locals := 21 }
set_option maxHeartbeats 4000000 in
set_option maxRecDepth 100000 in
theorem w_X10_year_28 {p : Program} {l : Launch} {e : Env} {s : State} {m : MethodId} {args : Array Value} {below : List Frame} {meth : Method} {c : Code} {D : va_G} {b : Nat} {cs : Cs3} {r : Int32} {S1 : St} (hC : CX p s m args meth c RX10 cX10_year 3 D cs) (hr : meth.sig.returnType = (some .int)) : ∀ (n : Nat) (x1 : Int32) (x2 : Int32) (S : St) (H : Heap) (locs : List Loc) (ls : Array Slot), q_X10_year_28 n x1 x2 S = some (r, S1) → Wd D b cs S H → va_S (AA b) s.heap H locs → lv_has ls 3 [(0, .ref (b + 99)), (1, .int x1), (2, .int x2)] → W p l e rX10_year s m args below meth c H locs 0 0 (MQ below (QX D b cs (some (.int r)) S1) args s 0 0 (AA b)) (F0 m 28 ls []) := by
  intro n
  induction n with
  | zero =>
    intro x1 x2 S H locs ls h
    exact absurd h (by rw [q_X10_year_28]; exact fun q => nomatch q)
  | succ n IH =>
    intro x1 x2 S H locs ls h hW hS hl
    rw [q_X10_year_28] at h
    refine lv_iload_n hC.1 hC.2.1 dX10_year_28 rfl (lv_at hl 2 rfl) ?_
    refine lv_aload_n hC.1 hC.2.1 dX10_year_29 rfl (lv_at hl 0 rfl) ?_
    refine x_get (C := RX10) (T := TX10) (N := 27) (v := _) hC hW 99 (by decide) rfl rfl uX10 10 (by decide) fl_X10_13 rfl rfl dX10_year_30 ?_
    refine lv_iconst (v := 2) hC.1 hC.2.1 dX10_year_33 (by decide) ?_
    obtain ⟨hi, h⟩ := xg h
    refine x_iald hC hW 101 (by decide) rfl hi dX10_year_34 ?_
    refine lv_icmp_ge (tgt := 91) hC.1 hC.2.1 dX10_year_35 (by decide) (fun hc => ?_) (fun hc => ?_)
    · replace h := xt hc h
      refine lv_aload_n hC.1 hC.2.1 dX10_year_91 rfl (lv_at hl 0 rfl) ?_
      refine x_get (C := RX10) (T := TX10) (N := 27) (v := _) hC hW 99 (by decide) rfl rfl uX10 19 (by decide) fl_X10_40 rfl rfl dX10_year_92 ?_
      refine lv_bipush (v := 24) hC.1 hC.2.1 dX10_year_95 (by decide) ?_
      refine lv_dup2_11 hC.1 hC.2.1 dX10_year_97 rfl rfl ?_
      obtain ⟨hi, h⟩ := xg h
      refine x_iald hC hW 110 (by decide) rfl hi dX10_year_98 ?_
      refine lv_iconst (v := 1) hC.1 hC.2.1 dX10_year_99 (by decide) ?_
      refine lv_iadd hC.1 hC.2.1 dX10_year_100 ?_
      obtain ⟨hi, h⟩ := xg h
      refine x_iast hC hW hS 110 (by decide) rfl hi dX10_year_101 (fun H locs hW hS => ?_)
      refine lv_iload_n hC.1 hC.2.1 dX10_year_102 rfl (lv_at hl 1 rfl) ?_
      obtain ⟨rfl, rfl⟩ := xr h
      exact x_iret hC hr hW hS dX10_year_103
    · replace h := xf hc h
      refine lv_aload_n hC.1 hC.2.1 dX10_year_38 rfl (lv_at hl 0 rfl) ?_
      refine x_get (C := RX10) (T := TX10) (N := 27) (v := _) hC hW 99 (by decide) rfl rfl uX10 19 (by decide) fl_X10_40 rfl rfl dX10_year_39 ?_
      refine lv_iconst (v := 5) hC.1 hC.2.1 dX10_year_42 (by decide) ?_
      refine lv_iload_n hC.1 hC.2.1 dX10_year_43 rfl (lv_at hl 2 rfl) ?_
      refine lv_iadd hC.1 hC.2.1 dX10_year_44 ?_
      refine lv_dup2_11 hC.1 hC.2.1 dX10_year_45 rfl rfl ?_
      obtain ⟨hi, h⟩ := xg h
      refine x_iald hC hW 110 (by decide) rfl hi dX10_year_46 ?_
      refine lv_iconst (v := 1) hC.1 hC.2.1 dX10_year_47 (by decide) ?_
      refine lv_iadd hC.1 hC.2.1 dX10_year_48 ?_
      obtain ⟨hi, h⟩ := xg h
      refine x_iast hC hW hS 110 (by decide) rfl hi dX10_year_49 (fun H locs hW hS => ?_)
      refine lv_aload_n hC.1 hC.2.1 dX10_year_50 rfl (lv_at hl 0 rfl) ?_
      refine x_get (C := RX10) (T := TX10) (N := 27) (v := _) hC hW 99 (by decide) rfl rfl uX10 19 (by decide) fl_X10_40 rfl rfl dX10_year_51 ?_
      refine lv_bipush (v := 10) hC.1 hC.2.1 dX10_year_54 (by decide) ?_
      refine lv_iload_n hC.1 hC.2.1 dX10_year_56 rfl (lv_at hl 2 rfl) ?_
      refine lv_iadd hC.1 hC.2.1 dX10_year_57 ?_
      refine lv_iconst (v := 0) hC.1 hC.2.1 dX10_year_58 (by decide) ?_
      obtain ⟨hi, h⟩ := xg h
      refine x_iast hC hW hS 110 (by decide) rfl hi dX10_year_59 (fun H locs hW hS => ?_)
      refine lv_iload_n hC.1 hC.2.1 dX10_year_60 rfl (lv_at hl 1 rfl) ?_
      refine lv_aload_n hC.1 hC.2.1 dX10_year_61 rfl (lv_at hl 0 rfl) ?_
      refine x_get (C := RX10) (T := TX10) (N := 27) (v := _) hC hW 99 (by decide) rfl rfl uX10 19 (by decide) fl_X10_40 rfl rfl dX10_year_62 ?_
      refine lv_iconst (v := 5) hC.1 hC.2.1 dX10_year_65 (by decide) ?_
      refine lv_iload_n hC.1 hC.2.1 dX10_year_66 rfl (lv_at hl 2 rfl) ?_
      refine lv_iadd hC.1 hC.2.1 dX10_year_67 ?_
      obtain ⟨hi, h⟩ := xg h
      refine x_iald hC hW 110 (by decide) rfl hi dX10_year_68 ?_
      refine lv_aload_n hC.1 hC.2.1 dX10_year_69 rfl (lv_at hl 0 rfl) ?_
      refine x_get (C := RX10) (T := TX10) (N := 27) (v := _) hC hW 99 (by decide) rfl rfl uX10 17 (by decide) fl_X10_34 rfl rfl dX10_year_70 ?_
      refine lv_iload_n hC.1 hC.2.1 dX10_year_73 rfl (lv_at hl 2 rfl) ?_
      obtain ⟨hi, h⟩ := xg h
      refine x_iald hC hW 108 (by decide) rfl hi dX10_year_74 ?_
      refine lv_icmp_ne (tgt := 82) hC.1 hC.2.1 dX10_year_75 (by decide) (fun hc => ?_) (fun hc => ?_)
      · replace h := xf hc h
        refine lv_iconst (v := 0) hC.1 hC.2.1 dX10_year_82 (by decide) ?_
        refine lv_iadd hC.1 hC.2.1 dX10_year_83 ?_
        refine lv_istore_n (lv' := [(1, .int (x1 + (0 : Int32))), (0, .ref (b + 99)), (2, .int x2)]) hC.1 hC.2.1 dX10_year_84 rfl hl (by decide) rfl (fun ls hl => ?_)
        refine lv_iinc (v := x2 + 1) (lv' := [(2, .int (x2 + 1)), (1, .int (x1 + (0 : Int32))), (0, .ref (b + 99))]) hC.1 hC.2.1 dX10_year_85 hl (k := 2) rfl rfl (by decide) rfl (fun ls hl => ?_)
        refine lv_goto (tgt := 28) hC.1 hC.2.1 dX10_year_88 (by decide) ?_
        exact IH _ _ _ _ _ _ h hW hS (lv_sub hl [2, 1, 0] rfl)
      · replace h := xt hc h
        refine lv_iconst (v := 1) hC.1 hC.2.1 dX10_year_78 (by decide) ?_
        refine lv_goto (tgt := 83) hC.1 hC.2.1 dX10_year_79 (by decide) ?_
        refine lv_iadd hC.1 hC.2.1 dX10_year_83 ?_
        refine lv_istore_n (lv' := [(1, .int (x1 + (1 : Int32))), (0, .ref (b + 99)), (2, .int x2)]) hC.1 hC.2.1 dX10_year_84 rfl hl (by decide) rfl (fun ls hl => ?_)
        refine lv_iinc (v := x2 + 1) (lv' := [(2, .int (x2 + 1)), (1, .int (x1 + (1 : Int32))), (0, .ref (b + 99))]) hC.1 hC.2.1 dX10_year_85 hl (k := 2) rfl rfl (by decide) rfl (fun ls hl => ?_)
        refine lv_goto (tgt := 28) hC.1 hC.2.1 dX10_year_88 (by decide) ?_
        exact IH _ _ _ _ _ _ h hW hS (lv_sub hl [2, 1, 0] rfl)
set_option maxHeartbeats 4000000 in
set_option maxRecDepth 100000 in
theorem c_X10_year (l : Launch) (D : va_G) (b : Nat) (cs : Cs3) (S S1 : St) (r : Int32) (h : p_X10_year S = some (r, S1)) : Ct l yX10_year cX10_year 3 (some .int) rX10_year D b cs [.ref (b + 99)] S (some (.int r)) S1 := by
  refine x_met (by decide +kernel) (Nat.le_of_ble_eq_true rfl) ?_
  intro p e s m below meth c ls hC hr hW hS hl
  have hl : lv_has ls 3 [(0, .ref (b + 99))] := hl
  rw [p_X10_year] at h
  refine lv_aload_n hC.1 hC.2.1 dX10_year_0 rfl (lv_at hl 0 rfl) ?_
  refine lv_iconst (v := 0) hC.1 hC.2.1 dX10_year_1 (by decide) ?_
  refine x_puti (C := RX10) (T := TX10) (N := 27) (ty := .int) hC hW hS 99 (by decide) rfl rfl uX10 tyX10 tyX10_ok nmX10 0 (by decide) fl_X10_65 rfl (by decide +kernel) rfl rfl rfl dX10_year_2 (fun H locs hW hS => ?_)
  refine lv_aload_n hC.1 hC.2.1 dX10_year_5 rfl (lv_at hl 0 rfl) ?_
  refine x_get (C := RX10) (T := TX10) (N := 27) (v := _) hC hW 99 (by decide) rfl rfl uX10 19 (by decide) fl_X10_40 rfl rfl dX10_year_6 ?_
  refine lv_bipush (v := 24) hC.1 hC.2.1 dX10_year_9 (by decide) ?_
  obtain ⟨hi, h⟩ := xg h
  refine x_iald hC hW 110 (by decide) rfl hi dX10_year_11 ?_
  refine lv_bipush (v := 99) hC.1 hC.2.1 dX10_year_12 (by decide) ?_
  refine lv_icmp_ne (tgt := 20) hC.1 hC.2.1 dX10_year_14 (by decide) (fun hc => ?_) (fun hc => ?_)
  · replace h := xf hc h
    refine lv_aload_n hC.1 hC.2.1 dX10_year_20 rfl (lv_at hl 0 rfl) ?_
    obtain ⟨q21, hq, h⟩ := xb h
    try dsimp only at h
    refine x_callV (T := TX10) (N := 27) (As := []) (rest := []) hC hW hS 99 (c_X10_notes l D b cs _ _ hq) (by decide) rfl rfl mi_X10_notes in_X10_notes sl_X10_notes ml_X10_177 ⟨rfl, rfl⟩ ⟨Nat.le_of_ble_eq_true rfl, Nat.le_of_ble_eq_true rfl⟩ ⟨Nat.zero_le _, Nat.zero_le _⟩ rfl rfl hl.1 (Nat.le_of_ble_eq_true rfl) dX10_year_21 (fun H locs hW hS => ?_)
    refine lv_iconst (v := 0) hC.1 hC.2.1 dX10_year_24 (by decide) ?_
    refine lv_istore_n (lv' := [(1, .int (0 : Int32)), (0, .ref (b + 99))]) hC.1 hC.2.1 dX10_year_25 rfl hl (by decide) rfl (fun ls hl => ?_)
    refine lv_iconst (v := 0) hC.1 hC.2.1 dX10_year_26 (by decide) ?_
    refine lv_istore_n (lv' := [(2, .int (0 : Int32)), (1, .int (0 : Int32)), (0, .ref (b + 99))]) hC.1 hC.2.1 dX10_year_27 rfl hl (by decide) rfl (fun ls hl => ?_)
    exact w_X10_year_28 hC hr _ _ _ _ _ _ _ h hW hS (lv_sub hl [2, 1, 0] rfl)
  · replace h := xt hc h
    refine lv_bipush (v := -2) hC.1 hC.2.1 dX10_year_17 (by decide) ?_
    obtain ⟨rfl, rfl⟩ := xr h
    exact x_iret hC hr hW hS dX10_year_19
theorem dX10_michaelmas_0 : decode cX10_michaelmas 0 = .ok (.aload_n 0, 1) := by decide +kernel
theorem dX10_michaelmas_1 : decode cX10_michaelmas 1 = .ok (.iconst 0, 1) := by decide +kernel
theorem dX10_michaelmas_2 : decode cX10_michaelmas 2 = .ok (.putfield 65, 3) := by decide +kernel
theorem dX10_michaelmas_5 : decode cX10_michaelmas 5 = .ok (.aload_n 0, 1) := by decide +kernel
theorem dX10_michaelmas_6 : decode cX10_michaelmas 6 = .ok (.invokevirtual 177, 3) := by decide +kernel
theorem dX10_michaelmas_9 : decode cX10_michaelmas 9 = .ok (.iconst 0, 1) := by decide +kernel
theorem dX10_michaelmas_10 : decode cX10_michaelmas 10 = .ok (.istore_n 1, 1) := by decide +kernel
theorem dX10_michaelmas_11 : decode cX10_michaelmas 11 = .ok (.iconst 0, 1) := by decide +kernel
theorem dX10_michaelmas_12 : decode cX10_michaelmas 12 = .ok (.istore_n 2, 1) := by decide +kernel
theorem dX10_michaelmas_13 : decode cX10_michaelmas 13 = .ok (.iload_n 2, 1) := by decide +kernel
theorem dX10_michaelmas_14 : decode cX10_michaelmas 14 = .ok (.aload_n 0, 1) := by decide +kernel
theorem dX10_michaelmas_15 : decode cX10_michaelmas 15 = .ok (.getfield 13, 3) := by decide +kernel
theorem dX10_michaelmas_18 : decode cX10_michaelmas 18 = .ok (.iconst 1, 1) := by decide +kernel
theorem dX10_michaelmas_19 : decode cX10_michaelmas 19 = .ok (.iaload, 1) := by decide +kernel
theorem dX10_michaelmas_20 : decode cX10_michaelmas 20 = .ok (.if_icmp .ge 37, 3) := by decide +kernel
theorem dX10_michaelmas_23 : decode cX10_michaelmas 23 = .ok (.aload_n 0, 1) := by decide +kernel
theorem dX10_michaelmas_24 : decode cX10_michaelmas 24 = .ok (.getfield 40, 3) := by decide +kernel
theorem dX10_michaelmas_27 : decode cX10_michaelmas 27 = .ok (.bipush 15, 2) := by decide +kernel
theorem dX10_michaelmas_29 : decode cX10_michaelmas 29 = .ok (.iload_n 2, 1) := by decide +kernel
theorem dX10_michaelmas_30 : decode cX10_michaelmas 30 = .ok (.iadd, 1) := by decide +kernel
theorem dX10_michaelmas_31 : decode cX10_michaelmas 31 = .ok (.aload_n 0, 1) := by decide +kernel
theorem dX10_michaelmas_32 : decode cX10_michaelmas 32 = .ok (.getfield 40, 3) := by decide +kernel
theorem dX10_michaelmas_35 : decode cX10_michaelmas 35 = .ok (.bipush 15, 2) := by decide +kernel
theorem dX10_michaelmas_37 : decode cX10_michaelmas 37 = .ok (.iload_n 2, 1) := by decide +kernel
theorem dX10_michaelmas_38 : decode cX10_michaelmas 38 = .ok (.iadd, 1) := by decide +kernel
theorem dX10_michaelmas_39 : decode cX10_michaelmas 39 = .ok (.iaload, 1) := by decide +kernel
theorem dX10_michaelmas_40 : decode cX10_michaelmas 40 = .ok (.aload_n 0, 1) := by decide +kernel
theorem dX10_michaelmas_41 : decode cX10_michaelmas 41 = .ok (.getfield 13, 3) := by decide +kernel
theorem dX10_michaelmas_44 : decode cX10_michaelmas 44 = .ok (.iconst 3, 1) := by decide +kernel
theorem dX10_michaelmas_45 : decode cX10_michaelmas 45 = .ok (.iaload, 1) := by decide +kernel
theorem dX10_michaelmas_46 : decode cX10_michaelmas 46 = .ok (.iadd, 1) := by decide +kernel
theorem dX10_michaelmas_47 : decode cX10_michaelmas 47 = .ok (.bipush 41, 2) := by decide +kernel
theorem dX10_michaelmas_49 : decode cX10_michaelmas 49 = .ok (.irem, 1) := by decide +kernel
theorem dX10_michaelmas_50 : decode cX10_michaelmas 50 = .ok (.iastore, 1) := by decide +kernel
theorem dX10_michaelmas_51 : decode cX10_michaelmas 51 = .ok (.iinc 2 1, 3) := by decide +kernel
theorem dX10_michaelmas_54 : decode cX10_michaelmas 54 = .ok (.goto (-41), 3) := by decide +kernel
theorem dX10_michaelmas_57 : decode cX10_michaelmas 57 = .ok (.iconst 0, 1) := by decide +kernel
theorem dX10_michaelmas_58 : decode cX10_michaelmas 58 = .ok (.istore_n 2, 1) := by decide +kernel
theorem dX10_michaelmas_59 : decode cX10_michaelmas 59 = .ok (.iload_n 2, 1) := by decide +kernel
theorem dX10_michaelmas_60 : decode cX10_michaelmas 60 = .ok (.aload_n 0, 1) := by decide +kernel
theorem dX10_michaelmas_61 : decode cX10_michaelmas 61 = .ok (.getfield 13, 3) := by decide +kernel
theorem dX10_michaelmas_64 : decode cX10_michaelmas 64 = .ok (.iconst 1, 1) := by decide +kernel
theorem dX10_michaelmas_65 : decode cX10_michaelmas 65 = .ok (.iaload, 1) := by decide +kernel
theorem dX10_michaelmas_66 : decode cX10_michaelmas 66 = .ok (.if_icmp .ge 25, 3) := by decide +kernel
theorem dX10_michaelmas_69 : decode cX10_michaelmas 69 = .ok (.iload_n 1, 1) := by decide +kernel
theorem dX10_michaelmas_70 : decode cX10_michaelmas 70 = .ok (.aload_n 0, 1) := by decide +kernel
theorem dX10_michaelmas_71 : decode cX10_michaelmas 71 = .ok (.iload_n 2, 1) := by decide +kernel
theorem dX10_michaelmas_72 : decode cX10_michaelmas 72 = .ok (.invokevirtual 157, 3) := by decide +kernel
theorem dX10_michaelmas_75 : decode cX10_michaelmas 75 = .ok (.ifCond .ne 7, 3) := by decide +kernel
theorem dX10_michaelmas_78 : decode cX10_michaelmas 78 = .ok (.iconst 1, 1) := by decide +kernel
theorem dX10_michaelmas_79 : decode cX10_michaelmas 79 = .ok (.goto 4, 3) := by decide +kernel
theorem dX10_michaelmas_82 : decode cX10_michaelmas 82 = .ok (.iconst 0, 1) := by decide +kernel
theorem dX10_michaelmas_83 : decode cX10_michaelmas 83 = .ok (.iadd, 1) := by decide +kernel
theorem dX10_michaelmas_84 : decode cX10_michaelmas 84 = .ok (.istore_n 1, 1) := by decide +kernel
theorem dX10_michaelmas_85 : decode cX10_michaelmas 85 = .ok (.iinc 2 1, 3) := by decide +kernel
theorem dX10_michaelmas_88 : decode cX10_michaelmas 88 = .ok (.goto (-29), 3) := by decide +kernel
theorem dX10_michaelmas_91 : decode cX10_michaelmas 91 = .ok (.iload_n 1, 1) := by decide +kernel
theorem dX10_michaelmas_92 : decode cX10_michaelmas 92 = .ok (.ireturn, 1) := by decide +kernel
abbrev rX10_michaelmas : Room := { frames := 4, cells := 0, slots := 0, locals := 94 }
set_option maxHeartbeats 4000000 in
set_option maxRecDepth 100000 in
theorem w_X10_michaelmas_59 {p : Program} {l : Launch} {e : Env} {s : State} {m : MethodId} {args : Array Value} {below : List Frame} {meth : Method} {c : Code} {D : va_G} {b : Nat} {cs : Cs3} {r : Int32} {S1 : St} (hC : CX p s m args meth c RX10 cX10_michaelmas 3 D cs) (hr : meth.sig.returnType = (some .int)) : ∀ (n : Nat) (x1 : Int32) (x2 : Int32) (S : St) (H : Heap) (locs : List Loc) (ls : Array Slot), q_X10_michaelmas_59 n x1 x2 S = some (r, S1) → Wd D b cs S H → va_S (AA b) s.heap H locs → lv_has ls 3 [(0, .ref (b + 99)), (1, .int x1), (2, .int x2)] → W p l e rX10_michaelmas s m args below meth c H locs 0 0 (MQ below (QX D b cs (some (.int r)) S1) args s 0 0 (AA b)) (F0 m 59 ls []) := by
  intro n
  induction n with
  | zero =>
    intro x1 x2 S H locs ls h
    exact absurd h (by rw [q_X10_michaelmas_59]; exact fun q => nomatch q)
  | succ n IH =>
    intro x1 x2 S H locs ls h hW hS hl
    rw [q_X10_michaelmas_59] at h
    refine lv_iload_n hC.1 hC.2.1 dX10_michaelmas_59 rfl (lv_at hl 2 rfl) ?_
    refine lv_aload_n hC.1 hC.2.1 dX10_michaelmas_60 rfl (lv_at hl 0 rfl) ?_
    refine x_get (C := RX10) (T := TX10) (N := 27) (v := _) hC hW 99 (by decide) rfl rfl uX10 10 (by decide) fl_X10_13 rfl rfl dX10_michaelmas_61 ?_
    refine lv_iconst (v := 1) hC.1 hC.2.1 dX10_michaelmas_64 (by decide) ?_
    obtain ⟨hi, h⟩ := xg h
    refine x_iald hC hW 101 (by decide) rfl hi dX10_michaelmas_65 ?_
    refine lv_icmp_ge (tgt := 91) hC.1 hC.2.1 dX10_michaelmas_66 (by decide) (fun hc => ?_) (fun hc => ?_)
    · replace h := xt hc h
      refine lv_iload_n hC.1 hC.2.1 dX10_michaelmas_91 rfl (lv_at hl 1 rfl) ?_
      obtain ⟨rfl, rfl⟩ := xr h
      exact x_iret hC hr hW hS dX10_michaelmas_92
    · replace h := xf hc h
      refine lv_iload_n hC.1 hC.2.1 dX10_michaelmas_69 rfl (lv_at hl 1 rfl) ?_
      refine lv_aload_n hC.1 hC.2.1 dX10_michaelmas_70 rfl (lv_at hl 0 rfl) ?_
      refine lv_iload_n hC.1 hC.2.1 dX10_michaelmas_71 rfl (lv_at hl 2 rfl) ?_
      obtain ⟨⟨q72_r, q72_S⟩, hq, h⟩ := xb h
      try dsimp only at h
      refine x_callV (T := TX10) (N := 27) (As := [.int x2]) (rest := [.int x1]) hC hW hS 99 (c_X10_openers l D b cs _ _ _ _ hq) (by decide) rfl rfl mi_X10_openers in_X10_openers sl_X10_openers ml_X10_157 ⟨rfl, rfl⟩ ⟨Nat.le_of_ble_eq_true rfl, Nat.le_of_ble_eq_true rfl⟩ ⟨Nat.zero_le _, Nat.zero_le _⟩ rfl rfl hl.1 (Nat.le_of_ble_eq_true rfl) dX10_michaelmas_72 (fun H locs hW hS => ?_)
      refine lv_if_ne (tgt := 82) hC.1 hC.2.1 dX10_michaelmas_75 (by decide) (fun hc => ?_) (fun hc => ?_)
      · replace h := xf hc h
        refine lv_iconst (v := 0) hC.1 hC.2.1 dX10_michaelmas_82 (by decide) ?_
        refine lv_iadd hC.1 hC.2.1 dX10_michaelmas_83 ?_
        refine lv_istore_n (lv' := [(1, .int (x1 + (0 : Int32))), (0, .ref (b + 99)), (2, .int x2)]) hC.1 hC.2.1 dX10_michaelmas_84 rfl hl (by decide) rfl (fun ls hl => ?_)
        refine lv_iinc (v := x2 + 1) (lv' := [(2, .int (x2 + 1)), (1, .int (x1 + (0 : Int32))), (0, .ref (b + 99))]) hC.1 hC.2.1 dX10_michaelmas_85 hl (k := 2) rfl rfl (by decide) rfl (fun ls hl => ?_)
        refine lv_goto (tgt := 59) hC.1 hC.2.1 dX10_michaelmas_88 (by decide) ?_
        exact IH _ _ _ _ _ _ h hW hS (lv_sub hl [2, 1, 0] rfl)
      · replace h := xt hc h
        refine lv_iconst (v := 1) hC.1 hC.2.1 dX10_michaelmas_78 (by decide) ?_
        refine lv_goto (tgt := 83) hC.1 hC.2.1 dX10_michaelmas_79 (by decide) ?_
        refine lv_iadd hC.1 hC.2.1 dX10_michaelmas_83 ?_
        refine lv_istore_n (lv' := [(1, .int (x1 + (1 : Int32))), (0, .ref (b + 99)), (2, .int x2)]) hC.1 hC.2.1 dX10_michaelmas_84 rfl hl (by decide) rfl (fun ls hl => ?_)
        refine lv_iinc (v := x2 + 1) (lv' := [(2, .int (x2 + 1)), (1, .int (x1 + (1 : Int32))), (0, .ref (b + 99))]) hC.1 hC.2.1 dX10_michaelmas_85 hl (k := 2) rfl rfl (by decide) rfl (fun ls hl => ?_)
        refine lv_goto (tgt := 59) hC.1 hC.2.1 dX10_michaelmas_88 (by decide) ?_
        exact IH _ _ _ _ _ _ h hW hS (lv_sub hl [2, 1, 0] rfl)
set_option maxHeartbeats 4000000 in
set_option maxRecDepth 100000 in
theorem w_X10_michaelmas_13 {p : Program} {l : Launch} {e : Env} {s : State} {m : MethodId} {args : Array Value} {below : List Frame} {meth : Method} {c : Code} {D : va_G} {b : Nat} {cs : Cs3} {r : Int32} {S1 : St} (hC : CX p s m args meth c RX10 cX10_michaelmas 3 D cs) (hr : meth.sig.returnType = (some .int)) : ∀ (n : Nat) (x1 : Int32) (x2 : Int32) (S : St) (H : Heap) (locs : List Loc) (ls : Array Slot), q_X10_michaelmas_13 n x1 x2 S = some (r, S1) → Wd D b cs S H → va_S (AA b) s.heap H locs → lv_has ls 3 [(0, .ref (b + 99)), (1, .int x1), (2, .int x2)] → W p l e rX10_michaelmas s m args below meth c H locs 0 0 (MQ below (QX D b cs (some (.int r)) S1) args s 0 0 (AA b)) (F0 m 13 ls []) := by
  intro n
  induction n with
  | zero =>
    intro x1 x2 S H locs ls h
    exact absurd h (by rw [q_X10_michaelmas_13]; exact fun q => nomatch q)
  | succ n IH =>
    intro x1 x2 S H locs ls h hW hS hl
    rw [q_X10_michaelmas_13] at h
    refine lv_iload_n hC.1 hC.2.1 dX10_michaelmas_13 rfl (lv_at hl 2 rfl) ?_
    refine lv_aload_n hC.1 hC.2.1 dX10_michaelmas_14 rfl (lv_at hl 0 rfl) ?_
    refine x_get (C := RX10) (T := TX10) (N := 27) (v := _) hC hW 99 (by decide) rfl rfl uX10 10 (by decide) fl_X10_13 rfl rfl dX10_michaelmas_15 ?_
    refine lv_iconst (v := 1) hC.1 hC.2.1 dX10_michaelmas_18 (by decide) ?_
    obtain ⟨hi, h⟩ := xg h
    refine x_iald hC hW 101 (by decide) rfl hi dX10_michaelmas_19 ?_
    refine lv_icmp_ge (tgt := 57) hC.1 hC.2.1 dX10_michaelmas_20 (by decide) (fun hc => ?_) (fun hc => ?_)
    · replace h := xt hc h
      refine lv_iconst (v := 0) hC.1 hC.2.1 dX10_michaelmas_57 (by decide) ?_
      refine lv_istore_n (lv' := [(2, .int (0 : Int32)), (0, .ref (b + 99)), (1, .int x1)]) hC.1 hC.2.1 dX10_michaelmas_58 rfl hl (by decide) rfl (fun ls hl => ?_)
      exact w_X10_michaelmas_59 hC hr _ _ _ _ _ _ _ h hW hS (lv_sub hl [1, 2, 0] rfl)
    · replace h := xf hc h
      refine lv_aload_n hC.1 hC.2.1 dX10_michaelmas_23 rfl (lv_at hl 0 rfl) ?_
      refine x_get (C := RX10) (T := TX10) (N := 27) (v := _) hC hW 99 (by decide) rfl rfl uX10 19 (by decide) fl_X10_40 rfl rfl dX10_michaelmas_24 ?_
      refine lv_bipush (v := 15) hC.1 hC.2.1 dX10_michaelmas_27 (by decide) ?_
      refine lv_iload_n hC.1 hC.2.1 dX10_michaelmas_29 rfl (lv_at hl 2 rfl) ?_
      refine lv_iadd hC.1 hC.2.1 dX10_michaelmas_30 ?_
      refine lv_aload_n hC.1 hC.2.1 dX10_michaelmas_31 rfl (lv_at hl 0 rfl) ?_
      refine x_get (C := RX10) (T := TX10) (N := 27) (v := _) hC hW 99 (by decide) rfl rfl uX10 19 (by decide) fl_X10_40 rfl rfl dX10_michaelmas_32 ?_
      refine lv_bipush (v := 15) hC.1 hC.2.1 dX10_michaelmas_35 (by decide) ?_
      refine lv_iload_n hC.1 hC.2.1 dX10_michaelmas_37 rfl (lv_at hl 2 rfl) ?_
      refine lv_iadd hC.1 hC.2.1 dX10_michaelmas_38 ?_
      obtain ⟨hi, h⟩ := xg h
      refine x_iald hC hW 110 (by decide) rfl hi dX10_michaelmas_39 ?_
      refine lv_aload_n hC.1 hC.2.1 dX10_michaelmas_40 rfl (lv_at hl 0 rfl) ?_
      refine x_get (C := RX10) (T := TX10) (N := 27) (v := _) hC hW 99 (by decide) rfl rfl uX10 10 (by decide) fl_X10_13 rfl rfl dX10_michaelmas_41 ?_
      refine lv_iconst (v := 3) hC.1 hC.2.1 dX10_michaelmas_44 (by decide) ?_
      obtain ⟨hi, h⟩ := xg h
      refine x_iald hC hW 101 (by decide) rfl hi dX10_michaelmas_45 ?_
      refine lv_iadd hC.1 hC.2.1 dX10_michaelmas_46 ?_
      refine lv_bipush (v := 41) hC.1 hC.2.1 dX10_michaelmas_47 (by decide) ?_
      obtain ⟨hne, h⟩ := xg h
      refine lv_irem hC.1 hC.2.1 dX10_michaelmas_49 hne ?_
      obtain ⟨hi, h⟩ := xg h
      refine x_iast hC hW hS 110 (by decide) rfl hi dX10_michaelmas_50 (fun H locs hW hS => ?_)
      refine lv_iinc (v := x2 + 1) (lv' := [(2, .int (x2 + 1)), (0, .ref (b + 99)), (1, .int x1)]) hC.1 hC.2.1 dX10_michaelmas_51 hl (k := 2) rfl rfl (by decide) rfl (fun ls hl => ?_)
      refine lv_goto (tgt := 13) hC.1 hC.2.1 dX10_michaelmas_54 (by decide) ?_
      exact IH _ _ _ _ _ _ h hW hS (lv_sub hl [1, 2, 0] rfl)
set_option maxHeartbeats 4000000 in
set_option maxRecDepth 100000 in
theorem c_X10_michaelmas (l : Launch) (D : va_G) (b : Nat) (cs : Cs3) (S S1 : St) (r : Int32) (h : p_X10_michaelmas S = some (r, S1)) : Ct l yX10_michaelmas cX10_michaelmas 3 (some .int) rX10_michaelmas D b cs [.ref (b + 99)] S (some (.int r)) S1 := by
  refine x_met (by decide +kernel) (Nat.le_of_ble_eq_true rfl) ?_
  intro p e s m below meth c ls hC hr hW hS hl
  have hl : lv_has ls 3 [(0, .ref (b + 99))] := hl
  rw [p_X10_michaelmas] at h
  refine lv_aload_n hC.1 hC.2.1 dX10_michaelmas_0 rfl (lv_at hl 0 rfl) ?_
  refine lv_iconst (v := 0) hC.1 hC.2.1 dX10_michaelmas_1 (by decide) ?_
  refine x_puti (C := RX10) (T := TX10) (N := 27) (ty := .int) hC hW hS 99 (by decide) rfl rfl uX10 tyX10 tyX10_ok nmX10 0 (by decide) fl_X10_65 rfl (by decide +kernel) rfl rfl rfl dX10_michaelmas_2 (fun H locs hW hS => ?_)
  refine lv_aload_n hC.1 hC.2.1 dX10_michaelmas_5 rfl (lv_at hl 0 rfl) ?_
  obtain ⟨q6, hq, h⟩ := xb h
  try dsimp only at h
  refine x_callV (T := TX10) (N := 27) (As := []) (rest := []) hC hW hS 99 (c_X10_notes l D b cs _ _ hq) (by decide) rfl rfl mi_X10_notes in_X10_notes sl_X10_notes ml_X10_177 ⟨rfl, rfl⟩ ⟨Nat.le_of_ble_eq_true rfl, Nat.le_of_ble_eq_true rfl⟩ ⟨Nat.zero_le _, Nat.zero_le _⟩ rfl rfl hl.1 (Nat.le_of_ble_eq_true rfl) dX10_michaelmas_6 (fun H locs hW hS => ?_)
  refine lv_iconst (v := 0) hC.1 hC.2.1 dX10_michaelmas_9 (by decide) ?_
  refine lv_istore_n (lv' := [(1, .int (0 : Int32)), (0, .ref (b + 99))]) hC.1 hC.2.1 dX10_michaelmas_10 rfl hl (by decide) rfl (fun ls hl => ?_)
  refine lv_iconst (v := 0) hC.1 hC.2.1 dX10_michaelmas_11 (by decide) ?_
  refine lv_istore_n (lv' := [(2, .int (0 : Int32)), (1, .int (0 : Int32)), (0, .ref (b + 99))]) hC.1 hC.2.1 dX10_michaelmas_12 rfl hl (by decide) rfl (fun ls hl => ?_)
  exact w_X10_michaelmas_13 hC hr _ _ _ _ _ _ _ h hW hS (lv_sub hl [2, 1, 0] rfl)
theorem dX10_undo_0 : decode cX10_undo 0 = .ok (.aload_n 0, 1) := by decide +kernel
theorem dX10_undo_1 : decode cX10_undo 1 = .ok (.iconst 0, 1) := by decide +kernel
theorem dX10_undo_2 : decode cX10_undo 2 = .ok (.putfield 65, 3) := by decide +kernel
theorem dX10_undo_5 : decode cX10_undo 5 = .ok (.aload_n 0, 1) := by decide +kernel
theorem dX10_undo_6 : decode cX10_undo 6 = .ok (.getfield 128, 3) := by decide +kernel
theorem dX10_undo_9 : decode cX10_undo 9 = .ok (.ifCond .ne 6, 3) := by decide +kernel
theorem dX10_undo_12 : decode cX10_undo 12 = .ok (.bipush (-2), 2) := by decide +kernel
theorem dX10_undo_14 : decode cX10_undo 14 = .ok (.ireturn, 1) := by decide +kernel
theorem dX10_undo_15 : decode cX10_undo 15 = .ok (.aload_n 0, 1) := by decide +kernel
theorem dX10_undo_16 : decode cX10_undo 16 = .ok (.dup, 1) := by decide +kernel
theorem dX10_undo_17 : decode cX10_undo 17 = .ok (.getfield 128, 3) := by decide +kernel
theorem dX10_undo_20 : decode cX10_undo 20 = .ok (.iconst 1, 1) := by decide +kernel
theorem dX10_undo_21 : decode cX10_undo 21 = .ok (.isub, 1) := by decide +kernel
theorem dX10_undo_22 : decode cX10_undo 22 = .ok (.putfield 128, 3) := by decide +kernel
theorem dX10_undo_25 : decode cX10_undo 25 = .ok (.iconst 0, 1) := by decide +kernel
theorem dX10_undo_26 : decode cX10_undo 26 = .ok (.istore_n 1, 1) := by decide +kernel
theorem dX10_undo_27 : decode cX10_undo 27 = .ok (.iload_n 1, 1) := by decide +kernel
theorem dX10_undo_28 : decode cX10_undo 28 = .ok (.bipush 25, 2) := by decide +kernel
theorem dX10_undo_30 : decode cX10_undo 30 = .ok (.if_icmp .ge 29, 3) := by decide +kernel
theorem dX10_undo_33 : decode cX10_undo 33 = .ok (.aload_n 0, 1) := by decide +kernel
theorem dX10_undo_34 : decode cX10_undo 34 = .ok (.getfield 40, 3) := by decide +kernel
theorem dX10_undo_37 : decode cX10_undo 37 = .ok (.iload_n 1, 1) := by decide +kernel
theorem dX10_undo_38 : decode cX10_undo 38 = .ok (.aload_n 0, 1) := by decide +kernel
theorem dX10_undo_39 : decode cX10_undo 39 = .ok (.getfield 50, 3) := by decide +kernel
theorem dX10_undo_42 : decode cX10_undo 42 = .ok (.bipush 25, 2) := by decide +kernel
theorem dX10_undo_44 : decode cX10_undo 44 = .ok (.aload_n 0, 1) := by decide +kernel
theorem dX10_undo_45 : decode cX10_undo 45 = .ok (.getfield 128, 3) := by decide +kernel
theorem dX10_undo_48 : decode cX10_undo 48 = .ok (.imul, 1) := by decide +kernel
theorem dX10_undo_49 : decode cX10_undo 49 = .ok (.iload_n 1, 1) := by decide +kernel
theorem dX10_undo_50 : decode cX10_undo 50 = .ok (.iadd, 1) := by decide +kernel
theorem dX10_undo_51 : decode cX10_undo 51 = .ok (.iaload, 1) := by decide +kernel
theorem dX10_undo_52 : decode cX10_undo 52 = .ok (.iastore, 1) := by decide +kernel
theorem dX10_undo_53 : decode cX10_undo 53 = .ok (.iinc 1 1, 3) := by decide +kernel
theorem dX10_undo_56 : decode cX10_undo 56 = .ok (.goto (-29), 3) := by decide +kernel
theorem dX10_undo_59 : decode cX10_undo 59 = .ok (.aload_n 0, 1) := by decide +kernel
theorem dX10_undo_60 : decode cX10_undo 60 = .ok (.getfield 128, 3) := by decide +kernel
theorem dX10_undo_63 : decode cX10_undo 63 = .ok (.ireturn, 1) := by decide +kernel
abbrev rX10_undo : Room := { frames := 0, cells := 0, slots := 0, locals := 0 }
set_option maxHeartbeats 4000000 in
set_option maxRecDepth 100000 in
theorem w_X10_undo_27 {p : Program} {l : Launch} {e : Env} {s : State} {m : MethodId} {args : Array Value} {below : List Frame} {meth : Method} {c : Code} {D : va_G} {b : Nat} {cs : Cs3} {r : Int32} {S1 : St} (hC : CX p s m args meth c RX10 cX10_undo 2 D cs) (hr : meth.sig.returnType = (some .int)) : ∀ (n : Nat) (x1 : Int32) (S : St) (H : Heap) (locs : List Loc) (ls : Array Slot), q_X10_undo_27 n x1 S = some (r, S1) → Wd D b cs S H → va_S (AA b) s.heap H locs → lv_has ls 2 [(0, .ref (b + 99)), (1, .int x1)] → W p l e rX10_undo s m args below meth c H locs 0 0 (MQ below (QX D b cs (some (.int r)) S1) args s 0 0 (AA b)) (F0 m 27 ls []) := by
  intro n
  induction n with
  | zero =>
    intro x1 S H locs ls h
    exact absurd h (by rw [q_X10_undo_27]; exact fun q => nomatch q)
  | succ n IH =>
    intro x1 S H locs ls h hW hS hl
    rw [q_X10_undo_27] at h
    refine lv_iload_n hC.1 hC.2.1 dX10_undo_27 rfl (lv_at hl 1 rfl) ?_
    refine lv_bipush (v := 25) hC.1 hC.2.1 dX10_undo_28 (by decide) ?_
    refine lv_icmp_ge (tgt := 59) hC.1 hC.2.1 dX10_undo_30 (by decide) (fun hc => ?_) (fun hc => ?_)
    · replace h := xt hc h
      refine lv_aload_n hC.1 hC.2.1 dX10_undo_59 rfl (lv_at hl 0 rfl) ?_
      refine x_get (C := RX10) (T := TX10) (N := 27) (v := _) hC hW 99 (by decide) rfl rfl uX10 23 (by decide) fl_X10_128 rfl rfl dX10_undo_60 ?_
      obtain ⟨rfl, rfl⟩ := xr h
      exact x_iret hC hr hW hS dX10_undo_63
    · replace h := xf hc h
      refine lv_aload_n hC.1 hC.2.1 dX10_undo_33 rfl (lv_at hl 0 rfl) ?_
      refine x_get (C := RX10) (T := TX10) (N := 27) (v := _) hC hW 99 (by decide) rfl rfl uX10 19 (by decide) fl_X10_40 rfl rfl dX10_undo_34 ?_
      refine lv_iload_n hC.1 hC.2.1 dX10_undo_37 rfl (lv_at hl 1 rfl) ?_
      refine lv_aload_n hC.1 hC.2.1 dX10_undo_38 rfl (lv_at hl 0 rfl) ?_
      refine x_get (C := RX10) (T := TX10) (N := 27) (v := _) hC hW 99 (by decide) rfl rfl uX10 22 (by decide) fl_X10_50 rfl rfl dX10_undo_39 ?_
      refine lv_bipush (v := 25) hC.1 hC.2.1 dX10_undo_42 (by decide) ?_
      refine lv_aload_n hC.1 hC.2.1 dX10_undo_44 rfl (lv_at hl 0 rfl) ?_
      refine x_get (C := RX10) (T := TX10) (N := 27) (v := _) hC hW 99 (by decide) rfl rfl uX10 23 (by decide) fl_X10_128 rfl rfl dX10_undo_45 ?_
      refine lv_imul hC.1 hC.2.1 dX10_undo_48 ?_
      refine lv_iload_n hC.1 hC.2.1 dX10_undo_49 rfl (lv_at hl 1 rfl) ?_
      refine lv_iadd hC.1 hC.2.1 dX10_undo_50 ?_
      obtain ⟨hi, h⟩ := xg h
      refine x_iald hC hW 113 (by decide) rfl hi dX10_undo_51 ?_
      obtain ⟨hi, h⟩ := xg h
      refine x_iast hC hW hS 110 (by decide) rfl hi dX10_undo_52 (fun H locs hW hS => ?_)
      refine lv_iinc (v := x1 + 1) (lv' := [(1, .int (x1 + 1)), (0, .ref (b + 99))]) hC.1 hC.2.1 dX10_undo_53 hl (k := 1) rfl rfl (by decide) rfl (fun ls hl => ?_)
      refine lv_goto (tgt := 27) hC.1 hC.2.1 dX10_undo_56 (by decide) ?_
      exact IH _ _ _ _ _ h hW hS (lv_sub hl [1, 0] rfl)
set_option maxHeartbeats 4000000 in
set_option maxRecDepth 100000 in
theorem c_X10_undo (l : Launch) (D : va_G) (b : Nat) (cs : Cs3) (S S1 : St) (r : Int32) (h : p_X10_undo S = some (r, S1)) : Ct l yX10_undo cX10_undo 2 (some .int) rX10_undo D b cs [.ref (b + 99)] S (some (.int r)) S1 := by
  refine x_met (by decide +kernel) (Nat.le_of_ble_eq_true rfl) ?_
  intro p e s m below meth c ls hC hr hW hS hl
  have hl : lv_has ls 2 [(0, .ref (b + 99))] := hl
  rw [p_X10_undo] at h
  refine lv_aload_n hC.1 hC.2.1 dX10_undo_0 rfl (lv_at hl 0 rfl) ?_
  refine lv_iconst (v := 0) hC.1 hC.2.1 dX10_undo_1 (by decide) ?_
  refine x_puti (C := RX10) (T := TX10) (N := 27) (ty := .int) hC hW hS 99 (by decide) rfl rfl uX10 tyX10 tyX10_ok nmX10 0 (by decide) fl_X10_65 rfl (by decide +kernel) rfl rfl rfl dX10_undo_2 (fun H locs hW hS => ?_)
  refine lv_aload_n hC.1 hC.2.1 dX10_undo_5 rfl (lv_at hl 0 rfl) ?_
  refine x_get (C := RX10) (T := TX10) (N := 27) (v := _) hC hW 99 (by decide) rfl rfl uX10 23 (by decide) fl_X10_128 rfl rfl dX10_undo_6 ?_
  refine lv_if_ne (tgt := 15) hC.1 hC.2.1 dX10_undo_9 (by decide) (fun hc => ?_) (fun hc => ?_)
  · replace h := xf hc h
    refine lv_aload_n hC.1 hC.2.1 dX10_undo_15 rfl (lv_at hl 0 rfl) ?_
    refine lv_dup hC.1 hC.2.1 dX10_undo_16 rfl ?_
    refine x_get (C := RX10) (T := TX10) (N := 27) (v := _) hC hW 99 (by decide) rfl rfl uX10 23 (by decide) fl_X10_128 rfl rfl dX10_undo_17 ?_
    refine lv_iconst (v := 1) hC.1 hC.2.1 dX10_undo_20 (by decide) ?_
    refine lv_isub hC.1 hC.2.1 dX10_undo_21 ?_
    refine x_puti (C := RX10) (T := TX10) (N := 27) (ty := .int) hC hW hS 99 (by decide) rfl rfl uX10 tyX10 tyX10_ok nmX10 23 (by decide) fl_X10_128 rfl (by decide +kernel) rfl rfl rfl dX10_undo_22 (fun H locs hW hS => ?_)
    refine lv_iconst (v := 0) hC.1 hC.2.1 dX10_undo_25 (by decide) ?_
    refine lv_istore_n (lv' := [(1, .int (0 : Int32)), (0, .ref (b + 99))]) hC.1 hC.2.1 dX10_undo_26 rfl hl (by decide) rfl (fun ls hl => ?_)
    exact w_X10_undo_27 hC hr _ _ _ _ _ _ h hW hS (lv_sub hl [1, 0] rfl)
  · replace h := xt hc h
    refine lv_bipush (v := -2) hC.1 hC.2.1 dX10_undo_12 (by decide) ?_
    obtain ⟨rfl, rfl⟩ := xr h
    exact x_iret hC hr hW hS dX10_undo_14
theorem dX10_way_0 : decode cX10_way 0 = .ok (.aload_n 0, 1) := by decide +kernel
theorem dX10_way_1 : decode cX10_way 1 = .ok (.iconst 0, 1) := by decide +kernel
theorem dX10_way_2 : decode cX10_way 2 = .ok (.putfield 65, 3) := by decide +kernel
theorem dX10_way_5 : decode cX10_way 5 = .ok (.aload_n 0, 1) := by decide +kernel
theorem dX10_way_6 : decode cX10_way 6 = .ok (.iload_n 1, 1) := by decide +kernel
theorem dX10_way_7 : decode cX10_way 7 = .ok (.invokevirtual 160, 3) := by decide +kernel
theorem dX10_way_10 : decode cX10_way 10 = .ok (.ifCond .eq 11, 3) := by decide +kernel
theorem dX10_way_13 : decode cX10_way 13 = .ok (.aload_n 0, 1) := by decide +kernel
theorem dX10_way_14 : decode cX10_way 14 = .ok (.iload_n 2, 1) := by decide +kernel
theorem dX10_way_15 : decode cX10_way 15 = .ok (.invokevirtual 180, 3) := by decide +kernel
theorem dX10_way_18 : decode cX10_way 18 = .ok (.ifCond .ne 5, 3) := by decide +kernel
theorem dX10_way_21 : decode cX10_way 21 = .ok (.iconst (-1), 1) := by decide +kernel
theorem dX10_way_22 : decode cX10_way 22 = .ok (.ireturn, 1) := by decide +kernel
theorem dX10_way_23 : decode cX10_way 23 = .ok (.iconst 1, 1) := by decide +kernel
theorem dX10_way_24 : decode cX10_way 24 = .ok (.aload_n 0, 1) := by decide +kernel
theorem dX10_way_25 : decode cX10_way 25 = .ok (.getfield 40, 3) := by decide +kernel
theorem dX10_way_28 : decode cX10_way 28 = .ok (.iconst 0, 1) := by decide +kernel
theorem dX10_way_29 : decode cX10_way 29 = .ok (.iload_n 1, 1) := by decide +kernel
theorem dX10_way_30 : decode cX10_way 30 = .ok (.iadd, 1) := by decide +kernel
theorem dX10_way_31 : decode cX10_way 31 = .ok (.iaload, 1) := by decide +kernel
theorem dX10_way_32 : decode cX10_way 32 = .ok (.ishl, 1) := by decide +kernel
theorem dX10_way_33 : decode cX10_way 33 = .ok (.istore_n 3, 1) := by decide +kernel
theorem dX10_way_34 : decode cX10_way 34 = .ok (.iconst 0, 1) := by decide +kernel
theorem dX10_way_35 : decode cX10_way 35 = .ok (.istore 4, 2) := by decide +kernel
theorem dX10_way_37 : decode cX10_way 37 = .ok (.iload 4, 2) := by decide +kernel
theorem dX10_way_39 : decode cX10_way 39 = .ok (.bipush 8, 2) := by decide +kernel
theorem dX10_way_41 : decode cX10_way 41 = .ok (.if_icmp .ge 31, 3) := by decide +kernel
theorem dX10_way_44 : decode cX10_way 44 = .ok (.iload_n 3, 1) := by decide +kernel
theorem dX10_way_45 : decode cX10_way 45 = .ok (.iload_n 2, 1) := by decide +kernel
theorem dX10_way_46 : decode cX10_way 46 = .ok (.invokestatic 138, 3) := by decide +kernel
theorem dX10_way_49 : decode cX10_way 49 = .ok (.ifCond .eq 6, 3) := by decide +kernel
theorem dX10_way_52 : decode cX10_way 52 = .ok (.iload 4, 2) := by decide +kernel
theorem dX10_way_54 : decode cX10_way 54 = .ok (.ireturn, 1) := by decide +kernel
theorem dX10_way_55 : decode cX10_way 55 = .ok (.aload_n 0, 1) := by decide +kernel
theorem dX10_way_56 : decode cX10_way 56 = .ok (.iload_n 3, 1) := by decide +kernel
theorem dX10_way_57 : decode cX10_way 57 = .ok (.aload_n 0, 1) := by decide +kernel
theorem dX10_way_58 : decode cX10_way 58 = .ok (.iload_n 1, 1) := by decide +kernel
theorem dX10_way_59 : decode cX10_way 59 = .ok (.invokevirtual 145, 3) := by decide +kernel
theorem dX10_way_62 : decode cX10_way 62 = .ok (.invokevirtual 148, 3) := by decide +kernel
theorem dX10_way_65 : decode cX10_way 65 = .ok (.istore_n 3, 1) := by decide +kernel
theorem dX10_way_66 : decode cX10_way 66 = .ok (.iinc 4 1, 3) := by decide +kernel
theorem dX10_way_69 : decode cX10_way 69 = .ok (.goto (-32), 3) := by decide +kernel
theorem dX10_way_72 : decode cX10_way 72 = .ok (.bipush (-9), 2) := by decide +kernel
theorem dX10_way_74 : decode cX10_way 74 = .ok (.ireturn, 1) := by decide +kernel
abbrev rX10_way : Room := { frames := 3, cells := 0, slots := 0, locals := 71 }
set_option maxHeartbeats 4000000 in
set_option maxRecDepth 100000 in
theorem w_X10_way_37 {p : Program} {l : Launch} {e : Env} {s : State} {m : MethodId} {args : Array Value} {below : List Frame} {meth : Method} {c : Code} {D : va_G} {b : Nat} {cs : Cs3} {r : Int32} {S1 : St} (hC : CX p s m args meth c RX10 cX10_way 5 D cs) (hr : meth.sig.returnType = (some .int)) : ∀ (n : Nat) (x1 : Int32) (x2 : Int32) (x3 : Int32) (x4 : Int32) (S : St) (H : Heap) (locs : List Loc) (ls : Array Slot), q_X10_way_37 n x1 x2 x3 x4 S = some (r, S1) → Wd D b cs S H → va_S (AA b) s.heap H locs → lv_has ls 5 [(0, .ref (b + 99)), (1, .int x1), (2, .int x2), (3, .int x3), (4, .int x4)] → W p l e rX10_way s m args below meth c H locs 0 0 (MQ below (QX D b cs (some (.int r)) S1) args s 0 0 (AA b)) (F0 m 37 ls []) := by
  intro n
  induction n with
  | zero =>
    intro x1 x2 x3 x4 S H locs ls h
    exact absurd h (by rw [q_X10_way_37]; exact fun q => nomatch q)
  | succ n IH =>
    intro x1 x2 x3 x4 S H locs ls h hW hS hl
    rw [q_X10_way_37] at h
    refine lv_iload hC.1 hC.2.1 dX10_way_37 (lv_at hl 4 rfl) ?_
    refine lv_bipush (v := 8) hC.1 hC.2.1 dX10_way_39 (by decide) ?_
    refine lv_icmp_ge (tgt := 72) hC.1 hC.2.1 dX10_way_41 (by decide) (fun hc => ?_) (fun hc => ?_)
    · replace h := xt hc h
      refine lv_bipush (v := -9) hC.1 hC.2.1 dX10_way_72 (by decide) ?_
      obtain ⟨rfl, rfl⟩ := xr h
      exact x_iret hC hr hW hS dX10_way_74
    · replace h := xf hc h
      refine lv_iload_n hC.1 hC.2.1 dX10_way_44 rfl (lv_at hl 3 rfl) ?_
      refine lv_iload_n hC.1 hC.2.1 dX10_way_45 rfl (lv_at hl 2 rfl) ?_
      obtain ⟨⟨q46_r, q46_S⟩, hq, h⟩ := xb h
      try dsimp only at h
      refine x_callS (As := [.int x3, .int x2]) (rest := []) hC hW hS (c_X10_has l D b cs _ _ _ _ _ hq) mi_X10_has st_X10_has ml_X10_138 ⟨rfl, rfl⟩ ⟨Nat.le_of_ble_eq_true rfl, Nat.le_of_ble_eq_true rfl⟩ ⟨Nat.zero_le _, Nat.zero_le _⟩ rfl rfl hl.1 (Nat.le_of_ble_eq_true rfl) dX10_way_46 (fun H locs hW hS => ?_)
      refine lv_if_eq (tgt := 55) hC.1 hC.2.1 dX10_way_49 (by decide) (fun hc => ?_) (fun hc => ?_)
      · replace h := xt hc h
        refine lv_aload_n hC.1 hC.2.1 dX10_way_55 rfl (lv_at hl 0 rfl) ?_
        refine lv_iload_n hC.1 hC.2.1 dX10_way_56 rfl (lv_at hl 3 rfl) ?_
        refine lv_aload_n hC.1 hC.2.1 dX10_way_57 rfl (lv_at hl 0 rfl) ?_
        refine lv_iload_n hC.1 hC.2.1 dX10_way_58 rfl (lv_at hl 1 rfl) ?_
        obtain ⟨⟨q59_r, q59_S⟩, hq, h⟩ := xb h
        try dsimp only at h
        refine x_callV (T := TX10) (N := 27) (As := [.int x1]) (rest := [.int x3, .ref (b + 99)]) hC hW hS 99 (c_X10_keys l D b cs _ _ _ _ hq) (by decide) rfl rfl mi_X10_keys in_X10_keys sl_X10_keys ml_X10_145 ⟨rfl, rfl⟩ ⟨Nat.le_of_ble_eq_true rfl, Nat.le_of_ble_eq_true rfl⟩ ⟨Nat.zero_le _, Nat.zero_le _⟩ rfl rfl hl.1 (Nat.le_of_ble_eq_true rfl) dX10_way_59 (fun H locs hW hS => ?_)
        obtain ⟨⟨q62_r, q62_S⟩, hq, h⟩ := xb h
        try dsimp only at h
        refine x_callV (T := TX10) (N := 27) (As := [.int x3, .int q59_r]) (rest := []) hC hW hS 99 (c_X10_wider l D b cs _ _ _ _ _ hq) (by decide) rfl rfl mi_X10_wider in_X10_wider sl_X10_wider ml_X10_148 ⟨rfl, rfl⟩ ⟨Nat.le_of_ble_eq_true rfl, Nat.le_of_ble_eq_true rfl⟩ ⟨Nat.zero_le _, Nat.zero_le _⟩ rfl rfl hl.1 (Nat.le_of_ble_eq_true rfl) dX10_way_62 (fun H locs hW hS => ?_)
        refine lv_istore_n (lv' := [(3, .int q62_r), (0, .ref (b + 99)), (1, .int x1), (2, .int x2), (4, .int x4)]) hC.1 hC.2.1 dX10_way_65 rfl hl (by decide) rfl (fun ls hl => ?_)
        refine lv_iinc (v := x4 + 1) (lv' := [(4, .int (x4 + 1)), (3, .int q62_r), (0, .ref (b + 99)), (1, .int x1), (2, .int x2)]) hC.1 hC.2.1 dX10_way_66 hl (k := 4) rfl rfl (by decide) rfl (fun ls hl => ?_)
        refine lv_goto (tgt := 37) hC.1 hC.2.1 dX10_way_69 (by decide) ?_
        exact IH _ _ _ _ _ _ _ _ h hW hS (lv_sub hl [2, 3, 4, 1, 0] rfl)
      · replace h := xf hc h
        refine lv_iload hC.1 hC.2.1 dX10_way_52 (lv_at hl 4 rfl) ?_
        obtain ⟨rfl, rfl⟩ := xr h
        exact x_iret hC hr hW hS dX10_way_54
set_option maxHeartbeats 4000000 in
set_option maxRecDepth 100000 in
theorem c_X10_way (l : Launch) (D : va_G) (b : Nat) (cs : Cs3) (x1 : Int32) (x2 : Int32) (S S1 : St) (r : Int32) (h : p_X10_way x1 x2 S = some (r, S1)) : Ct l yX10_way cX10_way 5 (some .int) rX10_way D b cs [.ref (b + 99), .int x1, .int x2] S (some (.int r)) S1 := by
  refine x_met (by decide +kernel) (Nat.le_of_ble_eq_true rfl) ?_
  intro p e s m below meth c ls hC hr hW hS hl
  have hl : lv_has ls 5 [(0, .ref (b + 99)), (1, .int x1), (2, .int x2)] := hl
  rw [p_X10_way] at h
  refine lv_aload_n hC.1 hC.2.1 dX10_way_0 rfl (lv_at hl 0 rfl) ?_
  refine lv_iconst (v := 0) hC.1 hC.2.1 dX10_way_1 (by decide) ?_
  refine x_puti (C := RX10) (T := TX10) (N := 27) (ty := .int) hC hW hS 99 (by decide) rfl rfl uX10 tyX10 tyX10_ok nmX10 0 (by decide) fl_X10_65 rfl (by decide +kernel) rfl rfl rfl dX10_way_2 (fun H locs hW hS => ?_)
  refine lv_aload_n hC.1 hC.2.1 dX10_way_5 rfl (lv_at hl 0 rfl) ?_
  refine lv_iload_n hC.1 hC.2.1 dX10_way_6 rfl (lv_at hl 1 rfl) ?_
  obtain ⟨⟨q7_r, q7_S⟩, hq, h⟩ := xb h
  try dsimp only at h
  refine x_callV (T := TX10) (N := 27) (As := [.int x1]) (rest := []) hC hW hS 99 (c_X10_isBoy l D b cs _ _ _ _ hq) (by decide) rfl rfl mi_X10_isBoy in_X10_isBoy sl_X10_isBoy ml_X10_160 ⟨rfl, rfl⟩ ⟨Nat.le_of_ble_eq_true rfl, Nat.le_of_ble_eq_true rfl⟩ ⟨Nat.zero_le _, Nat.zero_le _⟩ rfl rfl hl.1 (Nat.le_of_ble_eq_true rfl) dX10_way_7 (fun H locs hW hS => ?_)
  refine lv_if_eq (tgt := 21) hC.1 hC.2.1 dX10_way_10 (by decide) (fun hc => ?_) (fun hc => ?_)
  · replace h := xt hc h
    refine lv_iconst (v := -1) hC.1 hC.2.1 dX10_way_21 (by decide) ?_
    obtain ⟨rfl, rfl⟩ := xr h
    exact x_iret hC hr hW hS dX10_way_22
  · replace h := xf hc h
    refine lv_aload_n hC.1 hC.2.1 dX10_way_13 rfl (lv_at hl 0 rfl) ?_
    refine lv_iload_n hC.1 hC.2.1 dX10_way_14 rfl (lv_at hl 2 rfl) ?_
    obtain ⟨⟨q15_r, q15_S⟩, hq, h⟩ := xb h
    try dsimp only at h
    refine x_callV (T := TX10) (N := 27) (As := [.int x2]) (rest := []) hC hW hS 99 (c_X10_isPlace l D b cs _ _ _ _ hq) (by decide) rfl rfl mi_X10_isPlace in_X10_isPlace sl_X10_isPlace ml_X10_180 ⟨rfl, rfl⟩ ⟨Nat.le_of_ble_eq_true rfl, Nat.le_of_ble_eq_true rfl⟩ ⟨Nat.zero_le _, Nat.zero_le _⟩ rfl rfl hl.1 (Nat.le_of_ble_eq_true rfl) dX10_way_15 (fun H locs hW hS => ?_)
    refine lv_if_ne (tgt := 23) hC.1 hC.2.1 dX10_way_18 (by decide) (fun hc => ?_) (fun hc => ?_)
    · replace h := xf hc h
      refine lv_iconst (v := 1) hC.1 hC.2.1 dX10_way_23 (by decide) ?_
      refine lv_aload_n hC.1 hC.2.1 dX10_way_24 rfl (lv_at hl 0 rfl) ?_
      refine x_get (C := RX10) (T := TX10) (N := 27) (v := _) hC hW 99 (by decide) rfl rfl uX10 19 (by decide) fl_X10_40 rfl rfl dX10_way_25 ?_
      refine lv_iconst (v := 0) hC.1 hC.2.1 dX10_way_28 (by decide) ?_
      refine lv_iload_n hC.1 hC.2.1 dX10_way_29 rfl (lv_at hl 1 rfl) ?_
      refine lv_iadd hC.1 hC.2.1 dX10_way_30 ?_
      obtain ⟨hi, h⟩ := xg h
      refine x_iald hC hW 110 (by decide) rfl hi dX10_way_31 ?_
      refine lv_ishl hC.1 hC.2.1 dX10_way_32 ?_
      refine lv_istore_n (lv' := [(3, .int ((1 : Int32) <<< ((q15_S.1 110 ((0 : Int32) + x1).toNatClampNeg) &&& 31))), (0, .ref (b + 99)), (1, .int x1), (2, .int x2)]) hC.1 hC.2.1 dX10_way_33 rfl hl (by decide) rfl (fun ls hl => ?_)
      refine lv_iconst (v := 0) hC.1 hC.2.1 dX10_way_34 (by decide) ?_
      refine lv_istore (lv' := [(4, .int (0 : Int32)), (3, .int ((1 : Int32) <<< ((q15_S.1 110 ((0 : Int32) + x1).toNatClampNeg) &&& 31))), (0, .ref (b + 99)), (1, .int x1), (2, .int x2)]) hC.1 hC.2.1 dX10_way_35 hl (by decide) rfl (fun ls hl => ?_)
      exact w_X10_way_37 hC hr _ _ _ _ _ _ _ _ _ h hW hS (lv_sub hl [2, 3, 4, 1, 0] rfl)
    · replace h := xt hc h
      refine lv_iconst (v := -1) hC.1 hC.2.1 dX10_way_21 (by decide) ?_
      obtain ⟨rfl, rfl⟩ := xr h
      exact x_iret hC hr hW hS dX10_way_22
theorem dX10_nines_0 : decode cX10_nines 0 = .ok (.iconst 1, 1) := by decide +kernel
theorem dX10_nines_1 : decode cX10_nines 1 = .ok (.istore_n 1, 1) := by decide +kernel
theorem dX10_nines_2 : decode cX10_nines 2 = .ok (.iconst 0, 1) := by decide +kernel
theorem dX10_nines_3 : decode cX10_nines 3 = .ok (.istore_n 2, 1) := by decide +kernel
theorem dX10_nines_4 : decode cX10_nines 4 = .ok (.iload_n 2, 1) := by decide +kernel
theorem dX10_nines_5 : decode cX10_nines 5 = .ok (.iload_n 0, 1) := by decide +kernel
theorem dX10_nines_6 : decode cX10_nines 6 = .ok (.if_icmp .ge 14, 3) := by decide +kernel
theorem dX10_nines_9 : decode cX10_nines 9 = .ok (.iload_n 1, 1) := by decide +kernel
theorem dX10_nines_10 : decode cX10_nines 10 = .ok (.bipush 9, 2) := by decide +kernel
theorem dX10_nines_12 : decode cX10_nines 12 = .ok (.imul, 1) := by decide +kernel
theorem dX10_nines_13 : decode cX10_nines 13 = .ok (.istore_n 1, 1) := by decide +kernel
theorem dX10_nines_14 : decode cX10_nines 14 = .ok (.iinc 2 1, 3) := by decide +kernel
theorem dX10_nines_17 : decode cX10_nines 17 = .ok (.goto (-13), 3) := by decide +kernel
theorem dX10_nines_20 : decode cX10_nines 20 = .ok (.iload_n 1, 1) := by decide +kernel
theorem dX10_nines_21 : decode cX10_nines 21 = .ok (.ireturn, 1) := by decide +kernel
abbrev rX10_nines : Room := { frames := 0, cells := 0, slots := 0, locals := 0 }
set_option maxHeartbeats 4000000 in
set_option maxRecDepth 100000 in
theorem w_X10_nines_4 {p : Program} {l : Launch} {e : Env} {s : State} {m : MethodId} {args : Array Value} {below : List Frame} {meth : Method} {c : Code} {D : va_G} {b : Nat} {cs : Cs3} {r : Int32} {S1 : St} (hC : CX p s m args meth c RX10 cX10_nines 3 D cs) (hr : meth.sig.returnType = (some .int)) : ∀ (n : Nat) (x0 : Int32) (x1 : Int32) (x2 : Int32) (S : St) (H : Heap) (locs : List Loc) (ls : Array Slot), q_X10_nines_4 n x0 x1 x2 S = some (r, S1) → Wd D b cs S H → va_S (AA b) s.heap H locs → lv_has ls 3 [(0, .int x0), (1, .int x1), (2, .int x2)] → W p l e rX10_nines s m args below meth c H locs 0 0 (MQ below (QX D b cs (some (.int r)) S1) args s 0 0 (AA b)) (F0 m 4 ls []) := by
  intro n
  induction n with
  | zero =>
    intro x0 x1 x2 S H locs ls h
    exact absurd h (by rw [q_X10_nines_4]; exact fun q => nomatch q)
  | succ n IH =>
    intro x0 x1 x2 S H locs ls h hW hS hl
    rw [q_X10_nines_4] at h
    refine lv_iload_n hC.1 hC.2.1 dX10_nines_4 rfl (lv_at hl 2 rfl) ?_
    refine lv_iload_n hC.1 hC.2.1 dX10_nines_5 rfl (lv_at hl 0 rfl) ?_
    refine lv_icmp_ge (tgt := 20) hC.1 hC.2.1 dX10_nines_6 (by decide) (fun hc => ?_) (fun hc => ?_)
    · replace h := xt hc h
      refine lv_iload_n hC.1 hC.2.1 dX10_nines_20 rfl (lv_at hl 1 rfl) ?_
      obtain ⟨rfl, rfl⟩ := xr h
      exact x_iret hC hr hW hS dX10_nines_21
    · replace h := xf hc h
      refine lv_iload_n hC.1 hC.2.1 dX10_nines_9 rfl (lv_at hl 1 rfl) ?_
      refine lv_bipush (v := 9) hC.1 hC.2.1 dX10_nines_10 (by decide) ?_
      refine lv_imul hC.1 hC.2.1 dX10_nines_12 ?_
      refine lv_istore_n (lv' := [(1, .int (x1 * (9 : Int32))), (0, .int x0), (2, .int x2)]) hC.1 hC.2.1 dX10_nines_13 rfl hl (by decide) rfl (fun ls hl => ?_)
      refine lv_iinc (v := x2 + 1) (lv' := [(2, .int (x2 + 1)), (1, .int (x1 * (9 : Int32))), (0, .int x0)]) hC.1 hC.2.1 dX10_nines_14 hl (k := 2) rfl rfl (by decide) rfl (fun ls hl => ?_)
      refine lv_goto (tgt := 4) hC.1 hC.2.1 dX10_nines_17 (by decide) ?_
      exact IH _ _ _ _ _ _ _ h hW hS (lv_sub hl [2, 1, 0] rfl)
set_option maxHeartbeats 4000000 in
set_option maxRecDepth 100000 in
theorem c_X10_nines (l : Launch) (D : va_G) (b : Nat) (cs : Cs3) (x0 : Int32) (S S1 : St) (r : Int32) (h : p_X10_nines x0 S = some (r, S1)) : Ct l yX10_nines cX10_nines 3 (some .int) rX10_nines D b cs [.int x0] S (some (.int r)) S1 := by
  refine x_met (by decide +kernel) (Nat.le_of_ble_eq_true rfl) ?_
  intro p e s m below meth c ls hC hr hW hS hl
  have hl : lv_has ls 3 [(0, .int x0)] := hl
  rw [p_X10_nines] at h
  refine lv_iconst (v := 1) hC.1 hC.2.1 dX10_nines_0 (by decide) ?_
  refine lv_istore_n (lv' := [(1, .int (1 : Int32)), (0, .int x0)]) hC.1 hC.2.1 dX10_nines_1 rfl hl (by decide) rfl (fun ls hl => ?_)
  refine lv_iconst (v := 0) hC.1 hC.2.1 dX10_nines_2 (by decide) ?_
  refine lv_istore_n (lv' := [(2, .int (0 : Int32)), (1, .int (1 : Int32)), (0, .int x0)]) hC.1 hC.2.1 dX10_nines_3 rfl hl (by decide) rfl (fun ls hl => ?_)
  exact w_X10_nines_4 hC hr _ _ _ _ _ _ _ _ h hW hS (lv_sub hl [2, 1, 0] rfl)
theorem dX10_postIn_0 : decode cX10_postIn 0 = .ok (.iload_n 1, 1) := by decide +kernel
theorem dX10_postIn_1 : decode cX10_postIn 1 = .ok (.aload_n 0, 1) := by decide +kernel
theorem dX10_postIn_2 : decode cX10_postIn 2 = .ok (.getfield 13, 3) := by decide +kernel
theorem dX10_postIn_5 : decode cX10_postIn 5 = .ok (.iconst 2, 1) := by decide +kernel
theorem dX10_postIn_6 : decode cX10_postIn 6 = .ok (.iaload, 1) := by decide +kernel
theorem dX10_postIn_7 : decode cX10_postIn 7 = .ok (.iconst 1, 1) := by decide +kernel
theorem dX10_postIn_8 : decode cX10_postIn 8 = .ok (.isub, 1) := by decide +kernel
theorem dX10_postIn_9 : decode cX10_postIn 9 = .ok (.iload_n 2, 1) := by decide +kernel
theorem dX10_postIn_10 : decode cX10_postIn 10 = .ok (.isub, 1) := by decide +kernel
theorem dX10_postIn_11 : decode cX10_postIn 11 = .ok (.invokestatic 183, 3) := by decide +kernel
theorem dX10_postIn_14 : decode cX10_postIn 14 = .ok (.idiv, 1) := by decide +kernel
theorem dX10_postIn_15 : decode cX10_postIn 15 = .ok (.bipush 9, 2) := by decide +kernel
theorem dX10_postIn_17 : decode cX10_postIn 17 = .ok (.irem, 1) := by decide +kernel
theorem dX10_postIn_18 : decode cX10_postIn 18 = .ok (.ireturn, 1) := by decide +kernel
abbrev rX10_postIn : Room := { frames := 1, cells := 0, slots := 0, locals := 22 }
set_option maxHeartbeats 4000000 in
set_option maxRecDepth 100000 in
theorem c_X10_postIn (l : Launch) (D : va_G) (b : Nat) (cs : Cs3) (x1 : Int32) (x2 : Int32) (S S1 : St) (r : Int32) (h : p_X10_postIn x1 x2 S = some (r, S1)) : Ct l yX10_postIn cX10_postIn 3 (some .int) rX10_postIn D b cs [.ref (b + 99), .int x1, .int x2] S (some (.int r)) S1 := by
  refine x_met (by decide +kernel) (Nat.le_of_ble_eq_true rfl) ?_
  intro p e s m below meth c ls hC hr hW hS hl
  have hl : lv_has ls 3 [(0, .ref (b + 99)), (1, .int x1), (2, .int x2)] := hl
  rw [p_X10_postIn] at h
  refine lv_iload_n hC.1 hC.2.1 dX10_postIn_0 rfl (lv_at hl 1 rfl) ?_
  refine lv_aload_n hC.1 hC.2.1 dX10_postIn_1 rfl (lv_at hl 0 rfl) ?_
  refine x_get (C := RX10) (T := TX10) (N := 27) (v := _) hC hW 99 (by decide) rfl rfl uX10 10 (by decide) fl_X10_13 rfl rfl dX10_postIn_2 ?_
  refine lv_iconst (v := 2) hC.1 hC.2.1 dX10_postIn_5 (by decide) ?_
  obtain ⟨hi, h⟩ := xg h
  refine x_iald hC hW 101 (by decide) rfl hi dX10_postIn_6 ?_
  refine lv_iconst (v := 1) hC.1 hC.2.1 dX10_postIn_7 (by decide) ?_
  refine lv_isub hC.1 hC.2.1 dX10_postIn_8 ?_
  refine lv_iload_n hC.1 hC.2.1 dX10_postIn_9 rfl (lv_at hl 2 rfl) ?_
  refine lv_isub hC.1 hC.2.1 dX10_postIn_10 ?_
  obtain ⟨⟨q11_r, q11_S⟩, hq, h⟩ := xb h
  try dsimp only at h
  refine x_callS (As := [.int (((S.1 101 (2 : Int32).toNatClampNeg) - (1 : Int32)) - x2)]) (rest := [.int x1]) hC hW hS (c_X10_nines l D b cs _ _ _ _ hq) mi_X10_nines st_X10_nines ml_X10_183 ⟨rfl, rfl⟩ ⟨Nat.le_of_ble_eq_true rfl, Nat.le_of_ble_eq_true rfl⟩ ⟨Nat.zero_le _, Nat.zero_le _⟩ rfl rfl hl.1 (Nat.le_of_ble_eq_true rfl) dX10_postIn_11 (fun H locs hW hS => ?_)
  obtain ⟨hne, h⟩ := xg h
  refine lv_idiv hC.1 hC.2.1 dX10_postIn_14 hne ?_
  refine lv_bipush (v := 9) hC.1 hC.2.1 dX10_postIn_15 (by decide) ?_
  obtain ⟨hne, h⟩ := xg h
  refine lv_irem hC.1 hC.2.1 dX10_postIn_17 hne ?_
  obtain ⟨rfl, rfl⟩ := xr h
  exact x_iret hC hr hW hS dX10_postIn_18
theorem dX10_standing_0 : decode cX10_standing 0 = .ok (.iconst 0, 1) := by decide +kernel
theorem dX10_standing_1 : decode cX10_standing 1 = .ok (.istore_n 2, 1) := by decide +kernel
theorem dX10_standing_2 : decode cX10_standing 2 = .ok (.iconst 0, 1) := by decide +kernel
theorem dX10_standing_3 : decode cX10_standing 3 = .ok (.istore_n 3, 1) := by decide +kernel
theorem dX10_standing_4 : decode cX10_standing 4 = .ok (.iconst 0, 1) := by decide +kernel
theorem dX10_standing_5 : decode cX10_standing 5 = .ok (.istore 4, 2) := by decide +kernel
theorem dX10_standing_7 : decode cX10_standing 7 = .ok (.iload 4, 2) := by decide +kernel
theorem dX10_standing_9 : decode cX10_standing 9 = .ok (.aload_n 0, 1) := by decide +kernel
theorem dX10_standing_10 : decode cX10_standing 10 = .ok (.getfield 13, 3) := by decide +kernel
theorem dX10_standing_13 : decode cX10_standing 13 = .ok (.iconst 2, 1) := by decide +kernel
theorem dX10_standing_14 : decode cX10_standing 14 = .ok (.iaload, 1) := by decide +kernel
theorem dX10_standing_15 : decode cX10_standing 15 = .ok (.if_icmp .ge 61, 3) := by decide +kernel
theorem dX10_standing_18 : decode cX10_standing 18 = .ok (.aload_n 0, 1) := by decide +kernel
theorem dX10_standing_19 : decode cX10_standing 19 = .ok (.iload_n 1, 1) := by decide +kernel
theorem dX10_standing_20 : decode cX10_standing 20 = .ok (.iload 4, 2) := by decide +kernel
theorem dX10_standing_22 : decode cX10_standing 22 = .ok (.invokevirtual 186, 3) := by decide +kernel
theorem dX10_standing_25 : decode cX10_standing 25 = .ok (.istore 5, 2) := by decide +kernel
theorem dX10_standing_27 : decode cX10_standing 27 = .ok (.iload 5, 2) := by decide +kernel
theorem dX10_standing_29 : decode cX10_standing 29 = .ok (.bipush 8, 2) := by decide +kernel
theorem dX10_standing_31 : decode cX10_standing 31 = .ok (.if_icmp .ge 39, 3) := by decide +kernel
theorem dX10_standing_34 : decode cX10_standing 34 = .ok (.aload_n 0, 1) := by decide +kernel
theorem dX10_standing_35 : decode cX10_standing 35 = .ok (.iload 4, 2) := by decide +kernel
theorem dX10_standing_37 : decode cX10_standing 37 = .ok (.invokevirtual 145, 3) := by decide +kernel
theorem dX10_standing_40 : decode cX10_standing 40 = .ok (.iload 5, 2) := by decide +kernel
theorem dX10_standing_42 : decode cX10_standing 42 = .ok (.invokestatic 138, 3) := by decide +kernel
theorem dX10_standing_45 : decode cX10_standing 45 = .ok (.ifCond .eq 12, 3) := by decide +kernel
theorem dX10_standing_48 : decode cX10_standing 48 = .ok (.iload_n 3, 1) := by decide +kernel
theorem dX10_standing_49 : decode cX10_standing 49 = .ok (.iload 5, 2) := by decide +kernel
theorem dX10_standing_51 : decode cX10_standing 51 = .ok (.invokestatic 138, 3) := by decide +kernel
theorem dX10_standing_54 : decode cX10_standing 54 = .ok (.ifCond .eq 6, 3) := by decide +kernel
theorem dX10_standing_57 : decode cX10_standing 57 = .ok (.bipush (-9), 2) := by decide +kernel
theorem dX10_standing_59 : decode cX10_standing 59 = .ok (.ireturn, 1) := by decide +kernel
theorem dX10_standing_60 : decode cX10_standing 60 = .ok (.iload_n 3, 1) := by decide +kernel
theorem dX10_standing_61 : decode cX10_standing 61 = .ok (.iconst 1, 1) := by decide +kernel
theorem dX10_standing_62 : decode cX10_standing 62 = .ok (.iload 5, 2) := by decide +kernel
theorem dX10_standing_64 : decode cX10_standing 64 = .ok (.ishl, 1) := by decide +kernel
theorem dX10_standing_65 : decode cX10_standing 65 = .ok (.ior, 1) := by decide +kernel
theorem dX10_standing_66 : decode cX10_standing 66 = .ok (.istore_n 3, 1) := by decide +kernel
theorem dX10_standing_67 : decode cX10_standing 67 = .ok (.iinc 2 1, 3) := by decide +kernel
theorem dX10_standing_70 : decode cX10_standing 70 = .ok (.iinc 4 1, 3) := by decide +kernel
theorem dX10_standing_73 : decode cX10_standing 73 = .ok (.goto (-66), 3) := by decide +kernel
theorem dX10_standing_76 : decode cX10_standing 76 = .ok (.iload_n 2, 1) := by decide +kernel
theorem dX10_standing_77 : decode cX10_standing 77 = .ok (.ireturn, 1) := by decide +kernel
abbrev rX10_standing : Room := { frames := 3, cells := 0, slots := 0, locals := 71 }
set_option maxHeartbeats 4000000 in
set_option maxRecDepth 100000 in
theorem w_X10_standing_7 {p : Program} {l : Launch} {e : Env} {s : State} {m : MethodId} {args : Array Value} {below : List Frame} {meth : Method} {c : Code} {D : va_G} {b : Nat} {cs : Cs3} {r : Int32} {S1 : St} (hC : CX p s m args meth c RX10 cX10_standing 6 D cs) (hr : meth.sig.returnType = (some .int)) : ∀ (n : Nat) (x1 : Int32) (x2 : Int32) (x3 : Int32) (x4 : Int32) (S : St) (H : Heap) (locs : List Loc) (ls : Array Slot), q_X10_standing_7 n x1 x2 x3 x4 S = some (r, S1) → Wd D b cs S H → va_S (AA b) s.heap H locs → lv_has ls 6 [(0, .ref (b + 99)), (1, .int x1), (2, .int x2), (3, .int x3), (4, .int x4)] → W p l e rX10_standing s m args below meth c H locs 0 0 (MQ below (QX D b cs (some (.int r)) S1) args s 0 0 (AA b)) (F0 m 7 ls []) := by
  intro n
  induction n with
  | zero =>
    intro x1 x2 x3 x4 S H locs ls h
    exact absurd h (by rw [q_X10_standing_7]; exact fun q => nomatch q)
  | succ n IH =>
    intro x1 x2 x3 x4 S H locs ls h hW hS hl
    rw [q_X10_standing_7] at h
    refine lv_iload hC.1 hC.2.1 dX10_standing_7 (lv_at hl 4 rfl) ?_
    refine lv_aload_n hC.1 hC.2.1 dX10_standing_9 rfl (lv_at hl 0 rfl) ?_
    refine x_get (C := RX10) (T := TX10) (N := 27) (v := _) hC hW 99 (by decide) rfl rfl uX10 10 (by decide) fl_X10_13 rfl rfl dX10_standing_10 ?_
    refine lv_iconst (v := 2) hC.1 hC.2.1 dX10_standing_13 (by decide) ?_
    obtain ⟨hi, h⟩ := xg h
    refine x_iald hC hW 101 (by decide) rfl hi dX10_standing_14 ?_
    refine lv_icmp_ge (tgt := 76) hC.1 hC.2.1 dX10_standing_15 (by decide) (fun hc => ?_) (fun hc => ?_)
    · replace h := xt hc h
      refine lv_iload_n hC.1 hC.2.1 dX10_standing_76 rfl (lv_at hl 2 rfl) ?_
      obtain ⟨rfl, rfl⟩ := xr h
      exact x_iret hC hr hW hS dX10_standing_77
    · replace h := xf hc h
      refine lv_aload_n hC.1 hC.2.1 dX10_standing_18 rfl (lv_at hl 0 rfl) ?_
      refine lv_iload_n hC.1 hC.2.1 dX10_standing_19 rfl (lv_at hl 1 rfl) ?_
      refine lv_iload hC.1 hC.2.1 dX10_standing_20 (lv_at hl 4 rfl) ?_
      obtain ⟨⟨q22_r, q22_S⟩, hq, h⟩ := xb h
      try dsimp only at h
      refine x_callV (T := TX10) (N := 27) (As := [.int x1, .int x4]) (rest := []) hC hW hS 99 (c_X10_postIn l D b cs _ _ _ _ _ hq) (by decide) rfl rfl mi_X10_postIn in_X10_postIn sl_X10_postIn ml_X10_186 ⟨rfl, rfl⟩ ⟨Nat.le_of_ble_eq_true rfl, Nat.le_of_ble_eq_true rfl⟩ ⟨Nat.zero_le _, Nat.zero_le _⟩ rfl rfl hl.1 (Nat.le_of_ble_eq_true rfl) dX10_standing_22 (fun H locs hW hS => ?_)
      refine lv_istore (lv' := [(5, .int q22_r), (0, .ref (b + 99)), (1, .int x1), (2, .int x2), (3, .int x3), (4, .int x4)]) hC.1 hC.2.1 dX10_standing_25 hl (by decide) rfl (fun ls hl => ?_)
      refine lv_iload hC.1 hC.2.1 dX10_standing_27 (lv_at hl 0 rfl) ?_
      refine lv_bipush (v := 8) hC.1 hC.2.1 dX10_standing_29 (by decide) ?_
      refine lv_icmp_ge (tgt := 70) hC.1 hC.2.1 dX10_standing_31 (by decide) (fun hc => ?_) (fun hc => ?_)
      · replace h := xt hc h
        refine lv_iinc (v := x4 + 1) (lv' := [(4, .int (x4 + 1)), (5, .int q22_r), (0, .ref (b + 99)), (1, .int x1), (2, .int x2), (3, .int x3)]) hC.1 hC.2.1 dX10_standing_70 hl (k := 5) rfl rfl (by decide) rfl (fun ls hl => ?_)
        refine lv_goto (tgt := 7) hC.1 hC.2.1 dX10_standing_73 (by decide) ?_
        exact IH _ _ _ _ _ _ _ _ h hW hS (lv_sub hl [2, 3, 4, 5, 0] rfl)
      · replace h := xf hc h
        refine lv_aload_n hC.1 hC.2.1 dX10_standing_34 rfl (lv_at hl 1 rfl) ?_
        refine lv_iload hC.1 hC.2.1 dX10_standing_35 (lv_at hl 5 rfl) ?_
        obtain ⟨⟨q37_r, q37_S⟩, hq, h⟩ := xb h
        try dsimp only at h
        refine x_callV (T := TX10) (N := 27) (As := [.int x4]) (rest := []) hC hW hS 99 (c_X10_keys l D b cs _ _ _ _ hq) (by decide) rfl rfl mi_X10_keys in_X10_keys sl_X10_keys ml_X10_145 ⟨rfl, rfl⟩ ⟨Nat.le_of_ble_eq_true rfl, Nat.le_of_ble_eq_true rfl⟩ ⟨Nat.zero_le _, Nat.zero_le _⟩ rfl rfl hl.1 (Nat.le_of_ble_eq_true rfl) dX10_standing_37 (fun H locs hW hS => ?_)
        refine lv_iload hC.1 hC.2.1 dX10_standing_40 (lv_at hl 0 rfl) ?_
        obtain ⟨⟨q42_r, q42_S⟩, hq, h⟩ := xb h
        try dsimp only at h
        refine x_callS (As := [.int q37_r, .int q22_r]) (rest := []) hC hW hS (c_X10_has l D b cs _ _ _ _ _ hq) mi_X10_has st_X10_has ml_X10_138 ⟨rfl, rfl⟩ ⟨Nat.le_of_ble_eq_true rfl, Nat.le_of_ble_eq_true rfl⟩ ⟨Nat.zero_le _, Nat.zero_le _⟩ rfl rfl hl.1 (Nat.le_of_ble_eq_true rfl) dX10_standing_42 (fun H locs hW hS => ?_)
        refine lv_if_eq (tgt := 57) hC.1 hC.2.1 dX10_standing_45 (by decide) (fun hc => ?_) (fun hc => ?_)
        · replace h := xt hc h
          refine lv_bipush (v := -9) hC.1 hC.2.1 dX10_standing_57 (by decide) ?_
          obtain ⟨rfl, rfl⟩ := xr h
          exact x_iret hC hr hW hS dX10_standing_59
        · replace h := xf hc h
          refine lv_iload_n hC.1 hC.2.1 dX10_standing_48 rfl (lv_at hl 4 rfl) ?_
          refine lv_iload hC.1 hC.2.1 dX10_standing_49 (lv_at hl 0 rfl) ?_
          obtain ⟨⟨q51_r, q51_S⟩, hq, h⟩ := xb h
          try dsimp only at h
          refine x_callS (As := [.int x3, .int q22_r]) (rest := []) hC hW hS (c_X10_has l D b cs _ _ _ _ _ hq) mi_X10_has st_X10_has ml_X10_138 ⟨rfl, rfl⟩ ⟨Nat.le_of_ble_eq_true rfl, Nat.le_of_ble_eq_true rfl⟩ ⟨Nat.zero_le _, Nat.zero_le _⟩ rfl rfl hl.1 (Nat.le_of_ble_eq_true rfl) dX10_standing_51 (fun H locs hW hS => ?_)
          refine lv_if_eq (tgt := 60) hC.1 hC.2.1 dX10_standing_54 (by decide) (fun hc => ?_) (fun hc => ?_)
          · replace h := xt hc h
            refine lv_iload_n hC.1 hC.2.1 dX10_standing_60 rfl (lv_at hl 4 rfl) ?_
            refine lv_iconst (v := 1) hC.1 hC.2.1 dX10_standing_61 (by decide) ?_
            refine lv_iload hC.1 hC.2.1 dX10_standing_62 (lv_at hl 0 rfl) ?_
            refine lv_ishl hC.1 hC.2.1 dX10_standing_64 ?_
            refine lv_ior hC.1 hC.2.1 dX10_standing_65 ?_
            refine lv_istore_n (lv' := [(3, .int (x3 ||| ((1 : Int32) <<< (q22_r &&& 31)))), (5, .int q22_r), (0, .ref (b + 99)), (1, .int x1), (2, .int x2), (4, .int x4)]) hC.1 hC.2.1 dX10_standing_66 rfl hl (by decide) rfl (fun ls hl => ?_)
            refine lv_iinc (v := x2 + 1) (lv' := [(2, .int (x2 + 1)), (3, .int (x3 ||| ((1 : Int32) <<< (q22_r &&& 31)))), (5, .int q22_r), (0, .ref (b + 99)), (1, .int x1), (4, .int x4)]) hC.1 hC.2.1 dX10_standing_67 hl (k := 4) rfl rfl (by decide) rfl (fun ls hl => ?_)
            refine lv_iinc (v := x4 + 1) (lv' := [(4, .int (x4 + 1)), (2, .int (x2 + 1)), (3, .int (x3 ||| ((1 : Int32) <<< (q22_r &&& 31)))), (5, .int q22_r), (0, .ref (b + 99)), (1, .int x1)]) hC.1 hC.2.1 dX10_standing_70 hl (k := 5) rfl rfl (by decide) rfl (fun ls hl => ?_)
            refine lv_goto (tgt := 7) hC.1 hC.2.1 dX10_standing_73 (by decide) ?_
            exact IH _ _ _ _ _ _ _ _ h hW hS (lv_sub hl [4, 5, 1, 2, 0] rfl)
          · replace h := xf hc h
            refine lv_bipush (v := -9) hC.1 hC.2.1 dX10_standing_57 (by decide) ?_
            obtain ⟨rfl, rfl⟩ := xr h
            exact x_iret hC hr hW hS dX10_standing_59
set_option maxHeartbeats 4000000 in
set_option maxRecDepth 100000 in
theorem c_X10_standing (l : Launch) (D : va_G) (b : Nat) (cs : Cs3) (x1 : Int32) (S S1 : St) (r : Int32) (h : p_X10_standing x1 S = some (r, S1)) : Ct l yX10_standing cX10_standing 6 (some .int) rX10_standing D b cs [.ref (b + 99), .int x1] S (some (.int r)) S1 := by
  refine x_met (by decide +kernel) (Nat.le_of_ble_eq_true rfl) ?_
  intro p e s m below meth c ls hC hr hW hS hl
  have hl : lv_has ls 6 [(0, .ref (b + 99)), (1, .int x1)] := hl
  rw [p_X10_standing] at h
  refine lv_iconst (v := 0) hC.1 hC.2.1 dX10_standing_0 (by decide) ?_
  refine lv_istore_n (lv' := [(2, .int (0 : Int32)), (0, .ref (b + 99)), (1, .int x1)]) hC.1 hC.2.1 dX10_standing_1 rfl hl (by decide) rfl (fun ls hl => ?_)
  refine lv_iconst (v := 0) hC.1 hC.2.1 dX10_standing_2 (by decide) ?_
  refine lv_istore_n (lv' := [(3, .int (0 : Int32)), (2, .int (0 : Int32)), (0, .ref (b + 99)), (1, .int x1)]) hC.1 hC.2.1 dX10_standing_3 rfl hl (by decide) rfl (fun ls hl => ?_)
  refine lv_iconst (v := 0) hC.1 hC.2.1 dX10_standing_4 (by decide) ?_
  refine lv_istore (lv' := [(4, .int (0 : Int32)), (3, .int (0 : Int32)), (2, .int (0 : Int32)), (0, .ref (b + 99)), (1, .int x1)]) hC.1 hC.2.1 dX10_standing_5 hl (by decide) rfl (fun ls hl => ?_)
  exact w_X10_standing_7 hC hr _ _ _ _ _ _ _ _ _ h hW hS (lv_sub hl [3, 4, 2, 1, 0] rfl)
