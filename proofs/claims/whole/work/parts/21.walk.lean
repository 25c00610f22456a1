-- walks: X10_posts X10_tune X10_thirds X10_power X10_gcd X10_odds X10_hears X10_forget X10_whoCan X10_who X10_ask
theorem dX10_posts_0 : decode cX10_posts 0 = .ok (.aload_n 0, 1) := by decide +kernel
theorem dX10_posts_1 : decode cX10_posts 1 = .ok (.iconst 0, 1) := by decide +kernel
theorem dX10_posts_2 : decode cX10_posts 2 = .ok (.putfield 65, 3) := by decide +kernel
theorem dX10_posts_5 : decode cX10_posts 5 = .ok (.iload_n 1, 1) := by decide +kernel
theorem dX10_posts_6 : decode cX10_posts 6 = .ok (.iconst (-1), 1) := by decide +kernel
theorem dX10_posts_7 : decode cX10_posts 7 = .ok (.if_icmp .eq 13, 3) := by decide +kernel
theorem dX10_posts_10 : decode cX10_posts 10 = .ok (.aload_n 0, 1) := by decide +kernel
theorem dX10_posts_11 : decode cX10_posts 11 = .ok (.iload_n 1, 1) := by decide +kernel
theorem dX10_posts_12 : decode cX10_posts 12 = .ok (.invokevirtual 160, 3) := by decide +kernel
theorem dX10_posts_15 : decode cX10_posts 15 = .ok (.ifCond .ne 5, 3) := by decide +kernel
theorem dX10_posts_18 : decode cX10_posts 18 = .ok (.iconst (-1), 1) := by decide +kernel
theorem dX10_posts_19 : decode cX10_posts 19 = .ok (.ireturn, 1) := by decide +kernel
theorem dX10_posts_20 : decode cX10_posts 20 = .ok (.iconst 0, 1) := by decide +kernel
theorem dX10_posts_21 : decode cX10_posts 21 = .ok (.istore_n 2, 1) := by decide +kernel
theorem dX10_posts_22 : decode cX10_posts 22 = .ok (.iconst (-1), 1) := by decide +kernel
theorem dX10_posts_23 : decode cX10_posts 23 = .ok (.istore_n 3, 1) := by decide +kernel
theorem dX10_posts_24 : decode cX10_posts 24 = .ok (.iconst 0, 1) := by decide +kernel
theorem dX10_posts_25 : decode cX10_posts 25 = .ok (.istore 4, 2) := by decide +kernel
theorem dX10_posts_27 : decode cX10_posts 27 = .ok (.iload 4, 2) := by decide +kernel
theorem dX10_posts_29 : decode cX10_posts 29 = .ok (.aload_n 0, 1) := by decide +kernel
theorem dX10_posts_30 : decode cX10_posts 30 = .ok (.getfield 13, 3) := by decide +kernel
theorem dX10_posts_33 : decode cX10_posts 33 = .ok (.iconst 2, 1) := by decide +kernel
theorem dX10_posts_34 : decode cX10_posts 34 = .ok (.iaload, 1) := by decide +kernel
theorem dX10_posts_35 : decode cX10_posts 35 = .ok (.invokestatic 183, 3) := by decide +kernel
theorem dX10_posts_38 : decode cX10_posts 38 = .ok (.if_icmp .ge 43, 3) := by decide +kernel
theorem dX10_posts_41 : decode cX10_posts 41 = .ok (.aload_n 0, 1) := by decide +kernel
theorem dX10_posts_42 : decode cX10_posts 42 = .ok (.iload 4, 2) := by decide +kernel
theorem dX10_posts_44 : decode cX10_posts 44 = .ok (.invokevirtual 189, 3) := by decide +kernel
theorem dX10_posts_47 : decode cX10_posts 47 = .ok (.istore 5, 2) := by decide +kernel
theorem dX10_posts_49 : decode cX10_posts 49 = .ok (.iload 5, 2) := by decide +kernel
theorem dX10_posts_51 : decode cX10_posts 51 = .ok (.iload_n 3, 1) := by decide +kernel
theorem dX10_posts_52 : decode cX10_posts 52 = .ok (.if_icmp .le 8, 3) := by decide +kernel
theorem dX10_posts_55 : decode cX10_posts 55 = .ok (.iload 4, 2) := by decide +kernel
theorem dX10_posts_57 : decode cX10_posts 57 = .ok (.goto 4, 3) := by decide +kernel
theorem dX10_posts_60 : decode cX10_posts 60 = .ok (.iload_n 2, 1) := by decide +kernel
theorem dX10_posts_61 : decode cX10_posts 61 = .ok (.istore_n 2, 1) := by decide +kernel
theorem dX10_posts_62 : decode cX10_posts 62 = .ok (.iload 5, 2) := by decide +kernel
theorem dX10_posts_64 : decode cX10_posts 64 = .ok (.iload_n 3, 1) := by decide +kernel
theorem dX10_posts_65 : decode cX10_posts 65 = .ok (.if_icmp .le 8, 3) := by decide +kernel
theorem dX10_posts_68 : decode cX10_posts 68 = .ok (.iload 5, 2) := by decide +kernel
theorem dX10_posts_70 : decode cX10_posts 70 = .ok (.goto 4, 3) := by decide +kernel
theorem dX10_posts_73 : decode cX10_posts 73 = .ok (.iload_n 3, 1) := by decide +kernel
theorem dX10_posts_74 : decode cX10_posts 74 = .ok (.istore_n 3, 1) := by decide +kernel
theorem dX10_posts_75 : decode cX10_posts 75 = .ok (.iinc 4 1, 3) := by decide +kernel
theorem dX10_posts_78 : decode cX10_posts 78 = .ok (.goto (-51), 3) := by decide +kernel
theorem dX10_posts_81 : decode cX10_posts 81 = .ok (.iload_n 1, 1) := by decide +kernel
theorem dX10_posts_82 : decode cX10_posts 82 = .ok (.iconst (-1), 1) := by decide +kernel
theorem dX10_posts_83 : decode cX10_posts 83 = .ok (.if_icmp .ne 5, 3) := by decide +kernel
theorem dX10_posts_86 : decode cX10_posts 86 = .ok (.iload_n 3, 1) := by decide +kernel
theorem dX10_posts_87 : decode cX10_posts 87 = .ok (.ireturn, 1) := by decide +kernel
theorem dX10_posts_88 : decode cX10_posts 88 = .ok (.aload_n 0, 1) := by decide +kernel
theorem dX10_posts_89 : decode cX10_posts 89 = .ok (.iload_n 2, 1) := by decide +kernel
theorem dX10_posts_90 : decode cX10_posts 90 = .ok (.iload_n 1, 1) := by decide +kernel
theorem dX10_posts_91 : decode cX10_posts 91 = .ok (.invokevirtual 186, 3) := by decide +kernel
theorem dX10_posts_94 : decode cX10_posts 94 = .ok (.istore 4, 2) := by decide +kernel
theorem dX10_posts_96 : decode cX10_posts 96 = .ok (.iload 4, 2) := by decide +kernel
theorem dX10_posts_98 : decode cX10_posts 98 = .ok (.bipush 8, 2) := by decide +kernel
theorem dX10_posts_100 : decode cX10_posts 100 = .ok (.if_icmp .ne 8, 3) := by decide +kernel
theorem dX10_posts_103 : decode cX10_posts 103 = .ok (.bipush (-9), 2) := by decide +kernel
theorem dX10_posts_105 : decode cX10_posts 105 = .ok (.goto 5, 3) := by decide +kernel
theorem dX10_posts_108 : decode cX10_posts 108 = .ok (.iload 4, 2) := by decide +kernel
theorem dX10_posts_110 : decode cX10_posts 110 = .ok (.ireturn, 1) := by decide +kernel
abbrev rX10_posts : Room := { frames := 4, cells := 0, slots := 0, locals := 96 }
set_option maxHeartbeats 4000000 in
set_option maxRecDepth 100000 in
theorem w_X10_posts_61 {p : Program} {l : Launch} {e : Env} {s : State} {m : MethodId} {args : Array Value} {below : List Frame} {meth : Method} {c : Code} {D : va_G} {b : Nat} {cs : Cs3} {r : Int32} {S1 : St} {ag27 : Int32 → Int32 → Int32 → Int32 → St → Option (Int32 × St)} (hC : CX p s m args meth c RX10 cX10_posts 6 D cs) (hr : meth.sig.returnType = (some .int)) (hag27 : ∀ (x1 : Int32) (x2 : Int32) (x3 : Int32) (x4 : Int32) (S : St) (H : Heap) (locs : List Loc) (ls : Array Slot), ag27 x1 x2 x3 x4 S = some (r, S1) → Wd D b cs S H → va_S (AA b) s.heap H locs → lv_has ls 6 [(0, .ref (b + 99)), (1, .int x1), (2, .int x2), (3, .int x3), (4, .int x4)] → W p l e rX10_posts s m args below meth c H locs 0 0 (MQ below (QX D b cs (some (.int r)) S1) args s 0 0 (AA b)) (F0 m 27 ls [])) : ∀ (x1 : Int32) (x3 : Int32) (x4 : Int32) (x5 : Int32) (y0 : Int32) (S : St) (H : Heap) (locs : List Loc) (ls : Array Slot), q_X10_posts_61 ag27 x1 x3 x4 x5 y0 S = some (r, S1) → Wd D b cs S H → va_S (AA b) s.heap H locs → lv_has ls 6 [(0, .ref (b + 99)), (1, .int x1), (3, .int x3), (4, .int x4), (5, .int x5)] → W p l e rX10_posts s m args below meth c H locs 0 0 (MQ below (QX D b cs (some (.int r)) S1) args s 0 0 (AA b)) (F0 m 61 ls [.int y0]) := by
  intro x1 x3 x4 x5 y0 S H locs ls h hW hS hl
  rw [q_X10_posts_61] at h
  refine lv_istore_n (lv' := [(2, .int y0), (0, .ref (b + 99)), (1, .int x1), (3, .int x3), (4, .int x4), (5, .int x5)]) hC.1 hC.2.1 dX10_posts_61 rfl hl (by decide) rfl (fun ls hl => ?_)
  refine lv_iload hC.1 hC.2.1 dX10_posts_62 (lv_at hl 5 rfl) ?_
  refine lv_iload_n hC.1 hC.2.1 dX10_posts_64 rfl (lv_at hl 3 rfl) ?_
  refine lv_icmp_le (tgt := 73) hC.1 hC.2.1 dX10_posts_65 (by decide) (fun hc => ?_) (fun hc => ?_)
  · replace h := xt hc h
    refine lv_iload_n hC.1 hC.2.1 dX10_posts_73 rfl (lv_at hl 3 rfl) ?_
    refine lv_istore_n (lv' := [(3, .int x3), (2, .int y0), (0, .ref (b + 99)), (1, .int x1), (4, .int x4), (5, .int x5)]) hC.1 hC.2.1 dX10_posts_74 rfl hl (by decide) rfl (fun ls hl => ?_)
    refine lv_iinc (v := x4 + 1) (lv' := [(4, .int (x4 + 1)), (3, .int x3), (2, .int y0), (0, .ref (b + 99)), (1, .int x1), (5, .int x5)]) hC.1 hC.2.1 dX10_posts_75 hl (k := 4) rfl rfl (by decide) rfl (fun ls hl => ?_)
    refine lv_goto (tgt := 27) hC.1 hC.2.1 dX10_posts_78 (by decide) ?_
    exact hag27 _ _ _ _ _ _ _ _ h hW hS (lv_sub hl [3, 4, 2, 1, 0] rfl)
  · replace h := xf hc h
    refine lv_iload hC.1 hC.2.1 dX10_posts_68 (lv_at hl 5 rfl) ?_
    refine lv_goto (tgt := 74) hC.1 hC.2.1 dX10_posts_70 (by decide) ?_
    refine lv_istore_n (lv' := [(3, .int x5), (2, .int y0), (0, .ref (b + 99)), (1, .int x1), (4, .int x4), (5, .int x5)]) hC.1 hC.2.1 dX10_posts_74 rfl hl (by decide) rfl (fun ls hl => ?_)
    refine lv_iinc (v := x4 + 1) (lv' := [(4, .int (x4 + 1)), (3, .int x5), (2, .int y0), (0, .ref (b + 99)), (1, .int x1), (5, .int x5)]) hC.1 hC.2.1 dX10_posts_75 hl (k := 4) rfl rfl (by decide) rfl (fun ls hl => ?_)
    refine lv_goto (tgt := 27) hC.1 hC.2.1 dX10_posts_78 (by decide) ?_
    exact hag27 _ _ _ _ _ _ _ _ h hW hS (lv_sub hl [3, 4, 2, 1, 0] rfl)
set_option maxHeartbeats 4000000 in
set_option maxRecDepth 100000 in
theorem w_X10_posts_27 {p : Program} {l : Launch} {e : Env} {s : State} {m : MethodId} {args : Array Value} {below : List Frame} {meth : Method} {c : Code} {D : va_G} {b : Nat} {cs : Cs3} {r : Int32} {S1 : St} (hC : CX p s m args meth c RX10 cX10_posts 6 D cs) (hr : meth.sig.returnType = (some .int)) : ∀ (n : Nat) (x1 : Int32) (x2 : Int32) (x3 : Int32) (x4 : Int32) (S : St) (H : Heap) (locs : List Loc) (ls : Array Slot), q_X10_posts_27 n x1 x2 x3 x4 S = some (r, S1) → Wd D b cs S H → va_S (AA b) s.heap H locs → lv_has ls 6 [(0, .ref (b + 99)), (1, .int x1), (2, .int x2), (3, .int x3), (4, .int x4)] → W p l e rX10_posts s m args below meth c H locs 0 0 (MQ below (QX D b cs (some (.int r)) S1) args s 0 0 (AA b)) (F0 m 27 ls []) := by
  intro n
  induction n with
  | zero =>
    intro x1 x2 x3 x4 S H locs ls h
    exact absurd h (by rw [q_X10_posts_27]; exact fun q => nomatch q)
  | succ n IH =>
    intro x1 x2 x3 x4 S H locs ls h hW hS hl
    rw [q_X10_posts_27] at h
    refine lv_iload hC.1 hC.2.1 dX10_posts_27 (lv_at hl 4 rfl) ?_
    refine lv_aload_n hC.1 hC.2.1 dX10_posts_29 rfl (lv_at hl 0 rfl) ?_
    refine x_get (C := RX10) (T := TX10) (N := 27) (v := _) hC hW 99 (by decide) rfl rfl uX10 10 (by decide) fl_X10_13 rfl rfl dX10_posts_30 ?_
    refine lv_iconst (v := 2) hC.1 hC.2.1 dX10_posts_33 (by decide) ?_
    obtain ⟨hi, h⟩ := xg h
    refine x_iald hC hW 101 (by decide) rfl hi dX10_posts_34 ?_
    obtain ⟨⟨q35_r, q35_S⟩, hq, h⟩ := xb h
    try dsimp only at h
    refine x_callS (As := [.int (S.1 101 (2 : Int32).toNatClampNeg)]) (rest := [.int x4]) hC hW hS (c_X10_nines l D b cs _ _ _ _ hq) mi_X10_nines st_X10_nines ml_X10_183 ⟨rfl, rfl⟩ ⟨Nat.le_of_ble_eq_true rfl, Nat.le_of_ble_eq_true rfl⟩ ⟨Nat.zero_le _, Nat.zero_le _⟩ rfl rfl hl.1 (Nat.le_of_ble_eq_true rfl) dX10_posts_35 (fun H locs hW hS => ?_)
    refine lv_icmp_ge (tgt := 81) hC.1 hC.2.1 dX10_posts_38 (by decide) (fun hc => ?_) (fun hc => ?_)
    · replace h := xt hc h
      refine lv_iload_n hC.1 hC.2.1 dX10_posts_81 rfl (lv_at hl 1 rfl) ?_
      refine lv_iconst (v := -1) hC.1 hC.2.1 dX10_posts_82 (by decide) ?_
      refine lv_icmp_ne (tgt := 88) hC.1 hC.2.1 dX10_posts_83 (by decide) (fun hc => ?_) (fun hc => ?_)
      · replace h := xf hc h
        refine lv_aload_n hC.1 hC.2.1 dX10_posts_88 rfl (lv_at hl 0 rfl) ?_
        refine lv_iload_n hC.1 hC.2.1 dX10_posts_89 rfl (lv_at hl 2 rfl) ?_
        refine lv_iload_n hC.1 hC.2.1 dX10_posts_90 rfl (lv_at hl 1 rfl) ?_
        obtain ⟨⟨q91_r, q91_S⟩, hq, h⟩ := xb h
        try dsimp only at h
        refine x_callV (T := TX10) (N := 27) (As := [.int x2, .int x1]) (rest := []) hC hW hS 99 (c_X10_postIn l D b cs _ _ _ _ _ hq) (by decide) rfl rfl mi_X10_postIn in_X10_postIn sl_X10_postIn ml_X10_186 ⟨rfl, rfl⟩ ⟨Nat.le_of_ble_eq_true rfl, Nat.le_of_ble_eq_true rfl⟩ ⟨Nat.zero_le _, Nat.zero_le _⟩ rfl rfl hl.1 (Nat.le_of_ble_eq_true rfl) dX10_posts_91 (fun H locs hW hS => ?_)
        refine lv_istore (lv' := [(4, .int q91_r), (0, .ref (b + 99)), (1, .int x1), (2, .int x2), (3, .int x3)]) hC.1 hC.2.1 dX10_posts_94 hl (by decide) rfl (fun ls hl => ?_)
        refine lv_iload hC.1 hC.2.1 dX10_posts_96 (lv_at hl 0 rfl) ?_
        refine lv_bipush (v := 8) hC.1 hC.2.1 dX10_posts_98 (by decide) ?_
        refine lv_icmp_ne (tgt := 108) hC.1 hC.2.1 dX10_posts_100 (by decide) (fun hc => ?_) (fun hc => ?_)
        · replace h := xf hc h
          refine lv_iload hC.1 hC.2.1 dX10_posts_108 (lv_at hl 0 rfl) ?_
          obtain ⟨rfl, rfl⟩ := xr h
          exact x_iret hC hr hW hS dX10_posts_110
        · replace h := xt hc h
          refine lv_bipush (v := -9) hC.1 hC.2.1 dX10_posts_103 (by decide) ?_
          refine lv_goto (tgt := 110) hC.1 hC.2.1 dX10_posts_105 (by decide) ?_
          obtain ⟨rfl, rfl⟩ := xr h
          exact x_iret hC hr hW hS dX10_posts_110
      · replace h := xt hc h
        refine lv_iload_n hC.1 hC.2.1 dX10_posts_86 rfl (lv_at hl 3 rfl) ?_
        obtain ⟨rfl, rfl⟩ := xr h
        exact x_iret hC hr hW hS dX10_posts_87
    · replace h := xf hc h
      refine lv_aload_n hC.1 hC.2.1 dX10_posts_41 rfl (lv_at hl 0 rfl) ?_
      refine lv_iload hC.1 hC.2.1 dX10_posts_42 (lv_at hl 4 rfl) ?_
      obtain ⟨⟨q44_r, q44_S⟩, hq, h⟩ := xb h
      try dsimp only at h
      refine x_callV (T := TX10) (N := 27) (As := [.int x4]) (rest := []) hC hW hS 99 (c_X10_standing l D b cs _ _ _ _ hq) (by decide) rfl rfl mi_X10_standing in_X10_standing sl_X10_standing ml_X10_189 ⟨rfl, rfl⟩ ⟨Nat.le_of_ble_eq_true rfl, Nat.le_of_ble_eq_true rfl⟩ ⟨Nat.zero_le _, Nat.zero_le _⟩ rfl rfl hl.1 (Nat.le_of_ble_eq_true rfl) dX10_posts_44 (fun H locs hW hS => ?_)
      refine lv_istore (lv' := [(5, .int q44_r), (0, .ref (b + 99)), (1, .int x1), (2, .int x2), (3, .int x3), (4, .int x4)]) hC.1 hC.2.1 dX10_posts_47 hl (by decide) rfl (fun ls hl => ?_)
      refine lv_iload hC.1 hC.2.1 dX10_posts_49 (lv_at hl 0 rfl) ?_
      refine lv_iload_n hC.1 hC.2.1 dX10_posts_51 rfl (lv_at hl 4 rfl) ?_
      refine lv_icmp_le (tgt := 60) hC.1 hC.2.1 dX10_posts_52 (by decide) (fun hc => ?_) (fun hc => ?_)
      · replace h := xt hc h
        refine lv_iload_n hC.1 hC.2.1 dX10_posts_60 rfl (lv_at hl 3 rfl) ?_
        exact w_X10_posts_61 hC hr IH _ _ _ _ _ _ _ _ _ h hW hS (lv_sub hl [1, 2, 4, 5, 0] rfl)
      · replace h := xf hc h
        refine lv_iload hC.1 hC.2.1 dX10_posts_55 (lv_at hl 5 rfl) ?_
        refine lv_goto (tgt := 61) hC.1 hC.2.1 dX10_posts_57 (by decide) ?_
        exact w_X10_posts_61 hC hr IH _ _ _ _ _ _ _ _ _ h hW hS (lv_sub hl [1, 2, 4, 5, 0] rfl)
set_option maxHeartbeats 4000000 in
set_option maxRecDepth 100000 in
theorem c_X10_posts (l : Launch) (D : va_G) (b : Nat) (cs : Cs3) (x1 : Int32) (S S1 : St) (r : Int32) (h : p_X10_posts x1 S = some (r, S1)) : Ct l yX10_posts cX10_posts 6 (some .int) rX10_posts D b cs [.ref (b + 99), .int x1] S (some (.int r)) S1 := by
  refine x_met (by decide +kernel) (Nat.le_of_ble_eq_true rfl) ?_
  intro p e s m below meth c ls hC hr hW hS hl
  have hl : lv_has ls 6 [(0, .ref (b + 99)), (1, .int x1)] := hl
  rw [p_X10_posts] at h
  refine lv_aload_n hC.1 hC.2.1 dX10_posts_0 rfl (lv_at hl 0 rfl) ?_
  refine lv_iconst (v := 0) hC.1 hC.2.1 dX10_posts_1 (by decide) ?_
  refine x_puti (C := RX10) (T := TX10) (N := 27) (ty := .int) hC hW hS 99 (by decide) rfl rfl uX10 tyX10 tyX10_ok nmX10 0 (by decide) fl_X10_65 rfl (by decide +kernel) rfl rfl rfl dX10_posts_2 (fun H locs hW hS => ?_)
  refine lv_iload_n hC.1 hC.2.1 dX10_posts_5 rfl (lv_at hl 1 rfl) ?_
  refine lv_iconst (v := -1) hC.1 hC.2.1 dX10_posts_6 (by decide) ?_
  refine lv_icmp_eq (tgt := 20) hC.1 hC.2.1 dX10_posts_7 (by decide) (fun hc => ?_) (fun hc => ?_)
  · replace h := xt hc h
    refine lv_iconst (v := 0) hC.1 hC.2.1 dX10_posts_20 (by decide) ?_
    refine lv_istore_n (lv' := [(2, .int (0 : Int32)), (0, .ref (b + 99)), (1, .int x1)]) hC.1 hC.2.1 dX10_posts_21 rfl hl (by decide) rfl (fun ls hl => ?_)
    refine lv_iconst (v := -1) hC.1 hC.2.1 dX10_posts_22 (by decide) ?_
    refine lv_istore_n (lv' := [(3, .int (-1 : Int32)), (2, .int (0 : Int32)), (0, .ref (b + 99)), (1, .int x1)]) hC.1 hC.2.1 dX10_posts_23 rfl hl (by decide) rfl (fun ls hl => ?_)
    refine lv_iconst (v := 0) hC.1 hC.2.1 dX10_posts_24 (by decide) ?_
    refine lv_istore (lv' := [(4, .int (0 : Int32)), (3, .int (-1 : Int32)), (2, .int (0 : Int32)), (0, .ref (b + 99)), (1, .int x1)]) hC.1 hC.2.1 dX10_posts_25 hl (by decide) rfl (fun ls hl => ?_)
    exact w_X10_posts_27 hC hr _ _ _ _ _ _ _ _ _ h hW hS (lv_sub hl [3, 4, 2, 1, 0] rfl)
  · replace h := xf hc h
    refine lv_aload_n hC.1 hC.2.1 dX10_posts_10 rfl (lv_at hl 0 rfl) ?_
    refine lv_iload_n hC.1 hC.2.1 dX10_posts_11 rfl (lv_at hl 1 rfl) ?_
    obtain ⟨⟨q12_r, q12_S⟩, hq, h⟩ := xb h
    try dsimp only at h
    refine x_callV (T := TX10) (N := 27) (As := [.int x1]) (rest := []) hC hW hS 99 (c_X10_isBoy l D b cs _ _ _ _ hq) (by decide) rfl rfl mi_X10_isBoy in_X10_isBoy sl_X10_isBoy ml_X10_160 ⟨rfl, rfl⟩ ⟨Nat.le_of_ble_eq_true rfl, Nat.le_of_ble_eq_true rfl⟩ ⟨Nat.zero_le _, Nat.zero_le _⟩ rfl rfl hl.1 (Nat.le_of_ble_eq_true rfl) dX10_posts_12 (fun H locs hW hS => ?_)
    refine lv_if_ne (tgt := 20) hC.1 hC.2.1 dX10_posts_15 (by decide) (fun hc => ?_) (fun hc => ?_)
    · replace h := xf hc h
      refine lv_iconst (v := 0) hC.1 hC.2.1 dX10_posts_20 (by decide) ?_
      refine lv_istore_n (lv' := [(2, .int (0 : Int32)), (0, .ref (b + 99)), (1, .int x1)]) hC.1 hC.2.1 dX10_posts_21 rfl hl (by decide) rfl (fun ls hl => ?_)
      refine lv_iconst (v := -1) hC.1 hC.2.1 dX10_posts_22 (by decide) ?_
      refine lv_istore_n (lv' := [(3, .int (-1 : Int32)), (2, .int (0 : Int32)), (0, .ref (b + 99)), (1, .int x1)]) hC.1 hC.2.1 dX10_posts_23 rfl hl (by decide) rfl (fun ls hl => ?_)
      refine lv_iconst (v := 0) hC.1 hC.2.1 dX10_posts_24 (by decide) ?_
      refine lv_istore (lv' := [(4, .int (0 : Int32)), (3, .int (-1 : Int32)), (2, .int (0 : Int32)), (0, .ref (b + 99)), (1, .int x1)]) hC.1 hC.2.1 dX10_posts_25 hl (by decide) rfl (fun ls hl => ?_)
      exact w_X10_posts_27 hC hr _ _ _ _ _ _ _ _ _ h hW hS (lv_sub hl [3, 4, 2, 1, 0] rfl)
    · replace h := xt hc h
      refine lv_iconst (v := -1) hC.1 hC.2.1 dX10_posts_18 (by decide) ?_
      obtain ⟨rfl, rfl⟩ := xr h
      exact x_iret hC hr hW hS dX10_posts_19
theorem dX10_tune_0 : decode cX10_tune 0 = .ok (.aload_n 0, 1) := by decide +kernel
theorem dX10_tune_1 : decode cX10_tune 1 = .ok (.iconst 0, 1) := by decide +kernel
theorem dX10_tune_2 : decode cX10_tune 2 = .ok (.putfield 65, 3) := by decide +kernel
theorem dX10_tune_5 : decode cX10_tune 5 = .ok (.iload_n 1, 1) := by decide +kernel
theorem dX10_tune_6 : decode cX10_tune 6 = .ok (.iconst 0, 1) := by decide +kernel
theorem dX10_tune_7 : decode cX10_tune 7 = .ok (.iconst 1, 1) := by decide +kernel
theorem dX10_tune_8 : decode cX10_tune 8 = .ok (.aload_n 0, 1) := by decide +kernel
theorem dX10_tune_9 : decode cX10_tune 9 = .ok (.getfield 13, 3) := by decide +kernel
theorem dX10_tune_12 : decode cX10_tune 12 = .ok (.iconst 2, 1) := by decide +kernel
theorem dX10_tune_13 : decode cX10_tune 13 = .ok (.iaload, 1) := by decide +kernel
theorem dX10_tune_14 : decode cX10_tune 14 = .ok (.ishl, 1) := by decide +kernel
theorem dX10_tune_15 : decode cX10_tune 15 = .ok (.iconst 1, 1) := by decide +kernel
theorem dX10_tune_16 : decode cX10_tune 16 = .ok (.isub, 1) := by decide +kernel
theorem dX10_tune_17 : decode cX10_tune 17 = .ok (.invokestatic 69, 3) := by decide +kernel
theorem dX10_tune_20 : decode cX10_tune 20 = .ok (.ifCond .ne 5, 3) := by decide +kernel
theorem dX10_tune_23 : decode cX10_tune 23 = .ok (.iconst (-1), 1) := by decide +kernel
theorem dX10_tune_24 : decode cX10_tune 24 = .ok (.ireturn, 1) := by decide +kernel
theorem dX10_tune_25 : decode cX10_tune 25 = .ok (.iconst 0, 1) := by decide +kernel
theorem dX10_tune_26 : decode cX10_tune 26 = .ok (.istore_n 2, 1) := by decide +kernel
theorem dX10_tune_27 : decode cX10_tune 27 = .ok (.iload_n 2, 1) := by decide +kernel
theorem dX10_tune_28 : decode cX10_tune 28 = .ok (.bipush 40, 2) := by decide +kernel
theorem dX10_tune_30 : decode cX10_tune 30 = .ok (.if_icmp .gt 59, 3) := by decide +kernel
theorem dX10_tune_33 : decode cX10_tune 33 = .ok (.iconst 0, 1) := by decide +kernel
theorem dX10_tune_34 : decode cX10_tune 34 = .ok (.istore_n 3, 1) := by decide +kernel
theorem dX10_tune_35 : decode cX10_tune 35 = .ok (.iconst 0, 1) := by decide +kernel
theorem dX10_tune_36 : decode cX10_tune 36 = .ok (.istore 4, 2) := by decide +kernel
theorem dX10_tune_38 : decode cX10_tune 38 = .ok (.iload 4, 2) := by decide +kernel
theorem dX10_tune_40 : decode cX10_tune 40 = .ok (.aload_n 0, 1) := by decide +kernel
theorem dX10_tune_41 : decode cX10_tune 41 = .ok (.getfield 13, 3) := by decide +kernel
theorem dX10_tune_44 : decode cX10_tune 44 = .ok (.iconst 2, 1) := by decide +kernel
theorem dX10_tune_45 : decode cX10_tune 45 = .ok (.iaload, 1) := by decide +kernel
theorem dX10_tune_46 : decode cX10_tune 46 = .ok (.if_icmp .ge 30, 3) := by decide +kernel
theorem dX10_tune_49 : decode cX10_tune 49 = .ok (.iload_n 3, 1) := by decide +kernel
theorem dX10_tune_50 : decode cX10_tune 50 = .ok (.aload_n 0, 1) := by decide +kernel
theorem dX10_tune_51 : decode cX10_tune 51 = .ok (.iload 4, 2) := by decide +kernel
theorem dX10_tune_53 : decode cX10_tune 53 = .ok (.iload_n 2, 1) := by decide +kernel
theorem dX10_tune_54 : decode cX10_tune 54 = .ok (.invokevirtual 192, 3) := by decide +kernel
theorem dX10_tune_57 : decode cX10_tune 57 = .ok (.ifCond .eq 10, 3) := by decide +kernel
theorem dX10_tune_60 : decode cX10_tune 60 = .ok (.iconst 1, 1) := by decide +kernel
theorem dX10_tune_61 : decode cX10_tune 61 = .ok (.iload 4, 2) := by decide +kernel
theorem dX10_tune_63 : decode cX10_tune 63 = .ok (.ishl, 1) := by decide +kernel
theorem dX10_tune_64 : decode cX10_tune 64 = .ok (.goto 4, 3) := by decide +kernel
theorem dX10_tune_67 : decode cX10_tune 67 = .ok (.iconst 0, 1) := by decide +kernel
theorem dX10_tune_68 : decode cX10_tune 68 = .ok (.ior, 1) := by decide +kernel
theorem dX10_tune_69 : decode cX10_tune 69 = .ok (.istore_n 3, 1) := by decide +kernel
theorem dX10_tune_70 : decode cX10_tune 70 = .ok (.iinc 4 1, 3) := by decide +kernel
theorem dX10_tune_73 : decode cX10_tune 73 = .ok (.goto (-35), 3) := by decide +kernel
theorem dX10_tune_76 : decode cX10_tune 76 = .ok (.iload_n 3, 1) := by decide +kernel
theorem dX10_tune_77 : decode cX10_tune 77 = .ok (.iload_n 1, 1) := by decide +kernel
theorem dX10_tune_78 : decode cX10_tune 78 = .ok (.if_icmp .ne 5, 3) := by decide +kernel
theorem dX10_tune_81 : decode cX10_tune 81 = .ok (.iload_n 2, 1) := by decide +kernel
theorem dX10_tune_82 : decode cX10_tune 82 = .ok (.ireturn, 1) := by decide +kernel
theorem dX10_tune_83 : decode cX10_tune 83 = .ok (.iinc 2 1, 3) := by decide +kernel
theorem dX10_tune_86 : decode cX10_tune 86 = .ok (.goto (-59), 3) := by decide +kernel
theorem dX10_tune_89 : decode cX10_tune 89 = .ok (.bipush (-9), 2) := by decide +kernel
theorem dX10_tune_91 : decode cX10_tune 91 = .ok (.ireturn, 1) := by decide +kernel
abbrev rX10_tune : Room := { frames := 2, cells := 0, slots := 0, locals := 45 }
set_option maxHeartbeats 4000000 in
set_option maxRecDepth 100000 in
theorem w_X10_tune_38 {p : Program} {l : Launch} {e : Env} {s : State} {m : MethodId} {args : Array Value} {below : List Frame} {meth : Method} {c : Code} {D : va_G} {b : Nat} {cs : Cs3} {r : Int32} {S1 : St} {ag27 : Int32 → Int32 → St → Option (Int32 × St)} (hC : CX p s m args meth c RX10 cX10_tune 5 D cs) (hr : meth.sig.returnType = (some .int)) (hag27 : ∀ (x1 : Int32) (x2 : Int32) (S : St) (H : Heap) (locs : List Loc) (ls : Array Slot), ag27 x1 x2 S = some (r, S1) → Wd D b cs S H → va_S (AA b) s.heap H locs → lv_has ls 5 [(0, .ref (b + 99)), (1, .int x1), (2, .int x2)] → W p l e rX10_tune s m args below meth c H locs 0 0 (MQ below (QX D b cs (some (.int r)) S1) args s 0 0 (AA b)) (F0 m 27 ls [])) : ∀ (n : Nat) (x1 : Int32) (x2 : Int32) (x3 : Int32) (x4 : Int32) (S : St) (H : Heap) (locs : List Loc) (ls : Array Slot), q_X10_tune_38 ag27 n x1 x2 x3 x4 S = some (r, S1) → Wd D b cs S H → va_S (AA b) s.heap H locs → lv_has ls 5 [(0, .ref (b + 99)), (1, .int x1), (2, .int x2), (3, .int x3), (4, .int x4)] → W p l e rX10_tune s m args below meth c H locs 0 0 (MQ below (QX D b cs (some (.int r)) S1) args s 0 0 (AA b)) (F0 m 38 ls []) := by
  intro n
  induction n with
  | zero =>
    intro x1 x2 x3 x4 S H locs ls h
    exact absurd h (by rw [q_X10_tune_38]; exact fun q => nomatch q)
  | succ n IH =>
    intro x1 x2 x3 x4 S H locs ls h hW hS hl
    rw [q_X10_tune_38] at h
    refine lv_iload hC.1 hC.2.1 dX10_tune_38 (lv_at hl 4 rfl) ?_
    refine lv_aload_n hC.1 hC.2.1 dX10_tune_40 rfl (lv_at hl 0 rfl) ?_
    refine x_get (C := RX10) (T := TX10) (N := 27) (v := _) hC hW 99 (by decide) rfl rfl uX10 10 (by decide) fl_X10_13 rfl rfl dX10_tune_41 ?_
    refine lv_iconst (v := 2) hC.1 hC.2.1 dX10_tune_44 (by decide) ?_
    obtain ⟨hi, h⟩ := xg h
    refine x_iald hC hW 101 (by decide) rfl hi dX10_tune_45 ?_
    refine lv_icmp_ge (tgt := 76) hC.1 hC.2.1 dX10_tune_46 (by decide) (fun hc => ?_) (fun hc => ?_)
    · replace h := xt hc h
      refine lv_iload_n hC.1 hC.2.1 dX10_tune_76 rfl (lv_at hl 3 rfl) ?_
      refine lv_iload_n hC.1 hC.2.1 dX10_tune_77 rfl (lv_at hl 1 rfl) ?_
      refine lv_icmp_ne (tgt := 83) hC.1 hC.2.1 dX10_tune_78 (by decide) (fun hc => ?_) (fun hc => ?_)
      · replace h := xf hc h
        refine lv_iinc (v := x2 + 1) (lv' := [(2, .int (x2 + 1)), (0, .ref (b + 99)), (1, .int x1), (3, .int x3), (4, .int x4)]) hC.1 hC.2.1 dX10_tune_83 hl (k := 2) rfl rfl (by decide) rfl (fun ls hl => ?_)
        refine lv_goto (tgt := 27) hC.1 hC.2.1 dX10_tune_86 (by decide) ?_
        exact hag27 _ _ _ _ _ _ h hW hS (lv_sub hl [1, 2, 0] rfl)
      · replace h := xt hc h
        refine lv_iload_n hC.1 hC.2.1 dX10_tune_81 rfl (lv_at hl 2 rfl) ?_
        obtain ⟨rfl, rfl⟩ := xr h
        exact x_iret hC hr hW hS dX10_tune_82
    · replace h := xf hc h
      refine lv_iload_n hC.1 hC.2.1 dX10_tune_49 rfl (lv_at hl 3 rfl) ?_
      refine lv_aload_n hC.1 hC.2.1 dX10_tune_50 rfl (lv_at hl 0 rfl) ?_
      refine lv_iload hC.1 hC.2.1 dX10_tune_51 (lv_at hl 4 rfl) ?_
      refine lv_iload_n hC.1 hC.2.1 dX10_tune_53 rfl (lv_at hl 2 rfl) ?_
      obtain ⟨⟨q54_r, q54_S⟩, hq, h⟩ := xb h
      try dsimp only at h
      refine x_callV (T := TX10) (N := 27) (As := [.int x4, .int x2]) (rest := [.int x3]) hC hW hS 99 (c_X10_sings l D b cs _ _ _ _ _ hq) (by decide) rfl rfl mi_X10_sings in_X10_sings sl_X10_sings ml_X10_192 ⟨rfl, rfl⟩ ⟨Nat.le_of_ble_eq_true rfl, Nat.le_of_ble_eq_true rfl⟩ ⟨Nat.zero_le _, Nat.zero_le _⟩ rfl rfl hl.1 (Nat.le_of_ble_eq_true rfl) dX10_tune_54 (fun H locs hW hS => ?_)
      refine lv_if_eq (tgt := 67) hC.1 hC.2.1 dX10_tune_57 (by decide) (fun hc => ?_) (fun hc => ?_)
      · replace h := xt hc h
        refine lv_iconst (v := 0) hC.1 hC.2.1 dX10_tune_67 (by decide) ?_
        refine lv_ior hC.1 hC.2.1 dX10_tune_68 ?_
        refine lv_istore_n (lv' := [(3, .int (x3 ||| (0 : Int32))), (0, .ref (b + 99)), (1, .int x1), (2, .int x2), (4, .int x4)]) hC.1 hC.2.1 dX10_tune_69 rfl hl (by decide) rfl (fun ls hl => ?_)
        refine lv_iinc (v := x4 + 1) (lv' := [(4, .int (x4 + 1)), (3, .int (x3 ||| (0 : Int32))), (0, .ref (b + 99)), (1, .int x1), (2, .int x2)]) hC.1 hC.2.1 dX10_tune_70 hl (k := 4) rfl rfl (by decide) rfl (fun ls hl => ?_)
        refine lv_goto (tgt := 38) hC.1 hC.2.1 dX10_tune_73 (by decide) ?_
        exact IH _ _ _ _ _ _ _ _ h hW hS (lv_sub hl [2, 3, 4, 1, 0] rfl)
      · replace h := xf hc h
        refine lv_iconst (v := 1) hC.1 hC.2.1 dX10_tune_60 (by decide) ?_
        refine lv_iload hC.1 hC.2.1 dX10_tune_61 (lv_at hl 4 rfl) ?_
        refine lv_ishl hC.1 hC.2.1 dX10_tune_63 ?_
        refine lv_goto (tgt := 68) hC.1 hC.2.1 dX10_tune_64 (by decide) ?_
        refine lv_ior hC.1 hC.2.1 dX10_tune_68 ?_
        refine lv_istore_n (lv' := [(3, .int (x3 ||| ((1 : Int32) <<< (x4 &&& 31)))), (0, .ref (b + 99)), (1, .int x1), (2, .int x2), (4, .int x4)]) hC.1 hC.2.1 dX10_tune_69 rfl hl (by decide) rfl (fun ls hl => ?_)
        refine lv_iinc (v := x4 + 1) (lv' := [(4, .int (x4 + 1)), (3, .int (x3 ||| ((1 : Int32) <<< (x4 &&& 31)))), (0, .ref (b + 99)), (1, .int x1), (2, .int x2)]) hC.1 hC.2.1 dX10_tune_70 hl (k := 4) rfl rfl (by decide) rfl (fun ls hl => ?_)
        refine lv_goto (tgt := 38) hC.1 hC.2.1 dX10_tune_73 (by decide) ?_
        exact IH _ _ _ _ _ _ _ _ h hW hS (lv_sub hl [2, 3, 4, 1, 0] rfl)
set_option maxHeartbeats 4000000 in
set_option maxRecDepth 100000 in
theorem w_X10_tune_27 {p : Program} {l : Launch} {e : Env} {s : State} {m : MethodId} {args : Array Value} {below : List Frame} {meth : Method} {c : Code} {D : va_G} {b : Nat} {cs : Cs3} {r : Int32} {S1 : St} (hC : CX p s m args meth c RX10 cX10_tune 5 D cs) (hr : meth.sig.returnType = (some .int)) : ∀ (n : Nat) (x1 : Int32) (x2 : Int32) (S : St) (H : Heap) (locs : List Loc) (ls : Array Slot), q_X10_tune_27 n x1 x2 S = some (r, S1) → Wd D b cs S H → va_S (AA b) s.heap H locs → lv_has ls 5 [(0, .ref (b + 99)), (1, .int x1), (2, .int x2)] → W p l e rX10_tune s m args below meth c H locs 0 0 (MQ below (QX D b cs (some (.int r)) S1) args s 0 0 (AA b)) (F0 m 27 ls []) := by
  intro n
  induction n with
  | zero =>
    intro x1 x2 S H locs ls h
    exact absurd h (by rw [q_X10_tune_27]; exact fun q => nomatch q)
  | succ n IH =>
    intro x1 x2 S H locs ls h hW hS hl
    rw [q_X10_tune_27] at h
    refine lv_iload_n hC.1 hC.2.1 dX10_tune_27 rfl (lv_at hl 2 rfl) ?_
    refine lv_bipush (v := 40) hC.1 hC.2.1 dX10_tune_28 (by decide) ?_
    refine lv_icmp_gt (tgt := 89) hC.1 hC.2.1 dX10_tune_30 (by decide) (fun hc => ?_) (fun hc => ?_)
    · replace h := xt hc h
      refine lv_bipush (v := -9) hC.1 hC.2.1 dX10_tune_89 (by decide) ?_
      obtain ⟨rfl, rfl⟩ := xr h
      exact x_iret hC hr hW hS dX10_tune_91
    · replace h := xf hc h
      refine lv_iconst (v := 0) hC.1 hC.2.1 dX10_tune_33 (by decide) ?_
      refine lv_istore_n (lv' := [(3, .int (0 : Int32)), (0, .ref (b + 99)), (1, .int x1), (2, .int x2)]) hC.1 hC.2.1 dX10_tune_34 rfl hl (by decide) rfl (fun ls hl => ?_)
      refine lv_iconst (v := 0) hC.1 hC.2.1 dX10_tune_35 (by decide) ?_
      refine lv_istore (lv' := [(4, .int (0 : Int32)), (3, .int (0 : Int32)), (0, .ref (b + 99)), (1, .int x1), (2, .int x2)]) hC.1 hC.2.1 dX10_tune_36 hl (by decide) rfl (fun ls hl => ?_)
      exact w_X10_tune_38 hC hr IH _ _ _ _ _ _ _ _ _ h hW hS (lv_sub hl [2, 3, 4, 1, 0] rfl)
set_option maxHeartbeats 4000000 in
set_option maxRecDepth 100000 in
theorem c_X10_tune (l : Launch) (D : va_G) (b : Nat) (cs : Cs3) (x1 : Int32) (S S1 : St) (r : Int32) (h : p_X10_tune x1 S = some (r, S1)) : Ct l yX10_tune cX10_tune 5 (some .int) rX10_tune D b cs [.ref (b + 99), .int x1] S (some (.int r)) S1 := by
  refine x_met (by decide +kernel) (Nat.le_of_ble_eq_true rfl) ?_
  intro p e s m below meth c ls hC hr hW hS hl
  have hl : lv_has ls 5 [(0, .ref (b + 99)), (1, .int x1)] := hl
  rw [p_X10_tune] at h
  refine lv_aload_n hC.1 hC.2.1 dX10_tune_0 rfl (lv_at hl 0 rfl) ?_
  refine lv_iconst (v := 0) hC.1 hC.2.1 dX10_tune_1 (by decide) ?_
  refine x_puti (C := RX10) (T := TX10) (N := 27) (ty := .int) hC hW hS 99 (by decide) rfl rfl uX10 tyX10 tyX10_ok nmX10 0 (by decide) fl_X10_65 rfl (by decide +kernel) rfl rfl rfl dX10_tune_2 (fun H locs hW hS => ?_)
  refine lv_iload_n hC.1 hC.2.1 dX10_tune_5 rfl (lv_at hl 1 rfl) ?_
  refine lv_iconst (v := 0) hC.1 hC.2.1 dX10_tune_6 (by decide) ?_
  refine lv_iconst (v := 1) hC.1 hC.2.1 dX10_tune_7 (by decide) ?_
  refine lv_aload_n hC.1 hC.2.1 dX10_tune_8 rfl (lv_at hl 0 rfl) ?_
  refine x_get (C := RX10) (T := TX10) (N := 27) (v := _) hC hW 99 (by decide) rfl rfl uX10 10 (by decide) fl_X10_13 rfl rfl dX10_tune_9 ?_
  refine lv_iconst (v := 2) hC.1 hC.2.1 dX10_tune_12 (by decide) ?_
  obtain ⟨hi, h⟩ := xg h
  refine x_iald hC hW 101 (by decide) rfl hi dX10_tune_13 ?_
  refine lv_ishl hC.1 hC.2.1 dX10_tune_14 ?_
  refine lv_iconst (v := 1) hC.1 hC.2.1 dX10_tune_15 (by decide) ?_
  refine lv_isub hC.1 hC.2.1 dX10_tune_16 ?_
  obtain ⟨⟨q17_r, q17_S⟩, hq, h⟩ := xb h
  try dsimp only at h
  refine x_callS (As := [.int x1, .int (0 : Int32), .int (((1 : Int32) <<< (((sI S 99 0 (0 : Int32)).1 101 (2 : Int32).toNatClampNeg) &&& 31)) - (1 : Int32))]) (rest := []) hC hW hS (c_X10_in l D b cs _ _ _ _ _ _ hq) mi_X10_in st_X10_in ml_X10_69 ⟨rfl, rfl⟩ ⟨Nat.le_of_ble_eq_true rfl, Nat.le_of_ble_eq_true rfl⟩ ⟨Nat.zero_le _, Nat.zero_le _⟩ rfl rfl hl.1 (Nat.le_of_ble_eq_true rfl) dX10_tune_17 (fun H locs hW hS => ?_)
  refine lv_if_ne (tgt := 25) hC.1 hC.2.1 dX10_tune_20 (by decide) (fun hc => ?_) (fun hc => ?_)
  · replace h := xf hc h
    refine lv_iconst (v := 0) hC.1 hC.2.1 dX10_tune_25 (by decide) ?_
    refine lv_istore_n (lv' := [(2, .int (0 : Int32)), (0, .ref (b + 99)), (1, .int x1)]) hC.1 hC.2.1 dX10_tune_26 rfl hl (by decide) rfl (fun ls hl => ?_)
    exact w_X10_tune_27 hC hr _ _ _ _ _ _ _ h hW hS (lv_sub hl [1, 2, 0] rfl)
  · replace h := xt hc h
    refine lv_iconst (v := -1) hC.1 hC.2.1 dX10_tune_23 (by decide) ?_
    obtain ⟨rfl, rfl⟩ := xr h
    exact x_iret hC hr hW hS dX10_tune_24
theorem dX10_thirds_0 : decode cX10_thirds 0 = .ok (.aload_n 0, 1) := by decide +kernel
theorem dX10_thirds_1 : decode cX10_thirds 1 = .ok (.iconst 0, 1) := by decide +kernel
theorem dX10_thirds_2 : decode cX10_thirds 2 = .ok (.putfield 65, 3) := by decide +kernel
theorem dX10_thirds_5 : decode cX10_thirds 5 = .ok (.aload_n 0, 1) := by decide +kernel
theorem dX10_thirds_6 : decode cX10_thirds 6 = .ok (.iload_n 1, 1) := by decide +kernel
theorem dX10_thirds_7 : decode cX10_thirds 7 = .ok (.invokevirtual 160, 3) := by decide +kernel
theorem dX10_thirds_10 : decode cX10_thirds 10 = .ok (.ifCond .eq 16, 3) := by decide +kernel
theorem dX10_thirds_13 : decode cX10_thirds 13 = .ok (.aload_n 0, 1) := by decide +kernel
theorem dX10_thirds_14 : decode cX10_thirds 14 = .ok (.iload_n 2, 1) := by decide +kernel
theorem dX10_thirds_15 : decode cX10_thirds 15 = .ok (.invokevirtual 160, 3) := by decide +kernel
theorem dX10_thirds_18 : decode cX10_thirds 18 = .ok (.ifCond .eq 8, 3) := by decide +kernel
theorem dX10_thirds_21 : decode cX10_thirds 21 = .ok (.iload_n 1, 1) := by decide +kernel
theorem dX10_thirds_22 : decode cX10_thirds 22 = .ok (.iload_n 2, 1) := by decide +kernel
theorem dX10_thirds_23 : decode cX10_thirds 23 = .ok (.if_icmp .ne 5, 3) := by decide +kernel
theorem dX10_thirds_26 : decode cX10_thirds 26 = .ok (.iconst (-1), 1) := by decide +kernel
theorem dX10_thirds_27 : decode cX10_thirds 27 = .ok (.ireturn, 1) := by decide +kernel
theorem dX10_thirds_28 : decode cX10_thirds 28 = .ok (.iconst 0, 1) := by decide +kernel
theorem dX10_thirds_29 : decode cX10_thirds 29 = .ok (.istore_n 3, 1) := by decide +kernel
theorem dX10_thirds_30 : decode cX10_thirds 30 = .ok (.iconst 0, 1) := by decide +kernel
theorem dX10_thirds_31 : decode cX10_thirds 31 = .ok (.istore 4, 2) := by decide +kernel
theorem dX10_thirds_33 : decode cX10_thirds 33 = .ok (.iload 4, 2) := by decide +kernel
theorem dX10_thirds_35 : decode cX10_thirds 35 = .ok (.aload_n 0, 1) := by decide +kernel
theorem dX10_thirds_36 : decode cX10_thirds 36 = .ok (.getfield 13, 3) := by decide +kernel
theorem dX10_thirds_39 : decode cX10_thirds 39 = .ok (.iconst 1, 1) := by decide +kernel
theorem dX10_thirds_40 : decode cX10_thirds 40 = .ok (.iaload, 1) := by decide +kernel
theorem dX10_thirds_41 : decode cX10_thirds 41 = .ok (.if_icmp .ge 116, 3) := by decide +kernel
theorem dX10_thirds_44 : decode cX10_thirds 44 = .ok (.iconst 0, 1) := by decide +kernel
theorem dX10_thirds_45 : decode cX10_thirds 45 = .ok (.istore 5, 2) := by decide +kernel
theorem dX10_thirds_47 : decode cX10_thirds 47 = .ok (.iload 5, 2) := by decide +kernel
theorem dX10_thirds_49 : decode cX10_thirds 49 = .ok (.aload_n 0, 1) := by decide +kernel
theorem dX10_thirds_50 : decode cX10_thirds 50 = .ok (.getfield 13, 3) := by decide +kernel
theorem dX10_thirds_53 : decode cX10_thirds 53 = .ok (.iconst 1, 1) := by decide +kernel
theorem dX10_thirds_54 : decode cX10_thirds 54 = .ok (.iaload, 1) := by decide +kernel
theorem dX10_thirds_55 : decode cX10_thirds 55 = .ok (.if_icmp .ge 96, 3) := by decide +kernel
theorem dX10_thirds_58 : decode cX10_thirds 58 = .ok (.aload_n 0, 1) := by decide +kernel
theorem dX10_thirds_59 : decode cX10_thirds 59 = .ok (.getfield 40, 3) := by decide +kernel
theorem dX10_thirds_62 : decode cX10_thirds 62 = .ok (.bipush 15, 2) := by decide +kernel
theorem dX10_thirds_64 : decode cX10_thirds 64 = .ok (.iload 4, 2) := by decide +kernel
theorem dX10_thirds_66 : decode cX10_thirds 66 = .ok (.iadd, 1) := by decide +kernel
theorem dX10_thirds_67 : decode cX10_thirds 67 = .ok (.iaload, 1) := by decide +kernel
theorem dX10_thirds_68 : decode cX10_thirds 68 = .ok (.aload_n 0, 1) := by decide +kernel
theorem dX10_thirds_69 : decode cX10_thirds 69 = .ok (.getfield 40, 3) := by decide +kernel
theorem dX10_thirds_72 : decode cX10_thirds 72 = .ok (.bipush 15, 2) := by decide +kernel
theorem dX10_thirds_74 : decode cX10_thirds 74 = .ok (.iload 5, 2) := by decide +kernel
theorem dX10_thirds_76 : decode cX10_thirds 76 = .ok (.iadd, 1) := by decide +kernel
theorem dX10_thirds_77 : decode cX10_thirds 77 = .ok (.iaload, 1) := by decide +kernel
theorem dX10_thirds_78 : decode cX10_thirds 78 = .ok (.isub, 1) := by decide +kernel
theorem dX10_thirds_79 : decode cX10_thirds 79 = .ok (.istore 6, 2) := by decide +kernel
theorem dX10_thirds_81 : decode cX10_thirds 81 = .ok (.iload_n 3, 1) := by decide +kernel
theorem dX10_thirds_82 : decode cX10_thirds 82 = .ok (.iload 4, 2) := by decide +kernel
theorem dX10_thirds_84 : decode cX10_thirds 84 = .ok (.iload 5, 2) := by decide +kernel
theorem dX10_thirds_86 : decode cX10_thirds 86 = .ok (.if_icmp .eq 56, 3) := by decide +kernel
theorem dX10_thirds_89 : decode cX10_thirds 89 = .ok (.iload 6, 2) := by decide +kernel
theorem dX10_thirds_91 : decode cX10_thirds 91 = .ok (.iconst 4, 1) := by decide +kernel
theorem dX10_thirds_92 : decode cX10_thirds 92 = .ok (.if_icmp .eq 10, 3) := by decide +kernel
theorem dX10_thirds_95 : decode cX10_thirds 95 = .ok (.iload 6, 2) := by decide +kernel
theorem dX10_thirds_97 : decode cX10_thirds 97 = .ok (.bipush (-4), 2) := by decide +kernel
theorem dX10_thirds_99 : decode cX10_thirds 99 = .ok (.if_icmp .ne 43, 3) := by decide +kernel
theorem dX10_thirds_102 : decode cX10_thirds 102 = .ok (.aload_n 0, 1) := by decide +kernel
theorem dX10_thirds_103 : decode cX10_thirds 103 = .ok (.iload_n 1, 1) := by decide +kernel
theorem dX10_thirds_104 : decode cX10_thirds 104 = .ok (.aload_n 0, 1) := by decide +kernel
theorem dX10_thirds_105 : decode cX10_thirds 105 = .ok (.getfield 40, 3) := by decide +kernel
theorem dX10_thirds_108 : decode cX10_thirds 108 = .ok (.bipush 15, 2) := by decide +kernel
theorem dX10_thirds_110 : decode cX10_thirds 110 = .ok (.iload 4, 2) := by decide +kernel
theorem dX10_thirds_112 : decode cX10_thirds 112 = .ok (.iadd, 1) := by decide +kernel
theorem dX10_thirds_113 : decode cX10_thirds 113 = .ok (.iaload, 1) := by decide +kernel
theorem dX10_thirds_114 : decode cX10_thirds 114 = .ok (.invokevirtual 192, 3) := by decide +kernel
theorem dX10_thirds_117 : decode cX10_thirds 117 = .ok (.ifCond .eq 25, 3) := by decide +kernel
theorem dX10_thirds_120 : decode cX10_thirds 120 = .ok (.aload_n 0, 1) := by decide +kernel
theorem dX10_thirds_121 : decode cX10_thirds 121 = .ok (.iload_n 2, 1) := by decide +kernel
theorem dX10_thirds_122 : decode cX10_thirds 122 = .ok (.aload_n 0, 1) := by decide +kernel
theorem dX10_thirds_123 : decode cX10_thirds 123 = .ok (.getfield 40, 3) := by decide +kernel
theorem dX10_thirds_126 : decode cX10_thirds 126 = .ok (.bipush 15, 2) := by decide +kernel
theorem dX10_thirds_128 : decode cX10_thirds 128 = .ok (.iload 5, 2) := by decide +kernel
theorem dX10_thirds_130 : decode cX10_thirds 130 = .ok (.iadd, 1) := by decide +kernel
theorem dX10_thirds_131 : decode cX10_thirds 131 = .ok (.iaload, 1) := by decide +kernel
theorem dX10_thirds_132 : decode cX10_thirds 132 = .ok (.invokevirtual 192, 3) := by decide +kernel
theorem dX10_thirds_135 : decode cX10_thirds 135 = .ok (.ifCond .eq 7, 3) := by decide +kernel
theorem dX10_thirds_138 : decode cX10_thirds 138 = .ok (.iconst 1, 1) := by decide +kernel
theorem dX10_thirds_139 : decode cX10_thirds 139 = .ok (.goto 4, 3) := by decide +kernel
theorem dX10_thirds_142 : decode cX10_thirds 142 = .ok (.iconst 0, 1) := by decide +kernel
theorem dX10_thirds_143 : decode cX10_thirds 143 = .ok (.iadd, 1) := by decide +kernel
theorem dX10_thirds_144 : decode cX10_thirds 144 = .ok (.istore_n 3, 1) := by decide +kernel
theorem dX10_thirds_145 : decode cX10_thirds 145 = .ok (.iinc 5 1, 3) := by decide +kernel
theorem dX10_thirds_148 : decode cX10_thirds 148 = .ok (.goto (-101), 3) := by decide +kernel
theorem dX10_thirds_151 : decode cX10_thirds 151 = .ok (.iinc 4 1, 3) := by decide +kernel
theorem dX10_thirds_154 : decode cX10_thirds 154 = .ok (.goto (-121), 3) := by decide +kernel
theorem dX10_thirds_157 : decode cX10_thirds 157 = .ok (.iload_n 3, 1) := by decide +kernel
theorem dX10_thirds_158 : decode cX10_thirds 158 = .ok (.ireturn, 1) := by decide +kernel
abbrev rX10_thirds : Room := { frames := 2, cells := 0, slots := 0, locals := 45 }
set_option maxHeartbeats 4000000 in
set_option maxRecDepth 100000 in
theorem w_X10_thirds_102 {p : Program} {l : Launch} {e : Env} {s : State} {m : MethodId} {args : Array Value} {below : List Frame} {meth : Method} {c : Code} {D : va_G} {b : Nat} {cs : Cs3} {r : Int32} {S1 : St} {ag33 : Int32 → Int32 → Int32 → Int32 → St → Option (Int32 × St)} {ag47 : Int32 → Int32 → Int32 → Int32 → Int32 → St → Option (Int32 × St)} (hC : CX p s m args meth c RX10 cX10_thirds 7 D cs) (hr : meth.sig.returnType = (some .int)) (hag33 : ∀ (x1 : Int32) (x2 : Int32) (x3 : Int32) (x4 : Int32) (S : St) (H : Heap) (locs : List Loc) (ls : Array Slot), ag33 x1 x2 x3 x4 S = some (r, S1) → Wd D b cs S H → va_S (AA b) s.heap H locs → lv_has ls 7 [(0, .ref (b + 99)), (1, .int x1), (2, .int x2), (3, .int x3), (4, .int x4)] → W p l e rX10_thirds s m args below meth c H locs 0 0 (MQ below (QX D b cs (some (.int r)) S1) args s 0 0 (AA b)) (F0 m 33 ls [])) (hag47 : ∀ (x1 : Int32) (x2 : Int32) (x3 : Int32) (x4 : Int32) (x5 : Int32) (S : St) (H : Heap) (locs : List Loc) (ls : Array Slot), ag47 x1 x2 x3 x4 x5 S = some (r, S1) → Wd D b cs S H → va_S (AA b) s.heap H locs → lv_has ls 7 [(0, .ref (b + 99)), (1, .int x1), (2, .int x2), (3, .int x3), (4, .int x4), (5, .int x5)] → W p l e rX10_thirds s m args below meth c H locs 0 0 (MQ below (QX D b cs (some (.int r)) S1) args s 0 0 (AA b)) (F0 m 47 ls [])) : ∀ (x1 : Int32) (x2 : Int32) (x4 : Int32) (x5 : Int32) (y0 : Int32) (S : St) (H : Heap) (locs : List Loc) (ls : Array Slot), q_X10_thirds_102 ag33 ag47 x1 x2 x4 x5 y0 S = some (r, S1) → Wd D b cs S H → va_S (AA b) s.heap H locs → lv_has ls 7 [(0, .ref (b + 99)), (1, .int x1), (2, .int x2), (4, .int x4), (5, .int x5)] → W p l e rX10_thirds s m args below meth c H locs 0 0 (MQ below (QX D b cs (some (.int r)) S1) args s 0 0 (AA b)) (F0 m 102 ls [.int y0]) := by
  intro x1 x2 x4 x5 y0 S H locs ls h hW hS hl
  rw [q_X10_thirds_102] at h
  refine lv_aload_n hC.1 hC.2.1 dX10_thirds_102 rfl (lv_at hl 0 rfl) ?_
  refine lv_iload_n hC.1 hC.2.1 dX10_thirds_103 rfl (lv_at hl 1 rfl) ?_
  refine lv_aload_n hC.1 hC.2.1 dX10_thirds_104 rfl (lv_at hl 0 rfl) ?_
  refine x_get (C := RX10) (T := TX10) (N := 27) (v := _) hC hW 99 (by decide) rfl rfl uX10 19 (by decide) fl_X10_40 rfl rfl dX10_thirds_105 ?_
  refine lv_bipush (v := 15) hC.1 hC.2.1 dX10_thirds_108 (by decide) ?_
  refine lv_iload hC.1 hC.2.1 dX10_thirds_110 (lv_at hl 3 rfl) ?_
  refine lv_iadd hC.1 hC.2.1 dX10_thirds_112 ?_
  obtain ⟨hi, h⟩ := xg h
  refine x_iald hC hW 110 (by decide) rfl hi dX10_thirds_113 ?_
  obtain ⟨⟨q114_r, q114_S⟩, hq, h⟩ := xb h
  try dsimp only at h
  refine x_callV (T := TX10) (N := 27) (As := [.int x1, .int (S.1 110 ((15 : Int32) + x4).toNatClampNeg)]) (rest := [.int y0]) hC hW hS 99 (c_X10_sings l D b cs _ _ _ _ _ hq) (by decide) rfl rfl mi_X10_sings in_X10_sings sl_X10_sings ml_X10_192 ⟨rfl, rfl⟩ ⟨Nat.le_of_ble_eq_true rfl, Nat.le_of_ble_eq_true rfl⟩ ⟨Nat.zero_le _, Nat.zero_le _⟩ rfl rfl hl.1 (Nat.le_of_ble_eq_true rfl) dX10_thirds_114 (fun H locs hW hS => ?_)
  refine lv_if_eq (tgt := 142) hC.1 hC.2.1 dX10_thirds_117 (by decide) (fun hc => ?_) (fun hc => ?_)
  · replace h := xt hc h
    refine lv_iconst (v := 0) hC.1 hC.2.1 dX10_thirds_142 (by decide) ?_
    refine lv_iadd hC.1 hC.2.1 dX10_thirds_143 ?_
    refine lv_istore_n (lv' := [(3, .int (y0 + (0 : Int32))), (0, .ref (b + 99)), (1, .int x1), (2, .int x2), (4, .int x4), (5, .int x5)]) hC.1 hC.2.1 dX10_thirds_144 rfl hl (by decide) rfl (fun ls hl => ?_)
    refine lv_iinc (v := x5 + 1) (lv' := [(5, .int (x5 + 1)), (3, .int (y0 + (0 : Int32))), (0, .ref (b + 99)), (1, .int x1), (2, .int x2), (4, .int x4)]) hC.1 hC.2.1 dX10_thirds_145 hl (k := 5) rfl rfl (by decide) rfl (fun ls hl => ?_)
    refine lv_goto (tgt := 47) hC.1 hC.2.1 dX10_thirds_148 (by decide) ?_
    exact hag47 _ _ _ _ _ _ _ _ _ h hW hS (lv_sub hl [2, 3, 4, 1, 5, 0] rfl)
  · replace h := xf hc h
    refine lv_aload_n hC.1 hC.2.1 dX10_thirds_120 rfl (lv_at hl 0 rfl) ?_
    refine lv_iload_n hC.1 hC.2.1 dX10_thirds_121 rfl (lv_at hl 2 rfl) ?_
    refine lv_aload_n hC.1 hC.2.1 dX10_thirds_122 rfl (lv_at hl 0 rfl) ?_
    refine x_get (C := RX10) (T := TX10) (N := 27) (v := _) hC hW 99 (by decide) rfl rfl uX10 19 (by decide) fl_X10_40 rfl rfl dX10_thirds_123 ?_
    refine lv_bipush (v := 15) hC.1 hC.2.1 dX10_thirds_126 (by decide) ?_
    refine lv_iload hC.1 hC.2.1 dX10_thirds_128 (lv_at hl 4 rfl) ?_
    refine lv_iadd hC.1 hC.2.1 dX10_thirds_130 ?_
    obtain ⟨hi, h⟩ := xg h
    refine x_iald hC hW 110 (by decide) rfl hi dX10_thirds_131 ?_
    obtain ⟨⟨q132_r, q132_S⟩, hq, h⟩ := xb h
    try dsimp only at h
    refine x_callV (T := TX10) (N := 27) (As := [.int x2, .int (q114_S.1 110 ((15 : Int32) + x5).toNatClampNeg)]) (rest := [.int y0]) hC hW hS 99 (c_X10_sings l D b cs _ _ _ _ _ hq) (by decide) rfl rfl mi_X10_sings in_X10_sings sl_X10_sings ml_X10_192 ⟨rfl, rfl⟩ ⟨Nat.le_of_ble_eq_true rfl, Nat.le_of_ble_eq_true rfl⟩ ⟨Nat.zero_le _, Nat.zero_le _⟩ rfl rfl hl.1 (Nat.le_of_ble_eq_true rfl) dX10_thirds_132 (fun H locs hW hS => ?_)
    refine lv_if_eq (tgt := 142) hC.1 hC.2.1 dX10_thirds_135 (by decide) (fun hc => ?_) (fun hc => ?_)
    · replace h := xt hc h
      refine lv_iconst (v := 0) hC.1 hC.2.1 dX10_thirds_142 (by decide) ?_
      refine lv_iadd hC.1 hC.2.1 dX10_thirds_143 ?_
      refine lv_istore_n (lv' := [(3, .int (y0 + (0 : Int32))), (0, .ref (b + 99)), (1, .int x1), (2, .int x2), (4, .int x4), (5, .int x5)]) hC.1 hC.2.1 dX10_thirds_144 rfl hl (by decide) rfl (fun ls hl => ?_)
      refine lv_iinc (v := x5 + 1) (lv' := [(5, .int (x5 + 1)), (3, .int (y0 + (0 : Int32))), (0, .ref (b + 99)), (1, .int x1), (2, .int x2), (4, .int x4)]) hC.1 hC.2.1 dX10_thirds_145 hl (k := 5) rfl rfl (by decide) rfl (fun ls hl => ?_)
      refine lv_goto (tgt := 47) hC.1 hC.2.1 dX10_thirds_148 (by decide) ?_
      exact hag47 _ _ _ _ _ _ _ _ _ h hW hS (lv_sub hl [2, 3, 4, 1, 5, 0] rfl)
    · replace h := xf hc h
      refine lv_iconst (v := 1) hC.1 hC.2.1 dX10_thirds_138 (by decide) ?_
      refine lv_goto (tgt := 143) hC.1 hC.2.1 dX10_thirds_139 (by decide) ?_
      refine lv_iadd hC.1 hC.2.1 dX10_thirds_143 ?_
      refine lv_istore_n (lv' := [(3, .int (y0 + (1 : Int32))), (0, .ref (b + 99)), (1, .int x1), (2, .int x2), (4, .int x4), (5, .int x5)]) hC.1 hC.2.1 dX10_thirds_144 rfl hl (by decide) rfl (fun ls hl => ?_)
      refine lv_iinc (v := x5 + 1) (lv' := [(5, .int (x5 + 1)), (3, .int (y0 + (1 : Int32))), (0, .ref (b + 99)), (1, .int x1), (2, .int x2), (4, .int x4)]) hC.1 hC.2.1 dX10_thirds_145 hl (k := 5) rfl rfl (by decide) rfl (fun ls hl => ?_)
      refine lv_goto (tgt := 47) hC.1 hC.2.1 dX10_thirds_148 (by decide) ?_
      exact hag47 _ _ _ _ _ _ _ _ _ h hW hS (lv_sub hl [2, 3, 4, 1, 5, 0] rfl)
set_option maxHeartbeats 4000000 in
set_option maxRecDepth 100000 in
theorem w_X10_thirds_47 {p : Program} {l : Launch} {e : Env} {s : State} {m : MethodId} {args : Array Value} {below : List Frame} {meth : Method} {c : Code} {D : va_G} {b : Nat} {cs : Cs3} {r : Int32} {S1 : St} {ag33 : Int32 → Int32 → Int32 → Int32 → St → Option (Int32 × St)} (hC : CX p s m args meth c RX10 cX10_thirds 7 D cs) (hr : meth.sig.returnType = (some .int)) (hag33 : ∀ (x1 : Int32) (x2 : Int32) (x3 : Int32) (x4 : Int32) (S : St) (H : Heap) (locs : List Loc) (ls : Array Slot), ag33 x1 x2 x3 x4 S = some (r, S1) → Wd D b cs S H → va_S (AA b) s.heap H locs → lv_has ls 7 [(0, .ref (b + 99)), (1, .int x1), (2, .int x2), (3, .int x3), (4, .int x4)] → W p l e rX10_thirds s m args below meth c H locs 0 0 (MQ below (QX D b cs (some (.int r)) S1) args s 0 0 (AA b)) (F0 m 33 ls [])) : ∀ (n : Nat) (x1 : Int32) (x2 : Int32) (x3 : Int32) (x4 : Int32) (x5 : Int32) (S : St) (H : Heap) (locs : List Loc) (ls : Array Slot), q_X10_thirds_47 ag33 n x1 x2 x3 x4 x5 S = some (r, S1) → Wd D b cs S H → va_S (AA b) s.heap H locs → lv_has ls 7 [(0, .ref (b + 99)), (1, .int x1), (2, .int x2), (3, .int x3), (4, .int x4), (5, .int x5)] → W p l e rX10_thirds s m args below meth c H locs 0 0 (MQ below (QX D b cs (some (.int r)) S1) args s 0 0 (AA b)) (F0 m 47 ls []) := by
  intro n
  induction n with
  | zero =>
    intro x1 x2 x3 x4 x5 S H locs ls h
    exact absurd h (by rw [q_X10_thirds_47]; exact fun q => nomatch q)
  | succ n IH =>
    intro x1 x2 x3 x4 x5 S H locs ls h hW hS hl
    rw [q_X10_thirds_47] at h
    refine lv_iload hC.1 hC.2.1 dX10_thirds_47 (lv_at hl 5 rfl) ?_
    refine lv_aload_n hC.1 hC.2.1 dX10_thirds_49 rfl (lv_at hl 0 rfl) ?_
    refine x_get (C := RX10) (T := TX10) (N := 27) (v := _) hC hW 99 (by decide) rfl rfl uX10 10 (by decide) fl_X10_13 rfl rfl dX10_thirds_50 ?_
    refine lv_iconst (v := 1) hC.1 hC.2.1 dX10_thirds_53 (by decide) ?_
    obtain ⟨hi, h⟩ := xg h
    refine x_iald hC hW 101 (by decide) rfl hi dX10_thirds_54 ?_
    refine lv_icmp_ge (tgt := 151) hC.1 hC.2.1 dX10_thirds_55 (by decide) (fun hc => ?_) (fun hc => ?_)
    · replace h := xt hc h
      refine lv_iinc (v := x4 + 1) (lv' := [(4, .int (x4 + 1)), (0, .ref (b + 99)), (1, .int x1), (2, .int x2), (3, .int x3), (5, .int x5)]) hC.1 hC.2.1 dX10_thirds_151 hl (k := 4) rfl rfl (by decide) rfl (fun ls hl => ?_)
      refine lv_goto (tgt := 33) hC.1 hC.2.1 dX10_thirds_154 (by decide) ?_
      exact hag33 _ _ _ _ _ _ _ _ h hW hS (lv_sub hl [1, 2, 3, 4, 0] rfl)
    · replace h := xf hc h
      refine lv_aload_n hC.1 hC.2.1 dX10_thirds_58 rfl (lv_at hl 0 rfl) ?_
      refine x_get (C := RX10) (T := TX10) (N := 27) (v := _) hC hW 99 (by decide) rfl rfl uX10 19 (by decide) fl_X10_40 rfl rfl dX10_thirds_59 ?_
      refine lv_bipush (v := 15) hC.1 hC.2.1 dX10_thirds_62 (by decide) ?_
      refine lv_iload hC.1 hC.2.1 dX10_thirds_64 (lv_at hl 4 rfl) ?_
      refine lv_iadd hC.1 hC.2.1 dX10_thirds_66 ?_
      obtain ⟨hi, h⟩ := xg h
      refine x_iald hC hW 110 (by decide) rfl hi dX10_thirds_67 ?_
      refine lv_aload_n hC.1 hC.2.1 dX10_thirds_68 rfl (lv_at hl 0 rfl) ?_
      refine x_get (C := RX10) (T := TX10) (N := 27) (v := _) hC hW 99 (by decide) rfl rfl uX10 19 (by decide) fl_X10_40 rfl rfl dX10_thirds_69 ?_
      refine lv_bipush (v := 15) hC.1 hC.2.1 dX10_thirds_72 (by decide) ?_
      refine lv_iload hC.1 hC.2.1 dX10_thirds_74 (lv_at hl 5 rfl) ?_
      refine lv_iadd hC.1 hC.2.1 dX10_thirds_76 ?_
      obtain ⟨hi, h⟩ := xg h
      refine x_iald hC hW 110 (by decide) rfl hi dX10_thirds_77 ?_
      refine lv_isub hC.1 hC.2.1 dX10_thirds_78 ?_
      refine lv_istore (lv' := [(6, .int ((S.1 110 ((15 : Int32) + x4).toNatClampNeg) - (S.1 110 ((15 : Int32) + x5).toNatClampNeg))), (0, .ref (b + 99)), (1, .int x1), (2, .int x2), (3, .int x3), (4, .int x4), (5, .int x5)]) hC.1 hC.2.1 dX10_thirds_79 hl (by decide) rfl (fun ls hl => ?_)
      refine lv_iload_n hC.1 hC.2.1 dX10_thirds_81 rfl (lv_at hl 4 rfl) ?_
      refine lv_iload hC.1 hC.2.1 dX10_thirds_82 (lv_at hl 5 rfl) ?_
      refine lv_iload hC.1 hC.2.1 dX10_thirds_84 (lv_at hl 6 rfl) ?_
      refine lv_icmp_eq (tgt := 142) hC.1 hC.2.1 dX10_thirds_86 (by decide) (fun hc => ?_) (fun hc => ?_)
      · replace h := xt hc h
        refine lv_iconst (v := 0) hC.1 hC.2.1 dX10_thirds_142 (by decide) ?_
        refine lv_iadd hC.1 hC.2.1 dX10_thirds_143 ?_
        refine lv_istore_n (lv' := [(3, .int (x3 + (0 : Int32))), (6, .int ((S.1 110 ((15 : Int32) + x4).toNatClampNeg) - (S.1 110 ((15 : Int32) + x5).toNatClampNeg))), (0, .ref (b + 99)), (1, .int x1), (2, .int x2), (4, .int x4), (5, .int x5)]) hC.1 hC.2.1 dX10_thirds_144 rfl hl (by decide) rfl (fun ls hl => ?_)
        refine lv_iinc (v := x5 + 1) (lv' := [(5, .int (x5 + 1)), (3, .int (x3 + (0 : Int32))), (6, .int ((S.1 110 ((15 : Int32) + x4).toNatClampNeg) - (S.1 110 ((15 : Int32) + x5).toNatClampNeg))), (0, .ref (b + 99)), (1, .int x1), (2, .int x2), (4, .int x4)]) hC.1 hC.2.1 dX10_thirds_145 hl (k := 6) rfl rfl (by decide) rfl (fun ls hl => ?_)
        refine lv_goto (tgt := 47) hC.1 hC.2.1 dX10_thirds_148 (by decide) ?_
        exact IH _ _ _ _ _ _ _ _ _ h hW hS (lv_sub hl [3, 4, 5, 1, 6, 0] rfl)
      · replace h := xf hc h
        refine lv_iload hC.1 hC.2.1 dX10_thirds_89 (lv_at hl 0 rfl) ?_
        refine lv_iconst (v := 4) hC.1 hC.2.1 dX10_thirds_91 (by decide) ?_
        refine lv_icmp_eq (tgt := 102) hC.1 hC.2.1 dX10_thirds_92 (by decide) (fun hc => ?_) (fun hc => ?_)
        · replace h := xt hc h
          exact w_X10_thirds_102 hC hr hag33 IH _ _ _ _ _ _ _ _ _ h hW hS (lv_sub hl [1, 2, 3, 5, 6] rfl)
        · replace h := xf hc h
          refine lv_iload hC.1 hC.2.1 dX10_thirds_95 (lv_at hl 0 rfl) ?_
          refine lv_bipush (v := -4) hC.1 hC.2.1 dX10_thirds_97 (by decide) ?_
          refine lv_icmp_ne (tgt := 142) hC.1 hC.2.1 dX10_thirds_99 (by decide) (fun hc => ?_) (fun hc => ?_)
          · replace h := xf hc h
            refine lv_iconst (v := 0) hC.1 hC.2.1 dX10_thirds_142 (by decide) ?_
            refine lv_iadd hC.1 hC.2.1 dX10_thirds_143 ?_
            refine lv_istore_n (lv' := [(3, .int (x3 + (0 : Int32))), (6, .int ((S.1 110 ((15 : Int32) + x4).toNatClampNeg) - (S.1 110 ((15 : Int32) + x5).toNatClampNeg))), (0, .ref (b + 99)), (1, .int x1), (2, .int x2), (4, .int x4), (5, .int x5)]) hC.1 hC.2.1 dX10_thirds_144 rfl hl (by decide) rfl (fun ls hl => ?_)
            refine lv_iinc (v := x5 + 1) (lv' := [(5, .int (x5 + 1)), (3, .int (x3 + (0 : Int32))), (6, .int ((S.1 110 ((15 : Int32) + x4).toNatClampNeg) - (S.1 110 ((15 : Int32) + x5).toNatClampNeg))), (0, .ref (b + 99)), (1, .int x1), (2, .int x2), (4, .int x4)]) hC.1 hC.2.1 dX10_thirds_145 hl (k := 6) rfl rfl (by decide) rfl (fun ls hl => ?_)
            refine lv_goto (tgt := 47) hC.1 hC.2.1 dX10_thirds_148 (by decide) ?_
            exact IH _ _ _ _ _ _ _ _ _ h hW hS (lv_sub hl [3, 4, 5, 1, 6, 0] rfl)
          · replace h := xt hc h
            exact w_X10_thirds_102 hC hr hag33 IH _ _ _ _ _ _ _ _ _ h hW hS (lv_sub hl [1, 2, 3, 5, 6] rfl)
set_option maxHeartbeats 4000000 in
set_option maxRecDepth 100000 in
theorem w_X10_thirds_33 {p : Program} {l : Launch} {e : Env} {s : State} {m : MethodId} {args : Array Value} {below : List Frame} {meth : Method} {c : Code} {D : va_G} {b : Nat} {cs : Cs3} {r : Int32} {S1 : St} (hC : CX p s m args meth c RX10 cX10_thirds 7 D cs) (hr : meth.sig.returnType = (some .int)) : ∀ (n : Nat) (x1 : Int32) (x2 : Int32) (x3 : Int32) (x4 : Int32) (S : St) (H : Heap) (locs : List Loc) (ls : Array Slot), q_X10_thirds_33 n x1 x2 x3 x4 S = some (r, S1) → Wd D b cs S H → va_S (AA b) s.heap H locs → lv_has ls 7 [(0, .ref (b + 99)), (1, .int x1), (2, .int x2), (3, .int x3), (4, .int x4)] → W p l e rX10_thirds s m args below meth c H locs 0 0 (MQ below (QX D b cs (some (.int r)) S1) args s 0 0 (AA b)) (F0 m 33 ls []) := by
  intro n
  induction n with
  | zero =>
    intro x1 x2 x3 x4 S H locs ls h
    exact absurd h (by rw [q_X10_thirds_33]; exact fun q => nomatch q)
  | succ n IH =>
    intro x1 x2 x3 x4 S H locs ls h hW hS hl
    rw [q_X10_thirds_33] at h
    refine lv_iload hC.1 hC.2.1 dX10_thirds_33 (lv_at hl 4 rfl) ?_
    refine lv_aload_n hC.1 hC.2.1 dX10_thirds_35 rfl (lv_at hl 0 rfl) ?_
    refine x_get (C := RX10) (T := TX10) (N := 27) (v := _) hC hW 99 (by decide) rfl rfl uX10 10 (by decide) fl_X10_13 rfl rfl dX10_thirds_36 ?_
    refine lv_iconst (v := 1) hC.1 hC.2.1 dX10_thirds_39 (by decide) ?_
    obtain ⟨hi, h⟩ := xg h
    refine x_iald hC hW 101 (by decide) rfl hi dX10_thirds_40 ?_
    refine lv_icmp_ge (tgt := 157) hC.1 hC.2.1 dX10_thirds_41 (by decide) (fun hc => ?_) (fun hc => ?_)
    · replace h := xt hc h
      refine lv_iload_n hC.1 hC.2.1 dX10_thirds_157 rfl (lv_at hl 3 rfl) ?_
      obtain ⟨rfl, rfl⟩ := xr h
      exact x_iret hC hr hW hS dX10_thirds_158
    · replace h := xf hc h
      refine lv_iconst (v := 0) hC.1 hC.2.1 dX10_thirds_44 (by decide) ?_
      refine lv_istore (lv' := [(5, .int (0 : Int32)), (0, .ref (b + 99)), (1, .int x1), (2, .int x2), (3, .int x3), (4, .int x4)]) hC.1 hC.2.1 dX10_thirds_45 hl (by decide) rfl (fun ls hl => ?_)
      exact w_X10_thirds_47 hC hr IH _ _ _ _ _ _ _ _ _ _ h hW hS (lv_sub hl [1, 2, 3, 4, 5, 0] rfl)
set_option maxHeartbeats 4000000 in
set_option maxRecDepth 100000 in
theorem c_X10_thirds (l : Launch) (D : va_G) (b : Nat) (cs : Cs3) (x1 : Int32) (x2 : Int32) (S S1 : St) (r : Int32) (h : p_X10_thirds x1 x2 S = some (r, S1)) : Ct l yX10_thirds cX10_thirds 7 (some .int) rX10_thirds D b cs [.ref (b + 99), .int x1, .int x2] S (some (.int r)) S1 := by
  refine x_met (by decide +kernel) (Nat.le_of_ble_eq_true rfl) ?_
  intro p e s m below meth c ls hC hr hW hS hl
  have hl : lv_has ls 7 [(0, .ref (b + 99)), (1, .int x1), (2, .int x2)] := hl
  rw [p_X10_thirds] at h
  refine lv_aload_n hC.1 hC.2.1 dX10_thirds_0 rfl (lv_at hl 0 rfl) ?_
  refine lv_iconst (v := 0) hC.1 hC.2.1 dX10_thirds_1 (by decide) ?_
  refine x_puti (C := RX10) (T := TX10) (N := 27) (ty := .int) hC hW hS 99 (by decide) rfl rfl uX10 tyX10 tyX10_ok nmX10 0 (by decide) fl_X10_65 rfl (by decide +kernel) rfl rfl rfl dX10_thirds_2 (fun H locs hW hS => ?_)
  refine lv_aload_n hC.1 hC.2.1 dX10_thirds_5 rfl (lv_at hl 0 rfl) ?_
  refine lv_iload_n hC.1 hC.2.1 dX10_thirds_6 rfl (lv_at hl 1 rfl) ?_
  obtain ⟨⟨q7_r, q7_S⟩, hq, h⟩ := xb h
  try dsimp only at h
  refine x_callV (T := TX10) (N := 27) (As := [.int x1]) (rest := []) hC hW hS 99 (c_X10_isBoy l D b cs _ _ _ _ hq) (by decide) rfl rfl mi_X10_isBoy in_X10_isBoy sl_X10_isBoy ml_X10_160 ⟨rfl, rfl⟩ ⟨Nat.le_of_ble_eq_true rfl, Nat.le_of_ble_eq_true rfl⟩ ⟨Nat.zero_le _, Nat.zero_le _⟩ rfl rfl hl.1 (Nat.le_of_ble_eq_true rfl) dX10_thirds_7 (fun H locs hW hS => ?_)
  refine lv_if_eq (tgt := 26) hC.1 hC.2.1 dX10_thirds_10 (by decide) (fun hc => ?_) (fun hc => ?_)
  · replace h := xt hc h
    refine lv_iconst (v := -1) hC.1 hC.2.1 dX10_thirds_26 (by decide) ?_
    obtain ⟨rfl, rfl⟩ := xr h
    exact x_iret hC hr hW hS dX10_thirds_27
  · replace h := xf hc h
    refine lv_aload_n hC.1 hC.2.1 dX10_thirds_13 rfl (lv_at hl 0 rfl) ?_
    refine lv_iload_n hC.1 hC.2.1 dX10_thirds_14 rfl (lv_at hl 2 rfl) ?_
    obtain ⟨⟨q15_r, q15_S⟩, hq, h⟩ := xb h
    try dsimp only at h
    refine x_callV (T := TX10) (N := 27) (As := [.int x2]) (rest := []) hC hW hS 99 (c_X10_isBoy l D b cs _ _ _ _ hq) (by decide) rfl rfl mi_X10_isBoy in_X10_isBoy sl_X10_isBoy ml_X10_160 ⟨rfl, rfl⟩ ⟨Nat.le_of_ble_eq_true rfl, Nat.le_of_ble_eq_true rfl⟩ ⟨Nat.zero_le _, Nat.zero_le _⟩ rfl rfl hl.1 (Nat.le_of_ble_eq_true rfl) dX10_thirds_15 (fun H locs hW hS => ?_)
    refine lv_if_eq (tgt := 26) hC.1 hC.2.1 dX10_thirds_18 (by decide) (fun hc => ?_) (fun hc => ?_)
    · replace h := xt hc h
      refine lv_iconst (v := -1) hC.1 hC.2.1 dX10_thirds_26 (by decide) ?_
      obtain ⟨rfl, rfl⟩ := xr h
      exact x_iret hC hr hW hS dX10_thirds_27
    · replace h := xf hc h
      refine lv_iload_n hC.1 hC.2.1 dX10_thirds_21 rfl (lv_at hl 1 rfl) ?_
      refine lv_iload_n hC.1 hC.2.1 dX10_thirds_22 rfl (lv_at hl 2 rfl) ?_
      refine lv_icmp_ne (tgt := 28) hC.1 hC.2.1 dX10_thirds_23 (by decide) (fun hc => ?_) (fun hc => ?_)
      · replace h := xf hc h
        refine lv_iconst (v := 0) hC.1 hC.2.1 dX10_thirds_28 (by decide) ?_
        refine lv_istore_n (lv' := [(3, .int (0 : Int32)), (0, .ref (b + 99)), (1, .int x1), (2, .int x2)]) hC.1 hC.2.1 dX10_thirds_29 rfl hl (by decide) rfl (fun ls hl => ?_)
        refine lv_iconst (v := 0) hC.1 hC.2.1 dX10_thirds_30 (by decide) ?_
        refine lv_istore (lv' := [(4, .int (0 : Int32)), (3, .int (0 : Int32)), (0, .ref (b + 99)), (1, .int x1), (2, .int x2)]) hC.1 hC.2.1 dX10_thirds_31 hl (by decide) rfl (fun ls hl => ?_)
        exact w_X10_thirds_33 hC hr _ _ _ _ _ _ _ _ _ h hW hS (lv_sub hl [2, 3, 4, 1, 0] rfl)
      · replace h := xt hc h
        refine lv_iconst (v := -1) hC.1 hC.2.1 dX10_thirds_26 (by decide) ?_
        obtain ⟨rfl, rfl⟩ := xr h
        exact x_iret hC hr hW hS dX10_thirds_27
theorem dX10_power_0 : decode cX10_power 0 = .ok (.iconst 1, 1) := by decide +kernel
theorem dX10_power_1 : decode cX10_power 1 = .ok (.istore_n 2, 1) := by decide +kernel
theorem dX10_power_2 : decode cX10_power 2 = .ok (.iconst 0, 1) := by decide +kernel
theorem dX10_power_3 : decode cX10_power 3 = .ok (.istore_n 3, 1) := by decide +kernel
theorem dX10_power_4 : decode cX10_power 4 = .ok (.iload_n 3, 1) := by decide +kernel
theorem dX10_power_5 : decode cX10_power 5 = .ok (.iload_n 1, 1) := by decide +kernel
theorem dX10_power_6 : decode cX10_power 6 = .ok (.if_icmp .ge 13, 3) := by decide +kernel
theorem dX10_power_9 : decode cX10_power 9 = .ok (.iload_n 2, 1) := by decide +kernel
theorem dX10_power_10 : decode cX10_power 10 = .ok (.iload_n 0, 1) := by decide +kernel
theorem dX10_power_11 : decode cX10_power 11 = .ok (.imul, 1) := by decide +kernel
theorem dX10_power_12 : decode cX10_power 12 = .ok (.istore_n 2, 1) := by decide +kernel
theorem dX10_power_13 : decode cX10_power 13 = .ok (.iinc 3 1, 3) := by decide +kernel
theorem dX10_power_16 : decode cX10_power 16 = .ok (.goto (-12), 3) := by decide +kernel
theorem dX10_power_19 : decode cX10_power 19 = .ok (.iload_n 2, 1) := by decide +kernel
theorem dX10_power_20 : decode cX10_power 20 = .ok (.ireturn, 1) := by decide +kernel
abbrev rX10_power : Room := { frames := 0, cells := 0, slots := 0, locals := 0 }
set_option maxHeartbeats 4000000 in
set_option maxRecDepth 100000 in
theorem w_X10_power_4 {p : Program} {l : Launch} {e : Env} {s : State} {m : MethodId} {args : Array Value} {below : List Frame} {meth : Method} {c : Code} {D : va_G} {b : Nat} {cs : Cs3} {r : Int32} {S1 : St} (hC : CX p s m args meth c RX10 cX10_power 4 D cs) (hr : meth.sig.returnType = (some .int)) : ∀ (n : Nat) (x0 : Int32) (x1 : Int32) (x2 : Int32) (x3 : Int32) (S : St) (H : Heap) (locs : List Loc) (ls : Array Slot), q_X10_power_4 n x0 x1 x2 x3 S = some (r, S1) → Wd D b cs S H → va_S (AA b) s.heap H locs → lv_has ls 4 [(0, .int x0), (1, .int x1), (2, .int x2), (3, .int x3)] → W p l e rX10_power s m args below meth c H locs 0 0 (MQ below (QX D b cs (some (.int r)) S1) args s 0 0 (AA b)) (F0 m 4 ls []) := by
  intro n
  induction n with
  | zero =>
    intro x0 x1 x2 x3 S H locs ls h
    exact absurd h (by rw [q_X10_power_4]; exact fun q => nomatch q)
  | succ n IH =>
    intro x0 x1 x2 x3 S H locs ls h hW hS hl
    rw [q_X10_power_4] at h
    refine lv_iload_n hC.1 hC.2.1 dX10_power_4 rfl (lv_at hl 3 rfl) ?_
    refine lv_iload_n hC.1 hC.2.1 dX10_power_5 rfl (lv_at hl 1 rfl) ?_
    refine lv_icmp_ge (tgt := 19) hC.1 hC.2.1 dX10_power_6 (by decide) (fun hc => ?_) (fun hc => ?_)
    · replace h := xt hc h
      refine lv_iload_n hC.1 hC.2.1 dX10_power_19 rfl (lv_at hl 2 rfl) ?_
      obtain ⟨rfl, rfl⟩ := xr h
      exact x_iret hC hr hW hS dX10_power_20
    · replace h := xf hc h
      refine lv_iload_n hC.1 hC.2.1 dX10_power_9 rfl (lv_at hl 2 rfl) ?_
      refine lv_iload_n hC.1 hC.2.1 dX10_power_10 rfl (lv_at hl 0 rfl) ?_
      refine lv_imul hC.1 hC.2.1 dX10_power_11 ?_
      refine lv_istore_n (lv' := [(2, .int (x2 * x0)), (0, .int x0), (1, .int x1), (3, .int x3)]) hC.1 hC.2.1 dX10_power_12 rfl hl (by decide) rfl (fun ls hl => ?_)
      refine lv_iinc (v := x3 + 1) (lv' := [(3, .int (x3 + 1)), (2, .int (x2 * x0)), (0, .int x0), (1, .int x1)]) hC.1 hC.2.1 dX10_power_13 hl (k := 3) rfl rfl (by decide) rfl (fun ls hl => ?_)
      refine lv_goto (tgt := 4) hC.1 hC.2.1 dX10_power_16 (by decide) ?_
      exact IH _ _ _ _ _ _ _ _ h hW hS (lv_sub hl [2, 3, 1, 0] rfl)
set_option maxHeartbeats 4000000 in
set_option maxRecDepth 100000 in
theorem c_X10_power (l : Launch) (D : va_G) (b : Nat) (cs : Cs3) (x0 : Int32) (x1 : Int32) (S S1 : St) (r : Int32) (h : p_X10_power x0 x1 S = some (r, S1)) : Ct l yX10_power cX10_power 4 (some .int) rX10_power D b cs [.int x0, .int x1] S (some (.int r)) S1 := by
  refine x_met (by decide +kernel) (Nat.le_of_ble_eq_true rfl) ?_
  intro p e s m below meth c ls hC hr hW hS hl
  have hl : lv_has ls 4 [(0, .int x0), (1, .int x1)] := hl
  rw [p_X10_power] at h
  refine lv_iconst (v := 1) hC.1 hC.2.1 dX10_power_0 (by decide) ?_
  refine lv_istore_n (lv' := [(2, .int (1 : Int32)), (0, .int x0), (1, .int x1)]) hC.1 hC.2.1 dX10_power_1 rfl hl (by decide) rfl (fun ls hl => ?_)
  refine lv_iconst (v := 0) hC.1 hC.2.1 dX10_power_2 (by decide) ?_
  refine lv_istore_n (lv' := [(3, .int (0 : Int32)), (2, .int (1 : Int32)), (0, .int x0), (1, .int x1)]) hC.1 hC.2.1 dX10_power_3 rfl hl (by decide) rfl (fun ls hl => ?_)
  exact w_X10_power_4 hC hr _ _ _ _ _ _ _ _ _ h hW hS (lv_sub hl [2, 3, 1, 0] rfl)
theorem dX10_gcd_0 : decode cX10_gcd 0 = .ok (.iload_n 0, 1) := by decide +kernel
theorem dX10_gcd_1 : decode cX10_gcd 1 = .ok (.istore_n 2, 1) := by decide +kernel
theorem dX10_gcd_2 : decode cX10_gcd 2 = .ok (.iload_n 1, 1) := by decide +kernel
theorem dX10_gcd_3 : decode cX10_gcd 3 = .ok (.istore_n 3, 1) := by decide +kernel
theorem dX10_gcd_4 : decode cX10_gcd 4 = .ok (.iload_n 3, 1) := by decide +kernel
theorem dX10_gcd_5 : decode cX10_gcd 5 = .ok (.ifCond .eq 16, 3) := by decide +kernel
theorem dX10_gcd_8 : decode cX10_gcd 8 = .ok (.iload_n 2, 1) := by decide +kernel
theorem dX10_gcd_9 : decode cX10_gcd 9 = .ok (.iload_n 3, 1) := by decide +kernel
theorem dX10_gcd_10 : decode cX10_gcd 10 = .ok (.irem, 1) := by decide +kernel
theorem dX10_gcd_11 : decode cX10_gcd 11 = .ok (.istore 4, 2) := by decide +kernel
theorem dX10_gcd_13 : decode cX10_gcd 13 = .ok (.iload_n 3, 1) := by decide +kernel
theorem dX10_gcd_14 : decode cX10_gcd 14 = .ok (.istore_n 2, 1) := by decide +kernel
theorem dX10_gcd_15 : decode cX10_gcd 15 = .ok (.iload 4, 2) := by decide +kernel
theorem dX10_gcd_17 : decode cX10_gcd 17 = .ok (.istore_n 3, 1) := by decide +kernel
theorem dX10_gcd_18 : decode cX10_gcd 18 = .ok (.goto (-14), 3) := by decide +kernel
theorem dX10_gcd_21 : decode cX10_gcd 21 = .ok (.iload_n 2, 1) := by decide +kernel
theorem dX10_gcd_22 : decode cX10_gcd 22 = .ok (.ireturn, 1) := by decide +kernel
abbrev rX10_gcd : Room := { frames := 0, cells := 0, slots := 0, locals := 0 }
set_option maxHeartbeats 4000000 in
set_option maxRecDepth 100000 in
theorem w_X10_gcd_4 {p : Program} {l : Launch} {e : Env} {s : State} {m : MethodId} {args : Array Value} {below : List Frame} {meth : Method} {c : Code} {D : va_G} {b : Nat} {cs : Cs3} {r : Int32} {S1 : St} (hC : CX p s m args meth c RX10 cX10_gcd 5 D cs) (hr : meth.sig.returnType = (some .int)) : ∀ (n : Nat) (x2 : Int32) (x3 : Int32) (S : St) (H : Heap) (locs : List Loc) (ls : Array Slot), q_X10_gcd_4 n x2 x3 S = some (r, S1) → Wd D b cs S H → va_S (AA b) s.heap H locs → lv_has ls 5 [(2, .int x2), (3, .int x3)] → W p l e rX10_gcd s m args below meth c H locs 0 0 (MQ below (QX D b cs (some (.int r)) S1) args s 0 0 (AA b)) (F0 m 4 ls []) := by
  intro n
  induction n with
  | zero =>
    intro x2 x3 S H locs ls h
    exact absurd h (by rw [q_X10_gcd_4]; exact fun q => nomatch q)
  | succ n IH =>
    intro x2 x3 S H locs ls h hW hS hl
    rw [q_X10_gcd_4] at h
    refine lv_iload_n hC.1 hC.2.1 dX10_gcd_4 rfl (lv_at hl 1 rfl) ?_
    refine lv_if_eq (tgt := 21) hC.1 hC.2.1 dX10_gcd_5 (by decide) (fun hc => ?_) (fun hc => ?_)
    · replace h := xt hc h
      refine lv_iload_n hC.1 hC.2.1 dX10_gcd_21 rfl (lv_at hl 0 rfl) ?_
      obtain ⟨rfl, rfl⟩ := xr h
      exact x_iret hC hr hW hS dX10_gcd_22
    · replace h := xf hc h
      refine lv_iload_n hC.1 hC.2.1 dX10_gcd_8 rfl (lv_at hl 0 rfl) ?_
      refine lv_iload_n hC.1 hC.2.1 dX10_gcd_9 rfl (lv_at hl 1 rfl) ?_
      obtain ⟨hne, h⟩ := xg h
      refine lv_irem hC.1 hC.2.1 dX10_gcd_10 hne ?_
      refine lv_istore (lv' := [(4, .int (x2 - x2 / x3 * x3)), (2, .int x2), (3, .int x3)]) hC.1 hC.2.1 dX10_gcd_11 hl (by decide) rfl (fun ls hl => ?_)
      refine lv_iload_n hC.1 hC.2.1 dX10_gcd_13 rfl (lv_at hl 2 rfl) ?_
      refine lv_istore_n (lv' := [(2, .int x3), (4, .int (x2 - x2 / x3 * x3)), (3, .int x3)]) hC.1 hC.2.1 dX10_gcd_14 rfl hl (by decide) rfl (fun ls hl => ?_)
      refine lv_iload hC.1 hC.2.1 dX10_gcd_15 (lv_at hl 1 rfl) ?_
      refine lv_istore_n (lv' := [(3, .int (x2 - x2 / x3 * x3)), (2, .int x3), (4, .int (x2 - x2 / x3 * x3))]) hC.1 hC.2.1 dX10_gcd_17 rfl hl (by decide) rfl (fun ls hl => ?_)
      refine lv_goto (tgt := 4) hC.1 hC.2.1 dX10_gcd_18 (by decide) ?_
      exact IH _ _ _ _ _ _ h hW hS (lv_sub hl [1, 0] rfl)
set_option maxHeartbeats 4000000 in
set_option maxRecDepth 100000 in
theorem c_X10_gcd (l : Launch) (D : va_G) (b : Nat) (cs : Cs3) (x0 : Int32) (x1 : Int32) (S S1 : St) (r : Int32) (h : p_X10_gcd x0 x1 S = some (r, S1)) : Ct l yX10_gcd cX10_gcd 5 (some .int) rX10_gcd D b cs [.int x0, .int x1] S (some (.int r)) S1 := by
  refine x_met (by decide +kernel) (Nat.le_of_ble_eq_true rfl) ?_
  intro p e s m below meth c ls hC hr hW hS hl
  have hl : lv_has ls 5 [(0, .int x0), (1, .int x1)] := hl
  rw [p_X10_gcd] at h
  refine lv_iload_n hC.1 hC.2.1 dX10_gcd_0 rfl (lv_at hl 0 rfl) ?_
  refine lv_istore_n (lv' := [(2, .int x0), (0, .int x0), (1, .int x1)]) hC.1 hC.2.1 dX10_gcd_1 rfl hl (by decide) rfl (fun ls hl => ?_)
  refine lv_iload_n hC.1 hC.2.1 dX10_gcd_2 rfl (lv_at hl 2 rfl) ?_
  refine lv_istore_n (lv' := [(3, .int x1), (2, .int x0), (0, .int x0), (1, .int x1)]) hC.1 hC.2.1 dX10_gcd_3 rfl hl (by decide) rfl (fun ls hl => ?_)
  exact w_X10_gcd_4 hC hr _ _ _ _ _ _ _ h hW hS (lv_sub hl [1, 0] rfl)
theorem dX10_odds_0 : decode cX10_odds 0 = .ok (.aload_n 0, 1) := by decide +kernel
theorem dX10_odds_1 : decode cX10_odds 1 = .ok (.iconst 0, 1) := by decide +kernel
theorem dX10_odds_2 : decode cX10_odds 2 = .ok (.putfield 65, 3) := by decide +kernel
theorem dX10_odds_5 : decode cX10_odds 5 = .ok (.iload_n 1, 1) := by decide +kernel
theorem dX10_odds_6 : decode cX10_odds 6 = .ok (.iconst 0, 1) := by decide +kernel
theorem dX10_odds_7 : decode cX10_odds 7 = .ok (.bipush 10, 2) := by decide +kernel
theorem dX10_odds_9 : decode cX10_odds 9 = .ok (.invokestatic 69, 3) := by decide +kernel
theorem dX10_odds_12 : decode cX10_odds 12 = .ok (.ifCond .eq 21, 3) := by decide +kernel
theorem dX10_odds_15 : decode cX10_odds 15 = .ok (.iload_n 2, 1) := by decide +kernel
theorem dX10_odds_16 : decode cX10_odds 16 = .ok (.iconst 0, 1) := by decide +kernel
theorem dX10_odds_17 : decode cX10_odds 17 = .ok (.iconst 5, 1) := by decide +kernel
theorem dX10_odds_18 : decode cX10_odds 18 = .ok (.invokestatic 69, 3) := by decide +kernel
theorem dX10_odds_21 : decode cX10_odds 21 = .ok (.ifCond .eq 12, 3) := by decide +kernel
theorem dX10_odds_24 : decode cX10_odds 24 = .ok (.iload_n 3, 1) := by decide +kernel
theorem dX10_odds_25 : decode cX10_odds 25 = .ok (.iconst 0, 1) := by decide +kernel
theorem dX10_odds_26 : decode cX10_odds 26 = .ok (.iconst 1, 1) := by decide +kernel
theorem dX10_odds_27 : decode cX10_odds 27 = .ok (.invokestatic 69, 3) := by decide +kernel
theorem dX10_odds_30 : decode cX10_odds 30 = .ok (.ifCond .ne 5, 3) := by decide +kernel
theorem dX10_odds_33 : decode cX10_odds 33 = .ok (.iconst (-1), 1) := by decide +kernel
theorem dX10_odds_34 : decode cX10_odds 34 = .ok (.ireturn, 1) := by decide +kernel
theorem dX10_odds_35 : decode cX10_odds 35 = .ok (.iconst 0, 1) := by decide +kernel
theorem dX10_odds_36 : decode cX10_odds 36 = .ok (.istore 4, 2) := by decide +kernel
theorem dX10_odds_38 : decode cX10_odds 38 = .ok (.iconst 0, 1) := by decide +kernel
theorem dX10_odds_39 : decode cX10_odds 39 = .ok (.istore 5, 2) := by decide +kernel
theorem dX10_odds_41 : decode cX10_odds 41 = .ok (.iload 5, 2) := by decide +kernel
theorem dX10_odds_43 : decode cX10_odds 43 = .ok (.aload_n 0, 1) := by decide +kernel
theorem dX10_odds_44 : decode cX10_odds 44 = .ok (.getfield 13, 3) := by decide +kernel
theorem dX10_odds_47 : decode cX10_odds 47 = .ok (.iconst 2, 1) := by decide +kernel
theorem dX10_odds_48 : decode cX10_odds 48 = .ok (.iaload, 1) := by decide +kernel
theorem dX10_odds_49 : decode cX10_odds 49 = .ok (.if_icmp .ge 38, 3) := by decide +kernel
theorem dX10_odds_52 : decode cX10_odds 52 = .ok (.iload 4, 2) := by decide +kernel
theorem dX10_odds_54 : decode cX10_odds 54 = .ok (.aload_n 0, 1) := by decide +kernel
theorem dX10_odds_55 : decode cX10_odds 55 = .ok (.getfield 40, 3) := by decide +kernel
theorem dX10_odds_58 : decode cX10_odds 58 = .ok (.iconst 5, 1) := by decide +kernel
theorem dX10_odds_59 : decode cX10_odds 59 = .ok (.iload 5, 2) := by decide +kernel
theorem dX10_odds_61 : decode cX10_odds 61 = .ok (.iadd, 1) := by decide +kernel
theorem dX10_odds_62 : decode cX10_odds 62 = .ok (.iaload, 1) := by decide +kernel
theorem dX10_odds_63 : decode cX10_odds 63 = .ok (.aload_n 0, 1) := by decide +kernel
theorem dX10_odds_64 : decode cX10_odds 64 = .ok (.getfield 34, 3) := by decide +kernel
theorem dX10_odds_67 : decode cX10_odds 67 = .ok (.iload 5, 2) := by decide +kernel
theorem dX10_odds_69 : decode cX10_odds 69 = .ok (.iaload, 1) := by decide +kernel
theorem dX10_odds_70 : decode cX10_odds 70 = .ok (.if_icmp .ge 7, 3) := by decide +kernel
theorem dX10_odds_73 : decode cX10_odds 73 = .ok (.iconst 1, 1) := by decide +kernel
theorem dX10_odds_74 : decode cX10_odds 74 = .ok (.goto 4, 3) := by decide +kernel
theorem dX10_odds_77 : decode cX10_odds 77 = .ok (.iconst 0, 1) := by decide +kernel
theorem dX10_odds_78 : decode cX10_odds 78 = .ok (.iadd, 1) := by decide +kernel
theorem dX10_odds_79 : decode cX10_odds 79 = .ok (.istore 4, 2) := by decide +kernel
theorem dX10_odds_81 : decode cX10_odds 81 = .ok (.iinc 5 1, 3) := by decide +kernel
theorem dX10_odds_84 : decode cX10_odds 84 = .ok (.goto (-43), 3) := by decide +kernel
theorem dX10_odds_87 : decode cX10_odds 87 = .ok (.iconst 0, 1) := by decide +kernel
theorem dX10_odds_88 : decode cX10_odds 88 = .ok (.istore 5, 2) := by decide +kernel
theorem dX10_odds_90 : decode cX10_odds 90 = .ok (.iconst 0, 1) := by decide +kernel
theorem dX10_odds_91 : decode cX10_odds 91 = .ok (.istore 6, 2) := by decide +kernel
theorem dX10_odds_93 : decode cX10_odds 93 = .ok (.iload 6, 2) := by decide +kernel
theorem dX10_odds_95 : decode cX10_odds 95 = .ok (.iconst 1, 1) := by decide +kernel
theorem dX10_odds_96 : decode cX10_odds 96 = .ok (.iload 4, 2) := by decide +kernel
theorem dX10_odds_98 : decode cX10_odds 98 = .ok (.ishl, 1) := by decide +kernel
theorem dX10_odds_99 : decode cX10_odds 99 = .ok (.if_icmp .ge 52, 3) := by decide +kernel
theorem dX10_odds_102 : decode cX10_odds 102 = .ok (.iload 5, 2) := by decide +kernel
theorem dX10_odds_104 : decode cX10_odds 104 = .ok (.iload 6, 2) := by decide +kernel
theorem dX10_odds_106 : decode cX10_odds 106 = .ok (.invokestatic 167, 3) := by decide +kernel
theorem dX10_odds_109 : decode cX10_odds 109 = .ok (.iload_n 2, 1) := by decide +kernel
theorem dX10_odds_110 : decode cX10_odds 110 = .ok (.if_icmp .gt 31, 3) := by decide +kernel
theorem dX10_odds_113 : decode cX10_odds 113 = .ok (.iload_n 1, 1) := by decide +kernel
theorem dX10_odds_114 : decode cX10_odds 114 = .ok (.iload 6, 2) := by decide +kernel
theorem dX10_odds_116 : decode cX10_odds 116 = .ok (.invokestatic 167, 3) := by decide +kernel
theorem dX10_odds_119 : decode cX10_odds 119 = .ok (.invokestatic 195, 3) := by decide +kernel
theorem dX10_odds_122 : decode cX10_odds 122 = .ok (.bipush 10, 2) := by decide +kernel
theorem dX10_odds_124 : decode cX10_odds 124 = .ok (.iload_n 1, 1) := by decide +kernel
theorem dX10_odds_125 : decode cX10_odds 125 = .ok (.isub, 1) := by decide +kernel
theorem dX10_odds_126 : decode cX10_odds 126 = .ok (.iload 4, 2) := by decide +kernel
theorem dX10_odds_128 : decode cX10_odds 128 = .ok (.iload 6, 2) := by decide +kernel
theorem dX10_odds_130 : decode cX10_odds 130 = .ok (.invokestatic 167, 3) := by decide +kernel
theorem dX10_odds_133 : decode cX10_odds 133 = .ok (.isub, 1) := by decide +kernel
theorem dX10_odds_134 : decode cX10_odds 134 = .ok (.invokestatic 195, 3) := by decide +kernel
theorem dX10_odds_137 : decode cX10_odds 137 = .ok (.imul, 1) := by decide +kernel
theorem dX10_odds_138 : decode cX10_odds 138 = .ok (.goto 4, 3) := by decide +kernel
theorem dX10_odds_141 : decode cX10_odds 141 = .ok (.iconst 0, 1) := by decide +kernel
theorem dX10_odds_142 : decode cX10_odds 142 = .ok (.iadd, 1) := by decide +kernel
theorem dX10_odds_143 : decode cX10_odds 143 = .ok (.istore 5, 2) := by decide +kernel
theorem dX10_odds_145 : decode cX10_odds 145 = .ok (.iinc 6 1, 3) := by decide +kernel
theorem dX10_odds_148 : decode cX10_odds 148 = .ok (.goto (-55), 3) := by decide +kernel
theorem dX10_odds_151 : decode cX10_odds 151 = .ok (.bipush 10, 2) := by decide +kernel
theorem dX10_odds_153 : decode cX10_odds 153 = .ok (.iload 4, 2) := by decide +kernel
theorem dX10_odds_155 : decode cX10_odds 155 = .ok (.invokestatic 195, 3) := by decide +kernel
theorem dX10_odds_158 : decode cX10_odds 158 = .ok (.istore 6, 2) := by decide +kernel
theorem dX10_odds_160 : decode cX10_odds 160 = .ok (.iload 5, 2) := by decide +kernel
theorem dX10_odds_162 : decode cX10_odds 162 = .ok (.iload 6, 2) := by decide +kernel
theorem dX10_odds_164 : decode cX10_odds 164 = .ok (.invokestatic 198, 3) := by decide +kernel
theorem dX10_odds_167 : decode cX10_odds 167 = .ok (.istore 7, 2) := by decide +kernel
theorem dX10_odds_169 : decode cX10_odds 169 = .ok (.iload_n 3, 1) := by decide +kernel
theorem dX10_odds_170 : decode cX10_odds 170 = .ok (.ifCond .ne 11, 3) := by decide +kernel
theorem dX10_odds_173 : decode cX10_odds 173 = .ok (.iload 5, 2) := by decide +kernel
theorem dX10_odds_175 : decode cX10_odds 175 = .ok (.iload 7, 2) := by decide +kernel
theorem dX10_odds_177 : decode cX10_odds 177 = .ok (.idiv, 1) := by decide +kernel
theorem dX10_odds_178 : decode cX10_odds 178 = .ok (.goto 8, 3) := by decide +kernel
theorem dX10_odds_181 : decode cX10_odds 181 = .ok (.iload 6, 2) := by decide +kernel
theorem dX10_odds_183 : decode cX10_odds 183 = .ok (.iload 7, 2) := by decide +kernel
theorem dX10_odds_185 : decode cX10_odds 185 = .ok (.idiv, 1) := by decide +kernel
theorem dX10_odds_186 : decode cX10_odds 186 = .ok (.ireturn, 1) := by decide +kernel
abbrev rX10_odds : Room := { frames := 1, cells := 0, slots := 0, locals := 24 }
set_option maxHeartbeats 4000000 in
set_option maxRecDepth 100000 in
theorem w_X10_odds_93 {p : Program} {l : Launch} {e : Env} {s : State} {m : MethodId} {args : Array Value} {below : List Frame} {meth : Method} {c : Code} {D : va_G} {b : Nat} {cs : Cs3} {r : Int32} {S1 : St} (hC : CX p s m args meth c RX10 cX10_odds 8 D cs) (hr : meth.sig.returnType = (some .int)) : ∀ (n : Nat) (x1 : Int32) (x2 : Int32) (x3 : Int32) (x4 : Int32) (x5 : Int32) (x6 : Int32) (S : St) (H : Heap) (locs : List Loc) (ls : Array Slot), q_X10_odds_93 n x1 x2 x3 x4 x5 x6 S = some (r, S1) → Wd D b cs S H → va_S (AA b) s.heap H locs → lv_has ls 8 [(0, .ref (b + 99)), (1, .int x1), (2, .int x2), (3, .int x3), (4, .int x4), (5, .int x5), (6, .int x6)] → W p l e rX10_odds s m args below meth c H locs 0 0 (MQ below (QX D b cs (some (.int r)) S1) args s 0 0 (AA b)) (F0 m 93 ls []) := by
  intro n
  induction n with
  | zero =>
    intro x1 x2 x3 x4 x5 x6 S H locs ls h
    exact absurd h (by rw [q_X10_odds_93]; exact fun q => nomatch q)
  | succ n IH =>
    intro x1 x2 x3 x4 x5 x6 S H locs ls h hW hS hl
    rw [q_X10_odds_93] at h
    refine lv_iload hC.1 hC.2.1 dX10_odds_93 (lv_at hl 6 rfl) ?_
    refine lv_iconst (v := 1) hC.1 hC.2.1 dX10_odds_95 (by decide) ?_
    refine lv_iload hC.1 hC.2.1 dX10_odds_96 (lv_at hl 4 rfl) ?_
    refine lv_ishl hC.1 hC.2.1 dX10_odds_98 ?_
    refine lv_icmp_ge (tgt := 151) hC.1 hC.2.1 dX10_odds_99 (by decide) (fun hc => ?_) (fun hc => ?_)
    · replace h := xt hc h
      refine lv_bipush (v := 10) hC.1 hC.2.1 dX10_odds_151 (by decide) ?_
      refine lv_iload hC.1 hC.2.1 dX10_odds_153 (lv_at hl 4 rfl) ?_
      obtain ⟨⟨q155_r, q155_S⟩, hq, h⟩ := xb h
      try dsimp only at h
      refine x_callS (As := [.int (10 : Int32), .int x4]) (rest := []) hC hW hS (c_X10_power l D b cs _ _ _ _ _ hq) mi_X10_power st_X10_power ml_X10_195 ⟨rfl, rfl⟩ ⟨Nat.le_of_ble_eq_true rfl, Nat.le_of_ble_eq_true rfl⟩ ⟨Nat.zero_le _, Nat.zero_le _⟩ rfl rfl hl.1 (Nat.le_of_ble_eq_true rfl) dX10_odds_155 (fun H locs hW hS => ?_)
      refine lv_istore (lv' := [(6, .int q155_r), (0, .ref (b + 99)), (1, .int x1), (2, .int x2), (3, .int x3), (4, .int x4), (5, .int x5)]) hC.1 hC.2.1 dX10_odds_158 hl (by decide) rfl (fun ls hl => ?_)
      refine lv_iload hC.1 hC.2.1 dX10_odds_160 (lv_at hl 6 rfl) ?_
      refine lv_iload hC.1 hC.2.1 dX10_odds_162 (lv_at hl 0 rfl) ?_
      obtain ⟨⟨q164_r, q164_S⟩, hq, h⟩ := xb h
      try dsimp only at h
      refine x_callS (As := [.int x5, .int q155_r]) (rest := []) hC hW hS (c_X10_gcd l D b cs _ _ _ _ _ hq) mi_X10_gcd st_X10_gcd ml_X10_198 ⟨rfl, rfl⟩ ⟨Nat.le_of_ble_eq_true rfl, Nat.le_of_ble_eq_true rfl⟩ ⟨Nat.zero_le _, Nat.zero_le _⟩ rfl rfl hl.1 (Nat.le_of_ble_eq_true rfl) dX10_odds_164 (fun H locs hW hS => ?_)
      refine lv_istore (lv' := [(7, .int q164_r), (6, .int q155_r), (0, .ref (b + 99)), (1, .int x1), (2, .int x2), (3, .int x3), (4, .int x4), (5, .int x5)]) hC.1 hC.2.1 dX10_odds_167 hl (by decide) rfl (fun ls hl => ?_)
      refine lv_iload_n hC.1 hC.2.1 dX10_odds_169 rfl (lv_at hl 5 rfl) ?_
      refine lv_if_ne (tgt := 181) hC.1 hC.2.1 dX10_odds_170 (by decide) (fun hc => ?_) (fun hc => ?_)
      · replace h := xf hc h
        refine lv_iload hC.1 hC.2.1 dX10_odds_181 (lv_at hl 1 rfl) ?_
        refine lv_iload hC.1 hC.2.1 dX10_odds_183 (lv_at hl 0 rfl) ?_
        obtain ⟨hne, h⟩ := xg h
        refine lv_idiv hC.1 hC.2.1 dX10_odds_185 hne ?_
        obtain ⟨rfl, rfl⟩ := xr h
        exact x_iret hC hr hW hS dX10_odds_186
      · replace h := xt hc h
        refine lv_iload hC.1 hC.2.1 dX10_odds_173 (lv_at hl 7 rfl) ?_
        refine lv_iload hC.1 hC.2.1 dX10_odds_175 (lv_at hl 0 rfl) ?_
        obtain ⟨hne, h⟩ := xg h
        refine lv_idiv hC.1 hC.2.1 dX10_odds_177 hne ?_
        refine lv_goto (tgt := 186) hC.1 hC.2.1 dX10_odds_178 (by decide) ?_
        obtain ⟨rfl, rfl⟩ := xr h
        exact x_iret hC hr hW hS dX10_odds_186
    · replace h := xf hc h
      refine lv_iload hC.1 hC.2.1 dX10_odds_102 (lv_at hl 5 rfl) ?_
      refine lv_iload hC.1 hC.2.1 dX10_odds_104 (lv_at hl 6 rfl) ?_
      obtain ⟨⟨q106_r, q106_S⟩, hq, h⟩ := xb h
      try dsimp only at h
      refine x_callS (As := [.int x6]) (rest := [.int x5]) hC hW hS (c_X10_ones l D b cs _ _ _ _ hq) mi_X10_ones st_X10_ones ml_X10_167 ⟨rfl, rfl⟩ ⟨Nat.le_of_ble_eq_true rfl, Nat.le_of_ble_eq_true rfl⟩ ⟨Nat.zero_le _, Nat.zero_le _⟩ rfl rfl hl.1 (Nat.le_of_ble_eq_true rfl) dX10_odds_106 (fun H locs hW hS => ?_)
      refine lv_iload_n hC.1 hC.2.1 dX10_odds_109 rfl (lv_at hl 2 rfl) ?_
      refine lv_icmp_gt (tgt := 141) hC.1 hC.2.1 dX10_odds_110 (by decide) (fun hc => ?_) (fun hc => ?_)
      · replace h := xt hc h
        refine lv_iconst (v := 0) hC.1 hC.2.1 dX10_odds_141 (by decide) ?_
        refine lv_iadd hC.1 hC.2.1 dX10_odds_142 ?_
        refine lv_istore (lv' := [(5, .int (x5 + (0 : Int32))), (0, .ref (b + 99)), (1, .int x1), (2, .int x2), (3, .int x3), (4, .int x4), (6, .int x6)]) hC.1 hC.2.1 dX10_odds_143 hl (by decide) rfl (fun ls hl => ?_)
        refine lv_iinc (v := x6 + 1) (lv' := [(6, .int (x6 + 1)), (5, .int (x5 + (0 : Int32))), (0, .ref (b + 99)), (1, .int x1), (2, .int x2), (3, .int x3), (4, .int x4)]) hC.1 hC.2.1 dX10_odds_145 hl (k := 6) rfl rfl (by decide) rfl (fun ls hl => ?_)
        refine lv_goto (tgt := 93) hC.1 hC.2.1 dX10_odds_148 (by decide) ?_
        exact IH _ _ _ _ _ _ _ _ _ _ h hW hS (lv_sub hl [2, 3, 4, 5, 6, 1, 0] rfl)
      · replace h := xf hc h
        refine lv_iload_n hC.1 hC.2.1 dX10_odds_113 rfl (lv_at hl 1 rfl) ?_
        refine lv_iload hC.1 hC.2.1 dX10_odds_114 (lv_at hl 6 rfl) ?_
        obtain ⟨⟨q116_r, q116_S⟩, hq, h⟩ := xb h
        try dsimp only at h
        refine x_callS (As := [.int x6]) (rest := [.int x1, .int x5]) hC hW hS (c_X10_ones l D b cs _ _ _ _ hq) mi_X10_ones st_X10_ones ml_X10_167 ⟨rfl, rfl⟩ ⟨Nat.le_of_ble_eq_true rfl, Nat.le_of_ble_eq_true rfl⟩ ⟨Nat.zero_le _, Nat.zero_le _⟩ rfl rfl hl.1 (Nat.le_of_ble_eq_true rfl) dX10_odds_116 (fun H locs hW hS => ?_)
        obtain ⟨⟨q119_r, q119_S⟩, hq, h⟩ := xb h
        try dsimp only at h
        refine x_callS (As := [.int x1, .int q116_r]) (rest := [.int x5]) hC hW hS (c_X10_power l D b cs _ _ _ _ _ hq) mi_X10_power st_X10_power ml_X10_195 ⟨rfl, rfl⟩ ⟨Nat.le_of_ble_eq_true rfl, Nat.le_of_ble_eq_true rfl⟩ ⟨Nat.zero_le _, Nat.zero_le _⟩ rfl rfl hl.1 (Nat.le_of_ble_eq_true rfl) dX10_odds_119 (fun H locs hW hS => ?_)
        refine lv_bipush (v := 10) hC.1 hC.2.1 dX10_odds_122 (by decide) ?_
        refine lv_iload_n hC.1 hC.2.1 dX10_odds_124 rfl (lv_at hl 1 rfl) ?_
        refine lv_isub hC.1 hC.2.1 dX10_odds_125 ?_
        refine lv_iload hC.1 hC.2.1 dX10_odds_126 (lv_at hl 4 rfl) ?_
        refine lv_iload hC.1 hC.2.1 dX10_odds_128 (lv_at hl 6 rfl) ?_
        obtain ⟨⟨q130_r, q130_S⟩, hq, h⟩ := xb h
        try dsimp only at h
        refine x_callS (As := [.int x6]) (rest := [.int x4, .int ((10 : Int32) - x1), .int q119_r, .int x5]) hC hW hS (c_X10_ones l D b cs _ _ _ _ hq) mi_X10_ones st_X10_ones ml_X10_167 ⟨rfl, rfl⟩ ⟨Nat.le_of_ble_eq_true rfl, Nat.le_of_ble_eq_true rfl⟩ ⟨Nat.zero_le _, Nat.zero_le _⟩ rfl rfl hl.1 (Nat.le_of_ble_eq_true rfl) dX10_odds_130 (fun H locs hW hS => ?_)
        refine lv_isub hC.1 hC.2.1 dX10_odds_133 ?_
        obtain ⟨⟨q134_r, q134_S⟩, hq, h⟩ := xb h
        try dsimp only at h
        refine x_callS (As := [.int ((10 : Int32) - x1), .int (x4 - q130_r)]) (rest := [.int q119_r, .int x5]) hC hW hS (c_X10_power l D b cs _ _ _ _ _ hq) mi_X10_power st_X10_power ml_X10_195 ⟨rfl, rfl⟩ ⟨Nat.le_of_ble_eq_true rfl, Nat.le_of_ble_eq_true rfl⟩ ⟨Nat.zero_le _, Nat.zero_le _⟩ rfl rfl hl.1 (Nat.le_of_ble_eq_true rfl) dX10_odds_134 (fun H locs hW hS => ?_)
        refine lv_imul hC.1 hC.2.1 dX10_odds_137 ?_
        refine lv_goto (tgt := 142) hC.1 hC.2.1 dX10_odds_138 (by decide) ?_
        refine lv_iadd hC.1 hC.2.1 dX10_odds_142 ?_
        refine lv_istore (lv' := [(5, .int (x5 + (q119_r * q134_r))), (0, .ref (b + 99)), (1, .int x1), (2, .int x2), (3, .int x3), (4, .int x4), (6, .int x6)]) hC.1 hC.2.1 dX10_odds_143 hl (by decide) rfl (fun ls hl => ?_)
        refine lv_iinc (v := x6 + 1) (lv' := [(6, .int (x6 + 1)), (5, .int (x5 + (q119_r * q134_r))), (0, .ref (b + 99)), (1, .int x1), (2, .int x2), (3, .int x3), (4, .int x4)]) hC.1 hC.2.1 dX10_odds_145 hl (k := 6) rfl rfl (by decide) rfl (fun ls hl => ?_)
        refine lv_goto (tgt := 93) hC.1 hC.2.1 dX10_odds_148 (by decide) ?_
        exact IH _ _ _ _ _ _ _ _ _ _ h hW hS (lv_sub hl [2, 3, 4, 5, 6, 1, 0] rfl)
set_option maxHeartbeats 4000000 in
set_option maxRecDepth 100000 in
theorem w_X10_odds_41 {p : Program} {l : Launch} {e : Env} {s : State} {m : MethodId} {args : Array Value} {below : List Frame} {meth : Method} {c : Code} {D : va_G} {b : Nat} {cs : Cs3} {r : Int32} {S1 : St} (hC : CX p s m args meth c RX10 cX10_odds 8 D cs) (hr : meth.sig.returnType = (some .int)) : ∀ (n : Nat) (x1 : Int32) (x2 : Int32) (x3 : Int32) (x4 : Int32) (x5 : Int32) (S : St) (H : Heap) (locs : List Loc) (ls : Array Slot), q_X10_odds_41 n x1 x2 x3 x4 x5 S = some (r, S1) → Wd D b cs S H → va_S (AA b) s.heap H locs → lv_has ls 8 [(0, .ref (b + 99)), (1, .int x1), (2, .int x2), (3, .int x3), (4, .int x4), (5, .int x5)] → W p l e rX10_odds s m args below meth c H locs 0 0 (MQ below (QX D b cs (some (.int r)) S1) args s 0 0 (AA b)) (F0 m 41 ls []) := by
  intro n
  induction n with
  | zero =>
    intro x1 x2 x3 x4 x5 S H locs ls h
    exact absurd h (by rw [q_X10_odds_41]; exact fun q => nomatch q)
  | succ n IH =>
    intro x1 x2 x3 x4 x5 S H locs ls h hW hS hl
    rw [q_X10_odds_41] at h
    refine lv_iload hC.1 hC.2.1 dX10_odds_41 (lv_at hl 5 rfl) ?_
    refine lv_aload_n hC.1 hC.2.1 dX10_odds_43 rfl (lv_at hl 0 rfl) ?_
    refine x_get (C := RX10) (T := TX10) (N := 27) (v := _) hC hW 99 (by decide) rfl rfl uX10 10 (by decide) fl_X10_13 rfl rfl dX10_odds_44 ?_
    refine lv_iconst (v := 2) hC.1 hC.2.1 dX10_odds_47 (by decide) ?_
    obtain ⟨hi, h⟩ := xg h
    refine x_iald hC hW 101 (by decide) rfl hi dX10_odds_48 ?_
    refine lv_icmp_ge (tgt := 87) hC.1 hC.2.1 dX10_odds_49 (by decide) (fun hc => ?_) (fun hc => ?_)
    · replace h := xt hc h
      refine lv_iconst (v := 0) hC.1 hC.2.1 dX10_odds_87 (by decide) ?_
      refine lv_istore (lv' := [(5, .int (0 : Int32)), (0, .ref (b + 99)), (1, .int x1), (2, .int x2), (3, .int x3), (4, .int x4)]) hC.1 hC.2.1 dX10_odds_88 hl (by decide) rfl (fun ls hl => ?_)
      refine lv_iconst (v := 0) hC.1 hC.2.1 dX10_odds_90 (by decide) ?_
      refine lv_istore (lv' := [(6, .int (0 : Int32)), (5, .int (0 : Int32)), (0, .ref (b + 99)), (1, .int x1), (2, .int x2), (3, .int x3), (4, .int x4)]) hC.1 hC.2.1 dX10_odds_91 hl (by decide) rfl (fun ls hl => ?_)
      exact w_X10_odds_93 hC hr _ _ _ _ _ _ _ _ _ _ _ h hW hS (lv_sub hl [2, 3, 4, 5, 6, 1, 0] rfl)
    · replace h := xf hc h
      refine lv_iload hC.1 hC.2.1 dX10_odds_52 (lv_at hl 4 rfl) ?_
      refine lv_aload_n hC.1 hC.2.1 dX10_odds_54 rfl (lv_at hl 0 rfl) ?_
      refine x_get (C := RX10) (T := TX10) (N := 27) (v := _) hC hW 99 (by decide) rfl rfl uX10 19 (by decide) fl_X10_40 rfl rfl dX10_odds_55 ?_
      refine lv_iconst (v := 5) hC.1 hC.2.1 dX10_odds_58 (by decide) ?_
      refine lv_iload hC.1 hC.2.1 dX10_odds_59 (lv_at hl 5 rfl) ?_
      refine lv_iadd hC.1 hC.2.1 dX10_odds_61 ?_
      obtain ⟨hi, h⟩ := xg h
      refine x_iald hC hW 110 (by decide) rfl hi dX10_odds_62 ?_
      refine lv_aload_n hC.1 hC.2.1 dX10_odds_63 rfl (lv_at hl 0 rfl) ?_
      refine x_get (C := RX10) (T := TX10) (N := 27) (v := _) hC hW 99 (by decide) rfl rfl uX10 17 (by decide) fl_X10_34 rfl rfl dX10_odds_64 ?_
      refine lv_iload hC.1 hC.2.1 dX10_odds_67 (lv_at hl 5 rfl) ?_
      obtain ⟨hi, h⟩ := xg h
      refine x_iald hC hW 108 (by decide) rfl hi dX10_odds_69 ?_
      refine lv_icmp_ge (tgt := 77) hC.1 hC.2.1 dX10_odds_70 (by decide) (fun hc => ?_) (fun hc => ?_)
      · replace h := xt hc h
        refine lv_iconst (v := 0) hC.1 hC.2.1 dX10_odds_77 (by decide) ?_
        refine lv_iadd hC.1 hC.2.1 dX10_odds_78 ?_
        refine lv_istore (lv' := [(4, .int (x4 + (0 : Int32))), (0, .ref (b + 99)), (1, .int x1), (2, .int x2), (3, .int x3), (5, .int x5)]) hC.1 hC.2.1 dX10_odds_79 hl (by decide) rfl (fun ls hl => ?_)
        refine lv_iinc (v := x5 + 1) (lv' := [(5, .int (x5 + 1)), (4, .int (x4 + (0 : Int32))), (0, .ref (b + 99)), (1, .int x1), (2, .int x2), (3, .int x3)]) hC.1 hC.2.1 dX10_odds_81 hl (k := 5) rfl rfl (by decide) rfl (fun ls hl => ?_)
        refine lv_goto (tgt := 41) hC.1 hC.2.1 dX10_odds_84 (by decide) ?_
        exact IH _ _ _ _ _ _ _ _ _ h hW hS (lv_sub hl [2, 3, 4, 5, 1, 0] rfl)
      · replace h := xf hc h
        refine lv_iconst (v := 1) hC.1 hC.2.1 dX10_odds_73 (by decide) ?_
        refine lv_goto (tgt := 78) hC.1 hC.2.1 dX10_odds_74 (by decide) ?_
        refine lv_iadd hC.1 hC.2.1 dX10_odds_78 ?_
        refine lv_istore (lv' := [(4, .int (x4 + (1 : Int32))), (0, .ref (b + 99)), (1, .int x1), (2, .int x2), (3, .int x3), (5, .int x5)]) hC.1 hC.2.1 dX10_odds_79 hl (by decide) rfl (fun ls hl => ?_)
        refine lv_iinc (v := x5 + 1) (lv' := [(5, .int (x5 + 1)), (4, .int (x4 + (1 : Int32))), (0, .ref (b + 99)), (1, .int x1), (2, .int x2), (3, .int x3)]) hC.1 hC.2.1 dX10_odds_81 hl (k := 5) rfl rfl (by decide) rfl (fun ls hl => ?_)
        refine lv_goto (tgt := 41) hC.1 hC.2.1 dX10_odds_84 (by decide) ?_
        exact IH _ _ _ _ _ _ _ _ _ h hW hS (lv_sub hl [2, 3, 4, 5, 1, 0] rfl)
set_option maxHeartbeats 4000000 in
set_option maxRecDepth 100000 in
theorem c_X10_odds (l : Launch) (D : va_G) (b : Nat) (cs : Cs3) (x1 : Int32) (x2 : Int32) (x3 : Int32) (S S1 : St) (r : Int32) (h : p_X10_odds x1 x2 x3 S = some (r, S1)) : Ct l yX10_odds cX10_odds 8 (some .int) rX10_odds D b cs [.ref (b + 99), .int x1, .int x2, .int x3] S (some (.int r)) S1 := by
  refine x_met (by decide +kernel) (Nat.le_of_ble_eq_true rfl) ?_
  intro p e s m below meth c ls hC hr hW hS hl
  have hl : lv_has ls 8 [(0, .ref (b + 99)), (1, .int x1), (2, .int x2), (3, .int x3)] := hl
  rw [p_X10_odds] at h
  refine lv_aload_n hC.1 hC.2.1 dX10_odds_0 rfl (lv_at hl 0 rfl) ?_
  refine lv_iconst (v := 0) hC.1 hC.2.1 dX10_odds_1 (by decide) ?_
  refine x_puti (C := RX10) (T := TX10) (N := 27) (ty := .int) hC hW hS 99 (by decide) rfl rfl uX10 tyX10 tyX10_ok nmX10 0 (by decide) fl_X10_65 rfl (by decide +kernel) rfl rfl rfl dX10_odds_2 (fun H locs hW hS => ?_)
  refine lv_iload_n hC.1 hC.2.1 dX10_odds_5 rfl (lv_at hl 1 rfl) ?_
  refine lv_iconst (v := 0) hC.1 hC.2.1 dX10_odds_6 (by decide) ?_
  refine lv_bipush (v := 10) hC.1 hC.2.1 dX10_odds_7 (by decide) ?_
  obtain ⟨⟨q9_r, q9_S⟩, hq, h⟩ := xb h
  try dsimp only at h
  refine x_callS (As := [.int x1, .int (0 : Int32), .int (10 : Int32)]) (rest := []) hC hW hS (c_X10_in l D b cs _ _ _ _ _ _ hq) mi_X10_in st_X10_in ml_X10_69 ⟨rfl, rfl⟩ ⟨Nat.le_of_ble_eq_true rfl, Nat.le_of_ble_eq_true rfl⟩ ⟨Nat.zero_le _, Nat.zero_le _⟩ rfl rfl hl.1 (Nat.le_of_ble_eq_true rfl) dX10_odds_9 (fun H locs hW hS => ?_)
  refine lv_if_eq (tgt := 33) hC.1 hC.2.1 dX10_odds_12 (by decide) (fun hc => ?_) (fun hc => ?_)
  · replace h := xt hc h
    refine lv_iconst (v := -1) hC.1 hC.2.1 dX10_odds_33 (by decide) ?_
    obtain ⟨rfl, rfl⟩ := xr h
    exact x_iret hC hr hW hS dX10_odds_34
  · replace h := xf hc h
    refine lv_iload_n hC.1 hC.2.1 dX10_odds_15 rfl (lv_at hl 2 rfl) ?_
    refine lv_iconst (v := 0) hC.1 hC.2.1 dX10_odds_16 (by decide) ?_
    refine lv_iconst (v := 5) hC.1 hC.2.1 dX10_odds_17 (by decide) ?_
    obtain ⟨⟨q18_r, q18_S⟩, hq, h⟩ := xb h
    try dsimp only at h
    refine x_callS (As := [.int x2, .int (0 : Int32), .int (5 : Int32)]) (rest := []) hC hW hS (c_X10_in l D b cs _ _ _ _ _ _ hq) mi_X10_in st_X10_in ml_X10_69 ⟨rfl, rfl⟩ ⟨Nat.le_of_ble_eq_true rfl, Nat.le_of_ble_eq_true rfl⟩ ⟨Nat.zero_le _, Nat.zero_le _⟩ rfl rfl hl.1 (Nat.le_of_ble_eq_true rfl) dX10_odds_18 (fun H locs hW hS => ?_)
    refine lv_if_eq (tgt := 33) hC.1 hC.2.1 dX10_odds_21 (by decide) (fun hc => ?_) (fun hc => ?_)
    · replace h := xt hc h
      refine lv_iconst (v := -1) hC.1 hC.2.1 dX10_odds_33 (by decide) ?_
      obtain ⟨rfl, rfl⟩ := xr h
      exact x_iret hC hr hW hS dX10_odds_34
    · replace h := xf hc h
      refine lv_iload_n hC.1 hC.2.1 dX10_odds_24 rfl (lv_at hl 3 rfl) ?_
      refine lv_iconst (v := 0) hC.1 hC.2.1 dX10_odds_25 (by decide) ?_
      refine lv_iconst (v := 1) hC.1 hC.2.1 dX10_odds_26 (by decide) ?_
      obtain ⟨⟨q27_r, q27_S⟩, hq, h⟩ := xb h
      try dsimp only at h
      refine x_callS (As := [.int x3, .int (0 : Int32), .int (1 : Int32)]) (rest := []) hC hW hS (c_X10_in l D b cs _ _ _ _ _ _ hq) mi_X10_in st_X10_in ml_X10_69 ⟨rfl, rfl⟩ ⟨Nat.le_of_ble_eq_true rfl, Nat.le_of_ble_eq_true rfl⟩ ⟨Nat.zero_le _, Nat.zero_le _⟩ rfl rfl hl.1 (Nat.le_of_ble_eq_true rfl) dX10_odds_27 (fun H locs hW hS => ?_)
      refine lv_if_ne (tgt := 35) hC.1 hC.2.1 dX10_odds_30 (by decide) (fun hc => ?_) (fun hc => ?_)
      · replace h := xf hc h
        refine lv_iconst (v := 0) hC.1 hC.2.1 dX10_odds_35 (by decide) ?_
        refine lv_istore (lv' := [(4, .int (0 : Int32)), (0, .ref (b + 99)), (1, .int x1), (2, .int x2), (3, .int x3)]) hC.1 hC.2.1 dX10_odds_36 hl (by decide) rfl (fun ls hl => ?_)
        refine lv_iconst (v := 0) hC.1 hC.2.1 dX10_odds_38 (by decide) ?_
        refine lv_istore (lv' := [(5, .int (0 : Int32)), (4, .int (0 : Int32)), (0, .ref (b + 99)), (1, .int x1), (2, .int x2), (3, .int x3)]) hC.1 hC.2.1 dX10_odds_39 hl (by decide) rfl (fun ls hl => ?_)
        exact w_X10_odds_41 hC hr _ _ _ _ _ _ _ _ _ _ h hW hS (lv_sub hl [2, 3, 4, 5, 1, 0] rfl)
      · replace h := xt hc h
        refine lv_iconst (v := -1) hC.1 hC.2.1 dX10_odds_33 (by decide) ?_
        obtain ⟨rfl, rfl⟩ := xr h
        exact x_iret hC hr hW hS dX10_odds_34
theorem dX10_hears_0 : decode cX10_hears 0 = .ok (.aload_n 0, 1) := by decide +kernel
theorem dX10_hears_1 : decode cX10_hears 1 = .ok (.iconst 0, 1) := by decide +kernel
theorem dX10_hears_2 : decode cX10_hears 2 = .ok (.putfield 65, 3) := by decide +kernel
theorem dX10_hears_5 : decode cX10_hears 5 = .ok (.aload_n 0, 1) := by decide +kernel
theorem dX10_hears_6 : decode cX10_hears 6 = .ok (.iload_n 1, 1) := by decide +kernel
theorem dX10_hears_7 : decode cX10_hears 7 = .ok (.invokevirtual 154, 3) := by decide +kernel
theorem dX10_hears_10 : decode cX10_hears 10 = .ok (.ifCond .eq 12, 3) := by decide +kernel
theorem dX10_hears_13 : decode cX10_hears 13 = .ok (.iload_n 2, 1) := by decide +kernel
theorem dX10_hears_14 : decode cX10_hears 14 = .ok (.iconst 0, 1) := by decide +kernel
theorem dX10_hears_15 : decode cX10_hears 15 = .ok (.iconst 1, 1) := by decide +kernel
theorem dX10_hears_16 : decode cX10_hears 16 = .ok (.invokestatic 69, 3) := by decide +kernel
theorem dX10_hears_19 : decode cX10_hears 19 = .ok (.ifCond .ne 5, 3) := by decide +kernel
theorem dX10_hears_22 : decode cX10_hears 22 = .ok (.iconst (-1), 1) := by decide +kernel
theorem dX10_hears_23 : decode cX10_hears 23 = .ok (.ireturn, 1) := by decide +kernel
theorem dX10_hears_24 : decode cX10_hears 24 = .ok (.aload_n 0, 1) := by decide +kernel
theorem dX10_hears_25 : decode cX10_hears 25 = .ok (.getfield 125, 3) := by decide +kernel
theorem dX10_hears_28 : decode cX10_hears 28 = .ok (.bipush 6, 2) := by decide +kernel
theorem dX10_hears_30 : decode cX10_hears 30 = .ok (.if_icmp .ne 6, 3) := by decide +kernel
theorem dX10_hears_33 : decode cX10_hears 33 = .ok (.bipush (-3), 2) := by decide +kernel
theorem dX10_hears_35 : decode cX10_hears 35 = .ok (.ireturn, 1) := by decide +kernel
theorem dX10_hears_36 : decode cX10_hears 36 = .ok (.aload_n 0, 1) := by decide +kernel
theorem dX10_hears_37 : decode cX10_hears 37 = .ok (.getfield 53, 3) := by decide +kernel
theorem dX10_hears_40 : decode cX10_hears 40 = .ok (.aload_n 0, 1) := by decide +kernel
theorem dX10_hears_41 : decode cX10_hears 41 = .ok (.getfield 125, 3) := by decide +kernel
theorem dX10_hears_44 : decode cX10_hears 44 = .ok (.iload_n 1, 1) := by decide +kernel
theorem dX10_hears_45 : decode cX10_hears 45 = .ok (.iastore, 1) := by decide +kernel
theorem dX10_hears_46 : decode cX10_hears 46 = .ok (.aload_n 0, 1) := by decide +kernel
theorem dX10_hears_47 : decode cX10_hears 47 = .ok (.getfield 56, 3) := by decide +kernel
theorem dX10_hears_50 : decode cX10_hears 50 = .ok (.aload_n 0, 1) := by decide +kernel
theorem dX10_hears_51 : decode cX10_hears 51 = .ok (.getfield 125, 3) := by decide +kernel
theorem dX10_hears_54 : decode cX10_hears 54 = .ok (.iload_n 2, 1) := by decide +kernel
theorem dX10_hears_55 : decode cX10_hears 55 = .ok (.iastore, 1) := by decide +kernel
theorem dX10_hears_56 : decode cX10_hears 56 = .ok (.aload_n 0, 1) := by decide +kernel
theorem dX10_hears_57 : decode cX10_hears 57 = .ok (.dup, 1) := by decide +kernel
theorem dX10_hears_58 : decode cX10_hears 58 = .ok (.getfield 125, 3) := by decide +kernel
theorem dX10_hears_61 : decode cX10_hears 61 = .ok (.iconst 1, 1) := by decide +kernel
theorem dX10_hears_62 : decode cX10_hears 62 = .ok (.iadd, 1) := by decide +kernel
theorem dX10_hears_63 : decode cX10_hears 63 = .ok (.putfield 125, 3) := by decide +kernel
theorem dX10_hears_66 : decode cX10_hears 66 = .ok (.aload_n 0, 1) := by decide +kernel
theorem dX10_hears_67 : decode cX10_hears 67 = .ok (.getfield 125, 3) := by decide +kernel
theorem dX10_hears_70 : decode cX10_hears 70 = .ok (.ireturn, 1) := by decide +kernel
abbrev rX10_hears : Room := { frames := 2, cells := 0, slots := 0, locals := 43 }
set_option maxHeartbeats 4000000 in
set_option maxRecDepth 100000 in
theorem c_X10_hears (l : Launch) (D : va_G) (b : Nat) (cs : Cs3) (x1 : Int32) (x2 : Int32) (S S1 : St) (r : Int32) (h : p_X10_hears x1 x2 S = some (r, S1)) : Ct l yX10_hears cX10_hears 3 (some .int) rX10_hears D b cs [.ref (b + 99), .int x1, .int x2] S (some (.int r)) S1 := by
  refine x_met (by decide +kernel) (Nat.le_of_ble_eq_true rfl) ?_
  intro p e s m below meth c ls hC hr hW hS hl
  have hl : lv_has ls 3 [(0, .ref (b + 99)), (1, .int x1), (2, .int x2)] := hl
  rw [p_X10_hears] at h
  refine lv_aload_n hC.1 hC.2.1 dX10_hears_0 rfl (lv_at hl 0 rfl) ?_
  refine lv_iconst (v := 0) hC.1 hC.2.1 dX10_hears_1 (by decide) ?_
  refine x_puti (C := RX10) (T := TX10) (N := 27) (ty := .int) hC hW hS 99 (by decide) rfl rfl uX10 tyX10 tyX10_ok nmX10 0 (by decide) fl_X10_65 rfl (by decide +kernel) rfl rfl rfl dX10_hears_2 (fun H locs hW hS => ?_)
  refine lv_aload_n hC.1 hC.2.1 dX10_hears_5 rfl (lv_at hl 0 rfl) ?_
  refine lv_iload_n hC.1 hC.2.1 dX10_hears_6 rfl (lv_at hl 1 rfl) ?_
  obtain ⟨⟨q7_r, q7_S⟩, hq, h⟩ := xb h
  try dsimp only at h
  refine x_callV (T := TX10) (N := 27) (As := [.int x1]) (rest := []) hC hW hS 99 (c_X10_isDoor l D b cs _ _ _ _ hq) (by decide) rfl rfl mi_X10_isDoor in_X10_isDoor sl_X10_isDoor ml_X10_154 ⟨rfl, rfl⟩ ⟨Nat.le_of_ble_eq_true rfl, Nat.le_of_ble_eq_true rfl⟩ ⟨Nat.zero_le _, Nat.zero_le _⟩ rfl rfl hl.1 (Nat.le_of_ble_eq_true rfl) dX10_hears_7 (fun H locs hW hS => ?_)
  refine lv_if_eq (tgt := 22) hC.1 hC.2.1 dX10_hears_10 (by decide) (fun hc => ?_) (fun hc => ?_)
  · replace h := xt hc h
    refine lv_iconst (v := -1) hC.1 hC.2.1 dX10_hears_22 (by decide) ?_
    obtain ⟨rfl, rfl⟩ := xr h
    exact x_iret hC hr hW hS dX10_hears_23
  · replace h := xf hc h
    refine lv_iload_n hC.1 hC.2.1 dX10_hears_13 rfl (lv_at hl 2 rfl) ?_
    refine lv_iconst (v := 0) hC.1 hC.2.1 dX10_hears_14 (by decide) ?_
    refine lv_iconst (v := 1) hC.1 hC.2.1 dX10_hears_15 (by decide) ?_
    obtain ⟨⟨q16_r, q16_S⟩, hq, h⟩ := xb h
    try dsimp only at h
    refine x_callS (As := [.int x2, .int (0 : Int32), .int (1 : Int32)]) (rest := []) hC hW hS (c_X10_in l D b cs _ _ _ _ _ _ hq) mi_X10_in st_X10_in ml_X10_69 ⟨rfl, rfl⟩ ⟨Nat.le_of_ble_eq_true rfl, Nat.le_of_ble_eq_true rfl⟩ ⟨Nat.zero_le _, Nat.zero_le _⟩ rfl rfl hl.1 (Nat.le_of_ble_eq_true rfl) dX10_hears_16 (fun H locs hW hS => ?_)
    refine lv_if_ne (tgt := 24) hC.1 hC.2.1 dX10_hears_19 (by decide) (fun hc => ?_) (fun hc => ?_)
    · replace h := xf hc h
      refine lv_aload_n hC.1 hC.2.1 dX10_hears_24 rfl (lv_at hl 0 rfl) ?_
      refine x_get (C := RX10) (T := TX10) (N := 27) (v := _) hC hW 99 (by decide) rfl rfl uX10 26 (by decide) fl_X10_125 rfl rfl dX10_hears_25 ?_
      refine lv_bipush (v := 6) hC.1 hC.2.1 dX10_hears_28 (by decide) ?_
      refine lv_icmp_ne (tgt := 36) hC.1 hC.2.1 dX10_hears_30 (by decide) (fun hc => ?_) (fun hc => ?_)
      · replace h := xf hc h
        refine lv_aload_n hC.1 hC.2.1 dX10_hears_36 rfl (lv_at hl 0 rfl) ?_
        refine x_get (C := RX10) (T := TX10) (N := 27) (v := _) hC hW 99 (by decide) rfl rfl uX10 24 (by decide) fl_X10_53 rfl rfl dX10_hears_37 ?_
        refine lv_aload_n hC.1 hC.2.1 dX10_hears_40 rfl (lv_at hl 0 rfl) ?_
        refine x_get (C := RX10) (T := TX10) (N := 27) (v := _) hC hW 99 (by decide) rfl rfl uX10 26 (by decide) fl_X10_125 rfl rfl dX10_hears_41 ?_
        refine lv_iload_n hC.1 hC.2.1 dX10_hears_44 rfl (lv_at hl 1 rfl) ?_
        obtain ⟨hi, h⟩ := xg h
        refine x_iast hC hW hS 114 (by decide) rfl hi dX10_hears_45 (fun H locs hW hS => ?_)
        refine lv_aload_n hC.1 hC.2.1 dX10_hears_46 rfl (lv_at hl 0 rfl) ?_
        refine x_get (C := RX10) (T := TX10) (N := 27) (v := _) hC hW 99 (by decide) rfl rfl uX10 25 (by decide) fl_X10_56 rfl rfl dX10_hears_47 ?_
        refine lv_aload_n hC.1 hC.2.1 dX10_hears_50 rfl (lv_at hl 0 rfl) ?_
        refine x_get (C := RX10) (T := TX10) (N := 27) (v := _) hC hW 99 (by decide) rfl rfl uX10 26 (by decide) fl_X10_125 rfl rfl dX10_hears_51 ?_
        refine lv_iload_n hC.1 hC.2.1 dX10_hears_54 rfl (lv_at hl 2 rfl) ?_
        obtain ⟨hi, h⟩ := xg h
        refine x_iast hC hW hS 115 (by decide) rfl hi dX10_hears_55 (fun H locs hW hS => ?_)
        refine lv_aload_n hC.1 hC.2.1 dX10_hears_56 rfl (lv_at hl 0 rfl) ?_
        refine lv_dup hC.1 hC.2.1 dX10_hears_57 rfl ?_
        refine x_get (C := RX10) (T := TX10) (N := 27) (v := _) hC hW 99 (by decide) rfl rfl uX10 26 (by decide) fl_X10_125 rfl rfl dX10_hears_58 ?_
        refine lv_iconst (v := 1) hC.1 hC.2.1 dX10_hears_61 (by decide) ?_
        refine lv_iadd hC.1 hC.2.1 dX10_hears_62 ?_
        refine x_puti (C := RX10) (T := TX10) (N := 27) (ty := .int) hC hW hS 99 (by decide) rfl rfl uX10 tyX10 tyX10_ok nmX10 26 (by decide) fl_X10_125 rfl (by decide +kernel) rfl rfl rfl dX10_hears_63 (fun H locs hW hS => ?_)
        refine lv_aload_n hC.1 hC.2.1 dX10_hears_66 rfl (lv_at hl 0 rfl) ?_
        refine x_get (C := RX10) (T := TX10) (N := 27) (v := _) hC hW 99 (by decide) rfl rfl uX10 26 (by decide) fl_X10_125 rfl rfl dX10_hears_67 ?_
        obtain ⟨rfl, rfl⟩ := xr h
        exact x_iret hC hr hW hS dX10_hears_70
      · replace h := xt hc h
        refine lv_bipush (v := -3) hC.1 hC.2.1 dX10_hears_33 (by decide) ?_
        obtain ⟨rfl, rfl⟩ := xr h
        exact x_iret hC hr hW hS dX10_hears_35
    · replace h := xt hc h
      refine lv_iconst (v := -1) hC.1 hC.2.1 dX10_hears_22 (by decide) ?_
      obtain ⟨rfl, rfl⟩ := xr h
      exact x_iret hC hr hW hS dX10_hears_23
theorem dX10_forget_0 : decode cX10_forget 0 = .ok (.aload_n 0, 1) := by decide +kernel
theorem dX10_forget_1 : decode cX10_forget 1 = .ok (.iconst 0, 1) := by decide +kernel
theorem dX10_forget_2 : decode cX10_forget 2 = .ok (.putfield 65, 3) := by decide +kernel
theorem dX10_forget_5 : decode cX10_forget 5 = .ok (.aload_n 0, 1) := by decide +kernel
theorem dX10_forget_6 : decode cX10_forget 6 = .ok (.getfield 125, 3) := by decide +kernel
theorem dX10_forget_9 : decode cX10_forget 9 = .ok (.istore_n 1, 1) := by decide +kernel
theorem dX10_forget_10 : decode cX10_forget 10 = .ok (.aload_n 0, 1) := by decide +kernel
theorem dX10_forget_11 : decode cX10_forget 11 = .ok (.iconst 0, 1) := by decide +kernel
theorem dX10_forget_12 : decode cX10_forget 12 = .ok (.putfield 125, 3) := by decide +kernel
theorem dX10_forget_15 : decode cX10_forget 15 = .ok (.iload_n 1, 1) := by decide +kernel
theorem dX10_forget_16 : decode cX10_forget 16 = .ok (.ireturn, 1) := by decide +kernel
abbrev rX10_forget : Room := { frames := 0, cells := 0, slots := 0, locals := 0 }
set_option maxHeartbeats 4000000 in
set_option maxRecDepth 100000 in
theorem c_X10_forget (l : Launch) (D : va_G) (b : Nat) (cs : Cs3) (S S1 : St) (r : Int32) (h : p_X10_forget S = some (r, S1)) : Ct l yX10_forget cX10_forget 2 (some .int) rX10_forget D b cs [.ref (b + 99)] S (some (.int r)) S1 := by
  refine x_met (by decide +kernel) (Nat.le_of_ble_eq_true rfl) ?_
  intro p e s m below meth c ls hC hr hW hS hl
  have hl : lv_has ls 2 [(0, .ref (b + 99))] := hl
  rw [p_X10_forget] at h
  refine lv_aload_n hC.1 hC.2.1 dX10_forget_0 rfl (lv_at hl 0 rfl) ?_
  refine lv_iconst (v := 0) hC.1 hC.2.1 dX10_forget_1 (by decide) ?_
  refine x_puti (C := RX10) (T := TX10) (N := 27) (ty := .int) hC hW hS 99 (by decide) rfl rfl uX10 tyX10 tyX10_ok nmX10 0 (by decide) fl_X10_65 rfl (by decide +kernel) rfl rfl rfl dX10_forget_2 (fun H locs hW hS => ?_)
  refine lv_aload_n hC.1 hC.2.1 dX10_forget_5 rfl (lv_at hl 0 rfl) ?_
  refine x_get (C := RX10) (T := TX10) (N := 27) (v := _) hC hW 99 (by decide) rfl rfl uX10 26 (by decide) fl_X10_125 rfl rfl dX10_forget_6 ?_
  refine lv_istore_n (lv' := [(1, .int ((sI S 99 0 (0 : Int32)).1 99 26)), (0, .ref (b + 99))]) hC.1 hC.2.1 dX10_forget_9 rfl hl (by decide) rfl (fun ls hl => ?_)
  refine lv_aload_n hC.1 hC.2.1 dX10_forget_10 rfl (lv_at hl 1 rfl) ?_
  refine lv_iconst (v := 0) hC.1 hC.2.1 dX10_forget_11 (by decide) ?_
  refine x_puti (C := RX10) (T := TX10) (N := 27) (ty := .int) hC hW hS 99 (by decide) rfl rfl uX10 tyX10 tyX10_ok nmX10 26 (by decide) fl_X10_125 rfl (by decide +kernel) rfl rfl rfl dX10_forget_12 (fun H locs hW hS => ?_)
  refine lv_iload_n hC.1 hC.2.1 dX10_forget_15 rfl (lv_at hl 0 rfl) ?_
  obtain ⟨rfl, rfl⟩ := xr h
  exact x_iret hC hr hW hS dX10_forget_16
theorem dX10_whoCan_0 : decode cX10_whoCan 0 = .ok (.iconst 0, 1) := by decide +kernel
theorem dX10_whoCan_1 : decode cX10_whoCan 1 = .ok (.istore_n 1, 1) := by decide +kernel
theorem dX10_whoCan_2 : decode cX10_whoCan 2 = .ok (.iconst 0, 1) := by decide +kernel
theorem dX10_whoCan_3 : decode cX10_whoCan 3 = .ok (.istore_n 2, 1) := by decide +kernel
theorem dX10_whoCan_4 : decode cX10_whoCan 4 = .ok (.iload_n 2, 1) := by decide +kernel
theorem dX10_whoCan_5 : decode cX10_whoCan 5 = .ok (.aload_n 0, 1) := by decide +kernel
theorem dX10_whoCan_6 : decode cX10_whoCan 6 = .ok (.getfield 13, 3) := by decide +kernel
theorem dX10_whoCan_9 : decode cX10_whoCan 9 = .ok (.iconst 2, 1) := by decide +kernel
theorem dX10_whoCan_10 : decode cX10_whoCan 10 = .ok (.iaload, 1) := by decide +kernel
theorem dX10_whoCan_11 : decode cX10_whoCan 11 = .ok (.if_icmp .ge 78, 3) := by decide +kernel
theorem dX10_whoCan_14 : decode cX10_whoCan 14 = .ok (.iconst 1, 1) := by decide +kernel
theorem dX10_whoCan_15 : decode cX10_whoCan 15 = .ok (.istore_n 3, 1) := by decide +kernel
theorem dX10_whoCan_16 : decode cX10_whoCan 16 = .ok (.iconst 0, 1) := by decide +kernel
theorem dX10_whoCan_17 : decode cX10_whoCan 17 = .ok (.istore 4, 2) := by decide +kernel
theorem dX10_whoCan_19 : decode cX10_whoCan 19 = .ok (.iload 4, 2) := by decide +kernel
theorem dX10_whoCan_21 : decode cX10_whoCan 21 = .ok (.aload_n 0, 1) := by decide +kernel
theorem dX10_whoCan_22 : decode cX10_whoCan 22 = .ok (.getfield 125, 3) := by decide +kernel
theorem dX10_whoCan_25 : decode cX10_whoCan 25 = .ok (.if_icmp .ge 44, 3) := by decide +kernel
theorem dX10_whoCan_28 : decode cX10_whoCan 28 = .ok (.iload_n 3, 1) := by decide +kernel
theorem dX10_whoCan_29 : decode cX10_whoCan 29 = .ok (.ifCond .eq 32, 3) := by decide +kernel
theorem dX10_whoCan_32 : decode cX10_whoCan 32 = .ok (.aload_n 0, 1) := by decide +kernel
theorem dX10_whoCan_33 : decode cX10_whoCan 33 = .ok (.iload_n 2, 1) := by decide +kernel
theorem dX10_whoCan_34 : decode cX10_whoCan 34 = .ok (.invokevirtual 145, 3) := by decide +kernel
theorem dX10_whoCan_37 : decode cX10_whoCan 37 = .ok (.aload_n 0, 1) := by decide +kernel
theorem dX10_whoCan_38 : decode cX10_whoCan 38 = .ok (.getfield 53, 3) := by decide +kernel
theorem dX10_whoCan_41 : decode cX10_whoCan 41 = .ok (.iload 4, 2) := by decide +kernel
theorem dX10_whoCan_43 : decode cX10_whoCan 43 = .ok (.iaload, 1) := by decide +kernel
theorem dX10_whoCan_44 : decode cX10_whoCan 44 = .ok (.ishr, 1) := by decide +kernel
theorem dX10_whoCan_45 : decode cX10_whoCan 45 = .ok (.iconst 1, 1) := by decide +kernel
theorem dX10_whoCan_46 : decode cX10_whoCan 46 = .ok (.iand, 1) := by decide +kernel
theorem dX10_whoCan_47 : decode cX10_whoCan 47 = .ok (.aload_n 0, 1) := by decide +kernel
theorem dX10_whoCan_48 : decode cX10_whoCan 48 = .ok (.getfield 56, 3) := by decide +kernel
theorem dX10_whoCan_51 : decode cX10_whoCan 51 = .ok (.iload 4, 2) := by decide +kernel
theorem dX10_whoCan_53 : decode cX10_whoCan 53 = .ok (.iaload, 1) := by decide +kernel
theorem dX10_whoCan_54 : decode cX10_whoCan 54 = .ok (.if_icmp .ne 7, 3) := by decide +kernel
theorem dX10_whoCan_57 : decode cX10_whoCan 57 = .ok (.iconst 1, 1) := by decide +kernel
theorem dX10_whoCan_58 : decode cX10_whoCan 58 = .ok (.goto 4, 3) := by decide +kernel
theorem dX10_whoCan_61 : decode cX10_whoCan 61 = .ok (.iconst 0, 1) := by decide +kernel
theorem dX10_whoCan_62 : decode cX10_whoCan 62 = .ok (.istore_n 3, 1) := by decide +kernel
theorem dX10_whoCan_63 : decode cX10_whoCan 63 = .ok (.iinc 4 1, 3) := by decide +kernel
theorem dX10_whoCan_66 : decode cX10_whoCan 66 = .ok (.goto (-47), 3) := by decide +kernel
theorem dX10_whoCan_69 : decode cX10_whoCan 69 = .ok (.iload_n 1, 1) := by decide +kernel
theorem dX10_whoCan_70 : decode cX10_whoCan 70 = .ok (.iload_n 3, 1) := by decide +kernel
theorem dX10_whoCan_71 : decode cX10_whoCan 71 = .ok (.ifCond .eq 9, 3) := by decide +kernel
theorem dX10_whoCan_74 : decode cX10_whoCan 74 = .ok (.iconst 1, 1) := by decide +kernel
theorem dX10_whoCan_75 : decode cX10_whoCan 75 = .ok (.iload_n 2, 1) := by decide +kernel
theorem dX10_whoCan_76 : decode cX10_whoCan 76 = .ok (.ishl, 1) := by decide +kernel
theorem dX10_whoCan_77 : decode cX10_whoCan 77 = .ok (.goto 4, 3) := by decide +kernel
theorem dX10_whoCan_80 : decode cX10_whoCan 80 = .ok (.iconst 0, 1) := by decide +kernel
theorem dX10_whoCan_81 : decode cX10_whoCan 81 = .ok (.ior, 1) := by decide +kernel
theorem dX10_whoCan_82 : decode cX10_whoCan 82 = .ok (.istore_n 1, 1) := by decide +kernel
theorem dX10_whoCan_83 : decode cX10_whoCan 83 = .ok (.iinc 2 1, 3) := by decide +kernel
theorem dX10_whoCan_86 : decode cX10_whoCan 86 = .ok (.goto (-82), 3) := by decide +kernel
theorem dX10_whoCan_89 : decode cX10_whoCan 89 = .ok (.iload_n 1, 1) := by decide +kernel
theorem dX10_whoCan_90 : decode cX10_whoCan 90 = .ok (.ireturn, 1) := by decide +kernel
abbrev rX10_whoCan : Room := { frames := 3, cells := 0, slots := 0, locals := 71 }
set_option maxHeartbeats 4000000 in
set_option maxRecDepth 100000 in
theorem w_X10_whoCan_19 {p : Program} {l : Launch} {e : Env} {s : State} {m : MethodId} {args : Array Value} {below : List Frame} {meth : Method} {c : Code} {D : va_G} {b : Nat} {cs : Cs3} {r : Int32} {S1 : St} {ag4 : Int32 → Int32 → St → Option (Int32 × St)} (hC : CX p s m args meth c RX10 cX10_whoCan 5 D cs) (hr : meth.sig.returnType = (some .int)) (hag4 : ∀ (x1 : Int32) (x2 : Int32) (S : St) (H : Heap) (locs : List Loc) (ls : Array Slot), ag4 x1 x2 S = some (r, S1) → Wd D b cs S H → va_S (AA b) s.heap H locs → lv_has ls 5 [(0, .ref (b + 99)), (1, .int x1), (2, .int x2)] → W p l e rX10_whoCan s m args below meth c H locs 0 0 (MQ below (QX D b cs (some (.int r)) S1) args s 0 0 (AA b)) (F0 m 4 ls [])) : ∀ (n : Nat) (x1 : Int32) (x2 : Int32) (x3 : Int32) (x4 : Int32) (S : St) (H : Heap) (locs : List Loc) (ls : Array Slot), q_X10_whoCan_19 ag4 n x1 x2 x3 x4 S = some (r, S1) → Wd D b cs S H → va_S (AA b) s.heap H locs → lv_has ls 5 [(0, .ref (b + 99)), (1, .int x1), (2, .int x2), (3, .int x3), (4, .int x4)] → W p l e rX10_whoCan s m args below meth c H locs 0 0 (MQ below (QX D b cs (some (.int r)) S1) args s 0 0 (AA b)) (F0 m 19 ls []) := by
  intro n
  induction n with
  | zero =>
    intro x1 x2 x3 x4 S H locs ls h
    exact absurd h (by rw [q_X10_whoCan_19]; exact fun q => nomatch q)
  | succ n IH =>
    intro x1 x2 x3 x4 S H locs ls h hW hS hl
    rw [q_X10_whoCan_19] at h
    refine lv_iload hC.1 hC.2.1 dX10_whoCan_19 (lv_at hl 4 rfl) ?_
    refine lv_aload_n hC.1 hC.2.1 dX10_whoCan_21 rfl (lv_at hl 0 rfl) ?_
    refine x_get (C := RX10) (T := TX10) (N := 27) (v := _) hC hW 99 (by decide) rfl rfl uX10 26 (by decide) fl_X10_125 rfl rfl dX10_whoCan_22 ?_
    refine lv_icmp_ge (tgt := 69) hC.1 hC.2.1 dX10_whoCan_25 (by decide) (fun hc => ?_) (fun hc => ?_)
    · replace h := xt hc h
      refine lv_iload_n hC.1 hC.2.1 dX10_whoCan_69 rfl (lv_at hl 1 rfl) ?_
      refine lv_iload_n hC.1 hC.2.1 dX10_whoCan_70 rfl (lv_at hl 3 rfl) ?_
      refine lv_if_eq (tgt := 80) hC.1 hC.2.1 dX10_whoCan_71 (by decide) (fun hc => ?_) (fun hc => ?_)
      · replace h := xt hc h
        refine lv_iconst (v := 0) hC.1 hC.2.1 dX10_whoCan_80 (by decide) ?_
        refine lv_ior hC.1 hC.2.1 dX10_whoCan_81 ?_
        refine lv_istore_n (lv' := [(1, .int (x1 ||| (0 : Int32))), (0, .ref (b + 99)), (2, .int x2), (3, .int x3), (4, .int x4)]) hC.1 hC.2.1 dX10_whoCan_82 rfl hl (by decide) rfl (fun ls hl => ?_)
        refine lv_iinc (v := x2 + 1) (lv' := [(2, .int (x2 + 1)), (1, .int (x1 ||| (0 : Int32))), (0, .ref (b + 99)), (3, .int x3), (4, .int x4)]) hC.1 hC.2.1 dX10_whoCan_83 hl (k := 2) rfl rfl (by decide) rfl (fun ls hl => ?_)
        refine lv_goto (tgt := 4) hC.1 hC.2.1 dX10_whoCan_86 (by decide) ?_
        exact hag4 _ _ _ _ _ _ h hW hS (lv_sub hl [2, 1, 0] rfl)
      · replace h := xf hc h
        refine lv_iconst (v := 1) hC.1 hC.2.1 dX10_whoCan_74 (by decide) ?_
        refine lv_iload_n hC.1 hC.2.1 dX10_whoCan_75 rfl (lv_at hl 2 rfl) ?_
        refine lv_ishl hC.1 hC.2.1 dX10_whoCan_76 ?_
        refine lv_goto (tgt := 81) hC.1 hC.2.1 dX10_whoCan_77 (by decide) ?_
        refine lv_ior hC.1 hC.2.1 dX10_whoCan_81 ?_
        refine lv_istore_n (lv' := [(1, .int (x1 ||| ((1 : Int32) <<< (x2 &&& 31)))), (0, .ref (b + 99)), (2, .int x2), (3, .int x3), (4, .int x4)]) hC.1 hC.2.1 dX10_whoCan_82 rfl hl (by decide) rfl (fun ls hl => ?_)
        refine lv_iinc (v := x2 + 1) (lv' := [(2, .int (x2 + 1)), (1, .int (x1 ||| ((1 : Int32) <<< (x2 &&& 31)))), (0, .ref (b + 99)), (3, .int x3), (4, .int x4)]) hC.1 hC.2.1 dX10_whoCan_83 hl (k := 2) rfl rfl (by decide) rfl (fun ls hl => ?_)
        refine lv_goto (tgt := 4) hC.1 hC.2.1 dX10_whoCan_86 (by decide) ?_
        exact hag4 _ _ _ _ _ _ h hW hS (lv_sub hl [2, 1, 0] rfl)
    · replace h := xf hc h
      refine lv_iload_n hC.1 hC.2.1 dX10_whoCan_28 rfl (lv_at hl 3 rfl) ?_
      refine lv_if_eq (tgt := 61) hC.1 hC.2.1 dX10_whoCan_29 (by decide) (fun hc => ?_) (fun hc => ?_)
      · replace h := xt hc h
        refine lv_iconst (v := 0) hC.1 hC.2.1 dX10_whoCan_61 (by decide) ?_
        refine lv_istore_n (lv' := [(3, .int (0 : Int32)), (0, .ref (b + 99)), (1, .int x1), (2, .int x2), (4, .int x4)]) hC.1 hC.2.1 dX10_whoCan_62 rfl hl (by decide) rfl (fun ls hl => ?_)
        refine lv_iinc (v := x4 + 1) (lv' := [(4, .int (x4 + 1)), (3, .int (0 : Int32)), (0, .ref (b + 99)), (1, .int x1), (2, .int x2)]) hC.1 hC.2.1 dX10_whoCan_63 hl (k := 4) rfl rfl (by decide) rfl (fun ls hl => ?_)
        refine lv_goto (tgt := 19) hC.1 hC.2.1 dX10_whoCan_66 (by decide) ?_
        exact IH _ _ _ _ _ _ _ _ h hW hS (lv_sub hl [2, 3, 4, 1, 0] rfl)
      · replace h := xf hc h
        refine lv_aload_n hC.1 hC.2.1 dX10_whoCan_32 rfl (lv_at hl 0 rfl) ?_
        refine lv_iload_n hC.1 hC.2.1 dX10_whoCan_33 rfl (lv_at hl 2 rfl) ?_
        obtain ⟨⟨q34_r, q34_S⟩, hq, h⟩ := xb h
        try dsimp only at h
        refine x_callV (T := TX10) (N := 27) (As := [.int x2]) (rest := []) hC hW hS 99 (c_X10_keys l D b cs _ _ _ _ hq) (by decide) rfl rfl mi_X10_keys in_X10_keys sl_X10_keys ml_X10_145 ⟨rfl, rfl⟩ ⟨Nat.le_of_ble_eq_true rfl, Nat.le_of_ble_eq_true rfl⟩ ⟨Nat.zero_le _, Nat.zero_le _⟩ rfl rfl hl.1 (Nat.le_of_ble_eq_true rfl) dX10_whoCan_34 (fun H locs hW hS => ?_)
        refine lv_aload_n hC.1 hC.2.1 dX10_whoCan_37 rfl (lv_at hl 0 rfl) ?_
        refine x_get (C := RX10) (T := TX10) (N := 27) (v := _) hC hW 99 (by decide) rfl rfl uX10 24 (by decide) fl_X10_53 rfl rfl dX10_whoCan_38 ?_
        refine lv_iload hC.1 hC.2.1 dX10_whoCan_41 (lv_at hl 4 rfl) ?_
        obtain ⟨hi, h⟩ := xg h
        refine x_iald hC hW 114 (by decide) rfl hi dX10_whoCan_43 ?_
        refine lv_ishr hC.1 hC.2.1 dX10_whoCan_44 ?_
        refine lv_iconst (v := 1) hC.1 hC.2.1 dX10_whoCan_45 (by decide) ?_
        refine lv_iand hC.1 hC.2.1 dX10_whoCan_46 ?_
        refine lv_aload_n hC.1 hC.2.1 dX10_whoCan_47 rfl (lv_at hl 0 rfl) ?_
        refine x_get (C := RX10) (T := TX10) (N := 27) (v := _) hC hW 99 (by decide) rfl rfl uX10 25 (by decide) fl_X10_56 rfl rfl dX10_whoCan_48 ?_
        refine lv_iload hC.1 hC.2.1 dX10_whoCan_51 (lv_at hl 4 rfl) ?_
        obtain ⟨hi, h⟩ := xg h
        refine x_iald hC hW 115 (by decide) rfl hi dX10_whoCan_53 ?_
        refine lv_icmp_ne (tgt := 61) hC.1 hC.2.1 dX10_whoCan_54 (by decide) (fun hc => ?_) (fun hc => ?_)
        · replace h := xf hc h
          refine lv_iconst (v := 0) hC.1 hC.2.1 dX10_whoCan_61 (by decide) ?_
          refine lv_istore_n (lv' := [(3, .int (0 : Int32)), (0, .ref (b + 99)), (1, .int x1), (2, .int x2), (4, .int x4)]) hC.1 hC.2.1 dX10_whoCan_62 rfl hl (by decide) rfl (fun ls hl => ?_)
          refine lv_iinc (v := x4 + 1) (lv' := [(4, .int (x4 + 1)), (3, .int (0 : Int32)), (0, .ref (b + 99)), (1, .int x1), (2, .int x2)]) hC.1 hC.2.1 dX10_whoCan_63 hl (k := 4) rfl rfl (by decide) rfl (fun ls hl => ?_)
          refine lv_goto (tgt := 19) hC.1 hC.2.1 dX10_whoCan_66 (by decide) ?_
          exact IH _ _ _ _ _ _ _ _ h hW hS (lv_sub hl [2, 3, 4, 1, 0] rfl)
        · replace h := xt hc h
          refine lv_iconst (v := 1) hC.1 hC.2.1 dX10_whoCan_57 (by decide) ?_
          refine lv_goto (tgt := 62) hC.1 hC.2.1 dX10_whoCan_58 (by decide) ?_
          refine lv_istore_n (lv' := [(3, .int (1 : Int32)), (0, .ref (b + 99)), (1, .int x1), (2, .int x2), (4, .int x4)]) hC.1 hC.2.1 dX10_whoCan_62 rfl hl (by decide) rfl (fun ls hl => ?_)
          refine lv_iinc (v := x4 + 1) (lv' := [(4, .int (x4 + 1)), (3, .int (1 : Int32)), (0, .ref (b + 99)), (1, .int x1), (2, .int x2)]) hC.1 hC.2.1 dX10_whoCan_63 hl (k := 4) rfl rfl (by decide) rfl (fun ls hl => ?_)
          refine lv_goto (tgt := 19) hC.1 hC.2.1 dX10_whoCan_66 (by decide) ?_
          exact IH _ _ _ _ _ _ _ _ h hW hS (lv_sub hl [2, 3, 4, 1, 0] rfl)
set_option maxHeartbeats 4000000 in
set_option maxRecDepth 100000 in
theorem w_X10_whoCan_4 {p : Program} {l : Launch} {e : Env} {s : State} {m : MethodId} {args : Array Value} {below : List Frame} {meth : Method} {c : Code} {D : va_G} {b : Nat} {cs : Cs3} {r : Int32} {S1 : St} (hC : CX p s m args meth c RX10 cX10_whoCan 5 D cs) (hr : meth.sig.returnType = (some .int)) : ∀ (n : Nat) (x1 : Int32) (x2 : Int32) (S : St) (H : Heap) (locs : List Loc) (ls : Array Slot), q_X10_whoCan_4 n x1 x2 S = some (r, S1) → Wd D b cs S H → va_S (AA b) s.heap H locs → lv_has ls 5 [(0, .ref (b + 99)), (1, .int x1), (2, .int x2)] → W p l e rX10_whoCan s m args below meth c H locs 0 0 (MQ below (QX D b cs (some (.int r)) S1) args s 0 0 (AA b)) (F0 m 4 ls []) := by
  intro n
  induction n with
  | zero =>
    intro x1 x2 S H locs ls h
    exact absurd h (by rw [q_X10_whoCan_4]; exact fun q => nomatch q)
  | succ n IH =>
    intro x1 x2 S H locs ls h hW hS hl
    rw [q_X10_whoCan_4] at h
    refine lv_iload_n hC.1 hC.2.1 dX10_whoCan_4 rfl (lv_at hl 2 rfl) ?_
    refine lv_aload_n hC.1 hC.2.1 dX10_whoCan_5 rfl (lv_at hl 0 rfl) ?_
    refine x_get (C := RX10) (T := TX10) (N := 27) (v := _) hC hW 99 (by decide) rfl rfl uX10 10 (by decide) fl_X10_13 rfl rfl dX10_whoCan_6 ?_
    refine lv_iconst (v := 2) hC.1 hC.2.1 dX10_whoCan_9 (by decide) ?_
    obtain ⟨hi, h⟩ := xg h
    refine x_iald hC hW 101 (by decide) rfl hi dX10_whoCan_10 ?_
    refine lv_icmp_ge (tgt := 89) hC.1 hC.2.1 dX10_whoCan_11 (by decide) (fun hc => ?_) (fun hc => ?_)
    · replace h := xt hc h
      refine lv_iload_n hC.1 hC.2.1 dX10_whoCan_89 rfl (lv_at hl 1 rfl) ?_
      obtain ⟨rfl, rfl⟩ := xr h
      exact x_iret hC hr hW hS dX10_whoCan_90
    · replace h := xf hc h
      refine lv_iconst (v := 1) hC.1 hC.2.1 dX10_whoCan_14 (by decide) ?_
      refine lv_istore_n (lv' := [(3, .int (1 : Int32)), (0, .ref (b + 99)), (1, .int x1), (2, .int x2)]) hC.1 hC.2.1 dX10_whoCan_15 rfl hl (by decide) rfl (fun ls hl => ?_)
      refine lv_iconst (v := 0) hC.1 hC.2.1 dX10_whoCan_16 (by decide) ?_
      refine lv_istore (lv' := [(4, .int (0 : Int32)), (3, .int (1 : Int32)), (0, .ref (b + 99)), (1, .int x1), (2, .int x2)]) hC.1 hC.2.1 dX10_whoCan_17 hl (by decide) rfl (fun ls hl => ?_)
      exact w_X10_whoCan_19 hC hr IH _ _ _ _ _ _ _ _ _ h hW hS (lv_sub hl [2, 3, 4, 1, 0] rfl)
set_option maxHeartbeats 4000000 in
set_option maxRecDepth 100000 in
theorem c_X10_whoCan (l : Launch) (D : va_G) (b : Nat) (cs : Cs3) (S S1 : St) (r : Int32) (h : p_X10_whoCan S = some (r, S1)) : Ct l yX10_whoCan cX10_whoCan 5 (some .int) rX10_whoCan D b cs [.ref (b + 99)] S (some (.int r)) S1 := by
  refine x_met (by decide +kernel) (Nat.le_of_ble_eq_true rfl) ?_
  intro p e s m below meth c ls hC hr hW hS hl
  have hl : lv_has ls 5 [(0, .ref (b + 99))] := hl
  rw [p_X10_whoCan] at h
  refine lv_iconst (v := 0) hC.1 hC.2.1 dX10_whoCan_0 (by decide) ?_
  refine lv_istore_n (lv' := [(1, .int (0 : Int32)), (0, .ref (b + 99))]) hC.1 hC.2.1 dX10_whoCan_1 rfl hl (by decide) rfl (fun ls hl => ?_)
  refine lv_iconst (v := 0) hC.1 hC.2.1 dX10_whoCan_2 (by decide) ?_
  refine lv_istore_n (lv' := [(2, .int (0 : Int32)), (1, .int (0 : Int32)), (0, .ref (b + 99))]) hC.1 hC.2.1 dX10_whoCan_3 rfl hl (by decide) rfl (fun ls hl => ?_)
  exact w_X10_whoCan_4 hC hr _ _ _ _ _ _ _ h hW hS (lv_sub hl [2, 1, 0] rfl)
theorem dX10_who_0 : decode cX10_who 0 = .ok (.aload_n 0, 1) := by decide +kernel
theorem dX10_who_1 : decode cX10_who 1 = .ok (.iconst 0, 1) := by decide +kernel
theorem dX10_who_2 : decode cX10_who 2 = .ok (.putfield 65, 3) := by decide +kernel
theorem dX10_who_5 : decode cX10_who 5 = .ok (.aload_n 0, 1) := by decide +kernel
theorem dX10_who_6 : decode cX10_who 6 = .ok (.invokevirtual 201, 3) := by decide +kernel
theorem dX10_who_9 : decode cX10_who 9 = .ok (.ireturn, 1) := by decide +kernel
abbrev rX10_who : Room := { frames := 4, cells := 0, slots := 0, locals := 95 }
set_option maxHeartbeats 4000000 in
set_option maxRecDepth 100000 in
theorem c_X10_who (l : Launch) (D : va_G) (b : Nat) (cs : Cs3) (S S1 : St) (r : Int32) (h : p_X10_who S = some (r, S1)) : Ct l yX10_who cX10_who 1 (some .int) rX10_who D b cs [.ref (b + 99)] S (some (.int r)) S1 := by
  refine x_met (by decide +kernel) (Nat.le_of_ble_eq_true rfl) ?_
  intro p e s m below meth c ls hC hr hW hS hl
  have hl : lv_has ls 1 [(0, .ref (b + 99))] := hl
  rw [p_X10_who] at h
  refine lv_aload_n hC.1 hC.2.1 dX10_who_0 rfl (lv_at hl 0 rfl) ?_
  refine lv_iconst (v := 0) hC.1 hC.2.1 dX10_who_1 (by decide) ?_
  refine x_puti (C := RX10) (T := TX10) (N := 27) (ty := .int) hC hW hS 99 (by decide) rfl rfl uX10 tyX10 tyX10_ok nmX10 0 (by decide) fl_X10_65 rfl (by decide +kernel) rfl rfl rfl dX10_who_2 (fun H locs hW hS => ?_)
  refine lv_aload_n hC.1 hC.2.1 dX10_who_5 rfl (lv_at hl 0 rfl) ?_
  obtain ⟨⟨q6_r, q6_S⟩, hq, h⟩ := xb h
  try dsimp only at h
  refine x_callV (T := TX10) (N := 27) (As := []) (rest := []) hC hW hS 99 (c_X10_whoCan l D b cs _ _ _ hq) (by decide) rfl rfl mi_X10_whoCan in_X10_whoCan sl_X10_whoCan ml_X10_201 ⟨rfl, rfl⟩ ⟨Nat.le_of_ble_eq_true rfl, Nat.le_of_ble_eq_true rfl⟩ ⟨Nat.zero_le _, Nat.zero_le _⟩ rfl rfl hl.1 (Nat.le_of_ble_eq_true rfl) dX10_who_6 (fun H locs hW hS => ?_)
  obtain ⟨rfl, rfl⟩ := xr h
  exact x_iret hC hr hW hS dX10_who_9
theorem dX10_ask_0 : decode cX10_ask 0 = .ok (.aload_n 0, 1) := by decide +kernel
theorem dX10_ask_1 : decode cX10_ask 1 = .ok (.iconst 0, 1) := by decide +kernel
theorem dX10_ask_2 : decode cX10_ask 2 = .ok (.putfield 65, 3) := by decide +kernel
theorem dX10_ask_5 : decode cX10_ask 5 = .ok (.aload_n 0, 1) := by decide +kernel
theorem dX10_ask_6 : decode cX10_ask 6 = .ok (.invokevirtual 201, 3) := by decide +kernel
theorem dX10_ask_9 : decode cX10_ask 9 = .ok (.istore_n 1, 1) := by decide +kernel
theorem dX10_ask_10 : decode cX10_ask 10 = .ok (.iload_n 1, 1) := by decide +kernel
theorem dX10_ask_11 : decode cX10_ask 11 = .ok (.invokestatic 167, 3) := by decide +kernel
theorem dX10_ask_14 : decode cX10_ask 14 = .ok (.istore_n 2, 1) := by decide +kernel
theorem dX10_ask_15 : decode cX10_ask 15 = .ok (.bipush (-9), 2) := by decide +kernel
theorem dX10_ask_17 : decode cX10_ask 17 = .ok (.istore_n 3, 1) := by decide +kernel
theorem dX10_ask_18 : decode cX10_ask 18 = .ok (.bipush 99, 2) := by decide +kernel
theorem dX10_ask_20 : decode cX10_ask 20 = .ok (.istore 4, 2) := by decide +kernel
theorem dX10_ask_22 : decode cX10_ask 22 = .ok (.iconst 0, 1) := by decide +kernel
theorem dX10_ask_23 : decode cX10_ask 23 = .ok (.istore 5, 2) := by decide +kernel
theorem dX10_ask_25 : decode cX10_ask 25 = .ok (.iload 5, 2) := by decide +kernel
theorem dX10_ask_27 : decode cX10_ask 27 = .ok (.aload_n 0, 1) := by decide +kernel
theorem dX10_ask_28 : decode cX10_ask 28 = .ok (.getfield 13, 3) := by decide +kernel
theorem dX10_ask_31 : decode cX10_ask 31 = .ok (.iconst 1, 1) := by decide +kernel
theorem dX10_ask_32 : decode cX10_ask 32 = .ok (.iaload, 1) := by decide +kernel
theorem dX10_ask_33 : decode cX10_ask 33 = .ok (.if_icmp .ge 77, 3) := by decide +kernel
theorem dX10_ask_36 : decode cX10_ask 36 = .ok (.iload_n 2, 1) := by decide +kernel
theorem dX10_ask_37 : decode cX10_ask 37 = .ok (.iconst 1, 1) := by decide +kernel
theorem dX10_ask_38 : decode cX10_ask 38 = .ok (.if_icmp .le 72, 3) := by decide +kernel
theorem dX10_ask_41 : decode cX10_ask 41 = .ok (.iload_n 1, 1) := by decide +kernel
theorem dX10_ask_42 : decode cX10_ask 42 = .ok (.aload_n 0, 1) := by decide +kernel
theorem dX10_ask_43 : decode cX10_ask 43 = .ok (.iload 5, 2) := by decide +kernel
theorem dX10_ask_45 : decode cX10_ask 45 = .ok (.invokevirtual 157, 3) := by decide +kernel
theorem dX10_ask_48 : decode cX10_ask 48 = .ok (.iand, 1) := by decide +kernel
theorem dX10_ask_49 : decode cX10_ask 49 = .ok (.invokestatic 167, 3) := by decide +kernel
theorem dX10_ask_52 : decode cX10_ask 52 = .ok (.istore 6, 2) := by decide +kernel
theorem dX10_ask_54 : decode cX10_ask 54 = .ok (.iload 6, 2) := by decide +kernel
theorem dX10_ask_56 : decode cX10_ask 56 = .ok (.iload_n 2, 1) := by decide +kernel
theorem dX10_ask_57 : decode cX10_ask 57 = .ok (.iload 6, 2) := by decide +kernel
theorem dX10_ask_59 : decode cX10_ask 59 = .ok (.isub, 1) := by decide +kernel
theorem dX10_ask_60 : decode cX10_ask 60 = .ok (.if_icmp .le 8, 3) := by decide +kernel
theorem dX10_ask_63 : decode cX10_ask 63 = .ok (.iload 6, 2) := by decide +kernel
theorem dX10_ask_65 : decode cX10_ask 65 = .ok (.goto 7, 3) := by decide +kernel
theorem dX10_ask_68 : decode cX10_ask 68 = .ok (.iload_n 2, 1) := by decide +kernel
theorem dX10_ask_69 : decode cX10_ask 69 = .ok (.iload 6, 2) := by decide +kernel
theorem dX10_ask_71 : decode cX10_ask 71 = .ok (.isub, 1) := by decide +kernel
theorem dX10_ask_72 : decode cX10_ask 72 = .ok (.istore 7, 2) := by decide +kernel
theorem dX10_ask_74 : decode cX10_ask 74 = .ok (.iload 7, 2) := by decide +kernel
theorem dX10_ask_76 : decode cX10_ask 76 = .ok (.iload 4, 2) := by decide +kernel
theorem dX10_ask_78 : decode cX10_ask 78 = .ok (.if_icmp .ge 8, 3) := by decide +kernel
theorem dX10_ask_81 : decode cX10_ask 81 = .ok (.iload 5, 2) := by decide +kernel
theorem dX10_ask_83 : decode cX10_ask 83 = .ok (.goto 4, 3) := by decide +kernel
theorem dX10_ask_86 : decode cX10_ask 86 = .ok (.iload_n 3, 1) := by decide +kernel
theorem dX10_ask_87 : decode cX10_ask 87 = .ok (.istore_n 3, 1) := by decide +kernel
theorem dX10_ask_88 : decode cX10_ask 88 = .ok (.iload 7, 2) := by decide +kernel
theorem dX10_ask_90 : decode cX10_ask 90 = .ok (.iload 4, 2) := by decide +kernel
theorem dX10_ask_92 : decode cX10_ask 92 = .ok (.if_icmp .ge 8, 3) := by decide +kernel
theorem dX10_ask_95 : decode cX10_ask 95 = .ok (.iload 7, 2) := by decide +kernel
theorem dX10_ask_97 : decode cX10_ask 97 = .ok (.goto 5, 3) := by decide +kernel
theorem dX10_ask_100 : decode cX10_ask 100 = .ok (.iload 4, 2) := by decide +kernel
theorem dX10_ask_102 : decode cX10_ask 102 = .ok (.istore 4, 2) := by decide +kernel
theorem dX10_ask_104 : decode cX10_ask 104 = .ok (.iinc 5 1, 3) := by decide +kernel
theorem dX10_ask_107 : decode cX10_ask 107 = .ok (.goto (-82), 3) := by decide +kernel
theorem dX10_ask_110 : decode cX10_ask 110 = .ok (.iload_n 3, 1) := by decide +kernel
theorem dX10_ask_111 : decode cX10_ask 111 = .ok (.ireturn, 1) := by decide +kernel
abbrev rX10_ask : Room := { frames := 4, cells := 0, slots := 0, locals := 95 }
set_option maxHeartbeats 4000000 in
set_option maxRecDepth 100000 in
theorem w_X10_ask_87 {p : Program} {l : Launch} {e : Env} {s : State} {m : MethodId} {args : Array Value} {below : List Frame} {meth : Method} {c : Code} {D : va_G} {b : Nat} {cs : Cs3} {r : Int32} {S1 : St} {ag25 : Int32 → Int32 → Int32 → Int32 → Int32 → St → Option (Int32 × St)} (hC : CX p s m args meth c RX10 cX10_ask 8 D cs) (hr : meth.sig.returnType = (some .int)) (hag25 : ∀ (x1 : Int32) (x2 : Int32) (x3 : Int32) (x4 : Int32) (x5 : Int32) (S : St) (H : Heap) (locs : List Loc) (ls : Array Slot), ag25 x1 x2 x3 x4 x5 S = some (r, S1) → Wd D b cs S H → va_S (AA b) s.heap H locs → lv_has ls 8 [(0, .ref (b + 99)), (1, .int x1), (2, .int x2), (3, .int x3), (4, .int x4), (5, .int x5)] → W p l e rX10_ask s m args below meth c H locs 0 0 (MQ below (QX D b cs (some (.int r)) S1) args s 0 0 (AA b)) (F0 m 25 ls [])) : ∀ (x1 : Int32) (x2 : Int32) (x4 : Int32) (x5 : Int32) (x7 : Int32) (y0 : Int32) (S : St) (H : Heap) (locs : List Loc) (ls : Array Slot), q_X10_ask_87 ag25 x1 x2 x4 x5 x7 y0 S = some (r, S1) → Wd D b cs S H → va_S (AA b) s.heap H locs → lv_has ls 8 [(0, .ref (b + 99)), (1, .int x1), (2, .int x2), (4, .int x4), (5, .int x5), (7, .int x7)] → W p l e rX10_ask s m args below meth c H locs 0 0 (MQ below (QX D b cs (some (.int r)) S1) args s 0 0 (AA b)) (F0 m 87 ls [.int y0]) := by
  intro x1 x2 x4 x5 x7 y0 S H locs ls h hW hS hl
  rw [q_X10_ask_87] at h
  refine lv_istore_n (lv' := [(3, .int y0), (0, .ref (b + 99)), (1, .int x1), (2, .int x2), (4, .int x4), (5, .int x5), (7, .int x7)]) hC.1 hC.2.1 dX10_ask_87 rfl hl (by decide) rfl (fun ls hl => ?_)
  refine lv_iload hC.1 hC.2.1 dX10_ask_88 (lv_at hl 6 rfl) ?_
  refine lv_iload hC.1 hC.2.1 dX10_ask_90 (lv_at hl 4 rfl) ?_
  refine lv_icmp_ge (tgt := 100) hC.1 hC.2.1 dX10_ask_92 (by decide) (fun hc => ?_) (fun hc => ?_)
  · replace h := xt hc h
    refine lv_iload hC.1 hC.2.1 dX10_ask_100 (lv_at hl 4 rfl) ?_
    refine lv_istore (lv' := [(4, .int x4), (3, .int y0), (0, .ref (b + 99)), (1, .int x1), (2, .int x2), (5, .int x5), (7, .int x7)]) hC.1 hC.2.1 dX10_ask_102 hl (by decide) rfl (fun ls hl => ?_)
    refine lv_iinc (v := x5 + 1) (lv' := [(5, .int (x5 + 1)), (4, .int x4), (3, .int y0), (0, .ref (b + 99)), (1, .int x1), (2, .int x2), (7, .int x7)]) hC.1 hC.2.1 dX10_ask_104 hl (k := 5) rfl rfl (by decide) rfl (fun ls hl => ?_)
    refine lv_goto (tgt := 25) hC.1 hC.2.1 dX10_ask_107 (by decide) ?_
    exact hag25 _ _ _ _ _ _ _ _ _ h hW hS (lv_sub hl [3, 4, 5, 2, 1, 0] rfl)
  · replace h := xf hc h
    refine lv_iload hC.1 hC.2.1 dX10_ask_95 (lv_at hl 6 rfl) ?_
    refine lv_goto (tgt := 102) hC.1 hC.2.1 dX10_ask_97 (by decide) ?_
    refine lv_istore (lv' := [(4, .int x7), (3, .int y0), (0, .ref (b + 99)), (1, .int x1), (2, .int x2), (5, .int x5), (7, .int x7)]) hC.1 hC.2.1 dX10_ask_102 hl (by decide) rfl (fun ls hl => ?_)
    refine lv_iinc (v := x5 + 1) (lv' := [(5, .int (x5 + 1)), (4, .int x7), (3, .int y0), (0, .ref (b + 99)), (1, .int x1), (2, .int x2), (7, .int x7)]) hC.1 hC.2.1 dX10_ask_104 hl (k := 5) rfl rfl (by decide) rfl (fun ls hl => ?_)
    refine lv_goto (tgt := 25) hC.1 hC.2.1 dX10_ask_107 (by decide) ?_
    exact hag25 _ _ _ _ _ _ _ _ _ h hW hS (lv_sub hl [3, 4, 5, 2, 1, 0] rfl)
set_option maxHeartbeats 4000000 in
set_option maxRecDepth 100000 in
theorem w_X10_ask_72 {p : Program} {l : Launch} {e : Env} {s : State} {m : MethodId} {args : Array Value} {below : List Frame} {meth : Method} {c : Code} {D : va_G} {b : Nat} {cs : Cs3} {r : Int32} {S1 : St} {ag25 : Int32 → Int32 → Int32 → Int32 → Int32 → St → Option (Int32 × St)} (hC : CX p s m args meth c RX10 cX10_ask 8 D cs) (hr : meth.sig.returnType = (some .int)) (hag25 : ∀ (x1 : Int32) (x2 : Int32) (x3 : Int32) (x4 : Int32) (x5 : Int32) (S : St) (H : Heap) (locs : List Loc) (ls : Array Slot), ag25 x1 x2 x3 x4 x5 S = some (r, S1) → Wd D b cs S H → va_S (AA b) s.heap H locs → lv_has ls 8 [(0, .ref (b + 99)), (1, .int x1), (2, .int x2), (3, .int x3), (4, .int x4), (5, .int x5)] → W p l e rX10_ask s m args below meth c H locs 0 0 (MQ below (QX D b cs (some (.int r)) S1) args s 0 0 (AA b)) (F0 m 25 ls [])) : ∀ (x1 : Int32) (x2 : Int32) (x3 : Int32) (x4 : Int32) (x5 : Int32) (y0 : Int32) (S : St) (H : Heap) (locs : List Loc) (ls : Array Slot), q_X10_ask_72 ag25 x1 x2 x3 x4 x5 y0 S = some (r, S1) → Wd D b cs S H → va_S (AA b) s.heap H locs → lv_has ls 8 [(0, .ref (b + 99)), (1, .int x1), (2, .int x2), (3, .int x3), (4, .int x4), (5, .int x5)] → W p l e rX10_ask s m args below meth c H locs 0 0 (MQ below (QX D b cs (some (.int r)) S1) args s 0 0 (AA b)) (F0 m 72 ls [.int y0]) := by
  intro x1 x2 x3 x4 x5 y0 S H locs ls h hW hS hl
  rw [q_X10_ask_72] at h
  refine lv_istore (lv' := [(7, .int y0), (0, .ref (b + 99)), (1, .int x1), (2, .int x2), (3, .int x3), (4, .int x4), (5, .int x5)]) hC.1 hC.2.1 dX10_ask_72 hl (by decide) rfl (fun ls hl => ?_)
  refine lv_iload hC.1 hC.2.1 dX10_ask_74 (lv_at hl 0 rfl) ?_
  refine lv_iload hC.1 hC.2.1 dX10_ask_76 (lv_at hl 5 rfl) ?_
  refine lv_icmp_ge (tgt := 86) hC.1 hC.2.1 dX10_ask_78 (by decide) (fun hc => ?_) (fun hc => ?_)
  · replace h := xt hc h
    refine lv_iload_n hC.1 hC.2.1 dX10_ask_86 rfl (lv_at hl 4 rfl) ?_
    exact w_X10_ask_87 hC hr hag25 _ _ _ _ _ _ _ _ _ _ h hW hS (lv_sub hl [1, 2, 3, 5, 6, 0] rfl)
  · replace h := xf hc h
    refine lv_iload hC.1 hC.2.1 dX10_ask_81 (lv_at hl 6 rfl) ?_
    refine lv_goto (tgt := 87) hC.1 hC.2.1 dX10_ask_83 (by decide) ?_
    exact w_X10_ask_87 hC hr hag25 _ _ _ _ _ _ _ _ _ _ h hW hS (lv_sub hl [1, 2, 3, 5, 6, 0] rfl)
set_option maxHeartbeats 4000000 in
set_option maxRecDepth 100000 in
theorem w_X10_ask_25 {p : Program} {l : Launch} {e : Env} {s : State} {m : MethodId} {args : Array Value} {below : List Frame} {meth : Method} {c : Code} {D : va_G} {b : Nat} {cs : Cs3} {r : Int32} {S1 : St} (hC : CX p s m args meth c RX10 cX10_ask 8 D cs) (hr : meth.sig.returnType = (some .int)) : ∀ (n : Nat) (x1 : Int32) (x2 : Int32) (x3 : Int32) (x4 : Int32) (x5 : Int32) (S : St) (H : Heap) (locs : List Loc) (ls : Array Slot), q_X10_ask_25 n x1 x2 x3 x4 x5 S = some (r, S1) → Wd D b cs S H → va_S (AA b) s.heap H locs → lv_has ls 8 [(0, .ref (b + 99)), (1, .int x1), (2, .int x2), (3, .int x3), (4, .int x4), (5, .int x5)] → W p l e rX10_ask s m args below meth c H locs 0 0 (MQ below (QX D b cs (some (.int r)) S1) args s 0 0 (AA b)) (F0 m 25 ls []) := by
  intro n
  induction n with
  | zero =>
    intro x1 x2 x3 x4 x5 S H locs ls h
    exact absurd h (by rw [q_X10_ask_25]; exact fun q => nomatch q)
  | succ n IH =>
    intro x1 x2 x3 x4 x5 S H locs ls h hW hS hl
    rw [q_X10_ask_25] at h
    refine lv_iload hC.1 hC.2.1 dX10_ask_25 (lv_at hl 5 rfl) ?_
    refine lv_aload_n hC.1 hC.2.1 dX10_ask_27 rfl (lv_at hl 0 rfl) ?_
    refine x_get (C := RX10) (T := TX10) (N := 27) (v := _) hC hW 99 (by decide) rfl rfl uX10 10 (by decide) fl_X10_13 rfl rfl dX10_ask_28 ?_
    refine lv_iconst (v := 1) hC.1 hC.2.1 dX10_ask_31 (by decide) ?_
    obtain ⟨hi, h⟩ := xg h
    refine x_iald hC hW 101 (by decide) rfl hi dX10_ask_32 ?_
    refine lv_icmp_ge (tgt := 110) hC.1 hC.2.1 dX10_ask_33 (by decide) (fun hc => ?_) (fun hc => ?_)
    · replace h := xt hc h
      refine lv_iload_n hC.1 hC.2.1 dX10_ask_110 rfl (lv_at hl 3 rfl) ?_
      obtain ⟨rfl, rfl⟩ := xr h
      exact x_iret hC hr hW hS dX10_ask_111
    · replace h := xf hc h
      refine lv_iload_n hC.1 hC.2.1 dX10_ask_36 rfl (lv_at hl 2 rfl) ?_
      refine lv_iconst (v := 1) hC.1 hC.2.1 dX10_ask_37 (by decide) ?_
      refine lv_icmp_le (tgt := 110) hC.1 hC.2.1 dX10_ask_38 (by decide) (fun hc => ?_) (fun hc => ?_)
      · replace h := xt hc h
        refine lv_iload_n hC.1 hC.2.1 dX10_ask_110 rfl (lv_at hl 3 rfl) ?_
        obtain ⟨rfl, rfl⟩ := xr h
        exact x_iret hC hr hW hS dX10_ask_111
      · replace h := xf hc h
        refine lv_iload_n hC.1 hC.2.1 dX10_ask_41 rfl (lv_at hl 1 rfl) ?_
        refine lv_aload_n hC.1 hC.2.1 dX10_ask_42 rfl (lv_at hl 0 rfl) ?_
        refine lv_iload hC.1 hC.2.1 dX10_ask_43 (lv_at hl 5 rfl) ?_
        obtain ⟨⟨q45_r, q45_S⟩, hq, h⟩ := xb h
        try dsimp only at h
        refine x_callV (T := TX10) (N := 27) (As := [.int x5]) (rest := [.int x1]) hC hW hS 99 (c_X10_openers l D b cs _ _ _ _ hq) (by decide) rfl rfl mi_X10_openers in_X10_openers sl_X10_openers ml_X10_157 ⟨rfl, rfl⟩ ⟨Nat.le_of_ble_eq_true rfl, Nat.le_of_ble_eq_true rfl⟩ ⟨Nat.zero_le _, Nat.zero_le _⟩ rfl rfl hl.1 (Nat.le_of_ble_eq_true rfl) dX10_ask_45 (fun H locs hW hS => ?_)
        refine lv_iand hC.1 hC.2.1 dX10_ask_48 ?_
        obtain ⟨⟨q49_r, q49_S⟩, hq, h⟩ := xb h
        try dsimp only at h
        refine x_callS (As := [.int (x1 &&& q45_r)]) (rest := []) hC hW hS (c_X10_ones l D b cs _ _ _ _ hq) mi_X10_ones st_X10_ones ml_X10_167 ⟨rfl, rfl⟩ ⟨Nat.le_of_ble_eq_true rfl, Nat.le_of_ble_eq_true rfl⟩ ⟨Nat.zero_le _, Nat.zero_le _⟩ rfl rfl hl.1 (Nat.le_of_ble_eq_true rfl) dX10_ask_49 (fun H locs hW hS => ?_)
        refine lv_istore (lv' := [(6, .int q49_r), (0, .ref (b + 99)), (1, .int x1), (2, .int x2), (3, .int x3), (4, .int x4), (5, .int x5)]) hC.1 hC.2.1 dX10_ask_52 hl (by decide) rfl (fun ls hl => ?_)
        refine lv_iload hC.1 hC.2.1 dX10_ask_54 (lv_at hl 0 rfl) ?_
        refine lv_iload_n hC.1 hC.2.1 dX10_ask_56 rfl (lv_at hl 3 rfl) ?_
        refine lv_iload hC.1 hC.2.1 dX10_ask_57 (lv_at hl 0 rfl) ?_
        refine lv_isub hC.1 hC.2.1 dX10_ask_59 ?_
        refine lv_icmp_le (tgt := 68) hC.1 hC.2.1 dX10_ask_60 (by decide) (fun hc => ?_) (fun hc => ?_)
        · replace h := xt hc h
          refine lv_iload_n hC.1 hC.2.1 dX10_ask_68 rfl (lv_at hl 3 rfl) ?_
          refine lv_iload hC.1 hC.2.1 dX10_ask_69 (lv_at hl 0 rfl) ?_
          refine lv_isub hC.1 hC.2.1 dX10_ask_71 ?_
          exact w_X10_ask_72 hC hr IH _ _ _ _ _ _ _ _ _ _ h hW hS (lv_sub hl [1, 2, 3, 4, 5, 6] rfl)
        · replace h := xf hc h
          refine lv_iload hC.1 hC.2.1 dX10_ask_63 (lv_at hl 0 rfl) ?_
          refine lv_goto (tgt := 72) hC.1 hC.2.1 dX10_ask_65 (by decide) ?_
          exact w_X10_ask_72 hC hr IH _ _ _ _ _ _ _ _ _ _ h hW hS (lv_sub hl [1, 2, 3, 4, 5, 6] rfl)
set_option maxHeartbeats 4000000 in
set_option maxRecDepth 100000 in
theorem c_X10_ask (l : Launch) (D : va_G) (b : Nat) (cs : Cs3) (S S1 : St) (r : Int32) (h : p_X10_ask S = some (r, S1)) : Ct l yX10_ask cX10_ask 8 (some .int) rX10_ask D b cs [.ref (b + 99)] S (some (.int r)) S1 := by
  refine x_met (by decide +kernel) (Nat.le_of_ble_eq_true rfl) ?_
  intro p e s m below meth c ls hC hr hW hS hl
  have hl : lv_has ls 8 [(0, .ref (b + 99))] := hl
  rw [p_X10_ask] at h
  refine lv_aload_n hC.1 hC.2.1 dX10_ask_0 rfl (lv_at hl 0 rfl) ?_
  refine lv_iconst (v := 0) hC.1 hC.2.1 dX10_ask_1 (by decide) ?_
  refine x_puti (C := RX10) (T := TX10) (N := 27) (ty := .int) hC hW hS 99 (by decide) rfl rfl uX10 tyX10 tyX10_ok nmX10 0 (by decide) fl_X10_65 rfl (by decide +kernel) rfl rfl rfl dX10_ask_2 (fun H locs hW hS => ?_)
  refine lv_aload_n hC.1 hC.2.1 dX10_ask_5 rfl (lv_at hl 0 rfl) ?_
  obtain ⟨⟨q6_r, q6_S⟩, hq, h⟩ := xb h
  try dsimp only at h
  refine x_callV (T := TX10) (N := 27) (As := []) (rest := []) hC hW hS 99 (c_X10_whoCan l D b cs _ _ _ hq) (by decide) rfl rfl mi_X10_whoCan in_X10_whoCan sl_X10_whoCan ml_X10_201 ⟨rfl, rfl⟩ ⟨Nat.le_of_ble_eq_true rfl, Nat.le_of_ble_eq_true rfl⟩ ⟨Nat.zero_le _, Nat.zero_le _⟩ rfl rfl hl.1 (Nat.le_of_ble_eq_true rfl) dX10_ask_6 (fun H locs hW hS => ?_)
  refine lv_istore_n (lv' := [(1, .int q6_r), (0, .ref (b + 99))]) hC.1 hC.2.1 dX10_ask_9 rfl hl (by decide) rfl (fun ls hl => ?_)
  refine lv_iload_n hC.1 hC.2.1 dX10_ask_10 rfl (lv_at hl 0 rfl) ?_
  obtain ⟨⟨q11_r, q11_S⟩, hq, h⟩ := xb h
  try dsimp only at h
  refine x_callS (As := [.int q6_r]) (rest := []) hC hW hS (c_X10_ones l D b cs _ _ _ _ hq) mi_X10_ones st_X10_ones ml_X10_167 ⟨rfl, rfl⟩ ⟨Nat.le_of_ble_eq_true rfl, Nat.le_of_ble_eq_true rfl⟩ ⟨Nat.zero_le _, Nat.zero_le _⟩ rfl rfl hl.1 (Nat.le_of_ble_eq_true rfl) dX10_ask_11 (fun H locs hW hS => ?_)
  refine lv_istore_n (lv' := [(2, .int q11_r), (1, .int q6_r), (0, .ref (b + 99))]) hC.1 hC.2.1 dX10_ask_14 rfl hl (by decide) rfl (fun ls hl => ?_)
  refine lv_bipush (v := -9) hC.1 hC.2.1 dX10_ask_15 (by decide) ?_
  refine lv_istore_n (lv' := [(3, .int (-9 : Int32)), (2, .int q11_r), (1, .int q6_r), (0, .ref (b + 99))]) hC.1 hC.2.1 dX10_ask_17 rfl hl (by decide) rfl (fun ls hl => ?_)
  refine lv_bipush (v := 99) hC.1 hC.2.1 dX10_ask_18 (by decide) ?_
  refine lv_istore (lv' := [(4, .int (99 : Int32)), (3, .int (-9 : Int32)), (2, .int q11_r), (1, .int q6_r), (0, .ref (b + 99))]) hC.1 hC.2.1 dX10_ask_20 hl (by decide) rfl (fun ls hl => ?_)
  refine lv_iconst (v := 0) hC.1 hC.2.1 dX10_ask_22 (by decide) ?_
  refine lv_istore (lv' := [(5, .int (0 : Int32)), (4, .int (99 : Int32)), (3, .int (-9 : Int32)), (2, .int q11_r), (1, .int q6_r), (0, .ref (b + 99))]) hC.1 hC.2.1 dX10_ask_23 hl (by decide) rfl (fun ls hl => ?_)
  exact w_X10_ask_25 hC hr _ _ _ _ _ _ _ _ _ _ h hW hS (lv_sub hl [5, 4, 3, 2, 1, 0] rfl)
