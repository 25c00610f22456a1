theorem in_obj : Cond.instanceMethod Lib.objectInit ∈ TB := TBm 71 (by decide +kernel) rfl
theorem cw_obj : Cond.code Lib.objectInit ⟨#[0xb1]⟩ 1 none ∈ TB := TBm 72 (by decide +kernel) rfl
theorem ml_X7_3 : Cond.methodLink RX7 3 Lib.objectInit ∈ TB := TBm 78 (by decide +kernel) rfl
theorem aw_int : Cond.arrayClass .int ∈ TB := TBm 103 (by decide +kernel) rfl
theorem ml_X2_3 : Cond.methodLink RX2 3 Lib.objectInit ∈ TB := TBm 109 (by decide +kernel) rfl
theorem ml_X8_3 : Cond.methodLink RX8 3 Lib.objectInit ∈ TB := TBm 188 (by decide +kernel) rfl
theorem ml_X1_3 : Cond.methodLink RX1 3 Lib.objectInit ∈ TB := TBm 246 (by decide +kernel) rfl
theorem ml_X4_3 : Cond.methodLink RX4 3 Lib.objectInit ∈ TB := TBm 263 (by decide +kernel) rfl
theorem ml_X0_3 : Cond.methodLink RX0 3 Lib.objectInit ∈ TB := TBm 276 (by decide +kernel) rfl
theorem ml_X3_3 : Cond.methodLink RX3 3 Lib.objectInit ∈ TB := TBm 294 (by decide +kernel) rfl
theorem ml_X5_3 : Cond.methodLink RX5 3 Lib.objectInit ∈ TB := TBm 314 (by decide +kernel) rfl
theorem ml_X6_3 : Cond.methodLink RX6 3 Lib.objectInit ∈ TB := TBm 226 (by decide +kernel) rfl
theorem cl_X6_18 : Cond.classLink RX6 18 "ChoristerKeys$Scene" ∈ TB := TBm 227 (by decide +kernel) rfl
theorem nw_X8 : Cond.instantiable RX8 6 ∈ TB := TBm 184 (by decide +kernel) rfl
theorem ml_X6_24 : Cond.methodLinkNest RX6 24 yX8_init "ChoristerKeys" ∈ NT := NTm 229 (by decide +kernel) rfl
theorem cw_X8_init : Cond.code yX8_init cX8_init 1 none ∈ TB := TBm 187 (by decide +kernel) rfl
theorem mi_X8_init : MI yX8_init cX8_init 1 none 0 := ⟨cw_X8_init, iw_X8, by decide +kernel, by decide +kernel, by decide +kernel⟩
theorem in_X8_init : Cond.instanceMethod yX8_init ∈ TB := TBm 186 (by decide +kernel) rfl
theorem ml_X9_1 : Cond.methodLink RX9 1 Lib.objectInit ∈ TB := TBm 70 (by decide +kernel) rfl
theorem cl_X9_7 : Cond.classLink RX9 7 RX7 ∈ TB := TBm 73 (by decide +kernel) rfl
theorem nw_X7 : Cond.instantiable RX7 7 ∈ TB := TBm 74 (by decide +kernel) rfl
theorem ml_X9_9 : Cond.methodLinkNest RX9 9 yX7_init "ChoristerKeys" ∈ NT := NTm 75 (by decide +kernel) rfl
theorem cw_X7_init : Cond.code yX7_init cX7_init 1 none ∈ TB := TBm 77 (by decide +kernel) rfl
theorem mi_X7_init : MI yX7_init cX7_init 1 none 0 := ⟨cw_X7_init, iw_X7, by decide +kernel, by decide +kernel, by decide +kernel⟩
theorem in_X7_init : Cond.instanceMethod yX7_init ∈ TB := TBm 76 (by decide +kernel) rfl
theorem cl_X9_16 : Cond.classLink RX9 16 RX2 ∈ TB := TBm 104 (by decide +kernel) rfl
theorem nw_X2 : Cond.instantiable RX2 12 ∈ TB := TBm 105 (by decide +kernel) rfl
theorem ml_X9_18 : Cond.methodLinkNest RX9 18 yX2_init "ChoristerKeys" ∈ NT := NTm 106 (by decide +kernel) rfl
theorem cw_X2_init : Cond.code yX2_init cX2_init 1 none ∈ TB := TBm 108 (by decide +kernel) rfl
theorem mi_X2_init : MI yX2_init cX2_init 1 none 0 := ⟨cw_X2_init, iw_X2, by decide +kernel, by decide +kernel, by decide +kernel⟩
theorem in_X2_init : Cond.instanceMethod yX2_init ∈ TB := TBm 107 (by decide +kernel) rfl
theorem cl_X9_26 : Cond.classLink RX9 26 RX8 ∈ TB := TBm 183 (by decide +kernel) rfl
theorem ml_X9_28 : Cond.methodLinkNest RX9 28 yX8_init "ChoristerKeys" ∈ NT := NTm 185 (by decide +kernel) rfl
theorem cl_X9_33 : Cond.classLink RX9 33 RX6 ∈ TB := TBm 221 (by decide +kernel) rfl
theorem nw_X6 : Cond.instantiable RX6 3 ∈ TB := TBm 222 (by decide +kernel) rfl
theorem ml_X9_35 : Cond.methodLink RX9 35 yX6_init ∈ TB := TBm 223 (by decide +kernel) rfl
theorem cw_X6_init : Cond.code yX6_init cX6_init 2 none ∈ TB := TBm 225 (by decide +kernel) rfl
theorem mi_X6_init : MI yX6_init cX6_init 2 none 0 := ⟨cw_X6_init, iw_X6, by decide +kernel, by decide +kernel, by decide +kernel⟩
theorem in_X6_init : Cond.instanceMethod yX6_init ∈ TB := TBm 224 (by decide +kernel) rfl
theorem aw_boolean : Cond.arrayClass .boolean ∈ TB := TBm 257 (by decide +kernel) rfl
theorem cl_X9_48 : Cond.classLink RX9 48 RX1 ∈ TB := TBm 241 (by decide +kernel) rfl
theorem nw_X1 : Cond.instantiable RX1 2 ∈ TB := TBm 242 (by decide +kernel) rfl
theorem ml_X9_50 : Cond.methodLink RX9 50 yX1_init ∈ TB := TBm 243 (by decide +kernel) rfl
theorem cw_X1_init : Cond.code yX1_init cX1_init 3 none ∈ TB := TBm 245 (by decide +kernel) rfl
theorem mi_X1_init : MI yX1_init cX1_init 3 none 2 := ⟨cw_X1_init, iw_X1, by decide +kernel, by decide +kernel, by decide +kernel⟩
theorem in_X1_init : Cond.instanceMethod yX1_init ∈ TB := TBm 244 (by decide +kernel) rfl
theorem cl_X9_57 : Cond.classLink RX9 57 RX4 ∈ TB := TBm 258 (by decide +kernel) rfl
theorem nw_X4 : Cond.instantiable RX4 2 ∈ TB := TBm 259 (by decide +kernel) rfl
theorem ml_X9_59 : Cond.methodLink RX9 59 yX4_init ∈ TB := TBm 260 (by decide +kernel) rfl
theorem cw_X4_init : Cond.code yX4_init cX4_init 2 none ∈ TB := TBm 262 (by decide +kernel) rfl
theorem mi_X4_init : MI yX4_init cX4_init 2 none 1 := ⟨cw_X4_init, iw_X4, by decide +kernel, by decide +kernel, by decide +kernel⟩
theorem in_X4_init : Cond.instanceMethod yX4_init ∈ TB := TBm 261 (by decide +kernel) rfl
theorem cl_X9_66 : Cond.classLink RX9 66 RX0 ∈ TB := TBm 271 (by decide +kernel) rfl
theorem nw_X0 : Cond.instantiable RX0 3 ∈ TB := TBm 272 (by decide +kernel) rfl
theorem ml_X9_68 : Cond.methodLinkNest RX9 68 yX0_init "ChoristerKeys" ∈ NT := NTm 273 (by decide +kernel) rfl
theorem cw_X0_init : Cond.code yX0_init cX0_init 1 none ∈ TB := TBm 275 (by decide +kernel) rfl
theorem mi_X0_init : MI yX0_init cX0_init 1 none 0 := ⟨cw_X0_init, iw_X0, by decide +kernel, by decide +kernel, by decide +kernel⟩
theorem in_X0_init : Cond.instanceMethod yX0_init ∈ TB := TBm 274 (by decide +kernel) rfl
theorem cl_X9_73 : Cond.classLink RX9 73 RX3 ∈ TB := TBm 289 (by decide +kernel) rfl
theorem nw_X3 : Cond.instantiable RX3 4 ∈ TB := TBm 290 (by decide +kernel) rfl
theorem ml_X9_75 : Cond.methodLink RX9 75 yX3_init ∈ TB := TBm 291 (by decide +kernel) rfl
theorem cw_X3_init : Cond.code yX3_init cX3_init 2 none ∈ TB := TBm 293 (by decide +kernel) rfl
theorem mi_X3_init : MI yX3_init cX3_init 2 none 1 := ⟨cw_X3_init, iw_X3, by decide +kernel, by decide +kernel, by decide +kernel⟩
theorem in_X3_init : Cond.instanceMethod yX3_init ∈ TB := TBm 292 (by decide +kernel) rfl
theorem cl_X9_80 : Cond.classLink RX9 80 RX5 ∈ TB := TBm 309 (by decide +kernel) rfl
theorem nw_X5 : Cond.instantiable RX5 2 ∈ TB := TBm 310 (by decide +kernel) rfl
theorem ml_X9_82 : Cond.methodLink RX9 82 yX5_init ∈ TB := TBm 311 (by decide +kernel) rfl
theorem cw_X5_init : Cond.code yX5_init cX5_init 2 none ∈ TB := TBm 313 (by decide +kernel) rfl
theorem mi_X5_init : MI yX5_init cX5_init 2 none 1 := ⟨cw_X5_init, iw_X5, by decide +kernel, by decide +kernel, by decide +kernel⟩
theorem in_X5_init : Cond.instanceMethod yX5_init ∈ TB := TBm 312 (by decide +kernel) rfl
def WX7 (cs : Cs3) (h : Nat) : List va_E := [.inr (7, [.ref (h + 1), .int 0, .int 0, .int 0, .int (-1), .int 0, .int 0]), .inl (cs.1, 150, .inl (fun _ => 0))]
theorem dX7_init_0 : decode cX7_init 0 = .ok (.aload_n 0, 1) := by decide +kernel
theorem dX7_init_1 : decode cX7_init 1 = .ok (.invokespecial 3, 3) := by decide +kernel
theorem dX7_init_4 : decode cX7_init 4 = .ok (.aload_n 0, 1) := by decide +kernel
theorem dX7_init_5 : decode cX7_init 5 = .ok (.sipush 150, 3) := by decide +kernel
theorem dX7_init_8 : decode cX7_init 8 = .ok (.newarray .int, 2) := by decide +kernel
theorem dX7_init_10 : decode cX7_init 10 = .ok (.putfield 9, 3) := by decide +kernel
theorem dX7_init_13 : decode cX7_init 13 = .ok (.aload_n 0, 1) := by decide +kernel
theorem dX7_init_14 : decode cX7_init 14 = .ok (.iconst 0, 1) := by decide +kernel
theorem dX7_init_15 : decode cX7_init 15 = .ok (.putfield 15, 3) := by decide +kernel
theorem dX7_init_18 : decode cX7_init 18 = .ok (.aload_n 0, 1) := by decide +kernel
theorem dX7_init_19 : decode cX7_init 19 = .ok (.iconst 0, 1) := by decide +kernel
theorem dX7_init_20 : decode cX7_init 20 = .ok (.putfield 19, 3) := by decide +kernel
theorem dX7_init_23 : decode cX7_init 23 = .ok (.aload_n 0, 1) := by decide +kernel
theorem dX7_init_24 : decode cX7_init 24 = .ok (.iconst 0, 1) := by decide +kernel
theorem dX7_init_25 : decode cX7_init 25 = .ok (.putfield 22, 3) := by decide +kernel
theorem dX7_init_28 : decode cX7_init 28 = .ok (.aload_n 0, 1) := by decide +kernel
theorem dX7_init_29 : decode cX7_init 29 = .ok (.iconst (-1), 1) := by decide +kernel
theorem dX7_init_30 : decode cX7_init 30 = .ok (.putfield 25, 3) := by decide +kernel
theorem dX7_init_33 : decode cX7_init 33 = .ok (.aload_n 0, 1) := by decide +kernel
theorem dX7_init_34 : decode cX7_init 34 = .ok (.iconst 0, 1) := by decide +kernel
theorem dX7_init_35 : decode cX7_init 35 = .ok (.putfield 28, 3) := by decide +kernel
theorem dX7_init_38 : decode cX7_init 38 = .ok (.aload_n 0, 1) := by decide +kernel
theorem dX7_init_39 : decode cX7_init 39 = .ok (.iconst 0, 1) := by decide +kernel
theorem dX7_init_40 : decode cX7_init 40 = .ok (.putfield 31, 3) := by decide +kernel
theorem dX7_init_43 : decode cX7_init 43 = .ok (.return_, 1) := by decide +kernel
abbrev rX7_init : Room := { frames := 1, cells := 1, slots := 150, locals := 12 }
set_option maxHeartbeats 4000000 in
set_option maxRecDepth 100000 in
theorem ci_X7 (l : Launch) (D : va_G) (cs : Cs3) (h : Nat) : Ci l yX7_init cX7_init 1 rX7_init 1 150 D cs h [.ref h] [.inr (7, [.null, .int 0, .int 0, .int 0, .int 0, .int 0, .int 0])] (WX7 cs h) := by
  refine r_met (by decide +kernel) rfl (Nat.le_of_ble_eq_true rfl) ?_
  intro p e s m below meth c ls hC hO hin2 hr hR hS hl
  have hl : lv_has ls 1 [(0, .ref h)] := hl
  have hR : Wr D h [.inr (7, [.null, .int 0, .int 0, .int 0, .int 0, .int 0, .int 0])] s.heap := hR
  refine lv_aload_n hC.1 hC.2.1 dX7_init_0 rfl (lv_at hl 0 rfl) ?_
  refine r_obj hC ml_X7_3 in_obj cw_obj hl.1 dX7_init_1 (Nat.le_of_ble_eq_true rfl) (Nat.le_of_ble_eq_true rfl) ?_
  refine lv_aload_n hC.1 hC.2.1 dX7_init_4 rfl (lv_at hl 0 rfl) ?_
  refine lv_sipush (v := 150) hC.1 hC.2.1 dX7_init_5 (by decide) ?_
  refine r_newa hC hR hS aw_int 150 (by decide) (by decide) (Nat.le_of_ble_eq_true rfl) (Nat.le_of_ble_eq_true rfl) (Nat.le_of_ble_eq_true rfl) (a := h + 1) rfl dX7_init_8 (fun H hR hS => ?_)
  have hR : Wr D h [.inr (7, [.null, .int 0, .int 0, .int 0, .int 0, .int 0, .int 0]), .inl (cs.1, 150, .inl (fun _ => 0))] H := hR
  refine r_putF (pre := []) (post := [.inl (cs.1, 150, .inl (fun _ => 0))]) (C := RX7) (T := TX7) (N := 7) (ty := .array .int) (v := .ref (h + 1)) hC hin2 hR hS rfl uX7 tyX7 tyX7_ok nmX7 0 (by decide) fl_X7_9 rfl rfl (by decide +kernel) rfl rfl (Nat.le_of_ble_eq_true rfl) rfl dX7_init_10 (fun H locs hR hS => ?_)
  have hR : Wr D h [.inr (7, [.ref (h + 1), .int 0, .int 0, .int 0, .int 0, .int 0, .int 0]), .inl (cs.1, 150, .inl (fun _ => 0))] H := hR
  refine lv_aload_n hC.1 hC.2.1 dX7_init_13 rfl (lv_at hl 0 rfl) ?_
  refine lv_iconst (v := 0) hC.1 hC.2.1 dX7_init_14 (by decide) ?_
  refine r_put (pre := []) (post := [.inl (cs.1, 150, .inl (fun _ => 0))]) (C := RX7) (T := TX7) (N := 7) (ty := .int) (v := .int 0) hC hR hS rfl uX7 tyX7 tyX7_ok nmX7 1 (by decide) fl_X7_15 rfl (by decide +kernel) rfl rfl (Nat.le_of_ble_eq_true rfl) rfl dX7_init_15 (fun H locs hR hS => ?_)
  have hR : Wr D h [.inr (7, [.ref (h + 1), .int 0, .int 0, .int 0, .int 0, .int 0, .int 0]), .inl (cs.1, 150, .inl (fun _ => 0))] H := hR
  refine lv_aload_n hC.1 hC.2.1 dX7_init_18 rfl (lv_at hl 0 rfl) ?_
  refine lv_iconst (v := 0) hC.1 hC.2.1 dX7_init_19 (by decide) ?_
  refine r_put (pre := []) (post := [.inl (cs.1, 150, .inl (fun _ => 0))]) (C := RX7) (T := TX7) (N := 7) (ty := .int) (v := .int 0) hC hR hS rfl uX7 tyX7 tyX7_ok nmX7 2 (by decide) fl_X7_19 rfl (by decide +kernel) rfl rfl (Nat.le_of_ble_eq_true rfl) rfl dX7_init_20 (fun H locs hR hS => ?_)
  have hR : Wr D h [.inr (7, [.ref (h + 1), .int 0, .int 0, .int 0, .int 0, .int 0, .int 0]), .inl (cs.1, 150, .inl (fun _ => 0))] H := hR
  refine lv_aload_n hC.1 hC.2.1 dX7_init_23 rfl (lv_at hl 0 rfl) ?_
  refine lv_iconst (v := 0) hC.1 hC.2.1 dX7_init_24 (by decide) ?_
  refine r_put (pre := []) (post := [.inl (cs.1, 150, .inl (fun _ => 0))]) (C := RX7) (T := TX7) (N := 7) (ty := .int) (v := .int 0) hC hR hS rfl uX7 tyX7 tyX7_ok nmX7 3 (by decide) fl_X7_22 rfl (by decide +kernel) rfl rfl (Nat.le_of_ble_eq_true rfl) rfl dX7_init_25 (fun H locs hR hS => ?_)
  have hR : Wr D h [.inr (7, [.ref (h + 1), .int 0, .int 0, .int 0, .int 0, .int 0, .int 0]), .inl (cs.1, 150, .inl (fun _ => 0))] H := hR
  refine lv_aload_n hC.1 hC.2.1 dX7_init_28 rfl (lv_at hl 0 rfl) ?_
  refine lv_iconst (v := -1) hC.1 hC.2.1 dX7_init_29 (by decide) ?_
  refine r_put (pre := []) (post := [.inl (cs.1, 150, .inl (fun _ => 0))]) (C := RX7) (T := TX7) (N := 7) (ty := .int) (v := .int (-1)) hC hR hS rfl uX7 tyX7 tyX7_ok nmX7 4 (by decide) fl_X7_25 rfl (by decide +kernel) rfl rfl (Nat.le_of_ble_eq_true rfl) rfl dX7_init_30 (fun H locs hR hS => ?_)
  have hR : Wr D h [.inr (7, [.ref (h + 1), .int 0, .int 0, .int 0, .int (-1), .int 0, .int 0]), .inl (cs.1, 150, .inl (fun _ => 0))] H := hR
  refine lv_aload_n hC.1 hC.2.1 dX7_init_33 rfl (lv_at hl 0 rfl) ?_
  refine lv_iconst (v := 0) hC.1 hC.2.1 dX7_init_34 (by decide) ?_
  refine r_put (pre := []) (post := [.inl (cs.1, 150, .inl (fun _ => 0))]) (C := RX7) (T := TX7) (N := 7) (ty := .int) (v := .int 0) hC hR hS rfl uX7 tyX7 tyX7_ok nmX7 5 (by decide) fl_X7_28 rfl (by decide +kernel) rfl rfl (Nat.le_of_ble_eq_true rfl) rfl dX7_init_35 (fun H locs hR hS => ?_)
  have hR : Wr D h [.inr (7, [.ref (h + 1), .int 0, .int 0, .int 0, .int (-1), .int 0, .int 0]), .inl (cs.1, 150, .inl (fun _ => 0))] H := hR
  refine lv_aload_n hC.1 hC.2.1 dX7_init_38 rfl (lv_at hl 0 rfl) ?_
  refine lv_iconst (v := 0) hC.1 hC.2.1 dX7_init_39 (by decide) ?_
  refine r_put (pre := []) (post := [.inl (cs.1, 150, .inl (fun _ => 0))]) (C := RX7) (T := TX7) (N := 7) (ty := .boolean) (v := .int 0) hC hR hS rfl uX7 tyX7 tyX7_ok nmX7 6 (by decide) fl_X7_31 rfl (by decide +kernel) rfl rfl (Nat.le_of_ble_eq_true rfl) rfl dX7_init_40 (fun H locs hR hS => ?_)
  have hR : Wr D h [.inr (7, [.ref (h + 1), .int 0, .int 0, .int 0, .int (-1), .int 0, .int 0]), .inl (cs.1, 150, .inl (fun _ => 0))] H := hR
  exact r_vret hC hr hR hS rfl rfl dX7_init_43
def WX2 (cs : Cs3) (h : Nat) : List va_E := [.inr (2, [.int 2, .int 0, .int 0, .int 5, .ref (h + 1), .ref (h + 2), .ref (h + 3), .ref (h + 4), .ref (h + 5), .ref (h + 6), .ref (h + 7), .ref (h + 8)]), .inl (cs.1, 8, .inl (fun _ => 0)), .inl (cs.1, 8, .inl (fun _ => 0)), .inl (cs.1, 8, .inl (fun _ => 0)), .inl (cs.1, 5, .inl (fun _ => 0)), .inl (cs.1, 5, .inl (fun _ => 0)), .inl (cs.1, 5, .inl (fun _ => 0)), .inl (cs.1, 5, .inl (fun _ => 0)), .inl (cs.1, 5, .inl (fun _ => 0))]
theorem dX2_init_0 : decode cX2_init 0 = .ok (.aload_n 0, 1) := by decide +kernel
theorem dX2_init_1 : decode cX2_init 1 = .ok (.invokespecial 3, 3) := by decide +kernel
theorem dX2_init_4 : decode cX2_init 4 = .ok (.aload_n 0, 1) := by decide +kernel
theorem dX2_init_5 : decode cX2_init 5 = .ok (.iconst 2, 1) := by decide +kernel
theorem dX2_init_6 : decode cX2_init 6 = .ok (.putfield 9, 3) := by decide +kernel
theorem dX2_init_9 : decode cX2_init 9 = .ok (.aload_n 0, 1) := by decide +kernel
theorem dX2_init_10 : decode cX2_init 10 = .ok (.iconst 0, 1) := by decide +kernel
theorem dX2_init_11 : decode cX2_init 11 = .ok (.putfield 15, 3) := by decide +kernel
theorem dX2_init_14 : decode cX2_init 14 = .ok (.aload_n 0, 1) := by decide +kernel
theorem dX2_init_15 : decode cX2_init 15 = .ok (.iconst 0, 1) := by decide +kernel
theorem dX2_init_16 : decode cX2_init 16 = .ok (.putfield 18, 3) := by decide +kernel
theorem dX2_init_19 : decode cX2_init 19 = .ok (.aload_n 0, 1) := by decide +kernel
theorem dX2_init_20 : decode cX2_init 20 = .ok (.iconst 5, 1) := by decide +kernel
theorem dX2_init_21 : decode cX2_init 21 = .ok (.putfield 21, 3) := by decide +kernel
theorem dX2_init_24 : decode cX2_init 24 = .ok (.aload_n 0, 1) := by decide +kernel
theorem dX2_init_25 : decode cX2_init 25 = .ok (.bipush 8, 2) := by decide +kernel
theorem dX2_init_27 : decode cX2_init 27 = .ok (.newarray .int, 2) := by decide +kernel
theorem dX2_init_29 : decode cX2_init 29 = .ok (.putfield 24, 3) := by decide +kernel
theorem dX2_init_32 : decode cX2_init 32 = .ok (.aload_n 0, 1) := by decide +kernel
theorem dX2_init_33 : decode cX2_init 33 = .ok (.bipush 8, 2) := by decide +kernel
theorem dX2_init_35 : decode cX2_init 35 = .ok (.newarray .int, 2) := by decide +kernel
theorem dX2_init_37 : decode cX2_init 37 = .ok (.putfield 28, 3) := by decide +kernel
theorem dX2_init_40 : decode cX2_init 40 = .ok (.aload_n 0, 1) := by decide +kernel
theorem dX2_init_41 : decode cX2_init 41 = .ok (.bipush 8, 2) := by decide +kernel
theorem dX2_init_43 : decode cX2_init 43 = .ok (.newarray .int, 2) := by decide +kernel
theorem dX2_init_45 : decode cX2_init 45 = .ok (.putfield 31, 3) := by decide +kernel
theorem dX2_init_48 : decode cX2_init 48 = .ok (.aload_n 0, 1) := by decide +kernel
theorem dX2_init_49 : decode cX2_init 49 = .ok (.iconst 5, 1) := by decide +kernel
theorem dX2_init_50 : decode cX2_init 50 = .ok (.newarray .int, 2) := by decide +kernel
theorem dX2_init_52 : decode cX2_init 52 = .ok (.putfield 34, 3) := by decide +kernel
theorem dX2_init_55 : decode cX2_init 55 = .ok (.aload_n 0, 1) := by decide +kernel
theorem dX2_init_56 : decode cX2_init 56 = .ok (.iconst 5, 1) := by decide +kernel
theorem dX2_init_57 : decode cX2_init 57 = .ok (.newarray .int, 2) := by decide +kernel
theorem dX2_init_59 : decode cX2_init 59 = .ok (.putfield 37, 3) := by decide +kernel
theorem dX2_init_62 : decode cX2_init 62 = .ok (.aload_n 0, 1) := by decide +kernel
theorem dX2_init_63 : decode cX2_init 63 = .ok (.iconst 5, 1) := by decide +kernel
theorem dX2_init_64 : decode cX2_init 64 = .ok (.newarray .int, 2) := by decide +kernel
theorem dX2_init_66 : decode cX2_init 66 = .ok (.putfield 40, 3) := by decide +kernel
theorem dX2_init_69 : decode cX2_init 69 = .ok (.aload_n 0, 1) := by decide +kernel
theorem dX2_init_70 : decode cX2_init 70 = .ok (.iconst 5, 1) := by decide +kernel
theorem dX2_init_71 : decode cX2_init 71 = .ok (.newarray .int, 2) := by decide +kernel
theorem dX2_init_73 : decode cX2_init 73 = .ok (.putfield 43, 3) := by decide +kernel
theorem dX2_init_76 : decode cX2_init 76 = .ok (.aload_n 0, 1) := by decide +kernel
theorem dX2_init_77 : decode cX2_init 77 = .ok (.iconst 5, 1) := by decide +kernel
theorem dX2_init_78 : decode cX2_init 78 = .ok (.newarray .int, 2) := by decide +kernel
theorem dX2_init_80 : decode cX2_init 80 = .ok (.putfield 46, 3) := by decide +kernel
theorem dX2_init_83 : decode cX2_init 83 = .ok (.return_, 1) := by decide +kernel
abbrev rX2_init : Room := { frames := 1, cells := 8, slots := 49, locals := 12 }
set_option maxHeartbeats 4000000 in
set_option maxRecDepth 100000 in
theorem ci_X2 (l : Launch) (D : va_G) (cs : Cs3) (h : Nat) : Ci l yX2_init cX2_init 1 rX2_init 8 49 D cs h [.ref h] [.inr (2, [.int 0, .int 0, .int 0, .int 0, .null, .null, .null, .null, .null, .null, .null, .null])] (WX2 cs h) := by
  refine r_met (by decide +kernel) rfl (Nat.le_of_ble_eq_true rfl) ?_
  intro p e s m below meth c ls hC hO hin2 hr hR hS hl
  have hl : lv_has ls 1 [(0, .ref h)] := hl
  have hR : Wr D h [.inr (2, [.int 0, .int 0, .int 0, .int 0, .null, .null, .null, .null, .null, .null, .null, .null])] s.heap := hR
  refine lv_aload_n hC.1 hC.2.1 dX2_init_0 rfl (lv_at hl 0 rfl) ?_
  refine r_obj hC ml_X2_3 in_obj cw_obj hl.1 dX2_init_1 (Nat.le_of_ble_eq_true rfl) (Nat.le_of_ble_eq_true rfl) ?_
  refine lv_aload_n hC.1 hC.2.1 dX2_init_4 rfl (lv_at hl 0 rfl) ?_
  refine lv_iconst (v := 2) hC.1 hC.2.1 dX2_init_5 (by decide) ?_
  refine r_put (pre := []) (post := []) (C := RX2) (T := TX2) (N := 12) (ty := .int) (v := .int 2) hC hR hS rfl uX2 tyX2 tyX2_ok nmX2 0 (by decide) fl_X2_9 rfl (by decide +kernel) rfl rfl (Nat.le_of_ble_eq_true rfl) rfl dX2_init_6 (fun H locs hR hS => ?_)
  have hR : Wr D h [.inr (2, [.int 2, .int 0, .int 0, .int 0, .null, .null, .null, .null, .null, .null, .null, .null])] H := hR
  refine lv_aload_n hC.1 hC.2.1 dX2_init_9 rfl (lv_at hl 0 rfl) ?_
  refine lv_iconst (v := 0) hC.1 hC.2.1 dX2_init_10 (by decide) ?_
  refine r_put (pre := []) (post := []) (C := RX2) (T := TX2) (N := 12) (ty := .int) (v := .int 0) hC hR hS rfl uX2 tyX2 tyX2_ok nmX2 1 (by decide) fl_X2_15 rfl (by decide +kernel) rfl rfl (Nat.le_of_ble_eq_true rfl) rfl dX2_init_11 (fun H locs hR hS => ?_)
  have hR : Wr D h [.inr (2, [.int 2, .int 0, .int 0, .int 0, .null, .null, .null, .null, .null, .null, .null, .null])] H := hR
  refine lv_aload_n hC.1 hC.2.1 dX2_init_14 rfl (lv_at hl 0 rfl) ?_
  refine lv_iconst (v := 0) hC.1 hC.2.1 dX2_init_15 (by decide) ?_
  refine r_put (pre := []) (post := []) (C := RX2) (T := TX2) (N := 12) (ty := .int) (v := .int 0) hC hR hS rfl uX2 tyX2 tyX2_ok nmX2 2 (by decide) fl_X2_18 rfl (by decide +kernel) rfl rfl (Nat.le_of_ble_eq_true rfl) rfl dX2_init_16 (fun H locs hR hS => ?_)
  have hR : Wr D h [.inr (2, [.int 2, .int 0, .int 0, .int 0, .null, .null, .null, .null, .null, .null, .null, .null])] H := hR
  refine lv_aload_n hC.1 hC.2.1 dX2_init_19 rfl (lv_at hl 0 rfl) ?_
  refine lv_iconst (v := 5) hC.1 hC.2.1 dX2_init_20 (by decide) ?_
  refine r_put (pre := []) (post := []) (C := RX2) (T := TX2) (N := 12) (ty := .int) (v := .int 5) hC hR hS rfl uX2 tyX2 tyX2_ok nmX2 3 (by decide) fl_X2_21 rfl (by decide +kernel) rfl rfl (Nat.le_of_ble_eq_true rfl) rfl dX2_init_21 (fun H locs hR hS => ?_)
  have hR : Wr D h [.inr (2, [.int 2, .int 0, .int 0, .int 5, .null, .null, .null, .null, .null, .null, .null, .null])] H := hR
  refine lv_aload_n hC.1 hC.2.1 dX2_init_24 rfl (lv_at hl 0 rfl) ?_
  refine lv_bipush (v := 8) hC.1 hC.2.1 dX2_init_25 (by decide) ?_
  refine r_newa hC hR hS aw_int 8 (by decide) (by decide) (Nat.le_of_ble_eq_true rfl) (Nat.le_of_ble_eq_true rfl) (Nat.le_of_ble_eq_true rfl) (a := h + 1) rfl dX2_init_27 (fun H hR hS => ?_)
  have hR : Wr D h [.inr (2, [.int 2, .int 0, .int 0, .int 5, .null, .null, .null, .null, .null, .null, .null, .null]), .inl (cs.1, 8, .inl (fun _ => 0))] H := hR
  refine r_putF (pre := []) (post := [.inl (cs.1, 8, .inl (fun _ => 0))]) (C := RX2) (T := TX2) (N := 12) (ty := .array .int) (v := .ref (h + 1)) hC hin2 hR hS rfl uX2 tyX2 tyX2_ok nmX2 4 (by decide) fl_X2_24 rfl rfl (by decide +kernel) rfl rfl (Nat.le_of_ble_eq_true rfl) rfl dX2_init_29 (fun H locs hR hS => ?_)
  have hR : Wr D h [.inr (2, [.int 2, .int 0, .int 0, .int 5, .ref (h + 1), .null, .null, .null, .null, .null, .null, .null]), .inl (cs.1, 8, .inl (fun _ => 0))] H := hR
  refine lv_aload_n hC.1 hC.2.1 dX2_init_32 rfl (lv_at hl 0 rfl) ?_
  refine lv_bipush (v := 8) hC.1 hC.2.1 dX2_init_33 (by decide) ?_
  refine r_newa hC hR hS aw_int 8 (by decide) (by decide) (Nat.le_of_ble_eq_true rfl) (Nat.le_of_ble_eq_true rfl) (Nat.le_of_ble_eq_true rfl) (a := h + 2) rfl dX2_init_35 (fun H hR hS => ?_)
  have hR : Wr D h [.inr (2, [.int 2, .int 0, .int 0, .int 5, .ref (h + 1), .null, .null, .null, .null, .null, .null, .null]), .inl (cs.1, 8, .inl (fun _ => 0)), .inl (cs.1, 8, .inl (fun _ => 0))] H := hR
  refine r_putF (pre := []) (post := [.inl (cs.1, 8, .inl (fun _ => 0)), .inl (cs.1, 8, .inl (fun _ => 0))]) (C := RX2) (T := TX2) (N := 12) (ty := .array .int) (v := .ref (h + 2)) hC hin2 hR hS rfl uX2 tyX2 tyX2_ok nmX2 5 (by decide) fl_X2_28 rfl rfl (by decide +kernel) rfl rfl (Nat.le_of_ble_eq_true rfl) rfl dX2_init_37 (fun H locs hR hS => ?_)
  have hR : Wr D h [.inr (2, [.int 2, .int 0, .int 0, .int 5, .ref (h + 1), .ref (h + 2), .null, .null, .null, .null, .null, .null]), .inl (cs.1, 8, .inl (fun _ => 0)), .inl (cs.1, 8, .inl (fun _ => 0))] H := hR
  refine lv_aload_n hC.1 hC.2.1 dX2_init_40 rfl (lv_at hl 0 rfl) ?_
  refine lv_bipush (v := 8) hC.1 hC.2.1 dX2_init_41 (by decide) ?_
  refine r_newa hC hR hS aw_int 8 (by decide) (by decide) (Nat.le_of_ble_eq_true rfl) (Nat.le_of_ble_eq_true rfl) (Nat.le_of_ble_eq_true rfl) (a := h + 3) rfl dX2_init_43 (fun H hR hS => ?_)
  have hR : Wr D h [.inr (2, [.int 2, .int 0, .int 0, .int 5, .ref (h + 1), .ref (h + 2), .null, .null, .null, .null, .null, .null]), .inl (cs.1, 8, .inl (fun _ => 0)), .inl (cs.1, 8, .inl (fun _ => 0)), .inl (cs.1, 8, .inl (fun _ => 0))] H := hR
  refine r_putF (pre := []) (post := [.inl (cs.1, 8, .inl (fun _ => 0)), .inl (cs.1, 8, .inl (fun _ => 0)), .inl (cs.1, 8, .inl (fun _ => 0))]) (C := RX2) (T := TX2) (N := 12) (ty := .array .int) (v := .ref (h + 3)) hC hin2 hR hS rfl uX2 tyX2 tyX2_ok nmX2 6 (by decide) fl_X2_31 rfl rfl (by decide +kernel) rfl rfl (Nat.le_of_ble_eq_true rfl) rfl dX2_init_45 (fun H locs hR hS => ?_)
  have hR : Wr D h [.inr (2, [.int 2, .int 0, .int 0, .int 5, .ref (h + 1), .ref (h + 2), .ref (h + 3), .null, .null, .null, .null, .null]), .inl (cs.1, 8, .inl (fun _ => 0)), .inl (cs.1, 8, .inl (fun _ => 0)), .inl (cs.1, 8, .inl (fun _ => 0))] H := hR
  refine lv_aload_n hC.1 hC.2.1 dX2_init_48 rfl (lv_at hl 0 rfl) ?_
  refine lv_iconst (v := 5) hC.1 hC.2.1 dX2_init_49 (by decide) ?_
  refine r_newa hC hR hS aw_int 5 (by decide) (by decide) (Nat.le_of_ble_eq_true rfl) (Nat.le_of_ble_eq_true rfl) (Nat.le_of_ble_eq_true rfl) (a := h + 4) rfl dX2_init_50 (fun H hR hS => ?_)
  have hR : Wr D h [.inr (2, [.int 2, .int 0, .int 0, .int 5, .ref (h + 1), .ref (h + 2), .ref (h + 3), .null, .null, .null, .null, .null]), .inl (cs.1, 8, .inl (fun _ => 0)), .inl (cs.1, 8, .inl (fun _ => 0)), .inl (cs.1, 8, .inl (fun _ => 0)), .inl (cs.1, 5, .inl (fun _ => 0))] H := hR
  refine r_putF (pre := []) (post := [.inl (cs.1, 8, .inl (fun _ => 0)), .inl (cs.1, 8, .inl (fun _ => 0)), .inl (cs.1, 8, .inl (fun _ => 0)), .inl (cs.1, 5, .inl (fun _ => 0))]) (C := RX2) (T := TX2) (N := 12) (ty := .array .int) (v := .ref (h + 4)) hC hin2 hR hS rfl uX2 tyX2 tyX2_ok nmX2 7 (by decide) fl_X2_34 rfl rfl (by decide +kernel) rfl rfl (Nat.le_of_ble_eq_true rfl) rfl dX2_init_52 (fun H locs hR hS => ?_)
  have hR : Wr D h [.inr (2, [.int 2, .int 0, .int 0, .int 5, .ref (h + 1), .ref (h + 2), .ref (h + 3), .ref (h + 4), .null, .null, .null, .null]), .inl (cs.1, 8, .inl (fun _ => 0)), .inl (cs.1, 8, .inl (fun _ => 0)), .inl (cs.1, 8, .inl (fun _ => 0)), .inl (cs.1, 5, .inl (fun _ => 0))] H := hR
  refine lv_aload_n hC.1 hC.2.1 dX2_init_55 rfl (lv_at hl 0 rfl) ?_
  refine lv_iconst (v := 5) hC.1 hC.2.1 dX2_init_56 (by decide) ?_
  refine r_newa hC hR hS aw_int 5 (by decide) (by decide) (Nat.le_of_ble_eq_true rfl) (Nat.le_of_ble_eq_true rfl) (Nat.le_of_ble_eq_true rfl) (a := h + 5) rfl dX2_init_57 (fun H hR hS => ?_)
  have hR : Wr D h [.inr (2, [.int 2, .int 0, .int 0, .int 5, .ref (h + 1), .ref (h + 2), .ref (h + 3), .ref (h + 4), .null, .null, .null, .null]), .inl (cs.1, 8, .inl (fun _ => 0)), .inl (cs.1, 8, .inl (fun _ => 0)), .inl (cs.1, 8, .inl (fun _ => 0)), .inl (cs.1, 5, .inl (fun _ => 0)), .inl (cs.1, 5, .inl (fun _ => 0))] H := hR
  refine r_putF (pre := []) (post := [.inl (cs.1, 8, .inl (fun _ => 0)), .inl (cs.1, 8, .inl (fun _ => 0)), .inl (cs.1, 8, .inl (fun _ => 0)), .inl (cs.1, 5, .inl (fun _ => 0)), .inl (cs.1, 5, .inl (fun _ => 0))]) (C := RX2) (T := TX2) (N := 12) (ty := .array .int) (v := .ref (h + 5)) hC hin2 hR hS rfl uX2 tyX2 tyX2_ok nmX2 8 (by decide) fl_X2_37 rfl rfl (by decide +kernel) rfl rfl (Nat.le_of_ble_eq_true rfl) rfl dX2_init_59 (fun H locs hR hS => ?_)
  have hR : Wr D h [.inr (2, [.int 2, .int 0, .int 0, .int 5, .ref (h + 1), .ref (h + 2), .ref (h + 3), .ref (h + 4), .ref (h + 5), .null, .null, .null]), .inl (cs.1, 8, .inl (fun _ => 0)), .inl (cs.1, 8, .inl (fun _ => 0)), .inl (cs.1, 8, .inl (fun _ => 0)), .inl (cs.1, 5, .inl (fun _ => 0)), .inl (cs.1, 5, .inl (fun _ => 0))] H := hR
  refine lv_aload_n hC.1 hC.2.1 dX2_init_62 rfl (lv_at hl 0 rfl) ?_
  refine lv_iconst (v := 5) hC.1 hC.2.1 dX2_init_63 (by decide) ?_
  refine r_newa hC hR hS aw_int 5 (by decide) (by decide) (Nat.le_of_ble_eq_true rfl) (Nat.le_of_ble_eq_true rfl) (Nat.le_of_ble_eq_true rfl) (a := h + 6) rfl dX2_init_64 (fun H hR hS => ?_)
  have hR : Wr D h [.inr (2, [.int 2, .int 0, .int 0, .int 5, .ref (h + 1), .ref (h + 2), .ref (h + 3), .ref (h + 4), .ref (h + 5), .null, .null, .null]), .inl (cs.1, 8, .inl (fun _ => 0)), .inl (cs.1, 8, .inl (fun _ => 0)), .inl (cs.1, 8, .inl (fun _ => 0)), .inl (cs.1, 5, .inl (fun _ => 0)), .inl (cs.1, 5, .inl (fun _ => 0)), .inl (cs.1, 5, .inl (fun _ => 0))] H := hR
  refine r_putF (pre := []) (post := [.inl (cs.1, 8, .inl (fun _ => 0)), .inl (cs.1, 8, .inl (fun _ => 0)), .inl (cs.1, 8, .inl (fun _ => 0)), .inl (cs.1, 5, .inl (fun _ => 0)), .inl (cs.1, 5, .inl (fun _ => 0)), .inl (cs.1, 5, .inl (fun _ => 0))]) (C := RX2) (T := TX2) (N := 12) (ty := .array .int) (v := .ref (h + 6)) hC hin2 hR hS rfl uX2 tyX2 tyX2_ok nmX2 9 (by decide) fl_X2_40 rfl rfl (by decide +kernel) rfl rfl (Nat.le_of_ble_eq_true rfl) rfl dX2_init_66 (fun H locs hR hS => ?_)
  have hR : Wr D h [.inr (2, [.int 2, .int 0, .int 0, .int 5, .ref (h + 1), .ref (h + 2), .ref (h + 3), .ref (h + 4), .ref (h + 5), .ref (h + 6), .null, .null]), .inl (cs.1, 8, .inl (fun _ => 0)), .inl (cs.1, 8, .inl (fun _ => 0)), .inl (cs.1, 8, .inl (fun _ => 0)), .inl (cs.1, 5, .inl (fun _ => 0)), .inl (cs.1, 5, .inl (fun _ => 0)), .inl (cs.1, 5, .inl (fun _ => 0))] H := hR
  refine lv_aload_n hC.1 hC.2.1 dX2_init_69 rfl (lv_at hl 0 rfl) ?_
  refine lv_iconst (v := 5) hC.1 hC.2.1 dX2_init_70 (by decide) ?_
  refine r_newa hC hR hS aw_int 5 (by decide) (by decide) (Nat.le_of_ble_eq_true rfl) (Nat.le_of_ble_eq_true rfl) (Nat.le_of_ble_eq_true rfl) (a := h + 7) rfl dX2_init_71 (fun H hR hS => ?_)
  have hR : Wr D h [.inr (2, [.int 2, .int 0, .int 0, .int 5, .ref (h + 1), .ref (h + 2), .ref (h + 3), .ref (h + 4), .ref (h + 5), .ref (h + 6), .null, .null]), .inl (cs.1, 8, .inl (fun _ => 0)), .inl (cs.1, 8, .inl (fun _ => 0)), .inl (cs.1, 8, .inl (fun _ => 0)), .inl (cs.1, 5, .inl (fun _ => 0)), .inl (cs.1, 5, .inl (fun _ => 0)), .inl (cs.1, 5, .inl (fun _ => 0)), .inl (cs.1, 5, .inl (fun _ => 0))] H := hR
  refine r_putF (pre := []) (post := [.inl (cs.1, 8, .inl (fun _ => 0)), .inl (cs.1, 8, .inl (fun _ => 0)), .inl (cs.1, 8, .inl (fun _ => 0)), .inl (cs.1, 5, .inl (fun _ => 0)), .inl (cs.1, 5, .inl (fun _ => 0)), .inl (cs.1, 5, .inl (fun _ => 0)), .inl (cs.1, 5, .inl (fun _ => 0))]) (C := RX2) (T := TX2) (N := 12) (ty := .array .int) (v := .ref (h + 7)) hC hin2 hR hS rfl uX2 tyX2 tyX2_ok nmX2 10 (by decide) fl_X2_43 rfl rfl (by decide +kernel) rfl rfl (Nat.le_of_ble_eq_true rfl) rfl dX2_init_73 (fun H locs hR hS => ?_)
  have hR : Wr D h [.inr (2, [.int 2, .int 0, .int 0, .int 5, .ref (h + 1), .ref (h + 2), .ref (h + 3), .ref (h + 4), .ref (h + 5), .ref (h + 6), .ref (h + 7), .null]), .inl (cs.1, 8, .inl (fun _ => 0)), .inl (cs.1, 8, .inl (fun _ => 0)), .inl (cs.1, 8, .inl (fun _ => 0)), .inl (cs.1, 5, .inl (fun _ => 0)), .inl (cs.1, 5, .inl (fun _ => 0)), .inl (cs.1, 5, .inl (fun _ => 0)), .inl (cs.1, 5, .inl (fun _ => 0))] H := hR
  refine lv_aload_n hC.1 hC.2.1 dX2_init_76 rfl (lv_at hl 0 rfl) ?_
  refine lv_iconst (v := 5) hC.1 hC.2.1 dX2_init_77 (by decide) ?_
  refine r_newa hC hR hS aw_int 5 (by decide) (by decide) (Nat.le_of_ble_eq_true rfl) (Nat.le_of_ble_eq_true rfl) (Nat.le_of_ble_eq_true rfl) (a := h + 8) rfl dX2_init_78 (fun H hR hS => ?_)
  have hR : Wr D h [.inr (2, [.int 2, .int 0, .int 0, .int 5, .ref (h + 1), .ref (h + 2), .ref (h + 3), .ref (h + 4), .ref (h + 5), .ref (h + 6), .ref (h + 7), .null]), .inl (cs.1, 8, .inl (fun _ => 0)), .inl (cs.1, 8, .inl (fun _ => 0)), .inl (cs.1, 8, .inl (fun _ => 0)), .inl (cs.1, 5, .inl (fun _ => 0)), .inl (cs.1, 5, .inl (fun _ => 0)), .inl (cs.1, 5, .inl (fun _ => 0)), .inl (cs.1, 5, .inl (fun _ => 0)), .inl (cs.1, 5, .inl (fun _ => 0))] H := hR
  refine r_putF (pre := []) (post := [.inl (cs.1, 8, .inl (fun _ => 0)), .inl (cs.1, 8, .inl (fun _ => 0)), .inl (cs.1, 8, .inl (fun _ => 0)), .inl (cs.1, 5, .inl (fun _ => 0)), .inl (cs.1, 5, .inl (fun _ => 0)), .inl (cs.1, 5, .inl (fun _ => 0)), .inl (cs.1, 5, .inl (fun _ => 0)), .inl (cs.1, 5, .inl (fun _ => 0))]) (C := RX2) (T := TX2) (N := 12) (ty := .array .int) (v := .ref (h + 8)) hC hin2 hR hS rfl uX2 tyX2 tyX2_ok nmX2 11 (by decide) fl_X2_46 rfl rfl (by decide +kernel) rfl rfl (Nat.le_of_ble_eq_true rfl) rfl dX2_init_80 (fun H locs hR hS => ?_)
  have hR : Wr D h [.inr (2, [.int 2, .int 0, .int 0, .int 5, .ref (h + 1), .ref (h + 2), .ref (h + 3), .ref (h + 4), .ref (h + 5), .ref (h + 6), .ref (h + 7), .ref (h + 8)]), .inl (cs.1, 8, .inl (fun _ => 0)), .inl (cs.1, 8, .inl (fun _ => 0)), .inl (cs.1, 8, .inl (fun _ => 0)), .inl (cs.1, 5, .inl (fun _ => 0)), .inl (cs.1, 5, .inl (fun _ => 0)), .inl (cs.1, 5, .inl (fun _ => 0)), .inl (cs.1, 5, .inl (fun _ => 0)), .inl (cs.1, 5, .inl (fun _ => 0))] H := hR
  exact r_vret hC hr hR hS rfl rfl dX2_init_83
def WX8 (cs : Cs3) (h : Nat) : List va_E := [.inr (8, [.ref (h + 1), .ref (h + 2), .ref (h + 3), .ref (h + 4), .int 0, .int 0]), .inl (cs.1, 5, .inl (fun _ => 0)), .inl (cs.1, 5, .inl (fun _ => 0)), .inl (cs.1, 5, .inl (fun _ => 0)), .inl (cs.1, 8, .inl (fun _ => 0))]
theorem dX8_init_0 : decode cX8_init 0 = .ok (.aload_n 0, 1) := by decide +kernel
theorem dX8_init_1 : decode cX8_init 1 = .ok (.invokespecial 3, 3) := by decide +kernel
theorem dX8_init_4 : decode cX8_init 4 = .ok (.aload_n 0, 1) := by decide +kernel
theorem dX8_init_5 : decode cX8_init 5 = .ok (.iconst 5, 1) := by decide +kernel
theorem dX8_init_6 : decode cX8_init 6 = .ok (.newarray .int, 2) := by decide +kernel
theorem dX8_init_8 : decode cX8_init 8 = .ok (.putfield 9, 3) := by decide +kernel
theorem dX8_init_11 : decode cX8_init 11 = .ok (.aload_n 0, 1) := by decide +kernel
theorem dX8_init_12 : decode cX8_init 12 = .ok (.iconst 5, 1) := by decide +kernel
theorem dX8_init_13 : decode cX8_init 13 = .ok (.newarray .int, 2) := by decide +kernel
theorem dX8_init_15 : decode cX8_init 15 = .ok (.putfield 15, 3) := by decide +kernel
theorem dX8_init_18 : decode cX8_init 18 = .ok (.aload_n 0, 1) := by decide +kernel
theorem dX8_init_19 : decode cX8_init 19 = .ok (.iconst 5, 1) := by decide +kernel
theorem dX8_init_20 : decode cX8_init 20 = .ok (.newarray .int, 2) := by decide +kernel
theorem dX8_init_22 : decode cX8_init 22 = .ok (.putfield 18, 3) := by decide +kernel
theorem dX8_init_25 : decode cX8_init 25 = .ok (.aload_n 0, 1) := by decide +kernel
theorem dX8_init_26 : decode cX8_init 26 = .ok (.bipush 8, 2) := by decide +kernel
theorem dX8_init_28 : decode cX8_init 28 = .ok (.newarray .int, 2) := by decide +kernel
theorem dX8_init_30 : decode cX8_init 30 = .ok (.putfield 21, 3) := by decide +kernel
theorem dX8_init_33 : decode cX8_init 33 = .ok (.aload_n 0, 1) := by decide +kernel
theorem dX8_init_34 : decode cX8_init 34 = .ok (.iconst 0, 1) := by decide +kernel
theorem dX8_init_35 : decode cX8_init 35 = .ok (.putfield 24, 3) := by decide +kernel
theorem dX8_init_38 : decode cX8_init 38 = .ok (.aload_n 0, 1) := by decide +kernel
theorem dX8_init_39 : decode cX8_init 39 = .ok (.iconst 0, 1) := by decide +kernel
theorem dX8_init_40 : decode cX8_init 40 = .ok (.putfield 28, 3) := by decide +kernel
theorem dX8_init_43 : decode cX8_init 43 = .ok (.return_, 1) := by decide +kernel
abbrev rX8_init : Room := { frames := 1, cells := 4, slots := 23, locals := 12 }
set_option maxHeartbeats 4000000 in
set_option maxRecDepth 100000 in
theorem ci_X8 (l : Launch) (D : va_G) (cs : Cs3) (h : Nat) : Ci l yX8_init cX8_init 1 rX8_init 4 23 D cs h [.ref h] [.inr (8, [.null, .null, .null, .null, .int 0, .int 0])] (WX8 cs h) := by
  refine r_met (by decide +kernel) rfl (Nat.le_of_ble_eq_true rfl) ?_
  intro p e s m below meth c ls hC hO hin2 hr hR hS hl
  have hl : lv_has ls 1 [(0, .ref h)] := hl
  have hR : Wr D h [.inr (8, [.null, .null, .null, .null, .int 0, .int 0])] s.heap := hR
  refine lv_aload_n hC.1 hC.2.1 dX8_init_0 rfl (lv_at hl 0 rfl) ?_
  refine r_obj hC ml_X8_3 in_obj cw_obj hl.1 dX8_init_1 (Nat.le_of_ble_eq_true rfl) (Nat.le_of_ble_eq_true rfl) ?_
  refine lv_aload_n hC.1 hC.2.1 dX8_init_4 rfl (lv_at hl 0 rfl) ?_
  refine lv_iconst (v := 5) hC.1 hC.2.1 dX8_init_5 (by decide) ?_
  refine r_newa hC hR hS aw_int 5 (by decide) (by decide) (Nat.le_of_ble_eq_true rfl) (Nat.le_of_ble_eq_true rfl) (Nat.le_of_ble_eq_true rfl) (a := h + 1) rfl dX8_init_6 (fun H hR hS => ?_)
  have hR : Wr D h [.inr (8, [.null, .null, .null, .null, .int 0, .int 0]), .inl (cs.1, 5, .inl (fun _ => 0))] H := hR
  refine r_putF (pre := []) (post := [.inl (cs.1, 5, .inl (fun _ => 0))]) (C := RX8) (T := TX8) (N := 6) (ty := .array .int) (v := .ref (h + 1)) hC hin2 hR hS rfl uX8 tyX8 tyX8_ok nmX8 0 (by decide) fl_X8_9 rfl rfl (by decide +kernel) rfl rfl (Nat.le_of_ble_eq_true rfl) rfl dX8_init_8 (fun H locs hR hS => ?_)
  have hR : Wr D h [.inr (8, [.ref (h + 1), .null, .null, .null, .int 0, .int 0]), .inl (cs.1, 5, .inl (fun _ => 0))] H := hR
  refine lv_aload_n hC.1 hC.2.1 dX8_init_11 rfl (lv_at hl 0 rfl) ?_
  refine lv_iconst (v := 5) hC.1 hC.2.1 dX8_init_12 (by decide) ?_
  refine r_newa hC hR hS aw_int 5 (by decide) (by decide) (Nat.le_of_ble_eq_true rfl) (Nat.le_of_ble_eq_true rfl) (Nat.le_of_ble_eq_true rfl) (a := h + 2) rfl dX8_init_13 (fun H hR hS => ?_)
  have hR : Wr D h [.inr (8, [.ref (h + 1), .null, .null, .null, .int 0, .int 0]), .inl (cs.1, 5, .inl (fun _ => 0)), .inl (cs.1, 5, .inl (fun _ => 0))] H := hR
  refine r_putF (pre := []) (post := [.inl (cs.1, 5, .inl (fun _ => 0)), .inl (cs.1, 5, .inl (fun _ => 0))]) (C := RX8) (T := TX8) (N := 6) (ty := .array .int) (v := .ref (h + 2)) hC hin2 hR hS rfl uX8 tyX8 tyX8_ok nmX8 1 (by decide) fl_X8_15 rfl rfl (by decide +kernel) rfl rfl (Nat.le_of_ble_eq_true rfl) rfl dX8_init_15 (fun H locs hR hS => ?_)
  have hR : Wr D h [.inr (8, [.ref (h + 1), .ref (h + 2), .null, .null, .int 0, .int 0]), .inl (cs.1, 5, .inl (fun _ => 0)), .inl (cs.1, 5, .inl (fun _ => 0))] H := hR
  refine lv_aload_n hC.1 hC.2.1 dX8_init_18 rfl (lv_at hl 0 rfl) ?_
  refine lv_iconst (v := 5) hC.1 hC.2.1 dX8_init_19 (by decide) ?_
  refine r_newa hC hR hS aw_int 5 (by decide) (by decide) (Nat.le_of_ble_eq_true rfl) (Nat.le_of_ble_eq_true rfl) (Nat.le_of_ble_eq_true rfl) (a := h + 3) rfl dX8_init_20 (fun H hR hS => ?_)
  have hR : Wr D h [.inr (8, [.ref (h + 1), .ref (h + 2), .null, .null, .int 0, .int 0]), .inl (cs.1, 5, .inl (fun _ => 0)), .inl (cs.1, 5, .inl (fun _ => 0)), .inl (cs.1, 5, .inl (fun _ => 0))] H := hR
  refine r_putF (pre := []) (post := [.inl (cs.1, 5, .inl (fun _ => 0)), .inl (cs.1, 5, .inl (fun _ => 0)), .inl (cs.1, 5, .inl (fun _ => 0))]) (C := RX8) (T := TX8) (N := 6) (ty := .array .int) (v := .ref (h + 3)) hC hin2 hR hS rfl uX8 tyX8 tyX8_ok nmX8 2 (by decide) fl_X8_18 rfl rfl (by decide +kernel) rfl rfl (Nat.le_of_ble_eq_true rfl) rfl dX8_init_22 (fun H locs hR hS => ?_)
  have hR : Wr D h [.inr (8, [.ref (h + 1), .ref (h + 2), .ref (h + 3), .null, .int 0, .int 0]), .inl (cs.1, 5, .inl (fun _ => 0)), .inl (cs.1, 5, .inl (fun _ => 0)), .inl (cs.1, 5, .inl (fun _ => 0))] H := hR
  refine lv_aload_n hC.1 hC.2.1 dX8_init_25 rfl (lv_at hl 0 rfl) ?_
  refine lv_bipush (v := 8) hC.1 hC.2.1 dX8_init_26 (by decide) ?_
  refine r_newa hC hR hS aw_int 8 (by decide) (by decide) (Nat.le_of_ble_eq_true rfl) (Nat.le_of_ble_eq_true rfl) (Nat.le_of_ble_eq_true rfl) (a := h + 4) rfl dX8_init_28 (fun H hR hS => ?_)
  have hR : Wr D h [.inr (8, [.ref (h + 1), .ref (h + 2), .ref (h + 3), .null, .int 0, .int 0]), .inl (cs.1, 5, .inl (fun _ => 0)), .inl (cs.1, 5, .inl (fun _ => 0)), .inl (cs.1, 5, .inl (fun _ => 0)), .inl (cs.1, 8, .inl (fun _ => 0))] H := hR
  refine r_putF (pre := []) (post := [.inl (cs.1, 5, .inl (fun _ => 0)), .inl (cs.1, 5, .inl (fun _ => 0)), .inl (cs.1, 5, .inl (fun _ => 0)), .inl (cs.1, 8, .inl (fun _ => 0))]) (C := RX8) (T := TX8) (N := 6) (ty := .array .int) (v := .ref (h + 4)) hC hin2 hR hS rfl uX8 tyX8 tyX8_ok nmX8 3 (by decide) fl_X8_21 rfl rfl (by decide +kernel) rfl rfl (Nat.le_of_ble_eq_true rfl) rfl dX8_init_30 (fun H locs hR hS => ?_)
  have hR : Wr D h [.inr (8, [.ref (h + 1), .ref (h + 2), .ref (h + 3), .ref (h + 4), .int 0, .int 0]), .inl (cs.1, 5, .inl (fun _ => 0)), .inl (cs.1, 5, .inl (fun _ => 0)), .inl (cs.1, 5, .inl (fun _ => 0)), .inl (cs.1, 8, .inl (fun _ => 0))] H := hR
  refine lv_aload_n hC.1 hC.2.1 dX8_init_33 rfl (lv_at hl 0 rfl) ?_
  refine lv_iconst (v := 0) hC.1 hC.2.1 dX8_init_34 (by decide) ?_
  refine r_put (pre := []) (post := [.inl (cs.1, 5, .inl (fun _ => 0)), .inl (cs.1, 5, .inl (fun _ => 0)), .inl (cs.1, 5, .inl (fun _ => 0)), .inl (cs.1, 8, .inl (fun _ => 0))]) (C := RX8) (T := TX8) (N := 6) (ty := .int) (v := .int 0) hC hR hS rfl uX8 tyX8 tyX8_ok nmX8 4 (by decide) fl_X8_24 rfl (by decide +kernel) rfl rfl (Nat.le_of_ble_eq_true rfl) rfl dX8_init_35 (fun H locs hR hS => ?_)
  have hR : Wr D h [.inr (8, [.ref (h + 1), .ref (h + 2), .ref (h + 3), .ref (h + 4), .int 0, .int 0]), .inl (cs.1, 5, .inl (fun _ => 0)), .inl (cs.1, 5, .inl (fun _ => 0)), .inl (cs.1, 5, .inl (fun _ => 0)), .inl (cs.1, 8, .inl (fun _ => 0))] H := hR
  refine lv_aload_n hC.1 hC.2.1 dX8_init_38 rfl (lv_at hl 0 rfl) ?_
  refine lv_iconst (v := 0) hC.1 hC.2.1 dX8_init_39 (by decide) ?_
  refine r_put (pre := []) (post := [.inl (cs.1, 5, .inl (fun _ => 0)), .inl (cs.1, 5, .inl (fun _ => 0)), .inl (cs.1, 5, .inl (fun _ => 0)), .inl (cs.1, 8, .inl (fun _ => 0))]) (C := RX8) (T := TX8) (N := 6) (ty := .int) (v := .int 0) hC hR hS rfl uX8 tyX8 tyX8_ok nmX8 5 (by decide) fl_X8_28 rfl (by decide +kernel) rfl rfl (Nat.le_of_ble_eq_true rfl) rfl dX8_init_40 (fun H locs hR hS => ?_)
  have hR : Wr D h [.inr (8, [.ref (h + 1), .ref (h + 2), .ref (h + 3), .ref (h + 4), .int 0, .int 0]), .inl (cs.1, 5, .inl (fun _ => 0)), .inl (cs.1, 5, .inl (fun _ => 0)), .inl (cs.1, 5, .inl (fun _ => 0)), .inl (cs.1, 8, .inl (fun _ => 0))] H := hR
  exact r_vret hC hr hR hS rfl rfl dX8_init_43
def WX1 (cs : Cs3) (h : Nat) (c0 : Nat) (c1 : Nat) : List va_E := [.inr (1, [.ref c0, .ref c1])]
theorem dX1_init_0 : decode cX1_init 0 = .ok (.aload_n 0, 1) := by decide +kernel
theorem dX1_init_1 : decode cX1_init 1 = .ok (.invokespecial 3, 3) := by decide +kernel
theorem dX1_init_4 : decode cX1_init 4 = .ok (.aload_n 0, 1) := by decide +kernel
theorem dX1_init_5 : decode cX1_init 5 = .ok (.aload_n 1, 1) := by decide +kernel
theorem dX1_init_6 : decode cX1_init 6 = .ok (.putfield 9, 3) := by decide +kernel
theorem dX1_init_9 : decode cX1_init 9 = .ok (.aload_n 0, 1) := by decide +kernel
theorem dX1_init_10 : decode cX1_init 10 = .ok (.aload_n 2, 1) := by decide +kernel
theorem dX1_init_11 : decode cX1_init 11 = .ok (.putfield 15, 3) := by decide +kernel
theorem dX1_init_14 : decode cX1_init 14 = .ok (.return_, 1) := by decide +kernel
abbrev rX1_init : Room := { frames := 1, cells := 0, slots := 0, locals := 12 }
set_option maxHeartbeats 4000000 in
set_option maxRecDepth 100000 in
theorem ci_X1 (l : Launch) (D : va_G) (cs : Cs3) (h : Nat) (c0 : Nat) (c1 : Nat) : Ci l yX1_init cX1_init 3 rX1_init 0 0 D cs h [.ref h, .ref c0, .ref c1] [.inr (1, [.null, .null])] (WX1 cs h c0 c1) := by
  refine r_met (by decide +kernel) rfl (Nat.le_of_ble_eq_true rfl) ?_
  intro p e s m below meth c ls hC hO hin2 hr hR hS hl
  have hl : lv_has ls 3 [(0, .ref h), (1, .ref c0), (2, .ref c1)] := hl
  have hR : Wr D h [.inr (1, [.null, .null])] s.heap := hR
  refine lv_aload_n hC.1 hC.2.1 dX1_init_0 rfl (lv_at hl 0 rfl) ?_
  refine r_obj hC ml_X1_3 in_obj cw_obj hl.1 dX1_init_1 (Nat.le_of_ble_eq_true rfl) (Nat.le_of_ble_eq_true rfl) ?_
  refine lv_aload_n hC.1 hC.2.1 dX1_init_4 rfl (lv_at hl 0 rfl) ?_
  refine lv_aload_n hC.1 hC.2.1 dX1_init_5 rfl (lv_at hl 1 rfl) ?_
  refine r_putF (pre := []) (post := []) (C := RX1) (T := TX1) (N := 2) (ty := .object "ChoristerKeys$City") (v := .ref c0) hC hin2 hR hS rfl uX1 tyX1 tyX1_ok nmX1 0 (by decide) fl_X1_9 rfl rfl (by decide +kernel) rfl rfl (Nat.le_of_ble_eq_true rfl) rfl dX1_init_6 (fun H locs hR hS => ?_)
  have hR : Wr D h [.inr (1, [.ref c0, .null])] H := hR
  refine lv_aload_n hC.1 hC.2.1 dX1_init_9 rfl (lv_at hl 0 rfl) ?_
  refine lv_aload_n hC.1 hC.2.1 dX1_init_10 rfl (lv_at hl 2 rfl) ?_
  refine r_putF (pre := []) (post := []) (C := RX1) (T := TX1) (N := 2) (ty := .object "ChoristerKeys$Scene") (v := .ref c1) hC hin2 hR hS rfl uX1 tyX1 tyX1_ok nmX1 1 (by decide) fl_X1_15 rfl rfl (by decide +kernel) rfl rfl (Nat.le_of_ble_eq_true rfl) rfl dX1_init_11 (fun H locs hR hS => ?_)
  have hR : Wr D h [.inr (1, [.ref c0, .ref c1])] H := hR
  exact r_vret hC hr hR hS rfl rfl dX1_init_14
def WX4 (cs : Cs3) (h : Nat) (c0 : Nat) : List va_E := [.inr (4, [.ref c0, .ref (h + 1)]), .inl (cs.1, 32, .inl (fun _ => 0))]
theorem dX4_init_0 : decode cX4_init 0 = .ok (.aload_n 0, 1) := by decide +kernel
theorem dX4_init_1 : decode cX4_init 1 = .ok (.invokespecial 3, 3) := by decide +kernel
theorem dX4_init_4 : decode cX4_init 4 = .ok (.aload_n 0, 1) := by decide +kernel
theorem dX4_init_5 : decode cX4_init 5 = .ok (.bipush 32, 2) := by decide +kernel
theorem dX4_init_7 : decode cX4_init 7 = .ok (.newarray .int, 2) := by decide +kernel
theorem dX4_init_9 : decode cX4_init 9 = .ok (.putfield 9, 3) := by decide +kernel
theorem dX4_init_12 : decode cX4_init 12 = .ok (.aload_n 0, 1) := by decide +kernel
theorem dX4_init_13 : decode cX4_init 13 = .ok (.aload_n 1, 1) := by decide +kernel
theorem dX4_init_14 : decode cX4_init 14 = .ok (.putfield 15, 3) := by decide +kernel
theorem dX4_init_17 : decode cX4_init 17 = .ok (.return_, 1) := by decide +kernel
abbrev rX4_init : Room := { frames := 1, cells := 1, slots := 32, locals := 12 }
set_option maxHeartbeats 4000000 in
set_option maxRecDepth 100000 in
theorem ci_X4 (l : Launch) (D : va_G) (cs : Cs3) (h : Nat) (c0 : Nat) : Ci l yX4_init cX4_init 2 rX4_init 1 32 D cs h [.ref h, .ref c0] [.inr (4, [.null, .null])] (WX4 cs h c0) := by
  refine r_met (by decide +kernel) rfl (Nat.le_of_ble_eq_true rfl) ?_
  intro p e s m below meth c ls hC hO hin2 hr hR hS hl
  have hl : lv_has ls 2 [(0, .ref h), (1, .ref c0)] := hl
  have hR : Wr D h [.inr (4, [.null, .null])] s.heap := hR
  refine lv_aload_n hC.1 hC.2.1 dX4_init_0 rfl (lv_at hl 0 rfl) ?_
  refine r_obj hC ml_X4_3 in_obj cw_obj hl.1 dX4_init_1 (Nat.le_of_ble_eq_true rfl) (Nat.le_of_ble_eq_true rfl) ?_
  refine lv_aload_n hC.1 hC.2.1 dX4_init_4 rfl (lv_at hl 0 rfl) ?_
  refine lv_bipush (v := 32) hC.1 hC.2.1 dX4_init_5 (by decide) ?_
  refine r_newa hC hR hS aw_int 32 (by decide) (by decide) (Nat.le_of_ble_eq_true rfl) (Nat.le_of_ble_eq_true rfl) (Nat.le_of_ble_eq_true rfl) (a := h + 1) rfl dX4_init_7 (fun H hR hS => ?_)
  have hR : Wr D h [.inr (4, [.null, .null]), .inl (cs.1, 32, .inl (fun _ => 0))] H := hR
  refine r_putF (pre := []) (post := [.inl (cs.1, 32, .inl (fun _ => 0))]) (C := RX4) (T := TX4) (N := 2) (ty := .array .int) (v := .ref (h + 1)) hC hin2 hR hS rfl uX4 tyX4 tyX4_ok nmX4 1 (by decide) fl_X4_9 rfl rfl (by decide +kernel) rfl rfl (Nat.le_of_ble_eq_true rfl) rfl dX4_init_9 (fun H locs hR hS => ?_)
  have hR : Wr D h [.inr (4, [.null, .ref (h + 1)]), .inl (cs.1, 32, .inl (fun _ => 0))] H := hR
  refine lv_aload_n hC.1 hC.2.1 dX4_init_12 rfl (lv_at hl 0 rfl) ?_
  refine lv_aload_n hC.1 hC.2.1 dX4_init_13 rfl (lv_at hl 1 rfl) ?_
  refine r_putF (pre := []) (post := [.inl (cs.1, 32, .inl (fun _ => 0))]) (C := RX4) (T := TX4) (N := 2) (ty := .object "ChoristerKeys$Choir") (v := .ref c0) hC hin2 hR hS rfl uX4 tyX4 tyX4_ok nmX4 0 (by decide) fl_X4_15 rfl rfl (by decide +kernel) rfl rfl (Nat.le_of_ble_eq_true rfl) rfl dX4_init_14 (fun H locs hR hS => ?_)
  have hR : Wr D h [.inr (4, [.ref c0, .ref (h + 1)]), .inl (cs.1, 32, .inl (fun _ => 0))] H := hR
  exact r_vret hC hr hR hS rfl rfl dX4_init_17
def WX0 (cs : Cs3) (h : Nat) : List va_E := [.inr (0, [.ref (h + 1), .int 0, .int 1]), .inl (cs.1, 6, .inl (fun _ => 0))]
theorem dX0_init_0 : decode cX0_init 0 = .ok (.aload_n 0, 1) := by decide +kernel
theorem dX0_init_1 : decode cX0_init 1 = .ok (.invokespecial 3, 3) := by decide +kernel
theorem dX0_init_4 : decode cX0_init 4 = .ok (.aload_n 0, 1) := by decide +kernel
theorem dX0_init_5 : decode cX0_init 5 = .ok (.bipush 6, 2) := by decide +kernel
theorem dX0_init_7 : decode cX0_init 7 = .ok (.newarray .int, 2) := by decide +kernel
theorem dX0_init_9 : decode cX0_init 9 = .ok (.putfield 9, 3) := by decide +kernel
theorem dX0_init_12 : decode cX0_init 12 = .ok (.aload_n 0, 1) := by decide +kernel
theorem dX0_init_13 : decode cX0_init 13 = .ok (.iconst 0, 1) := by decide +kernel
theorem dX0_init_14 : decode cX0_init 14 = .ok (.putfield 15, 3) := by decide +kernel
theorem dX0_init_17 : decode cX0_init 17 = .ok (.aload_n 0, 1) := by decide +kernel
theorem dX0_init_18 : decode cX0_init 18 = .ok (.iconst 1, 1) := by decide +kernel
theorem dX0_init_19 : decode cX0_init 19 = .ok (.putfield 19, 3) := by decide +kernel
theorem dX0_init_22 : decode cX0_init 22 = .ok (.return_, 1) := by decide +kernel
abbrev rX0_init : Room := { frames := 1, cells := 1, slots := 6, locals := 12 }
set_option maxHeartbeats 4000000 in
set_option maxRecDepth 100000 in
theorem ci_X0 (l : Launch) (D : va_G) (cs : Cs3) (h : Nat) : Ci l yX0_init cX0_init 1 rX0_init 1 6 D cs h [.ref h] [.inr (0, [.null, .int 0, .int 0])] (WX0 cs h) := by
  refine r_met (by decide +kernel) rfl (Nat.le_of_ble_eq_true rfl) ?_
  intro p e s m below meth c ls hC hO hin2 hr hR hS hl
  have hl : lv_has ls 1 [(0, .ref h)] := hl
  have hR : Wr D h [.inr (0, [.null, .int 0, .int 0])] s.heap := hR
  refine lv_aload_n hC.1 hC.2.1 dX0_init_0 rfl (lv_at hl 0 rfl) ?_
  refine r_obj hC ml_X0_3 in_obj cw_obj hl.1 dX0_init_1 (Nat.le_of_ble_eq_true rfl) (Nat.le_of_ble_eq_true rfl) ?_
  refine lv_aload_n hC.1 hC.2.1 dX0_init_4 rfl (lv_at hl 0 rfl) ?_
  refine lv_bipush (v := 6) hC.1 hC.2.1 dX0_init_5 (by decide) ?_
  refine r_newa hC hR hS aw_int 6 (by decide) (by decide) (Nat.le_of_ble_eq_true rfl) (Nat.le_of_ble_eq_true rfl) (Nat.le_of_ble_eq_true rfl) (a := h + 1) rfl dX0_init_7 (fun H hR hS => ?_)
  have hR : Wr D h [.inr (0, [.null, .int 0, .int 0]), .inl (cs.1, 6, .inl (fun _ => 0))] H := hR
  refine r_putF (pre := []) (post := [.inl (cs.1, 6, .inl (fun _ => 0))]) (C := RX0) (T := TX0) (N := 3) (ty := .array .int) (v := .ref (h + 1)) hC hin2 hR hS rfl uX0 tyX0 tyX0_ok nmX0 0 (by decide) fl_X0_9 rfl rfl (by decide +kernel) rfl rfl (Nat.le_of_ble_eq_true rfl) rfl dX0_init_9 (fun H locs hR hS => ?_)
  have hR : Wr D h [.inr (0, [.ref (h + 1), .int 0, .int 0]), .inl (cs.1, 6, .inl (fun _ => 0))] H := hR
  refine lv_aload_n hC.1 hC.2.1 dX0_init_12 rfl (lv_at hl 0 rfl) ?_
  refine lv_iconst (v := 0) hC.1 hC.2.1 dX0_init_13 (by decide) ?_
  refine r_put (pre := []) (post := [.inl (cs.1, 6, .inl (fun _ => 0))]) (C := RX0) (T := TX0) (N := 3) (ty := .int) (v := .int 0) hC hR hS rfl uX0 tyX0 tyX0_ok nmX0 1 (by decide) fl_X0_15 rfl (by decide +kernel) rfl rfl (Nat.le_of_ble_eq_true rfl) rfl dX0_init_14 (fun H locs hR hS => ?_)
  have hR : Wr D h [.inr (0, [.ref (h + 1), .int 0, .int 0]), .inl (cs.1, 6, .inl (fun _ => 0))] H := hR
  refine lv_aload_n hC.1 hC.2.1 dX0_init_17 rfl (lv_at hl 0 rfl) ?_
  refine lv_iconst (v := 1) hC.1 hC.2.1 dX0_init_18 (by decide) ?_
  refine r_put (pre := []) (post := [.inl (cs.1, 6, .inl (fun _ => 0))]) (C := RX0) (T := TX0) (N := 3) (ty := .int) (v := .int 1) hC hR hS rfl uX0 tyX0 tyX0_ok nmX0 2 (by decide) fl_X0_19 rfl (by decide +kernel) rfl rfl (Nat.le_of_ble_eq_true rfl) rfl dX0_init_19 (fun H locs hR hS => ?_)
  have hR : Wr D h [.inr (0, [.ref (h + 1), .int 0, .int 1]), .inl (cs.1, 6, .inl (fun _ => 0))] H := hR
  exact r_vret hC hr hR hS rfl rfl dX0_init_22
def WX3 (cs : Cs3) (h : Nat) (c0 : Nat) : List va_E := [.inr (3, [.ref c0, .ref (h + 1), .ref (h + 2), .int 0]), .inl (cs.1, 6, .inl (fun _ => 0)), .inl (cs.1, 6, .inl (fun _ => 0))]
theorem dX3_init_0 : decode cX3_init 0 = .ok (.aload_n 0, 1) := by decide +kernel
theorem dX3_init_1 : decode cX3_init 1 = .ok (.invokespecial 3, 3) := by decide +kernel
theorem dX3_init_4 : decode cX3_init 4 = .ok (.aload_n 0, 1) := by decide +kernel
theorem dX3_init_5 : decode cX3_init 5 = .ok (.bipush 6, 2) := by decide +kernel
theorem dX3_init_7 : decode cX3_init 7 = .ok (.newarray .int, 2) := by decide +kernel
theorem dX3_init_9 : decode cX3_init 9 = .ok (.putfield 9, 3) := by decide +kernel
theorem dX3_init_12 : decode cX3_init 12 = .ok (.aload_n 0, 1) := by decide +kernel
theorem dX3_init_13 : decode cX3_init 13 = .ok (.bipush 6, 2) := by decide +kernel
theorem dX3_init_15 : decode cX3_init 15 = .ok (.newarray .int, 2) := by decide +kernel
theorem dX3_init_17 : decode cX3_init 17 = .ok (.putfield 15, 3) := by decide +kernel
theorem dX3_init_20 : decode cX3_init 20 = .ok (.aload_n 0, 1) := by decide +kernel
theorem dX3_init_21 : decode cX3_init 21 = .ok (.iconst 0, 1) := by decide +kernel
theorem dX3_init_22 : decode cX3_init 22 = .ok (.putfield 18, 3) := by decide +kernel
theorem dX3_init_25 : decode cX3_init 25 = .ok (.aload_n 0, 1) := by decide +kernel
theorem dX3_init_26 : decode cX3_init 26 = .ok (.aload_n 1, 1) := by decide +kernel
theorem dX3_init_27 : decode cX3_init 27 = .ok (.putfield 22, 3) := by decide +kernel
theorem dX3_init_30 : decode cX3_init 30 = .ok (.return_, 1) := by decide +kernel
abbrev rX3_init : Room := { frames := 1, cells := 2, slots := 12, locals := 12 }
set_option maxHeartbeats 4000000 in
set_option maxRecDepth 100000 in
theorem ci_X3 (l : Launch) (D : va_G) (cs : Cs3) (h : Nat) (c0 : Nat) : Ci l yX3_init cX3_init 2 rX3_init 2 12 D cs h [.ref h, .ref c0] [.inr (3, [.null, .null, .null, .int 0])] (WX3 cs h c0) := by
  refine r_met (by decide +kernel) rfl (Nat.le_of_ble_eq_true rfl) ?_
  intro p e s m below meth c ls hC hO hin2 hr hR hS hl
  have hl : lv_has ls 2 [(0, .ref h), (1, .ref c0)] := hl
  have hR : Wr D h [.inr (3, [.null, .null, .null, .int 0])] s.heap := hR
  refine lv_aload_n hC.1 hC.2.1 dX3_init_0 rfl (lv_at hl 0 rfl) ?_
  refine r_obj hC ml_X3_3 in_obj cw_obj hl.1 dX3_init_1 (Nat.le_of_ble_eq_true rfl) (Nat.le_of_ble_eq_true rfl) ?_
  refine lv_aload_n hC.1 hC.2.1 dX3_init_4 rfl (lv_at hl 0 rfl) ?_
  refine lv_bipush (v := 6) hC.1 hC.2.1 dX3_init_5 (by decide) ?_
  refine r_newa hC hR hS aw_int 6 (by decide) (by decide) (Nat.le_of_ble_eq_true rfl) (Nat.le_of_ble_eq_true rfl) (Nat.le_of_ble_eq_true rfl) (a := h + 1) rfl dX3_init_7 (fun H hR hS => ?_)
  have hR : Wr D h [.inr (3, [.null, .null, .null, .int 0]), .inl (cs.1, 6, .inl (fun _ => 0))] H := hR
  refine r_putF (pre := []) (post := [.inl (cs.1, 6, .inl (fun _ => 0))]) (C := RX3) (T := TX3) (N := 4) (ty := .array .int) (v := .ref (h + 1)) hC hin2 hR hS rfl uX3 tyX3 tyX3_ok nmX3 1 (by decide) fl_X3_9 rfl rfl (by decide +kernel) rfl rfl (Nat.le_of_ble_eq_true rfl) rfl dX3_init_9 (fun H locs hR hS => ?_)
  have hR : Wr D h [.inr (3, [.null, .ref (h + 1), .null, .int 0]), .inl (cs.1, 6, .inl (fun _ => 0))] H := hR
  refine lv_aload_n hC.1 hC.2.1 dX3_init_12 rfl (lv_at hl 0 rfl) ?_
  refine lv_bipush (v := 6) hC.1 hC.2.1 dX3_init_13 (by decide) ?_
  refine r_newa hC hR hS aw_int 6 (by decide) (by decide) (Nat.le_of_ble_eq_true rfl) (Nat.le_of_ble_eq_true rfl) (Nat.le_of_ble_eq_true rfl) (a := h + 2) rfl dX3_init_15 (fun H hR hS => ?_)
  have hR : Wr D h [.inr (3, [.null, .ref (h + 1), .null, .int 0]), .inl (cs.1, 6, .inl (fun _ => 0)), .inl (cs.1, 6, .inl (fun _ => 0))] H := hR
  refine r_putF (pre := []) (post := [.inl (cs.1, 6, .inl (fun _ => 0)), .inl (cs.1, 6, .inl (fun _ => 0))]) (C := RX3) (T := TX3) (N := 4) (ty := .array .int) (v := .ref (h + 2)) hC hin2 hR hS rfl uX3 tyX3 tyX3_ok nmX3 2 (by decide) fl_X3_15 rfl rfl (by decide +kernel) rfl rfl (Nat.le_of_ble_eq_true rfl) rfl dX3_init_17 (fun H locs hR hS => ?_)
  have hR : Wr D h [.inr (3, [.null, .ref (h + 1), .ref (h + 2), .int 0]), .inl (cs.1, 6, .inl (fun _ => 0)), .inl (cs.1, 6, .inl (fun _ => 0))] H := hR
  refine lv_aload_n hC.1 hC.2.1 dX3_init_20 rfl (lv_at hl 0 rfl) ?_
  refine lv_iconst (v := 0) hC.1 hC.2.1 dX3_init_21 (by decide) ?_
  refine r_put (pre := []) (post := [.inl (cs.1, 6, .inl (fun _ => 0)), .inl (cs.1, 6, .inl (fun _ => 0))]) (C := RX3) (T := TX3) (N := 4) (ty := .int) (v := .int 0) hC hR hS rfl uX3 tyX3 tyX3_ok nmX3 3 (by decide) fl_X3_18 rfl (by decide +kernel) rfl rfl (Nat.le_of_ble_eq_true rfl) rfl dX3_init_22 (fun H locs hR hS => ?_)
  have hR : Wr D h [.inr (3, [.null, .ref (h + 1), .ref (h + 2), .int 0]), .inl (cs.1, 6, .inl (fun _ => 0)), .inl (cs.1, 6, .inl (fun _ => 0))] H := hR
  refine lv_aload_n hC.1 hC.2.1 dX3_init_25 rfl (lv_at hl 0 rfl) ?_
  refine lv_aload_n hC.1 hC.2.1 dX3_init_26 rfl (lv_at hl 1 rfl) ?_
  refine r_putF (pre := []) (post := [.inl (cs.1, 6, .inl (fun _ => 0)), .inl (cs.1, 6, .inl (fun _ => 0))]) (C := RX3) (T := TX3) (N := 4) (ty := .object "ChoristerKeys$Choir") (v := .ref c0) hC hin2 hR hS rfl uX3 tyX3 tyX3_ok nmX3 0 (by decide) fl_X3_22 rfl rfl (by decide +kernel) rfl rfl (Nat.le_of_ble_eq_true rfl) rfl dX3_init_27 (fun H locs hR hS => ?_)
  have hR : Wr D h [.inr (3, [.ref c0, .ref (h + 1), .ref (h + 2), .int 0]), .inl (cs.1, 6, .inl (fun _ => 0)), .inl (cs.1, 6, .inl (fun _ => 0))] H := hR
  exact r_vret hC hr hR hS rfl rfl dX3_init_30
def WX5 (cs : Cs3) (h : Nat) (c0 : Nat) : List va_E := [.inr (5, [.ref c0, .long 0])]
theorem dX5_init_0 : decode cX5_init 0 = .ok (.aload_n 0, 1) := by decide +kernel
theorem dX5_init_1 : decode cX5_init 1 = .ok (.invokespecial 3, 3) := by decide +kernel
theorem dX5_init_4 : decode cX5_init 4 = .ok (.aload_n 0, 1) := by decide +kernel
theorem dX5_init_5 : decode cX5_init 5 = .ok (.lconst 0, 1) := by decide +kernel
theorem dX5_init_6 : decode cX5_init 6 = .ok (.putfield 9, 3) := by decide +kernel
theorem dX5_init_9 : decode cX5_init 9 = .ok (.aload_n 0, 1) := by decide +kernel
theorem dX5_init_10 : decode cX5_init 10 = .ok (.aload_n 1, 1) := by decide +kernel
theorem dX5_init_11 : decode cX5_init 11 = .ok (.putfield 15, 3) := by decide +kernel
theorem dX5_init_14 : decode cX5_init 14 = .ok (.return_, 1) := by decide +kernel
abbrev rX5_init : Room := { frames := 1, cells := 0, slots := 0, locals := 12 }
set_option maxHeartbeats 4000000 in
set_option maxRecDepth 100000 in
theorem ci_X5 (l : Launch) (D : va_G) (cs : Cs3) (h : Nat) (c0 : Nat) : Ci l yX5_init cX5_init 2 rX5_init 0 0 D cs h [.ref h, .ref c0] [.inr (5, [.null, .long 0])] (WX5 cs h c0) := by
  refine r_met (by decide +kernel) rfl (Nat.le_of_ble_eq_true rfl) ?_
  intro p e s m below meth c ls hC hO hin2 hr hR hS hl
  have hl : lv_has ls 2 [(0, .ref h), (1, .ref c0)] := hl
  have hR : Wr D h [.inr (5, [.null, .long 0])] s.heap := hR
  refine lv_aload_n hC.1 hC.2.1 dX5_init_0 rfl (lv_at hl 0 rfl) ?_
  refine r_obj hC ml_X5_3 in_obj cw_obj hl.1 dX5_init_1 (Nat.le_of_ble_eq_true rfl) (Nat.le_of_ble_eq_true rfl) ?_
  refine lv_aload_n hC.1 hC.2.1 dX5_init_4 rfl (lv_at hl 0 rfl) ?_
  refine lv_lconst (v := 0) hC.1 hC.2.1 dX5_init_5 rfl ?_
  refine r_put (pre := []) (post := []) (C := RX5) (T := TX5) (N := 2) (ty := .long) (v := .long 0) hC hR hS rfl uX5 tyX5 tyX5_ok nmX5 1 (by decide) fl_X5_9 rfl (by decide +kernel) rfl rfl (Nat.le_of_ble_eq_true rfl) rfl dX5_init_6 (fun H locs hR hS => ?_)
  have hR : Wr D h [.inr (5, [.null, .long 0])] H := hR
  refine lv_aload_n hC.1 hC.2.1 dX5_init_9 rfl (lv_at hl 0 rfl) ?_
  refine lv_aload_n hC.1 hC.2.1 dX5_init_10 rfl (lv_at hl 1 rfl) ?_
  refine r_putF (pre := []) (post := []) (C := RX5) (T := TX5) (N := 2) (ty := .object "ChoristerKeys$Choir") (v := .ref c0) hC hin2 hR hS rfl uX5 tyX5 tyX5_ok nmX5 0 (by decide) fl_X5_15 rfl rfl (by decide +kernel) rfl rfl (Nat.le_of_ble_eq_true rfl) rfl dX5_init_11 (fun H locs hR hS => ?_)
  have hR : Wr D h [.inr (5, [.ref c0, .long 0])] H := hR
  exact r_vret hC hr hR hS rfl rfl dX5_init_14
def GX6 (h : Nat) : Nat → Option Nat := (va_up (va_up (va_up (va_up (va_up (va_up (va_up (va_up (va_up (va_up (fun _ => none) 0 (some (h + 2))) 1 (some (h + 7))) 2 (some (h + 12))) 3 (some (h + 17))) 4 (some (h + 22))) 5 (some (h + 27))) 6 (some (h + 32))) 7 (some (h + 37))) 8 (some (h + 42))) 9 (some (h + 47)))
def WX6 (cs : Cs3) (h : Nat) : List va_E := .inr (6, [.ref (h + 1), .int 0, .int 0]) :: .inl (cs.2.2, 10, .inr (.inr (.inr (.inr (GX6 h))))) :: (((((((((([] ++ WX8 cs (h + 2)) ++ WX8 cs (h + 7)) ++ WX8 cs (h + 12)) ++ WX8 cs (h + 17)) ++ WX8 cs (h + 22)) ++ WX8 cs (h + 27)) ++ WX8 cs (h + 32)) ++ WX8 cs (h + 37)) ++ WX8 cs (h + 42)) ++ WX8 cs (h + 47))
theorem dX6_init_0 : decode cX6_init 0 = .ok (.aload_n 0, 1) := by decide +kernel
theorem dX6_init_1 : decode cX6_init 1 = .ok (.invokespecial 3, 3) := by decide +kernel
theorem dX6_init_4 : decode cX6_init 4 = .ok (.aload_n 0, 1) := by decide +kernel
theorem dX6_init_5 : decode cX6_init 5 = .ok (.iconst 0, 1) := by decide +kernel
theorem dX6_init_6 : decode cX6_init 6 = .ok (.putfield 9, 3) := by decide +kernel
theorem dX6_init_9 : decode cX6_init 9 = .ok (.aload_n 0, 1) := by decide +kernel
theorem dX6_init_10 : decode cX6_init 10 = .ok (.iconst 0, 1) := by decide +kernel
theorem dX6_init_11 : decode cX6_init 11 = .ok (.putfield 15, 3) := by decide +kernel
theorem dX6_init_14 : decode cX6_init 14 = .ok (.aload_n 0, 1) := by decide +kernel
theorem dX6_init_15 : decode cX6_init 15 = .ok (.bipush 10, 2) := by decide +kernel
theorem dX6_init_17 : decode cX6_init 17 = .ok (.anewarray 18, 3) := by decide +kernel
theorem dX6_init_20 : decode cX6_init 20 = .ok (.putfield 20, 3) := by decide +kernel
theorem dX6_init_23 : decode cX6_init 23 = .ok (.iconst 0, 1) := by decide +kernel
theorem dX6_init_24 : decode cX6_init 24 = .ok (.istore_n 1, 1) := by decide +kernel
theorem dX6_init_25 : decode cX6_init 25 = .ok (.iload_n 1, 1) := by decide +kernel
theorem dX6_init_26 : decode cX6_init 26 = .ok (.bipush 10, 2) := by decide +kernel
theorem dX6_init_28 : decode cX6_init 28 = .ok (.if_icmp .ge 22, 3) := by decide +kernel
theorem dX6_init_31 : decode cX6_init 31 = .ok (.aload_n 0, 1) := by decide +kernel
theorem dX6_init_32 : decode cX6_init 32 = .ok (.getfield 20, 3) := by decide +kernel
theorem dX6_init_35 : decode cX6_init 35 = .ok (.iload_n 1, 1) := by decide +kernel
theorem dX6_init_36 : decode cX6_init 36 = .ok (.new 18, 3) := by decide +kernel
theorem dX6_init_39 : decode cX6_init 39 = .ok (.dup, 1) := by decide +kernel
theorem dX6_init_40 : decode cX6_init 40 = .ok (.invokespecial 24, 3) := by decide +kernel
theorem dX6_init_43 : decode cX6_init 43 = .ok (.aastore, 1) := by decide +kernel
theorem dX6_init_44 : decode cX6_init 44 = .ok (.iinc 1 1, 3) := by decide +kernel
theorem dX6_init_47 : decode cX6_init 47 = .ok (.goto (-22), 3) := by decide +kernel
theorem dX6_init_50 : decode cX6_init 50 = .ok (.return_, 1) := by decide +kernel
abbrev rX6_init : Room := { frames := 2, cells := 51, slots := 300, locals := 32 }
set_option maxHeartbeats 8000000 in
set_option maxRecDepth 100000 in
theorem ci_X6 (l : Launch) (D : va_G) (cs : Cs3) (h : Nat) : Ci l yX6_init cX6_init 2 rX6_init 51 300 D cs h [.ref h] [.inr (6, [.null, .int 0, .int 0])] (WX6 cs h) := by
  refine r_met (by decide +kernel) rfl (Nat.le_of_ble_eq_true rfl) ?_
  intro p e s m below meth c ls hC hO hin2 hr hR hS hl
  have hl : lv_has ls 2 [(0, .ref h)] := hl
  have hR : Wr D h [.inr (6, [.null, .int 0, .int 0])] s.heap := hR
  refine lv_aload_n hC.1 hC.2.1 dX6_init_0 rfl (lv_at hl 0 rfl) ?_
  refine r_obj hC ml_X6_3 in_obj cw_obj hl.1 dX6_init_1 (Nat.le_of_ble_eq_true rfl) (Nat.le_of_ble_eq_true rfl) ?_
  refine lv_aload_n hC.1 hC.2.1 dX6_init_4 rfl (lv_at hl 0 rfl) ?_
  refine lv_iconst (v := 0) hC.1 hC.2.1 dX6_init_5 (by decide) ?_
  refine r_put (pre := []) (post := []) (C := RX6) (T := TX6) (N := 3) (ty := .int) (v := .int 0) hC hR hS rfl uX6 tyX6 tyX6_ok nmX6 1 (by decide) fl_X6_9 rfl (by decide +kernel) rfl rfl (Nat.le_of_ble_eq_true rfl) rfl dX6_init_6 (fun H locs hR hS => ?_)
  have hR : Wr D h [.inr (6, [.null, .int 0, .int 0])] H := hR
  refine lv_aload_n hC.1 hC.2.1 dX6_init_9 rfl (lv_at hl 0 rfl) ?_
  refine lv_iconst (v := 0) hC.1 hC.2.1 dX6_init_10 (by decide) ?_
  refine r_put (pre := []) (post := []) (C := RX6) (T := TX6) (N := 3) (ty := .int) (v := .int 0) hC hR hS rfl uX6 tyX6 tyX6_ok nmX6 2 (by decide) fl_X6_15 rfl (by decide +kernel) rfl rfl (Nat.le_of_ble_eq_true rfl) rfl dX6_init_11 (fun H locs hR hS => ?_)
  have hR : Wr D h [.inr (6, [.null, .int 0, .int 0])] H := hR
  refine lv_aload_n hC.1 hC.2.1 dX6_init_14 rfl (lv_at hl 0 rfl) ?_
  refine lv_bipush (v := 10) hC.1 hC.2.1 dX6_init_15 (by decide) ?_
  refine r_newq hC hO hR hS cl_X6_18 10 (by decide) (by decide) (Nat.le_of_ble_eq_true rfl) (Nat.le_of_ble_eq_true rfl) (Nat.le_of_ble_eq_true rfl) (a := h + 1) rfl dX6_init_17 (fun H hR hS => ?_)
  have hR : Wr D h [.inr (6, [.null, .int 0, .int 0]), .inl (cs.2.2, 10, .inr (.inr (.inr (.inr (fun _ => none)))))] H := hR
  refine r_putF (pre := []) (post := [.inl (cs.2.2, 10, .inr (.inr (.inr (.inr (fun _ => none)))))]) (C := RX6) (T := TX6) (N := 3) (ty := .array (.object "ChoristerKeys$Scene")) (v := .ref (h + 1)) hC hin2 hR hS rfl uX6 tyX6 tyX6_ok nmX6 0 (by decide) fl_X6_20 rfl rfl (by decide +kernel) rfl rfl (Nat.le_of_ble_eq_true rfl) rfl dX6_init_20 (fun H locs hR hS => ?_)
  have hR : Wr D h (.inr (6, [.ref (h + 1), .int 0, .int 0]) :: .inl (cs.2.2, 10, .inr (.inr (.inr (.inr (fun _ => none))))) :: []) H := hR
  refine lv_iconst (v := 0) hC.1 hC.2.1 dX6_init_23 (by decide) ?_
  refine lv_istore_n (lv' := [(1, .int 0), (0, .ref h)]) hC.1 hC.2.1 dX6_init_24 rfl hl (by decide) rfl (fun ls hl => ?_)
  refine lv_iload_n hC.1 hC.2.1 dX6_init_25 rfl (lv_at hl 0 rfl) ?_
  refine lv_bipush (v := 10) hC.1 hC.2.1 dX6_init_26 (by decide) ?_
  refine lv_icmp_ge (tgt := 50) hC.1 hC.2.1 dX6_init_28 (by decide) (fun hc => absurd hc (by decide)) (fun hc => ?_)
  refine lv_aload_n hC.1 hC.2.1 dX6_init_31 rfl (lv_at hl 1 rfl) ?_
  refine r_get (pre := []) (post := .inl (cs.2.2, 10, .inr (.inr (.inr (.inr (fun _ => none))))) :: []) (C := RX6) (T := TX6) (N := 3) (v := .ref (h + 1)) hC hR rfl uX6 0 (by decide) fl_X6_20 rfl rfl dX6_init_32 ?_
  refine lv_iload_n hC.1 hC.2.1 dX6_init_35 rfl (lv_at hl 0 rfl) ?_
  refine r_new (n := 8) (fs := [.null, .null, .null, .null, .int 0, .int 0]) (C := RX8) (T := TX8) (N := 6) hC hR hS rfl uX8 tyX8 tyX8_ok cl_X6_18 nw_X8 iw_X8 (fun j hj => by match j, hj with | 0, _ => rfl | 1, _ => rfl | 2, _ => rfl | 3, _ => rfl | 4, _ => rfl | 5, _ => rfl | j + 6, hj => exact absurd hj (by omega)) (Nat.le_of_ble_eq_true rfl) (Nat.le_of_ble_eq_true rfl) (a := h + 2) rfl dX6_init_36 (fun H hR hS => ?_)
  refine lv_dup hC.1 hC.2.1 dX6_init_39 rfl ?_
  refine r_ctorN (pre := .inr (6, [.ref (h + 1), .int 0, .int 0]) :: .inl (cs.2.2, 10, .inr (.inr (.inr (.inr (fun _ => none))))) :: []) (a := h + 2) (As := []) (rest := [.ref (h + 2), .int 0, .ref (h + 1)]) hC hO hR hS (ci_X8 l D cs (h + 2)) rfl mi_X8_init in_X8_init rfl ml_X6_24 ⟨rfl, rfl⟩ ⟨Nat.le_of_ble_eq_true rfl, Nat.le_of_ble_eq_true rfl⟩ ⟨Nat.le_of_ble_eq_true rfl, Nat.le_of_ble_eq_true rfl⟩ rfl rfl hl.1 (Nat.le_of_ble_eq_true rfl) dX6_init_40 (fun H locs hR hS => ?_)
  have hR : Wr D h (.inr (6, [.ref (h + 1), .int 0, .int 0]) :: .inl (cs.2.2, 10, .inr (.inr (.inr (.inr (fun _ => none))))) :: ([] ++ WX8 cs (h + 2))) H := hR
  refine r_aast (pre := [.inr (6, [.ref (h + 1), .int 0, .int 0])]) (post := ([] ++ WX8 cs (h + 2))) hC hR hS (kv := 2) rfl (v := h + 2) rfl 0 (by decide) (show vin 0 10 by decide) rfl dX6_init_43 (fun H locs hR hS => ?_)
  have hR : Wr D h (.inr (6, [.ref (h + 1), .int 0, .int 0]) :: .inl (cs.2.2, 10, .inr (.inr (.inr (.inr (va_up (fun _ => none) 0 (some (h + 2))))))) :: ([] ++ WX8 cs (h + 2))) H := hR
  refine lv_iinc (v := 1) (lv' := [(1, .int 1), (0, .ref h)]) hC.1 hC.2.1 dX6_init_44 hl (k := 0) rfl (by decide) (by decide) rfl (fun ls hl => ?_)
  refine lv_goto (tgt := 25) hC.1 hC.2.1 dX6_init_47 (by decide) ?_
  refine lv_iload_n hC.1 hC.2.1 dX6_init_25 rfl (lv_at hl 0 rfl) ?_
  refine lv_bipush (v := 10) hC.1 hC.2.1 dX6_init_26 (by decide) ?_
  refine lv_icmp_ge (tgt := 50) hC.1 hC.2.1 dX6_init_28 (by decide) (fun hc => absurd hc (by decide)) (fun hc => ?_)
  refine lv_aload_n hC.1 hC.2.1 dX6_init_31 rfl (lv_at hl 1 rfl) ?_
  refine r_get (pre := []) (post := .inl (cs.2.2, 10, .inr (.inr (.inr (.inr (va_up (fun _ => none) 0 (some (h + 2))))))) :: ([] ++ WX8 cs (h + 2))) (C := RX6) (T := TX6) (N := 3) (v := .ref (h + 1)) hC hR rfl uX6 0 (by decide) fl_X6_20 rfl rfl dX6_init_32 ?_
  refine lv_iload_n hC.1 hC.2.1 dX6_init_35 rfl (lv_at hl 0 rfl) ?_
  refine r_new (n := 8) (fs := [.null, .null, .null, .null, .int 0, .int 0]) (C := RX8) (T := TX8) (N := 6) hC hR hS rfl uX8 tyX8 tyX8_ok cl_X6_18 nw_X8 iw_X8 (fun j hj => by match j, hj with | 0, _ => rfl | 1, _ => rfl | 2, _ => rfl | 3, _ => rfl | 4, _ => rfl | 5, _ => rfl | j + 6, hj => exact absurd hj (by omega)) (Nat.le_of_ble_eq_true rfl) (Nat.le_of_ble_eq_true rfl) (a := h + 7) rfl dX6_init_36 (fun H hR hS => ?_)
  refine lv_dup hC.1 hC.2.1 dX6_init_39 rfl ?_
  refine r_ctorN (pre := .inr (6, [.ref (h + 1), .int 0, .int 0]) :: .inl (cs.2.2, 10, .inr (.inr (.inr (.inr (va_up (fun _ => none) 0 (some (h + 2))))))) :: ([] ++ WX8 cs (h + 2))) (a := h + 7) (As := []) (rest := [.ref (h + 7), .int 1, .ref (h + 1)]) hC hO hR hS (ci_X8 l D cs (h + 7)) rfl mi_X8_init in_X8_init rfl ml_X6_24 ⟨rfl, rfl⟩ ⟨Nat.le_of_ble_eq_true rfl, Nat.le_of_ble_eq_true rfl⟩ ⟨Nat.le_of_ble_eq_true rfl, Nat.le_of_ble_eq_true rfl⟩ rfl rfl hl.1 (Nat.le_of_ble_eq_true rfl) dX6_init_40 (fun H locs hR hS => ?_)
  have hR : Wr D h (.inr (6, [.ref (h + 1), .int 0, .int 0]) :: .inl (cs.2.2, 10, .inr (.inr (.inr (.inr (va_up (fun _ => none) 0 (some (h + 2))))))) :: (([] ++ WX8 cs (h + 2)) ++ WX8 cs (h + 7))) H := hR
  refine r_aast (pre := [.inr (6, [.ref (h + 1), .int 0, .int 0])]) (post := (([] ++ WX8 cs (h + 2)) ++ WX8 cs (h + 7))) hC hR hS (kv := 7) rfl (v := h + 7) rfl 1 (by decide) (show vin 1 10 by decide) rfl dX6_init_43 (fun H locs hR hS => ?_)
  have hR : Wr D h (.inr (6, [.ref (h + 1), .int 0, .int 0]) :: .inl (cs.2.2, 10, .inr (.inr (.inr (.inr (va_up (va_up (fun _ => none) 0 (some (h + 2))) 1 (some (h + 7))))))) :: (([] ++ WX8 cs (h + 2)) ++ WX8 cs (h + 7))) H := hR
  refine lv_iinc (v := 2) (lv' := [(1, .int 2), (0, .ref h)]) hC.1 hC.2.1 dX6_init_44 hl (k := 0) rfl (by decide) (by decide) rfl (fun ls hl => ?_)
  refine lv_goto (tgt := 25) hC.1 hC.2.1 dX6_init_47 (by decide) ?_
  refine lv_iload_n hC.1 hC.2.1 dX6_init_25 rfl (lv_at hl 0 rfl) ?_
  refine lv_bipush (v := 10) hC.1 hC.2.1 dX6_init_26 (by decide) ?_
  refine lv_icmp_ge (tgt := 50) hC.1 hC.2.1 dX6_init_28 (by decide) (fun hc => absurd hc (by decide)) (fun hc => ?_)
  refine lv_aload_n hC.1 hC.2.1 dX6_init_31 rfl (lv_at hl 1 rfl) ?_
  refine r_get (pre := []) (post := .inl (cs.2.2, 10, .inr (.inr (.inr (.inr (va_up (va_up (fun _ => none) 0 (some (h + 2))) 1 (some (h + 7))))))) :: (([] ++ WX8 cs (h + 2)) ++ WX8 cs (h + 7))) (C := RX6) (T := TX6) (N := 3) (v := .ref (h + 1)) hC hR rfl uX6 0 (by decide) fl_X6_20 rfl rfl dX6_init_32 ?_
  refine lv_iload_n hC.1 hC.2.1 dX6_init_35 rfl (lv_at hl 0 rfl) ?_
  refine r_new (n := 8) (fs := [.null, .null, .null, .null, .int 0, .int 0]) (C := RX8) (T := TX8) (N := 6) hC hR hS rfl uX8 tyX8 tyX8_ok cl_X6_18 nw_X8 iw_X8 (fun j hj => by match j, hj with | 0, _ => rfl | 1, _ => rfl | 2, _ => rfl | 3, _ => rfl | 4, _ => rfl | 5, _ => rfl | j + 6, hj => exact absurd hj (by omega)) (Nat.le_of_ble_eq_true rfl) (Nat.le_of_ble_eq_true rfl) (a := h + 12) rfl dX6_init_36 (fun H hR hS => ?_)
  refine lv_dup hC.1 hC.2.1 dX6_init_39 rfl ?_
  refine r_ctorN (pre := .inr (6, [.ref (h + 1), .int 0, .int 0]) :: .inl (cs.2.2, 10, .inr (.inr (.inr (.inr (va_up (va_up (fun _ => none) 0 (some (h + 2))) 1 (some (h + 7))))))) :: (([] ++ WX8 cs (h + 2)) ++ WX8 cs (h + 7))) (a := h + 12) (As := []) (rest := [.ref (h + 12), .int 2, .ref (h + 1)]) hC hO hR hS (ci_X8 l D cs (h + 12)) rfl mi_X8_init in_X8_init rfl ml_X6_24 ⟨rfl, rfl⟩ ⟨Nat.le_of_ble_eq_true rfl, Nat.le_of_ble_eq_true rfl⟩ ⟨Nat.le_of_ble_eq_true rfl, Nat.le_of_ble_eq_true rfl⟩ rfl rfl hl.1 (Nat.le_of_ble_eq_true rfl) dX6_init_40 (fun H locs hR hS => ?_)
  have hR : Wr D h (.inr (6, [.ref (h + 1), .int 0, .int 0]) :: .inl (cs.2.2, 10, .inr (.inr (.inr (.inr (va_up (va_up (fun _ => none) 0 (some (h + 2))) 1 (some (h + 7))))))) :: ((([] ++ WX8 cs (h + 2)) ++ WX8 cs (h + 7)) ++ WX8 cs (h + 12))) H := hR
  refine r_aast (pre := [.inr (6, [.ref (h + 1), .int 0, .int 0])]) (post := ((([] ++ WX8 cs (h + 2)) ++ WX8 cs (h + 7)) ++ WX8 cs (h + 12))) hC hR hS (kv := 12) rfl (v := h + 12) rfl 2 (by decide) (show vin 2 10 by decide) rfl dX6_init_43 (fun H locs hR hS => ?_)
  have hR : Wr D h (.inr (6, [.ref (h + 1), .int 0, .int 0]) :: .inl (cs.2.2, 10, .inr (.inr (.inr (.inr (va_up (va_up (va_up (fun _ => none) 0 (some (h + 2))) 1 (some (h + 7))) 2 (some (h + 12))))))) :: ((([] ++ WX8 cs (h + 2)) ++ WX8 cs (h + 7)) ++ WX8 cs (h + 12))) H := hR
  refine lv_iinc (v := 3) (lv' := [(1, .int 3), (0, .ref h)]) hC.1 hC.2.1 dX6_init_44 hl (k := 0) rfl (by decide) (by decide) rfl (fun ls hl => ?_)
  refine lv_goto (tgt := 25) hC.1 hC.2.1 dX6_init_47 (by decide) ?_
  refine lv_iload_n hC.1 hC.2.1 dX6_init_25 rfl (lv_at hl 0 rfl) ?_
  refine lv_bipush (v := 10) hC.1 hC.2.1 dX6_init_26 (by decide) ?_
  refine lv_icmp_ge (tgt := 50) hC.1 hC.2.1 dX6_init_28 (by decide) (fun hc => absurd hc (by decide)) (fun hc => ?_)
  refine lv_aload_n hC.1 hC.2.1 dX6_init_31 rfl (lv_at hl 1 rfl) ?_
  refine r_get (pre := []) (post := .inl (cs.2.2, 10, .inr (.inr (.inr (.inr (va_up (va_up (va_up (fun _ => none) 0 (some (h + 2))) 1 (some (h + 7))) 2 (some (h + 12))))))) :: ((([] ++ WX8 cs (h + 2)) ++ WX8 cs (h + 7)) ++ WX8 cs (h + 12))) (C := RX6) (T := TX6) (N := 3) (v := .ref (h + 1)) hC hR rfl uX6 0 (by decide) fl_X6_20 rfl rfl dX6_init_32 ?_
  refine lv_iload_n hC.1 hC.2.1 dX6_init_35 rfl (lv_at hl 0 rfl) ?_
  refine r_new (n := 8) (fs := [.null, .null, .null, .null, .int 0, .int 0]) (C := RX8) (T := TX8) (N := 6) hC hR hS rfl uX8 tyX8 tyX8_ok cl_X6_18 nw_X8 iw_X8 (fun j hj => by match j, hj with | 0, _ => rfl | 1, _ => rfl | 2, _ => rfl | 3, _ => rfl | 4, _ => rfl | 5, _ => rfl | j + 6, hj => exact absurd hj (by omega)) (Nat.le_of_ble_eq_true rfl) (Nat.le_of_ble_eq_true rfl) (a := h + 17) rfl dX6_init_36 (fun H hR hS => ?_)
  refine lv_dup hC.1 hC.2.1 dX6_init_39 rfl ?_
  refine r_ctorN (pre := .inr (6, [.ref (h + 1), .int 0, .int 0]) :: .inl (cs.2.2, 10, .inr (.inr (.inr (.inr (va_up (va_up (va_up (fun _ => none) 0 (some (h + 2))) 1 (some (h + 7))) 2 (some (h + 12))))))) :: ((([] ++ WX8 cs (h + 2)) ++ WX8 cs (h + 7)) ++ WX8 cs (h + 12))) (a := h + 17) (As := []) (rest := [.ref (h + 17), .int 3, .ref (h + 1)]) hC hO hR hS (ci_X8 l D cs (h + 17)) rfl mi_X8_init in_X8_init rfl ml_X6_24 ⟨rfl, rfl⟩ ⟨Nat.le_of_ble_eq_true rfl, Nat.le_of_ble_eq_true rfl⟩ ⟨Nat.le_of_ble_eq_true rfl, Nat.le_of_ble_eq_true rfl⟩ rfl rfl hl.1 (Nat.le_of_ble_eq_true rfl) dX6_init_40 (fun H locs hR hS => ?_)
  have hR : Wr D h (.inr (6, [.ref (h + 1), .int 0, .int 0]) :: .inl (cs.2.2, 10, .inr (.inr (.inr (.inr (va_up (va_up (va_up (fun _ => none) 0 (some (h + 2))) 1 (some (h + 7))) 2 (some (h + 12))))))) :: (((([] ++ WX8 cs (h + 2)) ++ WX8 cs (h + 7)) ++ WX8 cs (h + 12)) ++ WX8 cs (h + 17))) H := hR
  refine r_aast (pre := [.inr (6, [.ref (h + 1), .int 0, .int 0])]) (post := (((([] ++ WX8 cs (h + 2)) ++ WX8 cs (h + 7)) ++ WX8 cs (h + 12)) ++ WX8 cs (h + 17))) hC hR hS (kv := 17) rfl (v := h + 17) rfl 3 (by decide) (show vin 3 10 by decide) rfl dX6_init_43 (fun H locs hR hS => ?_)
  have hR : Wr D h (.inr (6, [.ref (h + 1), .int 0, .int 0]) :: .inl (cs.2.2, 10, .inr (.inr (.inr (.inr (va_up (va_up (va_up (va_up (fun _ => none) 0 (some (h + 2))) 1 (some (h + 7))) 2 (some (h + 12))) 3 (some (h + 17))))))) :: (((([] ++ WX8 cs (h + 2)) ++ WX8 cs (h + 7)) ++ WX8 cs (h + 12)) ++ WX8 cs (h + 17))) H := hR
  refine lv_iinc (v := 4) (lv' := [(1, .int 4), (0, .ref h)]) hC.1 hC.2.1 dX6_init_44 hl (k := 0) rfl (by decide) (by decide) rfl (fun ls hl => ?_)
  refine lv_goto (tgt := 25) hC.1 hC.2.1 dX6_init_47 (by decide) ?_
  refine lv_iload_n hC.1 hC.2.1 dX6_init_25 rfl (lv_at hl 0 rfl) ?_
  refine lv_bipush (v := 10) hC.1 hC.2.1 dX6_init_26 (by decide) ?_
  refine lv_icmp_ge (tgt := 50) hC.1 hC.2.1 dX6_init_28 (by decide) (fun hc => absurd hc (by decide)) (fun hc => ?_)
  refine lv_aload_n hC.1 hC.2.1 dX6_init_31 rfl (lv_at hl 1 rfl) ?_
  refine r_get (pre := []) (post := .inl (cs.2.2, 10, .inr (.inr (.inr (.inr (va_up (va_up (va_up (va_up (fun _ => none) 0 (some (h + 2))) 1 (some (h + 7))) 2 (some (h + 12))) 3 (some (h + 17))))))) :: (((([] ++ WX8 cs (h + 2)) ++ WX8 cs (h + 7)) ++ WX8 cs (h + 12)) ++ WX8 cs (h + 17))) (C := RX6) (T := TX6) (N := 3) (v := .ref (h + 1)) hC hR rfl uX6 0 (by decide) fl_X6_20 rfl rfl dX6_init_32 ?_
  refine lv_iload_n hC.1 hC.2.1 dX6_init_35 rfl (lv_at hl 0 rfl) ?_
  refine r_new (n := 8) (fs := [.null, .null, .null, .null, .int 0, .int 0]) (C := RX8) (T := TX8) (N := 6) hC hR hS rfl uX8 tyX8 tyX8_ok cl_X6_18 nw_X8 iw_X8 (fun j hj => by match j, hj with | 0, _ => rfl | 1, _ => rfl | 2, _ => rfl | 3, _ => rfl | 4, _ => rfl | 5, _ => rfl | j + 6, hj => exact absurd hj (by omega)) (Nat.le_of_ble_eq_true rfl) (Nat.le_of_ble_eq_true rfl) (a := h + 22) rfl dX6_init_36 (fun H hR hS => ?_)
  refine lv_dup hC.1 hC.2.1 dX6_init_39 rfl ?_
  refine r_ctorN (pre := .inr (6, [.ref (h + 1), .int 0, .int 0]) :: .inl (cs.2.2, 10, .inr (.inr (.inr (.inr (va_up (va_up (va_up (va_up (fun _ => none) 0 (some (h + 2))) 1 (some (h + 7))) 2 (some (h + 12))) 3 (some (h + 17))))))) :: (((([] ++ WX8 cs (h + 2)) ++ WX8 cs (h + 7)) ++ WX8 cs (h + 12)) ++ WX8 cs (h + 17))) (a := h + 22) (As := []) (rest := [.ref (h + 22), .int 4, .ref (h + 1)]) hC hO hR hS (ci_X8 l D cs (h + 22)) rfl mi_X8_init in_X8_init rfl ml_X6_24 ⟨rfl, rfl⟩ ⟨Nat.le_of_ble_eq_true rfl, Nat.le_of_ble_eq_true rfl⟩ ⟨Nat.le_of_ble_eq_true rfl, Nat.le_of_ble_eq_true rfl⟩ rfl rfl hl.1 (Nat.le_of_ble_eq_true rfl) dX6_init_40 (fun H locs hR hS => ?_)
  have hR : Wr D h (.inr (6, [.ref (h + 1), .int 0, .int 0]) :: .inl (cs.2.2, 10, .inr (.inr (.inr (.inr (va_up (va_up (va_up (va_up (fun _ => none) 0 (some (h + 2))) 1 (some (h + 7))) 2 (some (h + 12))) 3 (some (h + 17))))))) :: ((((([] ++ WX8 cs (h + 2)) ++ WX8 cs (h + 7)) ++ WX8 cs (h + 12)) ++ WX8 cs (h + 17)) ++ WX8 cs (h + 22))) H := hR
  refine r_aast (pre := [.inr (6, [.ref (h + 1), .int 0, .int 0])]) (post := ((((([] ++ WX8 cs (h + 2)) ++ WX8 cs (h + 7)) ++ WX8 cs (h + 12)) ++ WX8 cs (h + 17)) ++ WX8 cs (h + 22))) hC hR hS (kv := 22) rfl (v := h + 22) rfl 4 (by decide) (show vin 4 10 by decide) rfl dX6_init_43 (fun H locs hR hS => ?_)
  have hR : Wr D h (.inr (6, [.ref (h + 1), .int 0, .int 0]) :: .inl (cs.2.2, 10, .inr (.inr (.inr (.inr (va_up (va_up (va_up (va_up (va_up (fun _ => none) 0 (some (h + 2))) 1 (some (h + 7))) 2 (some (h + 12))) 3 (some (h + 17))) 4 (some (h + 22))))))) :: ((((([] ++ WX8 cs (h + 2)) ++ WX8 cs (h + 7)) ++ WX8 cs (h + 12)) ++ WX8 cs (h + 17)) ++ WX8 cs (h + 22))) H := hR
  refine lv_iinc (v := 5) (lv' := [(1, .int 5), (0, .ref h)]) hC.1 hC.2.1 dX6_init_44 hl (k := 0) rfl (by decide) (by decide) rfl (fun ls hl => ?_)
  refine lv_goto (tgt := 25) hC.1 hC.2.1 dX6_init_47 (by decide) ?_
  refine lv_iload_n hC.1 hC.2.1 dX6_init_25 rfl (lv_at hl 0 rfl) ?_
  refine lv_bipush (v := 10) hC.1 hC.2.1 dX6_init_26 (by decide) ?_
  refine lv_icmp_ge (tgt := 50) hC.1 hC.2.1 dX6_init_28 (by decide) (fun hc => absurd hc (by decide)) (fun hc => ?_)
  refine lv_aload_n hC.1 hC.2.1 dX6_init_31 rfl (lv_at hl 1 rfl) ?_
  refine r_get (pre := []) (post := .inl (cs.2.2, 10, .inr (.inr (.inr (.inr (va_up (va_up (va_up (va_up (va_up (fun _ => none) 0 (some (h + 2))) 1 (some (h + 7))) 2 (some (h + 12))) 3 (some (h + 17))) 4 (some (h + 22))))))) :: ((((([] ++ WX8 cs (h + 2)) ++ WX8 cs (h + 7)) ++ WX8 cs (h + 12)) ++ WX8 cs (h + 17)) ++ WX8 cs (h + 22))) (C := RX6) (T := TX6) (N := 3) (v := .ref (h + 1)) hC hR rfl uX6 0 (by decide) fl_X6_20 rfl rfl dX6_init_32 ?_
  refine lv_iload_n hC.1 hC.2.1 dX6_init_35 rfl (lv_at hl 0 rfl) ?_
  refine r_new (n := 8) (fs := [.null, .null, .null, .null, .int 0, .int 0]) (C := RX8) (T := TX8) (N := 6) hC hR hS rfl uX8 tyX8 tyX8_ok cl_X6_18 nw_X8 iw_X8 (fun j hj => by match j, hj with | 0, _ => rfl | 1, _ => rfl | 2, _ => rfl | 3, _ => rfl | 4, _ => rfl | 5, _ => rfl | j + 6, hj => exact absurd hj (by omega)) (Nat.le_of_ble_eq_true rfl) (Nat.le_of_ble_eq_true rfl) (a := h + 27) rfl dX6_init_36 (fun H hR hS => ?_)
  refine lv_dup hC.1 hC.2.1 dX6_init_39 rfl ?_
  refine r_ctorN (pre := .inr (6, [.ref (h + 1), .int 0, .int 0]) :: .inl (cs.2.2, 10, .inr (.inr (.inr (.inr (va_up (va_up (va_up (va_up (va_up (fun _ => none) 0 (some (h + 2))) 1 (some (h + 7))) 2 (some (h + 12))) 3 (some (h + 17))) 4 (some (h + 22))))))) :: ((((([] ++ WX8 cs (h + 2)) ++ WX8 cs (h + 7)) ++ WX8 cs (h + 12)) ++ WX8 cs (h + 17)) ++ WX8 cs (h + 22))) (a := h + 27) (As := []) (rest := [.ref (h + 27), .int 5, .ref (h + 1)]) hC hO hR hS (ci_X8 l D cs (h + 27)) rfl mi_X8_init in_X8_init rfl ml_X6_24 ⟨rfl, rfl⟩ ⟨Nat.le_of_ble_eq_true rfl, Nat.le_of_ble_eq_true rfl⟩ ⟨Nat.le_of_ble_eq_true rfl, Nat.le_of_ble_eq_true rfl⟩ rfl rfl hl.1 (Nat.le_of_ble_eq_true rfl) dX6_init_40 (fun H locs hR hS => ?_)
  have hR : Wr D h (.inr (6, [.ref (h + 1), .int 0, .int 0]) :: .inl (cs.2.2, 10, .inr (.inr (.inr (.inr (va_up (va_up (va_up (va_up (va_up (fun _ => none) 0 (some (h + 2))) 1 (some (h + 7))) 2 (some (h + 12))) 3 (some (h + 17))) 4 (some (h + 22))))))) :: (((((([] ++ WX8 cs (h + 2)) ++ WX8 cs (h + 7)) ++ WX8 cs (h + 12)) ++ WX8 cs (h + 17)) ++ WX8 cs (h + 22)) ++ WX8 cs (h + 27))) H := hR
  refine r_aast (pre := [.inr (6, [.ref (h + 1), .int 0, .int 0])]) (post := (((((([] ++ WX8 cs (h + 2)) ++ WX8 cs (h + 7)) ++ WX8 cs (h + 12)) ++ WX8 cs (h + 17)) ++ WX8 cs (h + 22)) ++ WX8 cs (h + 27))) hC hR hS (kv := 27) rfl (v := h + 27) rfl 5 (by decide) (show vin 5 10 by decide) rfl dX6_init_43 (fun H locs hR hS => ?_)
  have hR : Wr D h (.inr (6, [.ref (h + 1), .int 0, .int 0]) :: .inl (cs.2.2, 10, .inr (.inr (.inr (.inr (va_up (va_up (va_up (va_up (va_up (va_up (fun _ => none) 0 (some (h + 2))) 1 (some (h + 7))) 2 (some (h + 12))) 3 (some (h + 17))) 4 (some (h + 22))) 5 (some (h + 27))))))) :: (((((([] ++ WX8 cs (h + 2)) ++ WX8 cs (h + 7)) ++ WX8 cs (h + 12)) ++ WX8 cs (h + 17)) ++ WX8 cs (h + 22)) ++ WX8 cs (h + 27))) H := hR
  refine lv_iinc (v := 6) (lv' := [(1, .int 6), (0, .ref h)]) hC.1 hC.2.1 dX6_init_44 hl (k := 0) rfl (by decide) (by decide) rfl (fun ls hl => ?_)
  refine lv_goto (tgt := 25) hC.1 hC.2.1 dX6_init_47 (by decide) ?_
  refine lv_iload_n hC.1 hC.2.1 dX6_init_25 rfl (lv_at hl 0 rfl) ?_
  refine lv_bipush (v := 10) hC.1 hC.2.1 dX6_init_26 (by decide) ?_
  refine lv_icmp_ge (tgt := 50) hC.1 hC.2.1 dX6_init_28 (by decide) (fun hc => absurd hc (by decide)) (fun hc => ?_)
  refine lv_aload_n hC.1 hC.2.1 dX6_init_31 rfl (lv_at hl 1 rfl) ?_
  refine r_get (pre := []) (post := .inl (cs.2.2, 10, .inr (.inr (.inr (.inr (va_up (va_up (va_up (va_up (va_up (va_up (fun _ => none) 0 (some (h + 2))) 1 (some (h + 7))) 2 (some (h + 12))) 3 (some (h + 17))) 4 (some (h + 22))) 5 (some (h + 27))))))) :: (((((([] ++ WX8 cs (h + 2)) ++ WX8 cs (h + 7)) ++ WX8 cs (h + 12)) ++ WX8 cs (h + 17)) ++ WX8 cs (h + 22)) ++ WX8 cs (h + 27))) (C := RX6) (T := TX6) (N := 3) (v := .ref (h + 1)) hC hR rfl uX6 0 (by decide) fl_X6_20 rfl rfl dX6_init_32 ?_
  refine lv_iload_n hC.1 hC.2.1 dX6_init_35 rfl (lv_at hl 0 rfl) ?_
  refine r_new (n := 8) (fs := [.null, .null, .null, .null, .int 0, .int 0]) (C := RX8) (T := TX8) (N := 6) hC hR hS rfl uX8 tyX8 tyX8_ok cl_X6_18 nw_X8 iw_X8 (fun j hj => by match j, hj with | 0, _ => rfl | 1, _ => rfl | 2, _ => rfl | 3, _ => rfl | 4, _ => rfl | 5, _ => rfl | j + 6, hj => exact absurd hj (by omega)) (Nat.le_of_ble_eq_true rfl) (Nat.le_of_ble_eq_true rfl) (a := h + 32) rfl dX6_init_36 (fun H hR hS => ?_)
  refine lv_dup hC.1 hC.2.1 dX6_init_39 rfl ?_
  refine r_ctorN (pre := .inr (6, [.ref (h + 1), .int 0, .int 0]) :: .inl (cs.2.2, 10, .inr (.inr (.inr (.inr (va_up (va_up (va_up (va_up (va_up (va_up (fun _ => none) 0 (some (h + 2))) 1 (some (h + 7))) 2 (some (h + 12))) 3 (some (h + 17))) 4 (some (h + 22))) 5 (some (h + 27))))))) :: (((((([] ++ WX8 cs (h + 2)) ++ WX8 cs (h + 7)) ++ WX8 cs (h + 12)) ++ WX8 cs (h + 17)) ++ WX8 cs (h + 22)) ++ WX8 cs (h + 27))) (a := h + 32) (As := []) (rest := [.ref (h + 32), .int 6, .ref (h + 1)]) hC hO hR hS (ci_X8 l D cs (h + 32)) rfl mi_X8_init in_X8_init rfl ml_X6_24 ⟨rfl, rfl⟩ ⟨Nat.le_of_ble_eq_true rfl, Nat.le_of_ble_eq_true rfl⟩ ⟨Nat.le_of_ble_eq_true rfl, Nat.le_of_ble_eq_true rfl⟩ rfl rfl hl.1 (Nat.le_of_ble_eq_true rfl) dX6_init_40 (fun H locs hR hS => ?_)
  have hR : Wr D h (.inr (6, [.ref (h + 1), .int 0, .int 0]) :: .inl (cs.2.2, 10, .inr (.inr (.inr (.inr (va_up (va_up (va_up (va_up (va_up (va_up (fun _ => none) 0 (some (h + 2))) 1 (some (h + 7))) 2 (some (h + 12))) 3 (some (h + 17))) 4 (some (h + 22))) 5 (some (h + 27))))))) :: ((((((([] ++ WX8 cs (h + 2)) ++ WX8 cs (h + 7)) ++ WX8 cs (h + 12)) ++ WX8 cs (h + 17)) ++ WX8 cs (h + 22)) ++ WX8 cs (h + 27)) ++ WX8 cs (h + 32))) H := hR
  refine r_aast (pre := [.inr (6, [.ref (h + 1), .int 0, .int 0])]) (post := ((((((([] ++ WX8 cs (h + 2)) ++ WX8 cs (h + 7)) ++ WX8 cs (h + 12)) ++ WX8 cs (h + 17)) ++ WX8 cs (h + 22)) ++ WX8 cs (h + 27)) ++ WX8 cs (h + 32))) hC hR hS (kv := 32) rfl (v := h + 32) rfl 6 (by decide) (show vin 6 10 by decide) rfl dX6_init_43 (fun H locs hR hS => ?_)
  have hR : Wr D h (.inr (6, [.ref (h + 1), .int 0, .int 0]) :: .inl (cs.2.2, 10, .inr (.inr (.inr (.inr (va_up (va_up (va_up (va_up (va_up (va_up (va_up (fun _ => none) 0 (some (h + 2))) 1 (some (h + 7))) 2 (some (h + 12))) 3 (some (h + 17))) 4 (some (h + 22))) 5 (some (h + 27))) 6 (some (h + 32))))))) :: ((((((([] ++ WX8 cs (h + 2)) ++ WX8 cs (h + 7)) ++ WX8 cs (h + 12)) ++ WX8 cs (h + 17)) ++ WX8 cs (h + 22)) ++ WX8 cs (h + 27)) ++ WX8 cs (h + 32))) H := hR
  refine lv_iinc (v := 7) (lv' := [(1, .int 7), (0, .ref h)]) hC.1 hC.2.1 dX6_init_44 hl (k := 0) rfl (by decide) (by decide) rfl (fun ls hl => ?_)
  refine lv_goto (tgt := 25) hC.1 hC.2.1 dX6_init_47 (by decide) ?_
  refine lv_iload_n hC.1 hC.2.1 dX6_init_25 rfl (lv_at hl 0 rfl) ?_
  refine lv_bipush (v := 10) hC.1 hC.2.1 dX6_init_26 (by decide) ?_
  refine lv_icmp_ge (tgt := 50) hC.1 hC.2.1 dX6_init_28 (by decide) (fun hc => absurd hc (by decide)) (fun hc => ?_)
  refine lv_aload_n hC.1 hC.2.1 dX6_init_31 rfl (lv_at hl 1 rfl) ?_
  refine r_get (pre := []) (post := .inl (cs.2.2, 10, .inr (.inr (.inr (.inr (va_up (va_up (va_up (va_up (va_up (va_up (va_up (fun _ => none) 0 (some (h + 2))) 1 (some (h + 7))) 2 (some (h + 12))) 3 (some (h + 17))) 4 (some (h + 22))) 5 (some (h + 27))) 6 (some (h + 32))))))) :: ((((((([] ++ WX8 cs (h + 2)) ++ WX8 cs (h + 7)) ++ WX8 cs (h + 12)) ++ WX8 cs (h + 17)) ++ WX8 cs (h + 22)) ++ WX8 cs (h + 27)) ++ WX8 cs (h + 32))) (C := RX6) (T := TX6) (N := 3) (v := .ref (h + 1)) hC hR rfl uX6 0 (by decide) fl_X6_20 rfl rfl dX6_init_32 ?_
  refine lv_iload_n hC.1 hC.2.1 dX6_init_35 rfl (lv_at hl 0 rfl) ?_
  refine r_new (n := 8) (fs := [.null, .null, .null, .null, .int 0, .int 0]) (C := RX8) (T := TX8) (N := 6) hC hR hS rfl uX8 tyX8 tyX8_ok cl_X6_18 nw_X8 iw_X8 (fun j hj => by match j, hj with | 0, _ => rfl | 1, _ => rfl | 2, _ => rfl | 3, _ => rfl | 4, _ => rfl | 5, _ => rfl | j + 6, hj => exact absurd hj (by omega)) (Nat.le_of_ble_eq_true rfl) (Nat.le_of_ble_eq_true rfl) (a := h + 37) rfl dX6_init_36 (fun H hR hS => ?_)
  refine lv_dup hC.1 hC.2.1 dX6_init_39 rfl ?_
  refine r_ctorN (pre := .inr (6, [.ref (h + 1), .int 0, .int 0]) :: .inl (cs.2.2, 10, .inr (.inr (.inr (.inr (va_up (va_up (va_up (va_up (va_up (va_up (va_up (fun _ => none) 0 (some (h + 2))) 1 (some (h + 7))) 2 (some (h + 12))) 3 (some (h + 17))) 4 (some (h + 22))) 5 (some (h + 27))) 6 (some (h + 32))))))) :: ((((((([] ++ WX8 cs (h + 2)) ++ WX8 cs (h + 7)) ++ WX8 cs (h + 12)) ++ WX8 cs (h + 17)) ++ WX8 cs (h + 22)) ++ WX8 cs (h + 27)) ++ WX8 cs (h + 32))) (a := h + 37) (As := []) (rest := [.ref (h + 37), .int 7, .ref (h + 1)]) hC hO hR hS (ci_X8 l D cs (h + 37)) rfl mi_X8_init in_X8_init rfl ml_X6_24 ⟨rfl, rfl⟩ ⟨Nat.le_of_ble_eq_true rfl, Nat.le_of_ble_eq_true rfl⟩ ⟨Nat.le_of_ble_eq_true rfl, Nat.le_of_ble_eq_true rfl⟩ rfl rfl hl.1 (Nat.le_of_ble_eq_true rfl) dX6_init_40 (fun H locs hR hS => ?_)
  have hR : Wr D h (.inr (6, [.ref (h + 1), .int 0, .int 0]) :: .inl (cs.2.2, 10, .inr (.inr (.inr (.inr (va_up (va_up (va_up (va_up (va_up (va_up (va_up (fun _ => none) 0 (some (h + 2))) 1 (some (h + 7))) 2 (some (h + 12))) 3 (some (h + 17))) 4 (some (h + 22))) 5 (some (h + 27))) 6 (some (h + 32))))))) :: (((((((([] ++ WX8 cs (h + 2)) ++ WX8 cs (h + 7)) ++ WX8 cs (h + 12)) ++ WX8 cs (h + 17)) ++ WX8 cs (h + 22)) ++ WX8 cs (h + 27)) ++ WX8 cs (h + 32)) ++ WX8 cs (h + 37))) H := hR
  refine r_aast (pre := [.inr (6, [.ref (h + 1), .int 0, .int 0])]) (post := (((((((([] ++ WX8 cs (h + 2)) ++ WX8 cs (h + 7)) ++ WX8 cs (h + 12)) ++ WX8 cs (h + 17)) ++ WX8 cs (h + 22)) ++ WX8 cs (h + 27)) ++ WX8 cs (h + 32)) ++ WX8 cs (h + 37))) hC hR hS (kv := 37) rfl (v := h + 37) rfl 7 (by decide) (show vin 7 10 by decide) rfl dX6_init_43 (fun H locs hR hS => ?_)
  have hR : Wr D h (.inr (6, [.ref (h + 1), .int 0, .int 0]) :: .inl (cs.2.2, 10, .inr (.inr (.inr (.inr (va_up (va_up (va_up (va_up (va_up (va_up (va_up (va_up (fun _ => none) 0 (some (h + 2))) 1 (some (h + 7))) 2 (some (h + 12))) 3 (some (h + 17))) 4 (some (h + 22))) 5 (some (h + 27))) 6 (some (h + 32))) 7 (some (h + 37))))))) :: (((((((([] ++ WX8 cs (h + 2)) ++ WX8 cs (h + 7)) ++ WX8 cs (h + 12)) ++ WX8 cs (h + 17)) ++ WX8 cs (h + 22)) ++ WX8 cs (h + 27)) ++ WX8 cs (h + 32)) ++ WX8 cs (h + 37))) H := hR
  refine lv_iinc (v := 8) (lv' := [(1, .int 8), (0, .ref h)]) hC.1 hC.2.1 dX6_init_44 hl (k := 0) rfl (by decide) (by decide) rfl (fun ls hl => ?_)
  refine lv_goto (tgt := 25) hC.1 hC.2.1 dX6_init_47 (by decide) ?_
  refine lv_iload_n hC.1 hC.2.1 dX6_init_25 rfl (lv_at hl 0 rfl) ?_
  refine lv_bipush (v := 10) hC.1 hC.2.1 dX6_init_26 (by decide) ?_
  refine lv_icmp_ge (tgt := 50) hC.1 hC.2.1 dX6_init_28 (by decide) (fun hc => absurd hc (by decide)) (fun hc => ?_)
  refine lv_aload_n hC.1 hC.2.1 dX6_init_31 rfl (lv_at hl 1 rfl) ?_
  refine r_get (pre := []) (post := .inl (cs.2.2, 10, .inr (.inr (.inr (.inr (va_up (va_up (va_up (va_up (va_up (va_up (va_up (va_up (fun _ => none) 0 (some (h + 2))) 1 (some (h + 7))) 2 (some (h + 12))) 3 (some (h + 17))) 4 (some (h + 22))) 5 (some (h + 27))) 6 (some (h + 32))) 7 (some (h + 37))))))) :: (((((((([] ++ WX8 cs (h + 2)) ++ WX8 cs (h + 7)) ++ WX8 cs (h + 12)) ++ WX8 cs (h + 17)) ++ WX8 cs (h + 22)) ++ WX8 cs (h + 27)) ++ WX8 cs (h + 32)) ++ WX8 cs (h + 37))) (C := RX6) (T := TX6) (N := 3) (v := .ref (h + 1)) hC hR rfl uX6 0 (by decide) fl_X6_20 rfl rfl dX6_init_32 ?_
  refine lv_iload_n hC.1 hC.2.1 dX6_init_35 rfl (lv_at hl 0 rfl) ?_
  refine r_new (n := 8) (fs := [.null, .null, .null, .null, .int 0, .int 0]) (C := RX8) (T := TX8) (N := 6) hC hR hS rfl uX8 tyX8 tyX8_ok cl_X6_18 nw_X8 iw_X8 (fun j hj => by match j, hj with | 0, _ => rfl | 1, _ => rfl | 2, _ => rfl | 3, _ => rfl | 4, _ => rfl | 5, _ => rfl | j + 6, hj => exact absurd hj (by omega)) (Nat.le_of_ble_eq_true rfl) (Nat.le_of_ble_eq_true rfl) (a := h + 42) rfl dX6_init_36 (fun H hR hS => ?_)
  refine lv_dup hC.1 hC.2.1 dX6_init_39 rfl ?_
  refine r_ctorN (pre := .inr (6, [.ref (h + 1), .int 0, .int 0]) :: .inl (cs.2.2, 10, .inr (.inr (.inr (.inr (va_up (va_up (va_up (va_up (va_up (va_up (va_up (va_up (fun _ => none) 0 (some (h + 2))) 1 (some (h + 7))) 2 (some (h + 12))) 3 (some (h + 17))) 4 (some (h + 22))) 5 (some (h + 27))) 6 (some (h + 32))) 7 (some (h + 37))))))) :: (((((((([] ++ WX8 cs (h + 2)) ++ WX8 cs (h + 7)) ++ WX8 cs (h + 12)) ++ WX8 cs (h + 17)) ++ WX8 cs (h + 22)) ++ WX8 cs (h + 27)) ++ WX8 cs (h + 32)) ++ WX8 cs (h + 37))) (a := h + 42) (As := []) (rest := [.ref (h + 42), .int 8, .ref (h + 1)]) hC hO hR hS (ci_X8 l D cs (h + 42)) rfl mi_X8_init in_X8_init rfl ml_X6_24 ⟨rfl, rfl⟩ ⟨Nat.le_of_ble_eq_true rfl, Nat.le_of_ble_eq_true rfl⟩ ⟨Nat.le_of_ble_eq_true rfl, Nat.le_of_ble_eq_true rfl⟩ rfl rfl hl.1 (Nat.le_of_ble_eq_true rfl) dX6_init_40 (fun H locs hR hS => ?_)
  have hR : Wr D h (.inr (6, [.ref (h + 1), .int 0, .int 0]) :: .inl (cs.2.2, 10, .inr (.inr (.inr (.inr (va_up (va_up (va_up (va_up (va_up (va_up (va_up (va_up (fun _ => none) 0 (some (h + 2))) 1 (some (h + 7))) 2 (some (h + 12))) 3 (some (h + 17))) 4 (some (h + 22))) 5 (some (h + 27))) 6 (some (h + 32))) 7 (some (h + 37))))))) :: ((((((((([] ++ WX8 cs (h + 2)) ++ WX8 cs (h + 7)) ++ WX8 cs (h + 12)) ++ WX8 cs (h + 17)) ++ WX8 cs (h + 22)) ++ WX8 cs (h + 27)) ++ WX8 cs (h + 32)) ++ WX8 cs (h + 37)) ++ WX8 cs (h + 42))) H := hR
  refine r_aast (pre := [.inr (6, [.ref (h + 1), .int 0, .int 0])]) (post := ((((((((([] ++ WX8 cs (h + 2)) ++ WX8 cs (h + 7)) ++ WX8 cs (h + 12)) ++ WX8 cs (h + 17)) ++ WX8 cs (h + 22)) ++ WX8 cs (h + 27)) ++ WX8 cs (h + 32)) ++ WX8 cs (h + 37)) ++ WX8 cs (h + 42))) hC hR hS (kv := 42) rfl (v := h + 42) rfl 8 (by decide) (show vin 8 10 by decide) rfl dX6_init_43 (fun H locs hR hS => ?_)
  have hR : Wr D h (.inr (6, [.ref (h + 1), .int 0, .int 0]) :: .inl (cs.2.2, 10, .inr (.inr (.inr (.inr (va_up (va_up (va_up (va_up (va_up (va_up (va_up (va_up (va_up (fun _ => none) 0 (some (h + 2))) 1 (some (h + 7))) 2 (some (h + 12))) 3 (some (h + 17))) 4 (some (h + 22))) 5 (some (h + 27))) 6 (some (h + 32))) 7 (some (h + 37))) 8 (some (h + 42))))))) :: ((((((((([] ++ WX8 cs (h + 2)) ++ WX8 cs (h + 7)) ++ WX8 cs (h + 12)) ++ WX8 cs (h + 17)) ++ WX8 cs (h + 22)) ++ WX8 cs (h + 27)) ++ WX8 cs (h + 32)) ++ WX8 cs (h + 37)) ++ WX8 cs (h + 42))) H := hR
  refine lv_iinc (v := 9) (lv' := [(1, .int 9), (0, .ref h)]) hC.1 hC.2.1 dX6_init_44 hl (k := 0) rfl (by decide) (by decide) rfl (fun ls hl => ?_)
  refine lv_goto (tgt := 25) hC.1 hC.2.1 dX6_init_47 (by decide) ?_
  refine lv_iload_n hC.1 hC.2.1 dX6_init_25 rfl (lv_at hl 0 rfl) ?_
  refine lv_bipush (v := 10) hC.1 hC.2.1 dX6_init_26 (by decide) ?_
  refine lv_icmp_ge (tgt := 50) hC.1 hC.2.1 dX6_init_28 (by decide) (fun hc => absurd hc (by decide)) (fun hc => ?_)
  refine lv_aload_n hC.1 hC.2.1 dX6_init_31 rfl (lv_at hl 1 rfl) ?_
  refine r_get (pre := []) (post := .inl (cs.2.2, 10, .inr (.inr (.inr (.inr (va_up (va_up (va_up (va_up (va_up (va_up (va_up (va_up (va_up (fun _ => none) 0 (some (h + 2))) 1 (some (h + 7))) 2 (some (h + 12))) 3 (some (h + 17))) 4 (some (h + 22))) 5 (some (h + 27))) 6 (some (h + 32))) 7 (some (h + 37))) 8 (some (h + 42))))))) :: ((((((((([] ++ WX8 cs (h + 2)) ++ WX8 cs (h + 7)) ++ WX8 cs (h + 12)) ++ WX8 cs (h + 17)) ++ WX8 cs (h + 22)) ++ WX8 cs (h + 27)) ++ WX8 cs (h + 32)) ++ WX8 cs (h + 37)) ++ WX8 cs (h + 42))) (C := RX6) (T := TX6) (N := 3) (v := .ref (h + 1)) hC hR rfl uX6 0 (by decide) fl_X6_20 rfl rfl dX6_init_32 ?_
  refine lv_iload_n hC.1 hC.2.1 dX6_init_35 rfl (lv_at hl 0 rfl) ?_
  refine r_new (n := 8) (fs := [.null, .null, .null, .null, .int 0, .int 0]) (C := RX8) (T := TX8) (N := 6) hC hR hS rfl uX8 tyX8 tyX8_ok cl_X6_18 nw_X8 iw_X8 (fun j hj => by match j, hj with | 0, _ => rfl | 1, _ => rfl | 2, _ => rfl | 3, _ => rfl | 4, _ => rfl | 5, _ => rfl | j + 6, hj => exact absurd hj (by omega)) (Nat.le_of_ble_eq_true rfl) (Nat.le_of_ble_eq_true rfl) (a := h + 47) rfl dX6_init_36 (fun H hR hS => ?_)
  refine lv_dup hC.1 hC.2.1 dX6_init_39 rfl ?_
  refine r_ctorN (pre := .inr (6, [.ref (h + 1), .int 0, .int 0]) :: .inl (cs.2.2, 10, .inr (.inr (.inr (.inr (va_up (va_up (va_up (va_up (va_up (va_up (va_up (va_up (va_up (fun _ => none) 0 (some (h + 2))) 1 (some (h + 7))) 2 (some (h + 12))) 3 (some (h + 17))) 4 (some (h + 22))) 5 (some (h + 27))) 6 (some (h + 32))) 7 (some (h + 37))) 8 (some (h + 42))))))) :: ((((((((([] ++ WX8 cs (h + 2)) ++ WX8 cs (h + 7)) ++ WX8 cs (h + 12)) ++ WX8 cs (h + 17)) ++ WX8 cs (h + 22)) ++ WX8 cs (h + 27)) ++ WX8 cs (h + 32)) ++ WX8 cs (h + 37)) ++ WX8 cs (h + 42))) (a := h + 47) (As := []) (rest := [.ref (h + 47), .int 9, .ref (h + 1)]) hC hO hR hS (ci_X8 l D cs (h + 47)) rfl mi_X8_init in_X8_init rfl ml_X6_24 ⟨rfl, rfl⟩ ⟨Nat.le_of_ble_eq_true rfl, Nat.le_of_ble_eq_true rfl⟩ ⟨Nat.le_of_ble_eq_true rfl, Nat.le_of_ble_eq_true rfl⟩ rfl rfl hl.1 (Nat.le_of_ble_eq_true rfl) dX6_init_40 (fun H locs hR hS => ?_)
  have hR : Wr D h (.inr (6, [.ref (h + 1), .int 0, .int 0]) :: .inl (cs.2.2, 10, .inr (.inr (.inr (.inr (va_up (va_up (va_up (va_up (va_up (va_up (va_up (va_up (va_up (fun _ => none) 0 (some (h + 2))) 1 (some (h + 7))) 2 (some (h + 12))) 3 (some (h + 17))) 4 (some (h + 22))) 5 (some (h + 27))) 6 (some (h + 32))) 7 (some (h + 37))) 8 (some (h + 42))))))) :: (((((((((([] ++ WX8 cs (h + 2)) ++ WX8 cs (h + 7)) ++ WX8 cs (h + 12)) ++ WX8 cs (h + 17)) ++ WX8 cs (h + 22)) ++ WX8 cs (h + 27)) ++ WX8 cs (h + 32)) ++ WX8 cs (h + 37)) ++ WX8 cs (h + 42)) ++ WX8 cs (h + 47))) H := hR
  refine r_aast (pre := [.inr (6, [.ref (h + 1), .int 0, .int 0])]) (post := (((((((((([] ++ WX8 cs (h + 2)) ++ WX8 cs (h + 7)) ++ WX8 cs (h + 12)) ++ WX8 cs (h + 17)) ++ WX8 cs (h + 22)) ++ WX8 cs (h + 27)) ++ WX8 cs (h + 32)) ++ WX8 cs (h + 37)) ++ WX8 cs (h + 42)) ++ WX8 cs (h + 47))) hC hR hS (kv := 47) rfl (v := h + 47) rfl 9 (by decide) (show vin 9 10 by decide) rfl dX6_init_43 (fun H locs hR hS => ?_)
  have hR : Wr D h (.inr (6, [.ref (h + 1), .int 0, .int 0]) :: .inl (cs.2.2, 10, .inr (.inr (.inr (.inr (va_up (va_up (va_up (va_up (va_up (va_up (va_up (va_up (va_up (va_up (fun _ => none) 0 (some (h + 2))) 1 (some (h + 7))) 2 (some (h + 12))) 3 (some (h + 17))) 4 (some (h + 22))) 5 (some (h + 27))) 6 (some (h + 32))) 7 (some (h + 37))) 8 (some (h + 42))) 9 (some (h + 47))))))) :: (((((((((([] ++ WX8 cs (h + 2)) ++ WX8 cs (h + 7)) ++ WX8 cs (h + 12)) ++ WX8 cs (h + 17)) ++ WX8 cs (h + 22)) ++ WX8 cs (h + 27)) ++ WX8 cs (h + 32)) ++ WX8 cs (h + 37)) ++ WX8 cs (h + 42)) ++ WX8 cs (h + 47))) H := hR
  refine lv_iinc (v := 10) (lv' := [(1, .int 10), (0, .ref h)]) hC.1 hC.2.1 dX6_init_44 hl (k := 0) rfl (by decide) (by decide) rfl (fun ls hl => ?_)
  refine lv_goto (tgt := 25) hC.1 hC.2.1 dX6_init_47 (by decide) ?_
  refine lv_iload_n hC.1 hC.2.1 dX6_init_25 rfl (lv_at hl 0 rfl) ?_
  refine lv_bipush (v := 10) hC.1 hC.2.1 dX6_init_26 (by decide) ?_
  refine lv_icmp_ge (tgt := 50) hC.1 hC.2.1 dX6_init_28 (by decide) (fun hc => ?_) (fun hc => absurd (by decide) hc)
  exact r_vret hC hr hR hS rfl rfl dX6_init_50
def WX9 (cs : Cs3) (h : Nat) : List va_E := .inr (9, [.ref (h + 1), .ref (h + 3), .ref (h + 12), .ref (h + 21), .ref (h + 26), .ref (h + 78), .ref (h + 89), .ref (h + 90), .ref (h + 91), .ref (h + 93), .ref (h + 95), .ref (h + 98)]) :: (((((((((((([] ++ WX7 cs (h + 1)) ++ WX2 cs (h + 3)) ++ WX2 cs (h + 12)) ++ WX8 cs (h + 21)) ++ WX6 cs (h + 26)) ++ .inl (cs.2.2, 2, .inr (.inr (.inr (.inr (va_up (va_up (fun _ => none) 0 (some (h + 79))) 1 (some (h + 84))))))) :: (([] ++ WX8 cs (h + 79)) ++ WX8 cs (h + 84))) ++ [.inl (cs.2.1, 2, .inl (fun _ => 0))]) ++ WX1 cs (h + 90) (h + 3) (h + 21)) ++ WX4 cs (h + 91) (h + 90)) ++ WX0 cs (h + 93)) ++ WX3 cs (h + 95) (h + 90)) ++ WX5 cs (h + 98) (h + 90))
theorem dX9_init_0 : decode cX9_init 0 = .ok (.aload_n 0, 1) := by decide +kernel
theorem dX9_init_1 : decode cX9_init 1 = .ok (.invokespecial 1, 3) := by decide +kernel
theorem dX9_init_4 : decode cX9_init 4 = .ok (.aload_n 0, 1) := by decide +kernel
theorem dX9_init_5 : decode cX9_init 5 = .ok (.new 7, 3) := by decide +kernel
theorem dX9_init_8 : decode cX9_init 8 = .ok (.dup, 1) := by decide +kernel
theorem dX9_init_9 : decode cX9_init 9 = .ok (.invokespecial 9, 3) := by decide +kernel
theorem dX9_init_12 : decode cX9_init 12 = .ok (.putfield 10, 3) := by decide +kernel
theorem dX9_init_15 : decode cX9_init 15 = .ok (.aload_n 0, 1) := by decide +kernel
theorem dX9_init_16 : decode cX9_init 16 = .ok (.new 16, 3) := by decide +kernel
theorem dX9_init_19 : decode cX9_init 19 = .ok (.dup, 1) := by decide +kernel
theorem dX9_init_20 : decode cX9_init 20 = .ok (.invokespecial 18, 3) := by decide +kernel
theorem dX9_init_23 : decode cX9_init 23 = .ok (.putfield 19, 3) := by decide +kernel
theorem dX9_init_26 : decode cX9_init 26 = .ok (.aload_n 0, 1) := by decide +kernel
theorem dX9_init_27 : decode cX9_init 27 = .ok (.new 16, 3) := by decide +kernel
theorem dX9_init_30 : decode cX9_init 30 = .ok (.dup, 1) := by decide +kernel
theorem dX9_init_31 : decode cX9_init 31 = .ok (.invokespecial 18, 3) := by decide +kernel
theorem dX9_init_34 : decode cX9_init 34 = .ok (.putfield 23, 3) := by decide +kernel
theorem dX9_init_37 : decode cX9_init 37 = .ok (.aload_n 0, 1) := by decide +kernel
theorem dX9_init_38 : decode cX9_init 38 = .ok (.new 26, 3) := by decide +kernel
theorem dX9_init_41 : decode cX9_init 41 = .ok (.dup, 1) := by decide +kernel
theorem dX9_init_42 : decode cX9_init 42 = .ok (.invokespecial 28, 3) := by decide +kernel
theorem dX9_init_45 : decode cX9_init 45 = .ok (.putfield 29, 3) := by decide +kernel
theorem dX9_init_48 : decode cX9_init 48 = .ok (.aload_n 0, 1) := by decide +kernel
theorem dX9_init_49 : decode cX9_init 49 = .ok (.new 33, 3) := by decide +kernel
theorem dX9_init_52 : decode cX9_init 52 = .ok (.dup, 1) := by decide +kernel
theorem dX9_init_53 : decode cX9_init 53 = .ok (.invokespecial 35, 3) := by decide +kernel
theorem dX9_init_56 : decode cX9_init 56 = .ok (.putfield 36, 3) := by decide +kernel
theorem dX9_init_59 : decode cX9_init 59 = .ok (.aload_n 0, 1) := by decide +kernel
theorem dX9_init_60 : decode cX9_init 60 = .ok (.iconst 2, 1) := by decide +kernel
theorem dX9_init_61 : decode cX9_init 61 = .ok (.anewarray 26, 3) := by decide +kernel
theorem dX9_init_64 : decode cX9_init 64 = .ok (.putfield 40, 3) := by decide +kernel
theorem dX9_init_67 : decode cX9_init 67 = .ok (.iconst 0, 1) := by decide +kernel
theorem dX9_init_68 : decode cX9_init 68 = .ok (.istore_n 1, 1) := by decide +kernel
theorem dX9_init_69 : decode cX9_init 69 = .ok (.iload_n 1, 1) := by decide +kernel
theorem dX9_init_70 : decode cX9_init 70 = .ok (.iconst 2, 1) := by decide +kernel
theorem dX9_init_71 : decode cX9_init 71 = .ok (.if_icmp .ge 22, 3) := by decide +kernel
theorem dX9_init_74 : decode cX9_init 74 = .ok (.aload_n 0, 1) := by decide +kernel
theorem dX9_init_75 : decode cX9_init 75 = .ok (.getfield 40, 3) := by decide +kernel
theorem dX9_init_78 : decode cX9_init 78 = .ok (.iload_n 1, 1) := by decide +kernel
theorem dX9_init_79 : decode cX9_init 79 = .ok (.new 26, 3) := by decide +kernel
theorem dX9_init_82 : decode cX9_init 82 = .ok (.dup, 1) := by decide +kernel
theorem dX9_init_83 : decode cX9_init 83 = .ok (.invokespecial 28, 3) := by decide +kernel
theorem dX9_init_86 : decode cX9_init 86 = .ok (.aastore, 1) := by decide +kernel
theorem dX9_init_87 : decode cX9_init 87 = .ok (.iinc 1 1, 3) := by decide +kernel
theorem dX9_init_90 : decode cX9_init 90 = .ok (.goto (-21), 3) := by decide +kernel
theorem dX9_init_93 : decode cX9_init 93 = .ok (.aload_n 0, 1) := by decide +kernel
theorem dX9_init_94 : decode cX9_init 94 = .ok (.iconst 2, 1) := by decide +kernel
theorem dX9_init_95 : decode cX9_init 95 = .ok (.newarray .boolean, 2) := by decide +kernel
theorem dX9_init_97 : decode cX9_init 97 = .ok (.putfield 44, 3) := by decide +kernel
theorem dX9_init_100 : decode cX9_init 100 = .ok (.aload_n 0, 1) := by decide +kernel
theorem dX9_init_101 : decode cX9_init 101 = .ok (.new 48, 3) := by decide +kernel
theorem dX9_init_104 : decode cX9_init 104 = .ok (.dup, 1) := by decide +kernel
theorem dX9_init_105 : decode cX9_init 105 = .ok (.aload_n 0, 1) := by decide +kernel
theorem dX9_init_106 : decode cX9_init 106 = .ok (.getfield 19, 3) := by decide +kernel
theorem dX9_init_109 : decode cX9_init 109 = .ok (.aload_n 0, 1) := by decide +kernel
theorem dX9_init_110 : decode cX9_init 110 = .ok (.getfield 29, 3) := by decide +kernel
theorem dX9_init_113 : decode cX9_init 113 = .ok (.invokespecial 50, 3) := by decide +kernel
theorem dX9_init_116 : decode cX9_init 116 = .ok (.putfield 53, 3) := by decide +kernel
theorem dX9_init_119 : decode cX9_init 119 = .ok (.aload_n 0, 1) := by decide +kernel
theorem dX9_init_120 : decode cX9_init 120 = .ok (.new 57, 3) := by decide +kernel
theorem dX9_init_123 : decode cX9_init 123 = .ok (.dup, 1) := by decide +kernel
theorem dX9_init_124 : decode cX9_init 124 = .ok (.aload_n 0, 1) := by decide +kernel
theorem dX9_init_125 : decode cX9_init 125 = .ok (.getfield 53, 3) := by decide +kernel
theorem dX9_init_128 : decode cX9_init 128 = .ok (.invokespecial 59, 3) := by decide +kernel
theorem dX9_init_131 : decode cX9_init 131 = .ok (.putfield 62, 3) := by decide +kernel
theorem dX9_init_134 : decode cX9_init 134 = .ok (.aload_n 0, 1) := by decide +kernel
theorem dX9_init_135 : decode cX9_init 135 = .ok (.new 66, 3) := by decide +kernel
theorem dX9_init_138 : decode cX9_init 138 = .ok (.dup, 1) := by decide +kernel
theorem dX9_init_139 : decode cX9_init 139 = .ok (.invokespecial 68, 3) := by decide +kernel
theorem dX9_init_142 : decode cX9_init 142 = .ok (.putfield 69, 3) := by decide +kernel
theorem dX9_init_145 : decode cX9_init 145 = .ok (.aload_n 0, 1) := by decide +kernel
theorem dX9_init_146 : decode cX9_init 146 = .ok (.new 73, 3) := by decide +kernel
theorem dX9_init_149 : decode cX9_init 149 = .ok (.dup, 1) := by decide +kernel
theorem dX9_init_150 : decode cX9_init 150 = .ok (.aload_n 0, 1) := by decide +kernel
theorem dX9_init_151 : decode cX9_init 151 = .ok (.getfield 53, 3) := by decide +kernel
theorem dX9_init_154 : decode cX9_init 154 = .ok (.invokespecial 75, 3) := by decide +kernel
theorem dX9_init_157 : decode cX9_init 157 = .ok (.putfield 76, 3) := by decide +kernel
theorem dX9_init_160 : decode cX9_init 160 = .ok (.aload_n 0, 1) := by decide +kernel
theorem dX9_init_161 : decode cX9_init 161 = .ok (.new 80, 3) := by decide +kernel
theorem dX9_init_164 : decode cX9_init 164 = .ok (.dup, 1) := by decide +kernel
theorem dX9_init_165 : decode cX9_init 165 = .ok (.aload_n 0, 1) := by decide +kernel
theorem dX9_init_166 : decode cX9_init 166 = .ok (.getfield 53, 3) := by decide +kernel
theorem dX9_init_169 : decode cX9_init 169 = .ok (.invokespecial 82, 3) := by decide +kernel
theorem dX9_init_172 : decode cX9_init 172 = .ok (.putfield 83, 3) := by decide +kernel
theorem dX9_init_175 : decode cX9_init 175 = .ok (.return_, 1) := by decide +kernel
abbrev rX9_init : Room := { frames := 3, cells := 98, slots := 736, locals := 53 }
set_option maxHeartbeats 8000000 in
set_option maxRecDepth 100000 in
theorem ci_X9 (l : Launch) (D : va_G) (cs : Cs3) (h : Nat) : Ci l yX9_init cX9_init 2 rX9_init 98 736 D cs h [.ref h] [.inr (9, [.null, .null, .null, .null, .null, .null, .null, .null, .null, .null, .null, .null])] (WX9 cs h) := by
  refine r_met (by decide +kernel) rfl (Nat.le_of_ble_eq_true rfl) ?_
  intro p e s m below meth c ls hC hO hin2 hr hR hS hl
  have hl : lv_has ls 2 [(0, .ref h)] := hl
  have hR : Wr D h [.inr (9, [.null, .null, .null, .null, .null, .null, .null, .null, .null, .null, .null, .null])] s.heap := hR
  refine lv_aload_n hC.1 hC.2.1 dX9_init_0 rfl (lv_at hl 0 rfl) ?_
  refine r_obj hC ml_X9_1 in_obj cw_obj hl.1 dX9_init_1 (Nat.le_of_ble_eq_true rfl) (Nat.le_of_ble_eq_true rfl) ?_
  have hR : Wr D h (.inr (9, [.null, .null, .null, .null, .null, .null, .null, .null, .null, .null, .null, .null]) :: []) s.heap := hR
  refine lv_aload_n hC.1 hC.2.1 dX9_init_4 rfl (lv_at hl 0 rfl) ?_
  refine r_new (n := 7) (fs := [.null, .int 0, .int 0, .int 0, .int 0, .int 0, .int 0]) (C := RX7) (T := TX7) (N := 7) hC hR hS rfl uX7 tyX7 tyX7_ok cl_X9_7 nw_X7 iw_X7 (fun j hj => by match j, hj with | 0, _ => rfl | 1, _ => rfl | 2, _ => rfl | 3, _ => rfl | 4, _ => rfl | 5, _ => rfl | 6, _ => rfl | j + 7, hj => exact absurd hj (by omega)) (Nat.le_of_ble_eq_true rfl) (Nat.le_of_ble_eq_true rfl) (a := h + 1) rfl dX9_init_5 (fun H hR hS => ?_)
  refine lv_dup hC.1 hC.2.1 dX9_init_8 rfl ?_
  have hR : Wr D h ((.inr (9, [.null, .null, .null, .null, .null, .null, .null, .null, .null, .null, .null, .null]) :: []) ++ [.inr (7, [.null, .int 0, .int 0, .int 0, .int 0, .int 0, .int 0])]) H := hR
  refine r_ctorN (pre := .inr (9, [.null, .null, .null, .null, .null, .null, .null, .null, .null, .null, .null, .null]) :: []) (a := h + 1) (As := []) (rest := [.ref (h + 1), .ref h]) hC hO hR hS (ci_X7 l D cs (h + 1)) rfl mi_X7_init in_X7_init rfl ml_X9_9 ⟨rfl, rfl⟩ ⟨Nat.le_of_ble_eq_true rfl, Nat.le_of_ble_eq_true rfl⟩ ⟨Nat.le_of_ble_eq_true rfl, Nat.le_of_ble_eq_true rfl⟩ rfl rfl hl.1 (Nat.le_of_ble_eq_true rfl) dX9_init_9 (fun H locs hR hS => ?_)
  have hR : Wr D h (.inr (9, [.null, .null, .null, .null, .null, .null, .null, .null, .null, .null, .null, .null]) :: ([] ++ WX7 cs (h + 1))) H := hR
  refine r_putF (pre := []) (post := ([] ++ WX7 cs (h + 1))) (C := RX9) (T := TX9) (N := 12) (ty := .object "ChoristerKeys$Reader") (v := .ref (h + 1)) hC hin2 hR hS rfl uX9 tyX9 tyX9_ok nmX9 0 (by decide) fl_X9_10 rfl rfl (by decide +kernel) rfl rfl (Nat.le_of_ble_eq_true rfl) rfl dX9_init_12 (fun H locs hR hS => ?_)
  have hR : Wr D h (.inr (9, [.ref (h + 1), .null, .null, .null, .null, .null, .null, .null, .null, .null, .null, .null]) :: ([] ++ WX7 cs (h + 1))) H := hR
  refine lv_aload_n hC.1 hC.2.1 dX9_init_15 rfl (lv_at hl 0 rfl) ?_
  refine r_new (n := 2) (fs := [.int 0, .int 0, .int 0, .int 0, .null, .null, .null, .null, .null, .null, .null, .null]) (C := RX2) (T := TX2) (N := 12) hC hR hS rfl uX2 tyX2 tyX2_ok cl_X9_16 nw_X2 iw_X2 (fun j hj => by match j, hj with | 0, _ => rfl | 1, _ => rfl | 2, _ => rfl | 3, _ => rfl | 4, _ => rfl | 5, _ => rfl | 6, _ => rfl | 7, _ => rfl | 8, _ => rfl | 9, _ => rfl | 10, _ => rfl | 11, _ => rfl | j + 12, hj => exact absurd hj (by omega)) (Nat.le_of_ble_eq_true rfl) (Nat.le_of_ble_eq_true rfl) (a := h + 3) rfl dX9_init_16 (fun H hR hS => ?_)
  refine lv_dup hC.1 hC.2.1 dX9_init_19 rfl ?_
  have hR : Wr D h ((.inr (9, [.ref (h + 1), .null, .null, .null, .null, .null, .null, .null, .null, .null, .null, .null]) :: ([] ++ WX7 cs (h + 1))) ++ [.inr (2, [.int 0, .int 0, .int 0, .int 0, .null, .null, .null, .null, .null, .null, .null, .null])]) H := hR
  refine r_ctorN (pre := .inr (9, [.ref (h + 1), .null, .null, .null, .null, .null, .null, .null, .null, .null, .null, .null]) :: ([] ++ WX7 cs (h + 1))) (a := h + 3) (As := []) (rest := [.ref (h + 3), .ref h]) hC hO hR hS (ci_X2 l D cs (h + 3)) rfl mi_X2_init in_X2_init rfl ml_X9_18 ⟨rfl, rfl⟩ ⟨Nat.le_of_ble_eq_true rfl, Nat.le_of_ble_eq_true rfl⟩ ⟨Nat.le_of_ble_eq_true rfl, Nat.le_of_ble_eq_true rfl⟩ rfl rfl hl.1 (Nat.le_of_ble_eq_true rfl) dX9_init_20 (fun H locs hR hS => ?_)
  have hR : Wr D h (.inr (9, [.ref (h + 1), .null, .null, .null, .null, .null, .null, .null, .null, .null, .null, .null]) :: (([] ++ WX7 cs (h + 1)) ++ WX2 cs (h + 3))) H := hR
  refine r_putF (pre := []) (post := (([] ++ WX7 cs (h + 1)) ++ WX2 cs (h + 3))) (C := RX9) (T := TX9) (N := 12) (ty := .object "ChoristerKeys$City") (v := .ref (h + 3)) hC hin2 hR hS rfl uX9 tyX9 tyX9_ok nmX9 1 (by decide) fl_X9_19 rfl rfl (by decide +kernel) rfl rfl (Nat.le_of_ble_eq_true rfl) rfl dX9_init_23 (fun H locs hR hS => ?_)
  have hR : Wr D h (.inr (9, [.ref (h + 1), .ref (h + 3), .null, .null, .null, .null, .null, .null, .null, .null, .null, .null]) :: (([] ++ WX7 cs (h + 1)) ++ WX2 cs (h + 3))) H := hR
  refine lv_aload_n hC.1 hC.2.1 dX9_init_26 rfl (lv_at hl 0 rfl) ?_
  refine r_new (n := 2) (fs := [.int 0, .int 0, .int 0, .int 0, .null, .null, .null, .null, .null, .null, .null, .null]) (C := RX2) (T := TX2) (N := 12) hC hR hS rfl uX2 tyX2 tyX2_ok cl_X9_16 nw_X2 iw_X2 (fun j hj => by match j, hj with | 0, _ => rfl | 1, _ => rfl | 2, _ => rfl | 3, _ => rfl | 4, _ => rfl | 5, _ => rfl | 6, _ => rfl | 7, _ => rfl | 8, _ => rfl | 9, _ => rfl | 10, _ => rfl | 11, _ => rfl | j + 12, hj => exact absurd hj (by omega)) (Nat.le_of_ble_eq_true rfl) (Nat.le_of_ble_eq_true rfl) (a := h + 12) rfl dX9_init_27 (fun H hR hS => ?_)
  refine lv_dup hC.1 hC.2.1 dX9_init_30 rfl ?_
  have hR : Wr D h ((.inr (9, [.ref (h + 1), .ref (h + 3), .null, .null, .null, .null, .null, .null, .null, .null, .null, .null]) :: (([] ++ WX7 cs (h + 1)) ++ WX2 cs (h + 3))) ++ [.inr (2, [.int 0, .int 0, .int 0, .int 0, .null, .null, .null, .null, .null, .null, .null, .null])]) H := hR
  refine r_ctorN (pre := .inr (9, [.ref (h + 1), .ref (h + 3), .null, .null, .null, .null, .null, .null, .null, .null, .null, .null]) :: (([] ++ WX7 cs (h + 1)) ++ WX2 cs (h + 3))) (a := h + 12) (As := []) (rest := [.ref (h + 12), .ref h]) hC hO hR hS (ci_X2 l D cs (h + 12)) rfl mi_X2_init in_X2_init rfl ml_X9_18 ⟨rfl, rfl⟩ ⟨Nat.le_of_ble_eq_true rfl, Nat.le_of_ble_eq_true rfl⟩ ⟨Nat.le_of_ble_eq_true rfl, Nat.le_of_ble_eq_true rfl⟩ rfl rfl hl.1 (Nat.le_of_ble_eq_true rfl) dX9_init_31 (fun H locs hR hS => ?_)
  have hR : Wr D h (.inr (9, [.ref (h + 1), .ref (h + 3), .null, .null, .null, .null, .null, .null, .null, .null, .null, .null]) :: ((([] ++ WX7 cs (h + 1)) ++ WX2 cs (h + 3)) ++ WX2 cs (h + 12))) H := hR
  refine r_putF (pre := []) (post := ((([] ++ WX7 cs (h + 1)) ++ WX2 cs (h + 3)) ++ WX2 cs (h + 12))) (C := RX9) (T := TX9) (N := 12) (ty := .object "ChoristerKeys$City") (v := .ref (h + 12)) hC hin2 hR hS rfl uX9 tyX9 tyX9_ok nmX9 2 (by decide) fl_X9_23 rfl rfl (by decide +kernel) rfl rfl (Nat.le_of_ble_eq_true rfl) rfl dX9_init_34 (fun H locs hR hS => ?_)
  have hR : Wr D h (.inr (9, [.ref (h + 1), .ref (h + 3), .ref (h + 12), .null, .null, .null, .null, .null, .null, .null, .null, .null]) :: ((([] ++ WX7 cs (h + 1)) ++ WX2 cs (h + 3)) ++ WX2 cs (h + 12))) H := hR
  refine lv_aload_n hC.1 hC.2.1 dX9_init_37 rfl (lv_at hl 0 rfl) ?_
  refine r_new (n := 8) (fs := [.null, .null, .null, .null, .int 0, .int 0]) (C := RX8) (T := TX8) (N := 6) hC hR hS rfl uX8 tyX8 tyX8_ok cl_X9_26 nw_X8 iw_X8 (fun j hj => by match j, hj with | 0, _ => rfl | 1, _ => rfl | 2, _ => rfl | 3, _ => rfl | 4, _ => rfl | 5, _ => rfl | j + 6, hj => exact absurd hj (by omega)) (Nat.le_of_ble_eq_true rfl) (Nat.le_of_ble_eq_true rfl) (a := h + 21) rfl dX9_init_38 (fun H hR hS => ?_)
  refine lv_dup hC.1 hC.2.1 dX9_init_41 rfl ?_
  have hR : Wr D h ((.inr (9, [.ref (h + 1), .ref (h + 3), .ref (h + 12), .null, .null, .null, .null, .null, .null, .null, .null, .null]) :: ((([] ++ WX7 cs (h + 1)) ++ WX2 cs (h + 3)) ++ WX2 cs (h + 12))) ++ [.inr (8, [.null, .null, .null, .null, .int 0, .int 0])]) H := hR
  refine r_ctorN (pre := .inr (9, [.ref (h + 1), .ref (h + 3), .ref (h + 12), .null, .null, .null, .null, .null, .null, .null, .null, .null]) :: ((([] ++ WX7 cs (h + 1)) ++ WX2 cs (h + 3)) ++ WX2 cs (h + 12))) (a := h + 21) (As := []) (rest := [.ref (h + 21), .ref h]) hC hO hR hS (ci_X8 l D cs (h + 21)) rfl mi_X8_init in_X8_init rfl ml_X9_28 ⟨rfl, rfl⟩ ⟨Nat.le_of_ble_eq_true rfl, Nat.le_of_ble_eq_true rfl⟩ ⟨Nat.le_of_ble_eq_true rfl, Nat.le_of_ble_eq_true rfl⟩ rfl rfl hl.1 (Nat.le_of_ble_eq_true rfl) dX9_init_42 (fun H locs hR hS => ?_)
  have hR : Wr D h (.inr (9, [.ref (h + 1), .ref (h + 3), .ref (h + 12), .null, .null, .null, .null, .null, .null, .null, .null, .null]) :: (((([] ++ WX7 cs (h + 1)) ++ WX2 cs (h + 3)) ++ WX2 cs (h + 12)) ++ WX8 cs (h + 21))) H := hR
  refine r_putF (pre := []) (post := (((([] ++ WX7 cs (h + 1)) ++ WX2 cs (h + 3)) ++ WX2 cs (h + 12)) ++ WX8 cs (h + 21))) (C := RX9) (T := TX9) (N := 12) (ty := .object "ChoristerKeys$Scene") (v := .ref (h + 21)) hC hin2 hR hS rfl uX9 tyX9 tyX9_ok nmX9 3 (by decide) fl_X9_29 rfl rfl (by decide +kernel) rfl rfl (Nat.le_of_ble_eq_true rfl) rfl dX9_init_45 (fun H locs hR hS => ?_)
  have hR : Wr D h (.inr (9, [.ref (h + 1), .ref (h + 3), .ref (h + 12), .ref (h + 21), .null, .null, .null, .null, .null, .null, .null, .null]) :: (((([] ++ WX7 cs (h + 1)) ++ WX2 cs (h + 3)) ++ WX2 cs (h + 12)) ++ WX8 cs (h + 21))) H := hR
  refine lv_aload_n hC.1 hC.2.1 dX9_init_48 rfl (lv_at hl 0 rfl) ?_
  refine r_new (n := 6) (fs := [.null, .int 0, .int 0]) (C := RX6) (T := TX6) (N := 3) hC hR hS rfl uX6 tyX6 tyX6_ok cl_X9_33 nw_X6 iw_X6 (fun j hj => by match j, hj with | 0, _ => rfl | 1, _ => rfl | 2, _ => rfl | j + 3, hj => exact absurd hj (by omega)) (Nat.le_of_ble_eq_true rfl) (Nat.le_of_ble_eq_true rfl) (a := h + 26) rfl dX9_init_49 (fun H hR hS => ?_)
  refine lv_dup hC.1 hC.2.1 dX9_init_52 rfl ?_
  have hR : Wr D h ((.inr (9, [.ref (h + 1), .ref (h + 3), .ref (h + 12), .ref (h + 21), .null, .null, .null, .null, .null, .null, .null, .null]) :: (((([] ++ WX7 cs (h + 1)) ++ WX2 cs (h + 3)) ++ WX2 cs (h + 12)) ++ WX8 cs (h + 21))) ++ [.inr (6, [.null, .int 0, .int 0])]) H := hR
  refine r_ctor (pre := .inr (9, [.ref (h + 1), .ref (h + 3), .ref (h + 12), .ref (h + 21), .null, .null, .null, .null, .null, .null, .null, .null]) :: (((([] ++ WX7 cs (h + 1)) ++ WX2 cs (h + 3)) ++ WX2 cs (h + 12)) ++ WX8 cs (h + 21))) (a := h + 26) (As := []) (rest := [.ref (h + 26), .ref h]) hC hO hR hS (ci_X6 l D cs (h + 26)) rfl mi_X6_init in_X6_init rfl ml_X9_35 ⟨rfl, rfl⟩ ⟨Nat.le_of_ble_eq_true rfl, Nat.le_of_ble_eq_true rfl⟩ ⟨Nat.le_of_ble_eq_true rfl, Nat.le_of_ble_eq_true rfl⟩ rfl rfl hl.1 (Nat.le_of_ble_eq_true rfl) dX9_init_53 (fun H locs hR hS => ?_)
  have hR : Wr D h (.inr (9, [.ref (h + 1), .ref (h + 3), .ref (h + 12), .ref (h + 21), .null, .null, .null, .null, .null, .null, .null, .null]) :: ((((([] ++ WX7 cs (h + 1)) ++ WX2 cs (h + 3)) ++ WX2 cs (h + 12)) ++ WX8 cs (h + 21)) ++ WX6 cs (h + 26))) H := hR
  refine r_putF (pre := []) (post := ((((([] ++ WX7 cs (h + 1)) ++ WX2 cs (h + 3)) ++ WX2 cs (h + 12)) ++ WX8 cs (h + 21)) ++ WX6 cs (h + 26))) (C := RX9) (T := TX9) (N := 12) (ty := .object "ChoristerKeys$Past") (v := .ref (h + 26)) hC hin2 hR hS rfl uX9 tyX9 tyX9_ok nmX9 4 (by decide) fl_X9_36 rfl rfl (by decide +kernel) rfl rfl (Nat.le_of_ble_eq_true rfl) rfl dX9_init_56 (fun H locs hR hS => ?_)
  have hR : Wr D h (.inr (9, [.ref (h + 1), .ref (h + 3), .ref (h + 12), .ref (h + 21), .ref (h + 26), .null, .null, .null, .null, .null, .null, .null]) :: ((((([] ++ WX7 cs (h + 1)) ++ WX2 cs (h + 3)) ++ WX2 cs (h + 12)) ++ WX8 cs (h + 21)) ++ WX6 cs (h + 26))) H := hR
  generalize hA : ((((([] ++ WX7 cs (h + 1)) ++ WX2 cs (h + 3)) ++ WX2 cs (h + 12)) ++ WX8 cs (h + 21)) ++ WX6 cs (h + 26)) = A at hR
  have hAl : A.length = 77 := by rw [← hA]; rfl
  refine lv_aload_n hC.1 hC.2.1 dX9_init_59 rfl (lv_at hl 0 rfl) ?_
  refine lv_iconst (v := 2) hC.1 hC.2.1 dX9_init_60 (by decide) ?_
  refine r_newq hC hO hR hS cl_X9_26 2 (by decide) (by decide) (Nat.le_of_ble_eq_true rfl) (Nat.le_of_ble_eq_true rfl) (Nat.le_of_ble_eq_true rfl) (a := h + 78) (by rw [List.length_cons, hAl]) dX9_init_61 (fun H hR hS => ?_)
  have hR : Wr D h (.inr (9, [.ref (h + 1), .ref (h + 3), .ref (h + 12), .ref (h + 21), .ref (h + 26), .null, .null, .null, .null, .null, .null, .null]) :: (A ++ [.inl (cs.2.2, 2, .inr (.inr (.inr (.inr (fun _ => none)))))])) H := hR
  refine r_putF (pre := []) (post := (A ++ [.inl (cs.2.2, 2, .inr (.inr (.inr (.inr (fun _ => none)))))])) (C := RX9) (T := TX9) (N := 12) (ty := .array (.object "ChoristerKeys$Scene")) (v := .ref (h + 78)) hC hin2 hR hS rfl uX9 tyX9 tyX9_ok nmX9 5 (by decide) fl_X9_40 rfl rfl (by decide +kernel) rfl rfl (Nat.le_of_ble_eq_true rfl) rfl dX9_init_64 (fun H locs hR hS => ?_)
  have hR : Wr D h ((.inr (9, [.ref (h + 1), .ref (h + 3), .ref (h + 12), .ref (h + 21), .ref (h + 26), .ref (h + 78), .null, .null, .null, .null, .null, .null]) :: A) ++ .inl (cs.2.2, 2, .inr (.inr (.inr (.inr (fun _ => none))))) :: []) H := hR
  refine lv_iconst (v := 0) hC.1 hC.2.1 dX9_init_67 (by decide) ?_
  refine lv_istore_n (lv' := [(1, .int 0), (0, .ref h)]) hC.1 hC.2.1 dX9_init_68 rfl hl (by decide) rfl (fun ls hl => ?_)
  refine lv_iload_n hC.1 hC.2.1 dX9_init_69 rfl (lv_at hl 0 rfl) ?_
  refine lv_iconst (v := 2) hC.1 hC.2.1 dX9_init_70 (by decide) ?_
  refine lv_icmp_ge (tgt := 93) hC.1 hC.2.1 dX9_init_71 (by decide) (fun hc => absurd hc (by decide)) (fun hc => ?_)
  refine lv_aload_n hC.1 hC.2.1 dX9_init_74 rfl (lv_at hl 1 rfl) ?_
  refine r_get (pre := []) (post := A ++ .inl (cs.2.2, 2, .inr (.inr (.inr (.inr (fun _ => none))))) :: []) (C := RX9) (T := TX9) (N := 12) (v := .ref (h + 78)) hC hR rfl uX9 5 (by decide) fl_X9_40 rfl rfl dX9_init_75 ?_
  refine lv_iload_n hC.1 hC.2.1 dX9_init_78 rfl (lv_at hl 0 rfl) ?_
  refine r_new (n := 8) (fs := [.null, .null, .null, .null, .int 0, .int 0]) (C := RX8) (T := TX8) (N := 6) hC hR hS rfl uX8 tyX8 tyX8_ok cl_X9_26 nw_X8 iw_X8 (fun j hj => by match j, hj with | 0, _ => rfl | 1, _ => rfl | 2, _ => rfl | 3, _ => rfl | 4, _ => rfl | 5, _ => rfl | j + 6, hj => exact absurd hj (by omega)) (Nat.le_of_ble_eq_true rfl) (Nat.le_of_ble_eq_true rfl) (a := h + 79) (by simp only [List.length_cons, List.length_append, hAl]; rfl) dX9_init_79 (fun H hR hS => ?_)
  refine lv_dup hC.1 hC.2.1 dX9_init_82 rfl ?_
  refine r_ctorN (pre := (.inr (9, [.ref (h + 1), .ref (h + 3), .ref (h + 12), .ref (h + 21), .ref (h + 26), .ref (h + 78), .null, .null, .null, .null, .null, .null]) :: A) ++ .inl (cs.2.2, 2, .inr (.inr (.inr (.inr (fun _ => none))))) :: []) (a := h + 79) (As := []) (rest := [.ref (h + 79), .int 0, .ref (h + 78)]) hC hO hR hS (ci_X8 l D cs (h + 79)) (by simp only [List.length_cons, List.length_append, hAl]; rfl) mi_X8_init in_X8_init rfl ml_X9_28 ⟨rfl, rfl⟩ ⟨Nat.le_of_ble_eq_true rfl, Nat.le_of_ble_eq_true rfl⟩ ⟨Nat.le_of_ble_eq_true rfl, Nat.le_of_ble_eq_true rfl⟩ rfl rfl hl.1 (Nat.le_of_ble_eq_true rfl) dX9_init_83 (fun H locs hR hS => ?_)
  have hR : Wr D h ((.inr (9, [.ref (h + 1), .ref (h + 3), .ref (h + 12), .ref (h + 21), .ref (h + 26), .ref (h + 78), .null, .null, .null, .null, .null, .null]) :: A) ++ .inl (cs.2.2, 2, .inr (.inr (.inr (.inr (fun _ => none))))) :: ([] ++ WX8 cs (h + 79))) H := by rw [List.append_assoc] at hR; exact hR
  refine r_aast (pre := .inr (9, [.ref (h + 1), .ref (h + 3), .ref (h + 12), .ref (h + 21), .ref (h + 26), .ref (h + 78), .null, .null, .null, .null, .null, .null]) :: A) (post := ([] ++ WX8 cs (h + 79))) hC hR hS (kv := 79) (vs := [.ref (h + 79 + 1), .ref (h + 79 + 2), .ref (h + 79 + 3), .ref (h + 79 + 4), .int 0, .int 0]) (by rw [List.getElem?_append_right (by rw [List.length_cons, hAl]; decide), List.length_cons, hAl]; rfl) (v := h + 79) rfl 0 (by decide) (show vin 0 2 by decide) (by rw [List.length_cons, hAl]) dX9_init_86 (fun H locs hR hS => ?_)
  have hR : Wr D h ((.inr (9, [.ref (h + 1), .ref (h + 3), .ref (h + 12), .ref (h + 21), .ref (h + 26), .ref (h + 78), .null, .null, .null, .null, .null, .null]) :: A) ++ .inl (cs.2.2, 2, .inr (.inr (.inr (.inr (va_up (fun _ => none) 0 (some (h + 79))))))) :: ([] ++ WX8 cs (h + 79))) H := hR
  refine lv_iinc (v := 1) (lv' := [(1, .int 1), (0, .ref h)]) hC.1 hC.2.1 dX9_init_87 hl (k := 0) rfl (by decide) (by decide) rfl (fun ls hl => ?_)
  refine lv_goto (tgt := 69) hC.1 hC.2.1 dX9_init_90 (by decide) ?_
  refine lv_iload_n hC.1 hC.2.1 dX9_init_69 rfl (lv_at hl 0 rfl) ?_
  refine lv_iconst (v := 2) hC.1 hC.2.1 dX9_init_70 (by decide) ?_
  refine lv_icmp_ge (tgt := 93) hC.1 hC.2.1 dX9_init_71 (by decide) (fun hc => absurd hc (by decide)) (fun hc => ?_)
  refine lv_aload_n hC.1 hC.2.1 dX9_init_74 rfl (lv_at hl 1 rfl) ?_
  refine r_get (pre := []) (post := A ++ .inl (cs.2.2, 2, .inr (.inr (.inr (.inr (va_up (fun _ => none) 0 (some (h + 79))))))) :: ([] ++ WX8 cs (h + 79))) (C := RX9) (T := TX9) (N := 12) (v := .ref (h + 78)) hC hR rfl uX9 5 (by decide) fl_X9_40 rfl rfl dX9_init_75 ?_
  refine lv_iload_n hC.1 hC.2.1 dX9_init_78 rfl (lv_at hl 0 rfl) ?_
  refine r_new (n := 8) (fs := [.null, .null, .null, .null, .int 0, .int 0]) (C := RX8) (T := TX8) (N := 6) hC hR hS rfl uX8 tyX8 tyX8_ok cl_X9_26 nw_X8 iw_X8 (fun j hj => by match j, hj with | 0, _ => rfl | 1, _ => rfl | 2, _ => rfl | 3, _ => rfl | 4, _ => rfl | 5, _ => rfl | j + 6, hj => exact absurd hj (by omega)) (Nat.le_of_ble_eq_true rfl) (Nat.le_of_ble_eq_true rfl) (a := h + 84) (by simp only [List.length_cons, List.length_append, hAl]; rfl) dX9_init_79 (fun H hR hS => ?_)
  refine lv_dup hC.1 hC.2.1 dX9_init_82 rfl ?_
  refine r_ctorN (pre := (.inr (9, [.ref (h + 1), .ref (h + 3), .ref (h + 12), .ref (h + 21), .ref (h + 26), .ref (h + 78), .null, .null, .null, .null, .null, .null]) :: A) ++ .inl (cs.2.2, 2, .inr (.inr (.inr (.inr (va_up (fun _ => none) 0 (some (h + 79))))))) :: ([] ++ WX8 cs (h + 79))) (a := h + 84) (As := []) (rest := [.ref (h + 84), .int 1, .ref (h + 78)]) hC hO hR hS (ci_X8 l D cs (h + 84)) (by simp only [List.length_cons, List.length_append, hAl]; rfl) mi_X8_init in_X8_init rfl ml_X9_28 ⟨rfl, rfl⟩ ⟨Nat.le_of_ble_eq_true rfl, Nat.le_of_ble_eq_true rfl⟩ ⟨Nat.le_of_ble_eq_true rfl, Nat.le_of_ble_eq_true rfl⟩ rfl rfl hl.1 (Nat.le_of_ble_eq_true rfl) dX9_init_83 (fun H locs hR hS => ?_)
  have hR : Wr D h ((.inr (9, [.ref (h + 1), .ref (h + 3), .ref (h + 12), .ref (h + 21), .ref (h + 26), .ref (h + 78), .null, .null, .null, .null, .null, .null]) :: A) ++ .inl (cs.2.2, 2, .inr (.inr (.inr (.inr (va_up (fun _ => none) 0 (some (h + 79))))))) :: (([] ++ WX8 cs (h + 79)) ++ WX8 cs (h + 84))) H := by rw [List.append_assoc] at hR; exact hR
  refine r_aast (pre := .inr (9, [.ref (h + 1), .ref (h + 3), .ref (h + 12), .ref (h + 21), .ref (h + 26), .ref (h + 78), .null, .null, .null, .null, .null, .null]) :: A) (post := (([] ++ WX8 cs (h + 79)) ++ WX8 cs (h + 84))) hC hR hS (kv := 84) (vs := [.ref (h + 84 + 1), .ref (h + 84 + 2), .ref (h + 84 + 3), .ref (h + 84 + 4), .int 0, .int 0]) (by rw [List.getElem?_append_right (by rw [List.length_cons, hAl]; decide), List.length_cons, hAl]; rfl) (v := h + 84) rfl 1 (by decide) (show vin 1 2 by decide) (by rw [List.length_cons, hAl]) dX9_init_86 (fun H locs hR hS => ?_)
  have hR : Wr D h ((.inr (9, [.ref (h + 1), .ref (h + 3), .ref (h + 12), .ref (h + 21), .ref (h + 26), .ref (h + 78), .null, .null, .null, .null, .null, .null]) :: A) ++ .inl (cs.2.2, 2, .inr (.inr (.inr (.inr (va_up (va_up (fun _ => none) 0 (some (h + 79))) 1 (some (h + 84))))))) :: (([] ++ WX8 cs (h + 79)) ++ WX8 cs (h + 84))) H := hR
  refine lv_iinc (v := 2) (lv' := [(1, .int 2), (0, .ref h)]) hC.1 hC.2.1 dX9_init_87 hl (k := 0) rfl (by decide) (by decide) rfl (fun ls hl => ?_)
  refine lv_goto (tgt := 69) hC.1 hC.2.1 dX9_init_90 (by decide) ?_
  refine lv_iload_n hC.1 hC.2.1 dX9_init_69 rfl (lv_at hl 0 rfl) ?_
  refine lv_iconst (v := 2) hC.1 hC.2.1 dX9_init_70 (by decide) ?_
  refine lv_icmp_ge (tgt := 93) hC.1 hC.2.1 dX9_init_71 (by decide) (fun hc => ?_) (fun hc => absurd (by decide) hc)
  have hR : Wr D h (.inr (9, [.ref (h + 1), .ref (h + 3), .ref (h + 12), .ref (h + 21), .ref (h + 26), .ref (h + 78), .null, .null, .null, .null, .null, .null]) :: (A ++ .inl (cs.2.2, 2, .inr (.inr (.inr (.inr (va_up (va_up (fun _ => none) 0 (some (h + 79))) 1 (some (h + 84))))))) :: (([] ++ WX8 cs (h + 79)) ++ WX8 cs (h + 84)))) H := hR
  obtain ⟨C, hCC⟩ : ∃ C : List va_E, C = A ++ (.inl (cs.2.2, 2, .inr (.inr (.inr (.inr (va_up (va_up (fun _ => none) 0 (some (h + 79))) 1 (some (h + 84))))))) : va_E) :: (([] ++ WX8 cs (h + 79)) ++ WX8 cs (h + 84)) := ⟨_, rfl⟩
  rw [← hCC] at hR
  have hCl : C.length = 88 := by rw [hCC, List.length_append, hAl]; rfl
  refine lv_aload_n hC.1 hC.2.1 dX9_init_93 rfl (lv_at hl 1 rfl) ?_
  refine lv_iconst (v := 2) hC.1 hC.2.1 dX9_init_94 (by decide) ?_
  refine r_newz hC hR hS aw_boolean 2 (by decide) (by decide) (Nat.le_of_ble_eq_true rfl) (Nat.le_of_ble_eq_true rfl) (Nat.le_of_ble_eq_true rfl) (a := h + 89) (by rw [List.length_cons, hCl]) dX9_init_95 (fun H hR hS => ?_)
  have hR : Wr D h (.inr (9, [.ref (h + 1), .ref (h + 3), .ref (h + 12), .ref (h + 21), .ref (h + 26), .ref (h + 78), .null, .null, .null, .null, .null, .null]) :: (C ++ [.inl (cs.2.1, 2, .inl (fun _ => 0))])) H := hR
  refine r_putF (pre := []) (post := (C ++ [.inl (cs.2.1, 2, .inl (fun _ => 0))])) (C := RX9) (T := TX9) (N := 12) (ty := .array .boolean) (v := .ref (h + 89)) hC hin2 hR hS rfl uX9 tyX9 tyX9_ok nmX9 6 (by decide) fl_X9_44 rfl rfl (by decide +kernel) rfl rfl (Nat.le_of_ble_eq_true rfl) rfl dX9_init_97 (fun H locs hR hS => ?_)
  have hR : Wr D h (.inr (9, [.ref (h + 1), .ref (h + 3), .ref (h + 12), .ref (h + 21), .ref (h + 26), .ref (h + 78), .ref (h + 89), .null, .null, .null, .null, .null]) :: (C ++ [.inl (cs.2.1, 2, .inl (fun _ => 0))])) H := hR
  refine lv_aload_n hC.1 hC.2.1 dX9_init_100 rfl (lv_at hl 1 rfl) ?_
  refine r_new (n := 1) (fs := [.null, .null]) (C := RX1) (T := TX1) (N := 2) hC hR hS rfl uX1 tyX1 tyX1_ok cl_X9_48 nw_X1 iw_X1 (fun j hj => by match j, hj with | 0, _ => rfl | 1, _ => rfl | j + 2, hj => exact absurd hj (by omega)) (Nat.le_of_ble_eq_true rfl) (Nat.le_of_ble_eq_true rfl) (a := h + 90) (by simp only [List.length_cons, List.length_append, hCl]; rfl) dX9_init_101 (fun H hR hS => ?_)
  refine lv_dup hC.1 hC.2.1 dX9_init_104 rfl ?_
  have hR : Wr D h ((.inr (9, [.ref (h + 1), .ref (h + 3), .ref (h + 12), .ref (h + 21), .ref (h + 26), .ref (h + 78), .ref (h + 89), .null, .null, .null, .null, .null]) :: (C ++ [.inl (cs.2.1, 2, .inl (fun _ => 0))])) ++ [.inr (1, [.null, .null])]) H := hR
  refine lv_aload_n hC.1 hC.2.1 dX9_init_105 rfl (lv_at hl 1 rfl) ?_
  refine r_get (pre := []) (post := (C ++ [.inl (cs.2.1, 2, .inl (fun _ => 0))]) ++ [.inr (1, [.null, .null])]) (C := RX9) (T := TX9) (N := 12) (v := .ref (h + 3)) hC hR rfl uX9 1 (by decide) fl_X9_19 rfl rfl dX9_init_106 ?_
  refine lv_aload_n hC.1 hC.2.1 dX9_init_109 rfl (lv_at hl 1 rfl) ?_
  refine r_get (pre := []) (post := (C ++ [.inl (cs.2.1, 2, .inl (fun _ => 0))]) ++ [.inr (1, [.null, .null])]) (C := RX9) (T := TX9) (N := 12) (v := .ref (h + 21)) hC hR rfl uX9 3 (by decide) fl_X9_29 rfl rfl dX9_init_110 ?_
  refine r_ctor (pre := .inr (9, [.ref (h + 1), .ref (h + 3), .ref (h + 12), .ref (h + 21), .ref (h + 26), .ref (h + 78), .ref (h + 89), .null, .null, .null, .null, .null]) :: (C ++ [.inl (cs.2.1, 2, .inl (fun _ => 0))])) (a := h + 90) (As := [.ref (h + 3), .ref (h + 21)]) (rest := [.ref (h + 90), .ref h]) hC hO hR hS (ci_X1 l D cs (h + 90) (h + 3) (h + 21)) (by simp only [List.length_cons, List.length_append, hCl]; rfl) mi_X1_init in_X1_init rfl ml_X9_50 ⟨rfl, rfl⟩ ⟨Nat.le_of_ble_eq_true rfl, Nat.le_of_ble_eq_true rfl⟩ ⟨Nat.le_of_ble_eq_true rfl, Nat.le_of_ble_eq_true rfl⟩ rfl rfl hl.1 (Nat.le_of_ble_eq_true rfl) dX9_init_113 (fun H locs hR hS => ?_)
  have hR : Wr D h (.inr (9, [.ref (h + 1), .ref (h + 3), .ref (h + 12), .ref (h + 21), .ref (h + 26), .ref (h + 78), .ref (h + 89), .null, .null, .null, .null, .null]) :: ((C ++ [.inl (cs.2.1, 2, .inl (fun _ => 0))]) ++ WX1 cs (h + 90) (h + 3) (h + 21))) H := hR
  refine r_putF (pre := []) (post := ((C ++ [.inl (cs.2.1, 2, .inl (fun _ => 0))]) ++ WX1 cs (h + 90) (h + 3) (h + 21))) (C := RX9) (T := TX9) (N := 12) (ty := .object "ChoristerKeys$Choir") (v := .ref (h + 90)) hC hin2 hR hS rfl uX9 tyX9 tyX9_ok nmX9 7 (by decide) fl_X9_53 rfl rfl (by decide +kernel) rfl rfl (Nat.le_of_ble_eq_true rfl) rfl dX9_init_116 (fun H locs hR hS => ?_)
  have hR : Wr D h (.inr (9, [.ref (h + 1), .ref (h + 3), .ref (h + 12), .ref (h + 21), .ref (h + 26), .ref (h + 78), .ref (h + 89), .ref (h + 90), .null, .null, .null, .null]) :: ((C ++ [.inl (cs.2.1, 2, .inl (fun _ => 0))]) ++ WX1 cs (h + 90) (h + 3) (h + 21))) H := hR
  refine lv_aload_n hC.1 hC.2.1 dX9_init_119 rfl (lv_at hl 1 rfl) ?_
  refine r_new (n := 4) (fs := [.null, .null]) (C := RX4) (T := TX4) (N := 2) hC hR hS rfl uX4 tyX4 tyX4_ok cl_X9_57 nw_X4 iw_X4 (fun j hj => by match j, hj with | 0, _ => rfl | 1, _ => rfl | j + 2, hj => exact absurd hj (by omega)) (Nat.le_of_ble_eq_true rfl) (Nat.le_of_ble_eq_true rfl) (a := h + 91) (by simp only [List.length_cons, List.length_append, hCl]; rfl) dX9_init_120 (fun H hR hS => ?_)
  refine lv_dup hC.1 hC.2.1 dX9_init_123 rfl ?_
  have hR : Wr D h ((.inr (9, [.ref (h + 1), .ref (h + 3), .ref (h + 12), .ref (h + 21), .ref (h + 26), .ref (h + 78), .ref (h + 89), .ref (h + 90), .null, .null, .null, .null]) :: ((C ++ [.inl (cs.2.1, 2, .inl (fun _ => 0))]) ++ WX1 cs (h + 90) (h + 3) (h + 21))) ++ [.inr (4, [.null, .null])]) H := hR
  refine lv_aload_n hC.1 hC.2.1 dX9_init_124 rfl (lv_at hl 1 rfl) ?_
  refine r_get (pre := []) (post := ((C ++ [.inl (cs.2.1, 2, .inl (fun _ => 0))]) ++ WX1 cs (h + 90) (h + 3) (h + 21)) ++ [.inr (4, [.null, .null])]) (C := RX9) (T := TX9) (N := 12) (v := .ref (h + 90)) hC hR rfl uX9 7 (by decide) fl_X9_53 rfl rfl dX9_init_125 ?_
  refine r_ctor (pre := .inr (9, [.ref (h + 1), .ref (h + 3), .ref (h + 12), .ref (h + 21), .ref (h + 26), .ref (h + 78), .ref (h + 89), .ref (h + 90), .null, .null, .null, .null]) :: ((C ++ [.inl (cs.2.1, 2, .inl (fun _ => 0))]) ++ WX1 cs (h + 90) (h + 3) (h + 21))) (a := h + 91) (As := [.ref (h + 90)]) (rest := [.ref (h + 91), .ref h]) hC hO hR hS (ci_X4 l D cs (h + 91) (h + 90)) (by simp only [List.length_cons, List.length_append, hCl]; rfl) mi_X4_init in_X4_init rfl ml_X9_59 ⟨rfl, rfl⟩ ⟨Nat.le_of_ble_eq_true rfl, Nat.le_of_ble_eq_true rfl⟩ ⟨Nat.le_of_ble_eq_true rfl, Nat.le_of_ble_eq_true rfl⟩ rfl rfl hl.1 (Nat.le_of_ble_eq_true rfl) dX9_init_128 (fun H locs hR hS => ?_)
  have hR : Wr D h (.inr (9, [.ref (h + 1), .ref (h + 3), .ref (h + 12), .ref (h + 21), .ref (h + 26), .ref (h + 78), .ref (h + 89), .ref (h + 90), .null, .null, .null, .null]) :: (((C ++ [.inl (cs.2.1, 2, .inl (fun _ => 0))]) ++ WX1 cs (h + 90) (h + 3) (h + 21)) ++ WX4 cs (h + 91) (h + 90))) H := hR
  refine r_putF (pre := []) (post := (((C ++ [.inl (cs.2.1, 2, .inl (fun _ => 0))]) ++ WX1 cs (h + 90) (h + 3) (h + 21)) ++ WX4 cs (h + 91) (h + 90))) (C := RX9) (T := TX9) (N := 12) (ty := .object "ChoristerKeys$Keyring") (v := .ref (h + 91)) hC hin2 hR hS rfl uX9 tyX9 tyX9_ok nmX9 8 (by decide) fl_X9_62 rfl rfl (by decide +kernel) rfl rfl (Nat.le_of_ble_eq_true rfl) rfl dX9_init_131 (fun H locs hR hS => ?_)
  have hR : Wr D h (.inr (9, [.ref (h + 1), .ref (h + 3), .ref (h + 12), .ref (h + 21), .ref (h + 26), .ref (h + 78), .ref (h + 89), .ref (h + 90), .ref (h + 91), .null, .null, .null]) :: (((C ++ [.inl (cs.2.1, 2, .inl (fun _ => 0))]) ++ WX1 cs (h + 90) (h + 3) (h + 21)) ++ WX4 cs (h + 91) (h + 90))) H := hR
  refine lv_aload_n hC.1 hC.2.1 dX9_init_134 rfl (lv_at hl 1 rfl) ?_
  refine r_new (n := 0) (fs := [.null, .int 0, .int 0]) (C := RX0) (T := TX0) (N := 3) hC hR hS rfl uX0 tyX0 tyX0_ok cl_X9_66 nw_X0 iw_X0 (fun j hj => by match j, hj with | 0, _ => rfl | 1, _ => rfl | 2, _ => rfl | j + 3, hj => exact absurd hj (by omega)) (Nat.le_of_ble_eq_true rfl) (Nat.le_of_ble_eq_true rfl) (a := h + 93) (by simp only [List.length_cons, List.length_append, hCl]; rfl) dX9_init_135 (fun H hR hS => ?_)
  refine lv_dup hC.1 hC.2.1 dX9_init_138 rfl ?_
  have hR : Wr D h ((.inr (9, [.ref (h + 1), .ref (h + 3), .ref (h + 12), .ref (h + 21), .ref (h + 26), .ref (h + 78), .ref (h + 89), .ref (h + 90), .ref (h + 91), .null, .null, .null]) :: (((C ++ [.inl (cs.2.1, 2, .inl (fun _ => 0))]) ++ WX1 cs (h + 90) (h + 3) (h + 21)) ++ WX4 cs (h + 91) (h + 90))) ++ [.inr (0, [.null, .int 0, .int 0])]) H := hR
  refine r_ctorN (pre := .inr (9, [.ref (h + 1), .ref (h + 3), .ref (h + 12), .ref (h + 21), .ref (h + 26), .ref (h + 78), .ref (h + 89), .ref (h + 90), .ref (h + 91), .null, .null, .null]) :: (((C ++ [.inl (cs.2.1, 2, .inl (fun _ => 0))]) ++ WX1 cs (h + 90) (h + 3) (h + 21)) ++ WX4 cs (h + 91) (h + 90))) (a := h + 93) (As := []) (rest := [.ref (h + 93), .ref h]) hC hO hR hS (ci_X0 l D cs (h + 93)) (by simp only [List.length_cons, List.length_append, hCl]; rfl) mi_X0_init in_X0_init rfl ml_X9_68 ⟨rfl, rfl⟩ ⟨Nat.le_of_ble_eq_true rfl, Nat.le_of_ble_eq_true rfl⟩ ⟨Nat.le_of_ble_eq_true rfl, Nat.le_of_ble_eq_true rfl⟩ rfl rfl hl.1 (Nat.le_of_ble_eq_true rfl) dX9_init_139 (fun H locs hR hS => ?_)
  have hR : Wr D h (.inr (9, [.ref (h + 1), .ref (h + 3), .ref (h + 12), .ref (h + 21), .ref (h + 26), .ref (h + 78), .ref (h + 89), .ref (h + 90), .ref (h + 91), .null, .null, .null]) :: ((((C ++ [.inl (cs.2.1, 2, .inl (fun _ => 0))]) ++ WX1 cs (h + 90) (h + 3) (h + 21)) ++ WX4 cs (h + 91) (h + 90)) ++ WX0 cs (h + 93))) H := hR
  refine r_putF (pre := []) (post := ((((C ++ [.inl (cs.2.1, 2, .inl (fun _ => 0))]) ++ WX1 cs (h + 90) (h + 3) (h + 21)) ++ WX4 cs (h + 91) (h + 90)) ++ WX0 cs (h + 93))) (C := RX9) (T := TX9) (N := 12) (ty := .object "ChoristerKeys$Chances") (v := .ref (h + 93)) hC hin2 hR hS rfl uX9 tyX9 tyX9_ok nmX9 9 (by decide) fl_X9_69 rfl rfl (by decide +kernel) rfl rfl (Nat.le_of_ble_eq_true rfl) rfl dX9_init_142 (fun H locs hR hS => ?_)
  have hR : Wr D h (.inr (9, [.ref (h + 1), .ref (h + 3), .ref (h + 12), .ref (h + 21), .ref (h + 26), .ref (h + 78), .ref (h + 89), .ref (h + 90), .ref (h + 91), .ref (h + 93), .null, .null]) :: ((((C ++ [.inl (cs.2.1, 2, .inl (fun _ => 0))]) ++ WX1 cs (h + 90) (h + 3) (h + 21)) ++ WX4 cs (h + 91) (h + 90)) ++ WX0 cs (h + 93))) H := hR
  refine lv_aload_n hC.1 hC.2.1 dX9_init_145 rfl (lv_at hl 1 rfl) ?_
  refine r_new (n := 3) (fs := [.null, .null, .null, .int 0]) (C := RX3) (T := TX3) (N := 4) hC hR hS rfl uX3 tyX3 tyX3_ok cl_X9_73 nw_X3 iw_X3 (fun j hj => by match j, hj with | 0, _ => rfl | 1, _ => rfl | 2, _ => rfl | 3, _ => rfl | j + 4, hj => exact absurd hj (by omega)) (Nat.le_of_ble_eq_true rfl) (Nat.le_of_ble_eq_true rfl) (a := h + 95) (by simp only [List.length_cons, List.length_append, hCl]; rfl) dX9_init_146 (fun H hR hS => ?_)
  refine lv_dup hC.1 hC.2.1 dX9_init_149 rfl ?_
  have hR : Wr D h ((.inr (9, [.ref (h + 1), .ref (h + 3), .ref (h + 12), .ref (h + 21), .ref (h + 26), .ref (h + 78), .ref (h + 89), .ref (h + 90), .ref (h + 91), .ref (h + 93), .null, .null]) :: ((((C ++ [.inl (cs.2.1, 2, .inl (fun _ => 0))]) ++ WX1 cs (h + 90) (h + 3) (h + 21)) ++ WX4 cs (h + 91) (h + 90)) ++ WX0 cs (h + 93))) ++ [.inr (3, [.null, .null, .null, .int 0])]) H := hR
  refine lv_aload_n hC.1 hC.2.1 dX9_init_150 rfl (lv_at hl 1 rfl) ?_
  refine r_get (pre := []) (post := ((((C ++ [.inl (cs.2.1, 2, .inl (fun _ => 0))]) ++ WX1 cs (h + 90) (h + 3) (h + 21)) ++ WX4 cs (h + 91) (h + 90)) ++ WX0 cs (h + 93)) ++ [.inr (3, [.null, .null, .null, .int 0])]) (C := RX9) (T := TX9) (N := 12) (v := .ref (h + 90)) hC hR rfl uX9 7 (by decide) fl_X9_53 rfl rfl dX9_init_151 ?_
  refine r_ctor (pre := .inr (9, [.ref (h + 1), .ref (h + 3), .ref (h + 12), .ref (h + 21), .ref (h + 26), .ref (h + 78), .ref (h + 89), .ref (h + 90), .ref (h + 91), .ref (h + 93), .null, .null]) :: ((((C ++ [.inl (cs.2.1, 2, .inl (fun _ => 0))]) ++ WX1 cs (h + 90) (h + 3) (h + 21)) ++ WX4 cs (h + 91) (h + 90)) ++ WX0 cs (h + 93))) (a := h + 95) (As := [.ref (h + 90)]) (rest := [.ref (h + 95), .ref h]) hC hO hR hS (ci_X3 l D cs (h + 95) (h + 90)) (by simp only [List.length_cons, List.length_append, hCl]; rfl) mi_X3_init in_X3_init rfl ml_X9_75 ⟨rfl, rfl⟩ ⟨Nat.le_of_ble_eq_true rfl, Nat.le_of_ble_eq_true rfl⟩ ⟨Nat.le_of_ble_eq_true rfl, Nat.le_of_ble_eq_true rfl⟩ rfl rfl hl.1 (Nat.le_of_ble_eq_true rfl) dX9_init_154 (fun H locs hR hS => ?_)
  have hR : Wr D h (.inr (9, [.ref (h + 1), .ref (h + 3), .ref (h + 12), .ref (h + 21), .ref (h + 26), .ref (h + 78), .ref (h + 89), .ref (h + 90), .ref (h + 91), .ref (h + 93), .null, .null]) :: (((((C ++ [.inl (cs.2.1, 2, .inl (fun _ => 0))]) ++ WX1 cs (h + 90) (h + 3) (h + 21)) ++ WX4 cs (h + 91) (h + 90)) ++ WX0 cs (h + 93)) ++ WX3 cs (h + 95) (h + 90))) H := hR
  refine r_putF (pre := []) (post := (((((C ++ [.inl (cs.2.1, 2, .inl (fun _ => 0))]) ++ WX1 cs (h + 90) (h + 3) (h + 21)) ++ WX4 cs (h + 91) (h + 90)) ++ WX0 cs (h + 93)) ++ WX3 cs (h + 95) (h + 90))) (C := RX9) (T := TX9) (N := 12) (ty := .object "ChoristerKeys$Heard") (v := .ref (h + 95)) hC hin2 hR hS rfl uX9 tyX9 tyX9_ok nmX9 10 (by decide) fl_X9_76 rfl rfl (by decide +kernel) rfl rfl (Nat.le_of_ble_eq_true rfl) rfl dX9_init_157 (fun H locs hR hS => ?_)
  have hR : Wr D h (.inr (9, [.ref (h + 1), .ref (h + 3), .ref (h + 12), .ref (h + 21), .ref (h + 26), .ref (h + 78), .ref (h + 89), .ref (h + 90), .ref (h + 91), .ref (h + 93), .ref (h + 95), .null]) :: (((((C ++ [.inl (cs.2.1, 2, .inl (fun _ => 0))]) ++ WX1 cs (h + 90) (h + 3) (h + 21)) ++ WX4 cs (h + 91) (h + 90)) ++ WX0 cs (h + 93)) ++ WX3 cs (h + 95) (h + 90))) H := hR
  refine lv_aload_n hC.1 hC.2.1 dX9_init_160 rfl (lv_at hl 1 rfl) ?_
  refine r_new (n := 5) (fs := [.null, .long 0]) (C := RX5) (T := TX5) (N := 2) hC hR hS rfl uX5 tyX5 tyX5_ok cl_X9_80 nw_X5 iw_X5 (fun j hj => by match j, hj with | 0, _ => rfl | 1, _ => rfl | j + 2, hj => exact absurd hj (by omega)) (Nat.le_of_ble_eq_true rfl) (Nat.le_of_ble_eq_true rfl) (a := h + 98) (by simp only [List.length_cons, List.length_append, hCl]; rfl) dX9_init_161 (fun H hR hS => ?_)
  refine lv_dup hC.1 hC.2.1 dX9_init_164 rfl ?_
  have hR : Wr D h ((.inr (9, [.ref (h + 1), .ref (h + 3), .ref (h + 12), .ref (h + 21), .ref (h + 26), .ref (h + 78), .ref (h + 89), .ref (h + 90), .ref (h + 91), .ref (h + 93), .ref (h + 95), .null]) :: (((((C ++ [.inl (cs.2.1, 2, .inl (fun _ => 0))]) ++ WX1 cs (h + 90) (h + 3) (h + 21)) ++ WX4 cs (h + 91) (h + 90)) ++ WX0 cs (h + 93)) ++ WX3 cs (h + 95) (h + 90))) ++ [.inr (5, [.null, .long 0])]) H := hR
  refine lv_aload_n hC.1 hC.2.1 dX9_init_165 rfl (lv_at hl 1 rfl) ?_
  refine r_get (pre := []) (post := (((((C ++ [.inl (cs.2.1, 2, .inl (fun _ => 0))]) ++ WX1 cs (h + 90) (h + 3) (h + 21)) ++ WX4 cs (h + 91) (h + 90)) ++ WX0 cs (h + 93)) ++ WX3 cs (h + 95) (h + 90)) ++ [.inr (5, [.null, .long 0])]) (C := RX9) (T := TX9) (N := 12) (v := .ref (h + 90)) hC hR rfl uX9 7 (by decide) fl_X9_53 rfl rfl dX9_init_166 ?_
  refine r_ctor (pre := .inr (9, [.ref (h + 1), .ref (h + 3), .ref (h + 12), .ref (h + 21), .ref (h + 26), .ref (h + 78), .ref (h + 89), .ref (h + 90), .ref (h + 91), .ref (h + 93), .ref (h + 95), .null]) :: (((((C ++ [.inl (cs.2.1, 2, .inl (fun _ => 0))]) ++ WX1 cs (h + 90) (h + 3) (h + 21)) ++ WX4 cs (h + 91) (h + 90)) ++ WX0 cs (h + 93)) ++ WX3 cs (h + 95) (h + 90))) (a := h + 98) (As := [.ref (h + 90)]) (rest := [.ref (h + 98), .ref h]) hC hO hR hS (ci_X5 l D cs (h + 98) (h + 90)) (by simp only [List.length_cons, List.length_append, hCl]; rfl) mi_X5_init in_X5_init rfl ml_X9_82 ⟨rfl, rfl⟩ ⟨Nat.le_of_ble_eq_true rfl, Nat.le_of_ble_eq_true rfl⟩ ⟨Nat.le_of_ble_eq_true rfl, Nat.le_of_ble_eq_true rfl⟩ rfl rfl hl.1 (Nat.le_of_ble_eq_true rfl) dX9_init_169 (fun H locs hR hS => ?_)
  have hR : Wr D h (.inr (9, [.ref (h + 1), .ref (h + 3), .ref (h + 12), .ref (h + 21), .ref (h + 26), .ref (h + 78), .ref (h + 89), .ref (h + 90), .ref (h + 91), .ref (h + 93), .ref (h + 95), .null]) :: ((((((C ++ [.inl (cs.2.1, 2, .inl (fun _ => 0))]) ++ WX1 cs (h + 90) (h + 3) (h + 21)) ++ WX4 cs (h + 91) (h + 90)) ++ WX0 cs (h + 93)) ++ WX3 cs (h + 95) (h + 90)) ++ WX5 cs (h + 98) (h + 90))) H := hR
  refine r_putF (pre := []) (post := ((((((C ++ [.inl (cs.2.1, 2, .inl (fun _ => 0))]) ++ WX1 cs (h + 90) (h + 3) (h + 21)) ++ WX4 cs (h + 91) (h + 90)) ++ WX0 cs (h + 93)) ++ WX3 cs (h + 95) (h + 90)) ++ WX5 cs (h + 98) (h + 90))) (C := RX9) (T := TX9) (N := 12) (ty := .object "ChoristerKeys$Kinds") (v := .ref (h + 98)) hC hin2 hR hS rfl uX9 tyX9 tyX9_ok nmX9 11 (by decide) fl_X9_83 rfl rfl (by decide +kernel) rfl rfl (Nat.le_of_ble_eq_true rfl) rfl dX9_init_172 (fun H locs hR hS => ?_)
  have hR : Wr D h (.inr (9, [.ref (h + 1), .ref (h + 3), .ref (h + 12), .ref (h + 21), .ref (h + 26), .ref (h + 78), .ref (h + 89), .ref (h + 90), .ref (h + 91), .ref (h + 93), .ref (h + 95), .ref (h + 98)]) :: ((((((C ++ [.inl (cs.2.1, 2, .inl (fun _ => 0))]) ++ WX1 cs (h + 90) (h + 3) (h + 21)) ++ WX4 cs (h + 91) (h + 90)) ++ WX0 cs (h + 93)) ++ WX3 cs (h + 95) (h + 90)) ++ WX5 cs (h + 98) (h + 90))) H := hR
  rw [hCC, ← hA] at hR
  exact r_vret hC hr hR hS rfl rfl dX9_init_175
