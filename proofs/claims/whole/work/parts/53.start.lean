theorem len_X9 (cs : Cs3) (h : Nat) : (WX9 cs h).length = 99 := by simp [WX9, len_X7, len_X2, len_X8, len_X1, len_X4, len_X0, len_X3, len_X5, len_X6]
theorem x_goM {p : Program} {l : Launch} {e : Env} {R : Room} {s : State} {m : MethodId} {args : Array Value} {below : List Frame} {meth : Method} {c : Code} {H H0 : Heap} {locs : List Loc} {cells slots mc ms pc : Nat} {Q : State → Prop} {D : va_G} {b : Nat} {cs : Cs3} {S1 : St} {ls : Array Slot} {rest : List Value} {o : Option Value} {a : Array Value} {st0 : List Value} (hr : va_Run p l e R s m args below meth c H locs cells slots mc ms (F0 m pc ls st0) rest (QX D b cs o S1 a) (AA b)) (hS : va_S (AA b) H0 H locs)
    (kk : ∀ (H1 : Heap) (locs1 : List Loc), Wd D b cs S1 H1 → va_S (AA b) H0 H1 locs1 → W p l e R s m args below meth c H1 locs1 (cells + mc) (slots + ms) Q (F0 m (pc + 3) ls (o.toList ++ rest))) : W p l e R s m args below meth c H locs cells slots Q (F0 m pc ls st0) := by
  intro T hT X
  obtain ⟨v, st₀, t, T', L, h0, X', hL, e1, e2, ⟨hv, hw, hz, hk⟩, st⟩ := hr T hT X
  cases hv
  rw [h0] at hz hk
  obtain ⟨t2, a1, b1⟩ := kk T'.heap (locs ++ L) (by rw [e1]; exact hw)
    ⟨Nat.le_trans hS.1 (by rw [e1]; exact hz), fun q h1 h2 => by rw [e1, hk q (Nat.lt_of_lt_of_le h1 hS.1) h2]; exact hS.2.1 q h1 h2, fun q hq => by
      rcases List.mem_append.mp hq with h | h
      · exact hS.2.2 q h
      · exact hL q h⟩ T' rfl X'
  exact ⟨t2, st t2 a1, b1⟩
theorem ao_scene : Cond.arrayOver (.object "ChoristerKeys$Scene") ∈ lw_tbl := List.mem_of_getElem? (i := 228) (by decide +kernel)
theorem kn_all {s : State} {args : Array Value} (hts : ∀ w ∈ TB, w.before args s = true) (hao : (Cond.arrayOver (.object "ChoristerKeys$Scene")).before args s = true) : ∃ (D : va_G) (cs : Cs3), va_K D vwCl (tys cs) s := by
  have h : ∀ k : Nat, ∃ (c : ClassId) (iS : Nat → Nat), ∀ q : vw_C, vwCl[k]? = some q → u_Kn s q.1 q.2.1 q.2.2 c iS := by
    intro k
    match k with
    | 0 => obtain ⟨c, iS, h⟩ := u_known (C := RX0) (T := TX0) (N := 3) (n := 3) hts uX0 (hts _ nw_X0); exact ⟨c, iS, fun q hq => by cases hq; exact h⟩
    | 1 => obtain ⟨c, iS, h⟩ := u_known (C := RX1) (T := TX1) (N := 2) (n := 2) hts uX1 (hts _ nw_X1); exact ⟨c, iS, fun q hq => by cases hq; exact h⟩
    | 2 => obtain ⟨c, iS, h⟩ := u_known (C := RX2) (T := TX2) (N := 12) (n := 12) hts uX2 (hts _ nw_X2); exact ⟨c, iS, fun q hq => by cases hq; exact h⟩
    | 3 => obtain ⟨c, iS, h⟩ := u_known (C := RX3) (T := TX3) (N := 4) (n := 4) hts uX3 (hts _ nw_X3); exact ⟨c, iS, fun q hq => by cases hq; exact h⟩
    | 4 => obtain ⟨c, iS, h⟩ := u_known (C := RX4) (T := TX4) (N := 2) (n := 2) hts uX4 (hts _ nw_X4); exact ⟨c, iS, fun q hq => by cases hq; exact h⟩
    | 5 => obtain ⟨c, iS, h⟩ := u_known (C := RX5) (T := TX5) (N := 2) (n := 2) hts uX5 (hts _ nw_X5); exact ⟨c, iS, fun q hq => by cases hq; exact h⟩
    | 6 => obtain ⟨c, iS, h⟩ := u_known (C := RX6) (T := TX6) (N := 3) (n := 3) hts uX6 (hts _ nw_X6); exact ⟨c, iS, fun q hq => by cases hq; exact h⟩
    | 7 => obtain ⟨c, iS, h⟩ := u_known (C := RX7) (T := TX7) (N := 7) (n := 7) hts uX7 (hts _ nw_X7); exact ⟨c, iS, fun q hq => by cases hq; exact h⟩
    | 8 => obtain ⟨c, iS, h⟩ := u_known (C := RX8) (T := TX8) (N := 6) (n := 6) hts uX8 (hts _ nw_X8); exact ⟨c, iS, fun q hq => by cases hq; exact h⟩
    | 9 => obtain ⟨c, iS, h⟩ := u_known (C := RX9) (T := TX9) (N := 12) (n := 12) hts uX9 (hts _ nw_X9); exact ⟨c, iS, fun q hq => by cases hq; exact h⟩
    | 10 => obtain ⟨c, iS, h⟩ := u_known (C := RX10) (T := TX10) (N := 27) (n := 27) hts uX10 (hts _ nw_X10); exact ⟨c, iS, fun q hq => by cases hq; exact h⟩
    | k + 11 => exact ⟨0, fun _ => 0, fun q hq => by simp [vwCl] at hq⟩
  obtain ⟨cI, kI, compI, i1, i2, i3⟩ := Cond.arrayClass_spec (hts _ aw_int)
  obtain ⟨cZ, kZ, compZ, z1, z2, z3⟩ := Cond.arrayClass_spec (hts _ aw_boolean)
  obtain ⟨compQ, cQ, kQ, q1, qi, q2, q3, q4⟩ := Cond.arrayOver_spec hao
  refine ⟨(fun k => Classical.choose (h k), fun k => Classical.choose (Classical.choose_spec (h k))), (cI, cZ, cQ), fun k q hq => Classical.choose_spec (Classical.choose_spec (h k)) q hq, fun k q hq => ?_⟩
  match k, hq with
  | 0, hq => cases hq; exact ⟨fun n z => ⟨fun k h => (by cases h), kI, i2, compI, i3⟩, i1⟩
  | 1, hq => cases hq; exact ⟨fun n z => ⟨fun k h => (by cases h), kZ, z2, compZ, z3⟩, z1⟩
  | 2, hq => cases hq; exact ⟨fun n z => ⟨fun k h => (by cases h), kQ, q2, compQ, q3⟩, kQ, compQ, q2, q3, q1, q4⟩
  | k + 3, hq => simp [tys] at hq
theorem nt_all {s : State} {args : Array Value} (hts : ∀ w ∈ lw_tbl, w.before args s = true) : ∀ w ∈ NT, va_Nw w s := by
  intro w hw
  have h1 := hts w (List.mem_filter.mp hw).1
  have h2 := (List.mem_filter.mp hw).2
  cases w <;> first | exact va_Nw.of rfl h1 | (simp [isNest] at h2; done)
set_option maxHeartbeats 8000000 in
set_option maxRecDepth 100000 in
theorem whole_of {p : Program} {e : Env} {s : State} {m : MethodId} {below : List Frame} {meth : Method} {c : Code} (l : Launch) {b0 L : Nat} {xs : Nat → Int32} {Sa Sb : St} (hb1 : p_X10_begins S0 = some Sa) (hb2 : p_X10_settles Sa = some Sb) (hq : q_law_18 xs L FU 0 Sb = some 1) (C0 : lw_At p s m meth c b0 L xs) : W p l e room_1 s m #[Value.ref b0] below meth c s.heap [] 0 0 (lw_Z below #[Value.ref b0] s) (entryFrame m ([Value.ref b0] : List Value).toArray 4) := by
  obtain ⟨hx, hb, hrt, hml, hown, hts, hX, hbl, hlocks, hgv⟩ := id C0
  have htb : ∀ w ∈ TB, w.before #[Value.ref b0] s = true := fun w hw => hts w (List.mem_filter.mp hw).1
  obtain ⟨D, cs, hKn⟩ := kn_all htb (hts _ ao_scene)
  have hK : KK D cs s := ⟨hKn, nt_all hts⟩
  have hC : CX p s m #[Value.ref b0] meth c RL code 4 D cs := ⟨hx, hb, hml, hown, htb, hK, hlocks⟩
  have hO : va_AO "ChoristerKeys$Scene" s := va_AO.of (hts _ ao_scene)
  obtain ⟨b, hb0⟩ : ∃ b : Nat, s.heap.size = b := ⟨_, rfl⟩
  have hR : Wr D b [] s.heap := ⟨by rw [hb0]; rfl, fun k x h => by simp at h⟩
  have hS : va_S (AA b) s.heap s.heap [] := va_S.rf
  have hl := lv_entry ([.ref b0]) (n := 4) (Nat.le_of_ble_eq_true rfl)
  rw [lg_entry_eq]
  generalize (lg_sl ([.ref b0]) ++ List.replicate (4 - (lg_sl ([.ref b0])).length) Slot.unset).toArray = ls at hl ⊢
  have hl : lv_has ls 4 [(0, .ref b0)] := hl
  refine r_new (n := 9) (fs := [.null, .null, .null, .null, .null, .null, .null, .null, .null, .null, .null, .null]) (C := RX9) (T := TX9) (N := 12) hC hR hS rfl uX9 tyX9 tyX9_ok cl_L_7 nw_X9 iw_X9 (fun j hj => by match j, hj with | 0, _ => rfl | 1, _ => rfl | 2, _ => rfl | 3, _ => rfl | 4, _ => rfl | 5, _ => rfl | 6, _ => rfl | 7, _ => rfl | 8, _ => rfl | 9, _ => rfl | 10, _ => rfl | 11, _ => rfl | j + 12, hj => exact absurd hj (by omega)) (Nat.le_of_ble_eq_true rfl) (Nat.le_of_ble_eq_true rfl) (a := b) rfl dL_law_0 (fun H hR hS => ?_)
  refine lv_dup hx hb dL_law_3 rfl ?_
  refine r_ctor (pre := []) (a := b) (As := []) (rest := [.ref b]) hC hO hR hS (ci_X9 l D cs b) rfl mi_X9_init in_X9_init rfl ml_L_9 ⟨rfl, rfl⟩ ⟨Nat.le_of_ble_eq_true rfl, Nat.le_of_ble_eq_true rfl⟩ ⟨Nat.le_of_ble_eq_true rfl, Nat.le_of_ble_eq_true rfl⟩ rfl rfl hl.1 (Nat.le_of_ble_eq_true rfl) dL_law_4 (fun H locs hR hS => ?_)
  obtain ⟨W9, hW9⟩ : ∃ W : List va_E, W = WX9 cs b := ⟨_, rfl⟩
  have hlen : W9.length = 99 := by rw [hW9, len_X9]
  have hR : Wr D b W9 H := by rw [hW9]; exact hR
  refine lv_astore_n (lv' := [(1, .ref b), (0, .ref b0)]) hx hb dL_law_7 rfl hl (by decide) rfl (fun ls hl => ?_)
  refine r_new (n := 10) (fs := [.int 0, .long 0, .null, .int 0, .int 0, .int 0, .int 0, .int 0, .int 0, .int 0, .null, .null, .null, .null, .null, .null, .null, .null, .null, .null, .null, .null, .null, .int 0, .null, .null, .int 0]) (C := RX10) (T := TX10) (N := 27) hC hR hS rfl uX10 tyX10 tyX10_ok cl_L_10 nw_X10 iw_X10 (fun j hj => by match j, hj with | 0, _ => rfl | 1, _ => rfl | 2, _ => rfl | 3, _ => rfl | 4, _ => rfl | 5, _ => rfl | 6, _ => rfl | 7, _ => rfl | 8, _ => rfl | 9, _ => rfl | 10, _ => rfl | 11, _ => rfl | 12, _ => rfl | 13, _ => rfl | 14, _ => rfl | 15, _ => rfl | 16, _ => rfl | 17, _ => rfl | 18, _ => rfl | 19, _ => rfl | 20, _ => rfl | 21, _ => rfl | 22, _ => rfl | 23, _ => rfl | 24, _ => rfl | 25, _ => rfl | 26, _ => rfl | j + 27, hj => exact absurd hj (by omega)) (Nat.le_of_ble_eq_true rfl) (Nat.le_of_ble_eq_true rfl) (a := b + 99) (by rw [hlen]) dL_law_8 (fun H1 hR1 hS => ?_)
  refine lv_dup hx hb dL_law_11 rfl ?_
  have hsub := wr_sub hR1
  rw [hlen] at hsub
  have hsz : H1.size = b + 99 + 1 := by rw [hR1.1, List.length_append, hlen]; rfl
  have h99 : ∀ k, k < 99 → va_at D vwCl (b + k, cellOf b cs S0 k) H1 := by
    have hg : Gd D b 0 (W9 ++ [.inr (10, [.int 0, .long 0, .null, .int 0, .int 0, .int 0, .int 0, .int 0, .int 0, .int 0, .null, .null, .null, .null, .null, .null, .null, .null, .null, .null, .null, .null, .null, .int 0, .null, .null, .int 0])]) H1 := fun i x hx => hR1.2 i x hx
    have hg2 := (gd_app hg rfl).1
    rw [hW9] at hg2
    exact wd99 hg2
  have hcall := va_runI (e := e) (R := room_1) (locs := locs) (cells := 0 + 1 + 98 + 1) (slots := 0 + 12 + 736 + 27) (below := below) (meth := meth) (H := H1) (g := F0 m 12 ls [.ref (b + 99), .ref (b + 99)]) (As := []) (rest := [.ref (b + 99)]) ⟨hx, hb, hml, hown, htb⟩ (ci_X10 l D cs b Sa Sb hb1 hb2) (n := 0) ⟨callB_of 0 htb (WSg mi_X10_init.1) rfl rfl rfl (htb _ mi_X10_init.2.1) (htb _ ml_L_12) ⟨mi_X10_init.2.2.1, mi_X10_init.2.2.2.1, mi_X10_init.2.2.2.2⟩ ⟨Nat.le_of_ble_eq_true rfl, Nat.le_of_ble_eq_true rfl⟩, rfl, htb _ in_X10_init⟩ ⟨PMb, fun U hU hv => ⟨rfl, by rw [hU]; exact hsz, by rw [hU]; exact h99, by rw [hU]; exact hsub, ⟨va_K.moved hv.alike hK.1, NTw hv hK.2⟩, va_AO.moved hv.alike hO⟩⟩ rfl rfl hl.1 rfl (lv_room (Nat.le_of_ble_eq_true rfl)) dL_law_12 ⟨Nat.le_of_ble_eq_true rfl, Nat.le_of_ble_eq_true rfl⟩
  refine x_goM (rest := [.ref (b + 99)]) hcall hS (fun H locs hW hS => ?_)
  refine W.widen (k := 116) (n := 1370) (Nat.le_of_ble_eq_true rfl) (Nat.le_of_ble_eq_true rfl) ?_
  refine lv_astore_n (lv' := [(2, .ref (b + 99)), (1, .ref b), (0, .ref b0)]) hx hb dL_law_15 rfl hl (by decide) rfl (fun ls hl => ?_)
  refine lv_iconst (v := 0) hx hb dL_law_16 (by decide) ?_
  refine lv_istore_n (lv' := [(3, .int 0), (2, .ref (b + 99)), (1, .ref b), (0, .ref b0)]) hx hb dL_law_17 rfl hl (by decide) rfl (fun ls hl => ?_)
  exact w_law_18 hb0 C0 hK FU 0 Sb H locs ls hq hW hS (lv_sub hl [3, 2, 1, 0] rfl)
