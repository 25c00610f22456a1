-- THE WHOLE RUN, from the start
theorem whole_start {p : Program} {e : Env} {s : State} {m : MethodId} {below : List Frame} {meth : Method} {c : Code} (l : Launch) {b L : Nat} {xs : Nat → Int32} (hL : L ≤ 256) (C0 : lw_At p s m meth c b L xs) : W p l e room_1 s m #[Value.ref b] below meth c s.heap [] 0 0 (lw_Z below #[Value.ref b] s) (entryFrame m ([Value.ref b] : List Value).toArray 4) := by
  obtain ⟨Sa, Sb, h1, h2, hI⟩ := start_
  exact whole_of l h1 h2 (law_loop hL 64 FU 0 Sb (FU_gt (by decide)) (Nat.zero_le _) (by omega) hI) C0
