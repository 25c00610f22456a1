-- THE REFERENCE SETTLES: the boys' loop and the end
theorem st_112 {S : St} : ∀ (k i n : Nat), i + k = 5 → k < n → q_X10_settles_112 n (nI i) (sbM i S) = some (sI (sI (sI (sI (sI (sbM 5 S) 99 3 0) 99 26 0) 99 23 0) 112 0 0) 112 1 0) := by
  intro k
  induction k with
  | zero =>
    intro i n hi hn
    obtain ⟨m, rfl⟩ : ∃ m, n = m + 1 := ⟨n - 1, by omega⟩
    rw [q_X10_settles_112, show i = 5 by omega, if_pos (show (5 : Int32) ≤ nI 5 by decide), if_pos (show vin (0 : Int32) 2 from (vin_t (i := 0) (by omega)).mpr trivial), if_pos (show vin (1 : Int32) 2 from (vin_t (i := 1) (by omega)).mpr trivial)]
    rfl
  | succ k ih =>
    intro i n hi hn
    obtain ⟨m, rfl⟩ : ∃ m, n = m + 1 := ⟨n - 1, by omega⟩
    have e1 : (sbM i S).1 105 (5 + i) = S.1 105 (5 + i) := sbM_ne (by omega) (by omega)
    have e2 : (sbM i S).1 106 (5 + i) = S.1 106 (5 + i) := sbM_ne (by omega) (by omega)
    have e3 : (sbM i S).1 107 (5 + i) = S.1 107 (5 + i) := sbM_ne (by omega) (by omega)
    have e4 : (sbM i S).1 108 (5 + i) = S.1 108 (5 + i) := sbM_ne (by omega) (by omega)
    have e5 : (sbM i S).1 109 (5 + i) = S.1 109 (5 + i) := sbM_ne (by omega) (by omega)
    have es := sbM_s (S := S) (show i < 5 by omega)
    rw [q_X10_settles_112]
    simp (disch := omega) only [fa_lit, leN, show ¬ 5 ≤ i from by omega, if_false, vin_t, if_true, nI_clamp, nI_add, Nat.zero_add, sI_ne, sI_eq, e1, e2, e3, e4, e5]
    rw [es]
    exact ih (i + 1) m (by omega) (by omega)
