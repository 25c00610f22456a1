-- THE REFERENCE SETTLES: places copied
section RMS
theorem st_2 {S : St} : ∀ (k i n : Nat), i + k = 4 → k < n → q_X10_settles_2 n (nI i) (crw 101 0 101 4 i S) = q_X10_settles_29 FU (nI 0) (crw 101 0 101 4 4 S) := by
  intro k
  induction k with
  | zero =>
    intro i n hi hn
    obtain ⟨m, rfl⟩ : ∃ m, n = m + 1 := ⟨n - 1, by omega⟩
    rw [q_X10_settles_2, show i = 4 by omega, if_pos (show (4 : Int32) ≤ nI 4 by decide)]
    rfl
  | succ k ih =>
    intro i n hi hn
    obtain ⟨m, rfl⟩ : ∃ m, n = m + 1 := ⟨n - 1, by omega⟩
    have e1 : (crw 101 0 101 4 i S).1 101 (4 + i) = S.1 101 (4 + i) := crw_ne (by omega)
    have e2 := crw_s (a0 := 101) (o0 := 0) (a1 := 101) (o1 := 4) (n := i) (S := S)
    rw [Nat.zero_add] at e2
    rw [q_X10_settles_2]
    simp (disch := omega) only [fa_lit, leN, show ¬ 4 ≤ i from by omega, if_false, vin_t, if_true, nI_clamp, nI_add, e1]
    rw [e2]
    exact ih (i + 1) m (by omega) (by omega)
def zrw (n : Nat) (S : St) : St := (fun a j => if a = 110 ∧ j < n then 0 else S.1 a j, S.2)
theorem zrw_s {n : Nat} {S : St} : sI (zrw n S) 110 n 0 = zrw (n + 1) S := by
  refine Prod.ext ?_ rfl
  funext a j
  simp only [sI_1, zrw]
  by_cases e : a = 110 ∧ j = n
  · rw [if_pos e, if_pos (by omega)]
  · rw [if_neg e]
    by_cases e2 : a = 110 ∧ j < n
    · rw [if_pos e2, if_pos (by omega)]
    · rw [if_neg e2, if_neg (by omega)]
theorem zrw_0 (S : St) : zrw 0 S = S := by
  refine Prod.ext ?_ rfl
  funext a j
  exact if_neg (by omega)
theorem st_29 {S : St} : ∀ (k i n : Nat), i + k = 25 → k < n → q_X10_settles_29 n (nI i) (zrw i S) = q_X10_settles_50 FU (nI 0) (zrw 25 S) := by
  intro k
  induction k with
  | zero =>
    intro i n hi hn
    obtain ⟨m, rfl⟩ : ∃ m, n = m + 1 := ⟨n - 1, by omega⟩
    rw [q_X10_settles_29, show i = 25 by omega, if_pos (show (25 : Int32) ≤ nI 25 by decide)]
    rfl
  | succ k ih =>
    intro i n hi hn
    obtain ⟨m, rfl⟩ : ∃ m, n = m + 1 := ⟨n - 1, by omega⟩
    rw [q_X10_settles_29]
    simp (disch := omega) only [fa_lit, leN, show ¬ 25 ≤ i from by omega, if_false, vin_t, if_true, nI_clamp, nI_add]
    rw [show nI 0 = (0 : Int32) from rfl, zrw_s]
    exact ih (i + 1) m (by omega) (by omega)
end RMS
