-- THE REFERENCE SETTLES: doors and boys
def sdM (n : Nat) (S : St) : St := (fun a j => if (a = 102 ∨ a = 103) ∧ j < n then S.1 a (8 + j) else if a = 110 ∧ 15 ≤ j ∧ j < 15 + n then S.1 104 (8 + (j - 15)) else S.1 a j, S.2)
theorem sdM_0 (S : St) : sdM 0 S = S := by
  refine Prod.ext ?_ rfl
  funext a j
  exact (if_neg (by omega)).trans (if_neg (by omega))
theorem sdM_ne {n : Nat} {S : St} {a j : Nat} (h1 : ¬ ((a = 102 ∨ a = 103) ∧ j < n)) (h2 : ¬ (a = 110 ∧ 15 ≤ j ∧ j < 15 + n)) : (sdM n S).1 a j = S.1 a j := (if_neg h1).trans (if_neg h2)
theorem sdM_s {n : Nat} {S : St} (hn : n < 8) : sI (sI (sI (sdM n S) 102 n (S.1 102 (8 + n))) 103 n (S.1 103 (8 + n))) 110 (15 + n) (S.1 104 (8 + n)) = sdM (n + 1) S := by
  refine Prod.ext ?_ rfl
  funext a j
  simp only [sI_1, sdM]
  by_cases e3 : a = 110 ∧ j = 15 + n
  · obtain ⟨rfl, rfl⟩ := e3
    rw [if_pos ⟨rfl, rfl⟩, if_neg (by omega), if_pos (by omega), show 15 + n - 15 = n by omega]
  · rw [if_neg e3]
    by_cases e2 : a = 103 ∧ j = n
    · obtain ⟨rfl, rfl⟩ := e2
      rw [if_pos ⟨rfl, rfl⟩, if_pos (by omega)]
    · rw [if_neg e2]
      by_cases e1 : a = 102 ∧ j = n
      · obtain ⟨rfl, rfl⟩ := e1
        rw [if_pos ⟨rfl, rfl⟩, if_pos (by omega)]
      · rw [if_neg e1]
        by_cases c1 : (a = 102 ∨ a = 103) ∧ j < n
        · rw [if_pos c1, if_pos (by omega)]
        · rw [if_neg c1, if_neg (show ¬ ((a = 102 ∨ a = 103) ∧ j < n + 1) by omega)]
          by_cases c2 : a = 110 ∧ 15 ≤ j ∧ j < 15 + n
          · rw [if_pos c2, if_pos (by omega)]
          · rw [if_neg c2, if_neg (by omega)]
theorem st_50 {S : St} : ∀ (k i n : Nat), i + k = 8 → k < n → q_X10_settles_50 n (nI i) (sdM i S) = q_X10_settles_112 FU (nI 0) (sdM 8 S) := by
  intro k
  induction k with
  | zero =>
    intro i n hi hn
    obtain ⟨m, rfl⟩ : ∃ m, n = m + 1 := ⟨n - 1, by omega⟩
    rw [q_X10_settles_50, show i = 8 by omega, if_pos (show (8 : Int32) ≤ nI 8 by decide)]
    rfl
  | succ k ih =>
    intro i n hi hn
    obtain ⟨m, rfl⟩ : ∃ m, n = m + 1 := ⟨n - 1, by omega⟩
    have e1 : (sdM i S).1 102 (8 + i) = S.1 102 (8 + i) := sdM_ne (by omega) (by omega)
    have e2 : (sdM i S).1 103 (8 + i) = S.1 103 (8 + i) := sdM_ne (by omega) (by omega)
    have e3 : (sdM i S).1 104 (8 + i) = S.1 104 (8 + i) := sdM_ne (by omega) (by omega)
    have es := sdM_s (S := S) (show i < 8 by omega)
    rw [q_X10_settles_50]
    simp (disch := omega) only [fa_lit, leN, show ¬ 8 ≤ i from by omega, if_false, vin_t, if_true, nI_clamp, nI_add, sI_ne, e1, e2, e3]
    rw [es]
    exact ih (i + 1) m (by omega) (by omega)
