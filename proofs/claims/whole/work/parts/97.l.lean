-- THE REFERENCE SETTLES: boys
def sbM (n : Nat) (S : St) : St := (fun a j => if (a = 105 ∨ a = 106 ∨ a = 108 ∨ a = 109) ∧ j < n then S.1 a (5 + j) else if a = 110 ∧ j < n then S.1 109 (5 + j) else if a = 110 ∧ 5 ≤ j ∧ j < 5 + n then S.1 107 j else S.1 a j, S.2)
theorem sbM_0 (S : St) : sbM 0 S = S := by
  refine Prod.ext ?_ rfl
  funext a j
  exact (if_neg (by omega)).trans ((if_neg (by omega)).trans (if_neg (by omega)))
theorem sbM_ne {n : Nat} {S : St} {a j : Nat} (h1 : ¬ ((a = 105 ∨ a = 106 ∨ a = 108 ∨ a = 109) ∧ j < n)) (h2 : a ≠ 110 ∨ (n ≤ j ∧ (j < 5 ∨ 5 + n ≤ j))) : (sbM n S).1 a j = S.1 a j := (if_neg h1).trans ((if_neg (by omega)).trans (if_neg (by omega)))
theorem sbM_s {n : Nat} {S : St} (hn : n < 5) : sI (sI (sI (sI (sI (sI (sbM n S) 105 n (S.1 105 (5 + n))) 106 n (S.1 106 (5 + n))) 108 n (S.1 108 (5 + n))) 109 n (S.1 109 (5 + n))) 110 n (S.1 109 (5 + n))) 110 (5 + n) (S.1 107 (5 + n)) = sbM (n + 1) S := by
  refine Prod.ext ?_ rfl
  funext a j
  simp only [sI_1, sbM]
  by_cases e6 : a = 110 ∧ j = 5 + n
  · obtain ⟨rfl, rfl⟩ := e6
    rw [if_pos ⟨rfl, rfl⟩, if_neg (by omega), if_neg (by omega), if_pos (by omega)]
  · rw [if_neg e6]
    by_cases e5 : a = 110 ∧ j = n
    · obtain ⟨rfl, rfl⟩ := e5
      rw [if_pos ⟨rfl, rfl⟩, if_neg (by omega), if_pos (by omega)]
    · rw [if_neg e5]
      by_cases e4 : (a = 105 ∨ a = 106 ∨ a = 108 ∨ a = 109) ∧ j = n
      · obtain ⟨e4, rfl⟩ := e4
        rcases e4 with rfl | rfl | rfl | rfl <;> simp
      · rw [if_neg (by omega), if_neg (by omega), if_neg (by omega), if_neg (by omega)]
        by_cases c1 : (a = 105 ∨ a = 106 ∨ a = 108 ∨ a = 109) ∧ j < n
        · rw [if_pos c1, if_pos (by omega)]
        · rw [if_neg c1, if_neg (show ¬ ((a = 105 ∨ a = 106 ∨ a = 108 ∨ a = 109) ∧ j < n + 1) by omega)]
          by_cases c2 : a = 110 ∧ j < n
          · rw [if_pos c2, if_pos (by omega)]
          · rw [if_neg c2, if_neg (show ¬ (a = 110 ∧ j < n + 1) by omega)]
            by_cases c3 : a = 110 ∧ 5 ≤ j ∧ j < 5 + n
            · rw [if_pos c3, if_pos (by omega)]
            · rw [if_neg c3, if_neg (by omega)]
