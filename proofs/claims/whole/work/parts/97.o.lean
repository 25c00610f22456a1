-- THE CLASS BECOMES A CITY, the scene begins in it
def bcD (n : Nat) (S : St) : St := (fun a j => if (a = 4 ∨ a = 5 ∨ a = 6) ∧ j < n then S.1 (a + 9) j else S.1 a j, S.2)
theorem bcD_0 (S : St) : bcD 0 S = S := by
  refine Prod.ext ?_ rfl
  funext a j
  exact if_neg (by omega)
theorem bcD_ne {n : Nat} {S : St} {a j : Nat} (h : ¬ ((a = 4 ∨ a = 5 ∨ a = 6) ∧ j < n)) : (bcD n S).1 a j = S.1 a j := if_neg h
theorem bcD_in {n : Nat} {S : St} {a j : Nat} (h : (a = 4 ∨ a = 5 ∨ a = 6) ∧ j < n) : (bcD n S).1 a j = S.1 (a + 9) j := if_pos h
theorem bcD_s {n : Nat} {S : St} : sI (sI (sI (bcD n S) 4 n (S.1 13 n)) 5 n (S.1 14 n)) 6 n (S.1 15 n) = bcD (n + 1) S := by
  refine Prod.ext ?_ rfl
  funext a j
  simp only [sI_1, bcD]
  by_cases e : (a = 4 ∨ a = 5 ∨ a = 6) ∧ j = n
  · obtain ⟨e, rfl⟩ := e
    rcases e with rfl | rfl | rfl <;> simp
  · rw [if_neg (by omega), if_neg (by omega), if_neg (by omega)]
    by_cases c : (a = 4 ∨ a = 5 ∨ a = 6) ∧ j < n
    · rw [if_pos c, if_pos (by omega)]
    · rw [if_neg c, if_neg (by omega)]
def bcB (n : Nat) (S : St) : St := (fun a j => if (7 ≤ a ∧ a ≤ 11) ∧ j < n then S.1 (a + 9) j else S.1 a j, S.2)
theorem bcB_0 (S : St) : bcB 0 S = S := by
  refine Prod.ext ?_ rfl
  funext a j
  exact if_neg (by omega)
theorem bcB_ne {n : Nat} {S : St} {a j : Nat} (h : ¬ ((7 ≤ a ∧ a ≤ 11) ∧ j < n)) : (bcB n S).1 a j = S.1 a j := if_neg h
theorem bcB_in {n : Nat} {S : St} {a j : Nat} (h : (7 ≤ a ∧ a ≤ 11) ∧ j < n) : (bcB n S).1 a j = S.1 (a + 9) j := if_pos h
theorem bcB_s {n : Nat} {S : St} : sI (sI (sI (sI (sI (bcB n S) 7 n (S.1 16 n)) 8 n (S.1 17 n)) 9 n (S.1 18 n)) 10 n (S.1 19 n)) 11 n (S.1 20 n) = bcB (n + 1) S := by
  refine Prod.ext ?_ rfl
  funext a j
  simp only [sI_1, bcB]
  by_cases e : (7 ≤ a ∧ a ≤ 11) ∧ j = n
  · obtain ⟨e, rfl⟩ := e
    have : a = 7 ∨ a = 8 ∨ a = 9 ∨ a = 10 ∨ a = 11 := by omega
    rcases this with rfl | rfl | rfl | rfl | rfl <;> simp
  · rw [if_neg (by omega), if_neg (by omega), if_neg (by omega), if_neg (by omega), if_neg (by omega)]
    by_cases c : (7 ≤ a ∧ a ≤ 11) ∧ j < n
    · rw [if_pos c, if_pos (by omega)]
    · rw [if_neg c, if_neg (by omega)]
theorem bc_84 {S : St} : ∀ (k i n : Nat), i + k = 5 → k < n → q_X2_becomes_84 n (nI i) (bcB i S) = some (bcB 5 S) := by
  intro k
  induction k with
  | zero =>
    intro i n hi hn
    obtain ⟨m, rfl⟩ : ∃ m, n = m + 1 := ⟨n - 1, by omega⟩
    rw [q_X2_becomes_84, show i = 5 by omega, if_pos (show (5 : Int32) ≤ nI 5 by decide)]
  | succ k ih =>
    intro i n hi hn
    obtain ⟨m, rfl⟩ : ∃ m, n = m + 1 := ⟨n - 1, by omega⟩
    have e1 : (bcB i S).1 16 i = S.1 16 i := bcB_ne (by omega)
    have e2 : (bcB i S).1 17 i = S.1 17 i := bcB_ne (by omega)
    have e3 : (bcB i S).1 18 i = S.1 18 i := bcB_ne (by omega)
    have e4 : (bcB i S).1 19 i = S.1 19 i := bcB_ne (by omega)
    have e5 : (bcB i S).1 20 i = S.1 20 i := bcB_ne (by omega)
    rw [q_X2_becomes_84]
    simp (disch := omega) only [fa_lit, leN, show ¬ 5 ≤ i from by omega, if_false, vin_t, if_true, nI_clamp, nI_add, sI_ne, e1, e2, e3, e4, e5]
    rw [bcB_s]
    exact ih (i + 1) m (by omega) (by omega)
theorem bc_34 {S : St} : ∀ (k i n : Nat), i + k = 8 → k < n → q_X2_becomes_34 n (nI i) (bcD i S) = q_X2_becomes_84 FU (nI 0) (bcD 8 S) := by
  intro k
  induction k with
  | zero =>
    intro i n hi hn
    obtain ⟨m, rfl⟩ : ∃ m, n = m + 1 := ⟨n - 1, by omega⟩
    rw [q_X2_becomes_34, show i = 8 by omega, if_pos (show (8 : Int32) ≤ nI 8 by decide)]
    rfl
  | succ k ih =>
    intro i n hi hn
    obtain ⟨m, rfl⟩ : ∃ m, n = m + 1 := ⟨n - 1, by omega⟩
    have e1 : (bcD i S).1 13 i = S.1 13 i := bcD_ne (by omega)
    have e2 : (bcD i S).1 14 i = S.1 14 i := bcD_ne (by omega)
    have e3 : (bcD i S).1 15 i = S.1 15 i := bcD_ne (by omega)
    rw [q_X2_becomes_34]
    simp (disch := omega) only [fa_lit, leN, show ¬ 8 ≤ i from by omega, if_false, vin_t, if_true, nI_clamp, nI_add, sI_ne, e1, e2, e3]
    rw [bcD_s]
    exact ih (i + 1) m (by omega) (by omega)
/-- the told city is the draft's -/
theorem bec2 {S : St} {D : Dft} (hw : WD D) (hD : RD D S) : ∃ S', p_X2_becomes S = some S' ∧ RC (ctD D) S' ∧ (∀ b, b < D.1.2.2.1 → S'.1 9 b = nI (D.2.2.2.2.1 b)) ∧ (∀ d, d < D.1.2.1 → S'.1 6 d = nI (D.2.1.2.2 d)) ∧ (∀ a j, a < 3 ∨ 11 < a → S'.1 a j = S.1 a j) ∧ S'.2 = S.2 := by
  obtain ⟨w1, w2, w3, w4, w5, w6, w7, w8⟩ := hw
  obtain ⟨d1, d2, d3, d4, d5, d6, d7⟩ := hD
  obtain ⟨A, hA⟩ : ∃ A, A = sI (sI (sI (sI S 3 0 (S.1 12 0)) 3 1 (S.1 12 1)) 3 2 (S.1 12 2)) 3 3 (S.1 12 3) := ⟨_, rfl⟩
  have e0 : p_X2_becomes S = q_X2_becomes_34 FU (nI 0) (bcD 0 A) := by
    rw [bcD_0, hA]
    unfold p_X2_becomes
    simp (disch := omega) only [sI_ne]
    rfl
  have e1 := bc_34 (S := A) 8 0 FU (by omega) (FU_gt (by decide))
  have e2 := bc_84 (S := bcD 8 A) 5 0 FU (by omega) (FU_gt (by decide))
  rw [bcB_0] at e2
  have aN : ∀ a j, a ≠ 3 → A.1 a j = S.1 a j := fun a j h => by
    rw [hA, sI_ne (by omega), sI_ne (by omega), sI_ne (by omega), sI_ne (by omega)]
  have pd : ∀ a d, a = 4 ∨ a = 5 ∨ a = 6 → d < 8 → (bcB 5 (bcD 8 A)).1 a d = S.1 (a + 9) d := fun a d ha hd => by
    rw [bcB_ne (by omega), bcD_in ⟨ha, hd⟩, aN _ _ (by omega)]
  have pb : ∀ a b, 7 ≤ a → a ≤ 11 → b < 5 → (bcB 5 (bcD 8 A)).1 a b = S.1 (a + 9) b := fun a b h1 h2 hb => by
    rw [bcB_in ⟨⟨h1, h2⟩, hb⟩, bcD_ne (by omega), aN _ _ (by omega)]
  have p3 : ∀ j, (bcB 5 (bcD 8 A)).1 3 j = A.1 3 j := fun j => by rw [bcB_ne (by omega), bcD_ne (by omega)]
  refine ⟨bcB 5 (bcD 8 A), e0.trans (e1.trans e2), ⟨?_, ?_, ?_, ?_, fun d hd => ?_, fun b hb => ?_⟩, fun b hb => ?_, fun d hd => ?_, fun a j h => ?_, ?_⟩
  · rw [p3, hA, sI_ne (by omega), sI_ne (by omega), sI_ne (by omega), sI_eq ⟨rfl, rfl⟩]; exact d1
  · rw [p3, hA, sI_ne (by omega), sI_ne (by omega), sI_eq ⟨rfl, rfl⟩]; exact d2
  · rw [p3, hA, sI_ne (by omega), sI_eq ⟨rfl, rfl⟩]; exact d3
  · rw [p3, hA, sI_eq ⟨rfl, rfl⟩]; exact d4
  · have hd' : d < D.1.2.1 := hd
    rw [pd 4 d (by omega) (by omega), pd 5 d (by omega) (by omega)]
    exact ⟨(d6 d hd').1, (d6 d hd').2.1⟩
  · have hb' : b < D.1.2.2.1 := hb
    rw [pb 7 b (by omega) (by omega) (by omega), pb 8 b (by omega) (by omega) (by omega), pb 10 b (by omega) (by omega) (by omega), pb 11 b (by omega) (by omega) (by omega)]
    exact ⟨(d7 b hb').1, (d7 b hb').2.1, (d7 b hb').2.2.2.1, (d7 b hb').2.2.2.2⟩
  · rw [pb 9 b (by omega) (by omega) (by omega)]
    exact (d7 b hb).2.2.1
  · rw [pd 6 d (by omega) (by omega)]
    exact (d6 d hd).2.2
  · rw [bcB_ne (by omega), bcD_ne (by omega), aN _ _ (by omega)]
  · show A.2 = S.2
    rw [hA]; rfl
def bgB (n : Nat) (S : St) : St := (fun a j => if a = 22 ∧ j < n then S.1 11 j else if a = 23 ∧ j < n then S.1 9 j else if a = 24 ∧ j < n then 0 else S.1 a j, S.2)
theorem bgB_at (n : Nat) (S : St) (a j : Nat) : (bgB n S).1 a j = if a = 22 ∧ j < n then S.1 11 j else if a = 23 ∧ j < n then S.1 9 j else if a = 24 ∧ j < n then 0 else S.1 a j := rfl
theorem bgB_0 (S : St) : bgB 0 S = S := by
  refine Prod.ext ?_ rfl
  funext a j
  exact (if_neg (by omega)).trans ((if_neg (by omega)).trans (if_neg (by omega)))
theorem bgB_ne {n : Nat} {S : St} {a j : Nat} (h : ¬ ((a = 22 ∨ a = 23 ∨ a = 24) ∧ j < n)) : (bgB n S).1 a j = S.1 a j := (if_neg (by omega)).trans ((if_neg (by omega)).trans (if_neg (by omega)))
theorem bgB_s {n : Nat} {S : St} : sI (sI (sI (bgB n S) 22 n (S.1 11 n)) 23 n (S.1 9 n)) 24 n 0 = bgB (n + 1) S := by
  refine Prod.ext ?_ rfl
  funext a j
  simp only [sI_1, bgB]
  by_cases e : (a = 22 ∨ a = 23 ∨ a = 24) ∧ j = n
  · obtain ⟨e, rfl⟩ := e
    rcases e with rfl | rfl | rfl <;> simp
  · rw [if_neg (by omega), if_neg (by omega), if_neg (by omega)]
    by_cases c1 : a = 22 ∧ j < n
    · rw [if_pos c1, if_pos (by omega)]
    · rw [if_neg c1, if_neg (show ¬ (a = 22 ∧ j < n + 1) by omega)]
      by_cases c2 : a = 23 ∧ j < n
      · rw [if_pos c2, if_pos (by omega)]
      · rw [if_neg c2, if_neg (show ¬ (a = 23 ∧ j < n + 1) by omega)]
        by_cases c3 : a = 24 ∧ j < n
        · rw [if_pos c3, if_pos (by omega)]
        · rw [if_neg c3, if_neg (by omega)]
def bgD (n : Nat) (S : St) : St := (fun a j => if a = 25 ∧ j < n then S.1 6 j else S.1 a j, S.2)
theorem bgD_0 (S : St) : bgD 0 S = S := by
  refine Prod.ext ?_ rfl
  funext a j
  exact if_neg (by omega)
theorem bgD_ne {n : Nat} {S : St} {a j : Nat} (h : ¬ (a = 25 ∧ j < n)) : (bgD n S).1 a j = S.1 a j := if_neg h
theorem bgD_s {n : Nat} {S : St} : sI (bgD n S) 25 n (S.1 6 n) = bgD (n + 1) S := by
  refine Prod.ext ?_ rfl
  funext a j
  simp only [sI_1, bgD]
  by_cases e : a = 25 ∧ j = n
  · obtain ⟨rfl, rfl⟩ := e
    simp
  · rw [if_neg e]
    by_cases c : a = 25 ∧ j < n
    · rw [if_pos c, if_pos (by omega)]
    · rw [if_neg c, if_neg (by omega)]
theorem bg_46 {S : St} : ∀ (k i n : Nat), i + k = 8 → k < n → q_X8_beginsIn_46 n (nI i) (bgD i S) = some (sI (sI (bgD 8 S) 21 4 0) 21 5 0) := by
  intro k
  induction k with
  | zero =>
    intro i n hi hn
    obtain ⟨m, rfl⟩ : ∃ m, n = m + 1 := ⟨n - 1, by omega⟩
    rw [q_X8_beginsIn_46, show i = 8 by omega, if_pos (show (8 : Int32) ≤ nI 8 by decide)]
  | succ k ih =>
    intro i n hi hn
    obtain ⟨m, rfl⟩ : ∃ m, n = m + 1 := ⟨n - 1, by omega⟩
    have e1 : (bgD i S).1 6 i = S.1 6 i := bgD_ne (by omega)
    rw [q_X8_beginsIn_46]
    simp (disch := omega) only [fa_lit, leN, show ¬ 8 ≤ i from by omega, if_false, vin_t, if_true, nI_clamp, nI_add, e1]
    rw [bgD_s]
    exact ih (i + 1) m (by omega) (by omega)
theorem bg_2 {S : St} : ∀ (k i n : Nat), i + k = 5 → k < n → q_X8_beginsIn_2 n (nI i) (bgB i S) = q_X8_beginsIn_46 FU (nI 0) (bgB 5 S) := by
  intro k
  induction k with
  | zero =>
    intro i n hi hn
    obtain ⟨m, rfl⟩ : ∃ m, n = m + 1 := ⟨n - 1, by omega⟩
    rw [q_X8_beginsIn_2, show i = 5 by omega, if_pos (show (5 : Int32) ≤ nI 5 by decide)]
    rfl
  | succ k ih =>
    intro i n hi hn
    obtain ⟨m, rfl⟩ : ∃ m, n = m + 1 := ⟨n - 1, by omega⟩
    have e1 : (bgB i S).1 11 i = S.1 11 i := bgB_ne (by omega)
    have e2 : (bgB i S).1 9 i = S.1 9 i := bgB_ne (by omega)
    rw [q_X8_beginsIn_2]
    simp (disch := omega) only [fa_lit, leN, show ¬ 5 ≤ i from by omega, if_false, vin_t, if_true, nI_clamp, nI_add, sI_ne, e1, e2]
    rw [show nI 0 = (0 : Int32) from rfl, bgB_s]
    exact ih (i + 1) m (by omega) (by omega)
theorem begs {S : St} {D : Dft} (hw : WD D) (hR : RC (ctD D) S) (h9 : ∀ b, b < D.1.2.2.1 → S.1 9 b = nI (D.2.2.2.2.1 b)) (h6 : ∀ d, d < D.1.2.1 → S.1 6 d = nI (D.2.1.2.2 d)) : ∃ S', p_X8_beginsIn S = some S' ∧ RS (ctD D) (scD D) 21 S' ∧ (∀ a j, a < 21 ∨ 25 < a → S'.1 a j = S.1 a j) ∧ S'.2 = S.2 := by
  obtain ⟨w1, w2, w3, w4, w5, w6, w7, w8⟩ := hw
  have e1 := bg_2 (S := S) 5 0 FU (by omega) (FU_gt (by decide))
  have e2 := bg_46 (S := bgB 5 S) 8 0 FU (by omega) (FU_gt (by decide))
  rw [bgB_0] at e1
  rw [bgD_0] at e2
  refine ⟨_, e1.trans e2, ⟨fun b hb => ?_, fun d hd => ?_, ?_, ?_⟩, fun a j h => ?_, rfl⟩
  · have hb' : b < D.1.2.2.1 := hb
    refine ⟨?_, ?_, ?_⟩
    · rw [sI_ne (by omega), sI_ne (by omega), bgD_ne (by omega), bgB_at, if_pos (by omega)]
      exact (hR.2.2.2.2.2 b hb).2.2.2
    · rw [sI_ne (by omega), sI_ne (by omega), bgD_ne (by omega), bgB_at, if_neg (by omega), if_pos (by omega)]
      exact h9 b hb'
    · rw [sI_ne (by omega), sI_ne (by omega), bgD_ne (by omega), bgB_at, if_neg (by omega), if_neg (by omega), if_pos (by omega)]
      rfl
  · have hd' : d < D.1.2.1 := hd
    rw [sI_ne (by omega), sI_ne (by omega)]
    refine (if_pos (by omega)).trans ?_
    rw [bgB_ne (by omega)]
    exact h6 d hd'
  · rw [sI_ne (by omega), sI_eq ⟨rfl, rfl⟩]; rfl
  · rw [sI_eq ⟨rfl, rfl⟩]; rfl
  · rw [sI_ne (by omega), sI_ne (by omega), bgD_ne (by omega), bgB_ne (by omega)]
