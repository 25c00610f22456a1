-- YEAR, MICHAELMAS
def yrC (n : Nat) (S : St) : St := (fun a j => if a = 23 ∧ j < n then S.1 23 j + 1 else if a = 24 ∧ j < n then 0 else S.1 a j, S.2)
theorem yrC_0 (S : St) : yrC 0 S = S := by
  refine Prod.ext ?_ rfl
  funext a j
  exact (if_neg (by omega)).trans (if_neg (by omega))
theorem yrC_ne {n : Nat} {S : St} {a j : Nat} (h : (a ≠ 23 ∧ a ≠ 24) ∨ n ≤ j) : (yrC n S).1 a j = S.1 a j := (if_neg (by omega)).trans (if_neg (by omega))
theorem yrC_s {n : Nat} {S : St} : sI (sI (yrC n S) 23 n (S.1 23 n + 1)) 24 n 0 = yrC (n + 1) S := by
  refine Prod.ext ?_ rfl
  funext a j
  simp only [sI_1, yrC]
  by_cases e : a = 24 ∧ j = n
  · obtain ⟨rfl, rfl⟩ := e
    rw [if_pos ⟨rfl, rfl⟩, if_neg (by omega), if_pos (by omega)]
  · rw [if_neg e]
    by_cases e1 : a = 23 ∧ j = n
    · obtain ⟨rfl, rfl⟩ := e1
      rw [if_pos ⟨rfl, rfl⟩, if_pos (by omega)]
    · rw [if_neg e1]
      by_cases e2 : a = 23 ∧ j < n
      · rw [if_pos e2, if_pos (by omega)]
      · rw [if_neg e2, if_neg (show ¬ (a = 23 ∧ j < n + 1) by omega)]
        by_cases e3 : a = 24 ∧ j < n
        · rw [if_pos e3, if_pos (by omega)]
        · rw [if_neg e3, if_neg (by omega)]
theorem yrC_24 {n j : Nat} {S : St} (h : j < n) : (yrC n S).1 24 j = 0 := by
  unfold yrC
  simp [h]
def yrM (n : Nat) (S : St) : St := (fun a j => if a = 110 ∧ 5 ≤ j ∧ j < 5 + n then S.1 110 j + 1 else if a = 110 ∧ 10 ≤ j ∧ j < 10 + n then 0 else S.1 a j, S.2)
theorem yrM_0 (S : St) : yrM 0 S = S := by
  refine Prod.ext ?_ rfl
  funext a j
  exact (if_neg (by omega)).trans (if_neg (by omega))
theorem yrM_ne {n : Nat} {S : St} {a j : Nat} (h : a ≠ 110 ∨ ((j < 5 ∨ 5 + n ≤ j) ∧ (j < 10 ∨ 10 + n ≤ j))) : (yrM n S).1 a j = S.1 a j := (if_neg (by omega)).trans (if_neg (by omega))
theorem yrM_s {n : Nat} {S : St} (hn : n < 5) : sI (sI (yrM n S) 110 (5 + n) (S.1 110 (5 + n) + 1)) 110 (10 + n) 0 = yrM (n + 1) S := by
  refine Prod.ext ?_ rfl
  funext a j
  simp only [sI_1, yrM]
  by_cases e : a = 110 ∧ j = 10 + n
  · obtain ⟨rfl, rfl⟩ := e
    rw [if_pos ⟨rfl, rfl⟩, if_neg (by omega), if_pos (by omega)]
  · rw [if_neg e]
    by_cases e1 : a = 110 ∧ j = 5 + n
    · obtain ⟨rfl, rfl⟩ := e1
      rw [if_pos ⟨rfl, rfl⟩, if_pos (by omega)]
    · rw [if_neg e1]
      by_cases e2 : a = 110 ∧ 5 ≤ j ∧ j < 5 + n
      · rw [if_pos e2, if_pos (by omega)]
      · rw [if_neg e2, if_neg (show ¬ (a = 110 ∧ 5 ≤ j ∧ j < 5 + (n + 1)) by omega)]
        by_cases e3 : a = 110 ∧ 10 ≤ j ∧ j < 10 + n
        · rw [if_pos e3, if_pos (by omega)]
        · rw [if_neg e3, if_neg (by omega)]
def yrB (c : Cty) (s : Sce) (b : Nat) : Bool := decide (sag s b + 1 = cbr c b)
section YR
variable {c : Cty} {s : Sce} {p : Pst} {im : Img} {h : Hea} {t : Txt} {tr : Int64} {S : St}
theorem yr_c (hw : WC c) (hR : RC c S) (hs : RS c s 21 S) : q_X9_year_43 FU (nI 0) (nI 0) S = some (nI (cntB (cnb c) (yrB c s)), yrC (cnb c) S) := by
  have w4 := hw.2.2.2.1
  have r3 := hR.2.2.1
  have key := loop_up (fun m (a : Nat × St) i => q_X9_year_43 m (nI a.1) (nI i) a.2) (cnb c) (fun i a => (if yrB c s i then a.1 + 1 else a.1, yrC (i + 1) S)) (fun a => some (nI a.1, a.2)) (fun i a => a.2 = yrC i S)
    (fun m a i hi ha => by
      obtain ⟨a, U⟩ := a
      obtain rfl : U = yrC i S := ha
      refine ⟨?_, rfl⟩
      have h10 := (hR.2.2.2.2.2 i hi).2.2.1
      have h23 : S.1 23 i = sag s i := (hs.1 i hi).2.1
      show q_X9_year_43 (m + 1) (nI a) (nI i) (yrC i S) = q_X9_year_43 m (nI (if yrB c s i then a + 1 else a)) (nI (i + 1)) (yrC (i + 1) S)
      rw [q_X9_year_43]
      have g0 : (yrC i S).1 3 2 = nI (cnb c) := (yrC_ne (by omega)).trans r3
      have g23 : (yrC i S).1 23 i = S.1 23 i := yrC_ne (by omega)
      have g10 : (yrC (i + 1) S).1 10 i = cbr c i := (yrC_ne (by omega)).trans h10
      have e23 : (yrC (i + 1) S).1 23 i = sag s i + 1 := by rw [← h23]; exact if_pos ⟨rfl, by omega⟩
      simp (disch := omega) only [g0, leN, show ¬ cnb c ≤ i from by omega, if_false, vin_t, if_true, nI_clamp, g23, yrC_s, e23, g10]
      by_cases e : sag s i + 1 = cbr c i
      · rw [if_pos e, if_pos (show yrB c s i = true from decide_eq_true e)]; simp only [fa_lit, nI_add, Nat.add_zero]
      · rw [if_neg e, if_neg (show ¬ yrB c s i = true from fun q => e (of_decide_eq_true q))]; simp only [fa_lit, nI_add, Nat.add_zero])
    (fun m a ha => by
      obtain ⟨a, U⟩ := a
      obtain rfl : U = yrC (cnb c) S := ha
      show q_X9_year_43 (m + 1) (nI a) (nI (cnb c)) (yrC (cnb c) S) = _
      have g0 : (yrC (cnb c) S).1 3 2 = nI (cnb c) := (yrC_ne (by omega)).trans r3
      rw [q_X9_year_43]
      simp only [g0, Int32.le_refl, if_true]) (cnb c) FU 0 (0, S) (by omega) (FU_gt (by omega)) (yrC_0 S).symm
  have e1 : ∀ k (a : Nat × St), (lpf (fun i (a : Nat × St) => (if yrB c s i then a.1 + 1 else a.1, yrC (i + 1) S)) 0 k a).1 = lpf (fun i a => if yrB c s i then a + 1 else a) 0 k a.1 := by
    intro k
    induction k with
    | zero => intro a; rfl
    | succ k ih => intro a; rw [lpf_end, lpf_end, ← ih]
  have k1 : q_X9_year_43 FU (nI 0) (nI 0) S = _ := key.1
  have k2 := key.2
  rw [k1]
  show some (nI _, _) = _
  rw [k2, e1, lpf_cnt, Nat.zero_add]
theorem yr_m (hw : WC c) (hR : MC c S) (hs : MS c s (S.1 110)) : q_X10_year_28 FU (nI 0) (nI 0) S = some (nI (cntB (cnb c) (yrB c s)), sI (yrM (cnb c) S) 110 24 (nI (syr s + 1))) := by
  have w4 := hw.2.2.2.1
  have r3 := hR.2.2.1
  have key := loop_up (fun m (a : Nat × St) i => q_X10_year_28 m (nI a.1) (nI i) a.2) (cnb c) (fun i a => (if yrB c s i then a.1 + 1 else a.1, yrM (i + 1) S)) (fun a => some (nI a.1, sI a.2 110 24 (nI (syr s + 1)))) (fun i a => a.2 = yrM i S)
    (fun m a i hi ha => by
      obtain ⟨a, U⟩ := a
      obtain rfl : U = yrM i S := ha
      refine ⟨?_, rfl⟩
      have h10 := (hR.2.2.2.2.2 i hi).2.2.1
      have h23 : S.1 110 (5 + i) = sag s i := (hs.1 i hi).2.1
      show q_X10_year_28 (m + 1) (nI a) (nI i) (yrM i S) = q_X10_year_28 m (nI (if yrB c s i then a + 1 else a)) (nI (i + 1)) (yrM (i + 1) S)
      rw [q_X10_year_28]
      have g0 : (yrM i S).1 101 2 = nI (cnb c) := (yrM_ne (by omega)).trans r3
      have g23 : (yrM i S).1 110 (5 + i) = S.1 110 (5 + i) := yrM_ne (by omega)
      have g10 : (yrM (i + 1) S).1 108 i = cbr c i := (yrM_ne (by omega)).trans h10
      have e23 : (yrM (i + 1) S).1 110 (5 + i) = sag s i + 1 := by rw [← h23]; exact if_pos ⟨rfl, by omega, by omega⟩
      have es := yrM_s (S := S) (show i < 5 by omega)
      simp (disch := omega) only [fa_lit, vin_t, nI_clamp, if_true, g0, leN, show ¬ cnb c ≤ i from by omega, if_false, nI_add, g23]
      rw [show nI 0 = (0 : Int32) from rfl, show nI 1 = (1 : Int32) from rfl, es]
      simp (disch := omega) only [e23, g10]
      by_cases e : sag s i + 1 = cbr c i
      · rw [if_pos e, if_pos (show yrB c s i = true from decide_eq_true e)]
      · rw [if_neg e, if_neg (show ¬ yrB c s i = true from fun q => e (of_decide_eq_true q))]; simp only [fa_lit, nI_add, Nat.add_zero])
    (fun m a ha => by
      obtain ⟨a, U⟩ := a
      obtain rfl : U = yrM (cnb c) S := ha
      show q_X10_year_28 (m + 1) (nI a) (nI (cnb c)) (yrM (cnb c) S) = _
      have g0 : (yrM (cnb c) S).1 101 2 = nI (cnb c) := (yrM_ne (by omega)).trans r3
      have g24 : (yrM (cnb c) S).1 110 24 = nI (syr s) := (yrM_ne (by omega)).trans hs.2.2.2
      rw [q_X10_year_28]
      simp (disch := omega) only [fa_lit, vin_t, nI_clamp, g0, Int32.le_refl, if_true, g24, nI_add]) (cnb c) FU 0 (0, S) (by omega) (FU_gt (by omega)) (yrM_0 S).symm
  have e1 : ∀ k (a : Nat × St), (lpf (fun i (a : Nat × St) => (if yrB c s i then a.1 + 1 else a.1, yrM (i + 1) S)) 0 k a).1 = lpf (fun i a => if yrB c s i then a + 1 else a) 0 k a.1 := by
    intro k
    induction k with
    | zero => intro a; rfl
    | succ k ih => intro a; rw [lpf_end, lpf_end, ← ih]
  have k1 : q_X10_year_28 FU (nI 0) (nI 0) S = _ := key.1
  have k2 := key.2
  rw [k1]
  show some (nI _, _) = _
  rw [k2, e1, lpf_cnt, Nat.zero_add]
theorem pr_year (hW : IW c s p im h t) (hC : IC c s p im h t tr S) (hM : IM c s p im h t tr S) : PRR p_X9_year p_X10_year S := by
  have hs := hC.2.1
  have hw := hW.1
  have hws := hW.2.1
  have w3 := hw.2.2.1
  have w4 := hw.2.2.2.1
  have hy := hws.2.2.2
  have r21 : S.1 21 5 = nI (syr s) := hs.2.2.2
  by_cases e : syr s = 99
  · rw [e] at r21
    refine prr hM hW (v := -nI 2) ⟨S, by unfold p_X9_year; simp (disch := omega) only [fa_lit, r21, ltN, Nat.lt_irrefl, if_false], hC, kC.rf S⟩ ?_
    (intro S1 hM1; have hT := hM1.th 0; refine ⟨_, ?_, hT, kM.sI (by decide)⟩; unfold p_X10_year; generalize sI S1 99 0 (0 : Int32) = T at hT ⊢; obtain ⟨m1, m2, m3, m4, m5, m6, m7⟩ := hT)
    have t24 := m2.2.2.2
    rw [e] at t24
    simp (disch := omega) only [fa_lit, vin_t, nI_clamp, if_true, t24]
  · refine deed (v := nI (cntB (cnb c) (yrB c s))) (s' := (s.1, ((fun b => sag s b + 1), fun _ => 0), (spr s, syr s + 1))) hW hC hM ⟨hws.1, hws.2.1, hws.2.2.1, by show syr s + 1 ≤ 99; omega⟩ (fun S1 e1 i1 i2 => ⟨yrC (cnb c) (sI S1 21 5 (nI (syr s + 1))), ?_, ⟨fun b hb => ?_, fun d hd => ?_, ?_, ?_⟩, fun a j q => ?_, rfl⟩) (fun T T1 hT e1 i1 i2 => ⟨sI (yrM (cnb c) T1) 110 24 (nI (syr s + 1)), ?_, ⟨fun b hb => ?_, fun d hd => ?_, ?_, ?_⟩, fun a j q => ?_, rfl⟩)
    · unfold p_X9_year
      rw [r21, e1, if_pos (by rw [fa_lit, ltN (by omega) (by omega)]; omega), Option.bind_some, show S1.1 21 5 = nI (syr s) from i2.2.2.2]
      simp only [fa_lit, nI_add]
      have := yr_c (S := sI S1 21 5 (nI (syr s + 1))) hw (i1.cg (fun a j q q' => sI_ne (by omega))) (s := (s.1, s.2.1, (spr s, syr s + 1))) ⟨fun b hb => ?_, fun d hd => ?_, ?_, ?_⟩
      · exact this
      · rw [sI_ne (by omega), sI_ne (by omega), sI_ne (by omega)]; exact i2.1 b hb
      · rw [sI_ne (by omega)]; exact i2.2.1 d hd
      · rw [sI_ne (by omega)]; exact i2.2.2.1
      · exact sI_eq ⟨rfl, rfl⟩
    · obtain ⟨q1, q2, q3⟩ := i2.1 b hb
      refine ⟨?_, ?_, ?_⟩
      · rw [yrC_ne (by omega), sI_ne (by omega)]; exact q1
      · refine (if_pos ⟨rfl, hb⟩).trans ?_
        rw [sI_ne (by omega), show S1.1 23 b = sag s b from q2]; rfl
      · exact yrC_24 hb
    · rw [yrC_ne (by omega), sI_ne (by omega)]; exact i2.2.1 d hd
    · rw [yrC_ne (by omega), sI_ne (by omega)]; exact i2.2.2.1
    · rw [yrC_ne (by omega)]; exact sI_eq ⟨rfl, rfl⟩
    · rw [yrC_ne (by omega), sI_ne (by omega)]
    · unfold p_X10_year
      generalize sI T 99 0 (0 : Int32) = U at hT e1 ⊢
      obtain ⟨m1, m2, m3, m4, m5, m6, m7⟩ := hT
      have t24 := m2.2.2.2
      simp (disch := omega) only [fa_lit, vin_t, nI_clamp, if_true, t24, lne, if_false, e1, Option.bind_some]
      exact yr_m hw i1 i2
    · obtain ⟨q1, q2, q3⟩ := i2.1 b hb
      refine ⟨?_, ?_, ?_⟩
      · rw [sI_ne (by omega), yrM_ne (by omega)]; exact q1
      · rw [sI_ne (by omega)]
        refine (if_pos ⟨rfl, by omega, by omega⟩).trans ?_
        rw [q2]; rfl
      · rw [sI_ne (by omega)]
        exact (if_neg (by omega)).trans (if_pos ⟨rfl, by omega, by omega⟩)
    · rw [sI_ne (by omega), yrM_ne (by omega)]; exact i2.2.1 d hd
    · rw [sI_ne (by omega), yrM_ne (by omega)]; exact i2.2.2.1
    · exact sI_eq ⟨rfl, rfl⟩
    · rw [sI_ne (by omega), yrM_ne (by omega)]
end YR
