-- SCENES: copies, what is remembered, images
def cqs (k0 k1 n m : Nat) (S : St) : St := (fun a j => if (k0 < a ∧ a ≤ k0 + 3 ∧ j < n) ∨ (a = k0 + 4 ∧ j < m) then S.1 (a - k0 + k1) j else S.1 a j, S.2)
theorem cqs_0 (k0 k1 : Nat) (S : St) : cqs k0 k1 0 0 S = S := by
  refine Prod.ext ?_ rfl
  funext a j
  exact if_neg (by omega)
theorem cqs_out {k0 k1 n m : Nat} {S : St} {a j : Nat} (h : a ≤ k0 ∨ k0 + 4 < a) : (cqs k0 k1 n m S).1 a j = S.1 a j := if_neg (by omega)
theorem cqs_s5 {k0 k1 n : Nat} {S : St} (h : k0 + 4 < k1 ∨ k1 + 4 < k0) : sI (sI (sI (cqs k0 k1 n 0 S) (k0 + 1) n (S.1 (k1 + 1) n)) (k0 + 2) n (S.1 (k1 + 2) n)) (k0 + 3) n (S.1 (k1 + 3) n) = cqs k0 k1 (n + 1) 0 S := by
  refine Prod.ext ?_ rfl
  funext a j
  simp only [sI_1, cqs]
  by_cases e3 : a = k0 + 3 ∧ j = n
  · obtain ⟨rfl, rfl⟩ := e3
    rw [if_pos ⟨rfl, rfl⟩, if_pos (by omega), show k0 + 3 - k0 + k1 = k1 + 3 by omega]
  · rw [if_neg e3]
    by_cases e2 : a = k0 + 2 ∧ j = n
    · obtain ⟨rfl, rfl⟩ := e2
      rw [if_pos ⟨rfl, rfl⟩, if_pos (by omega), show k0 + 2 - k0 + k1 = k1 + 2 by omega]
    · rw [if_neg e2]
      by_cases e1 : a = k0 + 1 ∧ j = n
      · obtain ⟨rfl, rfl⟩ := e1
        rw [if_pos ⟨rfl, rfl⟩, if_pos (by omega), show k0 + 1 - k0 + k1 = k1 + 1 by omega]
      · rw [if_neg e1]
        by_cases e : (k0 < a ∧ a ≤ k0 + 3 ∧ j < n) ∨ (a = k0 + 4 ∧ j < 0)
        · rw [if_pos e, if_pos (by omega)]
        · rw [if_neg e, if_neg (by omega)]
theorem cqs_s8 {k0 k1 m : Nat} {S : St} (h : k0 + 4 < k1 ∨ k1 + 4 < k0) : sI (cqs k0 k1 5 m S) (k0 + 4) m (S.1 (k1 + 4) m) = cqs k0 k1 5 (m + 1) S := by
  refine Prod.ext ?_ rfl
  funext a j
  simp only [sI_1, cqs]
  by_cases e3 : a = k0 + 4 ∧ j = m
  · obtain ⟨rfl, rfl⟩ := e3
    rw [if_pos ⟨rfl, rfl⟩, if_pos (by omega), show k0 + 4 - k0 + k1 = k1 + 4 by omega]
  · rw [if_neg e3]
    by_cases e : (k0 < a ∧ a ≤ k0 + 3 ∧ j < 5) ∨ (a = k0 + 4 ∧ j < m)
    · rw [if_pos e, if_pos (by omega)]
    · rw [if_neg e, if_neg (by omega)]
theorem bec_51 {k0 k1 : Nat} {S : St} (h : k0 + 4 < k1 ∨ k1 + 4 < k0) : ∀ (k i n : Nat), i + k = 8 → k < n → q_X8_becomes_51 k0 k1 n (nI i) (cqs k0 k1 5 i S) = some (sI (sI (cqs k0 k1 5 8 S) k0 4 (S.1 k1 4)) k0 5 (S.1 k1 5)) := by
  intro k
  induction k with
  | zero =>
    intro i n hi hn
    obtain ⟨m, rfl⟩ : ∃ m, n = m + 1 := ⟨n - 1, by omega⟩
    rw [q_X8_becomes_51, show i = 8 by omega]
    have e4 : (cqs k0 k1 5 8 S).1 k1 4 = S.1 k1 4 := cqs_out (by omega)
    have e5 : (cqs k0 k1 5 8 S).1 k1 5 = S.1 k1 5 := cqs_out (by omega)
    simp (disch := omega) only [fa_lit, Int32.le_refl, if_true, sI_ne, e4, e5]
  | succ k ih =>
    intro i n hi hn
    obtain ⟨m, rfl⟩ : ∃ m, n = m + 1 := ⟨n - 1, by omega⟩
    rw [q_X8_becomes_51]
    have e4 : (cqs k0 k1 5 i S).1 (k1 + 4) i = S.1 (k1 + 4) i := cqs_out (by omega)
    simp (disch := omega) only [fa_lit, leN, show ¬ 8 ≤ i from by omega, if_false, vin_t, if_true, nI_clamp, nI_add, e4, cqs_s8 h]
    exact ih (i + 1) m (by omega) (by omega)
theorem bec_2 {k0 k1 : Nat} {S : St} (h : k0 + 4 < k1 ∨ k1 + 4 < k0) : ∀ (k i n : Nat), i + k = 5 → k < n → q_X8_becomes_2 k0 k1 n (nI i) (cqs k0 k1 i 0 S) = some (sI (sI (cqs k0 k1 5 8 S) k0 4 (S.1 k1 4)) k0 5 (S.1 k1 5)) := by
  intro k
  induction k with
  | zero =>
    intro i n hi hn
    obtain ⟨m, rfl⟩ : ∃ m, n = m + 1 := ⟨n - 1, by omega⟩
    rw [q_X8_becomes_2, show i = 5 by omega]
    simp (disch := omega) only [fa_lit, Int32.le_refl, if_true]
    exact bec_51 h 8 0 FU (by omega) (FU_gt (by decide))
  | succ k ih =>
    intro i n hi hn
    obtain ⟨m, rfl⟩ : ∃ m, n = m + 1 := ⟨n - 1, by omega⟩
    rw [q_X8_becomes_2]
    have e1 : (cqs k0 k1 i 0 S).1 (k1 + 1) i = S.1 (k1 + 1) i := cqs_out (by omega)
    have e2 : (cqs k0 k1 i 0 S).1 (k1 + 2) i = S.1 (k1 + 2) i := cqs_out (by omega)
    have e3 : (cqs k0 k1 i 0 S).1 (k1 + 3) i = S.1 (k1 + 3) i := cqs_out (by omega)
    simp (disch := omega) only [fa_lit, leN, show ¬ 5 ≤ i from by omega, if_false, vin_t, if_true, nI_clamp, nI_add, sI_ne, e1, e2, e3, cqs_s5 h]
    exact ih (i + 1) m (by omega) (by omega)
/-- a scene becomes another -/
theorem becomes {k0 k1 : Nat} (S : St) (h : k0 + 4 < k1 ∨ k1 + 4 < k0) : ∃ S', p_X8_becomes k0 k1 S = some S' ∧ (∀ c s, WC c → RS c s k1 S → RS c s k0 S') ∧ (∀ a j, a < k0 ∨ k0 + 4 < a → S'.1 a j = S.1 a j) ∧ S'.2 = S.2 := by
  have e := bec_2 (S := S) h 5 0 FU (by omega) (FU_gt (by decide))
  rw [cqs_0] at e
  refine ⟨_, e, fun c s hw hR => ?_, fun a j q => ?_, rfl⟩
  · obtain ⟨w1, w2, w3, w4, w5, w6, w7⟩ := hw
    obtain ⟨r1, r2, r3, r4⟩ := hR
    have c1 : ∀ i j, j < 5 → 1 ≤ i → i ≤ 3 → (cqs k0 k1 5 8 S).1 (k0 + i) j = S.1 (k1 + i) j := fun i j h1 h2 h3 => by
      refine (if_pos (by omega)).trans ?_
      rw [show k0 + i - k0 + k1 = k1 + i by omega]
    have c4 : ∀ j, j < 8 → (cqs k0 k1 5 8 S).1 (k0 + 4) j = S.1 (k1 + 4) j := fun j h1 => by
      refine (if_pos (by omega)).trans ?_
      rw [show k0 + 4 - k0 + k1 = k1 + 4 by omega]
    refine ⟨fun b hb => ?_, fun d hd => ?_, ?_, ?_⟩
    · simp (disch := omega) only [sI_ne, c1]
      exact r1 b hb
    · simp (disch := omega) only [sI_ne, c4]
      exact r2 d hd
    · simp (disch := omega) only [sI_ne, sI_eq]
      exact r3
    · simp (disch := omega) only [sI_ne, sI_eq]
      exact r4
  · rw [sI_ne (by omega), sI_ne (by omega), cqs_out (by omega)]
/-- what is remembered once one more is -/
def psh (p : Pst) (s : Sce) : Pst := if p.1 = 10 then (10, fun i => if i = 9 then s else p.2 (i + 1)) else (p.1 + 1, pu1 p.2 p.1 s)
theorem m10 : ∀ n, n < 10 → (nI n + nI 1) - (nI n + nI 1) / nI 10 * nI 10 = nI ((n + 1) % 10) := by decide +kernel
theorem d10 : ∀ n, n < 10 → (nI n + nI 10 - nI 1) - (nI n + nI 10 - nI 1) / nI 10 * nI 10 = nI ((n + 9) % 10) := by decide +kernel
theorem c10 : ∀ n, n < 11 → (if nI 10 < nI n + nI 1 then nI 10 else nI n + nI 1) = nI (if n = 10 then 10 else n + 1) := by decide +kernel
theorem s10 : ∀ n, n < 11 → 0 < n → nI n - nI 1 = nI (n - 1) := by decide +kernel
theorem ll27 {n : Nat} (h : n < 10) : LL27[n]? = some (28 + 5 * n) := by
  have : ∀ n, n < 10 → LL27[n]? = some (28 + 5 * n) := by decide
  exact this n h
theorem ll78 {n : Nat} (h : n < 2) : LL78[n]? = some (79 + 5 * n) := by
  have : ∀ n, n < 2 → LL78[n]? = some (79 + 5 * n) := by decide
  exact this n h
section SC
variable {c : Cty} {s : Sce} {p : Pst} {im : Img} {h : Hea} {t : Txt} {tr : Int64} {S : St}
theorem IC.sc {s' : Sce} {S' : St} (hC : IC c s p im h t tr S) (hs : RS c s' 21 S') (e : ∀ a j, a < 21 ∨ 25 < a → S'.1 a j = S.1 a j) (e2 : S'.2 98 = S.2 98) : IC c s' p im h t tr S' := by
  obtain ⟨c1, c2, c3, c4, c5, c6, c7, c8⟩ := hC
  exact ⟨c1.cg (fun a j q q' => e a j (by omega)), hs, c3.cg (fun a j q q' => e a j (by omega)), c4.cg (fun a j q q' => e a j (by omega)), c5.cg (fun a j q q' => e a j (by omega)), c6.cg (fun j => e 2 j (by omega)) (e 1 1 (by omega)), e2.trans c7, (e 92 0 (by omega)).trans c8⟩
theorem IM.sc {s' : Sce} {S' : St} (hM : IM c s p im h t tr S) (hs : MS c s' (S'.1 110)) (e : ∀ a j, a ≠ 110 → S'.1 a j = S.1 a j) (e2 : S'.2 99 = S.2 99) : IM c s' p im h t tr S' := by
  obtain ⟨m1, m2, m3, m4, m5, m6, m7⟩ := hM
  exact ⟨m1.cg (fun a j q q' => e a j (by omega)), hs, m3.cg (e _ _ (by omega)) (fun j => e _ j (by omega)), m4.cg (fun a j q q' => e a j (by omega)), m5.cg (e _ _ (by omega)) (fun a j q q' => e a j (by omega)), m6.cg (e _ _ (by omega)) (fun j => e _ j (by omega)), e2.trans m7⟩
theorem psh_W (hW : IW c s p im h t) : IW c s (psh p s) im h t := by
  obtain ⟨v1, v2, v3, v4, v5, v6⟩ := hW
  refine ⟨v1, v2, ?_, v4, v5, v6⟩
  unfold psh
  by_cases e : p.1 = 10
  · rw [if_pos e]
    refine ⟨Nat.le_refl 10, fun i hi => ?_⟩
    show WS_ c (if i = 9 then s else p.2 (i + 1))
    by_cases e9 : i = 9
    · rw [if_pos e9]; exact v2
    · rw [if_neg e9]; exact v3.2 (i + 1) (by have : i < 10 := hi; omega)
  · rw [if_neg e]
    refine ⟨by show p.1 + 1 ≤ 10; have := v3.1; omega, fun i hi => ?_⟩
    show WS_ c (pu1 p.2 p.1 s i)
    by_cases e9 : i = p.1
    · subst e9; rw [pu1_eq]; exact v2
    · rw [pu1_ne _ _ _ e9]; exact v3.2 i (by have : i < p.1 + 1 := hi; omega)
theorem xc_remember (hW : IW c s p im h t) (hC : IC c s p im h t tr S) : ∃ S', p_X6_remember S = some S' ∧ IC c s (psh p s) im h t tr S' ∧ kC S S' := by
  obtain ⟨c1, c2, c3, c4, c5, c6, c7, c8⟩ := hC
  obtain ⟨nx, hnx, n1, n2, n3⟩ := c3
  have hw := hW.1
  have hp := hW.2.2.1.1
  obtain ⟨S', e, f1, f2, f3⟩ := becomes (k0 := 28 + 5 * nx) (k1 := 21) S (by omega)
  have g1 : S'.1 26 1 = nI nx := (f2 26 1 (by omega)).trans n1
  have g2 : S'.1 26 2 = nI p.1 := (f2 26 2 (by omega)).trans n2
  refine ⟨sI (sI S' 26 1 (nI ((nx + 1) % 10))) 26 2 (nI (if p.1 = 10 then 10 else p.1 + 1)), ?_, ⟨?_, ?_, ?_, ?_, ?_, ?_, ?_, ?_⟩, ?_⟩
  · unfold p_X6_remember
    simp (disch := omega) only [n1, vin_t, if_true, nI_clamp, ll27, Option.bind_some, e]
    simp (disch := omega) only [fa_lit, lne, not_false_eq_true, if_true, g1, m10, sI_ne, g2, c10]
  · exact c1.cg (fun a j q q' => by rw [sI_ne (by omega), sI_ne (by omega), f2 a j (by omega)])
  · exact c2.cg (fun a j q q' => by rw [sI_ne (by omega), sI_ne (by omega), f2 a j (by omega)])
  · have hps : (psh p s).1 = if p.1 = 10 then 10 else p.1 + 1 := by unfold psh; split <;> rfl
    refine ⟨(nx + 1) % 10, by omega, by rw [sI_ne (by omega), sI_eq ⟨rfl, rfl⟩], by rw [sI_eq ⟨rfl, rfl⟩, hps], fun i hi => ?_⟩
    have cg : ∀ s' k, 28 ≤ k → RS c s' k S' → RS c s' k (sI (sI S' 26 1 (nI ((nx + 1) % 10))) 26 2 (nI (if p.1 = 10 then 10 else p.1 + 1))) := fun s' k hk hr => hr.cg (fun a j q q' => by rw [sI_ne (by omega), sI_ne (by omega)])
    have old : ∀ i', i' < p.1 → (nx + 10 - p.1 + i') % 10 ≠ nx → RS c (p.2 i') (28 + 5 * ((nx + 10 - p.1 + i') % 10)) S' := fun i' h1 h2 => (n3 i' h1).cg (fun a j q q' => f2 a j (by omega))
    have new : RS c s (28 + 5 * nx) S' := f1 c s hw c2
    refine cg _ _ (by omega) ?_
    by_cases e10 : p.1 = 10
    · rw [hps, if_pos e10] at hi ⊢
      unfold psh
      rw [if_pos e10]
      show RS c (if i = 9 then s else p.2 (i + 1)) _ S'
      by_cases e9 : i = 9
      · rw [if_pos e9, show ((nx + 1) % 10 + 10 - 10 + i) % 10 = nx by omega]; exact new
      · rw [if_neg e9]
        have := old (i + 1) (by omega) (by omega)
        rw [show ((nx + 1) % 10 + 10 - 10 + i) % 10 = (nx + 10 - p.1 + (i + 1)) % 10 by omega]
        exact this
    · rw [hps, if_neg e10] at hi ⊢
      unfold psh
      rw [if_neg e10]
      show RS c (pu1 p.2 p.1 s i) _ S'
      by_cases e9 : i = p.1
      · subst e9
        rw [pu1_eq, show ((nx + 1) % 10 + 10 - (p.1 + 1) + p.1) % 10 = nx by omega]; exact new
      · rw [pu1_ne _ _ _ e9]
        have := old i (by omega) (by omega)
        rw [show ((nx + 1) % 10 + 10 - (p.1 + 1) + i) % 10 = (nx + 10 - p.1 + i) % 10 by omega]
        exact this
  · exact c4.cg (fun a j q q' => by rw [sI_ne (by omega), sI_ne (by omega), f2 a j (by omega)])
  · exact c5.cg (fun a j q q' => by rw [sI_ne (by omega), sI_ne (by omega), f2 a j (by omega)])
  · exact c6.cg (fun j => by rw [sI_ne (by omega), sI_ne (by omega), f2 _ j (by omega)]) (by rw [sI_ne (by omega), sI_ne (by omega), f2 _ _ (by omega)])
  · show S'.2 98 = tr
    rw [f3]; exact c7
  · rw [sI_ne (by omega), sI_ne (by omega), f2 _ _ (by omega)]; exact c8
  · exact ⟨fun a j q => by rw [sI_ne (by omega), sI_ne (by omega), f2 a j (by omega)], by show S'.2 99 = _; rw [f3]⟩
end SC
