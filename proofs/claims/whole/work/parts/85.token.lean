-- TOKENS of a told text
def isD (x : Nat) : Bool := decide (48 ≤ x) && decide (x ≤ 57)
def skp (t : Txt) : Nat → Nat → Nat
  | 0, p => p
  | k + 1, p => if t.2 p = 32 then skp t k (p + 1) else p
def run (t : Txt) : Nat → Nat → Nat → Nat × Nat
  | 0, p, v => (p, v)
  | k + 1, p, v => if isD (t.2 p) then run t k (p + 1) (if v ≤ 99 then 10 * v + t.2 p - 48 else v) else (p, v)
/-- kind (0 end, 1 letter, 2 number, 3 ';', 4 bad), value, start, where the next begins -/
def tok (t : Txt) (p : Nat) : Nat × Nat × Nat × Nat :=
  if t.1 ≤ skp t (t.1 - p) p then (0, 0, skp t (t.1 - p) p, skp t (t.1 - p) p)
  else if isD (t.2 (skp t (t.1 - p) p)) then
    (if 99 < (run t (t.1 - skp t (t.1 - p) p) (skp t (t.1 - p) p) 0).2 then 4 else if t.2 (skp t (t.1 - p) p) = 48 ∧ 1 < (run t (t.1 - skp t (t.1 - p) p) (skp t (t.1 - p) p) 0).1 - skp t (t.1 - p) p then 4 else 2, (run t (t.1 - skp t (t.1 - p) p) (skp t (t.1 - p) p) 0).2, skp t (t.1 - p) p, (run t (t.1 - skp t (t.1 - p) p) (skp t (t.1 - p) p) 0).1)
  else if t.2 (skp t (t.1 - p) p) = 59 then (3, 59, skp t (t.1 - p) p, skp t (t.1 - p) p + 1)
  else if t.2 (skp t (t.1 - p) p) = 110 ∨ t.2 (skp t (t.1 - p) p) = 100 ∨ t.2 (skp t (t.1 - p) p) = 98 ∨ t.2 (skp t (t.1 - p) p) = 115 then (1, t.2 (skp t (t.1 - p) p), skp t (t.1 - p) p, skp t (t.1 - p) p + 1)
  else (4, t.2 (skp t (t.1 - p) p), skp t (t.1 - p) p, skp t (t.1 - p) p + 1)
theorem skp_in (t : Txt) : ∀ k p, p ≤ skp t k p ∧ skp t k p ≤ p + k
  | 0, p => ⟨Nat.le_refl _, Nat.le_refl _⟩
  | k + 1, p => by
    rw [skp]
    have := skp_in t k (p + 1)
    split <;> omega
theorem run_in (t : Txt) : ∀ k p v, p ≤ (run t k p v).1 ∧ (run t k p v).1 ≤ p + k
  | 0, p, v => ⟨Nat.le_refl _, Nat.le_refl _⟩
  | k + 1, p, v => by
    rw [run]
    split
    · have := run_in t k (p + 1) (if v ≤ 99 then 10 * v + t.2 p - 48 else v)
      omega
    · exact ⟨Nat.le_refl _, by show p ≤ _; omega⟩
def WT (t : Txt) : Prop := t.1 ≤ 150 ∧ ∀ i, i < t.1 → t.2 i ≤ 255
section TOK
variable {t : Txt} {S : St}
theorem isDig {x : Nat} (h : x < 1000) (S : St) : p_X7_isDigit (nI x) S = some (nI (bN (isD x)), S) := by
  unfold p_X7_isDigit isD
  simp (disch := omega) only [fa_lit, ltN]
  by_cases h1 : x < 48
  · rw [if_pos h1, decide_eq_false (show ¬ 48 ≤ x by omega)]; rfl
  · rw [if_neg h1, decide_eq_true (show 48 ≤ x by omega)]
    by_cases h2 : 57 < x
    · rw [if_pos h2, decide_eq_false (show ¬ x ≤ 57 by omega)]; rfl
    · rw [if_neg h2, decide_eq_true (show x ≤ 57 by omega)]; rfl
def mn (v : Nat) : Nat := if v ≤ 99 then v else 100
theorem mn_le (v : Nat) : mn v ≤ 100 := by unfold mn; split <;> omega
theorem mn_s {v x : Nat} (h1 : 48 ≤ x) (h2 : x ≤ 57) : (if (100 : Int32) < ((nI 10 * nI (mn v)) + nI x) - nI 48 then (100 : Int32) else ((nI 10 * nI (mn v)) + nI x) - nI 48) = nI (mn (if v ≤ 99 then 10 * v + x - 48 else v)) := by
  have hm := mn_le v
  rw [mulN, nI_add, nI_subN (by omega)]
  show (if nI 100 < nI (10 * mn v + x - 48) then nI 100 else nI (10 * mn v + x - 48)) = _
  have hlt : (nI 100 < nI (10 * mn v + x - 48)) ↔ (100 < 10 * mn v + x - 48) := nI_ltI (by omega) (by omega)
  by_cases e : v ≤ 99
  · rw [if_pos e]
    have e1 : mn v = v := if_pos e
    rw [e1]
    rw [e1] at hlt
    by_cases e2 : 100 < 10 * v + x - 48
    · rw [if_pos (hlt.mpr e2)]
      unfold mn
      rw [if_neg (by omega)]
    · rw [if_neg (fun q => e2 (hlt.mp q))]
      unfold mn
      by_cases e3 : 10 * v + x - 48 ≤ 99
      · rw [if_pos e3]
      · rw [if_neg e3, show 10 * v + x - 48 = 100 by omega]
  · rw [if_neg e]
    have e1 : mn v = 100 := if_neg e
    rw [e1] at hlt ⊢
    rw [if_pos (hlt.mpr (by omega))]
theorem tc_118 (ht : WT t) : ∀ (k p v n : Nat) (f : Bool) (S : St), p + k = t.1 → k < n → RT t S → S.1 1 2 = nI p → S.1 1 5 = nI (mn v) → ∃ S', q_X7_readToken_118 n (nI (bN f)) S = some S' ∧ S'.1 1 2 = nI (run t k p v).1 ∧ S'.1 1 5 = nI (mn (run t k p v).2) ∧ S'.1 1 4 = (if (f || (decide (v = 0) && decide (p < (run t k p v).1))) then -3 else if 99 < (run t k p v).2 then -3 else -2) ∧ (∀ a j, ¬ (a = 1 ∧ (j = 2 ∨ j = 4 ∨ j = 5)) → S'.1 a j = S.1 a j) ∧ S'.2 = S.2 := by
  have hL := ht.1
  -- the end
  have fin : ∀ (p v : Nat) (f : Bool) (S : St), S.1 1 2 = nI p → S.1 1 5 = nI (mn v) → ∃ S', q_X7_readToken_203 (nI (bN f)) S = some S' ∧ S'.1 1 2 = nI p ∧ S'.1 1 5 = nI (mn v) ∧ S'.1 1 4 = (if (f || (decide (v = 0) && decide (p < p))) then -3 else if 99 < v then -3 else -2) ∧ (∀ a j, ¬ (a = 1 ∧ (j = 2 ∨ j = 4 ∨ j = 5)) → S'.1 a j = S.1 a j) ∧ S'.2 = S.2 := by
    intro p v f S h1 h2
    have g : ∀ w : Int32, (∀ a j, ¬ (a = 1 ∧ (j = 2 ∨ j = 4 ∨ j = 5)) → (sI S 1 4 w).1 a j = S.1 a j) := fun w a j q => sI_ne (by omega)
    have hm := mn_le v
    have pp : decide (p < p) = false := decide_eq_false (Nat.lt_irrefl p)
    unfold q_X7_readToken_203
    cases f with
    | true =>
      rw [if_neg (show ¬ nI (bN true) = (0 : Int32) by decide)]
      exact ⟨_, rfl, (sI_ne (by omega)).trans h1, (sI_ne (by omega)).trans h2, (sI_eq ⟨rfl, rfl⟩).trans (by rw [Bool.true_or, if_pos rfl]), g _, rfl⟩
    | false =>
      rw [if_pos (show nI (bN false) = (0 : Int32) from rfl), h2]
      by_cases e : 99 < v
      · have e1 : mn v = 100 := if_neg (by omega)
        rw [if_neg (by rw [e1]; decide)]
        exact ⟨_, rfl, (sI_ne (by omega)).trans h1, (sI_ne (by omega)).trans h2, (sI_eq ⟨rfl, rfl⟩).trans (by rw [pp, Bool.and_false, Bool.or_false, if_neg (by decide), if_pos e]), g _, rfl⟩
      · have e1 : mn v = v := if_pos (by omega)
        rw [if_pos (by show nI (mn v) ≤ nI 99; rw [e1, leN (by omega) (by omega)]; omega)]
        exact ⟨_, rfl, (sI_ne (by omega)).trans h1, (sI_ne (by omega)).trans h2, (sI_eq ⟨rfl, rfl⟩).trans (by rw [pp, Bool.and_false, Bool.or_false, if_neg (by decide), if_neg e]), g _, rfl⟩
  intro k
  induction k with
  | zero =>
    intro p v n f S hp hn hT h2 h5
    obtain ⟨m, rfl⟩ : ∃ m, n = m + 1 := ⟨n - 1, by omega⟩
    rw [q_X7_readToken_118, hT.1, h2, if_pos (by rw [leN (by omega) (by omega)]; omega)]
    exact fin p v f S h2 h5
  | succ k ih =>
    intro p v n f S hp hn hT h2 h5
    obtain ⟨m, rfl⟩ : ∃ m, n = m + 1 := ⟨n - 1, by omega⟩
    have hc := ht.2 p (by omega)
    have hch : S.1 2 (nI p).toNatClampNeg = nI (t.2 p) := by rw [nI_clamp (by omega)]; exact hT.2 p (by omega)
    rw [q_X7_readToken_118, hT.1, h2, if_neg (by rw [leN (by omega) (by omega)]; omega), if_pos (show vin (nI p) 150 from (vin_t (by omega)).mpr trivial), hch, isDig (by omega), Option.bind_some]
    show ∃ S', (if nI (bN (isD (t.2 p))) = (0 : Int32) then q_X7_readToken_203 (nI (bN f)) S else (if nI (bN f) = (0 : Int32) then (if (S.1 1 5) = (0 : Int32) then q_X7_readToken_155 (q_X7_readToken_118 m) S else q_X7_readToken_160 (q_X7_readToken_118 m) (0 : Int32) S) else q_X7_readToken_155 (q_X7_readToken_118 m) S)) = some S' ∧ _
    cases eD : isD (t.2 p) with
    | false =>
      have er : run t (k + 1) p v = (p, v) := by rw [run, eD, if_neg (by decide)]
      rw [if_pos (show nI (bN false) = (0 : Int32) from rfl), er]
      exact fin p v f S h2 h5
    | true =>
      have er : run t (k + 1) p v = run t k (p + 1) (if v ≤ 99 then 10 * v + t.2 p - 48 else v) := by rw [run, eD, if_pos rfl]
      have hd : 48 ≤ t.2 p ∧ t.2 p ≤ 57 := by
        unfold isD at eD
        rw [Bool.and_eq_true, decide_eq_true_eq, decide_eq_true_eq] at eD
        exact eD
      rw [if_neg (show ¬ nI (bN true) = (0 : Int32) by decide), er]
      have ri := run_in t k (p + 1) (if v ≤ 99 then 10 * v + t.2 p - 48 else v)
      have hm := mn_le v
      -- one digit more, the flag g
      have go : ∀ g : Bool, g = (f || decide (v = 0)) → ∃ S', q_X7_readToken_160 (q_X7_readToken_118 m) (nI (bN g)) S = some S' ∧ S'.1 1 2 = nI (run t k (p + 1) (if v ≤ 99 then 10 * v + t.2 p - 48 else v)).1 ∧ S'.1 1 5 = nI (mn (run t k (p + 1) (if v ≤ 99 then 10 * v + t.2 p - 48 else v)).2) ∧ S'.1 1 4 = (if (f || (decide (v = 0) && decide (p < (run t k (p + 1) (if v ≤ 99 then 10 * v + t.2 p - 48 else v)).1))) then -3 else if 99 < (run t k (p + 1) (if v ≤ 99 then 10 * v + t.2 p - 48 else v)).2 then -3 else -2) ∧ (∀ a j, ¬ (a = 1 ∧ (j = 2 ∨ j = 4 ∨ j = 5)) → S'.1 a j = S.1 a j) ∧ S'.2 = S.2 := by
        intro g hg
        obtain ⟨S', q1, q2, q3, q4, q5, q6⟩ := ih (p + 1) (if v ≤ 99 then 10 * v + t.2 p - 48 else v) m g (sI (sI S 1 5 (nI (mn (if v ≤ 99 then 10 * v + t.2 p - 48 else v)))) 1 2 (nI (p + 1))) (by omega) (by omega) (hT.cg (fun j => by rw [sI_ne (by omega), sI_ne (by omega)]) (by rw [sI_ne (by omega), sI_ne (by omega)])) (sI_eq ⟨rfl, rfl⟩) (by rw [sI_ne (by omega)]; exact sI_eq ⟨rfl, rfl⟩)
        refine ⟨S', ?_, q2, q3, ?_, fun a j q => by rw [q5 a j q, sI_ne (by omega), sI_ne (by omega)], q6⟩
        · rw [← q1]
          unfold q_X7_readToken_160
          rw [h2, if_pos (show vin (nI p) 150 from (vin_t (by omega)).mpr trivial), hch, h5]
          rw [show (if (100 : Int32) < (((10 : Int32) * nI (mn v)) + nI (t.2 p)) - (48 : Int32) then (100 : Int32) else (((10 : Int32) * nI (mn v)) + nI (t.2 p)) - (48 : Int32)) = nI (mn (if v ≤ 99 then 10 * v + t.2 p - 48 else v)) from mn_s hd.1 hd.2]
          rw [show (sI S 1 5 (nI (mn (if v ≤ 99 then 10 * v + t.2 p - 48 else v)))).1 1 2 = nI p from (sI_ne (by omega)).trans h2, show nI p + (1 : Int32) = nI (p + 1) from nI_add p 1]
        · rw [q4, hg]
          have hlt : decide (p < (run t k (p + 1) (if v ≤ 99 then 10 * v + t.2 p - 48 else v)).1) = true := decide_eq_true (by omega)
          rw [hlt, Bool.and_true]
          by_cases e0 : v = 0
          · rw [decide_eq_true e0, Bool.or_true, Bool.true_or]
          · have e1 : decide ((if v ≤ 99 then 10 * v + t.2 p - 48 else v) = 0) = false := decide_eq_false (by split <;> omega)
            rw [e1, Bool.false_and, Bool.or_false]
      have z5 : (S.1 1 5 = (0 : Int32)) ↔ v = 0 := by
        rw [h5]
        refine (show (nI (mn v) = nI 0) ↔ mn v = 0 from nI_eq (by omega) (by decide)).trans ?_
        unfold mn
        split <;> omega
      cases f with
      | true =>
        rw [if_neg (show ¬ nI (bN true) = (0 : Int32) by decide)]
        exact go true rfl
      | false =>
        rw [if_pos (show nI (bN false) = (0 : Int32) from rfl)]
        by_cases e0 : v = 0
        · rw [if_pos (z5.mpr e0)]
          exact go true (by rw [decide_eq_true e0]; rfl)
        · rw [if_neg (fun q => e0 (z5.mp q))]
          exact go false (by rw [decide_eq_false e0]; rfl)
/-- the class's word for a token -/
def ctk (q : Nat × Nat × Nat × Nat) : Int32 := if q.1 = 0 then -1 else if q.1 = 2 then -2 else if q.1 = 4 then -3 else nI q.2.1
theorem isSig {x : Nat} (h : x < 1000) (S : St) : p_X7_isSign (nI x) S = some (nI (bN (decide (x = 110 ∨ x = 100 ∨ x = 98 ∨ x = 115 ∨ x = 59))), S) := by
  unfold p_X7_isSign
  simp (disch := omega) only [fa_lit, eqN]
  by_cases h1 : x = 110
  · rw [if_pos h1, decide_eq_true (by omega)]; rfl
  · rw [if_neg h1]
    by_cases h2 : x = 100
    · rw [if_pos h2, decide_eq_true (by omega)]; rfl
    · rw [if_neg h2]
      by_cases h3 : x = 98
      · rw [if_pos h3, decide_eq_true (by omega)]; rfl
      · rw [if_neg h3]
        by_cases h4 : x = 115
        · rw [if_pos h4, decide_eq_true (by omega)]; rfl
        · rw [if_neg h4]
          by_cases h5 : x = 59
          · rw [if_pos h5, decide_eq_true (by omega)]; rfl
          · rw [if_neg h5, decide_eq_false (by omega)]; rfl
theorem tc_0 (ht : WT t) : ∀ (k p n : Nat) (S : St), p + k = t.1 → k < n → RT t S → S.1 1 2 = nI p → ∃ U, q_X7_readToken_0 n S = q_X7_readToken_38 U ∧ U.1 1 2 = nI (skp t k p) ∧ (∀ a j, ¬ (a = 1 ∧ j = 2) → U.1 a j = S.1 a j) ∧ U.2 = S.2 := by
  have hL := ht.1
  intro k
  induction k with
  | zero =>
    intro p n S hp hn hT h2
    obtain ⟨m, rfl⟩ : ∃ m, n = m + 1 := ⟨n - 1, by omega⟩
    rw [q_X7_readToken_0, hT.1, h2, if_pos (by rw [leN (by omega) (by omega)]; omega)]
    exact ⟨S, rfl, h2, fun _ _ _ => rfl, rfl⟩
  | succ k ih =>
    intro p n S hp hn hT h2
    obtain ⟨m, rfl⟩ : ∃ m, n = m + 1 := ⟨n - 1, by omega⟩
    have hc := ht.2 p (by omega)
    have hch : S.1 2 (nI p).toNatClampNeg = nI (t.2 p) := by rw [nI_clamp (by omega)]; exact hT.2 p (by omega)
    rw [q_X7_readToken_0, hT.1, h2, if_neg (by rw [leN (by omega) (by omega)]; omega), if_pos (show vin (nI p) 150 from (vin_t (by omega)).mpr trivial), hch, skp]
    by_cases e : t.2 p = 32
    · rw [if_pos (show nI (t.2 p) = (32 : Int32) by rw [e]; rfl), if_pos e, show nI p + (1 : Int32) = nI (p + 1) from nI_add p 1]
      obtain ⟨U, q1, q2, q3, q4⟩ := ih (p + 1) m (sI S 1 2 (nI (p + 1))) (by omega) (by omega) (hT.cg (fun j => sI_ne (by omega)) (sI_ne (by omega))) (sI_eq ⟨rfl, rfl⟩)
      exact ⟨U, q1, q2, fun a j q => by rw [q3 a j q, sI_ne (by omega)], q4⟩
    · rw [if_neg (show ¬ nI (t.2 p) = (32 : Int32) by show ¬ nI (t.2 p) = nI 32; rw [eqN (by omega) (by omega)]; exact e), if_neg e]
      exact ⟨S, rfl, h2, fun _ _ _ => rfl, rfl⟩
theorem tokC (ht : WT t) {p : Nat} (hp : p ≤ t.1) (hT : RT t S) (h2 : S.1 1 2 = nI p) : ∃ S', p_X7_readToken S = some S' ∧ S'.1 1 2 = nI (tok t p).2.2.2 ∧ S'.1 1 3 = nI (tok t p).2.2.1 ∧ S'.1 1 4 = ctk (tok t p) ∧ ((tok t p).1 = 2 → S'.1 1 5 = nI (tok t p).2.1) ∧ (∀ a j, ¬ (a = 1 ∧ (j = 2 ∨ j = 3 ∨ j = 4 ∨ j = 5)) → S'.1 a j = S.1 a j) ∧ S'.2 = S.2 := by
  have hL := ht.1
  obtain ⟨U, q1, q2, q3, q4⟩ := tc_0 ht (t.1 - p) p FU S (by omega) (FU_gt (by omega)) hT h2
  have hs := skp_in t (t.1 - p) p
  unfold p_X7_readToken
  rw [q1]
  unfold tok
  generalize skp t (t.1 - p) p = s at q2 hs ⊢
  have hTU : RT t U := hT.cg (fun j => q3 2 j (by omega)) (q3 1 1 (by omega))
  -- the start is kept
  obtain ⟨V, hV⟩ : ∃ V, V = sI U 1 3 (nI s) := ⟨_, rfl⟩
  have v2 : V.1 1 2 = nI s := by rw [hV, sI_ne (by omega)]; exact q2
  have v3 : V.1 1 3 = nI s := by rw [hV, sI_eq ⟨rfl, rfl⟩]
  have vT : RT t V := by rw [hV]; exact hTU.cg (fun j => sI_ne (by omega)) (sI_ne (by omega))
  have vf : ∀ a j, ¬ (a = 1 ∧ (j = 2 ∨ j = 3)) → V.1 a j = S.1 a j := fun a j q => by rw [hV, sI_ne (by omega), q3 a j (by omega)]
  have vl : V.2 = S.2 := by rw [hV]; exact q4
  unfold q_X7_readToken_38
  rw [q2, ← hV, v2, vT.1]
  by_cases e1 : t.1 ≤ s
  · rw [if_neg (by rw [ltN (by omega) (by omega)]; omega)]
    simp only [e1, if_true]
    exact ⟨_, rfl, (sI_ne (by omega)).trans v2, (sI_ne (by omega)).trans v3, (sI_eq ⟨rfl, rfl⟩).trans rfl, fun q => absurd q (by decide), fun a j q => by rw [sI_ne (by omega), vf a j (by omega)], vl⟩
  · have hc := ht.2 s (by omega)
    have hch : V.1 2 (nI s).toNatClampNeg = nI (t.2 s) := by rw [nI_clamp (by omega)]; exact vT.2 s (by omega)
    obtain ⟨X, hX⟩ : ∃ X, X = sI V 1 2 (nI (s + 1)) := ⟨_, rfl⟩
    have x2 : X.1 1 2 = nI (s + 1) := by rw [hX, sI_eq ⟨rfl, rfl⟩]
    have x3 : X.1 1 3 = nI s := by rw [hX, sI_ne (by omega)]; exact v3
    have xT : RT t X := by rw [hX]; exact vT.cg (fun j => sI_ne (by omega)) (sI_ne (by omega))
    have xf : ∀ a j, ¬ (a = 1 ∧ (j = 2 ∨ j = 3)) → X.1 a j = S.1 a j := fun a j q => by rw [hX, sI_ne (by omega), vf a j q]
    have xl : X.2 = S.2 := by rw [hX]; exact vl
    rw [if_pos (by rw [ltN (by omega) (by omega)]; omega), if_pos (show vin (nI s) 150 from (vin_t (by omega)).mpr trivial), hch, show nI s + (1 : Int32) = nI (s + 1) from nI_add s 1, ← hX, isDig (by omega), Option.bind_some, if_neg e1]
    show ∃ S', (if nI (bN (isD (t.2 s))) = (0 : Int32) then Option.bind (p_X7_isSign (nI (t.2 s)) X) (fun q92 => (if q92.1 = 0 then some (sI q92.2 1 4 (-3 : Int32)) else some (sI q92.2 1 4 (nI (t.2 s))))) else q_X7_readToken_118 FU (0 : Int32) (sI X 1 5 (nI (t.2 s) - (48 : Int32)))) = some S' ∧ _
    cases eD : isD (t.2 s) with
    | true =>
      have hd : 48 ≤ t.2 s ∧ t.2 s ≤ 57 := by
        unfold isD at eD
        rw [Bool.and_eq_true, decide_eq_true_eq, decide_eq_true_eq] at eD
        exact eD
      have hm : mn (t.2 s - 48) = t.2 s - 48 := if_pos (by omega)
      rw [if_neg (show ¬ nI (bN true) = (0 : Int32) by decide), if_pos rfl]
      have er : run t (t.1 - s) s 0 = run t (t.1 - s - 1) (s + 1) (t.2 s - 48) := by
        rw [show t.1 - s = (t.1 - s - 1) + 1 by omega, run, eD, if_pos rfl, if_pos (by decide), Nat.mul_zero, Nat.zero_add, Nat.add_sub_cancel]
      rw [er]
      have ri := run_in t (t.1 - s - 1) (s + 1) (t.2 s - 48)
      obtain ⟨S', r1, r2, r3, r4, r5, r6⟩ := tc_118 ht (t.1 - s - 1) (s + 1) (t.2 s - 48) FU false (sI X 1 5 (nI (t.2 s - 48))) (by omega) (FU_gt (by omega)) (xT.cg (fun j => sI_ne (by omega)) (sI_ne (by omega))) ((sI_ne (by omega)).trans x2) ((sI_eq ⟨rfl, rfl⟩).trans (by rw [hm]))
      generalize run t (t.1 - s - 1) (s + 1) (t.2 s - 48) = r at ri r2 r3 r4 ⊢
      have e48 : nI (t.2 s) - (48 : Int32) = nI (t.2 s - 48) := nI_subN (b := 48) hd.1
      rw [e48]
      refine ⟨S', r1, r2, ?_, ?_, ?_, fun a j q => by rw [r5 a j (by omega), sI_ne (by omega), xf a j (by omega)], r6.trans xl⟩
      · rw [r5 1 3 (by omega), sI_ne (by omega)]; exact x3
      · rw [r4, Bool.false_or]
        have c1 : (decide (t.2 s - 48 = 0) && decide (s + 1 < r.1)) = decide (t.2 s = 48 ∧ 1 < r.1 - s) := by
          rw [Bool.eq_iff_iff, Bool.and_eq_true, decide_eq_true_eq, decide_eq_true_eq, decide_eq_true_eq]
          omega
        rw [c1]
        show _ = ctk (if 99 < r.2 then 4 else if t.2 s = 48 ∧ 1 < r.1 - s then 4 else 2, r.2, s, r.1)
        unfold ctk
        by_cases a1 : 99 < r.2
        · simp only [a1, if_true]
          by_cases a2 : t.2 s = 48 ∧ 1 < r.1 - s
          · rw [decide_eq_true a2]; rfl
          · rw [decide_eq_false a2]; rfl
        · simp only [a1, if_false]
          by_cases a2 : t.2 s = 48 ∧ 1 < r.1 - s
          · rw [decide_eq_true a2, if_pos a2]; rfl
          · rw [decide_eq_false a2, if_neg a2]; rfl
      · intro q
        rw [r3]
        show nI (mn r.2) = nI r.2
        have : ¬ 99 < r.2 := fun a1 => by
          simp only [a1, if_true] at q
          exact absurd q (by decide)
        rw [show mn r.2 = r.2 from if_pos (by omega)]
    | false =>
      rw [if_pos (show nI (bN false) = (0 : Int32) from rfl), isSig (by omega), Option.bind_some, if_neg Bool.false_ne_true]
      show ∃ S', (if nI (bN (decide (t.2 s = 110 ∨ t.2 s = 100 ∨ t.2 s = 98 ∨ t.2 s = 115 ∨ t.2 s = 59))) = (0 : Int32) then some (sI X 1 4 (-3 : Int32)) else some (sI X 1 4 (nI (t.2 s)))) = some S' ∧ _
      have gen : ∀ (w : Int32) (q : Nat × Nat × Nat × Nat), q.2.2.2 = s + 1 → q.2.2.1 = s → ctk q = w → q.1 ≠ 2 → (sI X 1 4 w).1 1 2 = nI q.2.2.2 ∧ (sI X 1 4 w).1 1 3 = nI q.2.2.1 ∧ (sI X 1 4 w).1 1 4 = ctk q ∧ (q.1 = 2 → (sI X 1 4 w).1 1 5 = nI q.2.1) ∧ (∀ a j, ¬ (a = 1 ∧ (j = 2 ∨ j = 3 ∨ j = 4 ∨ j = 5)) → (sI X 1 4 w).1 a j = S.1 a j) ∧ (sI X 1 4 w).2 = S.2 := fun w q h1 h2 h3 h4 => ⟨by rw [h1, sI_ne (by omega)]; exact x2, by rw [h2, sI_ne (by omega)]; exact x3, by rw [h3]; exact sI_eq ⟨rfl, rfl⟩, fun h => absurd h h4, fun a j h => by rw [sI_ne (by omega), xf a j (by omega)], xl⟩
      by_cases a59 : t.2 s = 59
      · rw [decide_eq_true (by omega), if_neg (show ¬ nI (bN true) = (0 : Int32) by decide), if_pos a59, a59]
        exact ⟨_, rfl, gen (nI 59) (3, 59, s, s + 1) rfl rfl rfl (show (3 : Nat) ≠ 2 by decide)⟩
      · rw [if_neg a59]
        by_cases al : t.2 s = 110 ∨ t.2 s = 100 ∨ t.2 s = 98 ∨ t.2 s = 115
        · rw [decide_eq_true (by omega), if_neg (show ¬ nI (bN true) = (0 : Int32) by decide), if_pos al]
          exact ⟨_, rfl, gen (nI (t.2 s)) (1, t.2 s, s, s + 1) rfl rfl rfl (show (1 : Nat) ≠ 2 by decide)⟩
        · rw [decide_eq_false (by omega), if_pos (show nI (bN false) = (0 : Int32) from rfl), if_neg al]
          exact ⟨_, rfl, gen (-3) (4, t.2 s, s, s + 1) rfl rfl rfl (show (4 : Nat) ≠ 2 by decide)⟩
-- the reference, one token at a time
theorem letA (ht : WT t) (hT : MT t S) (p : Nat) (hp : p < 1000) : p_X10_letterAt (nI p) S = some (if p < t.1 then nI (t.2 p) else -1, S) := by
  have hL := ht.1
  unfold p_X10_letterAt
  rw [hT.1]
  by_cases e : p < t.1
  · rw [if_neg (by rw [leN (by omega) (by omega)]; omega), if_pos (show vin (nI p) 150 from (vin_t (by omega)).mpr trivial), nI_clamp (by omega), if_pos e, hT.2 p e]
  · rw [if_pos (by rw [leN (by omega) (by omega)]; omega), if_neg e]
theorem inD {x : Nat} (h : x < 1000) (S : St) : p_X10_in (nI x) (48 : Int32) (57 : Int32) S = some (nI (bN (isD x)), S) := by
  rw [inb_m]
  congr 4
  unfold inb isD
  rw [show decide (nI x < (48 : Int32)) = decide (x < 48) from decide_eq_decide.mpr (show nI x < nI 48 ↔ _ from nI_ltI (by omega) (by decide)), show decide ((57 : Int32) < nI x) = decide (57 < x) from decide_eq_decide.mpr (show nI 57 < nI x ↔ _ from nI_ltI (by decide) (by omega))]
  by_cases h1 : x < 48
  · rw [decide_eq_true h1, decide_eq_false (show ¬ 48 ≤ x by omega)]; rfl
  · rw [decide_eq_false h1, decide_eq_true (show 48 ≤ x by omega)]
    by_cases h2 : 57 < x
    · rw [decide_eq_true h2, decide_eq_false (show ¬ x ≤ 57 by omega)]; rfl
    · rw [decide_eq_false h2, decide_eq_true (show x ≤ 57 by omega)]; rfl
theorem inM (S : St) : p_X10_in (-1 : Int32) (48 : Int32) (57 : Int32) S = some (nI (bN false), S) := by
  rw [inb_m]
  rfl
theorem run_v (t : Txt) (ht : WT t) : ∀ k p v, p + k ≤ t.1 → v ≤ 999 → (run t k p v).2 ≤ 999
  | 0, p, v, _, h => h
  | k + 1, p, v, hp, h => by
    rw [run]
    by_cases e : isD (t.2 p) = true
    · rw [if_pos e]
      have hd : 48 ≤ t.2 p ∧ t.2 p ≤ 57 := by
        unfold isD at e
        rw [Bool.and_eq_true, decide_eq_true_eq, decide_eq_true_eq] at e
        exact e
      exact run_v t ht k (p + 1) _ (by omega) (by split <;> omega)
    · rw [if_neg e]; exact h
theorem tm_71 (ht : WT t) {s : Nat} (hs : s < t.1) : ∀ (k p v n : Nat) (S : St), p + k = t.1 → k < n → s ≤ p → v ≤ 999 → MT t S → S.1 99 4 = nI p → S.1 99 6 = nI s → S.1 99 7 = nI v → ∃ S', q_X10_advances_71 n (nI (t.2 s)) S = some S' ∧ S'.1 99 4 = nI (run t k p v).1 ∧ S'.1 99 7 = nI (run t k p v).2 ∧ S'.1 99 5 = nI (if 99 < (run t k p v).2 then 4 else if t.2 s = 48 ∧ 1 < (run t k p v).1 - s then 4 else 2) ∧ (∀ a j, ¬ (a = 99 ∧ (j = 4 ∨ j = 5 ∨ j = 7)) → S'.1 a j = S.1 a j) ∧ S'.2 = S.2 := by
  have hL := ht.1
  have hcs := ht.2 s hs
  have fin : ∀ (p v n : Nat) (S : St), p ≤ t.1 → s ≤ p → v ≤ 999 → MT t S → S.1 99 4 = nI p → S.1 99 6 = nI s → S.1 99 7 = nI v → (p < t.1 → isD (t.2 p) = false) → ∃ S', q_X10_advances_71 (n + 1) (nI (t.2 s)) S = some S' ∧ S'.1 99 4 = nI p ∧ S'.1 99 7 = nI v ∧ S'.1 99 5 = nI (if 99 < v then 4 else if t.2 s = 48 ∧ 1 < p - s then 4 else 2) ∧ (∀ a j, ¬ (a = 99 ∧ (j = 4 ∨ j = 5 ∨ j = 7)) → S'.1 a j = S.1 a j) ∧ S'.2 = S.2 := by
    intro p v n S hp hsp hv hT h4 h6 h7 hd
    have hin : p_X10_in (if p < t.1 then nI (t.2 p) else -1) (48 : Int32) (57 : Int32) S = some (nI (bN false), S) := by
      by_cases e : p < t.1
      · rw [if_pos e, inD (by have := ht.2 p e; omega), hd e]
      · rw [if_neg e]; exact inM S
    have g : ∀ w : Nat, ∃ S', some (sI S 99 5 (nI w)) = some S' ∧ S'.1 99 4 = nI p ∧ S'.1 99 7 = nI v ∧ S'.1 99 5 = nI w ∧ (∀ a j, ¬ (a = 99 ∧ (j = 4 ∨ j = 5 ∨ j = 7)) → S'.1 a j = S.1 a j) ∧ S'.2 = S.2 := fun w => ⟨_, rfl, (sI_ne (by omega)).trans h4, (sI_ne (by omega)).trans h7, sI_eq ⟨rfl, rfl⟩, fun a j q => sI_ne (by omega), rfl⟩
    rw [q_X10_advances_71, h4, letA ht hT p (by omega), Option.bind_some]
    show ∃ S', Option.bind (p_X10_in (if p < t.1 then nI (t.2 p) else -1) (48 : Int32) (57 : Int32) S) _ = some S' ∧ _
    rw [hin, Option.bind_some]
    show ∃ S', (if nI (bN false) = (0 : Int32) then (if (99 : Int32) < (S.1 99 7) then some (sI S 99 5 (4 : Int32)) else (if nI (t.2 s) = (48 : Int32) then (if ((S.1 99 4) - (S.1 99 6)) ≤ (1 : Int32) then some (sI S 99 5 (2 : Int32)) else some (sI S 99 5 (4 : Int32))) else some (sI S 99 5 (2 : Int32)))) else _) = some S' ∧ _
    rw [if_pos (show nI (bN false) = (0 : Int32) from rfl), h7, h4, h6, nI_subN hsp]
    by_cases a1 : 99 < v
    · rw [if_pos (show (99 : Int32) < nI v from (show nI 99 < nI v ↔ _ from nI_ltI (by decide) (by omega)).mpr a1), if_pos a1]
      exact g 4
    · rw [if_neg (show ¬ (99 : Int32) < nI v from fun q => a1 ((show nI 99 < nI v ↔ _ from nI_ltI (by decide) (by omega)).mp q)), if_neg a1]
      have z48 : (nI (t.2 s) = (48 : Int32)) ↔ t.2 s = 48 := show (nI (t.2 s) = nI 48) ↔ _ from nI_eq (by omega) (by decide)
      by_cases a2 : t.2 s = 48
      · rw [if_pos (z48.mpr a2)]
        have zl : (nI (p - s) ≤ (1 : Int32)) ↔ p - s ≤ 1 := show (nI (p - s) ≤ nI 1) ↔ _ from nI_leI (by omega) (by decide)
        by_cases a3 : p - s ≤ 1
        · rw [if_pos (zl.mpr a3), if_neg (by omega)]
          exact g 2
        · rw [if_neg (fun q => a3 (zl.mp q)), if_pos (by omega)]
          exact g 4
      · rw [if_neg (fun q => a2 (z48.mp q)), if_neg (by omega)]
        exact g 2
  intro k
  induction k with
  | zero =>
    intro p v n S hp hn hsp hv hT h4 h6 h7
    obtain ⟨m, rfl⟩ : ∃ m, n = m + 1 := ⟨n - 1, by omega⟩
    exact fin p v m S (by omega) hsp hv hT h4 h6 h7 (fun q => absurd q (by omega))
  | succ k ih =>
    intro p v n S hp hn hsp hv hT h4 h6 h7
    obtain ⟨m, rfl⟩ : ∃ m, n = m + 1 := ⟨n - 1, by omega⟩
    have hc := ht.2 p (by omega)
    cases eD : isD (t.2 p) with
    | false =>
      have er : run t (k + 1) p v = (p, v) := by rw [run, eD, if_neg (by decide)]
      rw [er]
      exact fin p v m S (by omega) hsp hv hT h4 h6 h7 (fun _ => eD)
    | true =>
      have hd : 48 ≤ t.2 p ∧ t.2 p ≤ 57 := by
        unfold isD at eD
        rw [Bool.and_eq_true, decide_eq_true_eq, decide_eq_true_eq] at eD
        exact eD
      have er : run t (k + 1) p v = run t k (p + 1) (if v ≤ 99 then 10 * v + t.2 p - 48 else v) := by rw [run, eD, if_pos rfl]
      rw [er]
      have hlet : p_X10_letterAt (nI p) S = some (nI (t.2 p), S) := by rw [letA ht hT p (by omega), if_pos (by omega)]
      rw [q_X10_advances_71, h4, hlet, Option.bind_some]
      show ∃ S', Option.bind (p_X10_in (nI (t.2 p)) (48 : Int32) (57 : Int32) S) _ = some S' ∧ _
      rw [inD (by omega), eD, Option.bind_some]
      show ∃ S', (if nI (bN true) = (0 : Int32) then _ else (if (S.1 99 7) ≤ (99 : Int32) then Option.bind (p_X10_letterAt (S.1 99 4) S) (fun q118 => q_X10_advances_125 (q_X10_advances_71 m) (nI (t.2 s)) ((((10 : Int32) * (S.1 99 7)) + q118.1) - (48 : Int32)) q118.2) else q_X10_advances_125 (q_X10_advances_71 m) (nI (t.2 s)) (S.1 99 7) S)) = some S' ∧ _
      rw [if_neg (show ¬ nI (bN true) = (0 : Int32) by decide), h7, h4, hlet, Option.bind_some]
      have adv : ∀ w : Nat, w ≤ 999 → ∃ S', q_X10_advances_125 (q_X10_advances_71 m) (nI (t.2 s)) (nI w) S = some S' ∧ S'.1 99 4 = nI (run t k (p + 1) w).1 ∧ S'.1 99 7 = nI (run t k (p + 1) w).2 ∧ S'.1 99 5 = nI (if 99 < (run t k (p + 1) w).2 then 4 else if t.2 s = 48 ∧ 1 < (run t k (p + 1) w).1 - s then 4 else 2) ∧ (∀ a j, ¬ (a = 99 ∧ (j = 4 ∨ j = 5 ∨ j = 7)) → S'.1 a j = S.1 a j) ∧ S'.2 = S.2 := by
        intro w hw
        obtain ⟨S', q1, q2, q3, q4, q5, q6⟩ := ih (p + 1) w m (sI (sI S 99 7 (nI w)) 99 4 (nI (p + 1))) (by omega) (by omega) (by omega) hw (hT.cg (by rw [sI_ne (by omega), sI_ne (by omega)]) (fun j => by rw [sI_ne (by omega), sI_ne (by omega)])) (sI_eq ⟨rfl, rfl⟩) (by rw [sI_ne (by omega), sI_ne (by omega)]; exact h6) (by rw [sI_ne (by omega)]; exact sI_eq ⟨rfl, rfl⟩)
        refine ⟨S', ?_, q2, q3, q4, fun a j q => by rw [q5 a j q, sI_ne (by omega), sI_ne (by omega)], q6⟩
        unfold q_X10_advances_125
        rw [show (sI S 99 7 (nI w)).1 99 4 = nI p from (sI_ne (by omega)).trans h4, show nI p + (1 : Int32) = nI (p + 1) from nI_add p 1]
        exact q1
      show ∃ S', (if nI v ≤ (99 : Int32) then q_X10_advances_125 (q_X10_advances_71 m) (nI (t.2 s)) ((((10 : Int32) * nI v) + nI (t.2 p)) - (48 : Int32)) S else q_X10_advances_125 (q_X10_advances_71 m) (nI (t.2 s)) (nI v) S) = some S' ∧ _
      have zl : (nI v ≤ (99 : Int32)) ↔ v ≤ 99 := show (nI v ≤ nI 99) ↔ _ from nI_leI (by omega) (by decide)
      by_cases e : v ≤ 99
      · rw [if_pos (zl.mpr e), if_pos e, show (((10 : Int32) * nI v) + nI (t.2 p)) - (48 : Int32) = nI (10 * v + t.2 p - 48) from by
          show (nI 10 * nI v + nI (t.2 p)) - nI 48 = _
          rw [mulN, nI_add, nI_subN (by omega)]]
        exact adv _ (by omega)
      · rw [if_neg (fun q => e (zl.mp q)), if_neg e]
        exact adv v hv
end TOK
