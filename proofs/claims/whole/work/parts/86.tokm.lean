-- TOKENS: the reference advances
section TOM
variable {t : Txt} {S : St}
theorem isLet {x : Nat} (h : x < 1000) (S : St) : p_X10_isLetter (nI x) S = some (nI (bN (decide (x = 110 ∨ x = 100 ∨ x = 98 ∨ x = 115))), S) := by
  unfold p_X10_isLetter
  simp (disch := omega) only [fa_lit, eqN]
  by_cases h1 : x = 110
  · rw [if_pos h1, decide_eq_true (by omega)]; rfl
  · rw [if_neg h1]
    by_cases h2 : x = 100
    · rw [if_pos h2, decide_eq_true (by omega)]; rfl
    · rw [if_neg h2]
      by_cases h3 : x = 98
      · rw [if_pos h3, decide_eq_true (by omega)]; rfl
      · rw [if_neg h3]
        by_cases h4 : x = 115
        · rw [if_pos h4, decide_eq_true (by omega)]; rfl
        · rw [if_neg h4, decide_eq_false (by omega)]; rfl
/-- what the reference holds of a token -/
def TM (q : Nat × Nat × Nat × Nat) (S : St) : Prop := S.1 99 4 = nI q.2.2.2 ∧ S.1 99 5 = nI q.1 ∧ S.1 99 6 = nI q.2.2.1 ∧ (q.1 = 1 ∨ q.1 = 2 ∨ q.1 = 3 → S.1 99 7 = nI q.2.1)
theorem tm_body (ht : WT t) {s m : Nat} (hs : s ≤ t.1) (hns : s < t.1 → t.2 s ≠ 32) (hT : MT t S) (h4 : S.1 99 4 = nI s) : ∃ S', q_X10_advances_0 (m + 1) S = some S' ∧ TM (if t.1 ≤ s then (0, 0, s, s) else if isD (t.2 s) then (if 99 < (run t (t.1 - s) s 0).2 then 4 else if t.2 s = 48 ∧ 1 < (run t (t.1 - s) s 0).1 - s then 4 else 2, (run t (t.1 - s) s 0).2, s, (run t (t.1 - s) s 0).1) else if t.2 s = 59 then (3, 59, s, s + 1) else if t.2 s = 110 ∨ t.2 s = 100 ∨ t.2 s = 98 ∨ t.2 s = 115 then (1, t.2 s, s, s + 1) else (4, t.2 s, s, s + 1)) S' ∧ (∀ a j, ¬ (a = 99 ∧ (j = 4 ∨ j = 5 ∨ j = 6 ∨ j = 7)) → S'.1 a j = S.1 a j) ∧ S'.2 = S.2 := by
  have hL := ht.1
  obtain ⟨V, hV⟩ : ∃ V, V = sI S 99 6 (nI s) := ⟨_, rfl⟩
  have v4 : V.1 99 4 = nI s := by rw [hV, sI_ne (by omega)]; exact h4
  have v6 : V.1 99 6 = nI s := by rw [hV, sI_eq ⟨rfl, rfl⟩]
  have vT : MT t V := by rw [hV]; exact hT.cg (sI_ne (by omega)) (fun j => sI_ne (by omega))
  have vf : ∀ a j, ¬ (a = 99 ∧ j = 6) → V.1 a j = S.1 a j := fun a j q => by rw [hV, sI_ne (by omega)]
  have vl : V.2 = S.2 := by rw [hV]; rfl
  rw [q_X10_advances_0, h4, letA ht hT s (by omega), Option.bind_some]
  show ∃ S', (if (if s < t.1 then nI (t.2 s) else -1) = (32 : Int32) then q_X10_advances_0 m (sI S 99 4 ((S.1 99 4) + (1 : Int32))) else Option.bind (p_X10_letterAt ((sI S 99 6 (S.1 99 4)).1 99 4) (sI S 99 6 (S.1 99 4))) (fun q39 => (if 0 ≤ q39.1 then Option.bind (p_X10_in q39.1 (48 : Int32) (57 : Int32) q39.2) (fun q60 => (if q60.1 = 0 then (if q39.1 = (59 : Int32) then some (sI (sI (sI q60.2 99 4 ((q60.2.1 99 4) + (1 : Int32))) 99 7 q39.1) 99 5 (3 : Int32)) else Option.bind (p_X10_isLetter q39.1 (sI (sI q60.2 99 4 ((q60.2.1 99 4) + (1 : Int32))) 99 7 q39.1)) (fun q208 => (if q208.1 = 0 then some (sI q208.2 99 5 (4 : Int32)) else some (sI q208.2 99 5 (1 : Int32))))) else q_X10_advances_71 FU q39.1 (sI q60.2 99 7 (0 : Int32)))) else some (sI q39.2 99 5 (0 : Int32))))) = some S' ∧ _
  have n32 : ¬ (if s < t.1 then nI (t.2 s) else -1) = (32 : Int32) := by
    by_cases e : s < t.1
    · rw [if_pos e]
      show ¬ nI (t.2 s) = nI 32
      rw [eqN (by have := ht.2 s e; omega) (by omega)]
      exact hns e
    · rw [if_neg e]; decide
  rw [if_neg n32, h4, ← hV, v4, letA ht vT s (by omega), Option.bind_some]
  by_cases e : s < t.1
  · have hc := ht.2 s e
    rw [if_pos e, if_neg (show ¬ t.1 ≤ s by omega)]
    show ∃ S', (if (0 : Int32) ≤ nI (t.2 s) then Option.bind (p_X10_in (nI (t.2 s)) (48 : Int32) (57 : Int32) V) (fun q60 => (if q60.1 = 0 then (if nI (t.2 s) = (59 : Int32) then some (sI (sI (sI q60.2 99 4 ((q60.2.1 99 4) + (1 : Int32))) 99 7 (nI (t.2 s))) 99 5 (3 : Int32)) else Option.bind (p_X10_isLetter (nI (t.2 s)) (sI (sI q60.2 99 4 ((q60.2.1 99 4) + (1 : Int32))) 99 7 (nI (t.2 s)))) (fun q208 => (if q208.1 = 0 then some (sI q208.2 99 5 (4 : Int32)) else some (sI q208.2 99 5 (1 : Int32))))) else q_X10_advances_71 FU (nI (t.2 s)) (sI q60.2 99 7 (0 : Int32)))) else _) = some S' ∧ _
    rw [if_pos (show (0 : Int32) ≤ nI (t.2 s) from (show nI 0 ≤ nI (t.2 s) ↔ _ from nI_leI (by decide) (by omega)).mpr (Nat.zero_le _)), inD (by omega), Option.bind_some]
    cases eD : isD (t.2 s) with
    | true =>
      show ∃ S', (if nI (bN true) = (0 : Int32) then _ else q_X10_advances_71 FU (nI (t.2 s)) (sI V 99 7 (0 : Int32))) = some S' ∧ _
      rw [if_neg (show ¬ nI (bN true) = (0 : Int32) by decide), if_pos rfl]
      obtain ⟨S', q1, q2, q3, q4, q5, q6⟩ := tm_71 ht e (t.1 - s) s 0 FU (sI V 99 7 (nI 0)) (by omega) (FU_gt (by omega)) (Nat.le_refl _) (by decide) (vT.cg (sI_ne (by omega)) (fun j => sI_ne (by omega))) ((sI_ne (by omega)).trans v4) ((sI_ne (by omega)).trans v6) (sI_eq ⟨rfl, rfl⟩)
      exact ⟨S', q1, ⟨q2, q4, by rw [q5 99 6 (by omega), sI_ne (by omega)]; exact v6, fun _ => q3⟩, fun a j q => by rw [q5 a j (by omega), sI_ne (by omega), vf a j (by omega)], q6.trans vl⟩
    | false =>
      obtain ⟨X, hX⟩ : ∃ X, X = sI (sI V 99 4 (nI (s + 1))) 99 7 (nI (t.2 s)) := ⟨_, rfl⟩
      have x4 : X.1 99 4 = nI (s + 1) := by rw [hX, sI_ne (by omega)]; exact sI_eq ⟨rfl, rfl⟩
      have x6 : X.1 99 6 = nI s := by rw [hX, sI_ne (by omega), sI_ne (by omega)]; exact v6
      have x7 : X.1 99 7 = nI (t.2 s) := by rw [hX]; exact sI_eq ⟨rfl, rfl⟩
      have xf : ∀ a j, ¬ (a = 99 ∧ (j = 4 ∨ j = 6 ∨ j = 7)) → X.1 a j = S.1 a j := fun a j q => by rw [hX, sI_ne (by omega), sI_ne (by omega), vf a j (by omega)]
      have xl : X.2 = S.2 := by rw [hX]; exact vl
      have gen : ∀ (w : Nat) (q : Nat × Nat × Nat × Nat), q.2.2.2 = s + 1 → q.2.2.1 = s → q.1 = w → q.2.1 = t.2 s → TM q (sI X 99 5 (nI w)) ∧ (∀ a j, ¬ (a = 99 ∧ (j = 4 ∨ j = 5 ∨ j = 6 ∨ j = 7)) → (sI X 99 5 (nI w)).1 a j = S.1 a j) ∧ (sI X 99 5 (nI w)).2 = S.2 := fun w q h1 h2 h3 h4 => ⟨⟨by rw [h1, sI_ne (by omega)]; exact x4, by rw [h3]; exact sI_eq ⟨rfl, rfl⟩, by rw [h2, sI_ne (by omega)]; exact x6, fun _ => by rw [h4, sI_ne (by omega)]; exact x7⟩, fun a j h => by rw [sI_ne (by omega), xf a j (by omega)], xl⟩
      show ∃ S', (if nI (bN false) = (0 : Int32) then (if nI (t.2 s) = (59 : Int32) then some (sI (sI (sI V 99 4 ((V.1 99 4) + (1 : Int32))) 99 7 (nI (t.2 s))) 99 5 (3 : Int32)) else Option.bind (p_X10_isLetter (nI (t.2 s)) (sI (sI V 99 4 ((V.1 99 4) + (1 : Int32))) 99 7 (nI (t.2 s)))) (fun q208 => (if q208.1 = 0 then some (sI q208.2 99 5 (4 : Int32)) else some (sI q208.2 99 5 (1 : Int32))))) else _) = some S' ∧ _
      rw [if_pos (show nI (bN false) = (0 : Int32) from rfl), v4, show nI s + (1 : Int32) = nI (s + 1) from nI_add s 1, ← hX, if_neg Bool.false_ne_true]
      have z59 : (nI (t.2 s) = (59 : Int32)) ↔ t.2 s = 59 := show (nI (t.2 s) = nI 59) ↔ _ from nI_eq (by omega) (by decide)
      by_cases a59 : t.2 s = 59
      · rw [if_pos (z59.mpr a59), if_pos a59]
        exact ⟨_, rfl, gen 3 (3, 59, s, s + 1) rfl rfl rfl a59.symm⟩
      · rw [if_neg (fun q => a59 (z59.mp q)), if_neg a59, isLet (by omega), Option.bind_some]
        show ∃ S', (if nI (bN (decide (t.2 s = 110 ∨ t.2 s = 100 ∨ t.2 s = 98 ∨ t.2 s = 115))) = (0 : Int32) then some (sI X 99 5 (4 : Int32)) else some (sI X 99 5 (1 : Int32))) = some S' ∧ _
        by_cases al : t.2 s = 110 ∨ t.2 s = 100 ∨ t.2 s = 98 ∨ t.2 s = 115
        · rw [decide_eq_true al, if_neg (show ¬ nI (bN true) = (0 : Int32) by decide), if_pos al]
          exact ⟨_, rfl, gen 1 (1, t.2 s, s, s + 1) rfl rfl rfl rfl⟩
        · rw [decide_eq_false al, if_pos (show nI (bN false) = (0 : Int32) from rfl), if_neg al]
          exact ⟨_, rfl, gen 4 (4, t.2 s, s, s + 1) rfl rfl rfl rfl⟩
  · rw [if_neg e, if_pos (show t.1 ≤ s by omega)]
    show ∃ S', (if (0 : Int32) ≤ (-1 : Int32) then _ else some (sI V 99 5 (0 : Int32))) = some S' ∧ _
    rw [if_neg (by decide)]
    exact ⟨_, rfl, ⟨(sI_ne (by omega)).trans v4, sI_eq ⟨rfl, rfl⟩, (sI_ne (by omega)).trans v6, fun q => absurd q (show ¬ ((0 : Nat) = 1 ∨ (0 : Nat) = 2 ∨ (0 : Nat) = 3) by decide)⟩, fun a j q => by rw [sI_ne (by omega), vf a j (by omega)], vl⟩
theorem tm_0 (ht : WT t) : ∀ (k p n : Nat) (S : St), p + k = t.1 → k < n → MT t S → S.1 99 4 = nI p → ∃ U m, q_X10_advances_0 n S = q_X10_advances_0 (m + 1) U ∧ U.1 99 4 = nI (skp t k p) ∧ (skp t k p < t.1 → t.2 (skp t k p) ≠ 32) ∧ (∀ a j, ¬ (a = 99 ∧ j = 4) → U.1 a j = S.1 a j) ∧ U.2 = S.2 := by
  have hL := ht.1
  intro k
  induction k with
  | zero =>
    intro p n S hp hn hT h4
    obtain ⟨m, rfl⟩ : ∃ m, n = m + 1 := ⟨n - 1, by omega⟩
    exact ⟨S, m, rfl, h4, fun q => absurd q (by show ¬ p < t.1; omega), fun _ _ _ => rfl, rfl⟩
  | succ k ih =>
    intro p n S hp hn hT h4
    obtain ⟨m, rfl⟩ : ∃ m, n = m + 1 := ⟨n - 1, by omega⟩
    have hc := ht.2 p (by omega)
    rw [skp]
    by_cases e : t.2 p = 32
    · rw [if_pos e]
      obtain ⟨U, m', q1, q2, q3, q4, q5⟩ := ih (p + 1) m (sI S 99 4 (nI (p + 1))) (by omega) (by omega) (hT.cg (sI_ne (by omega)) (fun j => sI_ne (by omega))) (sI_eq ⟨rfl, rfl⟩)
      refine ⟨U, m', ?_, q2, q3, fun a j q => by rw [q4 a j q, sI_ne (by omega)], q5⟩
      rw [q_X10_advances_0, h4, letA ht hT p (by omega), if_pos (by omega), Option.bind_some]
      show (if nI (t.2 p) = (32 : Int32) then q_X10_advances_0 m (sI S 99 4 ((S.1 99 4) + (1 : Int32))) else _) = _
      rw [if_pos (show nI (t.2 p) = (32 : Int32) by rw [e]; rfl), h4, show nI p + (1 : Int32) = nI (p + 1) from nI_add p 1]
      exact q1
    · rw [if_neg e]
      exact ⟨S, m, rfl, h4, fun _ => e, fun _ _ _ => rfl, rfl⟩
theorem tokM (ht : WT t) {p : Nat} (hp : p ≤ t.1) (hT : MT t S) (h4 : S.1 99 4 = nI p) : ∃ S', p_X10_advances S = some S' ∧ TM (tok t p) S' ∧ (∀ a j, ¬ (a = 99 ∧ (j = 4 ∨ j = 5 ∨ j = 6 ∨ j = 7)) → S'.1 a j = S.1 a j) ∧ S'.2 = S.2 := by
  have hL := ht.1
  have hs := skp_in t (t.1 - p) p
  obtain ⟨U, m, q1, q2, q3, q4, q5⟩ := tm_0 ht (t.1 - p) p FU S (by omega) (FU_gt (by omega)) hT h4
  obtain ⟨S', r1, r2, r3, r4⟩ := tm_body (S := U) (m := m) ht (s := skp t (t.1 - p) p) (by omega) q3 (hT.cg (q4 _ _ (by omega)) (fun j => q4 _ _ (by omega))) q2
  exact ⟨S', q1.trans r1, r2, fun a j q => (r3 a j q).trans (q4 a j (by omega)), r4.trans q5⟩
theorem tok_in (t : Txt) {p : Nat} (hp : p ≤ t.1) : (tok t p).2.2.2 ≤ t.1 ∧ (tok t p).2.2.1 ≤ t.1 ∧ p ≤ (tok t p).2.2.2 ∧ ((tok t p).1 ≠ 0 → p < (tok t p).2.2.2) ∧ (tok t p).1 ≤ 4 := by
  have hs := skp_in t (t.1 - p) p
  unfold tok
  generalize skp t (t.1 - p) p = s at hs
  by_cases e1 : t.1 ≤ s
  · rw [if_pos e1]
    exact ⟨by show s ≤ t.1; omega, by show s ≤ t.1; omega, hs.1, fun q => absurd rfl q, by show 0 ≤ 4; omega⟩
  · rw [if_neg e1]
    cases eD : isD (t.2 s) with
    | true =>
      have er : run t (t.1 - s) s 0 = run t (t.1 - s - 1) (s + 1) (if 0 ≤ 99 then 10 * 0 + t.2 s - 48 else 0) := by
        rw [show t.1 - s = (t.1 - s - 1) + 1 by omega, run, eD, if_pos rfl, Nat.add_sub_cancel]
      have hr := run_in t (t.1 - s - 1) (s + 1) (if 0 ≤ 99 then 10 * 0 + t.2 s - 48 else 0)
      rw [← er] at hr
      rw [if_pos rfl]
      refine ⟨by show (run t (t.1 - s) s 0).1 ≤ t.1; omega, by show s ≤ t.1; omega, by show p ≤ (run t (t.1 - s) s 0).1; omega, fun _ => by show p < (run t (t.1 - s) s 0).1; omega, ?_⟩
      show (if 99 < (run t (t.1 - s) s 0).2 then 4 else if t.2 s = 48 ∧ 1 < (run t (t.1 - s) s 0).1 - s then 4 else 2) ≤ 4
      split
      · omega
      · split <;> omega
    | false =>
      rw [if_neg Bool.false_ne_true]
      split
      · exact ⟨by show s + 1 ≤ t.1; omega, by show s ≤ t.1; omega, by show p ≤ s + 1; omega, fun _ => by show p < s + 1; omega, by show 3 ≤ 4; omega⟩
      · split
        · exact ⟨by show s + 1 ≤ t.1; omega, by show s ≤ t.1; omega, by show p ≤ s + 1; omega, fun _ => by show p < s + 1; omega, by show 1 ≤ 4; omega⟩
        · exact ⟨by show s + 1 ≤ t.1; omega, by show s ≤ t.1; omega, by show p ≤ s + 1; omega, fun _ => by show p < s + 1; omega, by show 4 ≤ 4; omega⟩
end TOM
