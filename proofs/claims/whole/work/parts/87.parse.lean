-- THE PARSE, and the class's reading of it
/-- a draft: places, doors, boys, step, is the step told; the doors; the boys -/
abbrev Dft : Type := (Nat × Nat × Nat × Nat × Nat) × ((Nat → Nat) × (Nat → Nat) × (Nat → Nat)) × ((Nat → Nat) × (Nat → Nat) × (Nat → Nat) × (Nat → Nat) × (Nat → Nat))
def d0 : Dft := ((2, 0, 0, 5, 0), (fun _ => 0, fun _ => 0, fun _ => 0), (fun _ => 0, fun _ => 0, fun _ => 0, fun _ => 0, fun _ => 0))
def nok (t : Txt) (p lo hi : Nat) : Bool := decide ((tok t p).1 = 2 ∧ lo ≤ (tok t p).2.1 ∧ (tok t p).2.1 ≤ hi)
def nB {β : Type} (t : Txt) (p lo hi : Nat) (k : Nat → Nat → Nat ⊕ β) : Nat ⊕ β := if nok t p lo hi then k (tok t p).2.1 (tok t p).2.2.2 else .inl (tok t p).2.2.1
def cls (t : Txt) (p : Nat) (D : Dft) : Nat ⊕ (Nat × Dft) := if (tok t p).1 = 3 then .inr ((tok t p).2.2.2, D) else .inl (tok t p).2.2.1
def addD (D : Dft) (a b c : Nat) : Dft := ((D.1.1, D.1.2.1 + 1, D.1.2.2), (pu1 D.2.1.1 D.1.2.1 a, pu1 D.2.1.2.1 D.1.2.1 b, pu1 D.2.1.2.2 D.1.2.1 c), D.2.2)
def addB (D : Dft) (lo hi ag br hm : Nat) : Dft := ((D.1.1, D.1.2.1, D.1.2.2.1 + 1, D.1.2.2.2), D.2.1, (pu1 D.2.2.1 D.1.2.2.1 lo, pu1 D.2.2.2.1 D.1.2.2.1 hi, pu1 D.2.2.2.2.1 D.1.2.2.1 ag, pu1 D.2.2.2.2.2.1 D.1.2.2.1 br, pu1 D.2.2.2.2.2.2 D.1.2.2.1 hm))
def itN (t : Txt) (p : Nat) (D : Dft) : Nat ⊕ (Nat × Dft) := nB t p 1 8 (fun v p1 => cls t p1 ((v, D.1.2), D.2))
def itS (t : Txt) (p : Nat) (D : Dft) : Nat ⊕ (Nat × Dft) := nB t p 0 40 (fun v p1 => cls t p1 ((D.1.1, D.1.2.1, D.1.2.2.1, v, 1), D.2))
def itD (t : Txt) (p : Nat) (D : Dft) : Nat ⊕ (Nat × Dft) := nB t p 0 (D.1.1 - 1) (fun a p1 => nB t p1 0 (D.1.1 - 1) (fun b p2 => if b = a then .inl (tok t p1).2.2.1 else nB t p2 0 40 (fun c p3 => cls t p3 (addD D a b c))))
def itB (t : Txt) (p : Nat) (D : Dft) : Nat ⊕ (Nat × Dft) := nB t p 0 40 (fun lo p1 => nB t p1 lo 40 (fun hi p2 => nB t p2 7 20 (fun ag p3 => nB t p3 7 20 (fun br p4 => nB t p4 0 (D.1.1 - 1) (fun hm p5 => cls t p5 (addB D lo hi ag br hm))))))
def item (t : Txt) (p x : Nat) (D : Dft) : Nat ⊕ (Nat × Dft) :=
  if (tok t p).1 = 1 then
    (if (tok t p).2.1 = 98 then (if 5 ≤ D.1.2.2.1 then .inl (tok t p).2.2.1 else itB t (tok t p).2.2.2 D)
    else if (tok t p).2.1 = 100 then (if 8 ≤ D.1.2.1 then .inl (tok t p).2.2.1 else itD t (tok t p).2.2.2 D)
    else if (tok t p).2.1 = 110 then (if x = 0 then itN t (tok t p).2.2.2 D else .inl (tok t p).2.2.1)
    else if D.1.2.2.2.2 = 0 then itS t (tok t p).2.2.2 D else .inl (tok t p).2.2.1)
  else .inl (tok t p).2.2.1
def prs (t : Txt) : Nat → Nat → Nat → Dft → Nat ⊕ (Nat × Dft)
  | 0, _, _, _ => .inl 0
  | n + 1, p, x, D => if (tok t p).1 = 0 then .inr (x, D) else match item t p x D with
    | .inl e => .inl e
    | .inr r => prs t n r.1 (x + 1) r.2
def WD (D : Dft) : Prop := 1 ≤ D.1.1 ∧ D.1.1 ≤ 8 ∧ D.1.2.1 ≤ 8 ∧ D.1.2.2.1 ≤ 5 ∧ D.1.2.2.2.1 ≤ 40 ∧ D.1.2.2.2.2 ≤ 1 ∧ (∀ d, d < D.1.2.1 → D.2.1.1 d < D.1.1 ∧ D.2.1.2.1 d < D.1.1 ∧ D.2.1.2.2 d ≤ 40) ∧ ∀ b, b < D.1.2.2.1 → D.2.2.2.2.2.2 b < D.1.1
def RD (D : Dft) (S : St) : Prop := S.1 12 0 = nI D.1.1 ∧ S.1 12 1 = nI D.1.2.1 ∧ S.1 12 2 = nI D.1.2.2.1 ∧ S.1 12 3 = nI D.1.2.2.2.1 ∧ S.1 1 6 = nI D.1.2.2.2.2 ∧ (∀ d, d < D.1.2.1 → S.1 13 d = nI (D.2.1.1 d) ∧ S.1 14 d = nI (D.2.1.2.1 d) ∧ S.1 15 d = nI (D.2.1.2.2 d)) ∧ ∀ b, b < D.1.2.2.1 → S.1 16 b = nI (D.2.2.1 b) ∧ S.1 17 b = nI (D.2.2.2.1 b) ∧ S.1 18 b = nI (D.2.2.2.2.1 b) ∧ S.1 19 b = nI (D.2.2.2.2.2.1 b) ∧ S.1 20 b = nI (D.2.2.2.2.2.2 b)
/-- what reading leaves of a class's state -/
def kR (S S' : St) : Prop := (∀ a j, ¬ (a = 1 ∧ j ≠ 1) → ¬ (12 ≤ a ∧ a ≤ 20) → S'.1 a j = S.1 a j) ∧ S'.2 = S.2
theorem kR.tr {S T U : St} (h : kR S T) (g : kR T U) : kR S U := ⟨fun a j q q' => (g.1 a j q q').trans (h.1 a j q q'), g.2.trans h.2⟩
theorem kR.rf (S : St) : kR S S := ⟨fun _ _ _ _ => rfl, rfl⟩
theorem kR.sI {S : St} {k i : Nat} {v : Int32} (h : 12 ≤ k ∧ k ≤ 20) : kR S (sI S k i v) := ⟨fun a j q q' => sI_ne (by omega), rfl⟩
theorem kR.RT {t : Txt} {S S' : St} (h : kR S S') (hT : RT t S) : RT t S' := hT.cg (fun j => h.1 _ _ (by omega) (by omega)) (h.1 _ _ (by omega) (by omega))
section PA
variable {t : Txt} {S : St}
theorem inN {v lo hi : Nat} (hv : v < 2000) (hl : lo < 2000) (hh : hi < 2000) (S : St) : p_X9_within (nI v) (nI lo) (nI hi) S = some (nI (bN (decide (lo ≤ v ∧ v ≤ hi))), S) := by
  rw [inb_if]
  congr 4
  unfold inb
  rw [show decide (nI v < nI lo) = decide (v < lo) from decide_eq_decide.mpr (nI_ltI (by omega) (by omega)), show decide (nI hi < nI v) = decide (hi < v) from decide_eq_decide.mpr (nI_ltI (by omega) (by omega))]
  rw [Bool.eq_iff_iff]
  simp only [Bool.not_eq_true', Bool.or_eq_false_iff, decide_eq_false_iff_not, decide_eq_true_eq]
  omega
theorem tok_v (ht : WT t) (p : Nat) (hp : p ≤ t.1) (h : (tok t p).1 = 2) : (tok t p).2.1 ≤ 99 := by
  revert h
  unfold tok
  generalize skp t (t.1 - p) p = s
  by_cases e1 : t.1 ≤ s
  · rw [if_pos e1]; intro h; exact absurd h (show ¬ (0 : Nat) = 2 by decide)
  · rw [if_neg e1]
    cases eD : isD (t.2 s) with
    | true =>
      rw [if_pos rfl]
      intro h
      show (run t (t.1 - s) s 0).2 ≤ 99
      apply Nat.le_of_not_lt
      intro q
      have : (if 99 < (run t (t.1 - s) s 0).2 then 4 else if t.2 s = 48 ∧ 1 < (run t (t.1 - s) s 0).1 - s then 4 else 2) = 2 := h
      rw [if_pos q] at this
      exact absurd this (by decide)
    | false =>
      rw [if_neg Bool.false_ne_true]
      split
      · intro h; exact absurd h (show ¬ (3 : Nat) = 2 by decide)
      · split
        · intro h; exact absurd h (show ¬ (1 : Nat) = 2 by decide)
        · intro h; exact absurd h (show ¬ (4 : Nat) = 2 by decide)
theorem ctk_2 (ht : WT t) {p : Nat} (hp : p ≤ t.1) : (ctk (tok t p) = (-2 : Int32)) ↔ (tok t p).1 = 2 := by
  unfold ctk
  by_cases e0 : (tok t p).1 = 0
  · rw [if_pos e0, e0]; exact ⟨fun q => absurd q (by decide), fun q => absurd q (by decide)⟩
  · rw [if_neg e0]
    by_cases e2 : (tok t p).1 = 2
    · rw [if_pos e2]; exact ⟨fun _ => e2, fun _ => rfl⟩
    · rw [if_neg e2]
      refine ⟨fun q => ?_, fun q => absurd q e2⟩
      by_cases e4 : (tok t p).1 = 4
      · rw [if_pos e4] at q; exact absurd q (by decide)
      · rw [if_neg e4] at q
        exfalso
        have hb : (tok t p).2.1 < 1000 := by
          revert e0 e2 e4
          unfold tok
          generalize skp t (t.1 - p) p = s
          by_cases e1 : t.1 ≤ s
          · rw [if_pos e1]; intros; show 0 < 1000; omega
          · rw [if_neg e1]
            have hc := ht.2 s (by omega)
            cases eD : isD (t.2 s) with
            | true =>
              rw [if_pos rfl]; intros
              have := run_v t ht (t.1 - s) s 0 (by omega) (by decide)
              show (run t (t.1 - s) s 0).2 < 1000; omega
            | false =>
              rw [if_neg Bool.false_ne_true]
              split
              · intros; show 59 < 1000; omega
              · split
                · intros; show t.2 s < 1000; omega
                · intros; show t.2 s < 1000; omega
        have n2 : ∀ v, v < 1000 → nI v ≠ -2 := by decide +kernel
        exact n2 _ hb q
theorem rnC (ht : WT t) {p lo hi : Nat} (hp : p ≤ t.1) (hlo : lo < 100) (hhi : hi < 100) (hT : RT t S) (h2 : S.1 1 2 = nI p) : ∃ S', p_X7_readNumber (nI lo) (nI hi) S = some (nI (bN (nok t p lo hi)), S') ∧ S'.1 1 2 = nI (tok t p).2.2.2 ∧ S'.1 1 3 = nI (tok t p).2.2.1 ∧ (nok t p lo hi = true → S'.1 1 5 = nI (tok t p).2.1) ∧ (∀ a j, ¬ (a = 1 ∧ (j = 2 ∨ j = 3 ∨ j = 4 ∨ j = 5)) → S'.1 a j = S.1 a j) ∧ S'.2 = S.2 := by
  obtain ⟨S', q1, q2, q3, q4, q5, q6, q7⟩ := tokC ht hp hT h2
  refine ⟨S', ?_, q2, q3, fun h => q5 (of_decide_eq_true h).1, q6, q7⟩
  unfold p_X7_readNumber
  rw [q1, Option.bind_some, q4]
  by_cases e : (tok t p).1 = 2
  · have hv := tok_v ht p hp e
    rw [if_pos ((ctk_2 ht hp).mpr e), q5 e, inN (by omega) (by omega) (by omega), Option.bind_some]
    show (if nI (bN (decide (lo ≤ (tok t p).2.1 ∧ (tok t p).2.1 ≤ hi))) = (0 : Int32) then some ((0 : Int32), S') else some ((1 : Int32), S')) = _
    have en : nok t p lo hi = decide (lo ≤ (tok t p).2.1 ∧ (tok t p).2.1 ≤ hi) := decide_eq_decide.mpr ⟨fun h => h.2, fun h => ⟨e, h⟩⟩
    rw [en]
    cases decide (lo ≤ (tok t p).2.1 ∧ (tok t p).2.1 ≤ hi)
    · rw [if_pos (show nI (bN false) = (0 : Int32) from rfl)]; rfl
    · rw [if_neg (show ¬ nI (bN true) = (0 : Int32) by decide)]; rfl
  · have en : nok t p lo hi = false := decide_eq_false (fun h => e h.1)
    rw [if_neg (fun q => e ((ctk_2 ht hp).mp q)), en]
    rfl
end PA
