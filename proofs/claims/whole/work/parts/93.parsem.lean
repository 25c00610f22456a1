-- THE REFERENCE READS NUMBERS: r is a fault's start (inl) or where the token at hand begins (inr)
def QM (t : Txt) (r : Nat ⊕ Nat) (T : St) : Prop := match r with
  | .inl e => T.1 99 8 = nI e ∧ e ≤ 150
  | .inr p => T.1 99 8 = -1 ∧ p ≤ t.1 ∧ TM (tok t p) T
def nS (t : Txt) (r : Nat ⊕ Nat) (lo hi : Nat) : Nat ⊕ Nat := match r with
  | .inl e => .inl e
  | .inr p => if nok t p lo hi then .inr (tok t p).2.2.2 else .inl (tok t p).2.2.1
def nV (t : Txt) (r : Nat ⊕ Nat) (lo hi : Nat) : Nat := match r with
  | .inl _ => 0
  | .inr p => if nok t p lo hi then (tok t p).2.1 else 0
theorem nS_r (t : Txt) (p lo hi : Nat) : nS t (.inr p) lo hi = if nok t p lo hi then .inr (tok t p).2.2.2 else .inl (tok t p).2.2.1 := rfl
theorem nV_r (t : Txt) (p lo hi : Nat) : nV t (.inr p) lo hi = if nok t p lo hi then (tok t p).2.1 else 0 := rfl
section RMN
variable {t : Txt} {T : St}
theorem tk_bad {e : Nat} (h : T.1 99 8 = nI e) (he : e ≤ 150) (y : Int32) : p_X10_takes y T = some (0, T) := by
  unfold p_X10_takes p_X10_isWell
  rw [h, if_pos (show (0 : Int32) ≤ nI e from (show nI 0 ≤ nI e ↔ _ from nI_leI (by decide) (by omega)).mpr (Nat.zero_le _)), Option.bind_some]
  show (if (0 : Int32) = 0 then some ((0 : Int32), T) else _) = _
  rw [if_pos rfl]
theorem tk_0 (h : T.1 99 8 = -1) : p_X10_takes (0 : Int32) T = some (0, sI T 99 8 (T.1 99 6)) := by
  unfold p_X10_takes p_X10_isWell
  rw [h, if_neg (show ¬ (0 : Int32) ≤ -1 by decide), Option.bind_some]
  show (if (1 : Int32) = 0 then some ((0 : Int32), T) else if (0 : Int32) = 0 then some ((0 : Int32), sI T 99 8 (T.1 99 6)) else _) = _
  rw [if_neg (show ¬ (1 : Int32) = 0 by decide), if_pos rfl]
theorem tk_1 (ht : WT t) {p : Nat} (hp : p ≤ t.1) (hT : MT t T) (h : T.1 99 8 = -1) (hq : TM (tok t p) T) : ∃ T', p_X10_takes (1 : Int32) T = some (T.1 99 7, T') ∧ T'.1 99 8 = -1 ∧ TM (tok t (tok t p).2.2.2) T' ∧ (∀ a j, ¬ (a = 99 ∧ (j = 4 ∨ j = 5 ∨ j = 6 ∨ j = 7)) → T'.1 a j = T.1 a j) ∧ T'.2 = T.2 := by
  obtain ⟨T', q1, q2, q3, q4⟩ := tokM ht (tok_in t hp).1 hT hq.1
  refine ⟨T', ?_, (q3 99 8 (by omega)).trans h, q2, q3, q4⟩
  unfold p_X10_takes p_X10_isWell
  rw [h, if_neg (show ¬ (0 : Int32) ≤ -1 by decide), Option.bind_some]
  show (if (1 : Int32) = 0 then some ((0 : Int32), T) else if (1 : Int32) = 0 then some ((0 : Int32), sI T 99 8 (T.1 99 6)) else Option.bind (p_X10_advances T) (fun q29 => some (T.1 99 7, q29))) = _
  rw [if_neg (show ¬ (1 : Int32) = 0 by decide), if_neg (show ¬ (1 : Int32) = 0 by decide), q1, Option.bind_some]
theorem inN_m {v lo hi : Nat} (hv : v < 2000) (hl : lo < 2000) (hh : hi < 2000) (S : St) : p_X10_in (nI v) (nI lo) (nI hi) S = some (nI (bN (decide (lo ≤ v ∧ v ≤ hi))), S) := inN hv hl hh S
/-- a fault now: the token's start -/
theorem tk_f {p : Nat} (ht : WT t) (hp : p ≤ t.1) (h : T.1 99 8 = -1) (hq : TM (tok t p) T) : ∃ T', p_X10_takes (0 : Int32) T = some (0, T') ∧ QM t (.inl (tok t p).2.2.1) T' ∧ (∀ a j, ¬ (a = 99 ∧ (j = 4 ∨ j = 5 ∨ j = 6 ∨ j = 7 ∨ j = 8)) → T'.1 a j = T.1 a j) ∧ T'.2 = T.2 := by
  refine ⟨_, tk_0 h, ⟨(sI_eq ⟨rfl, rfl⟩).trans hq.2.2.1, ?_⟩, fun a j q => sI_ne (by omega), rfl⟩
  have := (tok_in t hp).2.1
  have := ht.1
  omega
theorem numM (ht : WT t) {r : Nat ⊕ Nat} {lo hi : Nat} (hlo : lo < 100) (hhi : hi < 100) (hT : MT t T) (hq : QM t r T) : ∃ T', p_X10_number (nI lo) (nI hi) T = some (nI (nV t r lo hi), T') ∧ QM t (nS t r lo hi) T' ∧ (∀ a j, ¬ (a = 99 ∧ (j = 4 ∨ j = 5 ∨ j = 6 ∨ j = 7 ∨ j = 8)) → T'.1 a j = T.1 a j) ∧ T'.2 = T.2 := by
  cases r with
  | inl e =>
    obtain ⟨h8, he⟩ := hq
    refine ⟨T, ?_, ⟨h8, he⟩, fun _ _ _ => rfl, rfl⟩
    have tb := fun y => tk_bad h8 he y
    unfold p_X10_number
    rw [tb, Option.bind_some, inb_m, Option.bind_some]
    show (if T.1 99 5 = (2 : Int32) then (if nI (bN (inb (T.1 99 7) (nI lo) (nI hi))) = (0 : Int32) then Option.bind (p_X10_takes (0 : Int32) T) (fun q26 => some (q26.1, q26.2)) else Option.bind (p_X10_takes (1 : Int32) T) (fun q26 => some (q26.1, q26.2))) else some ((0 : Int32), T)) = _
    rw [tb, tb, Option.bind_some]
    rw [ite_self, ite_self]
    rfl
  | inr p =>
    obtain ⟨h8, hp, hq⟩ := hq
    obtain ⟨f, f1, f2, f3, f4⟩ := tk_f ht hp h8 hq
    unfold p_X10_number
    rw [hq.2.1]
    have z2 : (nI (tok t p).1 = (2 : Int32)) ↔ (tok t p).1 = 2 := by
      have := (tok_in t hp).2.2.2.2
      exact (show nI (tok t p).1 = nI 2 ↔ _ from nI_eq (by omega) (by decide))
    have bad : nok t p lo hi = false → ∃ T', Option.bind (p_X10_takes (0 : Int32) T) (fun q26 => some (q26.1, q26.2)) = some (nI (nV t (.inr p) lo hi), T') ∧ QM t (nS t (.inr p) lo hi) T' ∧ (∀ a j, ¬ (a = 99 ∧ (j = 4 ∨ j = 5 ∨ j = 6 ∨ j = 7 ∨ j = 8)) → T'.1 a j = T.1 a j) ∧ T'.2 = T.2 := fun en => by
      refine ⟨f, ?_, ?_, f3, f4⟩
      · rw [f1, Option.bind_some]
        rw [nV_r, en]; rfl
      · rw [nS_r, en]; exact f2
    by_cases e : (tok t p).1 = 2
    · have hv := tok_v ht p hp e
      rw [if_pos (z2.mpr e), hq.2.2.2 (Or.inr (Or.inl e)), inN_m (by omega) (by omega) (by omega), Option.bind_some]
      have en : nok t p lo hi = decide (lo ≤ (tok t p).2.1 ∧ (tok t p).2.1 ≤ hi) := decide_eq_decide.mpr ⟨fun h => h.2, fun h => ⟨e, h⟩⟩
      show ∃ T', (if nI (bN (decide (lo ≤ (tok t p).2.1 ∧ (tok t p).2.1 ≤ hi))) = (0 : Int32) then Option.bind (p_X10_takes (0 : Int32) T) (fun q26 => some (q26.1, q26.2)) else Option.bind (p_X10_takes (1 : Int32) T) (fun q26 => some (q26.1, q26.2))) = some (nI (nV t (.inr p) lo hi), T') ∧ _
      rw [← en]
      cases hok : nok t p lo hi with
      | false =>
        rw [if_pos (show nI (bN false) = (0 : Int32) from rfl)]
        exact bad hok
      | true =>
        rw [if_neg (show ¬ nI (bN true) = (0 : Int32) by decide)]
        obtain ⟨T', q1, q2, q3, q4, q5⟩ := tk_1 ht hp hT h8 hq
        refine ⟨T', ?_, ?_, fun a j q => q4 a j (by omega), q5⟩
        · rw [q1, Option.bind_some, hq.2.2.2 (Or.inr (Or.inl e))]
          rw [nV_r, hok]; rfl
        · rw [nS_r, hok]; exact ⟨q2, (tok_in t hp).1, q3⟩
    · rw [if_neg (fun q => e (z2.mp q))]
      exact bad (decide_eq_false (fun h => e h.1))
end RMN
