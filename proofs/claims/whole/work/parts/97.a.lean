-- THE REFERENCE READS PLACES, STEP, THE CLOSE
def cS (t : Txt) (r : Nat ⊕ Nat) : Nat ⊕ Nat := match r with
  | .inl e => .inl e
  | .inr p => if (tok t p).1 = 3 then .inr (tok t p).2.2.2 else .inl (tok t p).2.2.1
theorem cS_r (t : Txt) (p : Nat) : cS t (.inr p) = if (tok t p).1 = 3 then .inr (tok t p).2.2.2 else .inl (tok t p).2.2.1 := rfl
section RMF
variable {t : Txt} {T : St}
theorem itN_M (ht : WT t) {r : Nat ⊕ Nat} (hT : MT t T) (hq : QM t r T) : ∃ T', p_X10_readsItem (110 : Int32) T = some T' ∧ QM t (nS t r 1 8) T' ∧ T'.1 101 4 = nI (nV t r 1 8) ∧ (∀ a j, ¬ (a = 99 ∧ (j = 4 ∨ j = 5 ∨ j = 6 ∨ j = 7 ∨ j = 8)) → ¬ (a = 101 ∧ j = 4) → T'.1 a j = T.1 a j) ∧ T'.2 = T.2 := by
  obtain ⟨T1, e1, q1, f1, g1⟩ := numM (lo := 1) (hi := 8) ht (by decide) (by decide) hT hq
  refine ⟨sI T1 101 4 (nI (nV t r 1 8)), ?_, q1.cg (fun j _ _ => sI_ne (by omega)), sI_eq ⟨rfl, rfl⟩, fun a j c1 c2 => by rw [sI_ne (by omega), f1 a j c1], g1⟩
  unfold p_X10_readsItem
  have c1 : ((110 : Int32) = 110) = True := by decide
  have i4 : vin (4 : Int32) 8 = True := vin_t (i := 4) (by omega)
  simp only [c1, if_true, i4]
  rw [show p_X10_number (1 : Int32) (8 : Int32) T = some (nI (nV t r 1 8), T1) from e1, Option.bind_some]
  rfl
theorem itS_M (ht : WT t) {r : Nat ⊕ Nat} (hT : MT t T) (hq : QM t r T) : ∃ T', p_X10_readsItem (115 : Int32) T = some T' ∧ QM t (nS t r 0 40) T' ∧ T'.1 101 7 = nI (nV t r 0 40) ∧ T'.1 99 9 = nI 1 ∧ (∀ a j, ¬ (a = 99 ∧ (j = 4 ∨ j = 5 ∨ j = 6 ∨ j = 7 ∨ j = 8 ∨ j = 9)) → ¬ (a = 101 ∧ j = 7) → T'.1 a j = T.1 a j) ∧ T'.2 = T.2 := by
  obtain ⟨T1, e1, q1, f1, g1⟩ := numM (lo := 0) (hi := 40) ht (by decide) (by decide) hT hq
  refine ⟨sI (sI T1 101 7 (nI (nV t r 0 40))) 99 9 1, ?_, q1.cg (fun j _ _ => by rw [sI_ne (by omega), sI_ne (by omega)]), by rw [sI_ne (by omega)]; exact sI_eq ⟨rfl, rfl⟩, sI_eq ⟨rfl, rfl⟩, fun a j c1 c2 => by rw [sI_ne (by omega), sI_ne (by omega), f1 a j (by omega)], g1⟩
  unfold p_X10_readsItem
  have c1 : ((115 : Int32) = 110) = False := by decide
  have c2 : ((115 : Int32) = 100) = False := by decide
  have c3 : ((115 : Int32) = 98) = False := by decide
  have i4 : vin (4 : Int32) 8 = True := vin_t (i := 4) (by omega)
  have i7 : vin (7 : Int32) 8 = True := vin_t (i := 7) (by omega)
  simp only [c1, c2, c3, if_true, if_false, i4, i7]
  rw [show p_X10_number (0 : Int32) (40 : Int32) T = some (nI (nV t r 0 40), T1) from e1, Option.bind_some]
  rfl
/-- the close, and on -/
theorem clM (ht : WT t) {r : Nat ⊕ Nat} (hT : MT t T) (hq : QM t r T) (ag : Int32 → St → Option (Int32 × St)) (x : Nat) : ∃ T', q_X10_city_77 ag (nI x) T = ag (nI (x + 1)) T' ∧ QM t (cS t r) T' ∧ (∀ a j, ¬ (a = 99 ∧ (j = 4 ∨ j = 5 ∨ j = 6 ∨ j = 7 ∨ j = 8)) → T'.1 a j = T.1 a j) ∧ T'.2 = T.2 := by
  cases r with
  | inl e =>
    obtain ⟨h8, he⟩ := hq
    have tb := fun y => tk_bad h8 he y
    refine ⟨T, ?_, ⟨h8, he⟩, fun _ _ _ => rfl, rfl⟩
    unfold q_X10_city_77
    rw [tb, tb, Option.bind_some, ite_self]
    show ag (nI x + (1 : Int32)) T = _
    rw [show nI x + (1 : Int32) = nI (x + 1) from nI_add x 1]
  | inr p =>
    obtain ⟨h8, hp, hq⟩ := hq
    have z3 : (nI (tok t p).1 = (3 : Int32)) ↔ (tok t p).1 = 3 := by
      have := (tok_in t hp).2.2.2.2
      exact (show nI (tok t p).1 = nI 3 ↔ _ from nI_eq (by omega) (by decide))
    unfold q_X10_city_77
    rw [hq.2.1, cS_r]
    by_cases e : (tok t p).1 = 3
    · rw [if_pos (z3.mpr e), if_pos e]
      obtain ⟨T', q1, q2, q3, q4, q5⟩ := tk_1 ht hp hT h8 hq
      refine ⟨T', ?_, ⟨q2, (tok_in t hp).1, q3⟩, fun a j q => q4 a j (by omega), q5⟩
      rw [q1, Option.bind_some]
      show ag (nI x + (1 : Int32)) T' = _
      rw [show nI x + (1 : Int32) = nI (x + 1) from nI_add x 1]
    · rw [if_neg (fun q => e (z3.mp q)), if_neg e]
      obtain ⟨g, g1, g2, g3, g4⟩ := tk_f ht hp h8 hq
      refine ⟨g, ?_, g2, g3, g4⟩
      rw [g1, Option.bind_some]
      show ag (nI x + (1 : Int32)) g = _
      rw [show nI x + (1 : Int32) = nI (x + 1) from nI_add x 1]
end RMF
