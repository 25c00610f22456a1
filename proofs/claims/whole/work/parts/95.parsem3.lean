-- THE REFERENCE READS DOORS
def nk2 (t : Txt) (p hi a : Nat) : Bool := nok t p 0 hi && decide ((tok t p).2.1 ≠ a)
def nS2 (t : Txt) (r : Nat ⊕ Nat) (hi a : Nat) : Nat ⊕ Nat := match r with
  | .inl e => .inl e
  | .inr p => if nk2 t p hi a then .inr (tok t p).2.2.2 else .inl (tok t p).2.2.1
def nV2 (t : Txt) (r : Nat ⊕ Nat) (hi a : Nat) : Nat := match r with
  | .inl _ => 0
  | .inr p => if nk2 t p hi a then (tok t p).2.1 else 0
theorem nS2_r (t : Txt) (p hi a : Nat) : nS2 t (.inr p) hi a = if nk2 t p hi a then .inr (tok t p).2.2.2 else .inl (tok t p).2.2.1 := rfl
theorem nV2_r (t : Txt) (p hi a : Nat) : nV2 t (.inr p) hi a = if nk2 t p hi a then (tok t p).2.1 else 0 := rfl
section RMD
variable {t : Txt} {T : St}
/-- the second place of a door -/
theorem secM (ht : WT t) {r : Nat ⊕ Nat} {hi a : Nat} (hhi : hi < 100) (ha : a < 100) (hT : MT t T) (hq : QM t r T) {f : Int32 → Option St} : ∃ y0 T', (if T.1 99 5 = (2 : Int32) then (p_X10_in (T.1 99 7) (nI 0) (nI hi) T).bind (fun (q79 : Int32 × St) => if q79.1 = 0 then f 0 else if T.1 99 7 = nI a then f 0 else f 1) else f 0) = f y0 ∧ p_X10_takes y0 T = some (nI (nV2 t r hi a), T') ∧ QM t (nS2 t r hi a) T' ∧ (∀ a j, ¬ (a = 99 ∧ (j = 4 ∨ j = 5 ∨ j = 6 ∨ j = 7 ∨ j = 8)) → T'.1 a j = T.1 a j) ∧ T'.2 = T.2 := by
  cases r with
  | inl e =>
    obtain ⟨h8, he⟩ := hq
    have tb := fun y => tk_bad h8 he y
    have any : ∃ y0, (if T.1 99 5 = (2 : Int32) then (p_X10_in (T.1 99 7) (nI 0) (nI hi) T).bind (fun (q79 : Int32 × St) => if q79.1 = 0 then f 0 else if T.1 99 7 = nI a then f 0 else f 1) else f 0) = f y0 := by
      rw [inb_m, Option.bind_some]
      by_cases c1 : T.1 99 5 = (2 : Int32)
      · rw [if_pos c1]
        by_cases c2 : nI (bN (inb (T.1 99 7) (nI 0) (nI hi))) = (0 : Int32)
        · exact ⟨0, if_pos c2⟩
        · by_cases c3 : T.1 99 7 = nI a
          · exact ⟨0, (if_neg c2).trans (if_pos c3)⟩
          · exact ⟨1, (if_neg c2).trans (if_neg c3)⟩
      · exact ⟨0, if_neg c1⟩
    obtain ⟨y0, hy⟩ := any
    exact ⟨y0, T, hy, tb y0, ⟨h8, he⟩, fun _ _ _ => rfl, rfl⟩
  | inr p =>
    obtain ⟨h8, hp, hq⟩ := hq
    obtain ⟨g, g1, g2, g3, g4⟩ := tk_f ht hp h8 hq
    have bad : nk2 t p hi a = false → p_X10_takes (0 : Int32) T = some (nI (nV2 t (.inr p) hi a), g) ∧ QM t (nS2 t (.inr p) hi a) g := fun en => by
      rw [nV2_r, nS2_r, en]
      exact ⟨g1, g2⟩
    have z2 : (nI (tok t p).1 = (2 : Int32)) ↔ (tok t p).1 = 2 := by
      have := (tok_in t hp).2.2.2.2
      exact (show nI (tok t p).1 = nI 2 ↔ _ from nI_eq (by omega) (by decide))
    rw [hq.2.1]
    by_cases e : (tok t p).1 = 2
    · have hv := tok_v ht p hp e
      rw [if_pos (z2.mpr e), hq.2.2.2 (Or.inr (Or.inl e)), inN_m (by omega) (by omega) (by omega), Option.bind_some]
      have en : nok t p 0 hi = decide (0 ≤ (tok t p).2.1 ∧ (tok t p).2.1 ≤ hi) := decide_eq_decide.mpr ⟨fun h => h.2, fun h => ⟨e, h⟩⟩
      show ∃ y0 T', (if nI (bN (decide (0 ≤ (tok t p).2.1 ∧ (tok t p).2.1 ≤ hi))) = (0 : Int32) then f 0 else if nI (tok t p).2.1 = nI a then f 0 else f 1) = f y0 ∧ _
      rw [← en]
      cases hok : nok t p 0 hi with
      | false =>
        have b := bad (by unfold nk2; rw [hok, Bool.false_and])
        rw [if_pos (show nI (bN false) = (0 : Int32) from rfl)]
        exact ⟨0, g, rfl, b.1, b.2, g3, g4⟩
      | true =>
        rw [if_neg (show ¬ nI (bN true) = (0 : Int32) by decide)]
        by_cases ea : (tok t p).2.1 = a
        · have b := bad (by unfold nk2; rw [hok, Bool.true_and]; exact decide_eq_false (fun q => q ea))
          rw [if_pos (by rw [ea])]
          exact ⟨0, g, rfl, b.1, b.2, g3, g4⟩
        · rw [if_neg (by rw [eqN (by omega) (by omega)]; exact ea)]
          obtain ⟨T', q1, q2, q3, q4, q5⟩ := tk_1 ht hp hT h8 hq
          have ek : nk2 t p hi a = true := by unfold nk2; rw [hok, Bool.true_and]; exact decide_eq_true ea
          refine ⟨1, T', rfl, ?_, ?_, fun a j q => q4 a j (by omega), q5⟩
          · rw [q1, hq.2.2.2 (Or.inr (Or.inl e)), nV2_r, ek]; rfl
          · rw [nS2_r, ek]; exact ⟨q2, (tok_in t hp).1, q3⟩
    · have b := bad (by unfold nk2; rw [show nok t p 0 hi = false from decide_eq_false (fun h => e h.1), Bool.false_and])
      rw [if_neg (fun q => e (z2.mp q))]
      exact ⟨0, g, rfl, b.1, b.2, g3, g4⟩
end RMD
