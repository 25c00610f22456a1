-- THE REFERENCE READS ITEMS
def MD (D : Dft) (T : St) : Prop := T.1 101 4 = nI D.1.1 ∧ T.1 101 5 = nI D.1.2.1 ∧ T.1 101 6 = nI D.1.2.2.1 ∧ T.1 101 7 = nI D.1.2.2.2.1 ∧ T.1 99 9 = nI D.1.2.2.2.2 ∧ (∀ d, d < D.1.2.1 → T.1 102 (8 + d) = nI (D.2.1.1 d) ∧ T.1 103 (8 + d) = nI (D.2.1.2.1 d) ∧ T.1 104 (8 + d) = nI (D.2.1.2.2 d)) ∧ ∀ b, b < D.1.2.2.1 → T.1 105 (5 + b) = nI (D.2.2.1 b) ∧ T.1 106 (5 + b) = nI (D.2.2.2.1 b) ∧ T.1 107 (5 + b) = nI (D.2.2.2.2.1 b) ∧ T.1 108 (5 + b) = nI (D.2.2.2.2.2.1 b) ∧ T.1 109 (5 + b) = nI (D.2.2.2.2.2.2 b)
def kQ (T T' : St) : Prop := (∀ a j, ¬ (a = 99 ∧ 4 ≤ j ∧ j ≤ 9) → ¬ (a = 101 ∧ 4 ≤ j) → ¬ (102 ≤ a ∧ a ≤ 104 ∧ 8 ≤ j) → ¬ (105 ≤ a ∧ a ≤ 109 ∧ 5 ≤ j) → T'.1 a j = T.1 a j) ∧ T'.2 = T.2
theorem kQ.tr {S T U : St} (h : kQ S T) (g : kQ T U) : kQ S U := ⟨fun a j q1 q2 q3 q4 => (g.1 a j q1 q2 q3 q4).trans (h.1 a j q1 q2 q3 q4), g.2.trans h.2⟩
theorem kQ.MT {t : Txt} {T T' : St} (h : kQ T T') (hT : MT t T) : MT t T' := hT.cg (h.1 _ _ (by omega) (by omega) (by omega) (by omega)) (fun j => h.1 _ _ (by omega) (by omega) (by omega) (by omega))
/-- the parts of a draft that stay -/
theorem MD.cg {D : Dft} {T T' : St} (h : MD D T) (e : ∀ a j, ¬ (a = 99 ∧ (j = 4 ∨ j = 5 ∨ j = 6 ∨ j = 7 ∨ j = 8)) → T'.1 a j = T.1 a j) : MD D T' := by
  obtain ⟨r1, r2, r3, r4, r5, r6, r7⟩ := h
  refine ⟨(e _ _ (by omega)).trans r1, (e _ _ (by omega)).trans r2, (e _ _ (by omega)).trans r3, (e _ _ (by omega)).trans r4, (e _ _ (by omega)).trans r5, fun d hd => ?_, fun b hb => ?_⟩
  · rw [e _ _ (by omega), e _ _ (by omega), e _ _ (by omega)]; exact r6 d hd
  · rw [e _ _ (by omega), e _ _ (by omega), e _ _ (by omega), e _ _ (by omega), e _ _ (by omega)]; exact r7 b hb
def PMi (t : Txt) (r : Nat ⊕ (Nat × Dft)) (T : St) (ag : Int32 → St → Option (Int32 × St)) (x : Nat) (f : Option (Int32 × St)) : Prop := ∃ T', f = ag (nI (x + 1)) T' ∧ kQ T T' ∧ match r with
  | .inl e => T'.1 99 8 = nI e ∧ e ≤ 150
  | .inr q => (T'.1 99 8 = -1 ∧ q.1 ≤ t.1 ∧ TM (tok t q.1) T') ∧ MD q.2 T'
section RMG
variable {t : Txt} {T : St}
theorem PMi.mono {r : Nat ⊕ (Nat × Dft)} {T1 : St} {ag : Int32 → St → Option (Int32 × St)} {x : Nat} {f : Option (Int32 × St)} (h : PMi t r T1 ag x f) (k : kQ T T1) : PMi t r T ag x f := by
  obtain ⟨S', e, q, g⟩ := h
  exact ⟨S', e, k.tr q, g⟩
/-- an item read, the close -/
theorem clP (ht : WT t) {r : Nat ⊕ Nat} {D : Dft} (hT : MT t T) (hq : QM t r T) (hD : MD D T) (ag : Int32 → St → Option (Int32 × St)) (x : Nat) : PMi t (fin_ D (cS t r)) T ag x (q_X10_city_77 ag (nI x) T) := by
  obtain ⟨T', e, q, f, g⟩ := clM ht hT hq ag x
  refine ⟨T', e, ⟨fun a j q1 q2 q3 q4 => f a j (by omega), g⟩, ?_⟩
  cases hr : cS t r with
  | inl e => rw [hr] at q; exact q
  | inr p => rw [hr] at q; exact ⟨q, hD.cg f⟩
end RMG
