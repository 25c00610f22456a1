-- THE CLASS READS ITEMS
def PCi (r : Nat ⊕ (Nat × Dft)) (S : St) (f : Option (Int32 × St)) : Prop := ∃ S', f = some (nI (bN r.isRight), S') ∧ kR S S' ∧ match r with
  | .inl e => S'.1 1 3 = nI e
  | .inr q => S'.1 1 2 = nI q.1 ∧ RD q.2 S'
section PCS
variable {t : Txt} {S : St}
theorem PCi.mono {r : Nat ⊕ (Nat × Dft)} {S1 : St} {f : Option (Int32 × St)} (h : PCi r S1 f) (k : kR S S1) : PCi r S f := by
  obtain ⟨S', e, q, g⟩ := h
  exact ⟨S', e, k.tr q, g⟩
theorem nBC (ht : WT t) {p lo hi : Nat} (hp : p ≤ t.1) (hlo : lo < 100) (hhi : hi < 100) (hT : RT t S) (h2 : S.1 1 2 = nI p) {k : Nat → Nat → Nat ⊕ (Nat × Dft)} {K : Int32 × St → Option (Int32 × St)} (hk : nok t p lo hi = true → ∀ S1, S1.1 1 2 = nI (tok t p).2.2.2 → S1.1 1 5 = nI (tok t p).2.1 → S1.1 1 3 = nI (tok t p).2.2.1 → (∀ a j, ¬ (a = 1 ∧ (j = 2 ∨ j = 3 ∨ j = 4 ∨ j = 5)) → S1.1 a j = S.1 a j) → kR S S1 → RT t S1 → PCi (k (tok t p).2.1 (tok t p).2.2.2) S1 (K (nI 1, S1))) : PCi (nB t p lo hi k) S ((p_X7_readNumber (nI lo) (nI hi) S).bind (fun q => if q.1 = 0 then some ((0 : Int32), q.2) else K q)) := by
  obtain ⟨S1, e1, e2, e3, e4, e5, e6⟩ := rnC ht hp hlo hhi hT h2
  have kk : kR S S1 := ⟨fun a j q q' => e5 a j (by omega), e6⟩
  rw [e1, Option.bind_some]
  unfold nB
  cases en : nok t p lo hi with
  | false =>
    show PCi (if false = true then _ else _) S (if nI (bN false) = (0 : Int32) then some ((0 : Int32), S1) else _)
    rw [if_neg Bool.false_ne_true, if_pos (show nI (bN false) = (0 : Int32) from rfl)]
    exact ⟨S1, rfl, kk, e3⟩
  | true =>
    show PCi (if true = true then _ else _) S (if nI (bN true) = (0 : Int32) then _ else K (nI 1, S1))
    rw [if_pos rfl, if_neg (show ¬ nI (bN true) = (0 : Int32) by decide)]
    exact (hk en S1 e2 (e4 en) e3 e5 kk (kk.RT hT)).mono kk
theorem clsC (ht : WT t) {p : Nat} (hp : p ≤ t.1) (hT : RT t S) (h2 : S.1 1 2 = nI p) {D : Dft} (hD : RD D S) : PCi (cls t p D) S ((p_X7_readClose S).bind (fun q => if q.1 = 0 ∨ q.1 = 1 then some (q.1, q.2) else none)) := by
  obtain ⟨S', q1, q2, q3, q4, q5, q6, q7⟩ := tokC ht hp hT h2
  have kk : kR S S' := ⟨fun a j q q' => q6 a j (by omega), q7⟩
  have ne : ∀ a j, ¬ (a = 1 ∧ (j = 2 ∨ j = 3 ∨ j = 4 ∨ j = 5)) → S'.1 a j = S.1 a j := q6
  have hD' : RD D S' := by
    obtain ⟨r1, r2, r3, r4, r5, r6, r7⟩ := hD
    refine ⟨(ne _ _ (by omega)).trans r1, (ne _ _ (by omega)).trans r2, (ne _ _ (by omega)).trans r3, (ne _ _ (by omega)).trans r4, (ne _ _ (by omega)).trans r5, fun d hd => ?_, fun b hb => ?_⟩
    · rw [ne _ _ (by omega), ne _ _ (by omega), ne _ _ (by omega)]; exact r6 d hd
    · rw [ne _ _ (by omega), ne _ _ (by omega), ne _ _ (by omega), ne _ _ (by omega), ne _ _ (by omega)]; exact r7 b hb
  have c59 : (ctk (tok t p) = (59 : Int32)) ↔ (tok t p).1 = 3 := by
    unfold tok
    generalize skp t (t.1 - p) p = s
    by_cases e1 : t.1 ≤ s
    · rw [if_pos e1]; exact ⟨fun q => absurd q (show ¬ (-1 : Int32) = 59 by decide), fun q => absurd q (show ¬ (0 : Nat) = 3 by decide)⟩
    · rw [if_neg e1]
      have hc := ht.2 s (by omega)
      cases eD : isD (t.2 s) with
      | true =>
        rw [if_pos rfl]
        generalize (run t (t.1 - s) s 0).2 = v
        generalize (run t (t.1 - s) s 0).1 = w
        by_cases a1 : 99 < v
        · rw [if_pos a1]; exact ⟨fun q => absurd q (show ¬ (-3 : Int32) = 59 by decide), fun q => absurd q (show ¬ (4 : Nat) = 3 by decide)⟩
        · rw [if_neg a1]
          by_cases a2 : t.2 s = 48 ∧ 1 < w - s
          · rw [if_pos a2]; exact ⟨fun q => absurd q (show ¬ (-3 : Int32) = 59 by decide), fun q => absurd q (show ¬ (4 : Nat) = 3 by decide)⟩
          · rw [if_neg a2]; exact ⟨fun q => absurd q (show ¬ (-2 : Int32) = 59 by decide), fun q => absurd q (show ¬ (2 : Nat) = 3 by decide)⟩
      | false =>
        rw [if_neg Bool.false_ne_true]
        by_cases a59 : t.2 s = 59
        · rw [if_pos a59]; exact ⟨fun _ => rfl, fun _ => rfl⟩
        · rw [if_neg a59]
          by_cases al : t.2 s = 110 ∨ t.2 s = 100 ∨ t.2 s = 98 ∨ t.2 s = 115
          · rw [if_pos al]
            refine ⟨fun q => ?_, fun q => absurd q (show ¬ (1 : Nat) = 3 by decide)⟩
            have : nI (t.2 s) = nI 59 := q
            rw [eqN (by omega) (by omega)] at this
            exact absurd this a59
          · rw [if_neg al]; exact ⟨fun q => absurd q (show ¬ (-3 : Int32) = 59 by decide), fun q => absurd q (show ¬ (4 : Nat) = 3 by decide)⟩
  unfold p_X7_readClose cls
  rw [q1, Option.bind_some, q4]
  by_cases e : (tok t p).1 = 3
  · rw [if_pos (c59.mpr e), if_pos e, Option.bind_some]
    refine ⟨S', ?_, kk, q2, hD'⟩
    rw [if_pos (Or.inr rfl)]
    rfl
  · rw [if_neg (fun q => e (c59.mp q)), if_neg e, Option.bind_some]
    refine ⟨S', ?_, kk, q3⟩
    rw [if_pos (Or.inl rfl)]
    rfl
theorem RD.cg {D : Dft} {S' : St} (hD : RD D S) (e1 : S'.1 1 6 = S.1 1 6) (e2 : ∀ j, S'.1 12 j = S.1 12 j) (e3 : ∀ a j, 13 ≤ a → a ≤ 15 → j < D.1.2.1 → S'.1 a j = S.1 a j) (e4 : ∀ a j, 16 ≤ a → a ≤ 20 → j < D.1.2.2.1 → S'.1 a j = S.1 a j) : RD D S' := by
  obtain ⟨r1, r2, r3, r4, r5, r6, r7⟩ := hD
  refine ⟨(e2 _).trans r1, (e2 _).trans r2, (e2 _).trans r3, (e2 _).trans r4, e1.trans r5, fun d hd => ?_, fun b hb => ?_⟩
  · rw [e3 _ _ (by omega) (by omega) hd, e3 _ _ (by omega) (by omega) hd, e3 _ _ (by omega) (by omega) hd]; exact r6 d hd
  · rw [e4 _ _ (by omega) (by omega) hb, e4 _ _ (by omega) (by omega) hb, e4 _ _ (by omega) (by omega) hb, e4 _ _ (by omega) (by omega) hb, e4 _ _ (by omega) (by omega) hb]; exact r7 b hb
theorem itN_C (ht : WT t) {p : Nat} (hp : p ≤ t.1) (hT : RT t S) (h2 : S.1 1 2 = nI p) {D : Dft} (hD : RD D S) : PCi (itN t p D) S (p_X7_readPlaces S) := by
  unfold p_X7_readPlaces itN
  refine nBC (lo := 1) (hi := 8) ht hp (by decide) (by decide) hT h2 (fun hn S1 e2 e5 e3 ef kk hT1 => ?_)
  have hin := tok_in t hp
  show PCi _ S1 (Option.bind (p_X7_readClose (sI S1 12 0 (S1.1 1 5))) _)
  rw [e5]
  refine (clsC ht hin.1 (hT1.cg (fun j => sI_ne (by omega)) (sI_ne (by omega))) ((sI_ne (by omega)).trans e2) ?_).mono (kR.sI (by decide))
  obtain ⟨r1, r2, r3, r4, r5, r6, r7⟩ := hD
  have ne : ∀ a j, ¬ (a = 1 ∧ (j = 2 ∨ j = 3 ∨ j = 4 ∨ j = 5)) → ¬ (a = 12 ∧ j = 0) → (sI S1 12 0 (nI (tok t p).2.1)).1 a j = S.1 a j := fun a j q q' => (sI_ne (by omega)).trans (ef a j q)
  refine ⟨sI_eq ⟨rfl, rfl⟩, (ne _ _ (by omega) (by omega)).trans r2, (ne _ _ (by omega) (by omega)).trans r3, (ne _ _ (by omega) (by omega)).trans r4, (ne _ _ (by omega) (by omega)).trans r5, fun d hd => ?_, fun b hb => ?_⟩
  · rw [ne _ _ (by omega) (by omega), ne _ _ (by omega) (by omega), ne _ _ (by omega) (by omega)]; exact r6 d hd
  · rw [ne _ _ (by omega) (by omega), ne _ _ (by omega) (by omega), ne _ _ (by omega) (by omega), ne _ _ (by omega) (by omega), ne _ _ (by omega) (by omega)]; exact r7 b hb
theorem itS_C (ht : WT t) {p : Nat} (hp : p ≤ t.1) (hT : RT t S) (h2 : S.1 1 2 = nI p) {D : Dft} (hD : RD D S) : PCi (itS t p D) S (p_X7_readStep S) := by
  unfold p_X7_readStep itS
  have kS : kR S (sI S 1 6 1) := ⟨fun a j q q' => sI_ne (by omega), rfl⟩
  refine (nBC (lo := 0) (hi := 40) (S := sI S 1 6 1) ht hp (by decide) (by decide) (kS.RT hT) ((sI_ne (by omega)).trans h2) (fun hn S1 e2 e5 e3 ef kk hT1 => ?_)).mono kS
  have hin := tok_in t hp
  show PCi _ S1 (Option.bind (p_X7_readClose (sI S1 12 3 (S1.1 1 5))) _)
  rw [e5]
  refine (clsC ht hin.1 (hT1.cg (fun j => sI_ne (by omega)) (sI_ne (by omega))) ((sI_ne (by omega)).trans e2) ?_).mono (kR.sI (by decide))
  obtain ⟨r1, r2, r3, r4, r5, r6, r7⟩ := hD
  have ne : ∀ a j, ¬ (a = 1 ∧ (j = 2 ∨ j = 3 ∨ j = 4 ∨ j = 5 ∨ j = 6)) → ¬ (a = 12 ∧ j = 3) → (sI S1 12 3 (nI (tok t p).2.1)).1 a j = S.1 a j := fun a j q q' => (sI_ne (by omega)).trans ((ef a j (by omega)).trans (sI_ne (by omega)))
  refine ⟨(ne _ _ (by omega) (by omega)).trans r1, (ne _ _ (by omega) (by omega)).trans r2, (ne _ _ (by omega) (by omega)).trans r3, sI_eq ⟨rfl, rfl⟩, ((sI_ne (by omega)).trans (ef 1 6 (by omega))).trans (sI_eq ⟨rfl, rfl⟩), fun d hd => ?_, fun b hb => ?_⟩
  · rw [ne _ _ (by omega) (by omega), ne _ _ (by omega) (by omega), ne _ _ (by omega) (by omega)]; exact r6 d hd
  · rw [ne _ _ (by omega) (by omega), ne _ _ (by omega) (by omega), ne _ _ (by omega) (by omega), ne _ _ (by omega) (by omega), ne _ _ (by omega) (by omega)]; exact r7 b hb
end PCS
