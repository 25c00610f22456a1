-- THE CLASS READS DOORS AND BOYS
section PCT
variable {t : Txt} {S : St}
theorem itD_C (ht : WT t) {p : Nat} (hp : p ≤ t.1) (hT : RT t S) (h2 : S.1 1 2 = nI p) {D : Dft} (hw : WD D) (hD : RD D S) (hn8 : D.1.2.1 < 8) : PCi (itD t p D) S (p_X7_readDoor S) := by
  obtain ⟨w1, w2, w3, w4, w5, w6, w7, w8⟩ := hw
  obtain ⟨r1, r2, r3, r4, r5, r6, r7⟩ := id hD
  have hnp : nI D.1.1 - (1 : Int32) = nI (D.1.1 - 1) := nI_subN (b := 1) w1
  have hvin : vin (nI D.1.2.1) 8 = True := vin_t (by omega)
  unfold p_X7_readDoor itD
  simp only [r1, r2, hnp, nI_clamp (show D.1.2.1 < 2 ^ 31 by omega), hvin, if_true]
  refine nBC (lo := 0) (hi := D.1.1 - 1) ht hp (by decide) (by omega) hT h2 (fun hn S1 e2 e5 e3 ef kk hT1 => ?_)
  have hin := tok_in t hp
  have ha := tok_v ht p hp (of_decide_eq_true hn).1
  generalize (tok t p).2.1 = a at e5 ha ⊢
  generalize (tok t p).2.2.2 = p1 at e2 hin ⊢
  show PCi _ S1 (Option.bind (p_X7_readNumber (0 : Int32) (((sI S1 13 D.1.2.1 (S1.1 1 5)).1 12 0) - (1 : Int32)) (sI S1 13 D.1.2.1 (S1.1 1 5))) _)
  rw [e5]
  have f1 : ∀ a' j, ¬ (a' = 1 ∧ (j = 2 ∨ j = 3 ∨ j = 4 ∨ j = 5)) → ¬ (a' = 13 ∧ j = D.1.2.1) → (sI S1 13 D.1.2.1 (nI a)).1 a' j = S.1 a' j := fun a' j q q' => (sI_ne (by omega)).trans (ef a' j q)
  rw [show (sI S1 13 D.1.2.1 (nI a)).1 12 0 - (1 : Int32) = nI (D.1.1 - 1) from by rw [f1 12 0 (by omega) (by omega), r1, hnp]]
  refine (nBC (lo := 0) (hi := D.1.1 - 1) (S := sI S1 13 D.1.2.1 (nI a)) ht hin.1 (by decide) (by omega) ((kR.sI (S := S1) (by decide)).RT hT1) ((sI_ne (by omega)).trans e2) (fun hn2 S2 g2 g5 g3 gf kk2 hT2 => ?_)).mono (kR.sI (by decide))
  have hin2 := tok_in t hin.1
  have hb := tok_v ht p1 hin.1 (of_decide_eq_true hn2).1
  generalize (tok t p1).2.1 = b at g5 hb ⊢
  generalize (tok t p1).2.2.1 = st at g3 ⊢
  generalize (tok t p1).2.2.2 = p2 at g2 hin2 ⊢
  have s13 : S2.1 13 D.1.2.1 = nI a := (gf _ _ (by omega)).trans (sI_eq ⟨rfl, rfl⟩)
  have f2 : ∀ a' j, ¬ (a' = 1 ∧ (j = 2 ∨ j = 3 ∨ j = 4 ∨ j = 5)) → ¬ (a' = 13 ∧ j = D.1.2.1) → S2.1 a' j = S.1 a' j := fun a' j q q' => (gf a' j q).trans (f1 a' j q q')
  show PCi (if b = a then .inl st else nB t p2 0 40 (fun c p3 => cls t p3 (addD D a b c))) S2 (if S2.1 1 5 = S2.1 13 D.1.2.1 then some ((0 : Int32), S2) else Option.bind (p_X7_readNumber (0 : Int32) (40 : Int32) (sI S2 14 D.1.2.1 (S2.1 1 5))) _)
  rw [s13, g5]
  by_cases eab : b = a
  · rw [if_pos eab, if_pos (by rw [eab])]
    exact ⟨S2, rfl, kR.rf S2, g3⟩
  · rw [if_neg eab, if_neg (by rw [eqN (by omega) (by omega)]; exact eab)]
    refine (nBC (lo := 0) (hi := 40) (S := sI S2 14 D.1.2.1 (nI b)) ht hin2.1 (by decide) (by decide) ((kR.sI (S := S2) (by decide)).RT hT2) ((sI_ne (by omega)).trans g2) (fun hn3 S3 h2 h5 h3 hf kk3 hT3 => ?_)).mono (kR.sI (by decide))
    have hin3 := tok_in t hin2.1
    generalize (tok t p2).2.1 = c at h5 ⊢
    generalize (tok t p2).2.2.2 = p3 at h2 hin3 ⊢
    have f3 : ∀ a' j, ¬ (a' = 1 ∧ (j = 2 ∨ j = 3 ∨ j = 4 ∨ j = 5)) → ¬ (a' = 13 ∧ j = D.1.2.1) → ¬ (a' = 14 ∧ j = D.1.2.1) → S3.1 a' j = S.1 a' j := fun a' j q q' q'' => (hf a' j q).trans ((sI_ne (by omega)).trans (f2 a' j q q'))
    have t13 : S3.1 13 D.1.2.1 = nI a := (hf _ _ (by omega)).trans ((sI_ne (by omega)).trans s13)
    have t14 : S3.1 14 D.1.2.1 = nI b := (hf _ _ (by omega)).trans (sI_eq ⟨rfl, rfl⟩)
    show PCi _ S3 (Option.bind (p_X7_readClose (sI (sI S3 15 D.1.2.1 (S3.1 1 5)) 12 1 (((sI S3 15 D.1.2.1 (S3.1 1 5)).1 12 1) + (1 : Int32)))) _)
    rw [h5, show (sI S3 15 D.1.2.1 (nI c)).1 12 1 + (1 : Int32) = nI (D.1.2.1 + 1) from by rw [sI_ne (by omega), f3 12 1 (by omega) (by omega) (by omega), r2]; exact nI_add _ 1]
    have kU : kR S3 (sI (sI S3 15 D.1.2.1 (nI c)) 12 1 (nI (D.1.2.1 + 1))) := (kR.sI (by decide)).tr (kR.sI (by decide))
    have fU : ∀ a' j, ¬ (a' = 1 ∧ (j = 2 ∨ j = 3 ∨ j = 4 ∨ j = 5)) → ¬ (a' = 13 ∧ j = D.1.2.1) → ¬ (a' = 14 ∧ j = D.1.2.1) → ¬ (a' = 15 ∧ j = D.1.2.1) → ¬ (a' = 12 ∧ j = 1) → (sI (sI S3 15 D.1.2.1 (nI c)) 12 1 (nI (D.1.2.1 + 1))).1 a' j = S.1 a' j := fun a' j q q1 q2 q3 q4 => (sI_ne (by omega)).trans ((sI_ne (by omega)).trans (f3 a' j q q1 q2))
    refine (clsC ht hin3.1 (kU.RT hT3) (by rw [sI_ne (by omega), sI_ne (by omega)]; exact h2) ?_).mono kU
    refine ⟨(fU _ _ (by omega) (by omega) (by omega) (by omega) (by omega)).trans r1, sI_eq ⟨rfl, rfl⟩, (fU _ _ (by omega) (by omega) (by omega) (by omega) (by omega)).trans r3, (fU _ _ (by omega) (by omega) (by omega) (by omega) (by omega)).trans r4, (fU _ _ (by omega) (by omega) (by omega) (by omega) (by omega)).trans r5, fun d hd => ?_, fun b' hb' => ?_⟩
    · have hd' : d < D.1.2.1 + 1 := hd
      show _ = nI (pu1 _ _ _ _) ∧ _ = nI (pu1 _ _ _ _) ∧ _ = nI (pu1 _ _ _ _)
      by_cases ed : d = D.1.2.1
      · subst ed
        rw [pu1_eq, pu1_eq, pu1_eq]
        refine ⟨?_, ?_, ?_⟩
        · rw [sI_ne (by omega), sI_ne (by omega)]; exact t13
        · rw [sI_ne (by omega), sI_ne (by omega)]; exact t14
        · rw [sI_ne (by omega)]; exact sI_eq ⟨rfl, rfl⟩
      · rw [pu1_ne _ _ _ ed, pu1_ne _ _ _ ed, pu1_ne _ _ _ ed, fU _ _ (by omega) (by omega) (by omega) (by omega) (by omega), fU _ _ (by omega) (by omega) (by omega) (by omega) (by omega), fU _ _ (by omega) (by omega) (by omega) (by omega) (by omega)]
        exact r6 d (by omega)
    · rw [fU _ _ (by omega) (by omega) (by omega) (by omega) (by omega), fU _ _ (by omega) (by omega) (by omega) (by omega) (by omega), fU _ _ (by omega) (by omega) (by omega) (by omega) (by omega), fU _ _ (by omega) (by omega) (by omega) (by omega) (by omega), fU _ _ (by omega) (by omega) (by omega) (by omega) (by omega)]
      exact r7 b' hb'
end PCT
