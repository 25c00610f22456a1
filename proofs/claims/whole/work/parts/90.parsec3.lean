-- THE CLASS READS BOYS
section PCU
variable {t : Txt} {S : St}
theorem itB_C (ht : WT t) {p : Nat} (hp : p ≤ t.1) (hT : RT t S) (h2 : S.1 1 2 = nI p) {D : Dft} (hw : WD D) (hD : RD D S) (hn5 : D.1.2.2.1 < 5) : PCi (itB t p D) S (p_X7_readBoy S) := by
  obtain ⟨w1, w2, w3, w4, w5, w6, w7, w8⟩ := hw
  obtain ⟨r1, r2, r3, r4, r5, r6, r7⟩ := id hD
  have hnp : nI D.1.1 - (1 : Int32) = nI (D.1.1 - 1) := nI_subN (b := 1) w1
  have hvin : vin (nI D.1.2.2.1) 5 = True := vin_t (by omega)
  unfold p_X7_readBoy itB
  simp only [r3, nI_clamp (show D.1.2.2.1 < 2 ^ 31 by omega), hvin, if_true]
  refine nBC (lo := 0) (hi := 40) ht hp (by decide) (by decide) hT h2 (fun hn S1 e2 e5 e3 ef kk hT1 => ?_)
  have hin := tok_in t hp
  have ha := tok_v ht p hp (of_decide_eq_true hn).1
  generalize (tok t p).2.1 = a at e5 ha ⊢
  generalize (tok t p).2.2.2 = p1 at e2 hin ⊢
  show PCi _ S1 (Option.bind (p_X7_readNumber ((sI S1 16 D.1.2.2.1 (S1.1 1 5)).1 16 D.1.2.2.1) (40 : Int32) (sI S1 16 D.1.2.2.1 (S1.1 1 5))) _)
  rw [sI_eq ⟨rfl, rfl⟩, e5]
  have f1 : ∀ a' j, ¬ (a' = 1 ∧ (j = 2 ∨ j = 3 ∨ j = 4 ∨ j = 5)) → ¬ (16 ≤ a' ∧ a' ≤ 20 ∧ j = D.1.2.2.1) → (sI S1 16 D.1.2.2.1 (nI a)).1 a' j = S.1 a' j := fun a' j q q' => (sI_ne (by omega)).trans (ef a' j q)
  refine (nBC (lo := a) (hi := 40) (S := sI S1 16 D.1.2.2.1 (nI a)) ht hin.1 (by omega) (by decide) ((kR.sI (S := S1) (by decide)).RT hT1) ((sI_ne (by omega)).trans e2) (fun hn2 S2 g2 g5 g3 gf kk2 hT2 => ?_)).mono (kR.sI (by decide))
  have hin2 := tok_in t hin.1
  generalize (tok t p1).2.1 = b at g5 ⊢
  generalize (tok t p1).2.2.2 = p2 at g2 hin2 ⊢
  have s16 : S2.1 16 D.1.2.2.1 = nI a := (gf _ _ (by omega)).trans (sI_eq ⟨rfl, rfl⟩)
  have f2 : ∀ a' j, ¬ (a' = 1 ∧ (j = 2 ∨ j = 3 ∨ j = 4 ∨ j = 5)) → ¬ (16 ≤ a' ∧ a' ≤ 20 ∧ j = D.1.2.2.1) → S2.1 a' j = S.1 a' j := fun a' j q q' => (gf a' j q).trans (f1 a' j q q')
  show PCi _ S2 (Option.bind (p_X7_readNumber (7 : Int32) (20 : Int32) (sI S2 17 D.1.2.2.1 (S2.1 1 5))) _)
  rw [g5]
  refine (nBC (lo := 7) (hi := 20) (S := sI S2 17 D.1.2.2.1 (nI b)) ht hin2.1 (by decide) (by decide) ((kR.sI (S := S2) (by decide)).RT hT2) ((sI_ne (by omega)).trans g2) (fun hn3 S3 h2 h5 h3 hf kk3 hT3 => ?_)).mono (kR.sI (by decide))
  have hin3 := tok_in t hin2.1
  generalize (tok t p2).2.1 = x at h5 ⊢
  generalize (tok t p2).2.2.2 = p3 at h2 hin3 ⊢
  have f3 : ∀ a' j, ¬ (a' = 1 ∧ (j = 2 ∨ j = 3 ∨ j = 4 ∨ j = 5)) → ¬ (16 ≤ a' ∧ a' ≤ 20 ∧ j = D.1.2.2.1) → S3.1 a' j = S.1 a' j := fun a' j q q' => (hf a' j q).trans ((sI_ne (by omega)).trans (f2 a' j q q'))
  have t16 : S3.1 16 D.1.2.2.1 = nI a := (hf _ _ (by omega)).trans ((sI_ne (by omega)).trans s16)
  have t17 : S3.1 17 D.1.2.2.1 = nI b := (hf _ _ (by omega)).trans (sI_eq ⟨rfl, rfl⟩)
  show PCi _ S3 (Option.bind (p_X7_readNumber (7 : Int32) (20 : Int32) (sI S3 18 D.1.2.2.1 (S3.1 1 5))) _)
  rw [h5]
  refine (nBC (lo := 7) (hi := 20) (S := sI S3 18 D.1.2.2.1 (nI x)) ht hin3.1 (by decide) (by decide) ((kR.sI (S := S3) (by decide)).RT hT3) ((sI_ne (by omega)).trans h2) (fun hn4 S4 i2 i5 i3 jf kk4 hT4 => ?_)).mono (kR.sI (by decide))
  have hin4 := tok_in t hin3.1
  generalize (tok t p3).2.1 = y at i5 ⊢
  generalize (tok t p3).2.2.2 = p4 at i2 hin4 ⊢
  have f4 : ∀ a' j, ¬ (a' = 1 ∧ (j = 2 ∨ j = 3 ∨ j = 4 ∨ j = 5)) → ¬ (16 ≤ a' ∧ a' ≤ 20 ∧ j = D.1.2.2.1) → S4.1 a' j = S.1 a' j := fun a' j q q' => (jf a' j q).trans ((sI_ne (by omega)).trans (f3 a' j q q'))
  have u16 : S4.1 16 D.1.2.2.1 = nI a := (jf _ _ (by omega)).trans ((sI_ne (by omega)).trans t16)
  have u17 : S4.1 17 D.1.2.2.1 = nI b := (jf _ _ (by omega)).trans ((sI_ne (by omega)).trans t17)
  have u18 : S4.1 18 D.1.2.2.1 = nI x := (jf _ _ (by omega)).trans (sI_eq ⟨rfl, rfl⟩)
  show PCi _ S4 (Option.bind (p_X7_readNumber (0 : Int32) (((sI S4 19 D.1.2.2.1 (S4.1 1 5)).1 12 0) - (1 : Int32)) (sI S4 19 D.1.2.2.1 (S4.1 1 5))) _)
  rw [i5, show (sI S4 19 D.1.2.2.1 (nI y)).1 12 0 - (1 : Int32) = nI (D.1.1 - 1) from by rw [sI_ne (by omega), f4 12 0 (by omega) (by omega), r1, hnp]]
  refine (nBC (lo := 0) (hi := D.1.1 - 1) (S := sI S4 19 D.1.2.2.1 (nI y)) ht hin4.1 (by decide) (by omega) ((kR.sI (S := S4) (by decide)).RT hT4) ((sI_ne (by omega)).trans i2) (fun hn5 S5 k2 k5 k3 kf kk5 hT5 => ?_)).mono (kR.sI (by decide))
  have hin5 := tok_in t hin4.1
  generalize (tok t p4).2.1 = z at k5 ⊢
  generalize (tok t p4).2.2.2 = p5 at k2 hin5 ⊢
  have f5 : ∀ a' j, ¬ (a' = 1 ∧ (j = 2 ∨ j = 3 ∨ j = 4 ∨ j = 5)) → ¬ (16 ≤ a' ∧ a' ≤ 20 ∧ j = D.1.2.2.1) → S5.1 a' j = S.1 a' j := fun a' j q q' => (kf a' j q).trans ((sI_ne (by omega)).trans (f4 a' j q q'))
  have v16 : S5.1 16 D.1.2.2.1 = nI a := (kf _ _ (by omega)).trans ((sI_ne (by omega)).trans u16)
  have v17 : S5.1 17 D.1.2.2.1 = nI b := (kf _ _ (by omega)).trans ((sI_ne (by omega)).trans u17)
  have v18 : S5.1 18 D.1.2.2.1 = nI x := (kf _ _ (by omega)).trans ((sI_ne (by omega)).trans u18)
  have v19 : S5.1 19 D.1.2.2.1 = nI y := (kf _ _ (by omega)).trans (sI_eq ⟨rfl, rfl⟩)
  show PCi _ S5 (Option.bind (p_X7_readClose (sI (sI S5 20 D.1.2.2.1 (S5.1 1 5)) 12 2 (((sI S5 20 D.1.2.2.1 (S5.1 1 5)).1 12 2) + (1 : Int32)))) _)
  rw [k5, show (sI S5 20 D.1.2.2.1 (nI z)).1 12 2 + (1 : Int32) = nI (D.1.2.2.1 + 1) from by rw [sI_ne (by omega), f5 12 2 (by omega) (by omega), r3]; exact nI_add _ 1]
  have kU : kR S5 (sI (sI S5 20 D.1.2.2.1 (nI z)) 12 2 (nI (D.1.2.2.1 + 1))) := (kR.sI (by decide)).tr (kR.sI (by decide))
  have fU : ∀ a' j, ¬ (a' = 1 ∧ (j = 2 ∨ j = 3 ∨ j = 4 ∨ j = 5)) → ¬ (16 ≤ a' ∧ a' ≤ 20 ∧ j = D.1.2.2.1) → ¬ (a' = 12 ∧ j = 2) → (sI (sI S5 20 D.1.2.2.1 (nI z)) 12 2 (nI (D.1.2.2.1 + 1))).1 a' j = S.1 a' j := fun a' j q q1 q2 => (sI_ne (by omega)).trans ((sI_ne (by omega)).trans (f5 a' j q q1))
  refine (clsC ht hin5.1 (kU.RT hT5) (by rw [sI_ne (by omega), sI_ne (by omega)]; exact k2) ?_).mono kU
  refine ⟨(fU _ _ (by omega) (by omega) (by omega)).trans r1, (fU _ _ (by omega) (by omega) (by omega)).trans r2, sI_eq ⟨rfl, rfl⟩, (fU _ _ (by omega) (by omega) (by omega)).trans r4, (fU _ _ (by omega) (by omega) (by omega)).trans r5, fun d hd => ?_, fun b' hb' => ?_⟩
  · rw [fU _ _ (by omega) (by omega) (by omega), fU _ _ (by omega) (by omega) (by omega), fU _ _ (by omega) (by omega) (by omega)]
    exact r6 d hd
  · have hb2 : b' < D.1.2.2.1 + 1 := hb'
    show _ = nI (pu1 _ _ _ _) ∧ _ = nI (pu1 _ _ _ _) ∧ _ = nI (pu1 _ _ _ _) ∧ _ = nI (pu1 _ _ _ _) ∧ _ = nI (pu1 _ _ _ _)
    by_cases ed : b' = D.1.2.2.1
    · subst ed
      rw [pu1_eq, pu1_eq, pu1_eq, pu1_eq, pu1_eq]
      refine ⟨?_, ?_, ?_, ?_, ?_⟩
      · rw [sI_ne (by omega), sI_ne (by omega)]; exact v16
      · rw [sI_ne (by omega), sI_ne (by omega)]; exact v17
      · rw [sI_ne (by omega), sI_ne (by omega)]; exact v18
      · rw [sI_ne (by omega), sI_ne (by omega)]; exact v19
      · rw [sI_ne (by omega)]; exact sI_eq ⟨rfl, rfl⟩
    · rw [pu1_ne _ _ _ ed, pu1_ne _ _ _ ed, pu1_ne _ _ _ ed, pu1_ne _ _ _ ed, pu1_ne _ _ _ ed, fU _ _ (by omega) (by omega) (by omega), fU _ _ (by omega) (by omega) (by omega), fU _ _ (by omega) (by omega) (by omega), fU _ _ (by omega) (by omega) (by omega), fU _ _ (by omega) (by omega) (by omega)]
      exact r7 b' (by omega)
end PCU
