-- THE REFERENCE READS DOORS, PLACES, STEP
section RME
variable {t : Txt} {T : St}
theorem itD_M (ht : WT t) {r : Nat ⊕ Nat} {np nd : Nat} (hnp : 1 ≤ np ∧ np ≤ 8) (hnd : nd < 8) (hT : MT t T) (hq : QM t r T) (h4 : T.1 101 4 = nI np) (h5 : T.1 101 5 = nI nd) : ∃ T' a b x r1 r2 r3, p_X10_readsItem (100 : Int32) T = some T' ∧ a = nV t r 0 (np - 1) ∧ r1 = nS t r 0 (np - 1) ∧ b = nV2 t r1 (np - 1) a ∧ r2 = nS2 t r1 (np - 1) a ∧ x = nV t r2 0 40 ∧ r3 = nS t r2 0 40 ∧ QM t r3 T' ∧ T'.1 102 (8 + nd) = nI a ∧ T'.1 103 (8 + nd) = nI b ∧ T'.1 104 (8 + nd) = nI x ∧ T'.1 101 5 = nI (nd + 1) ∧ (∀ a j, ¬ (a = 99 ∧ (j = 4 ∨ j = 5 ∨ j = 6 ∨ j = 7 ∨ j = 8)) → ¬ (102 ≤ a ∧ a ≤ 104 ∧ j = 8 + nd) → ¬ (a = 101 ∧ j = 5) → T'.1 a j = T.1 a j) ∧ T'.2 = T.2 := by
  have hnp1 : nI np - (1 : Int32) = nI (np - 1) := nI_subN (b := 1) hnp.1
  obtain ⟨T1, e1, q1, f1, g1⟩ := numM (lo := 0) (hi := np - 1) ht (by decide) (by omega) hT hq
  obtain ⟨a, ha⟩ : ∃ a, a = nV t r 0 (np - 1) := ⟨_, rfl⟩
  obtain ⟨r1, hr1⟩ : ∃ r1, r1 = nS t r 0 (np - 1) := ⟨_, rfl⟩
  have ha8 : a ≤ np - 1 := by rw [ha]; exact nV_le _ _ _ _
  rw [← hr1] at q1
  rw [← ha] at e1
  obtain ⟨U, hU⟩ : ∃ U, U = sI T1 102 (8 + nd) (nI a) := ⟨_, rfl⟩
  have mt1 : MT t U := by rw [hU]; exact hT.cg (by rw [sI_ne (by omega), f1 _ _ (by omega)]) (fun j => by rw [sI_ne (by omega), f1 _ _ (by omega)])
  have uq : QM t r1 U := by rw [hU]; exact q1.cg (fun j _ _ => sI_ne (by omega))
  have u102 : U.1 102 (8 + nd) = nI a := by rw [hU]; exact sI_eq ⟨rfl, rfl⟩
  have uf : ∀ a j, ¬ (a = 99 ∧ (j = 4 ∨ j = 5 ∨ j = 6 ∨ j = 7 ∨ j = 8)) → ¬ (102 ≤ a ∧ a ≤ 104 ∧ j = 8 + nd) → U.1 a j = T.1 a j := fun a j c1 c2 => by rw [hU, sI_ne (by omega), f1 a j c1]
  have ul : U.2 = T.2 := by rw [hU]; exact g1
  obtain ⟨y0, T2, hy, e2, q2, f2, g2⟩ := secM (hi := np - 1) (a := a) (T := U) ht (by omega) (by omega) mt1 uq (f := fun y => q_X10_readsItem_103 (nI (8 + nd)) y (nI (8 + nd)) U)
  obtain ⟨b, hb⟩ : ∃ b, b = nV2 t r1 (np - 1) a := ⟨_, rfl⟩
  obtain ⟨r2, hr2⟩ : ∃ r2, r2 = nS2 t r1 (np - 1) a := ⟨_, rfl⟩
  rw [← hr2] at q2
  rw [← hb] at e2
  have mt2 : MT t (sI T2 103 (8 + nd) (nI b)) := mt1.cg (by rw [sI_ne (by omega), f2 _ _ (by omega)]) (fun j => by rw [sI_ne (by omega), f2 _ _ (by omega)])
  obtain ⟨T3, e3, q3, f3, g3⟩ := numM (lo := 0) (hi := 40) (T := sI T2 103 (8 + nd) (nI b)) ht (by decide) (by decide) mt2 (q2.cg (fun j _ _ => sI_ne (by omega)))
  obtain ⟨x, hx⟩ : ∃ x, x = nV t r2 0 40 := ⟨_, rfl⟩
  obtain ⟨r3, hr3⟩ : ∃ r3, r3 = nS t r2 0 40 := ⟨_, rfl⟩
  rw [← hr3] at q3
  rw [← hx] at e3
  have F3 : ∀ a j, ¬ (a = 99 ∧ (j = 4 ∨ j = 5 ∨ j = 6 ∨ j = 7 ∨ j = 8)) → ¬ (102 ≤ a ∧ a ≤ 104 ∧ j = 8 + nd) → T3.1 a j = T.1 a j := fun a j c1 c2 => by rw [f3 a j c1, sI_ne (by omega), f2 a j c1, uf a j c1 c2]
  have v2 : T3.1 102 (8 + nd) = nI a := by rw [f3 _ _ (by omega), sI_ne (by omega), f2 _ _ (by omega)]; exact u102
  have v3 : T3.1 103 (8 + nd) = nI b := by rw [f3 _ _ (by omega)]; exact sI_eq ⟨rfl, rfl⟩
  have v15 : (sI T3 104 (8 + nd) (nI x)).1 101 5 = nI nd := by rw [sI_ne (by omega), F3 101 5 (by omega) (by omega)]; exact h5
  have i8 : vin (nI (8 + nd)) 16 = True := vin_t (by omega)
  have i5 : vin (5 : Int32) 8 = True := vin_t (i := 5) (by omega)
  have last : q_X10_readsItem_103 (nI (8 + nd)) y0 (nI (8 + nd)) U = some (sI (sI T3 104 (8 + nd) (nI x)) 101 5 (nI (nd + 1))) := by
    unfold q_X10_readsItem_103
    simp only [i8, i5, if_true, nI_clamp (show 8 + nd < 2 ^ 31 by omega)]
    rw [e2, Option.bind_some]
    show Option.bind (p_X10_number (0 : Int32) (40 : Int32) (sI T2 103 (8 + nd) (nI b))) _ = _
    rw [show p_X10_number (0 : Int32) (40 : Int32) (sI T2 103 (8 + nd) (nI b)) = some (nI x, T3) from e3, Option.bind_some]
    show some (sI (sI T3 104 (8 + nd) (nI x)) 101 5 ((sI T3 104 (8 + nd) (nI x)).1 101 5 + (1 : Int32))) = _
    rw [v15, show nI nd + (1 : Int32) = nI (nd + 1) from nI_add nd 1]
  refine ⟨sI (sI T3 104 (8 + nd) (nI x)) 101 5 (nI (nd + 1)), a, b, x, r1, r2, r3, ?_, ha, hr1, hb, hr2, hx, hr3, q3.cg (fun j _ _ => by rw [sI_ne (by omega), sI_ne (by omega)]), ?_, ?_, ?_, sI_eq ⟨rfl, rfl⟩, fun a j c1 c2 c3 => by rw [sI_ne (by omega), sI_ne (by omega), F3 a j c1 c2], ?_⟩
  · unfold p_X10_readsItem
    have c1 : ((100 : Int32) = 110) = False := by decide
    have c2 : ((100 : Int32) = 100) = True := by decide
    have i4 : vin (4 : Int32) 8 = True := vin_t (i := 4) (by omega)
    have d4 : T.1 101 (4 : Int32).toNatClampNeg = nI np := h4
    have d5 : T.1 101 (5 : Int32).toNatClampNeg = nI nd := h5
    simp only [c1, c2, if_true, if_false, i4, i5, d4, d5, show (8 : Int32) + nI nd = nI (8 + nd) from nI_add 8 nd, i8, nI_clamp (show 8 + nd < 2 ^ 31 by omega), hnp1]
    rw [show p_X10_number (0 : Int32) (nI (np - 1)) T = some (nI a, T1) from e1, Option.bind_some]
    rw [← last, ← hy]
    show (if (sI T1 102 (8 + nd) (nI a)).1 99 5 = (2 : Int32) then (p_X10_in ((sI T1 102 (8 + nd) (nI a)).1 99 7) (0 : Int32) (nI (np - 1)) (sI T1 102 (8 + nd) (nI a))).bind _ else q_X10_readsItem_103 (nI (8 + nd)) (0 : Int32) (nI (8 + nd)) (sI T1 102 (8 + nd) (nI a))) = _
    rw [← hU, inb_m, Option.bind_some, inb_m, Option.bind_some]
    show (if U.1 99 5 = (2 : Int32) then (if nI (bN (inb (U.1 99 7) (nI 0) (nI (np - 1)))) = (0 : Int32) then q_X10_readsItem_103 (nI (8 + nd)) (0 : Int32) (nI (8 + nd)) U else (if U.1 99 7 = U.1 102 (8 + nd) then q_X10_readsItem_103 (nI (8 + nd)) (0 : Int32) (nI (8 + nd)) U else q_X10_readsItem_103 (nI (8 + nd)) (1 : Int32) (nI (8 + nd)) U)) else q_X10_readsItem_103 (nI (8 + nd)) (0 : Int32) (nI (8 + nd)) U) = _
    rw [u102]
  · rw [sI_ne (by omega), sI_ne (by omega)]; exact v2
  · rw [sI_ne (by omega), sI_ne (by omega)]; exact v3
  · rw [sI_ne (by omega)]; exact sI_eq ⟨rfl, rfl⟩
  · show T3.2 = T.2
    rw [g3]; show T2.2 = T.2; rw [g2]; exact ul
end RME
