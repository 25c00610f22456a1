-- THE REFERENCE READS BOYS
theorem nV_le (t : Txt) (r : Nat ⊕ Nat) (lo hi : Nat) : nV t r lo hi ≤ hi := by
  cases r with
  | inl e => exact Nat.zero_le _
  | inr p =>
    rw [nV_r]
    cases e : nok t p lo hi with
    | false => exact Nat.zero_le _
    | true => exact (of_decide_eq_true e).2.2
theorem QM.cg {t : Txt} {r : Nat ⊕ Nat} {T T' : St} (h : QM t r T) (e : ∀ j, 4 ≤ j → j ≤ 8 → T'.1 99 j = T.1 99 j) : QM t r T' := by
  cases r with
  | inl x => exact ⟨(e 8 (by omega) (by omega)).trans h.1, h.2⟩
  | inr p =>
    obtain ⟨h1, h2, h3, h4, h5, h6⟩ := h
    exact ⟨(e 8 (by omega) (by omega)).trans h1, h2, (e 4 (by omega) (by omega)).trans h3, (e 5 (by omega) (by omega)).trans h4, (e 6 (by omega) (by omega)).trans h5, fun q => (e 7 (by omega) (by omega)).trans (h6 q)⟩
section RMB
variable {t : Txt} {T : St}
theorem itB_M (ht : WT t) {r : Nat ⊕ Nat} {np nb : Nat} (hnp : 1 ≤ np ∧ np ≤ 8) (hnb : nb < 5) (hT : MT t T) (hq : QM t r T) (h4 : T.1 101 4 = nI np) (h6 : T.1 101 6 = nI nb) : ∃ T' a b x y z r1 r2 r3 r4 r5, p_X10_readsItem (98 : Int32) T = some T' ∧ a = nV t r 0 40 ∧ r1 = nS t r 0 40 ∧ b = nV t r1 a 40 ∧ r2 = nS t r1 a 40 ∧ x = nV t r2 7 20 ∧ r3 = nS t r2 7 20 ∧ y = nV t r3 7 20 ∧ r4 = nS t r3 7 20 ∧ z = nV t r4 0 (np - 1) ∧ r5 = nS t r4 0 (np - 1) ∧ QM t r5 T' ∧ T'.1 105 (5 + nb) = nI a ∧ T'.1 106 (5 + nb) = nI b ∧ T'.1 107 (5 + nb) = nI x ∧ T'.1 108 (5 + nb) = nI y ∧ T'.1 109 (5 + nb) = nI z ∧ T'.1 101 6 = nI (nb + 1) ∧ (∀ a j, ¬ (a = 99 ∧ (j = 4 ∨ j = 5 ∨ j = 6 ∨ j = 7 ∨ j = 8)) → ¬ (105 ≤ a ∧ a ≤ 109 ∧ j = 5 + nb) → ¬ (a = 101 ∧ j = 6) → T'.1 a j = T.1 a j) ∧ T'.2 = T.2 := by
  have hnp1 : nI np - (1 : Int32) = nI (np - 1) := nI_subN (b := 1) hnp.1
  obtain ⟨T1, e1, q1, f1, g1⟩ := numM (lo := 0) (hi := 40) ht (by decide) (by decide) hT hq
  obtain ⟨a, ha⟩ : ∃ a, a = nV t r 0 40 := ⟨_, rfl⟩
  obtain ⟨r1, hr1⟩ : ∃ r1, r1 = nS t r 0 40 := ⟨_, rfl⟩
  have ha40 : a ≤ 40 := by rw [ha]; exact nV_le _ _ _ _
  rw [← hr1] at q1
  rw [← ha] at e1
  have mt1 : MT t (sI T1 105 (5 + nb) (nI a)) := hT.cg (by rw [sI_ne (by omega), f1 _ _ (by omega)]) (fun j => by rw [sI_ne (by omega), f1 _ _ (by omega)])
  obtain ⟨T2, e2, q2, f2, g2⟩ := numM (lo := a) (hi := 40) (T := sI T1 105 (5 + nb) (nI a)) ht (by omega) (by decide) mt1 (q1.cg (fun j _ _ => sI_ne (by omega)))
  obtain ⟨b, hb⟩ : ∃ b, b = nV t r1 a 40 := ⟨_, rfl⟩
  obtain ⟨r2, hr2⟩ : ∃ r2, r2 = nS t r1 a 40 := ⟨_, rfl⟩
  rw [← hr2] at q2
  rw [← hb] at e2
  have mt2 : MT t (sI T2 106 (5 + nb) (nI b)) := mt1.cg (by rw [sI_ne (by omega), f2 _ _ (by omega)]) (fun j => by rw [sI_ne (by omega), f2 _ _ (by omega)])
  obtain ⟨T3, e3, q3, f3, g3⟩ := numM (lo := 7) (hi := 20) (T := sI T2 106 (5 + nb) (nI b)) ht (by decide) (by decide) mt2 (q2.cg (fun j _ _ => sI_ne (by omega)))
  obtain ⟨x, hx⟩ : ∃ x, x = nV t r2 7 20 := ⟨_, rfl⟩
  obtain ⟨r3, hr3⟩ : ∃ r3, r3 = nS t r2 7 20 := ⟨_, rfl⟩
  rw [← hr3] at q3
  rw [← hx] at e3
  have mt3 : MT t (sI T3 107 (5 + nb) (nI x)) := mt2.cg (by rw [sI_ne (by omega), f3 _ _ (by omega)]) (fun j => by rw [sI_ne (by omega), f3 _ _ (by omega)])
  obtain ⟨T4, e4, q4, f4, g4⟩ := numM (lo := 7) (hi := 20) (T := sI T3 107 (5 + nb) (nI x)) ht (by decide) (by decide) mt3 (q3.cg (fun j _ _ => sI_ne (by omega)))
  obtain ⟨y, hy⟩ : ∃ y, y = nV t r3 7 20 := ⟨_, rfl⟩
  obtain ⟨r4, hr4⟩ : ∃ r4, r4 = nS t r3 7 20 := ⟨_, rfl⟩
  rw [← hr4] at q4
  rw [← hy] at e4
  have mt4 : MT t (sI T4 108 (5 + nb) (nI y)) := mt3.cg (by rw [sI_ne (by omega), f4 _ _ (by omega)]) (fun j => by rw [sI_ne (by omega), f4 _ _ (by omega)])
  obtain ⟨T5, e5, q5, f5, g5⟩ := numM (lo := 0) (hi := np - 1) (T := sI T4 108 (5 + nb) (nI y)) ht (by decide) (by omega) mt4 (q4.cg (fun j _ _ => sI_ne (by omega)))
  obtain ⟨z, hz⟩ : ∃ z, z = nV t r4 0 (np - 1) := ⟨_, rfl⟩
  obtain ⟨r5, hr5⟩ : ∃ r5, r5 = nS t r4 0 (np - 1) := ⟨_, rfl⟩
  rw [← hr5] at q5
  rw [← hz] at e5
  have F5 : ∀ a j, ¬ (a = 99 ∧ (j = 4 ∨ j = 5 ∨ j = 6 ∨ j = 7 ∨ j = 8)) → ¬ (105 ≤ a ∧ a ≤ 109 ∧ j = 5 + nb) → T5.1 a j = T.1 a j := fun a j c1 c2 => by
    rw [f5 a j c1, sI_ne (by omega), f4 a j c1, sI_ne (by omega), f3 a j c1, sI_ne (by omega), f2 a j c1, sI_ne (by omega), f1 a j c1]
  have v5 : T5.1 105 (5 + nb) = nI a := by rw [f5 _ _ (by omega), sI_ne (by omega), f4 _ _ (by omega), sI_ne (by omega), f3 _ _ (by omega), sI_ne (by omega), f2 _ _ (by omega)]; exact sI_eq ⟨rfl, rfl⟩
  have v6 : T5.1 106 (5 + nb) = nI b := by rw [f5 _ _ (by omega), sI_ne (by omega), f4 _ _ (by omega), sI_ne (by omega), f3 _ _ (by omega)]; exact sI_eq ⟨rfl, rfl⟩
  have v7 : T5.1 107 (5 + nb) = nI x := by rw [f5 _ _ (by omega), sI_ne (by omega), f4 _ _ (by omega)]; exact sI_eq ⟨rfl, rfl⟩
  have v8 : T5.1 108 (5 + nb) = nI y := by rw [f5 _ _ (by omega)]; exact sI_eq ⟨rfl, rfl⟩
  have v16 : (sI T5 109 (5 + nb) (nI z)).1 101 6 = nI nb := by rw [sI_ne (by omega), F5 101 6 (by omega) (by omega)]; exact h6
  refine ⟨sI (sI T5 109 (5 + nb) (nI z)) 101 6 (nI (nb + 1)), a, b, x, y, z, r1, r2, r3, r4, r5, ?_, ha, hr1, hb, hr2, hx, hr3, hy, hr4, hz, hr5, q5.cg (fun j _ _ => by rw [sI_ne (by omega), sI_ne (by omega)]), ?_, ?_, ?_, ?_, ?_, sI_eq ⟨rfl, rfl⟩, fun a j c1 c2 c3 => by rw [sI_ne (by omega), sI_ne (by omega), F5 a j c1 c2], ?_⟩
  · unfold p_X10_readsItem
    have c1 : ((98 : Int32) = 110) = False := by decide
    have c2 : ((98 : Int32) = 100) = False := by decide
    have i5 : vin (nI (5 + nb)) 10 = True := vin_t (by omega)
    have i4 : vin (4 : Int32) 8 = True := vin_t (i := 4) (by omega)
    have i6 : vin (6 : Int32) 8 = True := vin_t (i := 6) (by omega)
    have d4 : T.1 101 (4 : Int32).toNatClampNeg = nI np := h4
    have d6 : T.1 101 (6 : Int32).toNatClampNeg = nI nb := h6
    simp only [c1, c2, if_true, if_false, i4, i6, d4, d6, show (5 : Int32) + nI nb = nI (5 + nb) from nI_add 5 nb, i5, nI_clamp (show 5 + nb < 2 ^ 31 by omega), hnp1]
    rw [show p_X10_number (0 : Int32) (40 : Int32) T = some (nI a, T1) from e1, Option.bind_some]
    show Option.bind (p_X10_number ((sI T1 105 (5 + nb) (nI a)).1 105 (5 + nb)) (40 : Int32) (sI T1 105 (5 + nb) (nI a))) _ = _
    rw [sI_eq ⟨rfl, rfl⟩, show p_X10_number (nI a) (40 : Int32) (sI T1 105 (5 + nb) (nI a)) = some (nI b, T2) from e2, Option.bind_some]
    show Option.bind (p_X10_number (7 : Int32) (20 : Int32) (sI T2 106 (5 + nb) (nI b))) _ = _
    rw [show p_X10_number (7 : Int32) (20 : Int32) (sI T2 106 (5 + nb) (nI b)) = some (nI x, T3) from e3, Option.bind_some]
    show Option.bind (p_X10_number (7 : Int32) (20 : Int32) (sI T3 107 (5 + nb) (nI x))) _ = _
    rw [show p_X10_number (7 : Int32) (20 : Int32) (sI T3 107 (5 + nb) (nI x)) = some (nI y, T4) from e4, Option.bind_some]
    show Option.bind (p_X10_number (0 : Int32) (nI (np - 1)) (sI T4 108 (5 + nb) (nI y))) _ = _
    rw [show p_X10_number (0 : Int32) (nI (np - 1)) (sI T4 108 (5 + nb) (nI y)) = some (nI z, T5) from e5, Option.bind_some]
    show some (sI (sI T5 109 (5 + nb) (nI z)) 101 6 ((sI T5 109 (5 + nb) (nI z)).1 101 6 + (1 : Int32))) = _
    rw [v16, show nI nb + (1 : Int32) = nI (nb + 1) from nI_add nb 1]
  · rw [sI_ne (by omega), sI_ne (by omega)]; exact v5
  · rw [sI_ne (by omega), sI_ne (by omega)]; exact v6
  · rw [sI_ne (by omega), sI_ne (by omega)]; exact v7
  · rw [sI_ne (by omega), sI_ne (by omega)]; exact v8
  · rw [sI_ne (by omega)]; exact sI_eq ⟨rfl, rfl⟩
  · show T5.2 = T.2
    rw [g5]; show T4.2 = T.2; rw [g4]; show T3.2 = T.2; rw [g3]; show T2.2 = T.2; rw [g2]; exact g1
end RMB
