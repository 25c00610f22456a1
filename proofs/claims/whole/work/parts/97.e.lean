-- THE REFERENCE'S ITEMS, EACH WITH ITS CLOSE
section RMH
variable {t : Txt} {T : St}
theorem rdB (ht : WT t) {p : Nat} {D : Dft} (hw : WD D) (h5 : D.1.2.2.1 < 5) (hT : MT t T) (hq : QM t (.inr p) T) (hD : MD D T) (ag : Int32 → St → Option (Int32 × St)) (x : Nat) : PMi t (itB t p D) T ag x ((p_X10_readsItem (98 : Int32) T).bind (fun q74 => q_X10_city_77 ag (nI x) q74)) := by
  obtain ⟨d1, d2, d3, d4, d5, d6, d7⟩ := hD
  obtain ⟨T', a, b, x', y, z, r1, r2, r3, r4, r5, e, ha, h1, hb, h2, hx, h3, hy, h4, hz, h5', q5, v1, v2, v3, v4, v5, v6, f, g⟩ := itB_M (r := .inr p) ht ⟨hw.1, hw.2.1⟩ h5 hT hq d1 d3
  have kk : kQ T T' := ⟨fun a j q1 q2 q3 q4 => f a j (by omega) (by omega) (by omega), g⟩
  rw [e, Option.bind_some, itB_c t p D ha h1 hb h2 hx h3 hy h4 hz h5']
  refine (clP ht (kk.MT hT) q5 ⟨?_, ?_, v6, ?_, ?_, fun d hd => ?_, fun b' hb' => ?_⟩ ag x).mono kk
  · exact (f _ _ (by omega) (by omega) (by omega)).trans d1
  · exact (f _ _ (by omega) (by omega) (by omega)).trans d2
  · exact (f _ _ (by omega) (by omega) (by omega)).trans d4
  · exact (f _ _ (by omega) (by omega) (by omega)).trans d5
  · rw [f _ _ (by omega) (by omega) (by omega), f _ _ (by omega) (by omega) (by omega), f _ _ (by omega) (by omega) (by omega)]
    exact d6 d hd
  · have hb2 : b' < D.1.2.2.1 + 1 := hb'
    show _ = nI (pu1 _ _ _ _) ∧ _ = nI (pu1 _ _ _ _) ∧ _ = nI (pu1 _ _ _ _) ∧ _ = nI (pu1 _ _ _ _) ∧ _ = nI (pu1 _ _ _ _)
    by_cases ed : b' = D.1.2.2.1
    · subst ed
      rw [pu1_eq, pu1_eq, pu1_eq, pu1_eq, pu1_eq]
      exact ⟨v1, v2, v3, v4, v5⟩
    · rw [pu1_ne _ _ _ ed, pu1_ne _ _ _ ed, pu1_ne _ _ _ ed, pu1_ne _ _ _ ed, pu1_ne _ _ _ ed, f _ _ (by omega) (by omega) (by omega), f _ _ (by omega) (by omega) (by omega), f _ _ (by omega) (by omega) (by omega), f _ _ (by omega) (by omega) (by omega), f _ _ (by omega) (by omega) (by omega)]
      exact d7 b' (by omega)
theorem rdD (ht : WT t) {p : Nat} {D : Dft} (hw : WD D) (h8 : D.1.2.1 < 8) (hT : MT t T) (hq : QM t (.inr p) T) (hD : MD D T) (ag : Int32 → St → Option (Int32 × St)) (x : Nat) : PMi t (itD t p D) T ag x ((p_X10_readsItem (100 : Int32) T).bind (fun q74 => q_X10_city_77 ag (nI x) q74)) := by
  obtain ⟨d1, d2, d3, d4, d5, d6, d7⟩ := hD
  obtain ⟨T', a, b, x', r1, r2, r3, e, ha, h1, hb, h2, hx, h3, q3, v1, v2, v3, v6, f, g⟩ := itD_M (r := .inr p) ht ⟨hw.1, hw.2.1⟩ h8 hT hq d1 d2
  have kk : kQ T T' := ⟨fun a j q1 q2 q3 q4 => f a j (by omega) (by omega) (by omega), g⟩
  rw [e, Option.bind_some, itD_c t p D ha h1 hb h2 hx h3]
  refine (clP ht (kk.MT hT) q3 ⟨?_, v6, ?_, ?_, ?_, fun d hd => ?_, fun b' hb' => ?_⟩ ag x).mono kk
  · exact (f _ _ (by omega) (by omega) (by omega)).trans d1
  · exact (f _ _ (by omega) (by omega) (by omega)).trans d3
  · exact (f _ _ (by omega) (by omega) (by omega)).trans d4
  · exact (f _ _ (by omega) (by omega) (by omega)).trans d5
  · have hd2 : d < D.1.2.1 + 1 := hd
    show _ = nI (pu1 _ _ _ _) ∧ _ = nI (pu1 _ _ _ _) ∧ _ = nI (pu1 _ _ _ _)
    by_cases ed : d = D.1.2.1
    · subst ed
      rw [pu1_eq, pu1_eq, pu1_eq]
      exact ⟨v1, v2, v3⟩
    · rw [pu1_ne _ _ _ ed, pu1_ne _ _ _ ed, pu1_ne _ _ _ ed, f _ _ (by omega) (by omega) (by omega), f _ _ (by omega) (by omega) (by omega), f _ _ (by omega) (by omega) (by omega)]
      exact d6 d (by omega)
  · rw [f _ _ (by omega) (by omega) (by omega), f _ _ (by omega) (by omega) (by omega), f _ _ (by omega) (by omega) (by omega), f _ _ (by omega) (by omega) (by omega), f _ _ (by omega) (by omega) (by omega)]
    exact d7 b' hb'
theorem rdN (ht : WT t) {p : Nat} {D : Dft} (hT : MT t T) (hq : QM t (.inr p) T) (hD : MD D T) (ag : Int32 → St → Option (Int32 × St)) (x : Nat) : PMi t (itN t p D) T ag x ((p_X10_readsItem (110 : Int32) T).bind (fun q74 => q_X10_city_77 ag (nI x) q74)) := by
  obtain ⟨d1, d2, d3, d4, d5, d6, d7⟩ := hD
  obtain ⟨T', e, q3, v1, f, g⟩ := itN_M (r := .inr p) ht hT hq
  have kk : kQ T T' := ⟨fun a j q1 q2 q3 q4 => f a j (by omega) (by omega), g⟩
  rw [e, Option.bind_some, itN_c t p D]
  refine (clP ht (kk.MT hT) q3 ⟨v1, ?_, ?_, ?_, ?_, fun d hd => ?_, fun b' hb' => ?_⟩ ag x).mono kk
  · exact (f _ _ (by omega) (by omega)).trans d2
  · exact (f _ _ (by omega) (by omega)).trans d3
  · exact (f _ _ (by omega) (by omega)).trans d4
  · exact (f _ _ (by omega) (by omega)).trans d5
  · rw [f _ _ (by omega) (by omega), f _ _ (by omega) (by omega), f _ _ (by omega) (by omega)]
    exact d6 d hd
  · rw [f _ _ (by omega) (by omega), f _ _ (by omega) (by omega), f _ _ (by omega) (by omega), f _ _ (by omega) (by omega), f _ _ (by omega) (by omega)]
    exact d7 b' hb'
theorem rdS (ht : WT t) {p : Nat} {D : Dft} (hT : MT t T) (hq : QM t (.inr p) T) (hD : MD D T) (ag : Int32 → St → Option (Int32 × St)) (x : Nat) : PMi t (itS t p D) T ag x ((p_X10_readsItem (115 : Int32) T).bind (fun q74 => q_X10_city_77 ag (nI x) q74)) := by
  obtain ⟨d1, d2, d3, d4, d5, d6, d7⟩ := hD
  obtain ⟨T', e, q3, v1, v2, f, g⟩ := itS_M (r := .inr p) ht hT hq
  have kk : kQ T T' := ⟨fun a j q1 q2 q3 q4 => f a j (by omega) (by omega), g⟩
  rw [e, Option.bind_some, itS_c t p D]
  refine (clP ht (kk.MT hT) q3 ⟨?_, ?_, ?_, v1, v2, fun d hd => ?_, fun b' hb' => ?_⟩ ag x).mono kk
  · exact (f _ _ (by omega) (by omega)).trans d1
  · exact (f _ _ (by omega) (by omega)).trans d2
  · exact (f _ _ (by omega) (by omega)).trans d3
  · rw [f _ _ (by omega) (by omega), f _ _ (by omega) (by omega), f _ _ (by omega) (by omega)]
    exact d6 d hd
  · rw [f _ _ (by omega) (by omega), f _ _ (by omega) (by omega), f _ _ (by omega) (by omega), f _ _ (by omega) (by omega), f _ _ (by omega) (by omega)]
    exact d7 b' hb'
end RMH
