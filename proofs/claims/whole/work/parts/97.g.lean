-- THE HEAD OF AN ITEM, ON
section RMJ
variable {t : Txt} {T : St}
theorem headP (ht : WT t) {p x : Nat} (hx : x < 1000) (hT : MT t T) (hq : QM t (.inr p) T) {D : Dft} (hw : WD D) (hD : MD D T) (ag : Int32 → St → Option (Int32 × St)) : PMi t (item t p x D) T ag x (if T.1 99 5 = (1 : Int32) then (p_X10_mayBegin (nI x) T).bind (fun (q50 : Int32 × St) => if q50.1 = 0 then q_X10_city_60 ag (nI x) q50.2 else q_X10_city_61 ag (nI x) (1 : Int32) q50.2) else q_X10_city_60 ag (nI x) T) := by
  have hq' := hq
  obtain ⟨h8, hp, hm⟩ := hq'
  have hin := tok_in t hp
  have k1 := (tok_k (t := t) p).1
  obtain ⟨w1, w2, w3, w4, w5, w6, w7, w8⟩ := id hw
  obtain ⟨d1, d2, d3, d4, d5, d6, d7⟩ := id hD
  have bad := badP ht hT hq ag x
  rw [hm.2.1]
  unfold item
  by_cases e1 : (tok t p).1 = 1
  · have h7 : T.1 99 7 = nI (tok t p).2.1 := hm.2.2.2 (Or.inl e1)
    have good := fun (r : Nat ⊕ (Nat × Dft)) hr => goodP (r := r) ht hT hq e1 hD ag x hr
    have may : ∀ v : Bool, p_X10_mayBegin (nI x) T = some (nI (bN v), T) → ∀ r, (v = false → r = .inl (tok t p).2.2.1) → (v = true → PMi t r T ag x (q_X10_city_61 ag (nI x) (1 : Int32) T)) → PMi t r T ag x (if nI (tok t p).1 = (1 : Int32) then (p_X10_mayBegin (nI x) T).bind (fun (q50 : Int32 × St) => if q50.1 = 0 then q_X10_city_60 ag (nI x) q50.2 else q_X10_city_61 ag (nI x) (1 : Int32) q50.2) else q_X10_city_60 ag (nI x) T) := by
      intro v hv r hf htr
      rw [if_pos (show nI (tok t p).1 = (1 : Int32) by rw [e1]; rfl), hv, Option.bind_some]
      cases v with
      | false =>
        rw [hf rfl]
        show PMi t _ T ag x (if nI (bN false) = (0 : Int32) then q_X10_city_60 ag (nI x) T else _)
        rw [if_pos (show nI (bN false) = (0 : Int32) from rfl)]
        exact bad
      | true =>
        show PMi t _ T ag x (if nI (bN true) = (0 : Int32) then _ else q_X10_city_61 ag (nI x) (1 : Int32) T)
        rw [if_neg (show ¬ nI (bN true) = (0 : Int32) by decide)]
        exact htr rfl
    rw [if_pos e1]
    by_cases a98 : (tok t p).2.1 = 98
    · rw [if_pos a98]
      have e5 : p_X10_mayBegin (nI x) T = some (nI (bN (decide (D.1.2.2.1 < 5))), T) := by
        unfold p_X10_mayBegin
        rw [h7, a98]
        show (if vin (6 : Int32) 8 then (if nI 5 ≤ T.1 101 6 then some ((0 : Int32), T) else some ((1 : Int32), T)) else none) = _
        rw [if_pos (show vin (6 : Int32) 8 from (vin_t (i := 6) (by omega)).mpr trivial), d3]
        by_cases e : 5 ≤ D.1.2.2.1
        · rw [if_pos ((show nI 5 ≤ nI D.1.2.2.1 ↔ _ from nI_leI (by decide) (by omega)).mpr e), decide_eq_false (by omega)]; rfl
        · rw [if_neg (fun q => e ((show nI 5 ≤ nI D.1.2.2.1 ↔ _ from nI_leI (by decide) (by omega)).mp q)), decide_eq_true (by omega)]; rfl
      refine may _ e5 _ (fun q => ?_) (fun q => ?_)
      · have := of_decide_eq_false q
        rw [if_pos (by omega)]
      · have := of_decide_eq_true q
        rw [if_neg (by omega)]
        refine good _ (fun T1 m1 m2 m3 => ?_)
        rw [a98]
        exact rdB ht hw this m1 m2 m3 ag x
    · rw [if_neg a98]
      by_cases a100 : (tok t p).2.1 = 100
      · rw [if_pos a100]
        have e8 : p_X10_mayBegin (nI x) T = some (nI (bN (decide (D.1.2.1 < 8))), T) := by
          unfold p_X10_mayBegin
          rw [h7, a100]
          show (if vin (5 : Int32) 8 then (if nI 8 ≤ T.1 101 5 then some ((0 : Int32), T) else some ((1 : Int32), T)) else none) = _
          rw [if_pos (show vin (5 : Int32) 8 from (vin_t (i := 5) (by omega)).mpr trivial), d2]
          by_cases e : 8 ≤ D.1.2.1
          · rw [if_pos ((nI_leI (by decide) (by omega)).mpr e), decide_eq_false (by omega)]; rfl
          · rw [if_neg (fun q => e ((nI_leI (by decide) (by omega)).mp q)), decide_eq_true (by omega)]; rfl
        refine may _ e8 _ (fun q => ?_) (fun q => ?_)
        · have := of_decide_eq_false q
          rw [if_pos (by omega)]
        · have := of_decide_eq_true q
          rw [if_neg (by omega)]
          refine good _ (fun T1 m1 m2 m3 => ?_)
          rw [a100]
          exact rdD ht hw this m1 m2 m3 ag x
      · rw [if_neg a100]
        by_cases a110 : (tok t p).2.1 = 110
        · rw [if_pos a110]
          have e0 : p_X10_mayBegin (nI x) T = some (nI (bN (decide (x = 0))), T) := by
            unfold p_X10_mayBegin q_X10_mayBegin_18
            rw [h7, a110]
            show (if nI x = nI 0 then some ((1 : Int32), T) else some ((0 : Int32), T)) = _
            by_cases e : x = 0
            · rw [if_pos (by rw [e]), decide_eq_true e]; rfl
            · rw [if_neg (by rw [eqN (by omega) (by omega)]; exact e), decide_eq_false e]; rfl
          refine may _ e0 _ (fun q => ?_) (fun q => ?_)
          · rw [if_neg (of_decide_eq_false q)]
          · rw [if_pos (of_decide_eq_true q)]
            refine good _ (fun T1 m1 m2 m3 => ?_)
            rw [a110]
            exact rdN ht m1 m2 m3 ag x
        · rw [if_neg a110]
          have a115 : (tok t p).2.1 = 115 := by have := k1 e1; omega
          have e0 : p_X10_mayBegin (nI x) T = some (nI (bN (decide (D.1.2.2.2.2 = 0))), T) := by
            unfold p_X10_mayBegin q_X10_mayBegin_18
            rw [h7, a115]
            show (if T.1 99 9 = nI 0 then some ((1 : Int32), T) else some ((0 : Int32), T)) = _
            rw [d5]
            by_cases e : D.1.2.2.2.2 = 0
            · rw [if_pos (by rw [e]), decide_eq_true e]; rfl
            · rw [if_neg (by rw [eqN (by omega) (by omega)]; exact e), decide_eq_false e]; rfl
          refine may _ e0 _ (fun q => ?_) (fun q => ?_)
          · rw [if_neg (of_decide_eq_false q)]
          · rw [if_pos (of_decide_eq_true q)]
            refine good _ (fun T1 m1 m2 m3 => ?_)
            rw [a115]
            exact rdS ht m1 m2 m3 ag x
  · rw [if_neg e1, if_neg (show ¬ nI (tok t p).1 = (1 : Int32) from fun q => e1 ((show nI (tok t p).1 = nI 1 ↔ _ from nI_eq (by omega) (by decide)).mp q))]
    exact bad
end RMJ
