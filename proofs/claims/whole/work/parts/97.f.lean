-- THE HEAD OF AN ITEM
section RMI
variable {t : Txt} {T : St}
theorem badP (ht : WT t) {p : Nat} (hT : MT t T) (hq : QM t (.inr p) T) (ag : Int32 → St → Option (Int32 × St)) (x : Nat) : PMi t (.inl (tok t p).2.2.1) T ag x (q_X10_city_60 ag (nI x) T) := by
  obtain ⟨h8, hp, hq⟩ := hq
  obtain ⟨g, g1, g2, g3, g4⟩ := tk_f ht hp h8 hq
  have kk : kQ T g := ⟨fun a j q1 q2 q3 q4 => g3 a j (by omega), g4⟩
  obtain ⟨T', e, q, f, l⟩ := clM ht (kk.MT hT) g2 ag x
  refine ⟨T', ?_, kk.tr ⟨fun a j q1 q2 q3 q4 => f a j (by omega), l⟩, q⟩
  unfold q_X10_city_60 q_X10_city_61
  rw [g1, Option.bind_some]
  show Option.bind (p_X10_isWell g) _ = _
  unfold p_X10_isWell
  rw [g2.1, if_pos (show (0 : Int32) ≤ nI (tok t p).2.2.1 from (show nI 0 ≤ nI (tok t p).2.2.1 ↔ _ from nI_leI (by decide) (by have := g2.2; omega)).mpr (Nat.zero_le _)), Option.bind_some]
  show (if (0 : Int32) = 0 then q_X10_city_77 ag (nI x) g else _) = _
  rw [if_pos rfl]
  exact e
theorem goodP (ht : WT t) {p : Nat} (hT : MT t T) (hq : QM t (.inr p) T) (hk : (tok t p).1 = 1) {D : Dft} (hD : MD D T) (ag : Int32 → St → Option (Int32 × St)) (x : Nat) {r : Nat ⊕ (Nat × Dft)} (hr : ∀ T1, MT t T1 → QM t (.inr (tok t p).2.2.2) T1 → MD D T1 → PMi t r T1 ag x ((p_X10_readsItem (nI (tok t p).2.1) T1).bind (fun q74 => q_X10_city_77 ag (nI x) q74))) : PMi t r T ag x (q_X10_city_61 ag (nI x) (1 : Int32) T) := by
  obtain ⟨h8, hp, hq⟩ := hq
  obtain ⟨T1, q1, q2, q3, q4, q5⟩ := tk_1 ht hp hT h8 hq
  have kk : kQ T T1 := ⟨fun a j c1 c2 c3 c4 => q4 a j (by omega), q5⟩
  have := (hr T1 (kk.MT hT) ⟨q2, (tok_in t hp).1, q3⟩ (hD.cg (fun a j c => q4 a j (by omega)))).mono kk
  unfold q_X10_city_61
  rw [q1, Option.bind_some]
  show PMi t r T ag x (Option.bind (p_X10_isWell T1) _)
  unfold p_X10_isWell
  rw [q2, if_neg (show ¬ (0 : Int32) ≤ -1 by decide), Option.bind_some]
  show PMi t r T ag x (if (1 : Int32) = 0 then _ else Option.bind (p_X10_readsItem (T.1 99 7) T1) (fun q74 => q_X10_city_77 ag (nI x) q74))
  rw [if_neg (show ¬ (1 : Int32) = 0 by decide), hq.2.2.2 (Or.inl hk)]
  exact this
end RMI
