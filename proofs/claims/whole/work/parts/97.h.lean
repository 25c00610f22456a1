-- THE REFERENCE READS A WHOLE TEXT
def PMn (r : Nat ⊕ (Nat × Dft)) (T : St) (f : Option (Int32 × St)) : Prop := ∃ T', kQ T T' ∧ match r with
  | .inl e => f = some (-10 - nI e, T')
  | .inr q => f = (p_X10_settles T').bind (fun (q117 : St) => some (nI q.1, q117)) ∧ MD q.2 T'
section RMK
variable {t : Txt} {T : St}
theorem city_25 (ht : WT t) : ∀ (m p x n : Nat) (D : Dft) (T : St), t.1 - p < m → t.1 - p < n → x ≤ p → (x = 0 → D.1.2.1 = 0 ∧ D.1.2.2.1 = 0) → WD D → MD D T → MT t T → QM t (.inr p) T → PMn (prs t m p x D) T (q_X10_city_25 n (nI x) T) := by
  have hL := ht.1
  intro m
  induction m with
  | zero => intro p x n D T h; omega
  | succ m ih =>
    intro p x n D T hm hn hx hx0 hw hD hT hq
    obtain ⟨n, rfl⟩ : ∃ n', n = n' + 1 := ⟨n - 1, by omega⟩
    obtain ⟨h8, hp, hmq⟩ := id hq
    have hin := tok_in t hp
    have well : p_X10_isWell T = some (1, T) := by
      unfold p_X10_isWell
      rw [h8, if_neg (show ¬ (0 : Int32) ≤ -1 by decide)]
    rw [q_X10_city_25, well, Option.bind_some, prs]
    show PMn _ T (if (1 : Int32) = 0 then _ else if T.1 99 5 = (0 : Int32) then q_X10_city_101 (nI x) T else if T.1 99 5 = (1 : Int32) then (p_X10_mayBegin (nI x) T).bind (fun (q50 : Int32 × St) => if q50.1 = 0 then q_X10_city_60 (q_X10_city_25 n) (nI x) q50.2 else q_X10_city_61 (q_X10_city_25 n) (nI x) (1 : Int32) q50.2) else q_X10_city_60 (q_X10_city_25 n) (nI x) T)
    rw [if_neg (show ¬ (1 : Int32) = 0 by decide)]
    have z0 : (T.1 99 5 = (0 : Int32)) ↔ (tok t p).1 = 0 := by
      rw [hmq.2.1]
      exact (show nI (tok t p).1 = nI 0 ↔ _ from nI_eq (by omega) (by decide))
    by_cases e0 : (tok t p).1 = 0
    · rw [if_pos (z0.mpr e0), if_pos e0]
      refine ⟨T, ⟨fun _ _ _ _ _ _ => rfl, rfl⟩, ?_, hD⟩
      unfold q_X10_city_101
      rw [well, Option.bind_some]
      show (if (1 : Int32) = 0 then _ else _) = _
      rw [if_neg (show ¬ (1 : Int32) = 0 by decide)]
    · rw [if_neg (fun q => e0 (z0.mp q)), if_neg e0]
      obtain ⟨T', q1, q2, q3⟩ := headP ht (show x < 1000 by omega) hT hq hw hD (q_X10_city_25 n)
      rw [q1]
      cases er : item t p x D with
      | inl e =>
        rw [er] at q3
        obtain ⟨n, rfl⟩ : ∃ n', n = n' + 1 := ⟨n - 1, by have := hin.2.2.2.1 e0; omega⟩
        refine ⟨T', q2, ?_⟩
        have nw : p_X10_isWell T' = some (0, T') := by
          unfold p_X10_isWell
          rw [q3.1, if_pos (show (0 : Int32) ≤ nI e from (show nI 0 ≤ nI e ↔ _ from nI_leI (by decide) (by have := q3.2; omega)).mpr (Nat.zero_le _))]
        rw [q_X10_city_25, nw, Option.bind_some]
        show (if (0 : Int32) = 0 then q_X10_city_101 (nI (x + 1)) T' else _) = _
        rw [if_pos rfl]
        unfold q_X10_city_101
        rw [nw, Option.bind_some]
        show (if (0 : Int32) = 0 then some ((-10 : Int32) - (T'.1 99 8), T') else _) = _
        rw [if_pos rfl, q3.1]
      | inr r =>
        rw [er] at q3
        obtain ⟨g1, g2, g3⟩ := item_W hp hw hx0 er
        obtain ⟨T2, z1, z2⟩ := ih r.1 (x + 1) n r.2 T' (by omega) (by omega) (by omega) (fun q => absurd q (by omega)) g1 q3.2 (q2.MT hT) q3.1
        exact ⟨T2, q2.tr z1, z2⟩
end RMK
