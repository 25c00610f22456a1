-- THE CLASS READS A WHOLE TEXT
theorem nB_l {t : Txt} {p lo hi : Nat} {k : Nat → Nat → Nat ⊕ (Nat × Dft)} {e : Nat} (h : nB t p lo hi k = .inl e) : e = (tok t p).2.2.1 ∨ k (tok t p).2.1 (tok t p).2.2.2 = .inl e := by
  unfold nB at h
  cases en : nok t p lo hi with
  | false => rw [en, if_neg Bool.false_ne_true] at h; cases h; exact Or.inl rfl
  | true => rw [en, if_pos rfl] at h; exact Or.inr h
theorem cls_l {t : Txt} {p : Nat} {D : Dft} {e : Nat} (h : cls t p D = .inl e) : e = (tok t p).2.2.1 := by
  unfold cls at h
  by_cases e3 : (tok t p).1 = 3
  · rw [if_pos e3] at h; cases h
  · rw [if_neg e3] at h; cases h; rfl
theorem item_E {t : Txt} {p x : Nat} (hp : p ≤ t.1) {D : Dft} {e : Nat} (h : item t p x D = .inl e) : e ≤ t.1 := by
  unfold item at h
  have i0 := tok_in t hp
  have st : ∀ {p : Nat}, p ≤ t.1 → e = (tok t p).2.2.1 → e ≤ t.1 := fun hp q => by rw [q]; exact (tok_in t hp).2.1
  by_cases e1 : (tok t p).1 = 1
  · rw [if_pos e1] at h
    by_cases a98 : (tok t p).2.1 = 98
    · rw [if_pos a98] at h
      by_cases e5 : 5 ≤ D.1.2.2.1
      · rw [if_pos e5] at h; cases h; exact i0.2.1
      · rw [if_neg e5] at h
        rcases nB_l h with q | h
        · exact st i0.1 q
        · have i1 := tok_in t i0.1
          rcases nB_l h with q | h
          · exact st i1.1 q
          · have i2 := tok_in t i1.1
            rcases nB_l h with q | h
            · exact st i2.1 q
            · have i3 := tok_in t i2.1
              rcases nB_l h with q | h
              · exact st i3.1 q
              · have i4 := tok_in t i3.1
                rcases nB_l h with q | h
                · exact st i4.1 q
                · exact st (tok_in t i4.1).1 (cls_l h)
    · rw [if_neg a98] at h
      by_cases a100 : (tok t p).2.1 = 100
      · rw [if_pos a100] at h
        by_cases e8 : 8 ≤ D.1.2.1
        · rw [if_pos e8] at h; cases h; exact i0.2.1
        · rw [if_neg e8] at h
          rcases nB_l h with q | h
          · exact st i0.1 q
          · have i1 := tok_in t i0.1
            rcases nB_l h with q | h
            · exact st i1.1 q
            · have i2 := tok_in t i1.1
              by_cases eab : (tok t (tok t (tok t p).2.2.2).2.2.2).2.1 = (tok t (tok t p).2.2.2).2.1
              · rw [if_pos eab] at h; cases h; exact i2.2.1
              · rw [if_neg eab] at h
                rcases nB_l h with q | h
                · exact st i2.1 q
                · exact st (tok_in t i2.1).1 (cls_l h)
      · rw [if_neg a100] at h
        by_cases a110 : (tok t p).2.1 = 110
        · rw [if_pos a110] at h
          by_cases ex : x = 0
          · rw [if_pos ex] at h
            rcases nB_l h with q | h
            · exact st i0.1 q
            · exact st (tok_in t i0.1).1 (cls_l h)
          · rw [if_neg ex] at h; cases h; exact i0.2.1
        · rw [if_neg a110] at h
          by_cases e0 : D.1.2.2.2.2 = 0
          · rw [if_pos e0] at h
            rcases nB_l h with q | h
            · exact st i0.1 q
            · exact st (tok_in t i0.1).1 (cls_l h)
          · rw [if_neg e0] at h; cases h; exact i0.2.1
  · rw [if_neg e1] at h; cases h; exact i0.2.1
def PIn (t : Txt) (r : Nat ⊕ (Nat × Dft)) (S : St) (f : Option (Int32 × St)) : Prop := ∃ S', f = some (match r with | .inl e => -10 - nI e | .inr q => nI q.1, S') ∧ kR S S' ∧ match r with
  | .inl e => e ≤ t.1
  | .inr q => RD q.2 S' ∧ WD q.2 ∧ q.1 ≤ t.1
section PCW
variable {t : Txt} {S : St}
theorem ctk_0 (ht : WT t) {p : Nat} (hp : p ≤ t.1) : (ctk (tok t p) = (-1 : Int32)) ↔ (tok t p).1 = 0 := by
  obtain ⟨k1, k3⟩ := tok_k (t := t) p
  have hk := (tok_in t hp).2.2.2.2
  unfold ctk
  generalize tok t p = q at *
  have : q.1 = 0 ∨ q.1 = 1 ∨ q.1 = 2 ∨ q.1 = 3 ∨ q.1 = 4 := by omega
  have n1 : ∀ l, l < 200 → nI l ≠ (-1 : Int32) := by decide +kernel
  rcases this with e | e | e | e | e
  · rw [if_pos e]; exact ⟨fun _ => e, fun _ => rfl⟩
  · rw [if_neg (by omega), if_neg (by omega), if_neg (by omega)]
    have := k1 e
    exact ⟨fun h => absurd h (n1 _ (by omega)), fun h => by omega⟩
  · rw [if_neg (by omega), if_pos e]; exact ⟨fun h => absurd h (by decide), fun h => by omega⟩
  · rw [if_neg (by omega), if_neg (by omega), if_neg (by omega), k3 e]; exact ⟨fun h => absurd h (by decide), fun h => by omega⟩
  · rw [if_neg (by omega), if_neg (by omega), if_pos e]; exact ⟨fun h => absurd h (by decide), fun h => by omega⟩
theorem into_16 (ht : WT t) : ∀ (m p x n : Nat) (D : Dft) (S : St), t.1 - p < m → t.1 - p < n → p ≤ t.1 → x ≤ p → (x = 0 → D.1.2.1 = 0 ∧ D.1.2.2.1 = 0) → WD D → RD D S → RT t S → S.1 1 2 = nI p → PIn t (prs t m p x D) S (q_X7_readInto_16 n (nI x) S) := by
  have hL := ht.1
  intro m
  induction m with
  | zero => intro p x n D S h; omega
  | succ m ih =>
    intro p x n D S hm hn hp hx hx0 hw hD hT h2
    obtain ⟨n, rfl⟩ : ∃ n', n = n' + 1 := ⟨n - 1, by omega⟩
    obtain ⟨S', q1, q2, q3, q4, q5, q6, q7⟩ := tokC ht hp hT h2
    have kk : kR S S' := ⟨fun a j q q' => q6 a j (by omega), q7⟩
    have hD' : RD D S' := hD.cg (q6 _ _ (by omega)) (fun j => q6 _ _ (by omega)) (fun a j _ _ _ => q6 _ _ (by omega)) (fun a j _ _ _ => q6 _ _ (by omega))
    rw [q_X7_readInto_16, if_neg (show ¬ (150 : Int32) < nI x from fun q => by have := (show nI 150 < nI x ↔ _ from nI_ltI (by decide) (by omega)).mp q; omega), q1, Option.bind_some, q4, prs]
    by_cases e0 : (tok t p).1 = 0
    · rw [if_pos ((ctk_0 ht hp).mpr e0), if_pos e0]
      exact ⟨S', rfl, kk, hD', hw, by show x ≤ t.1; omega⟩
    · rw [if_neg (fun q => e0 ((ctk_0 ht hp).mp q)), if_neg e0]
      have hi := item_C ht hp (show x < 1000 by omega) (kk.RT hT) q2 q3 q4 hw hD'
      cases er : item t p x D with
      | inl e =>
        rw [er] at hi
        obtain ⟨S2, f1, f2, f3⟩ := hi
        rw [f1, Option.bind_some]
        refine ⟨S2, ?_, kk.tr f2, item_E hp er⟩
        show (if nI (bN false) = (0 : Int32) then some ((-10 : Int32) - (S2.1 1 3), S2) else _) = _
        rw [if_pos (show nI (bN false) = (0 : Int32) from rfl), f3]
      | inr r =>
        rw [er] at hi
        obtain ⟨S2, f1, f2, f3, f4⟩ := hi
        obtain ⟨g1, g2, g3⟩ := item_W hp hw hx0 er
        rw [f1, Option.bind_some]
        show PIn t (prs t m r.1 (x + 1) r.2) S (if nI (bN true) = (0 : Int32) then _ else q_X7_readInto_16 n (nI x + 1) S2)
        rw [if_neg (show ¬ nI (bN true) = (0 : Int32) by decide), show nI x + (1 : Int32) = nI (x + 1) from nI_add x 1]
        obtain ⟨S3, z1, z2, z3⟩ := ih r.1 (x + 1) n r.2 S2 (by omega) (by omega) g2 (by omega) (fun q => absurd q (by omega)) g1 f4 (f2.RT (kk.RT hT)) f3
        exact ⟨S3, z1, (kk.tr f2).tr z2, z3⟩
theorem d0_W : WD d0 := ⟨by decide, by decide, by decide, by decide, by decide, by decide, fun d h => absurd h (Nat.not_lt_zero d), fun b h => absurd h (Nat.not_lt_zero b)⟩
theorem intoC (ht : WT t) (hT : RT t S) : PIn t (prs t 200 0 0 d0) S (p_X7_readInto S) := by
  have hL := ht.1
  have kk : kR S (sI (sI (sI (sI (sI (sI S 12 0 2) 12 1 0) 12 2 0) 12 3 5) 1 2 0) 1 6 0) := ⟨fun a j q q' => by
    rw [sI_ne (by omega), sI_ne (by omega), sI_ne (by omega), sI_ne (by omega), sI_ne (by omega), sI_ne (by omega)], rfl⟩
  unfold p_X7_readInto p_X2_becomesEmpty
  rw [Option.bind_some]
  obtain ⟨S3, z1, z2, z3⟩ := into_16 ht 200 0 0 FU d0 (sI (sI (sI (sI (sI (sI S 12 0 2) 12 1 0) 12 2 0) 12 3 5) 1 2 0) 1 6 0) (by omega) (FU_gt (by omega)) (Nat.zero_le _) (Nat.le_refl 0) (fun _ => ⟨rfl, rfl⟩) d0_W ⟨by
      rw [sI_ne (by omega), sI_ne (by omega), sI_ne (by omega), sI_ne (by omega), sI_ne (by omega)]; exact sI_eq ⟨rfl, rfl⟩, by
      rw [sI_ne (by omega), sI_ne (by omega), sI_ne (by omega), sI_ne (by omega)]; exact sI_eq ⟨rfl, rfl⟩, by
      rw [sI_ne (by omega), sI_ne (by omega), sI_ne (by omega)]; exact sI_eq ⟨rfl, rfl⟩, by
      rw [sI_ne (by omega), sI_ne (by omega)]; exact sI_eq ⟨rfl, rfl⟩, sI_eq ⟨rfl, rfl⟩, fun d h => absurd h (Nat.not_lt_zero d), fun b h => absurd h (Nat.not_lt_zero b)⟩ (kk.RT hT) (by rw [sI_ne (by omega)]; exact sI_eq ⟨rfl, rfl⟩)
  exact ⟨S3, z1, kk.tr z2, z3⟩
end PCW
