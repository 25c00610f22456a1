-- THE CLASS READS A CITY
theorem tok_k {t : Txt} (p : Nat) : ((tok t p).1 = 1 → (tok t p).2.1 = 110 ∨ (tok t p).2.1 = 100 ∨ (tok t p).2.1 = 98 ∨ (tok t p).2.1 = 115) ∧ ((tok t p).1 = 3 → (tok t p).2.1 = 59) := by
  unfold tok
  generalize skp t (t.1 - p) p = s
  by_cases e1 : t.1 ≤ s
  · rw [if_pos e1]; exact ⟨fun h => absurd h (show ¬ (0 : Nat) = 1 by decide), fun h => absurd h (show ¬ (0 : Nat) = 3 by decide)⟩
  · rw [if_neg e1]
    cases eD : isD (t.2 s) with
    | true =>
      rw [if_pos rfl]
      generalize (run t (t.1 - s) s 0).2 = v
      generalize (run t (t.1 - s) s 0).1 = w
      by_cases a1 : 99 < v
      · rw [if_pos a1]; exact ⟨fun h => absurd h (show ¬ (4 : Nat) = 1 by decide), fun h => absurd h (show ¬ (4 : Nat) = 3 by decide)⟩
      · rw [if_neg a1]
        by_cases a2 : t.2 s = 48 ∧ 1 < w - s
        · rw [if_pos a2]; exact ⟨fun h => absurd h (show ¬ (4 : Nat) = 1 by decide), fun h => absurd h (show ¬ (4 : Nat) = 3 by decide)⟩
        · rw [if_neg a2]; exact ⟨fun h => absurd h (show ¬ (2 : Nat) = 1 by decide), fun h => absurd h (show ¬ (2 : Nat) = 3 by decide)⟩
    | false =>
      rw [if_neg Bool.false_ne_true]
      by_cases a59 : t.2 s = 59
      · rw [if_pos a59]; exact ⟨fun h => absurd h (show ¬ (3 : Nat) = 1 by decide), fun _ => rfl⟩
      · rw [if_neg a59]
        by_cases al : t.2 s = 110 ∨ t.2 s = 100 ∨ t.2 s = 98 ∨ t.2 s = 115
        · rw [if_pos al]; exact ⟨fun _ => al, fun h => absurd h (show ¬ (1 : Nat) = 3 by decide)⟩
        · rw [if_neg al]; exact ⟨fun h => absurd h (show ¬ (4 : Nat) = 1 by decide), fun h => absurd h (show ¬ (4 : Nat) = 3 by decide)⟩
theorem ctk_l {t : Txt} {p l : Nat} (hp : p ≤ t.1) (hl : l = 98 ∨ l = 100 ∨ l = 110 ∨ l = 115) : (ctk (tok t p) = nI l) ↔ ((tok t p).1 = 1 ∧ (tok t p).2.1 = l) := by
  obtain ⟨k1, k3⟩ := tok_k (t := t) p
  have hk := (tok_in t hp).2.2.2.2
  have neg : ∀ l, l = 98 ∨ l = 100 ∨ l = 110 ∨ l = 115 → (-1 : Int32) ≠ nI l ∧ (-2 : Int32) ≠ nI l ∧ (-3 : Int32) ≠ nI l ∧ nI 59 ≠ nI l := by
    intro l h
    rcases h with rfl | rfl | rfl | rfl <;> decide
  obtain ⟨n1, n2, n3, n4⟩ := neg l hl
  unfold ctk
  generalize tok t p = q at *
  have : q.1 = 0 ∨ q.1 = 1 ∨ q.1 = 2 ∨ q.1 = 3 ∨ q.1 = 4 := by omega
  rcases this with e | e | e | e | e
  · rw [if_pos e]; exact ⟨fun h => absurd h n1, fun h => by omega⟩
  · rw [if_neg (by omega), if_neg (by omega), if_neg (by omega)]
    have := k1 e
    rw [eqN (by omega) (by omega)]
    exact ⟨fun h => ⟨e, h⟩, fun h => h.2⟩
  · rw [if_neg (by omega), if_pos e]; exact ⟨fun h => absurd h n2, fun h => by omega⟩
  · rw [if_neg (by omega), if_neg (by omega), if_neg (by omega), k3 e]; exact ⟨fun h => absurd h n4, fun h => by omega⟩
  · rw [if_neg (by omega), if_neg (by omega), if_pos e]; exact ⟨fun h => absurd h n3, fun h => by omega⟩
section PCV
variable {t : Txt} {S : St}
theorem PCi.w {r : Nat ⊕ (Nat × Dft)} {f : Option (Int32 × St)} (h : PCi r S f) : PCi r S (f.bind (fun q => if q.1 = 0 then some ((0 : Int32), q.2) else some ((1 : Int32), q.2))) := by
  obtain ⟨S', e, k, g⟩ := h
  refine ⟨S', ?_, k, g⟩
  rw [e, Option.bind_some]
  cases r with
  | inl e => rfl
  | inr q => rfl
theorem item_C (ht : WT t) {p x : Nat} (hp : p ≤ t.1) (hx : x < 1000) (hT : RT t S) (h2 : S.1 1 2 = nI (tok t p).2.2.2) (h3 : S.1 1 3 = nI (tok t p).2.2.1) (h4 : S.1 1 4 = ctk (tok t p)) {D : Dft} (hw : WD D) (hD : RD D S) : PCi (item t p x D) S (p_X7_readItem (nI x) S) := by
  have hin := tok_in t hp
  have l98 := ctk_l (t := t) hp (l := 98) (by omega)
  have l100 := ctk_l (t := t) hp (l := 100) (by omega)
  have l110 := ctk_l (t := t) hp (l := 110) (by omega)
  have l115 := ctk_l (t := t) hp (l := 115) (by omega)
  have k1 := (tok_k (t := t) p).1
  obtain ⟨r1, r2, r3, r4, r5, r6, r7⟩ := id hD
  obtain ⟨w1, w2, w3, w4, w5, w6, w7, w8⟩ := id hw
  have bad : PCi (.inl (tok t p).2.2.1) S (some ((0 : Int32), S)) := ⟨S, rfl, kR.rf S, h3⟩
  unfold p_X7_readItem item
  rw [h4, r3, r2, r5]
  by_cases e1 : (tok t p).1 = 1
  · rw [if_pos e1]
    by_cases a98 : (tok t p).2.1 = 98
    · rw [if_pos (show ctk (tok t p) = (98 : Int32) from l98.mpr ⟨e1, a98⟩), if_pos a98]
      by_cases e5 : 5 ≤ D.1.2.2.1
      · rw [if_pos (show (5 : Int32) ≤ nI D.1.2.2.1 from (show nI 5 ≤ nI D.1.2.2.1 ↔ _ from nI_leI (by decide) (by omega)).mpr e5), if_pos e5]
        exact bad
      · rw [if_neg (show ¬ (5 : Int32) ≤ nI D.1.2.2.1 from fun q => e5 ((show nI 5 ≤ nI D.1.2.2.1 ↔ _ from nI_leI (by decide) (by omega)).mp q)), if_neg e5]
        exact (itB_C ht hin.1 hT h2 hw hD (by omega)).w
    · rw [if_neg (show ¬ ctk (tok t p) = (98 : Int32) from fun q => a98 (l98.mp q).2), if_neg a98]
      by_cases a100 : (tok t p).2.1 = 100
      · rw [if_pos (show ctk (tok t p) = (100 : Int32) from l100.mpr ⟨e1, a100⟩), if_pos a100]
        by_cases e8 : 8 ≤ D.1.2.1
        · rw [if_pos (show (8 : Int32) ≤ nI D.1.2.1 from (show nI 8 ≤ nI D.1.2.1 ↔ _ from nI_leI (by decide) (by omega)).mpr e8), if_pos e8]
          exact bad
        · rw [if_neg (show ¬ (8 : Int32) ≤ nI D.1.2.1 from fun q => e8 ((show nI 8 ≤ nI D.1.2.1 ↔ _ from nI_leI (by decide) (by omega)).mp q)), if_neg e8]
          exact (itD_C ht hin.1 hT h2 hw hD (by omega)).w
      · rw [if_neg (show ¬ ctk (tok t p) = (100 : Int32) from fun q => a100 (l100.mp q).2), if_neg a100]
        by_cases a110 : (tok t p).2.1 = 110
        · rw [if_pos (show ctk (tok t p) = (110 : Int32) from l110.mpr ⟨e1, a110⟩), if_pos a110]
          by_cases e0 : x = 0
          · subst e0
            rw [if_pos (show nI 0 = (0 : Int32) from rfl), if_pos rfl]
            exact (itN_C ht hin.1 hT h2 hD).w
          · rw [if_neg (show ¬ nI x = (0 : Int32) from fun q => e0 ((show nI x = nI 0 ↔ _ from nI_eq (by omega) (by decide)).mp q)), if_neg e0]
            exact bad
        · rw [if_neg (show ¬ ctk (tok t p) = (110 : Int32) from fun q => a110 (l110.mp q).2), if_neg a110]
          have a115 : (tok t p).2.1 = 115 := by have := k1 e1; omega
          rw [if_pos (show ctk (tok t p) = (115 : Int32) from l115.mpr ⟨e1, a115⟩)]
          by_cases e0 : D.1.2.2.2.2 = 0
          · rw [if_pos (show nI D.1.2.2.2.2 = (0 : Int32) by rw [e0]; rfl), if_pos e0]
            exact (itS_C ht hin.1 hT h2 hD).w
          · rw [if_neg (show ¬ nI D.1.2.2.2.2 = (0 : Int32) from fun q => e0 ((show nI D.1.2.2.2.2 = nI 0 ↔ _ from nI_eq (by omega) (by decide)).mp q)), if_neg e0]
            exact bad
  · rw [if_neg e1, if_neg (show ¬ ctk (tok t p) = (98 : Int32) from fun q => e1 (l98.mp q).1), if_neg (show ¬ ctk (tok t p) = (100 : Int32) from fun q => e1 (l100.mp q).1), if_neg (show ¬ ctk (tok t p) = (110 : Int32) from fun q => e1 (l110.mp q).1), if_neg (show ¬ ctk (tok t p) = (115 : Int32) from fun q => e1 (l115.mp q).1)]
    exact bad
end PCV
-- what an item leaves: bounds
theorem nB_r {t : Txt} {p lo hi : Nat} {k : Nat → Nat → Nat ⊕ (Nat × Dft)} {r : Nat × Dft} (h : nB t p lo hi k = .inr r) : lo ≤ (tok t p).2.1 ∧ (tok t p).2.1 ≤ hi ∧ k (tok t p).2.1 (tok t p).2.2.2 = .inr r := by
  unfold nB at h
  cases en : nok t p lo hi with
  | false => rw [en, if_neg Bool.false_ne_true] at h; cases h
  | true =>
    rw [en, if_pos rfl] at h
    have := of_decide_eq_true en
    exact ⟨this.2.1, this.2.2, h⟩
theorem cls_r {t : Txt} {p : Nat} {D : Dft} {r : Nat × Dft} (h : cls t p D = .inr r) : (tok t p).1 = 3 ∧ r = ((tok t p).2.2.2, D) := by
  unfold cls at h
  by_cases e : (tok t p).1 = 3
  · rw [if_pos e] at h; cases h; exact ⟨e, rfl⟩
  · rw [if_neg e] at h; cases h
theorem item_W {t : Txt} {p x : Nat} (hp : p ≤ t.1) {D : Dft} (hw : WD D) (hx : x = 0 → D.1.2.1 = 0 ∧ D.1.2.2.1 = 0) {r : Nat × Dft} (h : item t p x D = .inr r) : WD r.2 ∧ r.1 ≤ t.1 ∧ p < r.1 := by
  obtain ⟨w1, w2, w3, w4, w5, w6, w7, w8⟩ := id hw
  unfold item at h
  have i0 := tok_in t hp
  by_cases e1 : (tok t p).1 = 1
  · rw [if_pos e1] at h
    have lt0 := i0.2.2.2.1 (by omega)
    generalize (tok t p).2.2.2 = p0 at h i0 lt0
    by_cases a98 : (tok t p).2.1 = 98
    · rw [if_pos a98] at h
      by_cases e5 : 5 ≤ D.1.2.2.1
      · rw [if_pos e5] at h; cases h
      · rw [if_neg e5] at h
        obtain ⟨l1, u1, h⟩ := nB_r h
        have i1 := tok_in t i0.1
        obtain ⟨l2, u2, h⟩ := nB_r h
        have i2 := tok_in t i1.1
        obtain ⟨l3, u3, h⟩ := nB_r h
        have i3 := tok_in t i2.1
        obtain ⟨l4, u4, h⟩ := nB_r h
        have i4 := tok_in t i3.1
        obtain ⟨l5, u5, h⟩ := nB_r h
        have i5 := tok_in t i4.1
        obtain ⟨_, rfl⟩ := cls_r h
        have i6 := tok_in t i5.1
        refine ⟨⟨w1, w2, w3, by show D.1.2.2.1 + 1 ≤ 5; omega, w5, w6, w7, fun b hb => ?_⟩, i6.1, by show p < _; omega⟩
        have hb' : b < D.1.2.2.1 + 1 := hb
        show pu1 _ _ _ _ < D.1.1
        by_cases e : b = D.1.2.2.1
        · subst e; rw [pu1_eq]; omega
        · rw [pu1_ne _ _ _ e]; exact w8 b (by omega)
    · rw [if_neg a98] at h
      by_cases a100 : (tok t p).2.1 = 100
      · rw [if_pos a100] at h
        by_cases e8 : 8 ≤ D.1.2.1
        · rw [if_pos e8] at h; cases h
        · rw [if_neg e8] at h
          obtain ⟨l1, u1, h⟩ := nB_r h
          have i1 := tok_in t i0.1
          obtain ⟨l2, u2, h⟩ := nB_r h
          have i2 := tok_in t i1.1
          by_cases eab : (tok t (tok t p0).2.2.2).2.1 = (tok t p0).2.1
          · rw [if_pos eab] at h; cases h
          · rw [if_neg eab] at h
            obtain ⟨l3, u3, h⟩ := nB_r h
            have i3 := tok_in t i2.1
            obtain ⟨_, rfl⟩ := cls_r h
            have i4 := tok_in t i3.1
            refine ⟨⟨w1, w2, by show D.1.2.1 + 1 ≤ 8; omega, w4, w5, w6, fun d hd => ?_, w8⟩, i4.1, by show p < _; omega⟩
            have hd' : d < D.1.2.1 + 1 := hd
            show pu1 _ _ _ _ < D.1.1 ∧ pu1 _ _ _ _ < D.1.1 ∧ pu1 _ _ _ _ ≤ 40
            by_cases e : d = D.1.2.1
            · subst e; rw [pu1_eq, pu1_eq, pu1_eq]; omega
            · rw [pu1_ne _ _ _ e, pu1_ne _ _ _ e, pu1_ne _ _ _ e]; exact w7 d (by omega)
      · rw [if_neg a100] at h
        by_cases a110 : (tok t p).2.1 = 110
        · rw [if_pos a110] at h
          by_cases ex : x = 0
          · rw [if_pos ex] at h
            obtain ⟨x1, x2⟩ := hx ex
            obtain ⟨l1, u1, h⟩ := nB_r h
            have i1 := tok_in t i0.1
            obtain ⟨_, rfl⟩ := cls_r h
            have i2 := tok_in t i1.1
            exact ⟨⟨l1, u1, w3, w4, w5, w6, fun d hd => absurd hd (by show ¬ d < D.1.2.1; omega), fun b hb => absurd hb (by show ¬ b < D.1.2.2.1; omega)⟩, i2.1, by show p < _; omega⟩
          · rw [if_neg ex] at h; cases h
        · rw [if_neg a110] at h
          by_cases e0 : D.1.2.2.2.2 = 0
          · rw [if_pos e0] at h
            obtain ⟨l1, u1, h⟩ := nB_r h
            have i1 := tok_in t i0.1
            obtain ⟨_, rfl⟩ := cls_r h
            have i2 := tok_in t i1.1
            exact ⟨⟨w1, w2, w3, w4, u1, Nat.le_refl 1, w7, w8⟩, i2.1, by show p < _; omega⟩
          · rw [if_neg e0] at h; cases h
  · rw [if_neg e1] at h; cases h
