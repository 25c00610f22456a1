-- POSTS: THE CLASS
theorem cntB_ext {p : Nat → Bool} {n : Nat} : ∀ m, n ≤ m → (∀ j, n ≤ j → j < m → p j = false) → cntB m p = cntB n p
  | 0, h, _ => by rw [show n = 0 by omega]
  | m + 1, h, q => by
    by_cases e : n = m + 1
    · rw [e]
    · rw [cntB, cntB_ext m (by omega) (fun j h1 h2 => q j h1 (by omega)), q m (by omega) (by omega)]; rfl
def Kn (c : Cty) (s : Sce) (b d : Nat) : Bool := (kn c s b).testBit d
theorem Kn_lt {c : Cty} {s : Sce} {b d : Nat} (h : Kn c s b d = true) : d < cnd c := by
  unfold Kn at h
  rw [kn_bit, Bool.and_eq_true, decide_eq_true_eq] at h
  exact h.1
def sfm (nb b : Nat) : Nat := bs nb (fun j => decide (b ≤ j))
theorem sfm_bit (nb b j : Nat) : (sfm nb b).testBit j = (decide (j < nb) && decide (b ≤ j)) := bs_bit _ _ _
theorem ukr_bit (c : Cty) (s : Sce) (x d : Nat) : ∀ n, (ukr c s n x).testBit d = exB n (fun b => x.testBit b && Kn c s b d)
  | 0 => by rw [ukr, Nat.zero_testBit]; rfl
  | n + 1 => by
    rw [ukr, Nat.testBit_or, ukr_bit c s x d n, exB]
    congr 1
    cases x.testBit n
    · rw [if_neg (by decide), Nat.zero_testBit, Bool.false_and]
    · rw [if_pos rfl, Bool.true_and]; rfl
theorem not_and8 : ∀ d, d < 8 → ∀ a, a < 256 → (nI a &&& (nI (2 ^ d) ^^^ (-1 : Int32))) = nI (a &&& (255 ^^^ 2 ^ d)) := by decide +kernel
theorem b255 : ∀ d, d < 8 → ∀ j, j < 8 → (255 ^^^ 2 ^ d).testBit j = decide (j ≠ d) := by decide +kernel
theorem b31 : ∀ a, a < 32 → ∀ j, j < 5 → (31 ^^^ a).testBit j = !a.testBit j := by decide +kernel
theorem and_bit {P d : Nat} : (P &&& 2 ^ d = 0) ↔ P.testBit d = false := by
  have h := and_two P d d
  rw [Nat.or_self, and_self] at h
  exact h
theorem rmv_m {D d : Nat} (hD : D < 256) (hd : d < 8) : (D &&& (255 ^^^ 2 ^ d)).testBit = rmv D.testBit d := by
  funext j
  rw [Nat.testBit_and]
  unfold rmv
  by_cases hj : j < 8
  · rw [b255 d hd j hj]
  · rw [Nat.testBit_lt_two_pow (Nat.lt_of_lt_of_le hD (two_le (show 8 ≤ j by omega) : 2 ^ 8 ≤ 2 ^ j)), Bool.false_and, Bool.false_and]
theorem isF_un {K : Nat → Nat → Bool} {nb b : Nat} {D : Nat → Bool} {v w : Nat} (h : isF K nb b D v) (g : isF K nb b D w) : v = w := by
  obtain ⟨h1, T, h2, h3⟩ := h
  obtain ⟨g1, U, g2, g3⟩ := g
  have := h1 U g2
  have := g1 T h2
  omega
section PC2
variable {c : Cty} {s : Sce} {W : St}
def gm (c : Cty) (s : Sce) (b D i : Nat) : Nat := pc (sfm (cnb c) b &&& (31 ^^^ i)) + pc (ukr c s (cnb c) i &&& D)
theorem gm_gg (hw : WC c) {b D i : Nat} (hi : i < 32) : gm c s b D i = gg (Kn c s) (cnb c) b D.testBit i.testBit := by
  have w4 := hw.2.2.2.1
  unfold gm gg pc
  congr 1
  · have e := cntB_ext (n := cnb c) (p := (sfm (cnb c) b &&& (31 ^^^ i)).testBit) 8 (by omega) (fun j h1 h2 => by
      rw [Nat.testBit_and, sfm_bit, decide_eq_false (show ¬ j < cnb c by omega), Bool.false_and, Bool.false_and])
    rw [e]
    refine cntB_cong _ (fun j hj => ?_)
    rw [Nat.testBit_and, sfm_bit, b31 i hi j (by omega), decide_eq_true hj, Bool.true_and]
  · refine cntB_cong _ (fun d hd => ?_)
    rw [Nat.testBit_and, ukr_bit]
    rfl
theorem mo_8 (hw : WC c) (hU : ∀ x, x < 2 ^ cnb c → W.1 92 x = nI (ukr c s (cnb c) x)) {b D : Nat} (hD : D < 256) : ∀ (k i n v : Nat), i + k = sfm (cnb c) b + 1 → k < n → v < 100 → (∀ j, j < i → j &&& (31 ^^^ sfm (cnb c) b) = 0 → v ≤ gm c s b D j) → (∃ j, j &&& (31 ^^^ sfm (cnb c) b) = 0 ∧ j < 32 ∧ v = gm c s b D j) → ∃ v', q_X4_mostOf_8 n (nI (sfm (cnb c) b)) (nI D) (nI v) (nI i) W = some (nI v', W) ∧ (∀ j, j ≤ sfm (cnb c) b → j &&& (31 ^^^ sfm (cnb c) b) = 0 → v' ≤ gm c s b D j) ∧ ∃ j, j &&& (31 ^^^ sfm (cnb c) b) = 0 ∧ j < 32 ∧ v' = gm c s b D j := by
  have w4 := hw.2.2.2.1
  have hB : sfm (cnb c) b < 2 ^ cnb c := bs_lt _ _
  have hB32 : sfm (cnb c) b < 32 := Nat.lt_of_lt_of_le hB (two_le w4 : 2 ^ cnb c ≤ 2 ^ 5)
  intro k
  induction k with
  | zero =>
    intro i n v hi hn hv h1 h2
    obtain ⟨m, rfl⟩ : ∃ m, n = m + 1 := ⟨n - 1, by omega⟩
    refine ⟨v, ?_, fun j hj => h1 j (by omega), h2⟩
    rw [q_X4_mostOf_8, if_pos (by rw [ltN (by omega) (by omega)]; omega)]
  | succ k ih =>
    intro i n v hi hn hv h1 h2
    obtain ⟨m, rfl⟩ : ∃ m, n = m + 1 := ⟨n - 1, by omega⟩
    have hi32 : i < 32 := by omega
    rw [q_X4_mostOf_8, if_neg (by rw [ltN (by omega) (by omega)]; omega), not_and i hi32 _ hB32, not_and _ hB32 i hi32]
    have l1 : i &&& (31 ^^^ sfm (cnb c) b) < 32 := Nat.lt_of_le_of_lt Nat.and_le_left hi32
    have z : (nI (i &&& (31 ^^^ sfm (cnb c) b)) = (0 : Int32)) ↔ i &&& (31 ^^^ sfm (cnb c) b) = 0 := show (nI _ = nI 0) ↔ _ from nI_eq (by omega) (by decide)
    by_cases e : i &&& (31 ^^^ sfm (cnb c) b) = 0
    · rw [if_pos (z.mpr e)]
      have p1 : sfm (cnb c) b &&& (31 ^^^ i) < 256 := Nat.lt_of_le_of_lt Nat.and_le_left (by omega)
      have p2 : ukr c s (cnb c) i &&& D < 256 := Nat.lt_of_le_of_lt Nat.and_le_right hD
      rw [bitCount p1, Option.bind_some, if_pos (show vin (nI i) 32 from (vin_t (by omega)).mpr trivial)]
      show ∃ v', Option.bind (p_J6_bitCount_0f7a4 ((W.1 92 (nI i).toNatClampNeg) &&& nI D) W) (fun q46 => q_X4_mostOf_8 m (nI (sfm (cnb c) b)) (nI D) (if nI (pc (sfm (cnb c) b &&& (31 ^^^ i))) + q46.1 < nI v then nI (pc (sfm (cnb c) b &&& (31 ^^^ i))) + q46.1 else nI v) (nI i + 1) q46.2) = _ ∧ _
      rw [nI_clamp (by omega), hU i (by omega), fa_and, bitCount p2, Option.bind_some]
      show ∃ v', q_X4_mostOf_8 m (nI (sfm (cnb c) b)) (nI D) (if nI (pc (sfm (cnb c) b &&& (31 ^^^ i))) + nI (pc (ukr c s (cnb c) i &&& D)) < nI v then nI (pc (sfm (cnb c) b &&& (31 ^^^ i))) + nI (pc (ukr c s (cnb c) i &&& D)) else nI v) (nI i + 1) W = _ ∧ _
      rw [nI_add, show nI i + 1 = nI (i + 1) from nI_add i 1]
      have hg : pc (sfm (cnb c) b &&& (31 ^^^ i)) + pc (ukr c s (cnb c) i &&& D) = gm c s b D i := rfl
      have hg16 : gm c s b D i ≤ 16 := by
        have := pc_le (sfm (cnb c) b &&& (31 ^^^ i))
        have := pc_le (ukr c s (cnb c) i &&& D)
        rw [← hg]; omega
      rw [hg]
      by_cases el : gm c s b D i < v
      · rw [if_pos (by rw [ltN (by omega) (by omega)]; exact el)]
        exact ih (i + 1) m (gm c s b D i) (by omega) (by omega) (by omega) (fun j hj q => by
          by_cases ej : j = i
          · subst ej; exact Nat.le_refl _
          · have := h1 j (by omega) q; omega) ⟨i, e, hi32, rfl⟩
      · rw [if_neg (by rw [ltN (by omega) (by omega)]; exact el)]
        exact ih (i + 1) m v (by omega) (by omega) hv (fun j hj q => by
          by_cases ej : j = i
          · subst ej; omega
          · exact h1 j (by omega) q) h2
    · rw [if_neg (fun q => e (z.mp q)), show nI i + 1 = nI (i + 1) from nI_add i 1]
      exact ih (i + 1) m v (by omega) (by omega) hv (fun j hj q => by
        by_cases ej : j = i
        · subst ej; exact absurd q e
        · exact h1 j (by omega) q) h2
theorem sub_mask {nb b i : Nat} (hn : nb ≤ 5) (hi : i < 32) : i &&& (31 ^^^ sfm nb b) = 0 ↔ subS nb b i.testBit := by
  have hB32 : sfm nb b < 32 := bs_lt' (k := 5) _ hn
  constructor
  · intro h j hj
    have hj5 : j < 5 := by
      apply Nat.lt_of_not_le
      intro q
      rw [Nat.testBit_lt_two_pow (Nat.lt_of_lt_of_le hi (two_le q : 2 ^ 5 ≤ 2 ^ j))] at hj
      cases hj
    have e : (i &&& (31 ^^^ sfm nb b)).testBit j = false := by rw [h, Nat.zero_testBit]
    rw [Nat.testBit_and, hj, b31 _ hB32 j hj5, sfm_bit] at e
    simp at e
    exact ⟨e.2, e.1⟩
  · intro h
    apply Nat.eq_of_testBit_eq
    intro j
    rw [Nat.zero_testBit, Nat.testBit_and]
    cases e : i.testBit j with
    | false => rfl
    | true =>
      have := h j e
      rw [b31 _ hB32 j (by omega), sfm_bit, decide_eq_true this.2, decide_eq_true this.1]
      rfl
theorem xc_most (hw : WC c) (hU : ∀ x, x < 2 ^ cnb c → W.1 92 x = nI (ukr c s (cnb c) x)) {k b D : Nat} (hk : b + k = cnb c) (hD : D < 256) : p_X4_mostOf (nI (sfm (cnb c) b)) (nI D) W = some (nI (mm (Kn c s) k b D.testBit), W) := by
  have w4 := hw.2.2.2.1
  have hB : sfm (cnb c) b < 2 ^ cnb c := bs_lt _ _
  have hB32 : sfm (cnb c) b < 32 := Nat.lt_of_lt_of_le hB (two_le w4 : 2 ^ cnb c ≤ 2 ^ 5)
  have z0 : ∀ n, ukr c s n 0 = 0 := by
    intro n
    induction n with
    | zero => rfl
    | succ n ih => rw [ukr, ih, Nat.zero_testBit, if_neg (by decide), Nat.or_zero]
  have g0 : gm c s b D 0 = pc (sfm (cnb c) b) := by
    unfold gm
    rw [z0, Nat.zero_and, show pc 0 = 0 from rfl, Nat.add_zero, Nat.xor_zero]
    congr 1
    apply Nat.eq_of_testBit_eq
    intro j
    rw [Nat.testBit_and, sfm_bit]
    by_cases e : j < cnb c
    · rw [t31 (by omega), Bool.and_true]
    · rw [decide_eq_false e, Bool.false_and, Bool.false_and]
  obtain ⟨v, e, f1, j, f2, f3, f4⟩ := mo_8 (s := s) hw hU (b := b) (D := D) hD (sfm (cnb c) b + 1) 0 FU (pc (sfm (cnb c) b)) (by omega) (FU_gt (by omega)) (Nat.lt_of_le_of_lt (pc_le _) (by decide)) (fun j h => absurd h (Nat.not_lt_zero j)) ⟨0, Nat.zero_and _, by decide, g0.symm⟩
  have hF : isF (Kn c s) (cnb c) b D.testBit v := by
    refine ⟨fun T hT => ?_, j.testBit, (sub_mask w4 f3).mp f2, by rw [← gm_gg hw f3]; exact f4.symm⟩
    have hm : bs (cnb c) T < 32 := bs_lt' (k := 5) _ w4
    have eT : (bs (cnb c) T).testBit = T := by
      funext j
      rw [bs_bit]
      cases e : T j with
      | false => rw [Bool.and_false]
      | true => rw [decide_eq_true (hT j e).2, Bool.true_and]
    have hs := (sub_mask (nb := cnb c) (b := b) w4 hm).mpr (by rw [eT]; exact hT)
    have hle : bs (cnb c) T ≤ sfm (cnb c) b := by
      have : bs (cnb c) T &&& sfm (cnb c) b = bs (cnb c) T := by
        apply Nat.eq_of_testBit_eq
        intro j
        rw [Nat.testBit_and, sfm_bit, eT]
        cases e : T j with
        | false => rfl
        | true => rw [decide_eq_true (hT j e).2, decide_eq_true (hT j e).1]; rfl
      rw [← this]
      exact Nat.and_le_right
    have := f1 _ hle hs
    rw [gm_gg hw hm, eT] at this
    exact this
  rw [isF_un (ore k b D.testBit hk) hF]
  unfold p_X4_mostOf
  rw [bitCount (by omega), Option.bind_some]
  exact e
end PC2
