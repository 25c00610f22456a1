-- THE FIRST ROW OF THE MOST POSTS IS THE GREEDY ONE
def fnd (p : Nat → Bool) : Nat → Nat → Option Nat
  | 0, _ => none
  | k + 1, i => if p i then some i else fnd p k (i + 1)
theorem fnd_some {p : Nat → Bool} : ∀ {k i d : Nat}, fnd p k i = some d → i ≤ d ∧ d < i + k ∧ p d = true ∧ ∀ e, i ≤ e → e < d → p e = false
  | 0, i, d, h => by cases h
  | k + 1, i, d, h => by
    rw [fnd] at h
    by_cases e : p i = true
    · rw [if_pos e] at h
      cases h
      exact ⟨Nat.le_refl _, by omega, e, fun e' h1 h2 => absurd h2 (by omega)⟩
    · rw [if_neg e] at h
      obtain ⟨h1, h2, h3, h4⟩ := fnd_some h
      refine ⟨by omega, by omega, h3, fun e' q1 q2 => ?_⟩
      by_cases ei : e' = i
      · subst ei; simpa using e
      · exact h4 e' (by omega) q2
theorem fnd_none {p : Nat → Bool} : ∀ {k i : Nat}, fnd p k i = none → ∀ e, i ≤ e → e < i + k → p e = false
  | 0, i, _, e, h1, h2 => absurd h2 (by omega)
  | k + 1, i, h, e, h1, h2 => by
    rw [fnd] at h
    by_cases e1 : p i = true
    · rw [if_pos e1] at h; cases h
    · rw [if_neg e1] at h
      by_cases ei : e = i
      · subst ei; simpa using e1
      · exact fnd_none h e (by omega) (by omega)
/-- the post of boy b, who is followed by k boys, when the doors D are free -/
def gp (K : Nat → Nat → Bool) (k b : Nat) (D : Nat → Bool) : Option Nat := fnd (fun d => (K b d && D d) && decide (1 + mm K k (b + 1) (rmv D d) = mm K (k + 1) b D)) 8 0
def gst (D : Nat → Bool) : Option Nat → Nat → Bool
  | none => D
  | some d => rmv D d
def dg : Option Nat → Nat
  | none => 8
  | some d => d
def gr (K : Nat → Nat → Bool) : Nat → Nat → (Nat → Bool) → Nat
  | 0, _, _ => 0
  | k + 1, b, D => dg (gp K k b D) * 9 ^ k + gr K k (b + 1) (gst D (gp K k b D))
/-- how many stand in a row, and one more; 0 if the row is not allowed -/
def sv (K : Nat → Nat → Bool) : Nat → Nat → (Nat → Bool) → Nat → Nat
  | 0, _, _, _ => 1
  | k + 1, b, D, y => if 8 ≤ y / 9 ^ k then sv K k (b + 1) D (y % 9 ^ k) else if K b (y / 9 ^ k) && D (y / 9 ^ k) then (if sv K k (b + 1) (rmv D (y / 9 ^ k)) (y % 9 ^ k) = 0 then 0 else sv K k (b + 1) (rmv D (y / 9 ^ k)) (y % 9 ^ k) + 1) else 0
section GR
variable {K : Nat → Nat → Bool}
theorem mm_rmv (k b : Nat) (D : Nat → Bool) (d : Nat) : mm K k b (rmv D d) ≤ mm K k b D := by
  obtain ⟨l1, T0, s0, t0⟩ := ore (K := K) (nb := b + k) k b D rfl
  have h1 := (ore (K := K) (nb := b + k) k b (rmv D d) rfl).1 T0 s0
  have h2 := (gg_rmv (K := K) (nb := b + k) (b := b) (D := D) (T := T0) d).1
  omega
theorem mm_ge (k b : Nat) (D : Nat → Bool) : mm K k (b + 1) D ≤ mm K (k + 1) b D := by
  rw [mm]
  split <;> omega
theorem mm_one {k b d : Nat} {D : Nat → Bool} (hd : d < 8) (h1 : K b d = true) (h2 : D d = true) : mm K k (b + 1) (rmv D d) + 1 ≤ mm K (k + 1) b D := by
  have h := mm_rmv (K := K) k (b + 1) D d
  by_cases e : mm K k (b + 1) (rmv D d) = mm K k (b + 1) D
  · rw [mm, if_pos ((exB_iff _ _).mpr ⟨d, hd, by simp [h1, h2, e]⟩)]
    omega
  · have := mm_ge (K := K) k b D
    omega
theorem gp_none {k b : Nat} {D : Nat → Bool} (h : gp K k b D = none) : mm K (k + 1) b D = mm K k (b + 1) D := by
  by_cases ex : exB 8 (fun d => (K b d && D d) && decide (mm K k (b + 1) (rmv D d) = mm K k (b + 1) D)) = true
  · obtain ⟨d, hd, hq⟩ := (exB_iff _ _).mp ex
    have := fnd_none h d (Nat.zero_le _) (by omega)
    simp only [Bool.and_eq_true, decide_eq_true_eq] at hq
    obtain ⟨⟨q1, q2⟩, q3⟩ := hq
    rw [mm, if_pos ex] at this
    simp only [q1, q2, q3, Bool.and_self, Bool.true_and, decide_eq_false_iff_not] at this
    omega
  · rw [mm, if_neg ex]
theorem gp_some {k b d : Nat} {D : Nat → Bool} (h : gp K k b D = some d) : d < 8 ∧ K b d = true ∧ D d = true ∧ 1 + mm K k (b + 1) (rmv D d) = mm K (k + 1) b D ∧ ∀ e, e < d → K b e = true → D e = true → 1 + mm K k (b + 1) (rmv D e) ≠ mm K (k + 1) b D := by
  obtain ⟨h1, h2, h3, h4⟩ := fnd_some h
  simp only [Bool.and_eq_true, decide_eq_true_eq] at h3
  refine ⟨by omega, h3.1.1, h3.1.2, h3.2, fun e he q1 q2 q3 => ?_⟩
  have := h4 e (Nat.zero_le _) he
  simp only [q1, q2, q3, Bool.and_self, decide_true] at this
  cases this
theorem gr_all : ∀ (k b : Nat) (D : Nat → Bool), gr K k b D < 9 ^ k ∧ (∀ y, y < 9 ^ k → sv K k b D y ≤ mm K k b D + 1) ∧ sv K k b D (gr K k b D) = mm K k b D + 1 ∧ ∀ y, y < gr K k b D → sv K k b D y ≤ mm K k b D
  | 0, b, D => ⟨by show 0 < 9 ^ 0; decide, fun y _ => Nat.le_refl 1, rfl, fun y h => absurd h (Nat.not_lt_zero y)⟩
  | k + 1, b, D => by
    have p9 : 0 < 9 ^ k := Nat.pow_pos (by decide)
    have hmul : 9 ^ (k + 1) = 9 * 9 ^ k := by rw [Nat.pow_succ]; omega
    have one := fun d hd h1 h2 => mm_one (K := K) (k := k) (b := b) (d := d) (D := D) hd h1 h2
    have ge := mm_ge (K := K) k b D
    obtain ⟨a1, a2, a3, a4⟩ := gr_all k (b + 1) D
    have ihr := fun d => gr_all k (b + 1) (rmv D d)
    -- a digit and the rest
    have dig : ∀ e r, r < 9 ^ k → (e * 9 ^ k + r) / 9 ^ k = e ∧ (e * 9 ^ k + r) % 9 ^ k = r := fun e r hr => by
      rw [Nat.mul_comm]
      exact ⟨by rw [Nat.mul_add_div p9, Nat.div_eq_of_lt hr, Nat.add_zero], by rw [Nat.mul_add_mod, Nat.mod_eq_of_lt hr]⟩
    have upA : ∀ y, y < 9 ^ (k + 1) → sv K (k + 1) b D y ≤ mm K (k + 1) b D + 1 := fun y hy => by
      have hr : y % 9 ^ k < 9 ^ k := Nat.mod_lt _ p9
      rw [sv]
      by_cases e8 : 8 ≤ y / 9 ^ k
      · rw [if_pos e8]
        have := a2 _ hr
        omega
      · rw [if_neg e8]
        by_cases q : (K b (y / 9 ^ k) && D (y / 9 ^ k)) = true
        · rw [if_pos q]
          rw [Bool.and_eq_true] at q
          have h1 := (ihr (y / 9 ^ k)).2.1 _ hr
          have h2 := one (y / 9 ^ k) (by omega) q.1 q.2
          split <;> omega
        · rw [if_neg q]; omega
    cases hg : gp K k b D with
    | some d =>
      obtain ⟨g1, g2, g3, g4, g5⟩ := gp_some hg
      obtain ⟨b1, b2, b3, b4⟩ := ihr d
      have egr : gr K (k + 1) b D = d * 9 ^ k + gr K k (b + 1) (rmv D d) := by rw [gr, hg]; rfl
      obtain ⟨q1, q2⟩ := dig d _ b1
      refine ⟨?_, upA, ?_, fun y hy => ?_⟩
      · rw [egr, hmul]
        have : d * 9 ^ k ≤ 7 * 9 ^ k := Nat.mul_le_mul_right _ (by omega)
        omega
      · rw [egr, sv, q1, q2, if_neg (by omega), if_pos (by rw [g2, g3]; rfl), b3, if_neg (by omega)]
        omega
      · rw [egr] at hy
        have hr : y % 9 ^ k < 9 ^ k := Nat.mod_lt _ p9
        have hdm := Nat.div_add_mod y (9 ^ k)
        have hed : y / 9 ^ k ≤ d := by
          have : y / 9 ^ k < d + 1 := by
            rw [Nat.div_lt_iff_lt_mul p9, Nat.add_mul]
            omega
          omega
        rw [sv, if_neg (by omega)]
        by_cases q : (K b (y / 9 ^ k) && D (y / 9 ^ k)) = true
        · rw [if_pos q]
          rw [Bool.and_eq_true] at q
          by_cases ed : y / 9 ^ k = d
          · rw [ed] at hdm ⊢
            have := b4 (y % 9 ^ k) (by rw [Nat.mul_comm] at hdm; omega)
            split <;> omega
          · have h1 := (ihr (y / 9 ^ k)).2.1 _ hr
            have h2 := one (y / 9 ^ k) (by omega) q.1 q.2
            have h3 := g5 (y / 9 ^ k) (by omega) q.1 q.2
            split <;> omega
        · rw [if_neg q]; omega
    | none =>
      have gm := gp_none hg
      have egr : gr K (k + 1) b D = 8 * 9 ^ k + gr K k (b + 1) D := by rw [gr, hg]; rfl
      obtain ⟨q1, q2⟩ := dig 8 _ a1
      refine ⟨?_, upA, ?_, fun y hy => ?_⟩
      · rw [egr, hmul]; omega
      · rw [egr, sv, q1, q2, if_pos (Nat.le_refl 8), a3, gm]
      · rw [egr] at hy
        have hr : y % 9 ^ k < 9 ^ k := Nat.mod_lt _ p9
        have hdm := Nat.div_add_mod y (9 ^ k)
        rw [sv]
        by_cases e8 : 8 ≤ y / 9 ^ k
        · rw [if_pos e8]
          have : y / 9 ^ k < 9 := by
            rw [Nat.div_lt_iff_lt_mul p9]
            omega
          have e8' : y / 9 ^ k = 8 := by omega
          rw [e8'] at hdm
          have := a4 (y % 9 ^ k) (by rw [Nat.mul_comm] at hdm; omega)
          omega
        · rw [if_neg e8]
          by_cases q : (K b (y / 9 ^ k) && D (y / 9 ^ k)) = true
          · rw [if_pos q]
            rw [Bool.and_eq_true] at q
            have h1 := (ihr (y / 9 ^ k)).2.1 _ hr
            have h2 := one (y / 9 ^ k) (by omega) q.1 q.2
            have h3 : 1 + mm K k (b + 1) (rmv D (y / 9 ^ k)) ≠ mm K (k + 1) b D := fun e => by
              have := fnd_none hg (y / 9 ^ k) (Nat.zero_le _) (by omega)
              simp only [q.1, q.2, e, Bool.and_self, decide_true] at this
              cases this
            split <;> omega
          · rw [if_neg q]; omega
/-- the post of the boy b + j -/
def po (K : Nat → Nat → Bool) : Nat → Nat → (Nat → Bool) → Nat → Option Nat
  | 0, _, _, _ => none
  | k + 1, b, D, 0 => gp K k b D
  | k + 1, b, D, j + 1 => po K k (b + 1) (gst D (gp K k b D)) j
theorem dg_lt (o : Option Nat) (h : ∀ d, o = some d → d < 8) : dg o < 9 := by
  cases o with
  | none => decide
  | some d => have := h d rfl; show d < 9; omega
theorem po_dig : ∀ (k b : Nat) (D : Nat → Bool) (j : Nat), j < k → (gr K k b D / 9 ^ (k - 1 - j)) % 9 = dg (po K k b D j)
  | 0, _, _, j, h => absurd h (Nat.not_lt_zero j)
  | k + 1, b, D, 0, _ => by
    have p9 : 0 < 9 ^ k := Nat.pow_pos (by decide)
    have h1 := (gr_all (K := K) k (b + 1) (gst D (gp K k b D))).1
    have h2 : dg (gp K k b D) < 9 := dg_lt _ (fun d h => (gp_some h).1)
    rw [gr, po, show k + 1 - 1 - 0 = k by omega, Nat.mul_comm, Nat.mul_add_div p9, Nat.div_eq_of_lt h1, Nat.add_zero, Nat.mod_eq_of_lt h2]
  | k + 1, b, D, j + 1, hj => by
    have ih := po_dig k (b + 1) (gst D (gp K k b D)) j (by omega)
    rw [gr, po, ← ih, show k + 1 - 1 - (j + 1) = k - 1 - j by omega]
    have e : 9 ^ k = 9 ^ (k - 1 - j) * (9 * 9 ^ j) := by
      rw [← Nat.pow_succ', ← Nat.pow_add]
      congr 1
      omega
    have p9 : 0 < 9 ^ (k - 1 - j) := Nat.pow_pos (by decide)
    rw [e, Nat.mul_left_comm, Nat.mul_add_div p9, Nat.mul_left_comm, Nat.mul_add_mod]
end GR
