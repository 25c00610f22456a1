-- MOST POSTS: the least of what subsets leave is the most that can stand
theorem cntB_cong {p q : Nat → Bool} : ∀ n, (∀ j, j < n → p j = q j) → cntB n p = cntB n q
  | 0, _ => rfl
  | n + 1, h => by rw [cntB, cntB, cntB_cong n (fun j hj => h j (by omega)), h n (by omega)]
theorem cntB_mod (p q : Nat → Bool) : ∀ n, cntB n (fun j => p j || q j) + cntB n (fun j => p j && q j) = cntB n p + cntB n q
  | 0 => rfl
  | n + 1 => by
    have := cntB_mod p q n
    rw [cntB, cntB, cntB, cntB]
    cases p n <;> cases q n <;> simp <;> omega
theorem cntB_zero {p : Nat → Bool} : ∀ n, (∀ j, j < n → p j = false) → cntB n p = 0
  | 0, _ => rfl
  | n + 1, h => by rw [cntB, cntB_zero n (fun j hj => h j (by omega)), h n (by omega)]; rfl
/-- one more -/
theorem cntB_one {p q : Nat → Bool} : ∀ (n b : Nat), b < n → p b = true → q b = false → (∀ j, j < n → j ≠ b → p j = q j) → cntB n p = cntB n q + 1
  | 0, b, h, _, _, _ => absurd h (by omega)
  | n + 1, b, h, h1, h2, h3 => by
    rw [cntB, cntB]
    by_cases e : b = n
    · subst e
      rw [h1, h2, cntB_cong b (fun j hj => h3 j (by omega) (by omega))]; rfl
    · rw [cntB_one n b (by omega) h1 h2 (fun j hj => h3 j (by omega)), h3 n (by omega) (by omega)]
      omega
def nbr (K : Nat → Nat → Bool) (nb : Nat) (T : Nat → Bool) (d : Nat) : Bool := exB nb (fun b => T b && K b d)
def gg (K : Nat → Nat → Bool) (nb b : Nat) (D T : Nat → Bool) : Nat := cntB nb (fun j => decide (b ≤ j) && !T j) + cntB 8 (fun d => nbr K nb T d && D d)
def subS (nb b : Nat) (T : Nat → Bool) : Prop := ∀ j, T j = true → b ≤ j ∧ j < nb
def isF (K : Nat → Nat → Bool) (nb b : Nat) (D : Nat → Bool) (v : Nat) : Prop := (∀ T, subS nb b T → v ≤ gg K nb b D T) ∧ ∃ T, subS nb b T ∧ gg K nb b D T = v
def rmv (D : Nat → Bool) (d : Nat) : Nat → Bool := fun j => D j && decide (j ≠ d)
/-- the most of the boys b, b + 1, .. (k of them) that can stand at the doors D -/
def mm (K : Nat → Nat → Bool) : Nat → Nat → (Nat → Bool) → Nat
  | 0, _, _ => 0
  | k + 1, b, D => if exB 8 (fun d => (K b d && D d) && decide (mm K k (b + 1) (rmv D d) = mm K k (b + 1) D)) then mm K k (b + 1) D + 1 else mm K k (b + 1) D
section ORE
variable {K : Nat → Nat → Bool} {nb : Nat}
theorem nbr_iff {T : Nat → Bool} {d : Nat} : nbr K nb T d = true ↔ ∃ b, b < nb ∧ T b = true ∧ K b d = true := by
  unfold nbr
  rw [exB_iff]
  simp only [Bool.and_eq_true]
theorem nbr_mono {T U : Nat → Bool} {d : Nat} (h : ∀ j, T j = true → U j = true) (q : nbr K nb T d = true) : nbr K nb U d = true := by
  obtain ⟨b, h1, h2, h3⟩ := nbr_iff.mp q
  exact nbr_iff.mpr ⟨b, h1, h b h2, h3⟩
theorem nbr_or (T U : Nat → Bool) (d : Nat) : nbr K nb (fun j => T j || U j) d = (nbr K nb T d || nbr K nb U d) := by
  rw [Bool.eq_iff_iff, Bool.or_eq_true]
  constructor
  · intro q
    obtain ⟨b, h1, h2, h3⟩ := nbr_iff.mp q
    rcases (Bool.or_eq_true _ _).mp h2 with h2 | h2
    · exact Or.inl (nbr_iff.mpr ⟨b, h1, h2, h3⟩)
    · exact Or.inr (nbr_iff.mpr ⟨b, h1, h2, h3⟩)
  · rintro (q | q)
    · exact nbr_mono (fun j h => by simp [h]) q
    · exact nbr_mono (fun j h => by simp [h]) q
theorem gg_sub {b : Nat} {D : Nat → Bool} (T U : Nat → Bool) : gg K nb b D (fun j => T j || U j) + gg K nb b D (fun j => T j && U j) ≤ gg K nb b D T + gg K nb b D U := by
  have h1 := cntB_mod (fun j => decide (b ≤ j) && !T j) (fun j => decide (b ≤ j) && !U j) nb
  have h2 := cntB_mod (fun d => nbr K nb T d && D d) (fun d => nbr K nb U d && D d) 8
  have e1 : cntB nb (fun j => decide (b ≤ j) && !(T j || U j)) = cntB nb (fun j => (decide (b ≤ j) && !T j) && (decide (b ≤ j) && !U j)) := cntB_cong nb (fun j _ => by cases decide (b ≤ j) <;> cases T j <;> cases U j <;> rfl)
  have e2 : cntB nb (fun j => decide (b ≤ j) && !(T j && U j)) = cntB nb (fun j => (decide (b ≤ j) && !T j) || (decide (b ≤ j) && !U j)) := cntB_cong nb (fun j _ => by cases decide (b ≤ j) <;> cases T j <;> cases U j <;> rfl)
  have e3 : cntB 8 (fun d => nbr K nb (fun j => T j || U j) d && D d) = cntB 8 (fun d => (nbr K nb T d && D d) || (nbr K nb U d && D d)) := cntB_cong 8 (fun d _ => by rw [nbr_or]; cases nbr K nb T d <;> cases nbr K nb U d <;> cases D d <;> rfl)
  have e4 : cntB 8 (fun d => nbr K nb (fun j => T j && U j) d && D d) ≤ cntB 8 (fun d => (nbr K nb T d && D d) && (nbr K nb U d && D d)) := cntB_mono 8 (fun d _ q => by
    rw [Bool.and_eq_true] at q
    have q1 : nbr K nb T d = true := nbr_mono (fun j h => ((Bool.and_eq_true _ _).mp h).1) q.1
    have q2 : nbr K nb U d = true := nbr_mono (fun j h => ((Bool.and_eq_true _ _).mp h).2) q.1
    simp only [q1, q2, q.2, Bool.and_self])
  show (cntB nb (fun j => decide (b ≤ j) && !(T j || U j)) + cntB 8 (fun d => nbr K nb (fun j => T j || U j) d && D d)) + (cntB nb (fun j => decide (b ≤ j) && !(T j && U j)) + cntB 8 (fun d => nbr K nb (fun j => T j && U j) d && D d)) ≤ (cntB nb (fun j => decide (b ≤ j) && !T j) + cntB 8 (fun d => nbr K nb T d && D d)) + (cntB nb (fun j => decide (b ≤ j) && !U j) + cntB 8 (fun d => nbr K nb U d && D d))
  omega
theorem gg_rmv {b : Nat} {D T : Nat → Bool} (d : Nat) : gg K nb b (rmv D d) T ≤ gg K nb b D T ∧ gg K nb b D T ≤ gg K nb b (rmv D d) T + 1 ∧ (nbr K nb T d = false → gg K nb b D T = gg K nb b (rmv D d) T) := by
  have e : ∀ j, j ≠ d → (nbr K nb T j && D j) = (nbr K nb T j && rmv D d j) := fun j q => by simp [rmv, q]
  have ed : (nbr K nb T d && rmv D d d) = false := by simp [rmv]
  have same : nbr K nb T d = false → gg K nb b D T = gg K nb b (rmv D d) T := fun q => by
    unfold gg
    rw [cntB_cong 8 (p := fun d => nbr K nb T d && D d) (q := fun j => nbr K nb T j && rmv D d j) (fun j _ => by
      by_cases ej : j = d
      · subst ej; simp [q]
      · exact e j ej)]
  refine ⟨?_, ?_, same⟩
  · unfold gg
    have := cntB_mono (p := fun j => nbr K nb T j && rmv D d j) (q := fun j => nbr K nb T j && D j) 8 (fun j _ q => by
      simp only [rmv, Bool.and_eq_true] at q ⊢
      exact ⟨q.1, q.2.1⟩)
    omega
  · by_cases h8 : d < 8
    · by_cases q : (nbr K nb T d && D d) = true
      · unfold gg
        rw [cntB_one (p := fun j => nbr K nb T j && D j) (q := fun j => nbr K nb T j && rmv D d j) 8 d h8 q ed (fun j _ ej => e j ej)]
        omega
      · unfold gg
        rw [cntB_cong 8 (p := fun d => nbr K nb T d && D d) (q := fun j => nbr K nb T j && rmv D d j) (fun j _ => by
          by_cases ej : j = d
          · subst ej; rw [ed]; simpa using q
          · exact e j ej)]
        omega
    · unfold gg
      rw [cntB_cong 8 (p := fun d => nbr K nb T d && D d) (q := fun j => nbr K nb T j && rmv D d j) (fun j hj => e j (by omega))]
      omega
theorem sub_out {b : Nat} {T : Nat → Bool} (hb : b < nb) (h : subS nb b T) (q : T b = false) : subS nb (b + 1) T := fun j hj => by
  have := h j hj
  have : j ≠ b := fun e => by subst e; rw [q] at hj; cases hj
  omega
theorem gg_out {b : Nat} {D T : Nat → Bool} (hb : b < nb) (q : T b = false) : gg K nb b D T = gg K nb (b + 1) D T + 1 := by
  unfold gg
  rw [cntB_one (p := fun j => decide (b ≤ j) && !T j) (q := fun j => decide (b + 1 ≤ j) && !T j) nb b hb (by simp [q]) (by rw [decide_eq_false (show ¬ b + 1 ≤ b by omega), Bool.false_and]) (fun j _ ej => by
    have : decide (b ≤ j) = decide (b + 1 ≤ j) := decide_eq_decide.mpr (by omega)
    simp only [this])]
  omega
/-- a set without b -/
def wo (T : Nat → Bool) (b : Nat) : Nat → Bool := fun j => T j && decide (j ≠ b)
theorem wo_sub {b : Nat} {T : Nat → Bool} (h : subS nb b T) : subS nb (b + 1) (wo T b) := fun j hj => by
  simp only [wo, Bool.and_eq_true, decide_eq_true_eq] at hj
  have := h j hj.1
  omega
theorem cnt_wo {b : Nat} {T : Nat → Bool} (q : T b = true) : cntB nb (fun j => decide (b ≤ j) && !T j) = cntB nb (fun j => decide (b + 1 ≤ j) && !wo T b j) := cntB_cong nb (fun j _ => by
  by_cases e : j = b
  · subst e; rw [q, decide_eq_false (show ¬ j + 1 ≤ j by omega), Bool.not_true, Bool.and_false, Bool.false_and]
  · have : decide (b ≤ j) = decide (b + 1 ≤ j) := decide_eq_decide.mpr (by omega)
    simp [wo, e, this])
theorem ore : ∀ (k b : Nat) (D : Nat → Bool), b + k = nb → isF K nb b D (mm K k b D)
  | 0, b, D, hb => by
    have z : ∀ T, subS nb b T → ∀ j, T j = false := fun T h j => by
      cases e : T j with
      | false => rfl
      | true => have := h j e; omega
    have g : gg K nb b D (fun _ => false) = 0 := by
      unfold gg
      rw [cntB_zero nb (fun j hj => by simp; omega), cntB_zero 8 (fun d _ => by
        have : nbr K nb (fun _ => false) d = false := by
          cases e : nbr K nb (fun _ => false) d with
          | false => rfl
          | true => obtain ⟨_, _, h, _⟩ := nbr_iff.mp e; cases h
        rw [this, Bool.false_and])]
    exact ⟨fun T _ => Nat.zero_le _, fun _ => false, (fun j h => by cases h), g⟩
  | k + 1, b, D, hb => by
    have hbn : b < nb := by omega
    obtain ⟨l1, T0, s0, t0⟩ := ore k (b + 1) D (by omega)
    have ihd := fun d => ore k (b + 1) (rmv D d) (by omega)
    have le_d : ∀ d, mm K k (b + 1) (rmv D d) ≤ mm K k (b + 1) D := fun d => by
      have := (ihd d).1 T0 s0
      have := (gg_rmv (K := K) (nb := nb) (b := b + 1) (D := D) (T := T0) d).1
      omega
    rw [mm]
    by_cases ex : exB 8 (fun d => (K b d && D d) && decide (mm K k (b + 1) (rmv D d) = mm K k (b + 1) D)) = true
    · rw [if_pos ex]
      obtain ⟨d, hd, hq⟩ := (exB_iff _ _).mp ex
      simp only [Bool.and_eq_true, decide_eq_true_eq] at hq
      obtain ⟨⟨q1, q2⟩, q3⟩ := hq
      refine ⟨fun T hT => ?_, T0, fun j hj => by have := s0 j hj; omega, ?_⟩
      · cases e : T b with
        | false =>
          rw [gg_out hbn e]
          have := l1 T (sub_out hbn hT e)
          omega
        | true =>
          have h1 := (ihd d).1 (wo T b) (wo_sub hT)
          have hlt : cntB 8 (fun j => nbr K nb (wo T b) j && rmv D d j) < cntB 8 (fun j => nbr K nb T j && D j) := cntB_strict 8 (fun j _ q => by
            simp only [rmv, Bool.and_eq_true] at q ⊢
            exact ⟨nbr_mono (fun i h => ((Bool.and_eq_true _ _).mp h).1) q.1, q.2.1⟩) ⟨d, hd, by simp [rmv], by
            rw [q2, nbr_iff.mpr ⟨b, hbn, e, q1⟩]; rfl⟩
          unfold gg at h1 ⊢
          rw [cnt_wo e]
          omega
      · rw [gg_out hbn (show T0 b = false from by
          cases e : T0 b with
          | false => rfl
          | true => have := s0 b e; omega), t0]
    · rw [if_neg ex]
      have lt_d : ∀ d, d < 8 → K b d = true → D d = true → mm K k (b + 1) (rmv D d) < mm K k (b + 1) D := fun d h8 h1 h2 => by
        have := le_d d
        have : mm K k (b + 1) (rmv D d) ≠ mm K k (b + 1) D := fun e => ex ((exB_iff _ _).mpr ⟨d, h8, by simp [h1, h2, e]⟩)
        omega
      refine ⟨fun T hT => ?_, ?_⟩
      · cases e : T b with
        | false =>
          rw [gg_out hbn e]
          have := l1 T (sub_out hbn hT e)
          omega
        | true =>
          have h1 := l1 (wo T b) (wo_sub hT)
          have hle : cntB 8 (fun j => nbr K nb (wo T b) j && D j) ≤ cntB 8 (fun j => nbr K nb T j && D j) := cntB_mono 8 (fun j _ q => by
            rw [Bool.and_eq_true] at q ⊢
            exact ⟨nbr_mono (fun i h => ((Bool.and_eq_true _ _).mp h).1) q.1, q.2⟩)
          unfold gg at h1 ⊢
          rw [cnt_wo e]
          omega
      · have grow : ∀ n, n ≤ 8 → ∃ T, subS nb (b + 1) T ∧ gg K nb (b + 1) D T = mm K k (b + 1) D ∧ ∀ d, d < n → K b d = true → D d = true → nbr K nb T d = true := by
          intro n
          induction n with
          | zero => intro _; exact ⟨T0, s0, t0, fun d h => absurd h (by omega)⟩
          | succ n ih =>
            intro hn
            obtain ⟨T, u1, u2, u3⟩ := ih (by omega)
            by_cases q : K b n = true ∧ D n = true
            · obtain ⟨v1, T2, v2, v3⟩ := ihd n
              have hl := lt_d n (by omega) q.1 q.2
              have g1 := gg_rmv (K := K) (nb := nb) (b := b + 1) (D := D) (T := T2) n
              have g2 := l1 T2 v2
              have g3 : nbr K nb T2 n = true := by
                cases e : nbr K nb T2 n with
                | true => rfl
                | false => have := g1.2.2 e; omega
              have sU : subS nb (b + 1) (fun j => T j || T2 j) := fun j h => by
                rcases (Bool.or_eq_true _ _).mp h with h | h
                · exact u1 j h
                · exact v2 j h
              have sI : subS nb (b + 1) (fun j => T j && T2 j) := fun j h => u1 j ((Bool.and_eq_true _ _).mp h).1
              have m1 := gg_sub (K := K) (nb := nb) (b := b + 1) (D := D) T T2
              have m2 := l1 _ sU
              have m3 := l1 _ sI
              refine ⟨_, sU, by omega, fun d hd h1 h2 => ?_⟩
              rw [nbr_or]
              by_cases e : d = n
              · subst e; rw [g3, Bool.or_true]
              · rw [u3 d (by omega) h1 h2, Bool.true_or]
            · refine ⟨T, u1, u2, fun d hd h1 h2 => ?_⟩
              by_cases e : d = n
              · subst e; exact absurd ⟨h1, h2⟩ q
              · exact u3 d (by omega) h1 h2
        obtain ⟨T, u1, u2, u3⟩ := grow 8 (Nat.le_refl 8)
        have Tb : T b = false := by
          cases e : T b with
          | false => rfl
          | true => have := u1 b e; omega
        refine ⟨fun j => T j || decide (j = b), fun j h => ?_, ?_⟩
        · rcases (Bool.or_eq_true _ _).mp h with h | h
          · have := u1 j h; omega
          · have := of_decide_eq_true h; omega
        · rw [← u2]
          unfold gg
          rw [cntB_cong nb (p := fun j => decide (b ≤ j) && !(T j || decide (j = b))) (q := fun j => decide (b + 1 ≤ j) && !T j) (fun j _ => by
            by_cases e : j = b
            · subst e; rw [decide_eq_false (show ¬ j + 1 ≤ j by omega), Bool.false_and]; simp
            · have : decide (b ≤ j) = decide (b + 1 ≤ j) := decide_eq_decide.mpr (by omega)
              simp [e, this]), cntB_cong 8 (p := fun d => nbr K nb (fun j => T j || decide (j = b)) d && D d) (q := fun d => nbr K nb T d && D d) (fun d hd => by
            rw [nbr_or]
            cases eD : D d with
            | false => rw [Bool.and_false, Bool.and_false]
            | true =>
              rw [Bool.and_true, Bool.and_true]
              cases eT : nbr K nb T d with
              | true => rfl
              | false =>
                rw [Bool.false_or]
                cases eb : nbr K nb (fun j => decide (j = b)) d with
                | false => rfl
                | true =>
                  obtain ⟨x, h1, h2, h3⟩ := nbr_iff.mp eb
                  have := of_decide_eq_true h2
                  subst this
                  have := u3 d hd h3 eD
                  rw [eT] at this
                  cases this)]
end ORE
