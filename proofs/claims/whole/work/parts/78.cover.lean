-- THE FEWEST BOYS FOR ALL DOORS
/-- the doors that the boys of a set open, out of the first n boys -/
def ukr (c : Cty) (s : Sce) : Nat → Nat → Nat
  | 0, _ => 0
  | n + 1, x => ukr c s n x ||| (if x.testBit n then kn c s n else 0)
theorem ukr_lt (c : Cty) (s : Sce) : ∀ n x, ukr c s n x < 2 ^ cnd c
  | 0, _ => Nat.two_pow_pos _
  | n + 1, x => by
    rw [ukr]
    refine or_lt (ukr_lt c s n x) ?_
    split
    · exact bs_lt _ _
    · exact Nat.two_pow_pos _
theorem ukr_or (c : Cty) (s : Sce) {i x : Nat} (h : x < 2 ^ i) : ukr c s (i + 1) (2 ^ i ||| x) = ukr c s i x ||| kn c s i := by
  have e : ∀ n, n ≤ i → ukr c s n (2 ^ i ||| x) = ukr c s n x := by
    intro n
    induction n with
    | zero => intro _; rfl
    | succ n ih =>
      intro hn
      rw [ukr, ukr, ih (by omega), Nat.testBit_or, Nat.testBit_two_pow, show decide (i = n) = false from decide_eq_false (by omega), Bool.false_or]
  rw [ukr, e i (Nat.le_refl _), Nat.testBit_or, Nat.testBit_two_pow]
  simp
theorem ukr_lo (c : Cty) (s : Sce) {i x : Nat} (h : x < 2 ^ i) : ukr c s (i + 1) x = ukr c s i x := by
  rw [ukr, Nat.testBit_lt_two_pow h]
  simp
theorem or_add {i x : Nat} (h : x < 2 ^ i) : 2 ^ i ||| x = 2 ^ i + x := by
  have := Nat.two_pow_add_eq_or_of_lt h 1
  rw [Nat.mul_one] at this
  exact this.symm
section TK
variable {c : Cty} {s : Sce} {S : St}
theorem tk_33 {i : Nat} (hi : i < 5) {U : St} (ag : Int32 → St → Option St) (hU : ∀ x, x < 2 ^ i → U.1 92 x = nI (ukr c s i x)) : ∀ (k j n : Nat) (V : St), j + k = 2 ^ i → k < n → (∀ x, x < 2 ^ i → V.1 92 x = nI (ukr c s i x)) → (∀ x, x < j → V.1 92 (2 ^ i + x) = nI (ukr c s (i + 1) (2 ^ i + x))) → (∀ a b, ¬ (a = 92 ∧ b ≠ 0) → V.1 a b = U.1 a b) → V.2 = U.2 → ∃ W, q_X4_takeKeys_33 ag n (nI i) (nI (kn c s i)) (nI (2 ^ i)) (nI j) V = ag (nI (i + 1)) W ∧ (∀ x, x < 2 ^ (i + 1) → W.1 92 x = nI (ukr c s (i + 1) x)) ∧ (∀ a b, ¬ (a = 92 ∧ b ≠ 0) → W.1 a b = U.1 a b) ∧ W.2 = U.2 := by
  have h32 : 2 ^ i < 32 := (two_lt hi : 2 ^ i < 2 ^ 5)
  have hpos : 0 < 2 ^ i := Nat.two_pow_pos i
  intro k
  induction k with
  | zero =>
    intro j n V hj hn h1 h2 h3 h4
    obtain ⟨m, rfl⟩ : ∃ m, n = m + 1 := ⟨n - 1, by omega⟩
    refine ⟨V, ?_, fun x hx => ?_, h3, h4⟩
    · rw [q_X4_takeKeys_33, show j = 2 ^ i by omega, if_pos (Int32.le_refl _), show nI i + 1 = nI (i + 1) from nI_add i 1]
    · by_cases e : x < 2 ^ i
      · rw [ukr_lo c s e]; exact h1 x e
      · have := h2 (x - 2 ^ i) (by rw [Nat.pow_succ] at hx; omega)
        rw [show 2 ^ i + (x - 2 ^ i) = x by omega] at this
        exact this
  | succ k ih =>
    intro j n V hj hn h1 h2 h3 h4
    obtain ⟨m, rfl⟩ : ∃ m, n = m + 1 := ⟨n - 1, by omega⟩
    have hj2 : j < 2 ^ i := by omega
    have hor : 2 ^ i ||| j = 2 ^ i + j := or_add hj2
    have h64 : 2 ^ i + j < 32 := by
      have : 2 ^ (i + 1) ≤ 2 ^ 5 := two_le (by omega)
      rw [Nat.pow_succ] at this
      omega
    have hb : V.1 92 j = nI (ukr c s i j) := h1 j hj2
    have hu := ukr_or c s hj2
    rw [hor] at hu
    rw [q_X4_takeKeys_33]
    rw [if_neg (by rw [leN (by omega) (by omega)]; omega)]
    simp (disch := omega) only [fa_or, hor, vin_t, if_true, nI_clamp, hb, ← hu, fa_lit, nI_add]
    exact ih (j + 1) m (sI V 92 (2 ^ i + j) (nI (ukr c s (i + 1) (2 ^ i + j)))) (by omega) (by omega) (fun x hx => by rw [sI_ne (by omega)]; exact h1 x hx) (fun x hx => by
      by_cases e : x = j
      · subst e; exact sI_eq ⟨rfl, rfl⟩
      · rw [sI_ne (by omega)]; exact h2 x (by omega)) (fun a b q => by rw [sI_ne (by omega)]; exact h3 a b q) h4
theorem tk_2 (hw : WC c) (hws : WS_ c s) (hR : RC c S) (hs : RS c s 21 S) : ∀ (k i n : Nat) (V : St), i + k = cnb c → k < n → (∀ x, x < 2 ^ i → V.1 92 x = nI (ukr c s i x)) → (∀ a b, ¬ (a = 92 ∧ b ≠ 0) → V.1 a b = S.1 a b) → V.2 = S.2 → ∃ W, q_X4_takeKeys_2 n (nI i) V = some W ∧ (∀ x, x < 2 ^ cnb c → W.1 92 x = nI (ukr c s (cnb c) x)) ∧ (∀ a b, ¬ (a = 92 ∧ b ≠ 0) → W.1 a b = S.1 a b) ∧ W.2 = S.2 := by
  have w4 := hw.2.2.2.1
  intro k
  induction k with
  | zero =>
    intro i n V hi hn h1 h2 h3
    obtain ⟨m, rfl⟩ : ∃ m, n = m + 1 := ⟨n - 1, by omega⟩
    obtain rfl : i = cnb c := by omega
    refine ⟨V, ?_, h1, h2, h3⟩
    rw [q_X4_takeKeys_2, show V.1 3 2 = nI (cnb c) from (h2 3 2 (by omega)).trans hR.2.2.1, if_pos (Int32.le_refl _)]
  | succ k ih =>
    intro i n V hi hn h1 h2 h3
    obtain ⟨m, rfl⟩ : ∃ m, n = m + 1 := ⟨n - 1, by omega⟩
    have hR' : RC c V := hR.cg (fun a j q q' => h2 a j (by omega))
    have hs' : RS c s 21 V := hs.cg (fun a j q q' => h2 a j (by omega))
    have hk : p_X1_keys (nI i) (0 : Int32) V = some (nI (kn c s i), V) := xc_keys0 hw hws hR' hs' (by omega)
    have h32 : 2 ^ i < 32 := (two_lt (show i < 5 by omega) : 2 ^ i < 2 ^ 5)
    obtain ⟨W, e, f1, f2, f3⟩ := tk_33 (c := c) (s := s) (i := i) (by omega) (U := V) (q_X4_takeKeys_2 m) h1 (2 ^ i) 0 FU V (by omega) (FU_gt (by omega)) h1 (fun x hx => absurd hx (Nat.not_lt_zero x)) (fun _ _ _ => rfl) rfl
    obtain ⟨X, g1, g2, g3, g4⟩ := ih (i + 1) m W (by omega) (by omega) f1 (fun a b q => (f2 a b q).trans (h2 a b q)) (f3.trans h3)
    refine ⟨X, ?_, g2, g3, g4⟩
    rw [q_X4_takeKeys_2, show V.1 3 2 = nI (cnb c) from (h2 3 2 (by omega)).trans hR.2.2.1, if_neg (by rw [leN (by omega) (by omega)]; omega), hk, Option.bind_some]
    rw [show ((1 : Int32) <<< (nI i &&& 31)) = nI (2 ^ i) from shlN (by omega)]
    exact e.trans g1
theorem takeKeys (hw : WC c) (hws : WS_ c s) (hR : RC c S) (hs : RS c s 21 S) (h0 : S.1 92 0 = nI 0) : ∃ W, p_X4_takeKeys S = some W ∧ (∀ x, x < 2 ^ cnb c → W.1 92 x = nI (ukr c s (cnb c) x)) ∧ (∀ a b, ¬ (a = 92 ∧ b ≠ 0) → W.1 a b = S.1 a b) ∧ W.2 = S.2 :=
  tk_2 hw hws hR hs (cnb c) 0 FU S (by omega) (FU_gt (by have := hw.2.2.2.1; omega)) (fun x hx => by
    have : x = 0 := by simpa using hx
    subst this
    exact h0) (fun _ _ _ => rfl) rfl
end TK
-- the least of the smallest
def isb (cov : Nat → Bool) (f : Nat → Nat) (lo hi : Nat) : Option Nat → Prop
  | none => ∀ j, lo ≤ j → j < hi → cov j = false
  | some m => lo ≤ m ∧ m < hi ∧ cov m = true ∧ ∀ j, lo ≤ j → j < hi → cov j = true → f m < f j ∨ (f m = f j ∧ m ≤ j)
theorem isb_un {cov : Nat → Bool} {f : Nat → Nat} {lo hi : Nat} {a b : Option Nat} (ha : isb cov f lo hi a) (hb : isb cov f lo hi b) : a = b := by
  cases a with
  | none =>
    cases b with
    | none => rfl
    | some m => have := ha m hb.1 hb.2.1; rw [hb.2.2.1] at this; cases this
  | some n =>
    cases b with
    | none => have := hb n ha.1 ha.2.1; rw [ha.2.2.1] at this; cases this
    | some m =>
      have h1 := ha.2.2.2 m hb.1 hb.2.1 hb.2.2.1
      have h2 := hb.2.2.2 n ha.1 ha.2.1 ha.2.2.1
      congr 1
      omega
theorem isb_up {cov : Nat → Bool} {f : Nat → Nat} {i : Nat} {a : Option Nat} (h : isb cov f 0 i a) : isb cov f 0 (i + 1) (match a with | none => if cov i then some i else none | some m => if f m ≤ f i then some m else if cov i then some i else some m) := by
  cases a with
  | none =>
    simp only
    by_cases e : cov i = true
    · rw [if_pos e]
      refine ⟨Nat.zero_le _, by omega, e, fun j _ hj hc => ?_⟩
      by_cases ej : j = i
      · subst ej; exact Or.inr ⟨rfl, Nat.le_refl _⟩
      · have := h j (Nat.zero_le _) (by omega); rw [hc] at this; cases this
    · rw [if_neg e]
      intro j _ hj
      by_cases ej : j = i
      · subst ej; simpa using e
      · exact h j (Nat.zero_le _) (by omega)
  | some m =>
    obtain ⟨h1, h2, h3, h4⟩ := h
    simp only
    by_cases el : f m ≤ f i
    · rw [if_pos el]
      refine ⟨h1, by omega, h3, fun j _ hj hc => ?_⟩
      by_cases ej : j = i
      · subst ej; omega
      · exact h4 j (Nat.zero_le _) (by omega) hc
    · rw [if_neg el]
      by_cases e : cov i = true
      · rw [if_pos e]
        refine ⟨Nat.zero_le _, by omega, e, fun j _ hj hc => ?_⟩
        by_cases ej : j = i
        · subst ej; exact Or.inr ⟨rfl, Nat.le_refl _⟩
        · have := h4 j (Nat.zero_le _) (by omega) hc; omega
      · rw [if_neg e]
        refine ⟨h1, by omega, h3, fun j _ hj hc => ?_⟩
        by_cases ej : j = i
        · subst ej; exact absurd hc e
        · exact h4 j (Nat.zero_le _) (by omega) hc
theorem isb_dn {cov : Nat → Bool} {f : Nat → Nat} {i N : Nat} (hi : i < N) {a : Option Nat} (h : isb cov f (i + 1) N a) : isb cov f i N (if cov i then (match a with | none => some i | some m => if f m < f i then some m else some i) else a) := by
  by_cases e : cov i = true
  · rw [if_pos e]
    cases a with
    | none =>
      refine ⟨Nat.le_refl _, hi, e, fun j h1 hj hc => ?_⟩
      by_cases ej : j = i
      · subst ej; exact Or.inr ⟨rfl, Nat.le_refl _⟩
      · have := h j (by omega) (by omega); rw [hc] at this; cases this
    | some m =>
      obtain ⟨h1, h2, h3, h4⟩ := h
      simp only
      by_cases el : f m < f i
      · rw [if_pos el]
        refine ⟨by omega, h2, h3, fun j _ hj hc => ?_⟩
        by_cases ej : j = i
        · subst ej; exact Or.inl el
        · exact h4 j (by omega) (by omega) hc
      · rw [if_neg el]
        refine ⟨Nat.le_refl _, hi, e, fun j _ hj hc => ?_⟩
        by_cases ej : j = i
        · subst ej; exact Or.inr ⟨rfl, Nat.le_refl _⟩
        · have := h4 j (by omega) (by omega) hc; omega
  · rw [if_neg e]
    cases a with
    | none =>
      intro j h1 hj
      by_cases ej : j = i
      · subst ej; simpa using e
      · exact h j (by omega) hj
    | some m =>
      obtain ⟨h1, h2, h3, h4⟩ := h
      refine ⟨by omega, h2, h3, fun j _ hj hc => ?_⟩
      by_cases ej : j = i
      · subst ej; exact absurd hc e
      · exact h4 j (by omega) (by omega) hc
def enc : Option Nat → Int32
  | none => -9
  | some m => nI m
def cvB (c : Cty) (s : Sce) (x : Nat) : Bool := decide (ukr c s (cnb c) x = 2 ^ cnd c - 1)
