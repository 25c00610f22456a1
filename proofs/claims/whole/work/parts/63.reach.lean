-- WAYS: one door more, places that can be reached, the fewest doors, in which year one is shut out
def exB : Nat → (Nat → Bool) → Bool
  | 0, _ => false
  | n + 1, p => exB n p || p n
theorem exB_iff (p : Nat → Bool) : ∀ n, exB n p = true ↔ ∃ d, d < n ∧ p d = true
  | 0 => by simp [exB]
  | n + 1 => by
    rw [exB, Bool.or_eq_true, exB_iff p n]
    constructor
    · rintro (⟨d, h1, h2⟩ | h)
      · exact ⟨d, by omega, h2⟩
      · exact ⟨n, by omega, h⟩
    · rintro ⟨d, h1, h2⟩
      by_cases e : d = n
      · subst e; exact Or.inr h2
      · exact Or.inl ⟨d, by omega, h2⟩
/-- a door brings in x -/
def drB (c : Cty) (K set x d : Nat) : Bool := K.testBit d && ((decide (x = con c d) && set.testBit (cot c d)) || (decide (x = cot c d) && set.testBit (con c d)))
def wid (c : Cty) (K set : Nat) : Nat := bs 8 (fun x => set.testBit x || exB (cnd c) (drB c K set x))
theorem wid_bit (c : Cty) (K set x : Nat) : (wid c K set).testBit x = (decide (x < 8) && (set.testBit x || exB (cnd c) (drB c K set x))) := bs_bit _ _ _
theorem wid_lt (c : Cty) (K set : Nat) : wid c K set < 256 := bs_lt _ 8
theorem two_or (a b x : Nat) : (2 ^ a ||| 2 ^ b).testBit x = (decide (x = a) || decide (x = b)) := by
  rw [Nat.testBit_or, Nat.testBit_two_pow, Nat.testBit_two_pow]
  congr 1
  · exact decide_eq_decide.mpr eq_comm
  · exact decide_eq_decide.mpr eq_comm
theorem and_two (set a b : Nat) : (set &&& (2 ^ a ||| 2 ^ b) = 0) ↔ (set.testBit a = false ∧ set.testBit b = false) := by
  constructor
  · intro h
    have h1 : (set &&& (2 ^ a ||| 2 ^ b)).testBit a = false := by rw [h, Nat.zero_testBit]
    have h2 : (set &&& (2 ^ a ||| 2 ^ b)).testBit b = false := by rw [h, Nat.zero_testBit]
    rw [Nat.testBit_and, two_or] at h1 h2
    simp at h1 h2
    exact ⟨h1, h2⟩
  · rintro ⟨h1, h2⟩
    apply Nat.eq_of_testBit_eq
    intro j
    rw [Nat.testBit_and, two_or, Nat.zero_testBit]
    by_cases e1 : j = a
    · subst e1; simp [h1]
    · by_cases e2 : j = b
      · subst e2; simp [h2]
      · simp [e1, e2]
def stC (c : Cty) (K set i w : Nat) : Nat := if K.testBit i && (set.testBit (con c i) || set.testBit (cot c i)) then w ||| (2 ^ con c i ||| 2 ^ cot c i) else w
def stM (c : Cty) (K set i w : Nat) : Nat := if K.testBit i then (w ||| (if set.testBit (con c i) then 2 ^ cot c i else 0)) ||| (if set.testBit (cot c i) then 2 ^ con c i else 0) else w
theorem stC_bit (c : Cty) (K set x : Nat) : ∀ n, (lpf (stC c K set) 0 n set).testBit x = (set.testBit x || exB n (drB c K set x))
  | 0 => by simp [lpf, exB]
  | n + 1 => by
    rw [lpf_end, Nat.zero_add, exB, ← Bool.or_assoc, ← stC_bit c K set x n]
    have hsub : set.testBit x = true → (lpf (stC c K set) 0 n set).testBit x = true := by
      intro h; rw [stC_bit c K set x n, h, Bool.true_or]
    generalize lpf (stC c K set) 0 n set = w at hsub ⊢
    unfold stC drB
    cases hK : K.testBit n
    · simp
    · simp only [Bool.true_and]
      by_cases e1 : x = con c n
      · by_cases e2 : x = cot c n
        · rw [← e1, ← e2]
          cases h : set.testBit x
          · simp
          · simp [hsub h]
        · rw [← e1]
          cases h1 : set.testBit x <;> cases h2 : set.testBit (cot c n) <;> simp [Nat.testBit_or, two_or, h1, h2, e2]
          · have h3 := hsub h1; simp [h3]
      · by_cases e2 : x = cot c n
        · rw [← e2]
          cases h1 : set.testBit x <;> cases h2 : set.testBit (con c n) <;> simp [Nat.testBit_or, two_or, h1, h2, e1]
          · have h3 := hsub h1; simp [h3]
        · cases h1 : set.testBit (con c n) <;> cases h2 : set.testBit (cot c n) <;> simp [Nat.testBit_or, Nat.testBit_two_pow, e1, e2, show ¬ con c n = x from fun q => e1 q.symm, show ¬ cot c n = x from fun q => e2 q.symm]
theorem stM_bit (c : Cty) (K set x : Nat) : ∀ n, (lpf (stM c K set) 0 n set).testBit x = (set.testBit x || exB n (drB c K set x))
  | 0 => by simp [lpf, exB]
  | n + 1 => by
    rw [lpf_end, Nat.zero_add, exB, ← Bool.or_assoc, ← stM_bit c K set x n]
    generalize lpf (stM c K set) 0 n set = w
    unfold stM drB
    cases hK : K.testBit n
    · simp
    · simp only [Bool.true_and, if_true]
      rw [Nat.testBit_or, Nat.testBit_or, Bool.or_assoc]
      congr 1
      have e : ∀ (p : Bool) (k : Nat), (if p = true then 2 ^ k else 0).testBit x = (decide (x = k) && p) := by
        intro p k
        cases p
        · simp
        · rw [if_pos rfl, Nat.testBit_two_pow]
          simp only [Bool.and_true]
          exact decide_eq_decide.mpr eq_comm
      rw [e, e, Bool.or_comm]
theorem wid_of {c : Cty} {K set w : Nat} (hw : WC c) (hset : set < 256) (h : ∀ x, w.testBit x = (set.testBit x || exB (cnd c) (drB c K set x))) : w = wid c K set := by
  obtain ⟨w1, w2, w3, w4, w5, w6, w7⟩ := hw
  apply Nat.eq_of_testBit_eq
  intro x
  rw [h, wid_bit]
  by_cases l : x < 8
  · simp [l]
  · have h1 : set.testBit x = false := Nat.testBit_lt_two_pow (Nat.lt_of_lt_of_le hset (Nat.pow_le_pow_right (by decide) (by omega) : 2 ^ 8 ≤ 2 ^ x))
    have h2 : exB (cnd c) (drB c K set x) = false := by
      cases hx : exB (cnd c) (drB c K set x)
      · rfl
      · exfalso
        obtain ⟨d, hd, hb⟩ := (exB_iff _ _).mp hx
        have := w6 d hd
        unfold drB at hb
        simp at hb
        omega
    rw [h1, h2]; simp
section PW
variable {c : Cty} {s : Sce} {S : St}
theorem xc_spread (hw : WC c) (hR : RC c S) {K set : Nat} (hK : K < 256) (hset : set < 256) : p_X1_spread (nI set) (nI K) S = some (nI (wid c K set), S) := by
  have hwid := wid_of (K := K) (w := lpf (stC c K set) 0 (cnd c) set) hw hset (fun x => stC_bit c K set x (cnd c))
  obtain ⟨w1, w2, w3, w4, w5, w6, w7⟩ := hw
  obtain ⟨r1, r2, r3, r4, r5, r6⟩ := hR
  have key : ∀ n, 8 < n → q_X1_spread_5 n (nI set) (nI K) (nI set) (nI 0) S = some (nI (lpf (stC c K set) 0 (cnd c) set), S) := fun n hn =>
    (loop_up (fun m a i => q_X1_spread_5 m (nI set) (nI K) (nI a) (nI i) S) (cnd c) (stC c K set) (fun a => some (nI a, S)) (fun _ _ => True)
    (fun m a i hi _ => ⟨by
      obtain ⟨h5, h6⟩ := r5 i hi
      obtain ⟨h7, h8⟩ := w6 i hi
      have hand : set &&& (2 ^ con c i ||| 2 ^ cot c i) < 2 ^ 31 := Nat.lt_of_le_of_lt Nat.and_le_left (by omega)
      show q_X1_spread_5 (m + 1) (nI set) (nI K) (nI a) (nI i) S = _
      rw [q_X1_spread_5]
      simp (disch := omega) only [r2, fa_lit, leN, show ¬ cnd c ≤ i from by omega, if_false, vin_t, if_true, nI_clamp, h5, h6, bitT, nI_bO, shlN, fa_or, nI_add]
      simp (disch := omega) only [fa_and, eqN, and_two]
      unfold stC
      cases K.testBit i
      · simp
      · cases set.testBit (con c i) <;> cases set.testBit (cot c i) <;> simp, trivial⟩)
    (fun m a _ => by
      show q_X1_spread_5 (m + 1) (nI set) (nI K) (nI a) (nI (cnd c)) S = _
      rw [q_X1_spread_5]
      simp only [r2, Int32.le_refl, if_true]) (cnd c) n 0 set (by omega) (by omega) trivial).1
  unfold p_X1_spread
  rw [show (0 : Int32) = nI 0 from rfl, key FU FU8, hwid]
theorem xm_wider (hw : WC c) (hM : MC c S) {K set : Nat} (hK : K < 256) (hset : set < 256) : p_X10_wider (nI set) (nI K) S = some (nI (wid c K set), S) := by
  have hwid := wid_of (K := K) (w := lpf (stM c K set) 0 (cnd c) set) hw hset (fun x => stM_bit c K set x (cnd c))
  obtain ⟨w1, w2, w3, w4, w5, w6, w7⟩ := hw
  obtain ⟨r1, r2, r3, r4, r5, r6⟩ := hM
  have key : ∀ n, 8 < n → q_X10_wider_5 n (nI set) (nI K) (nI set) (nI 0) S = some (nI (lpf (stM c K set) 0 (cnd c) set), S) := fun n hn =>
    (loop_up (fun m a i => q_X10_wider_5 m (nI set) (nI K) (nI a) (nI i) S) (cnd c) (stM c K set) (fun a => some (nI a, S)) (fun _ _ => True)
    (fun m a i hi _ => ⟨by
      obtain ⟨h5, h6⟩ := r5 i hi
      obtain ⟨h7, h8⟩ := w6 i hi
      show q_X10_wider_5 (m + 1) (nI set) (nI K) (nI a) (nI i) S = _
      rw [q_X10_wider_5]
      simp (disch := omega) only [r2, fa_lit, leN, show ¬ cnd c ≤ i from by omega, if_false, vin_t, if_true, nI_clamp, h5, h6, has_m, nI_bZ, shlN, fa_or, nI_add, Option.bind_some, q_X10_wider_53]
      unfold stM
      cases K.testBit i
      · simp
      · cases set.testBit (con c i) <;> cases set.testBit (cot c i) <;> simp, trivial⟩)
    (fun m a _ => by
      show q_X10_wider_5 (m + 1) (nI set) (nI K) (nI a) (nI (cnd c)) S = _
      rw [q_X10_wider_5]
      simp (disch := omega) only [fa_lit, vin_t, nI_clamp, r2, Int32.le_refl, if_true]) (cnd c) n 0 set (by omega) (by omega) trivial).1
  unfold p_X10_wider
  rw [show (0 : Int32) = nI 0 from rfl, key FU FU8, hwid]
end PW
-- repeated
def itr (f : Nat → Nat) : Nat → Nat → Nat
  | 0, a => a
  | n + 1, a => itr f n (f a)
theorem itr_end (f : Nat → Nat) : ∀ n a, itr f (n + 1) a = f (itr f n a)
  | 0, a => rfl
  | n + 1, a => by rw [itr, itr_end f n (f a), itr]
def cntB (n : Nat) (p : Nat → Bool) : Nat := match n with
  | 0 => 0
  | n + 1 => cntB n p + (if p n then 1 else 0)
theorem cntB_le (p : Nat → Bool) : ∀ n, cntB n p ≤ n
  | 0 => Nat.le_refl _
  | n + 1 => by rw [cntB]; have := cntB_le p n; split <;> omega
theorem cntB_mono {p q : Nat → Bool} : ∀ n, (∀ j, j < n → p j = true → q j = true) → cntB n p ≤ cntB n q
  | 0, _ => Nat.le_refl _
  | n + 1, h => by
    have h1 := cntB_mono n (fun j hj => h j (by omega))
    have h2 := h n (by omega)
    rw [cntB, cntB]
    cases hp : p n
    · simp; omega
    · rw [h2 hp]; simp; omega
theorem cntB_strict {p q : Nat → Bool} : ∀ n, (∀ j, j < n → p j = true → q j = true) → (∃ j, j < n ∧ p j = false ∧ q j = true) → cntB n p < cntB n q
  | 0, _, h => by obtain ⟨j, hj, _⟩ := h; omega
  | n + 1, h, hx => by
    obtain ⟨j, hj, h1, h2⟩ := hx
    rw [cntB, cntB]
    by_cases e : j = n
    · subst e
      have := cntB_mono j (fun i hi => h i (by omega))
      simp [h1, h2]; omega
    · have := cntB_strict n (fun i hi => h i (by omega)) ⟨j, by omega, h1, h2⟩
      have h3 := h n (by omega)
      cases hp : p n
      · simp; omega
      · rw [h3 hp]; simp; omega
theorem cntB_full {p : Nat → Bool} : ∀ n, cntB n p = n → ∀ j, j < n → p j = true
  | 0, _, j, hj => by omega
  | n + 1, h, j, hj => by
    rw [cntB] at h
    have h1 := cntB_le p n
    cases hp : p n
    · rw [hp] at h; simp at h; omega
    · by_cases e : j = n
      · subst e; exact hp
      · exact cntB_full n (by rw [hp] at h; simp at h; omega) j (by omega)
theorem cntB_pos {p : Nat → Bool} {n j : Nat} (hj : j < n) (hp : p j = true) : 1 ≤ cntB n p := by
  have := cntB_strict (p := fun _ => false) (q := p) n (fun _ _ h => by cases h) ⟨j, hj, rfl, hp⟩
  omega
/-- within n places, growing: it stands still after n - 1 rounds -/
theorem itr_still {f : Nat → Nat} {n : Nat} (hn : 1 ≤ n) (hext : ∀ a x, a < 2 ^ n → a.testBit x = true → (f a).testBit x = true) (hin : ∀ a, a < 2 ^ n → f a < 2 ^ n) {a : Nat} (ha : a < 2 ^ n) {p : Nat} (hp : p < n) (hap : a.testBit p = true) : ∀ k, itr f (n - 1 + k) a = itr f (n - 1) a := by
  have hb : ∀ k, itr f k a < 2 ^ n := by
    intro k
    induction k with
    | zero => exact ha
    | succ k ih => rw [itr_end]; exact hin _ ih
  have key : ∀ k, itr f (k + 1) a = itr f k a ∨ k + 1 ≤ cntB n (fun x => (itr f k a).testBit x) := by
    intro k
    induction k with
    | zero => exact Or.inr (cntB_pos hp hap)
    | succ k ih =>
      by_cases e : itr f (k + 1) a = itr f k a
      · left; rw [itr_end f (k + 1), e, ← itr_end f]; exact e
      · right
        have h1 : k + 1 ≤ cntB n (fun x => (itr f k a).testBit x) := ih.resolve_left e
        have h2 : cntB n (fun x => (itr f k a).testBit x) < cntB n (fun x => (itr f (k + 1) a).testBit x) := by
          apply cntB_strict n
          · intro j hj h; rw [itr_end]; exact hext _ _ (hb k) h
          · refine Classical.byContradiction fun hno => e ?_
            apply Nat.eq_of_testBit_eq
            intro x
            cases hx : (itr f k a).testBit x
            · by_cases l : x < n
              · cases hy : (itr f (k + 1) a).testBit x
                · rfl
                · exact absurd ⟨x, l, hx, hy⟩ hno
              · exact Nat.testBit_lt_two_pow (Nat.lt_of_lt_of_le (hb (k + 1)) (Nat.pow_le_pow_right (by decide) (by omega)))
            · rw [itr_end]; exact hext _ _ (hb k) hx
        omega
  have still : itr f (n - 1 + 1) a = itr f (n - 1) a := by
    rcases key (n - 1) with h | h
    · exact h
    · have hfull := cntB_full (p := fun x => (itr f (n - 1) a).testBit x) n (by have := cntB_le (fun x => (itr f (n - 1) a).testBit x) n; omega)
      apply Nat.eq_of_testBit_eq
      intro x
      by_cases l : x < n
      · have h1 : (itr f (n - 1) a).testBit x = true := hfull x l
        rw [h1, itr_end]
        exact hext _ _ (hb _) h1
      · rw [Nat.testBit_lt_two_pow (Nat.lt_of_lt_of_le (hb _) (Nat.pow_le_pow_right (by decide) (by omega))), Nat.testBit_lt_two_pow (Nat.lt_of_lt_of_le (hb _) (Nat.pow_le_pow_right (by decide) (by omega)))]
  intro k
  induction k with
  | zero => rfl
  | succ k ih => rw [show n - 1 + (k + 1) = (n - 1 + k) + 1 by omega, itr_end f, ih, ← itr_end f]; exact still
theorem wid_in {c : Cty} (hw : WC c) (K a : Nat) (ha : a < 2 ^ cnp c) : wid c K a < 2 ^ cnp c := by
  obtain ⟨w1, w2, w3, w4, w5, w6, w7⟩ := hw
  apply Nat.lt_pow_two_of_testBit
  intro x hx
  rw [wid_bit]
  have h1 : a.testBit x = false := Nat.testBit_lt_two_pow (Nat.lt_of_lt_of_le ha (Nat.pow_le_pow_right (by decide) hx))
  have h2 : exB (cnd c) (drB c K a x) = false := by
    cases he : exB (cnd c) (drB c K a x)
    · rfl
    · exfalso
      obtain ⟨d, hd, hb⟩ := (exB_iff _ _).mp he
      have := w6 d hd
      unfold drB at hb
      simp at hb
      omega
  rw [h1, h2]; simp
theorem wid_ext {c : Cty} (hw : WC c) (K a x : Nat) (ha : a < 2 ^ cnp c) (h : a.testBit x = true) : (wid c K a).testBit x = true := by
  have hx : x < cnp c := by
    apply Classical.byContradiction
    intro hn
    rw [Nat.testBit_lt_two_pow (Nat.lt_of_lt_of_le ha (Nat.pow_le_pow_right (by decide) (by omega)))] at h
    cases h
  have := hw.2.1
  rw [wid_bit, h]
  simp; omega
/-- the places that a boy can reach with the keys K, from p on -/
def rch (c : Cty) (K p : Nat) : Nat := itr (wid c K) 8 (2 ^ p)
theorem rch_eq {c : Cty} (hw : WC c) (K : Nat) {p : Nat} (hp : p < cnp c) {k : Nat} (hk : cnp c - 1 ≤ k) : itr (wid c K) k (2 ^ p) = rch c K p := by
  have h := itr_still (f := wid c K) (n := cnp c) hw.1 (fun a x ha h => wid_ext hw K a x ha h) (fun a ha => wid_in hw K a ha) (a := 2 ^ p) (Nat.pow_lt_pow_right (by decide) hp) hp (by rw [Nat.testBit_two_pow]; simp)
  have w2 := hw.2.1
  unfold rch
  have h1 := h (k - (cnp c - 1))
  have h2 := h (8 - (cnp c - 1))
  rw [show cnp c - 1 + (k - (cnp c - 1)) = k by omega] at h1
  rw [show cnp c - 1 + (8 - (cnp c - 1)) = 8 by omega] at h2
  rw [h1, h2]
theorem itr_lt {c : Cty} (K a : Nat) (ha : a < 256) : ∀ k, itr (wid c K) k a < 256
  | 0 => ha
  | k + 1 => by rw [itr_end]; exact wid_lt c K _
theorem rch_lt (c : Cty) (K : Nat) {p : Nat} (hp : p < 8) : rch c K p < 256 := itr_lt K _ (Nat.pow_lt_pow_right (by decide) hp : 2 ^ p < 2 ^ 8) 8
/-- the way: after how many rounds x is in, none within k -/
def wyf (f : Nat → Nat) (x : Nat) : Nat → Nat → Nat → Int32
  | 0, _, _ => -9
  | k + 1, i, a => if a.testBit x then nI i else wyf f x k (i + 1) (f a)
theorem wyf_more (f : Nat → Nat) (x : Nat) : ∀ (k i a j : Nat), (∀ m, k ≤ m → m < k + j → (itr f m a).testBit x = false) → wyf f x (k + j) i a = wyf f x k i a
  | 0, i, a, 0, _ => rfl
  | 0, i, a, j + 1, h => by
    have h0 : a.testBit x = false := h 0 (by omega) (by omega)
    have := wyf_more f x 0 (i + 1) (f a) j (fun m h1 h2 => h (m + 1) (by omega) (by omega))
    rw [Nat.zero_add] at this
    rw [Nat.zero_add]
    show (if a.testBit x = true then nI i else wyf f x j (i + 1) (f a)) = -9
    rw [h0, this]
    rfl
  | k + 1, i, a, j, h => by
    rw [show k + 1 + j = (k + j) + 1 by omega, wyf, wyf]
    cases ha : a.testBit x
    · simp only [Bool.false_eq_true, if_false]
      exact wyf_more f x k (i + 1) (f a) j (fun m h1 h2 => h (m + 1) (by omega) (by omega))
    · simp only [if_true]
theorem wyf_hit (f : Nat → Nat) (x : Nat) : ∀ (k i a j : Nat), (∃ m, m < k ∧ (itr f m a).testBit x = true) → wyf f x (k + j) i a = wyf f x k i a
  | 0, i, a, j, h => by obtain ⟨m, hm, _⟩ := h; omega
  | k + 1, i, a, j, h => by
    rw [show k + 1 + j = (k + j) + 1 by omega, wyf, wyf]
    cases ha : a.testBit x
    · simp only [Bool.false_eq_true, if_false]
      obtain ⟨m, hm, hx⟩ := h
      match m, hx with
      | 0, hx => exact absurd (ha.symm.trans hx) (by decide)
      | m + 1, hx => exact wyf_hit f x k (i + 1) (f a) j ⟨m, by omega, hx⟩
    · simp only [if_true]
theorem wyf_eq {c : Cty} (hw : WC c) (K x : Nat) {p : Nat} (hp : p < cnp c) : wyf (wid c K) x 8 0 (2 ^ p) = wyf (wid c K) x (cnp c) 0 (2 ^ p) := by
  have w2 := hw.2.1
  have w1 := hw.1
  rw [show (8 : Nat) = cnp c + (8 - cnp c) by omega]
  by_cases h : ∃ m, m < cnp c ∧ (itr (wid c K) m (2 ^ p)).testBit x = true
  · exact wyf_hit _ _ _ _ _ _ h
  · apply wyf_more
    intro m h1 h2
    rw [rch_eq hw K hp (by omega), ← rch_eq hw K hp (Nat.le_refl _)]
    cases hx : (itr (wid c K) (cnp c - 1) (2 ^ p)).testBit x
    · rfl
    · exact absurd ⟨cnp c - 1, by omega, hx⟩ h
