-- PURE TOOLS (fa_, fb_ rows: out of the kit's laws to paste)
theorem fa_lit (n : Nat) : (OfNat.ofNat n : Int32) = nI (OfNat.ofNat n) := rfl
theorem fa_and (a b : Nat) : nI a &&& nI b = nI (a &&& b) := by
  apply Int32.toBitVec_inj.mp
  show BitVec.ofNat 32 a &&& BitVec.ofNat 32 b = BitVec.ofNat 32 (a &&& b)
  rw [BitVec.ofNat_and]
theorem fa_or (a b : Nat) : nI a ||| nI b = nI (a ||| b) := by
  apply Int32.toBitVec_inj.mp
  show BitVec.ofNat 32 a ||| BitVec.ofNat 32 b = BitVec.ofNat 32 (a ||| b)
  rw [BitVec.ofNat_or]
theorem fb_xorI (a b : Nat) : nI a ^^^ nI b = nI (a ^^^ b) := by
  apply Int32.toBitVec_inj.mp
  show BitVec.ofNat 32 a ^^^ BitVec.ofNat 32 b = BitVec.ofNat 32 (a ^^^ b)
  rw [BitVec.ofNat_xor]
theorem leN {a b : Nat} (ha : a < 2 ^ 31) (hb : b < 2 ^ 31) : (nI a ≤ nI b) = (a ≤ b) := propext (nI_leI ha hb)
theorem ltN {a b : Nat} (ha : a < 2 ^ 31) (hb : b < 2 ^ 31) : (nI a < nI b) = (a < b) := propext (nI_ltI ha hb)
theorem eqN {a b : Nat} (ha : a < 2 ^ 31) (hb : b < 2 ^ 31) : (nI a = nI b) = (a = b) := propext (nI_eq ha hb)
theorem vin_iff {i n : Nat} (hi : i < 2 ^ 31) : vin (nI i) n ↔ i < n := by
  unfold vin
  rw [nI_clamp hi]
  have h := nI_pos hi
  constructor
  · intro q; exact Nat.lt_of_not_le (fun z => q (Or.inr z))
  · rintro q (z | z)
    · exact h z
    · omega
theorem vin_t {i n : Nat} (h : i < n ∧ n < 2 ^ 31) : vin (nI i) n = True := eq_true ((vin_iff (by omega)).mpr h.1)
theorem vin_f {i n : Nat} (h : n ≤ i ∧ i < 2 ^ 31) : vin (nI i) n = False := eq_false (fun q => by have := (vin_iff h.2).mp q; omega)
theorem vin_neg {i : Int32} {n : Nat} (h : i < 0) : ¬ vin i n := fun q => q (Or.inl h)
theorem vin_ex {i : Int32} {n : Nat} (h : vin i n) (hn : n < 2 ^ 31) : ∃ j : Nat, j < n ∧ i = nI j := vp_in_of h hn
theorem shl_all : ∀ d, d < 31 → (1 : Int32) <<< (nI d &&& 31) = nI (2 ^ d) := by decide +kernel
theorem shlN {d : Nat} (h : d < 31) : nI 1 <<< (nI d &&& nI 31) = nI (2 ^ d) := shl_all d h
theorem s_l : ∀ n, n < 32 → ((nI n &&& 31).toBitVec.smod 32).toNat = n := by decide +kernel
theorem bitN {a d : Nat} (ha : a < 2 ^ 31) (hd : d < 31) : (nI a >>> (nI d &&& nI 31)) &&& nI 1 = nI (a / 2 ^ d % 2) := by
  show (nI a >>> (nI d &&& 31)) &&& 1 = _
  rw [pk_shrN ha _ d (s_l d (by omega))]
  have := pk_andN (n := a / 2 ^ d) (m := 1) (Nat.lt_of_le_of_lt (Nat.div_le_self _ _) (by omega)) 1 (by decide)
  rw [this]
def bN (p : Bool) : Nat := if p then 1 else 0
theorem bitT {a d : Nat} (ha : a < 2 ^ 31) (hd : d < 31) : (nI a >>> (nI d &&& nI 31)) &&& nI 1 = nI (bN (a.testBit d)) := by
  rw [bitN ha hd, Nat.testBit_eq_decide_div_mod_eq]
  congr 1
  have h := Nat.mod_two_eq_zero_or_one (a / 2 ^ d)
  rcases h with h | h <;> simp [bN, h]
theorem bN_lt (p : Bool) : bN p < 2 := by cases p <;> decide
theorem bN_1 (p : Bool) : (bN p = 1) = (p = true) := by cases p <;> simp [bN]
theorem bN_0 (p : Bool) : (bN p = 0) = (p = false) := by cases p <;> simp [bN]
-- the state
theorem sI_1 (S : St) (k i a j : Nat) (v : Int32) : (sI S k i v).1 a j = if a = k ∧ j = i then v else S.1 a j := rfl
theorem sI_ne {S : St} {k i a j : Nat} {v : Int32} (h : a ≠ k ∨ j ≠ i) : (sI S k i v).1 a j = S.1 a j := if_neg (by omega)
theorem sI_eq {S : St} {k i a j : Nat} {v : Int32} (h : a = k ∧ j = i) : (sI S k i v).1 a j = v := if_pos h
theorem sI_2 (S : St) (k i : Nat) (v : Int32) : (sI S k i v).2 = S.2 := rfl
theorem sL_1 (S : St) (k : Nat) (v : Int64) : (sL S k v).1 = S.1 := rfl
theorem sL_2 (S : St) (k a : Nat) (v : Int64) : (sL S k v).2 a = if a = k then v else S.2 a := rfl
theorem sL_eq (S : St) (k : Nat) (v : Int64) : (sL S k v).2 k = v := if_pos rfl
theorem sL_ne {S : St} {k a : Nat} {v : Int64} (h : a ≠ k) : (sL S k v).2 a = S.2 a := if_neg h
-- loops
/-- k steps from i on -/
def lpf {α : Type} (step : Nat → α → α) : Nat → Nat → α → α
  | _, 0, a => a
  | i, k + 1, a => lpf step (i + 1) k (step i a)
theorem lpf_end {α : Type} (step : Nat → α → α) : ∀ (k i : Nat) (a : α), lpf step i (k + 1) a = step (i + k) (lpf step i k a)
  | 0, i, a => rfl
  | k + 1, i, a => by rw [lpf, lpf_end step k (i + 1) (step i a), lpf, show i + 1 + k = i + (k + 1) by omega]
/-- a loop that counts up from i to n, with a state that a step changes -/
theorem loop_up {α β : Type} (F : Nat → α → Nat → β) (n : Nat) (step : Nat → α → α) (fin : α → β) (I : Nat → α → Prop) (h1 : ∀ m a i, i < n → I i a → F (m + 1) a i = F m (step i a) (i + 1) ∧ I (i + 1) (step i a)) (h2 : ∀ m a, I n a → F (m + 1) a n = fin a) : ∀ (k m i : Nat) (a : α), i + k = n → k < m → I i a → F m a i = fin (lpf step i k a) ∧ I n (lpf step i k a)
  | 0, m, i, a, hi, hm, hI => by
    obtain ⟨m', rfl⟩ : ∃ m', m = m' + 1 := ⟨m - 1, by omega⟩
    obtain rfl : i = n := by omega
    exact ⟨h2 m' a hI, hI⟩
  | k + 1, m, i, a, hi, hm, hI => by
    obtain ⟨m', rfl⟩ : ∃ m', m = m' + 1 := ⟨m - 1, by omega⟩
    obtain ⟨e, hI'⟩ := h1 m' a i (by omega) hI
    rw [e]
    exact loop_up F n step fin I h1 h2 k m' (i + 1) (step i a) (by omega) (by omega) hI'
/-- a loop that may end early: h says what the rest answers -/
theorem loop_ex {α β : Type} (F : Nat → α → Nat → β) (n : Nat) (G : Nat → α → β) (I : Nat → α → Prop) (h1 : ∀ m a i, i < n → I i a → F (m + 1) a i = G i a ∨ ∃ a', F (m + 1) a i = F m a' (i + 1) ∧ I (i + 1) a' ∧ G i a = G (i + 1) a') (h2 : ∀ m a, I n a → F (m + 1) a n = G n a) : ∀ (k m i : Nat) (a : α), i + k = n → k < m → I i a → F m a i = G i a
  | 0, m, i, a, hi, hm, hI => by
    obtain ⟨m', rfl⟩ : ∃ m', m = m' + 1 := ⟨m - 1, by omega⟩
    obtain rfl : i = n := by omega
    exact h2 m' a hI
  | k + 1, m, i, a, hi, hm, hI => by
    obtain ⟨m', rfl⟩ : ∃ m', m = m' + 1 := ⟨m - 1, by omega⟩
    rcases h1 m' a i (by omega) hI with e | ⟨a', e, hI', eg⟩
    · exact e
    · rw [e, eg]
      exact loop_ex F n G I h1 h2 k m' (i + 1) a' (by omega) (by omega) hI'
-- sets of places, doors, boys as numbers
def bs (n : Nat) (p : Nat → Bool) : Nat := match n with
  | 0 => 0
  | n + 1 => bs n p ||| (if p n then 2 ^ n else 0)
theorem bs_bit (p : Nat → Bool) (j : Nat) : ∀ n, (bs n p).testBit j = (decide (j < n) && p j)
  | 0 => by simp [bs]
  | n + 1 => by
    rw [bs, Nat.testBit_or, bs_bit p j n]
    by_cases h : p n
    · simp only [h, if_true, Nat.testBit_two_pow]
      by_cases e : j = n
      · subst e; simp [h]
      · by_cases l : j < n
        · simp [l, show ¬ n = j from fun q => e q.symm, show j < n + 1 by omega]
        · simp [l, show ¬ n = j from fun q => e q.symm, show ¬ j < n + 1 by omega]
    · simp only [h, Bool.false_eq_true, if_false, Nat.zero_testBit, Bool.or_false]
      by_cases e : j = n
      · subst e; simp [h]
      · by_cases l : j < n
        · simp [l, show j < n + 1 by omega]
        · simp [l, show ¬ j < n + 1 by omega]
theorem bs_lt (p : Nat → Bool) (n : Nat) : bs n p < 2 ^ n := by
  apply Nat.lt_pow_two_of_testBit
  intro i hi
  rw [bs_bit]
  simp [show ¬ i < n by omega]
theorem bs_eq {a n : Nat} {p : Nat → Bool} (h : ∀ j, a.testBit j = (decide (j < n) && p j)) : a = bs n p := Nat.eq_of_testBit_eq (fun j => by rw [h, bs_bit])
theorem bs_cong {n : Nat} {p q : Nat → Bool} (h : ∀ j, j < n → p j = q j) : bs n p = bs n q := Nat.eq_of_testBit_eq (fun j => by
  rw [bs_bit, bs_bit]
  by_cases l : j < n
  · rw [h j l]
  · simp [l])
theorem bs_lt' {n k : Nat} (p : Nat → Bool) (h : n ≤ k) : bs n p < 2 ^ k := Nat.lt_of_lt_of_le (bs_lt p n) (Nat.pow_le_pow_right (by decide) h)
/-- the usual loop: a bit a round -/
theorem lpf_bs (p : Nat → Bool) (a : Nat) : ∀ k, lpf (fun i a => if p i then a ||| 2 ^ i else a) 0 k a = a ||| bs k p
  | 0 => by simp [lpf, bs]
  | k + 1 => by
    rw [lpf_end, Nat.zero_add, lpf_bs p a k, bs]
    by_cases h : p k <;> simp [h, Nat.or_assoc]
theorem or_lt {a b n : Nat} (ha : a < 2 ^ n) (hb : b < 2 ^ n) : a ||| b < 2 ^ n := Nat.or_lt_two_pow ha hb
theorem two_lt {i n : Nat} (h : i < n) : 2 ^ i < 2 ^ n := Nat.pow_lt_pow_right (by decide) h
theorem two_le {i n : Nat} (h : i ≤ n) : 2 ^ i ≤ 2 ^ n := Nat.pow_le_pow_right (by decide) h
theorem FU_gt {k : Nat} (h : k < 100000) : k < FU := h
