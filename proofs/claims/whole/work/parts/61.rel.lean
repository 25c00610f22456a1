-- THE ABSTRACT STATE: a city (as told), a scene (what deeds change); how the class's cells and the reference's hold them
abbrev Cty : Type := (Nat × Nat × Nat × Nat) × ((Nat → Nat) × (Nat → Nat) × (Nat → Nat)) × ((Nat → Int32) × (Nat → Int32) × (Nat → Int32))
def cnp (c : Cty) : Nat := c.1.1
def cnd (c : Cty) : Nat := c.1.2.1
def cnb (c : Cty) : Nat := c.1.2.2.1
def cns (c : Cty) : Nat := c.1.2.2.2
def con (c : Cty) : Nat → Nat := c.2.1.1
def cot (c : Cty) : Nat → Nat := c.2.1.2.1
def chm (c : Cty) : Nat → Nat := c.2.1.2.2
def clo (c : Cty) : Nat → Int32 := c.2.2.1
def chi (c : Cty) : Nat → Int32 := c.2.2.2.1
def cbr (c : Cty) : Nat → Int32 := c.2.2.2.2
abbrev Sce : Type := ((Nat → Nat) × (Nat → Nat)) × ((Nat → Int32) × (Nat → Int32)) × (Nat × Nat)
def spl (s : Sce) : Nat → Nat := s.1.1
def spi (s : Sce) : Nat → Nat := s.1.2
def sag (s : Sce) : Nat → Int32 := s.2.1.1
def sco (s : Sce) : Nat → Int32 := s.2.1.2
def spr (s : Sce) : Nat := s.2.2.1
def syr (s : Sce) : Nat := s.2.2.2
/-- a city within its bounds -/
def WC (c : Cty) : Prop := 1 ≤ cnp c ∧ cnp c ≤ 8 ∧ cnd c ≤ 8 ∧ cnb c ≤ 5 ∧ cns c ≤ 40 ∧ (∀ d, d < cnd c → con c d < cnp c ∧ cot c d < cnp c) ∧ ∀ b, b < cnb c → chm c b < cnp c
def WS_ (c : Cty) (s : Sce) : Prop := (∀ b, b < cnb c → spl s b < cnp c) ∧ (∀ d, d < cnd c → spi s d ≤ 40) ∧ spr s < 2 ^ cnd c ∧ syr s ≤ 99
/-- the class's told city -/
def RC (c : Cty) (S : St) : Prop := S.1 3 0 = nI (cnp c) ∧ S.1 3 1 = nI (cnd c) ∧ S.1 3 2 = nI (cnb c) ∧ S.1 3 3 = nI (cns c) ∧ (∀ d, d < cnd c → S.1 4 d = nI (con c d) ∧ S.1 5 d = nI (cot c d)) ∧ ∀ b, b < cnb c → S.1 7 b = clo c b ∧ S.1 8 b = chi c b ∧ S.1 10 b = cbr c b ∧ S.1 11 b = nI (chm c b)
/-- a scene of the class, its object the cell k -/
def RS (c : Cty) (s : Sce) (k : Nat) (S : St) : Prop := (∀ b, b < cnb c → S.1 (k + 1) b = nI (spl s b) ∧ S.1 (k + 2) b = sag s b ∧ S.1 (k + 3) b = sco s b) ∧ (∀ d, d < cnd c → S.1 (k + 4) d = nI (spi s d)) ∧ S.1 k 4 = nI (spr s) ∧ S.1 k 5 = nI (syr s)
/-- the reference's city -/
def MC (c : Cty) (S : St) : Prop := S.1 101 0 = nI (cnp c) ∧ S.1 101 1 = nI (cnd c) ∧ S.1 101 2 = nI (cnb c) ∧ S.1 101 3 = nI (cns c) ∧ (∀ d, d < cnd c → S.1 102 d = nI (con c d) ∧ S.1 103 d = nI (cot c d)) ∧ ∀ b, b < cnb c → S.1 105 b = clo c b ∧ S.1 106 b = chi c b ∧ S.1 108 b = cbr c b ∧ S.1 109 b = nI (chm c b)
/-- a scene of the reference, a row -/
def MS (c : Cty) (s : Sce) (f : Nat → Int32) : Prop := (∀ b, b < cnb c → f b = nI (spl s b) ∧ f (5 + b) = sag s b ∧ f (10 + b) = sco s b) ∧ (∀ d, d < cnd c → f (15 + d) = nI (spi s d)) ∧ f 23 = nI (spr s) ∧ f 24 = nI (syr s)
-- what boys sing
def lwv (lo br a : Int32) : Int32 := if a < br then lo else lo - 12
def hgv (hi br a co : Int32) : Int32 := (if a < br then hi else hi - 12) - co
def inb (v lo hi : Int32) : Bool := !(decide (v < lo) || decide (hi < v))
/-- the lowest, the highest that a boy sings in y years (y as an int), with the cold c -/
def lwy (c : Cty) (s : Sce) (b : Nat) (y : Int32) : Int32 := lwv (clo c b) (cbr c b) (sag s b + y)
def hgy (c : Cty) (s : Sce) (b : Nat) (y : Int32) : Int32 := hgv (chi c b) (cbr c b) (sag s b + y) (if y = 0 then sco s b else 0)
/-- the doors that a boy opens in y years -/
def kyy (c : Cty) (s : Sce) (b : Nat) (y : Int32) : Nat := bs (cnd c) (fun d => (spr s).testBit d || inb (nI (spi s d)) (lwy c s b y) (hgy c s b y))
theorem kyy_lt (c : Cty) (s : Sce) (b : Nat) (y : Int32) (h : WC c) : kyy c s b y < 256 := bs_lt' (k := 8) _ h.2.2.1
theorem inb_if (v lo hi : Int32) (S : St) : p_X9_within v lo hi S = some (nI (bN (inb v lo hi)), S) := by
  unfold p_X9_within inb bN
  by_cases h1 : v < lo
  · simp [h1, fa_lit]
  · by_cases h2 : hi < v
    · simp [h1, h2, fa_lit]
    · simp [h1, h2, fa_lit]
theorem inb_m (v lo hi : Int32) (S : St) : p_X10_in v lo hi S = some (nI (bN (inb v lo hi)), S) := inb_if v lo hi S
theorem nI_bN0 (p : Bool) : (nI (bN p) = 0) = (p = false) := by rw [fa_lit, eqN (by have := bN_lt p; omega) (by omega), bN_0]
theorem nI_bZ (p : Bool) : (nI (bN p) = nI 0) = (p = false) := nI_bN0 p
theorem nI_bN1 (p : Bool) : (nI (bN p) = 1) = (p = true) := by rw [fa_lit, eqN (by have := bN_lt p; omega) (by omega), bN_1]
theorem nI_bO (p : Bool) : (nI (bN p) = nI 1) = (p = true) := nI_bN1 p
/-- the doors that a boy opens now; whether he sings a pitch now -/
def kn (c : Cty) (s : Sce) (b : Nat) : Nat := kyy c s b 0
def sgB (c : Cty) (s : Sce) (b : Nat) (v : Int32) : Bool := inb v (lwy c s b 0) (hgy c s b 0)
theorem kn_lt (c : Cty) (s : Sce) (b : Nat) (h : WC c) : kn c s b < 256 := kyy_lt c s b 0 h
theorem kn_bit (c : Cty) (s : Sce) (b d : Nat) : (kn c s b).testBit d = (decide (d < cnd c) && ((spr s).testBit d || sgB c s b (nI (spi s d)))) := bs_bit _ _ _
section PC
variable {c : Cty} {s : Sce} {S : St}
theorem xc_broken (hw : WC c) (hR : RC c S) (hs : RS c s 21 S) {b : Nat} (hb : b < cnb c) (y : Int32) : p_X1_isBroken (nI b) y S = some (nI (bN (!decide (sag s b + y < cbr c b))), S) := by
  obtain ⟨w1, w2, w3, w4, w5, w6, w7⟩ := hw
  obtain ⟨r1, r2, r3, r4, r5, r6⟩ := hR
  obtain ⟨a1, a2, a3, a4⟩ := r6 b hb
  obtain ⟨b1, b2, b3⟩ := hs.1 b hb
  unfold p_X1_isBroken bN
  simp (disch := omega) only [vin_t, if_true, nI_clamp, a3, b2]
  by_cases h : sag s b + y < cbr c b <;> simp [h, fa_lit]
theorem xc_lowest (hw : WC c) (hR : RC c S) (hs : RS c s 21 S) {b : Nat} (hb : b < cnb c) (y : Int32) : p_X1_lowest (nI b) y S = some (lwy c s b y, S) := by
  have hbr := xc_broken hw hR hs hb y
  obtain ⟨w1, w2, w3, w4, w5, w6, w7⟩ := hw
  obtain ⟨r1, r2, r3, r4, r5, r6⟩ := hR
  obtain ⟨a1, a2, a3, a4⟩ := r6 b hb
  unfold p_X1_lowest lwy lwv
  simp (disch := omega) only [vin_t, if_true, nI_clamp, a1, hbr, Option.bind_some, nI_bN0]
  by_cases h : sag s b + y < cbr c b <;> simp [h]
theorem xc_highest (hw : WC c) (hR : RC c S) (hs : RS c s 21 S) {b : Nat} (hb : b < cnb c) (y : Int32) : p_X1_highest (nI b) y S = some (hgy c s b y, S) := by
  have hbr := xc_broken hw hR hs hb y
  obtain ⟨w1, w2, w3, w4, w5, w6, w7⟩ := hw
  obtain ⟨r1, r2, r3, r4, r5, r6⟩ := hR
  obtain ⟨a1, a2, a3, a4⟩ := r6 b hb
  obtain ⟨b1, b2, b3⟩ := hs.1 b hb
  unfold p_X1_highest q_X1_highest_17 hgy hgv
  simp (disch := omega) only [vin_t, if_true, nI_clamp, a2, b3, hbr, Option.bind_some, nI_bN0]
  by_cases hy : y = 0
  · subst hy
    by_cases h : sag s b + 0 < cbr c b
    · simp only [h, if_true, decide_true, Bool.not_true, Int32.sub_zero]
    · simp only [h, if_true, if_false, decide_false, Bool.not_false, Bool.true_eq_false]
  · by_cases h : sag s b + y < cbr c b <;> simp [h, hy]
theorem xc_sings (hw : WC c) (hR : RC c S) (hs : RS c s 21 S) {b : Nat} (hb : b < cnb c) (v : Int32) : p_X1_sings (nI b) v S = some (nI (bN (sgB c s b v)), S) := by
  unfold p_X1_sings sgB
  simp only [xc_lowest hw hR hs hb, xc_highest hw hR hs hb, inb_if, Option.bind_some, nI_bN0, nI_bN1]
  cases inb v (lwy c s b 0) (hgy c s b 0) <;> simp
theorem xc_keysq (hw : WC c) (hR : RC c S) (hs : RS c s 21 S) (lo hi : Int32) (n : Nat) (hn : 8 < n) (a : Nat) : q_X1_keys_27 n lo hi (nI a) (nI 0) S = some (nI (a ||| bs (cnd c) (fun d => inb (nI (spi s d)) lo hi)), S) := by
  obtain ⟨w1, w2, w3, w4, w5, w6, w7⟩ := hw
  obtain ⟨r1, r2, r3, r4, r5, r6⟩ := hR
  obtain ⟨s1, s2, s3, s4⟩ := hs
  have key := loop_up (fun m a i => q_X1_keys_27 m lo hi (nI a) (nI i) S) (cnd c) (fun d a => if inb (nI (spi s d)) lo hi then a ||| 2 ^ d else a) (fun a => some (nI a, S)) (fun _ _ => True)
    (fun m a i hi' _ => ⟨by
      have h2 := s2 i hi'
      show q_X1_keys_27 (m + 1) lo hi (nI a) (nI i) S = _
      rw [q_X1_keys_27]
      simp (disch := omega) only [r2, leN, show ¬ cnd c ≤ i from by omega, if_false, vin_t, if_true, nI_clamp, h2, inb_if, Option.bind_some, nI_bN0]
      cases inb (nI (spi s i)) lo hi <;> simp (disch := omega) only [if_true, if_false, fa_lit, shlN, fa_or, nI_add, Bool.false_eq_true, Bool.true_eq_false], trivial⟩)
    (fun m a _ => by
      show q_X1_keys_27 (m + 1) lo hi (nI a) (nI (cnd c)) S = _
      rw [q_X1_keys_27]
      simp only [r2, Int32.le_refl, if_true]) (cnd c) n 0 a (by omega) (by omega) trivial
  have k1 := key.1
  rw [lpf_bs] at k1
  exact k1
theorem FU8 : 8 < FU := FU_gt (by decide)
theorem xc_keys (hw : WC c) (hws : WS_ c s) (hR : RC c S) (hs : RS c s 21 S) {b : Nat} (hb : b < cnb c) (y : Int32) : p_X1_keys (nI b) y S = some (nI (kyy c s b y), S) := by
  unfold p_X1_keys
  simp only [xc_lowest hw hR hs hb, xc_highest hw hR hs hb, Option.bind_some, hs.2.2.1]
  rw [show (0 : Int32) = nI 0 from rfl, xc_keysq hw hR hs _ _ FU FU8]
  have e : spr s ||| bs (cnd c) (fun d => inb (nI (spi s d)) (lwy c s b y) (hgy c s b y)) = kyy c s b y := by
    apply bs_eq
    intro j
    rw [Nat.testBit_or, bs_bit]
    by_cases l : j < cnd c
    · simp [l]
    · have : (spr s).testBit j = false := Nat.testBit_lt_two_pow (Nat.lt_of_lt_of_le hws.2.2.1 (Nat.pow_le_pow_right (by decide) (by omega)))
      simp [l, this]
  rw [e]
theorem xc_keys0 (hw : WC c) (hws : WS_ c s) (hR : RC c S) (hs : RS c s 21 S) {b : Nat} (hb : b < cnb c) : p_X1_keys (nI b) (nI 0) S = some (nI (kn c s b), S) := xc_keys hw hws hR hs hb 0
end PC
