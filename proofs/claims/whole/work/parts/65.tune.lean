-- TUNE, THIRDS, HOW MANY BITS: both sides
theorem lpf_cnt (p : Nat → Bool) (a : Nat) : ∀ k, lpf (fun i a => if p i then a + 1 else a) 0 k a = a + cntB k p
  | 0 => rfl
  | k + 1 => by
    rw [lpf_end, Nat.zero_add, lpf_cnt p a k, cntB]
    cases p k <;> simp <;> omega
theorem loop_cnt {β : Type} (F : Nat → Nat → Nat → β) (n : Nat) (p : Nat → Bool) (fin : Nat → β) (h1 : ∀ m a i, i < n → F (m + 1) a i = F m (if p i then a + 1 else a) (i + 1)) (h2 : ∀ m a, F (m + 1) a n = fin a) (m : Nat) (hm : n < m) (a : Nat) : F m a 0 = fin (a + cntB n p) := by
  have key := loop_up F n (fun i a => if p i then a + 1 else a) fin (fun _ _ => True) (fun m a i hi _ => ⟨h1 m a i hi, trivial⟩) (fun m a _ => h2 m a) n m 0 a (by omega) hm trivial
  have k1 := key.1
  rw [lpf_cnt] at k1
  exact k1
/-- who sings a pitch -/
def sgN (c : Cty) (s : Sce) (v : Nat) : Nat := bs (cnb c) (fun b => sgB c s b (nI v))
theorem sgN_lt (c : Cty) (s : Sce) (v : Nat) (h : WC c) : sgN c s v < 32 := bs_lt' (k := 5) _ h.2.2.2.1
def tun (c : Cty) (s : Sce) (set : Nat) : Nat → Nat → Int32
  | 0, _ => -9
  | k + 1, i => if sgN c s i = set then nI i else tun c s set k (i + 1)
/-- pitches of two doors 4 apart, the first is sung by a, the second by b -/
def thB (c : Cty) (s : Sce) (a b d e : Nat) : Bool := decide (spi s d = spi s e + 4 ∨ spi s e = spi s d + 4) && (sgB c s a (nI (spi s d)) && sgB c s b (nI (spi s e)))
def thN (c : Cty) (s : Sce) (a b : Nat) : Nat := lpf (fun d n => n + cntB (cnd c) (thB c s a b d)) 0 (cnd c) 0
theorem ab4 : ∀ a, a < 41 → ∀ b, b < 41 → (((if 0 ≤ nI a - nI b then nI a - nI b else 0 - (nI a - nI b)) = 4) ↔ (a = b + 4 ∨ b = a + 4)) := by decide +kernel
theorem df4 : ∀ a, a < 41 → ∀ b, b < 41 → ((nI a - nI b = nI 4) ↔ a = b + 4) := by decide +kernel
theorem dg4 : ∀ a, a < 41 → ∀ b, b < 41 → ((nI a - nI b = -nI 4) ↔ b = a + 4) := by decide +kernel
section PT
variable {c : Cty} {s : Sce} {S : St}
theorem xc_singersOf (hw : WC c) (hR : RC c S) (hs : RS c s 21 S) (v : Nat) : p_X1_singersOf (nI v) S = some (nI (sgN c s v), S) := by
  have w4 := hw.2.2.2.1
  have r3 := hR.2.2.1
  unfold p_X1_singersOf
  have key := loop_bits (fun m a i => q_X1_singersOf_4 m (nI v) (nI a) (nI i) S) (cnb c) (fun b => sgB c s b (nI v)) (fun a => some (nI a, S))
    (fun m a i hi => by
      show q_X1_singersOf_4 (m + 1) (nI v) (nI a) (nI i) S = _
      rw [q_X1_singersOf_4]
      simp (disch := omega) only [fa_lit, r3, leN, show ¬ cnb c ≤ i from by omega, if_false, xc_sings hw hR hs hi, Option.bind_some, nI_bZ]
      cases sgB c s i (nI v) <;> simp (disch := omega) only [if_true, if_false, fa_lit, shlN, fa_or, nI_add, Bool.false_eq_true, Bool.true_eq_false])
    (fun m a => by
      show q_X1_singersOf_4 (m + 1) (nI v) (nI a) (nI (cnb c)) S = _
      rw [q_X1_singersOf_4]
      simp only [r3, Int32.le_refl, if_true]) FU (FU_gt (by omega)) 0
  rw [Nat.zero_or] at key
  exact key
theorem xc_tuneq (hw : WC c) (hR : RC c S) (hs : RS c s 21 S) {set : Nat} (hset : set < 32) : ∀ (k i n : Nat), i + k = 41 → k < n → q_X1_lowestPitchOf_2 n (nI set) (nI i) S = some (tun c s set k i, S) := by
  intro k
  induction k with
  | zero =>
    intro i n hi hn
    obtain ⟨m, rfl⟩ : ∃ m, n = m + 1 := ⟨n - 1, by omega⟩
    rw [q_X1_lowestPitchOf_2, show i = 41 by omega]
    simp (disch := omega) only [fa_lit, ltN, if_true, tun]
    rfl
  | succ k ih =>
    intro i n hi hn
    obtain ⟨m, rfl⟩ : ∃ m, n = m + 1 := ⟨n - 1, by omega⟩
    have hl := sgN_lt c s i hw
    rw [q_X1_lowestPitchOf_2, tun]
    simp (disch := omega) only [fa_lit, ltN, show ¬ 40 < i from by omega, if_false, xc_singersOf hw hR hs, Option.bind_some, eqN, nI_add, ih (i + 1) m (by omega : i + 1 + k = 41) (by omega : k < m)]
    by_cases h : sgN c s i = set <;> simp only [h, if_true, if_false]
theorem xc_tune (hw : WC c) (hR : RC c S) (hs : RS c s 21 S) {set : Nat} (hset : set < 32) : p_X1_lowestPitchOf (nI set) S = some (tun c s set 41 0, S) := by
  unfold p_X1_lowestPitchOf
  rw [fa_lit, xc_tuneq hw hR hs hset 41 0 FU rfl (FU_gt (by decide))]
theorem xm_tuneq (hw : WC c) (hM : MC c S) (hm : MS c s (S.1 110)) {set : Nat} (hset : set < 32) : ∀ (k i n : Nat), i + k = 41 → k < n → q_X10_tune_27 n (nI set) (nI i) S = some (tun c s set k i, S) := by
  have w4 := hw.2.2.2.1
  have r3 := hM.2.2.1
  intro k
  induction k with
  | zero =>
    intro i n hi hn
    obtain ⟨m, rfl⟩ : ∃ m, n = m + 1 := ⟨n - 1, by omega⟩
    rw [q_X10_tune_27, show i = 41 by omega]
    simp (disch := omega) only [fa_lit, ltN, if_true, tun]
    rfl
  | succ k ih =>
    intro i n hi hn
    obtain ⟨m, rfl⟩ : ∃ m, n = m + 1 := ⟨n - 1, by omega⟩
    have hl := sgN_lt c s i hw
    have key := loop_bits (fun mm a j => q_X10_tune_38 (q_X10_tune_27 m) mm (nI set) (nI i) (nI a) (nI j) S) (cnb c) (fun b => sgB c s b (nI i)) (fun a => if nI a = nI set then some (nI i, S) else q_X10_tune_27 m (nI set) (nI (i + 1)) S)
      (fun mm a j hj => by
        show q_X10_tune_38 _ (mm + 1) (nI set) (nI i) (nI a) (nI j) S = _
        rw [q_X10_tune_38]
        simp (disch := omega) only [fa_lit, vin_t, if_true, nI_clamp, r3, leN, show ¬ cnb c ≤ j from by omega, if_false, xm_sings hw hM hm hj, Option.bind_some, nI_bZ]
        cases sgB c s j (nI i) <;> simp (disch := omega) only [if_true, if_false, fa_lit, shlN, fa_or, nI_add, Bool.false_eq_true, Bool.true_eq_false, Nat.or_zero])
      (fun mm a => by
        show q_X10_tune_38 _ (mm + 1) (nI set) (nI i) (nI a) (nI (cnb c)) S = _
        rw [q_X10_tune_38]
        simp (disch := omega) only [fa_lit, vin_t, nI_clamp, r3, Int32.le_refl, if_true, nI_add]) FU (FU_gt (by omega)) 0
    rw [Nat.zero_or] at key
    rw [q_X10_tune_27, tun]
    simp (disch := omega) only [fa_lit, ltN, show ¬ 40 < i from by omega, if_false]
    refine key.trans ?_
    rw [ih (i + 1) m (by omega) (by omega)]
    show (if nI (sgN c s i) = nI set then _ else _) = _
    by_cases h : sgN c s i = set
    · simp only [h, if_true]
    · rw [if_neg h, if_neg (by rw [nI_eq (by omega) (by omega)]; exact h)]
theorem xc_thirds (hw : WC c) (hws : WS_ c s) (hR : RC c S) (hs : RS c s 21 S) {a b : Nat} (ha : a < cnb c) (hb : b < cnb c) : p_X1_rowsOfThirds (nI a) (nI b) S = some (nI (thN c s a b), S) := by
  have w3 := hw.2.2.1
  have w4 := hw.2.2.2.1
  have r2 := hR.2.1
  have inner : ∀ (ag5 : Int32 → Int32 → Int32 → Int32 → St → Option (Int32 × St)) (d n0 : Nat), d < cnd c → q_X1_rowsOfThirds_20 ag5 FU (nI a) (nI b) (nI n0) (nI d) (nI 0) S = ag5 (nI a) (nI b) (nI (n0 + cntB (cnd c) (thB c s a b d))) (nI (d + 1)) S := by
    intro ag5 d n0 hd
    have h1 := hs.2.1 d hd
    have h1' := hws.2.1 d hd
    exact loop_cnt (fun m x e => q_X1_rowsOfThirds_20 ag5 m (nI a) (nI b) (nI x) (nI d) (nI e) S) (cnd c) (thB c s a b d) (fun x => ag5 (nI a) (nI b) (nI x) (nI (d + 1)) S)
      (fun m x e he => by
        have h2 := hs.2.1 e he
        have h2' := hws.2.1 e he
        have h4 := ab4 (spi s d) (by omega) (spi s e) (by omega)
        show q_X1_rowsOfThirds_20 ag5 (m + 1) (nI a) (nI b) (nI x) (nI d) (nI e) S = _
        rw [q_X1_rowsOfThirds_20]
        simp (disch := omega) only [r2, leN, show ¬ cnd c ≤ e from by omega, if_false, vin_t, if_true, nI_clamp, h1, h2]
        unfold thB
        by_cases hab : spi s d = spi s e + 4 ∨ spi s e = spi s d + 4
        · rw [if_pos (h4.mpr hab)]
          simp (disch := omega) only [q_X1_rowsOfThirds_65, fa_lit, eqN, vin_t, if_true, nI_clamp, h1, h2, xc_sings hw hR hs ha, xc_sings hw hR hs hb, Option.bind_some, nI_bZ, nI_add, hab, decide_true, Bool.true_and, Nat.one_ne_zero, if_false]
          cases sgB c s a (nI (spi s d)) <;> cases sgB c s b (nI (spi s e)) <;> simp
        · rw [if_neg (fun q => hab (h4.mp q))]
          simp (disch := omega) only [q_X1_rowsOfThirds_65, fa_lit, if_true, nI_add, hab, decide_false, Bool.false_and, Bool.false_eq_true, if_false])
      (fun m x => by
        show q_X1_rowsOfThirds_20 ag5 (m + 1) (nI a) (nI b) (nI x) (nI d) (nI (cnd c)) S = _
        rw [q_X1_rowsOfThirds_20]
        simp only [r2, Int32.le_refl, if_true, fa_lit, nI_add]) FU (FU_gt (by omega)) n0
  have outer := loop_up (fun m x d => q_X1_rowsOfThirds_5 m (nI a) (nI b) (nI x) (nI d) S) (cnd c) (fun d x => x + cntB (cnd c) (thB c s a b d)) (fun x => some (nI x, S)) (fun _ _ => True)
    (fun m x d hd _ => ⟨by
      show q_X1_rowsOfThirds_5 (m + 1) (nI a) (nI b) (nI x) (nI d) S = _
      rw [q_X1_rowsOfThirds_5]
      simp (disch := omega) only [fa_lit, r2, leN, show ¬ cnd c ≤ d from by omega, if_false]
      exact inner _ d x hd, trivial⟩)
    (fun m x _ => by
      show q_X1_rowsOfThirds_5 (m + 1) (nI a) (nI b) (nI x) (nI (cnd c)) S = _
      rw [q_X1_rowsOfThirds_5]
      simp only [r2, Int32.le_refl, if_true]) (cnd c) FU 0 0 (by omega) (FU_gt (by omega)) trivial
  unfold p_X1_rowsOfThirds
  exact outer.1
theorem xm_thirdsq (hw : WC c) (hws : WS_ c s) (hM : MC c S) (hm : MS c s (S.1 110)) {a b : Nat} (ha : a < cnb c) (hb : b < cnb c) : q_X10_thirds_33 FU (nI a) (nI b) (nI 0) (nI 0) S = some (nI (thN c s a b), S) := by
  have w3 := hw.2.2.1
  have w4 := hw.2.2.2.1
  have r2 := hM.2.1
  have inner : ∀ (ag5 : Int32 → Int32 → Int32 → Int32 → St → Option (Int32 × St)) (d n0 : Nat), d < cnd c → q_X10_thirds_47 ag5 FU (nI a) (nI b) (nI n0) (nI d) (nI 0) S = ag5 (nI a) (nI b) (nI (n0 + cntB (cnd c) (thB c s a b d))) (nI (d + 1)) S := by
    intro ag5 d n0 hd
    have h1 := hm.2.1 d hd
    have h1' := hws.2.1 d hd
    exact loop_cnt (fun m x e => q_X10_thirds_47 ag5 m (nI a) (nI b) (nI x) (nI d) (nI e) S) (cnd c) (thB c s a b d) (fun x => ag5 (nI a) (nI b) (nI x) (nI (d + 1)) S)
      (fun m x e he => by
        have h2 := hm.2.1 e he
        have h2' := hws.2.1 e he
        have h4 := df4 (spi s d) (by omega) (spi s e) (by omega)
        have h5 := dg4 (spi s d) (by omega) (spi s e) (by omega)
        show q_X10_thirds_47 ag5 (m + 1) (nI a) (nI b) (nI x) (nI d) (nI e) S = _
        have body : q_X10_thirds_102 ag5 (q_X10_thirds_47 ag5 m) (nI a) (nI b) (nI d) (nI e) (nI x) S = q_X10_thirds_47 ag5 m (nI a) (nI b) (nI (if (sgB c s a (nI (spi s d)) && sgB c s b (nI (spi s e))) then x + 1 else x)) (nI d) (nI (e + 1)) S := by
          simp (disch := omega) only [q_X10_thirds_102, fa_lit, nI_add, vin_t, if_true, nI_clamp, h1, h2, xm_sings hw hM hm ha, xm_sings hw hM hm hb, Option.bind_some, nI_bZ]
          cases sgB c s a (nI (spi s d)) <;> cases sgB c s b (nI (spi s e)) <;> simp
        rw [q_X10_thirds_47]
        unfold thB
        by_cases hde : d = e
        · subst hde
          simp (disch := omega) only [fa_lit, nI_add, vin_t, if_true, nI_clamp, r2, leN, show ¬ cnd c ≤ d from by omega, if_false, show ¬ (spi s d = spi s d + 4 ∨ spi s d = spi s d + 4) from by omega, decide_false, Bool.false_and, Bool.false_eq_true, Nat.add_zero]
        · have e1 : nI d = nI e ↔ d = e := nI_eq (by omega) (by omega)
          simp (disch := omega) only [fa_lit, nI_add, vin_t, if_true, nI_clamp, r2, leN, show ¬ cnd c ≤ e from by omega, if_false, e1, hde, h1, h2]
          by_cases p1 : spi s d = spi s e + 4
          · rw [if_pos (h4.mpr p1), body]
            simp only [p1, true_or, decide_true, Bool.true_and]
          · rw [if_neg (fun q => p1 (h4.mp q))]
            by_cases p2 : spi s e = spi s d + 4
            · rw [if_pos (h5.mpr p2), body]
              simp only [p2, or_true, decide_true, Bool.true_and]
            · rw [if_neg (fun q => p2 (h5.mp q))]
              simp only [p1, p2, or_self, decide_false, Bool.false_and, Bool.false_eq_true, if_false, Nat.add_zero])
      (fun m x => by
        show q_X10_thirds_47 ag5 (m + 1) (nI a) (nI b) (nI x) (nI d) (nI (cnd c)) S = _
        rw [q_X10_thirds_47]
        simp (disch := omega) only [fa_lit, vin_t, nI_clamp, r2, Int32.le_refl, if_true, nI_add]) FU (FU_gt (by omega)) n0
  have outer := loop_up (fun m x d => q_X10_thirds_33 m (nI a) (nI b) (nI x) (nI d) S) (cnd c) (fun d x => x + cntB (cnd c) (thB c s a b d)) (fun x => some (nI x, S)) (fun _ _ => True)
    (fun m x d hd _ => ⟨by
      show q_X10_thirds_33 (m + 1) (nI a) (nI b) (nI x) (nI d) S = _
      rw [q_X10_thirds_33]
      simp (disch := omega) only [fa_lit, vin_t, nI_clamp, if_true, r2, leN, show ¬ cnd c ≤ d from by omega, if_false]
      exact inner _ d x hd, trivial⟩)
    (fun m x _ => by
      show q_X10_thirds_33 (m + 1) (nI a) (nI b) (nI x) (nI (cnd c)) S = _
      rw [q_X10_thirds_33]
      simp (disch := omega) only [fa_lit, vin_t, nI_clamp, r2, Int32.le_refl, if_true]) (cnd c) FU 0 0 (by omega) (FU_gt (by omega)) trivial
  exact outer.1
end PT
-- bits of a small set
def pc (x : Nat) : Nat := cntB 8 x.testBit
theorem bc_all : ∀ x, x < 256 → (match p_J6_bitCount_0f7a4 (nI x) (fun _ _ => 0, fun _ => 0) with | some q => q.1 | none => 0) = nI (pc x) := by decide +kernel
theorem bc_S (x : Int32) (S : St) : p_J6_bitCount_0f7a4 x S = some ((match p_J6_bitCount_0f7a4 x (fun _ _ => 0, fun _ => 0) with | some q => q.1 | none => 0), S) := rfl
theorem bitCount {x : Nat} (h : x < 256) (S : St) : p_J6_bitCount_0f7a4 (nI x) S = some (nI (pc x), S) := by rw [bc_S, bc_all x h]
theorem pc_le (x : Nat) : pc x ≤ 8 := cntB_le _ 8
theorem ones {x : Nat} (h : x < 2 ^ 31) (S : St) : p_X10_ones (nI x) S = some (nI (pc x), S) := by
  have key := loop_cnt (fun m a i => q_X10_ones_4 m (nI x) (nI a) (nI i) S) 8 x.testBit (fun a => some (nI a, S))
    (fun m a i hi => by
      show q_X10_ones_4 (m + 1) (nI x) (nI a) (nI i) S = _
      rw [q_X10_ones_4]
      simp (disch := omega) only [fa_lit, leN, show ¬ 8 ≤ i from by omega, if_false, bitT, nI_add]
      cases x.testBit i <;> simp [bN])
    (fun m a => by
      show q_X10_ones_4 (m + 1) (nI x) (nI a) (nI 8) S = _
      rw [q_X10_ones_4]
      simp only [fa_lit, Int32.le_refl, if_true]) FU (FU_gt (by decide)) 0
  unfold p_X10_ones
  rw [Nat.zero_add] at key
  exact key
