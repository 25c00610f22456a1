-- REACH, WAY, SHUT: both sides
section PY
variable {c : Cty} {s : Sce} {S : St}
theorem two256 {p : Nat} (h : p < 8) : 2 ^ p < 256 := (Nat.pow_lt_pow_right (by decide) h : 2 ^ p < 2 ^ 8)
theorem xc_reachq (hw : WC c) (hR : RC c S) {K : Nat} (hK : K < 256) : ∀ (k i n a : Nat), i + k = cnp c → k < n → a < 256 → q_X1_reach_23 n (nI K) (nI a) (nI i) S = some (nI (itr (wid c K) k a), S) := by
  have w2 := hw.2.1
  have r1 := hR.1
  intro k
  induction k with
  | zero =>
    intro i n a hi hn ha
    obtain ⟨m, rfl⟩ : ∃ m, n = m + 1 := ⟨n - 1, by omega⟩
    rw [q_X1_reach_23, r1, show i = cnp c by omega]
    simp only [Int32.le_refl, if_true, itr]
  | succ k ih =>
    intro i n a hi hn ha
    obtain ⟨m, rfl⟩ : ∃ m, n = m + 1 := ⟨n - 1, by omega⟩
    rw [q_X1_reach_23]
    simp (disch := omega) only [r1, leN, show ¬ cnp c ≤ i from by omega, if_false, xc_spread hw hR hK ha, Option.bind_some, fa_lit, nI_add]
    rw [ih (i + 1) m _ (by omega) (by omega) (wid_lt _ _ _), itr]
theorem xc_reach (hw : WC c) (hws : WS_ c s) (hR : RC c S) (hs : RS c s 21 S) {b : Nat} (hb : b < cnb c) (y : Int32) : p_X1_reach (nI b) y S = some (nI (rch c (kyy c s b y) (spl s b)), S) := by
  have w4 := hw.2.2.2.1
  have w2 := hw.2.1
  have hp := hws.1 b hb
  have h1 := (hs.1 b hb).1
  unfold p_X1_reach
  simp (disch := omega) only [xc_keys hw hws hR hs hb, Option.bind_some, vin_t, if_true, nI_clamp, h1, fa_lit, shlN]
  rw [xc_reachq hw hR (kyy_lt c s b y hw) (cnp c - 1) 1 FU (2 ^ spl s b) (by have := hw.1; omega) (FU_gt (by omega)) (two256 (by omega)), rch_eq hw _ hp (Nat.le_refl _)]
theorem xm_reachq (hw : WC c) (hM : MC c S) {K : Nat} (hK : K < 256) : ∀ (k i n a : Nat), i + k = 8 → k < n → a < 256 → q_X10_reachBy_14 n (nI K) (nI a) (nI i) S = some (nI (itr (wid c K) k a), S) := by
  intro k
  induction k with
  | zero =>
    intro i n a hi hn ha
    obtain ⟨m, rfl⟩ : ∃ m, n = m + 1 := ⟨n - 1, by omega⟩
    rw [q_X10_reachBy_14, show i = 8 by omega]
    simp only [fa_lit, Int32.le_refl, if_true, itr]
  | succ k ih =>
    intro i n a hi hn ha
    obtain ⟨m, rfl⟩ : ∃ m, n = m + 1 := ⟨n - 1, by omega⟩
    rw [q_X10_reachBy_14]
    simp (disch := omega) only [fa_lit, leN, show ¬ 8 ≤ i from by omega, if_false, xm_wider hw hM hK ha, Option.bind_some, nI_add]
    rw [ih (i + 1) m _ (by omega) (by omega) (wid_lt _ _ _), itr]
theorem xm_reachBy (hw : WC c) (hws : WS_ c s) (hM : MC c S) (hm : MS c s (S.1 110)) {b K : Nat} (hb : b < cnb c) (hK : K < 256) : p_X10_reachBy (nI b) (nI K) S = some (nI (rch c K (spl s b)), S) := by
  have w4 := hw.2.2.2.1
  have w2 := hw.2.1
  have hp := hws.1 b hb
  have h1 := (hm.1 b hb).1
  unfold p_X10_reachBy
  simp (disch := omega) only [fa_lit, nI_add, Nat.zero_add, vin_t, if_true, nI_clamp, h1, shlN]
  rw [xm_reachq hw hM hK 8 0 FU (2 ^ spl s b) (by omega) (FU_gt (by omega)) (two256 (by omega))]
  rfl
theorem xc_wayq (hw : WC c) (hR : RC c S) {K x : Nat} (hK : K < 256) (hx : x < 8) : ∀ (k i n a : Nat), i + k = cnp c → k < n → a < 256 → q_X1_fewestDoors_23 n (nI x) (nI K) (nI a) (nI i) S = some (wyf (wid c K) x k i a, S) := by
  have w2 := hw.2.1
  have r1 := hR.1
  intro k
  induction k with
  | zero =>
    intro i n a hi hn ha
    obtain ⟨m, rfl⟩ : ∃ m, n = m + 1 := ⟨n - 1, by omega⟩
    rw [q_X1_fewestDoors_23, r1, show i = cnp c by omega]
    simp only [Int32.le_refl, if_true, wyf]
  | succ k ih =>
    intro i n a hi hn ha
    obtain ⟨m, rfl⟩ : ∃ m, n = m + 1 := ⟨n - 1, by omega⟩
    rw [q_X1_fewestDoors_23, wyf]
    simp (disch := omega) only [r1, fa_lit, leN, show ¬ cnp c ≤ i from by omega, if_false, bitT, nI_bO, xc_spread hw hR hK ha, Option.bind_some, nI_add, ih (i + 1) m _ (by omega : i + 1 + k = cnp c) (by omega : k < m) (wid_lt _ _ _)]
    cases a.testBit x <;> simp
theorem xc_fewestDoors (hw : WC c) (hws : WS_ c s) (hR : RC c S) (hs : RS c s 21 S) {b x : Nat} (hb : b < cnb c) (hx : x < cnp c) : p_X1_fewestDoors (nI b) (nI x) S = some (wyf (wid c (kn c s b)) x 8 0 (2 ^ spl s b), S) := by
  have w4 := hw.2.2.2.1
  have w2 := hw.2.1
  have hp := hws.1 b hb
  have h1 := (hs.1 b hb).1
  unfold p_X1_fewestDoors
  simp (disch := omega) only [fa_lit, xc_keys0 hw hws hR hs hb, Option.bind_some, vin_t, if_true, nI_clamp, h1, shlN]
  rw [xc_wayq hw hR (kn_lt c s b hw) (by omega) (cnp c) 0 FU (2 ^ spl s b) (by omega) (FU_gt (by omega)) (two256 (by omega)), wyf_eq hw _ _ hp]
theorem xm_wayq (hw : WC c) (hws : WS_ c s) (hM : MC c S) (hm : MS c s (S.1 110)) {b x : Nat} (hb : b < cnb c) (hx : x < 8) : ∀ (k i n a : Nat), i + k = 8 → k < n → a < 256 → q_X10_way_37 n (nI b) (nI x) (nI a) (nI i) S = some (wyf (wid c (kn c s b)) x k i a, S) := by
  have hK := kn_lt c s b hw
  intro k
  induction k with
  | zero =>
    intro i n a hi hn ha
    obtain ⟨m, rfl⟩ : ∃ m, n = m + 1 := ⟨n - 1, by omega⟩
    rw [q_X10_way_37, show i = 8 by omega]
    simp only [fa_lit, Int32.le_refl, if_true, wyf]
  | succ k ih =>
    intro i n a hi hn ha
    obtain ⟨m, rfl⟩ : ∃ m, n = m + 1 := ⟨n - 1, by omega⟩
    rw [q_X10_way_37, wyf]
    simp (disch := omega) only [fa_lit, leN, show ¬ 8 ≤ i from by omega, if_false, has_m, nI_bZ, xm_keys hw hws hM hm hb, xm_wider hw hM hK ha, Option.bind_some, nI_add, ih (i + 1) m _ (by omega : i + 1 + k = 8) (by omega : k < m) (wid_lt _ _ _)]
    cases a.testBit x <;> simp
/-- in which year, from the i-th on, k years looked at -/
def sho (c : Cty) (s : Sce) (b : Nat) : Nat → Nat → Int32
  | 0, _ => -9
  | k + 1, i => if (rch c (kyy c s b (nI i)) (spl s b)).testBit (chm c b) then sho c s b k (i + 1) else nI i
theorem xc_shutq (hw : WC c) (hws : WS_ c s) (hR : RC c S) (hs : RS c s 21 S) {b : Nat} (hb : b < cnb c) : ∀ (k i n : Nat), i + k = 21 → k < n → q_X1_shutOut_2 n (nI b) (nI i) S = some (sho c s b k i, S) := by
  have w4 := hw.2.2.2.1
  have w2 := hw.2.1
  have hp := hws.1 b hb
  have hh := hw.2.2.2.2.2.2 b hb
  have h11 := (hR.2.2.2.2.2 b hb).2.2.2
  intro k
  induction k with
  | zero =>
    intro i n hi hn
    obtain ⟨m, rfl⟩ : ∃ m, n = m + 1 := ⟨n - 1, by omega⟩
    rw [q_X1_shutOut_2, show i = 21 by omega]
    simp (disch := omega) only [fa_lit, ltN, if_true, sho]
    rfl
  | succ k ih =>
    intro i n hi hn
    obtain ⟨m, rfl⟩ : ∃ m, n = m + 1 := ⟨n - 1, by omega⟩
    have hr := rch_lt c (kyy c s b (nI i)) (p := spl s b) (by omega)
    rw [q_X1_shutOut_2, sho]
    simp (disch := omega) only [fa_lit, ltN, show ¬ 20 < i from by omega, if_false, xc_reach hw hws hR hs hb, Option.bind_some, vin_t, if_true, nI_clamp, h11, bitT, nI_bZ, nI_add, ih (i + 1) m (by omega : i + 1 + k = 21) (by omega : k < m)]
    cases (rch c (kyy c s b (nI i)) (spl s b)).testBit (chm c b) <;> simp
theorem xc_shutOut (hw : WC c) (hws : WS_ c s) (hR : RC c S) (hs : RS c s 21 S) {b : Nat} (hb : b < cnb c) : p_X1_shutOut (nI b) S = some (sho c s b 21 0, S) := by
  unfold p_X1_shutOut
  rw [fa_lit, xc_shutq hw hws hR hs hb 21 0 FU rfl (FU_gt (by decide))]
theorem xm_shutq (hw : WC c) (hws : WS_ c s) (hM : MC c S) (hm : MS c s (S.1 110)) {b : Nat} (hb : b < cnb c) : ∀ (k i n : Nat), i + k = 21 → k < n → q_X10_shutOf_2 n (nI b) (nI i) S = some (sho c s b k i, S) := by
  have w4 := hw.2.2.2.1
  have w2 := hw.2.1
  have hp := hws.1 b hb
  have hh := hw.2.2.2.2.2.2 b hb
  have h11 := (hM.2.2.2.2.2 b hb).2.2.2
  intro k
  induction k with
  | zero =>
    intro i n hi hn
    obtain ⟨m, rfl⟩ : ∃ m, n = m + 1 := ⟨n - 1, by omega⟩
    rw [q_X10_shutOf_2, show i = 21 by omega]
    simp (disch := omega) only [fa_lit, ltN, if_true, sho]
    rfl
  | succ k ih =>
    intro i n hi hn
    obtain ⟨m, rfl⟩ : ∃ m, n = m + 1 := ⟨n - 1, by omega⟩
    have hr := rch_lt c (kyy c s b (nI i)) (p := spl s b) (by omega)
    have hk := kyy_lt c s b (nI i) hw
    rw [q_X10_shutOf_2, sho]
    simp (disch := omega) only [fa_lit, ltN, show ¬ 20 < i from by omega, if_false, xm_keysIn hw hws hM hm hb, xm_reachBy hw hws hM hm hb hk, Option.bind_some, vin_t, if_true, nI_clamp, h11, has_m, nI_bZ, nI_add, ih (i + 1) m (by omega : i + 1 + k = 21) (by omega : k < m)]
    cases (rch c (kyy c s b (nI i)) (spl s b)).testBit (chm c b) <;> simp
theorem xm_shutOf (hw : WC c) (hws : WS_ c s) (hM : MC c S) (hm : MS c s (S.1 110)) {b : Nat} (hb : b < cnb c) : p_X10_shutOf (nI b) S = some (sho c s b 21 0, S) := by
  unfold p_X10_shutOf
  rw [fa_lit, xm_shutq hw hws hM hm hb 21 0 FU rfl (FU_gt (by decide))]
end PY
