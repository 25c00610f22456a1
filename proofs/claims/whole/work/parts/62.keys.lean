-- KEYS, OPENERS, WHO IS AT HOME: both sides
theorem loop_bits {β : Type} (F : Nat → Nat → Nat → β) (n : Nat) (p : Nat → Bool) (fin : Nat → β) (h1 : ∀ m a i, i < n → F (m + 1) a i = F m (if p i then a ||| 2 ^ i else a) (i + 1)) (h2 : ∀ m a, F (m + 1) a n = fin a) (m : Nat) (hm : n < m) (a : Nat) : F m a 0 = fin (a ||| bs n p) := by
  have key := loop_up F n (fun i a => if p i then a ||| 2 ^ i else a) fin (fun _ _ => True) (fun m a i hi _ => ⟨h1 m a i hi, trivial⟩) (fun m a _ => h2 m a) n m 0 a (by omega) hm trivial
  have k1 := key.1
  rw [lpf_bs] at k1
  exact k1
def opN (c : Cty) (s : Sce) (d : Nat) : Nat := bs (cnb c) (fun b => (kn c s b).testBit d)
def ahN (c : Cty) (s : Sce) : Nat := bs (cnb c) (fun b => decide (spl s b = chm c b))
theorem opN_lt (c : Cty) (s : Sce) (d : Nat) (h : WC c) : opN c s d < 32 := bs_lt' (k := 5) _ h.2.2.2.1
theorem kyy_bit (c : Cty) (s : Sce) (b : Nat) (y : Int32) (d : Nat) : (kyy c s b y).testBit d = (decide (d < cnd c) && ((spr s).testBit d || inb (nI (spi s d)) (lwy c s b y) (hgy c s b y))) := bs_bit _ _ _
theorem has_m {a d : Nat} (ha : a < 2 ^ 31) (hd : d < 31) (S : St) : p_X10_has (nI a) (nI d) S = some (nI (bN (a.testBit d)), S) := by
  unfold p_X10_has
  simp only [fa_lit, bitT ha hd]
  cases a.testBit d
  · rw [if_neg (by decide)]; rfl
  · rw [if_pos (by decide)]; rfl
theorem spr_lt {c : Cty} {s : Sce} (hw : WC c) (hws : WS_ c s) : spr s < 256 := Nat.lt_of_lt_of_le hws.2.2.1 (Nat.pow_le_pow_right (by decide) hw.2.2.1 : 2 ^ cnd c ≤ 2 ^ 8)
section PM
variable {c : Cty} {s : Sce} {S : St}
theorem xm_lowest (hw : WC c) (hM : MC c S) {b : Nat} (hb : b < cnb c) (a : Int32) : p_X10_lowest (nI b) a S = some (lwv (clo c b) (cbr c b) a, S) := by
  obtain ⟨w1, w2, w3, w4, w5, w6, w7⟩ := hw
  obtain ⟨r1, r2, r3, r4, r5, r6⟩ := hM
  obtain ⟨a1, a2, a3, a4⟩ := r6 b hb
  unfold p_X10_lowest lwv
  simp (disch := omega) only [vin_t, if_true, nI_clamp, a1, a3]
  by_cases h : a < cbr c b <;> simp only [h, if_true, if_false]
theorem xm_highest (hw : WC c) (hM : MC c S) {b : Nat} (hb : b < cnb c) (a co : Int32) : p_X10_highest (nI b) a co S = some (hgv (chi c b) (cbr c b) a co, S) := by
  obtain ⟨w1, w2, w3, w4, w5, w6, w7⟩ := hw
  obtain ⟨r1, r2, r3, r4, r5, r6⟩ := hM
  obtain ⟨a1, a2, a3, a4⟩ := r6 b hb
  unfold p_X10_highest hgv
  simp (disch := omega) only [vin_t, if_true, nI_clamp, a2, a3]
  by_cases h : a < cbr c b <;> simp only [h, if_true, if_false]
theorem lwy_0 (c : Cty) (s : Sce) (b : Nat) : lwy c s b 0 = lwv (clo c b) (cbr c b) (sag s b) := by unfold lwy; rw [Int32.add_zero]
theorem hgy_0 (c : Cty) (s : Sce) (b : Nat) : hgy c s b 0 = hgv (chi c b) (cbr c b) (sag s b) (sco s b) := by unfold hgy; rw [Int32.add_zero, if_pos rfl]
theorem xm_sings (hw : WC c) (hM : MC c S) (hm : MS c s (S.1 110)) {b : Nat} (hb : b < cnb c) (v : Int32) : p_X10_sings (nI b) v S = some (nI (bN (sgB c s b v)), S) := by
  obtain ⟨b1, b2, b3⟩ := hm.1 b hb
  have w4 := hw.2.2.2.1
  unfold p_X10_sings sgB
  simp (disch := omega) only [fa_lit, nI_add, vin_t, if_true, nI_clamp, b2, b3, xm_lowest hw hM hb, xm_highest hw hM hb, inb_m, Option.bind_some, nI_bZ, nI_bO]
  rw [show nI 0 = 0 from rfl, lwy_0, hgy_0]
  cases inb v (lwv (clo c b) (cbr c b) (sag s b)) (hgv (chi c b) (cbr c b) (sag s b) (sco s b)) <;> simp
theorem xm_keysq (hw : WC c) (hws : WS_ c s) (hM : MC c S) (hm : MS c s (S.1 110)) {b : Nat} (hb : b < cnb c) (ag co : Int32) (n : Nat) (hn : 8 < n) (a : Nat) : q_X10_keysIn_36 n (nI b) ag co (nI a) (nI 0) S = some (nI (a ||| bs (cnd c) (fun d => (spr s).testBit d || inb (nI (spi s d)) (lwv (clo c b) (cbr c b) ag) (hgv (chi c b) (cbr c b) ag co))), S) := by
  have hsp := spr_lt hw hws
  have hlo := fun ag => xm_lowest (S := S) hw hM hb ag
  have hhi := fun ag co => xm_highest (S := S) hw hM hb ag co
  obtain ⟨w1, w2, w3, w4, w5, w6, w7⟩ := hw
  obtain ⟨r1, r2, r3, r4, r5, r6⟩ := hM
  obtain ⟨m1, m2, m3, m4⟩ := hm
  exact loop_bits (fun m a i => q_X10_keysIn_36 m (nI b) ag co (nI a) (nI i) S) (cnd c) (fun d => (spr s).testBit d || inb (nI (spi s d)) (lwv (clo c b) (cbr c b) ag) (hgv (chi c b) (cbr c b) ag co)) (fun a => some (nI a, S))
    (fun m a i hi => by
      have h2 := m2 i hi
      show q_X10_keysIn_36 (m + 1) (nI b) ag co (nI a) (nI i) S = _
      rw [q_X10_keysIn_36]
      simp (disch := omega) only [fa_lit, nI_add, vin_t, if_true, nI_clamp, r2, leN, show ¬ cnd c ≤ i from by omega, if_false, m3, has_m, Option.bind_some, h2, hlo, hhi, inb_m, q_X10_keysIn_92, q_X10_keysIn_97, nI_bZ]
      cases (spr s).testBit i
      · simp only [if_true, Bool.false_or]
        cases inb (nI (spi s i)) (lwv (clo c b) (cbr c b) ag) (hgv (chi c b) (cbr c b) ag co) <;> simp (disch := omega) only [bN, eqN, if_true, if_false, fa_lit, shlN, fa_or, nI_add, Bool.false_eq_true, Bool.true_eq_false, Nat.or_zero, Nat.one_ne_zero]
      · simp (disch := omega) only [bN, eqN, if_true, if_false, fa_lit, shlN, fa_or, nI_add, Bool.false_eq_true, Bool.true_eq_false, Bool.true_or, Nat.one_ne_zero])
    (fun m a => by
      show q_X10_keysIn_36 (m + 1) (nI b) ag co (nI a) (nI (cnd c)) S = _
      rw [q_X10_keysIn_36]
      simp (disch := omega) only [fa_lit, vin_t, if_true, nI_clamp, r2, Int32.le_refl]) n (by omega) a
theorem xm_keysIn (hw : WC c) (hws : WS_ c s) (hM : MC c S) (hm : MS c s (S.1 110)) {b : Nat} (hb : b < cnb c) (y : Int32) : p_X10_keysIn (nI b) y S = some (nI (kyy c s b y), S) := by
  obtain ⟨b1, b2, b3⟩ := hm.1 b hb
  have w4 := hw.2.2.2.1
  unfold p_X10_keysIn
  simp (disch := omega) only [nI_add, fa_lit, vin_t, if_true, nI_clamp, b2, b3]
  simp only [xm_keysq hw hws hM hm hb _ _ FU FU8, Nat.zero_or]
  by_cases hy : y = nI 0
  · simp only [hy, if_true]
    congr 3
  · simp only [hy, if_false]
    unfold kyy lwy hgy
    rw [if_neg (by exact hy)]
    rfl
theorem xm_keys (hw : WC c) (hws : WS_ c s) (hM : MC c S) (hm : MS c s (S.1 110)) {b : Nat} (hb : b < cnb c) : p_X10_keys (nI b) S = some (nI (kn c s b), S) := by
  unfold p_X10_keys kn
  simp only [xm_keysIn hw hws hM hm hb, Option.bind_some]
theorem xm_openersq (hw : WC c) (hws : WS_ c s) (hM : MC c S) (hm : MS c s (S.1 110)) {d : Nat} (hd : d < cnd c) (n : Nat) (hn : 8 < n) (a : Nat) : q_X10_openers_4 n (nI d) (nI a) (nI 0) S = some (nI (a ||| opN c s d), S) := by
  have w4 := hw.2.2.2.1
  have w3 := hw.2.2.1
  have r3 := hM.2.2.1
  exact loop_bits (fun m a i => q_X10_openers_4 m (nI d) (nI a) (nI i) S) (cnb c) (fun b => (kn c s b).testBit d) (fun a => some (nI a, S))
    (fun m a i hi => by
      have hk := kn_lt c s i hw
      show q_X10_openers_4 (m + 1) (nI d) (nI a) (nI i) S = _
      rw [q_X10_openers_4]
      simp (disch := omega) only [fa_lit, nI_add, vin_t, if_true, nI_clamp, r3, leN, show ¬ cnb c ≤ i from by omega, if_false, xm_keys hw hws hM hm hi, has_m, Option.bind_some, nI_bZ]
      cases (kn c s i).testBit d <;> simp (disch := omega) only [if_true, if_false, fa_lit, shlN, fa_or, nI_add, Bool.false_eq_true, Bool.true_eq_false, Nat.or_zero])
    (fun m a => by
      show q_X10_openers_4 (m + 1) (nI d) (nI a) (nI (cnb c)) S = _
      rw [q_X10_openers_4]
      simp (disch := omega) only [fa_lit, vin_t, if_true, nI_clamp, r3, Int32.le_refl]) n (by omega) a
theorem xm_openers (hw : WC c) (hws : WS_ c s) (hM : MC c S) (hm : MS c s (S.1 110)) {d : Nat} (hd : d < cnd c) : p_X10_openers (nI d) S = some (nI (opN c s d), S) := by
  unfold p_X10_openers
  simp only [fa_lit, xm_openersq hw hws hM hm hd FU FU8, Nat.zero_or]
theorem xm_atHomeq (hw : WC c) (hws : WS_ c s) (hM : MC c S) (hm : MS c s (S.1 110)) (n : Nat) (hn : 8 < n) (a : Nat) : q_X10_atHome_4 n (nI a) (nI 0) S = some (nI (a ||| ahN c s), S) := by
  obtain ⟨w1, w2, w3, w4, w5, w6, w7⟩ := hw
  obtain ⟨r1, r2, r3, r4, r5, r6⟩ := hM
  exact loop_bits (fun m a i => q_X10_atHome_4 m (nI a) (nI i) S) (cnb c) (fun b => decide (spl s b = chm c b)) (fun a => some (nI a, S))
    (fun m a i hi => by
      obtain ⟨a1, a2, a3, a4⟩ := r6 i hi
      obtain ⟨b1, b2, b3⟩ := hm.1 i hi
      have h1 := hws.1 i hi
      have h2 := w7 i hi
      show q_X10_atHome_4 (m + 1) (nI a) (nI i) S = _
      rw [q_X10_atHome_4]
      simp (disch := omega) only [fa_lit, nI_add, Nat.zero_add, vin_t, if_true, nI_clamp, r3, leN, show ¬ cnb c ≤ i from by omega, if_false, a4, b1, eqN, decide_eq_true_eq]
      by_cases h : spl s i = chm c i <;> simp (disch := omega) only [h, if_true, if_false, fa_lit, shlN, fa_or, nI_add, Nat.or_zero])
    (fun m a => by
      show q_X10_atHome_4 (m + 1) (nI a) (nI (cnb c)) S = _
      rw [q_X10_atHome_4]
      simp (disch := omega) only [fa_lit, vin_t, if_true, nI_clamp, r3, Int32.le_refl]) n (by omega) a
theorem xm_atHome (hw : WC c) (hws : WS_ c s) (hM : MC c S) (hm : MS c s (S.1 110)) : p_X10_atHome S = some (nI (ahN c s), S) := by
  unfold p_X10_atHome
  simp only [fa_lit, xm_atHomeq hw hws hM hm FU FU8, Nat.zero_or]
-- the class
theorem xc_opens (hw : WC c) (hws : WS_ c s) (hR : RC c S) (hs : RS c s 21 S) {b d : Nat} (hb : b < cnb c) (hd : d < cnd c) : p_X1_opens (nI b) (nI d) S = some (nI (bN ((kn c s b).testBit d)), S) := by
  have hsp := spr_lt hw hws
  have w3 := hw.2.2.1
  have h2 := hs.2.1 d hd
  unfold p_X1_opens
  simp (disch := omega) only [hs.2.2.1, fa_lit, bitT, nI_bO, vin_t, if_true, nI_clamp, h2, xc_sings hw hR hs hb, Option.bind_some, nI_bZ, kn_bit, show d < cnd c from hd, decide_true, Bool.true_and]
  cases (spr s).testBit d
  · simp only [Bool.false_eq_true, if_false, Bool.false_or]
    cases sgB c s b (nI (spi s d)) <;> simp only [bN, if_true, if_false, Bool.false_eq_true, Bool.true_eq_false]
  · simp only [if_true, Bool.true_or, bN]
theorem xc_openersq (hw : WC c) (hws : WS_ c s) (hR : RC c S) (hs : RS c s 21 S) {d : Nat} (hd : d < cnd c) (n : Nat) (hn : 8 < n) (a : Nat) : q_X1_openers_4 n (nI d) (nI a) (nI 0) S = some (nI (a ||| opN c s d), S) := by
  have w4 := hw.2.2.2.1
  have w3 := hw.2.2.1
  have r3 := hR.2.2.1
  exact loop_bits (fun m a i => q_X1_openers_4 m (nI d) (nI a) (nI i) S) (cnb c) (fun b => (kn c s b).testBit d) (fun a => some (nI a, S))
    (fun m a i hi => by
      show q_X1_openers_4 (m + 1) (nI d) (nI a) (nI i) S = _
      rw [q_X1_openers_4]
      simp (disch := omega) only [fa_lit, r3, leN, show ¬ cnb c ≤ i from by omega, if_false, xc_opens hw hws hR hs hi hd, Option.bind_some, nI_bZ]
      cases (kn c s i).testBit d <;> simp (disch := omega) only [if_true, if_false, fa_lit, shlN, fa_or, nI_add, Bool.false_eq_true, Bool.true_eq_false])
    (fun m a => by
      show q_X1_openers_4 (m + 1) (nI d) (nI a) (nI (cnb c)) S = _
      rw [q_X1_openers_4]
      simp only [r3, Int32.le_refl, if_true]) n (by omega) a
theorem xc_openers (hw : WC c) (hws : WS_ c s) (hR : RC c S) (hs : RS c s 21 S) {d : Nat} (hd : d < cnd c) : p_X1_openers (nI d) S = some (nI (opN c s d), S) := by
  unfold p_X1_openers
  simp only [fa_lit, xc_openersq hw hws hR hs hd FU FU8, Nat.zero_or]
theorem xc_atHomeq (hw : WC c) (hws : WS_ c s) (hR : RC c S) (hs : RS c s 21 S) (n : Nat) (hn : 8 < n) (a : Nat) : q_X1_atHome_4 n (nI a) (nI 0) S = some (nI (a ||| ahN c s), S) := by
  obtain ⟨w1, w2, w3, w4, w5, w6, w7⟩ := hw
  obtain ⟨r1, r2, r3, r4, r5, r6⟩ := hR
  exact loop_bits (fun m a i => q_X1_atHome_4 m (nI a) (nI i) S) (cnb c) (fun b => decide (spl s b = chm c b)) (fun a => some (nI a, S))
    (fun m a i hi => by
      obtain ⟨a1, a2, a3, a4⟩ := r6 i hi
      obtain ⟨b1, b2, b3⟩ := hs.1 i hi
      have h1 := hws.1 i hi
      have h2 := w7 i hi
      show q_X1_atHome_4 (m + 1) (nI a) (nI i) S = _
      rw [q_X1_atHome_4]
      simp (disch := omega) only [fa_lit, vin_t, if_true, nI_clamp, r3, leN, show ¬ cnb c ≤ i from by omega, if_false, a4, b1, eqN, decide_eq_true_eq]
      by_cases h : spl s i = chm c i <;> simp (disch := omega) only [h, if_true, if_false, fa_lit, shlN, fa_or, nI_add])
    (fun m a => by
      show q_X1_atHome_4 (m + 1) (nI a) (nI (cnb c)) S = _
      rw [q_X1_atHome_4]
      simp only [r3, Int32.le_refl, if_true]) n (by omega) a
theorem xc_atHome (hw : WC c) (hws : WS_ c s) (hR : RC c S) (hs : RS c s 21 S) : p_X1_atHome S = some (nI (ahN c s), S) := by
  unfold p_X1_atHome
  simp only [fa_lit, xc_atHomeq hw hws hR hs FU FU8, Nat.zero_or]
end PM
