-- WHAT WAS HEARD: who can it be, at which door to ask, both sides
theorem nI_subN {a b : Nat} (h : b ≤ a) : nI a - nI b = nI (a - b) := by
  have e : nI a = nI (a - b) + nI b := by rw [nI_add, Nat.sub_add_cancel h]
  rw [e, Int32.add_sub_cancel]
def alB : Nat → (Nat → Bool) → Bool
  | 0, _ => true
  | n + 1, p => alB n p && p n
theorem alB_iff (p : Nat → Bool) : ∀ n, alB n p = true ↔ ∀ d, d < n → p d = true
  | 0 => ⟨fun _ d h => absurd h (by omega), fun _ => rfl⟩
  | n + 1 => by
    rw [alB, Bool.and_eq_true, alB_iff p n]
    constructor
    · rintro ⟨h1, h2⟩ d hd
      by_cases e : d = n
      · subst e; exact h2
      · exact h1 d (by omega)
    · intro h; exact ⟨fun d hd => h d (by omega), h n (by omega)⟩
/-- what was heard: how many, at which doors, opened (1) or not (0) -/
abbrev Hea : Type := Nat × (Nat → Nat) × (Nat → Nat)
def WH (c : Cty) (h : Hea) : Prop := h.1 ≤ 6 ∧ ∀ i, i < h.1 → h.2.1 i < cnd c ∧ h.2.2 i ≤ 1
def RH (h : Hea) (S : St) : Prop := S.1 95 3 = nI h.1 ∧ ∀ i, i < h.1 → S.1 96 i = nI (h.2.1 i) ∧ S.1 97 i = nI (h.2.2 i)
def MH (h : Hea) (S : St) : Prop := S.1 99 26 = nI h.1 ∧ ∀ i, i < h.1 → S.1 114 i = nI (h.2.1 i) ∧ S.1 115 i = nI (h.2.2 i)
def heB (c : Cty) (s : Sce) (h : Hea) (b i : Nat) : Bool := (kn c s b).testBit (h.2.1 i) == decide (h.2.2 i = 1)
def whN (c : Cty) (s : Sce) (h : Hea) : Nat := bs (cnb c) (fun b => alB h.1 (heB c s h b))
theorem whN_lt (c : Cty) (s : Sce) (h : Hea) (hw : WC c) : whN c s h < 32 := bs_lt' (k := 5) _ hw.2.2.2.1
theorem not_and : ∀ a, a < 32 → ∀ b, b < 32 → (nI a &&& (nI b ^^^ (-1 : Int32))) = nI (a &&& (31 ^^^ b)) := by decide +kernel
theorem all_bits : ∀ n, n < 6 → (nI 1 <<< (nI n &&& nI 31)) - nI 1 = nI (2 ^ n - 1) := by decide +kernel
theorem t31 {b : Nat} (h : b < 5) : (31 : Nat).testBit b = true := by
  have : ∀ b, b < 5 → (31 : Nat).testBit b = true := by decide
  exact this b h
def wstep (c : Cty) (s : Sce) (h : Hea) (i a : Nat) : Nat := if h.2.2 i = 1 then a &&& opN c s (h.2.1 i) else a &&& (31 ^^^ opN c s (h.2.1 i))
theorem whN_lpf (c : Cty) (s : Sce) (h : Hea) (hw : WC c) : ∀ n, lpf (wstep c s h) 0 n (2 ^ cnb c - 1) = bs (cnb c) (fun b => alB n (heB c s h b))
  | 0 => by
    apply bs_eq
    intro j
    rw [lpf, Nat.testBit_two_pow_sub_one]
    simp [alB]
  | n + 1 => by
    have w4 := hw.2.2.2.1
    rw [lpf_end, Nat.zero_add, whN_lpf c s h hw n]
    apply bs_eq
    intro j
    unfold wstep
    have e : (opN c s (h.2.1 n)).testBit j = (decide (j < cnb c) && (kn c s j).testBit (h.2.1 n)) := bs_bit _ _ _
    by_cases l : j < cnb c
    · by_cases h1 : h.2.2 n = 1
      · simp [h1, Nat.testBit_and, bs_bit, e, l, alB, heB]
      · simp [h1, Nat.testBit_and, Nat.testBit_xor, bs_bit, e, l, alB, heB, t31 (show j < 5 by omega)]
    · by_cases h1 : h.2.2 n = 1
      · simp [h1, Nat.testBit_and, bs_bit, e, l, alB]
      · simp [h1, Nat.testBit_and, bs_bit, e, l, alB]
section PH
variable {c : Cty} {s : Sce} {h : Hea} {S : St}
theorem xc_suspects (hw : WC c) (hws : WS_ c s) (hwh : WH c h) (hR : RC c S) (hs : RS c s 21 S) (hh : RH h S) : p_X3_suspects S = some (nI (whN c s h), S) := by
  have w4 := hw.2.2.2.1
  have r3 := hR.2.2.1
  have key := loop_up (fun m a i => q_X3_suspects_17 m (nI a) (nI i) S) h.1 (wstep c s h) (fun a => some (nI a, S)) (fun _ a => a < 32)
    (fun m a i hi ha => by
      obtain ⟨e1, e2⟩ := hh.2 i hi
      obtain ⟨f1, f2⟩ := hwh.2 i hi
      have g := hwh.1
      have ho := opN_lt c s (h.2.1 i) hw
      refine ⟨?_, ?_⟩
      · show q_X3_suspects_17 (m + 1) (nI a) (nI i) S = _
        rw [q_X3_suspects_17]
        simp (disch := omega) only [hh.1, leN, show ¬ h.1 ≤ i from by omega, if_false, vin_t, if_true, nI_clamp, e1, xc_openers hw hws hR hs f1, Option.bind_some, e2, wstep]
        by_cases h1 : h.2.2 i = 1
        · simp (disch := omega) only [h1, fa_lit, eqN, if_true, fa_and, nI_add]
        · have : (nI (h.2.2 i) = (1 : Int32)) ↔ h.2.2 i = 1 := show (nI (h.2.2 i) = nI 1) ↔ _ from nI_eq (by omega) (by decide)
          rw [if_neg (fun q => h1 (this.mp q)), if_neg h1, not_and a ha _ ho]
          simp only [fa_lit, nI_add]
      · show wstep c s h i a < 32
        unfold wstep
        split <;> exact Nat.lt_of_le_of_lt Nat.and_le_left ha)
    (fun m a _ => by
      show q_X3_suspects_17 (m + 1) (nI a) (nI h.1) S = _
      rw [q_X3_suspects_17]
      simp only [hh.1, Int32.le_refl, if_true]) h.1 FU 0 (2 ^ cnb c - 1) (by omega) (FU_gt (by have := hwh.1; omega)) (by
      have : 2 ^ cnb c ≤ 2 ^ 5 := Nat.pow_le_pow_right (by decide) w4
      omega)
  unfold p_X3_suspects
  rw [r3]
  show q_X3_suspects_17 FU (nI 1 <<< (nI (cnb c) &&& nI 31) - nI 1) (nI 0) S = _
  rw [all_bits (cnb c) (by omega)]
  refine key.1.trans ?_
  rw [whN_lpf c s h hw h.1]
  rfl
theorem xm_whoCan (hw : WC c) (hws : WS_ c s) (hwh : WH c h) (hM : MC c S) (hm : MS c s (S.1 110)) (hh : MH h S) : p_X10_whoCan S = some (nI (whN c s h), S) := by
  have w4 := hw.2.2.2.1
  have w3 := hw.2.2.1
  have r3 := hM.2.2.1
  have key := loop_bits (fun m a i => q_X10_whoCan_4 m (nI a) (nI i) S) (cnb c) (fun b => alB h.1 (heB c s h b)) (fun a => some (nI a, S))
    (fun m a b hb => by
      show q_X10_whoCan_4 (m + 1) (nI a) (nI b) S = _
      rw [q_X10_whoCan_4]
      have hk := kn_lt c s b hw
      simp (disch := omega) only [fa_lit, vin_t, nI_clamp, if_true, r3, leN, show ¬ cnb c ≤ b from by omega, if_false]
      have inner := loop_up (fun mm (f : Bool) i => q_X10_whoCan_19 (q_X10_whoCan_4 m) mm (nI a) (nI b) (nI (bN f)) (nI i) S) h.1 (fun i f => f && heB c s h b i) (fun f => q_X10_whoCan_4 m (nI (if f then a ||| 2 ^ b else a)) (nI (b + 1)) S) (fun _ _ => True)
        (fun mm f i hi _ => ⟨by
          obtain ⟨e1, e2⟩ := hh.2 i hi
          obtain ⟨f1, f2⟩ := hwh.2 i hi
          have g := hwh.1
          show q_X10_whoCan_19 _ (mm + 1) (nI a) (nI b) (nI (bN f)) (nI i) S = _
          rw [q_X10_whoCan_19]
          have hbt := bN_lt ((kn c s b).testBit (h.2.1 i))
          simp (disch := omega) only [fa_lit, hh.1, leN, show ¬ h.1 ≤ i from by omega, if_false, nI_bZ, xm_keys hw hws hM hm hb, Option.bind_some, vin_t, if_true, nI_clamp, e1, e2, bitT, eqN, nI_add]
          cases f
          · simp only [if_true, Bool.false_and]
            rfl
          · simp only [Bool.true_eq_false, if_false, Bool.true_and]
            unfold heB
            cases (kn c s b).testBit (h.2.1 i)
            · by_cases h1 : h.2.2 i = 1
              · simp only [h1, bN, Bool.false_eq_true, if_false, if_true, Nat.zero_ne_one, decide_true, Bool.false_beq, Bool.not_true]
              · have h0 : h.2.2 i = 0 := by omega
                simp only [h0, bN, Bool.false_eq_true, if_false, if_true, Nat.zero_ne_one, decide_false, Bool.false_beq, Bool.not_false]
            · by_cases h1 : h.2.2 i = 1
              · simp only [h1, bN, Bool.false_eq_true, if_false, if_true, Nat.zero_ne_one, decide_true, Bool.true_beq]
              · have h0 : h.2.2 i = 0 := by omega
                simp only [h0, bN, Bool.false_eq_true, if_false, if_true, Nat.one_ne_zero, Nat.zero_ne_one, decide_false, Bool.true_beq], trivial⟩)
        (fun mm f _ => by
          show q_X10_whoCan_19 _ (mm + 1) (nI a) (nI b) (nI (bN f)) (nI h.1) S = _
          rw [q_X10_whoCan_19]
          simp only [hh.1, Int32.le_refl, if_true]
          cases f <;> simp (disch := omega) only [bN, fa_lit, eqN, if_true, if_false, shlN, fa_or, nI_add, Nat.or_zero, Bool.false_eq_true, Nat.one_ne_zero]) h.1 FU 0 true (by omega) (FU_gt (by have := hwh.1; omega)) trivial
      have e : ∀ n, lpf (fun i f => f && heB c s h b i) 0 n true = alB n (heB c s h b) := by
        intro n
        induction n with
        | zero => rfl
        | succ n ih => rw [lpf_end, Nat.zero_add, ih, alB]
      have i1 := inner.1
      rw [e h.1] at i1
      exact i1)
    (fun m a => by
      show q_X10_whoCan_4 (m + 1) (nI a) (nI (cnb c)) S = _
      rw [q_X10_whoCan_4]
      simp (disch := omega) only [fa_lit, vin_t, nI_clamp, r3, Int32.le_refl, if_true]) FU (FU_gt (by omega)) 0
  rw [Nat.zero_or] at key
  exact key
end PH
-- at which door to ask
def wsf (p q : Nat) : Nat := if q < p - q then p - q else q
theorem wsf_le {p q : Nat} (h : q ≤ p) : wsf p q ≤ p := by unfold wsf; split <;> omega
theorem wsf_c {p q : Nat} (h : q ≤ p) (hp : p < 100) : (if nI q < nI p - nI q then nI p - nI q else nI q) = nI (wsf p q) := by
  rw [nI_subN h]
  unfold wsf
  by_cases e : q < p - q
  · rw [if_pos e, if_pos (by rw [ltN (by omega) (by omega)]; exact e)]
  · rw [if_neg e, if_neg (by rw [ltN (by omega) (by omega)]; exact e)]
theorem wsf_m {α : Type} (X : Int32 → α) {p q : Nat} (h : q ≤ p) (hp : p < 100) : (if nI q ≤ nI p - nI q then X (nI p - nI q) else X (nI q)) = X (nI (wsf p q)) := by
  rw [nI_subN h]
  unfold wsf
  by_cases e : q < p - q
  · rw [if_pos e, if_pos (by rw [leN (by omega) (by omega)]; omega)]
  · by_cases e2 : q = p - q
    · rw [if_neg e, if_pos (by rw [leN (by omega) (by omega)]; omega), ← e2]
    · rw [if_neg e, if_neg (by rw [leN (by omega) (by omega)]; omega)]
theorem le100 {a b : Nat} (ha : a < 100) (hb : b < 100) : (nI a ≤ nI b) = (a ≤ b) := leN (by omega) (by omega)
def wsN (c : Cty) (s : Sce) (set d : Nat) : Nat := wsf (pc set) (pc (set &&& opN c s d))
theorem pc_and (a b : Nat) : pc (a &&& b) ≤ pc a := cntB_mono 8 (fun j _ h => by rw [Nat.testBit_and, Bool.and_eq_true] at h; exact h.1)
theorem wsN_le (c : Cty) (s : Sce) (set d : Nat) : wsN c s set d ≤ pc set := by
  exact wsf_le (pc_and set (opN c s d))
def bdN (c : Cty) (s : Sce) (set : Nat) : Nat → Nat → Int32 → Nat → Int32
  | 0, _, best, _ => best
  | k + 1, i, best, w => if w ≤ wsN c s set i then bdN c s set k (i + 1) best w else bdN c s set k (i + 1) (nI i) (wsN c s set i)
theorem bdN_start (c : Cty) (s : Sce) (set k i : Nat) (b : Int32) {w w' : Nat} (h1 : pc set < w) (h2 : pc set < w') : bdN c s set k i b w = bdN c s set k i b w' := by
  cases k with
  | zero => rfl
  | succ k =>
    have := wsN_le c s set i
    rw [bdN, bdN, if_neg (by omega), if_neg (by omega)]
section PB
variable {c : Cty} {s : Sce} {S : St}
theorem xc_bestq (hw : WC c) (hws : WS_ c s) (hR : RC c S) (hs : RS c s 21 S) {set : Nat} (hset : set < 32) : ∀ (k i n w : Nat) (b : Int32), i + k = cnd c → k < n → w < 100 → q_X3_bestDoor_24 n (nI set) (nI (pc set)) b (nI w) (nI i) S = some (bdN c s set k i b w, S) := by
  have w3 := hw.2.2.1
  have r2 := hR.2.1
  intro k
  induction k with
  | zero =>
    intro i n w b hi hn hw100
    obtain ⟨m, rfl⟩ : ∃ m, n = m + 1 := ⟨n - 1, by omega⟩
    rw [q_X3_bestDoor_24, show i = cnd c by omega, bdN]
    simp only [r2, Int32.le_refl, if_true]
  | succ k ih =>
    intro i n w b hi hn hw100
    obtain ⟨m, rfl⟩ : ∃ m, n = m + 1 := ⟨n - 1, by omega⟩
    have hd : i < cnd c := by omega
    have h1 := pc_and set (opN c s i)
    have h2 := pc_le set
    have h3 : set &&& opN c s i < 256 := Nat.lt_of_le_of_lt Nat.and_le_left (by omega)
    have h4 := wsN_le c s set i
    have hwst := wsf_c h1 (show pc set < 100 from Nat.lt_of_le_of_lt h2 (by decide))
    rw [q_X3_bestDoor_24, bdN]
    have h5 : wsN c s set i < 100 := Nat.lt_of_le_of_lt (Nat.le_trans h4 h2) (by decide)
    have i1 := ih (i + 1) m w b (by omega) (by omega) hw100
    have i2 := ih (i + 1) m (wsN c s set i) (nI i) (by omega) (by omega) h5
    rw [r2, if_neg (by rw [leN (by omega) (by omega)]; omega), xc_openers hw hws hR hs hd, Option.bind_some]
    show Option.bind (p_J6_bitCount_0f7a4 (nI set &&& nI (opN c s i)) S) _ = _
    rw [fa_and, bitCount h3, Option.bind_some]
    show (if nI w ≤ (if nI (pc (set &&& opN c s i)) < nI (pc set) - nI (pc (set &&& opN c s i)) then nI (pc set) - nI (pc (set &&& opN c s i)) else nI (pc (set &&& opN c s i))) then _ else q_X3_bestDoor_24 m _ _ _ (if nI (pc (set &&& opN c s i)) < nI (pc set) - nI (pc (set &&& opN c s i)) then nI (pc set) - nI (pc (set &&& opN c s i)) else nI (pc (set &&& opN c s i))) _ _) = _
    rw [hwst]
    show (if nI w ≤ nI (wsN c s set i) then _ else q_X3_bestDoor_24 m _ _ _ (nI (wsN c s set i)) _ _) = _
    generalize wsN c s set i = v at h5 i1 i2 ⊢
    rw [show nI i + 1 = nI (i + 1) from nI_add i 1]
    by_cases e : w ≤ v
    · have e' : nI w ≤ nI v := (le100 hw100 h5).mpr e
      rw [if_pos e', if_pos e]
      exact i1
    · have e' : ¬ nI w ≤ nI v := fun q => e ((le100 hw100 h5).mp q)
      rw [if_neg e', if_neg e]
      exact i2
theorem xc_best (hw : WC c) (hws : WS_ c s) (hR : RC c S) (hs : RS c s 21 S) {set : Nat} (hset : set < 32) : p_X3_bestDoor (nI set) S = some ((if 1 < pc set then bdN c s set (cnd c) 0 (-9) 99 else -9), S) := by
  have w3 := hw.2.2.1
  have h2 := pc_le set
  unfold p_X3_bestDoor
  rw [bitCount (by omega)]
  simp (disch := omega) only [Option.bind_some, fa_lit, ltN, nI_add, xc_bestq hw hws hR hs hset (cnd c) 0 FU (pc set + 1) _ (by omega) (FU_gt (by omega)) (by omega)]
  rw [bdN_start c s set (cnd c) 0 _ (show pc set < pc set + 1 by omega) (show pc set < 99 by omega)]
  split <;> rfl
theorem xm_askq (hw : WC c) (hws : WS_ c s) (hM : MC c S) (hm : MS c s (S.1 110)) {set : Nat} (hset : set < 32) (h1 : 1 < pc set) (hset1 : ¬ nI (pc set) ≤ (1 : Int32)) : ∀ (k i n w : Nat) (b : Int32), i + k = cnd c → k < n → w < 100 → q_X10_ask_25 n (nI set) (nI (pc set)) b (nI w) (nI i) S = some (bdN c s set k i b w, S) := by
  have w3 := hw.2.2.1
  have r2 := hM.2.1
  intro k
  induction k with
  | zero =>
    intro i n w b hi hn hw100
    obtain ⟨m, rfl⟩ : ∃ m, n = m + 1 := ⟨n - 1, by omega⟩
    rw [q_X10_ask_25, show i = cnd c by omega, bdN]
    simp (disch := omega) only [fa_lit, vin_t, nI_clamp, r2, Int32.le_refl, if_true]
  | succ k ih =>
    intro i n w b hi hn hw100
    obtain ⟨m, rfl⟩ : ∃ m, n = m + 1 := ⟨n - 1, by omega⟩
    have hd : i < cnd c := by omega
    have h1' := pc_and set (opN c s i)
    have h2 := pc_le set
    have h3 : set &&& opN c s i < 2 ^ 31 := Nat.lt_of_le_of_lt Nat.and_le_left (by omega)
    have h4 := wsN_le c s set i
    have h5 : wsN c s set i < 100 := Nat.lt_of_le_of_lt (Nat.le_trans h4 h2) (by decide)
    rw [q_X10_ask_25, bdN]
    rw [if_pos (show vin (1 : Int32) 8 from (vin_t (i := 1) (by omega)).mpr trivial), show S.1 101 (1 : Int32).toNatClampNeg = nI (cnd c) from r2, if_neg (by rw [leN (by omega) (by omega)]; omega), if_neg hset1, xm_openers hw hws hM hm hd, Option.bind_some]
    show Option.bind (p_X10_ones (nI set &&& nI (opN c s i)) S) _ = _
    rw [fa_and, ones h3, Option.bind_some]
    rw [wsf_m (fun v => q_X10_ask_72 (q_X10_ask_25 m) (nI set) (nI (pc set)) b (nI w) (nI i) v S) h1' (Nat.lt_of_le_of_lt h2 (by decide))]
    show q_X10_ask_72 (q_X10_ask_25 m) (nI set) (nI (pc set)) b (nI w) (nI i) (nI (wsN c s set i)) S = _
    have i1 := ih (i + 1) m w b (by omega) (by omega) hw100
    have i2 := ih (i + 1) m (wsN c s set i) (nI i) (by omega) (by omega) h5
    generalize wsN c s set i = v at h5 i1 i2 ⊢
    unfold q_X10_ask_72 q_X10_ask_87
    rw [show nI i + 1 = nI (i + 1) from nI_add i 1]
    by_cases e : w ≤ v
    · have e' : nI w ≤ nI v := (le100 hw100 h5).mpr e
      rw [if_pos e', if_pos e', if_pos e]
      exact i1
    · have e' : ¬ nI w ≤ nI v := fun q => e ((le100 hw100 h5).mp q)
      rw [if_neg e', if_neg e', if_neg e]
      exact i2
theorem xm_ask (hw : WC c) (hws : WS_ c s) (hM : MC c S) (hm : MS c s (S.1 110)) {set : Nat} (hset : set < 32) : q_X10_ask_25 FU (nI set) (nI (pc set)) (-9) (nI 99) (nI 0) S = some ((if 1 < pc set then bdN c s set (cnd c) 0 (-9) 99 else -9), S) := by
  have w3 := hw.2.2.1
  have r2 := hM.2.1
  have h2 := pc_le set
  by_cases h1 : 1 < pc set
  · rw [if_pos h1]
    exact xm_askq hw hws hM hm hset h1 (by show ¬ nI (pc set) ≤ nI 1; rw [leN (by omega) (by omega)]; omega) (cnd c) 0 FU 99 (-9) (by omega) (FU_gt (by omega)) (by omega)
  · rw [if_neg h1]
    rw [show FU = (FU - 1) + 1 from rfl, q_X10_ask_25]
    simp (disch := omega) only [fa_lit, vin_t, nI_clamp, if_true, r2, leN, show pc set ≤ 1 from by omega, ite_self]
end PB
