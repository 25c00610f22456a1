-- POSTS: THE CLASS, ON
def enp : Option Nat → Int32
  | none => -9
  | some d => nI d
theorem enp_9 {o : Option Nat} (h : ∀ d, o = some d → d < 8) : (enp o = (-9 : Int32)) ↔ o = none := by
  cases o with
  | none => exact ⟨fun _ => rfl, fun _ => rfl⟩
  | some d =>
    have hd := h d rfl
    have : ∀ d, d < 8 → nI d ≠ -9 := by decide +kernel
    exact ⟨fun q => absurd q (this d hd), fun q => by cases q⟩
theorem fnd_no {p : Nat → Bool} {n : Nat} (h : ∀ j, n ≤ j → p j = false) : ∀ m i, n ≤ i → fnd p m i = none
  | 0, _, _ => rfl
  | m + 1, i, hi => by
    rw [fnd, h i hi, if_neg (by decide)]
    exact fnd_no h m (i + 1) (by omega)
theorem fnd_ext {p : Nat → Bool} {n : Nat} (h : ∀ j, n ≤ j → p j = false) : ∀ k i m, i + k = n → k ≤ m → fnd p m i = fnd p k i
  | 0, i, m, h1, _ => (fnd_no h m i (by omega)).trans rfl
  | k + 1, i, 0, _, h2 => absurd h2 (by omega)
  | k + 1, i, m + 1, h1, h2 => by
    rw [fnd, fnd, fnd_ext h k (i + 1) m (by omega) (by omega)]
theorem sfm_s {nb b : Nat} (hn : nb ≤ 5) (hb : b < nb) : nI (sfm nb b) &&& (((1 : Int32) <<< (nI b &&& 31)) ^^^ (-1 : Int32)) = nI (sfm nb (b + 1)) := by
  have h32 : sfm nb b < 32 := bs_lt' (k := 5) _ hn
  have h2 : 2 ^ b < 32 := (two_lt (show b < 5 by omega) : 2 ^ b < 2 ^ 5)
  rw [show ((1 : Int32) <<< (nI b &&& 31)) = nI (2 ^ b) from shlN (by omega), not_and _ h32 _ h2]
  congr 1
  apply Nat.eq_of_testBit_eq
  intro j
  rw [Nat.testBit_and, sfm_bit, sfm_bit]
  by_cases hj : j < nb
  · rw [b31 _ h2 j (by omega), Nat.testBit_two_pow, decide_eq_true hj, Bool.true_and, Bool.true_and]
    by_cases e : b = j
    · subst e; simp
    · have : decide (b ≤ j) = decide (b + 1 ≤ j) := decide_eq_decide.mpr (by omega)
      simp [e, this]
  · rw [decide_eq_false hj, Bool.false_and, Bool.false_and, Bool.false_and]
section PC3
variable {c : Cty} {s : Sce} {W : St}
theorem lo_3 (hw : WC c) (hU : ∀ x, x < 2 ^ cnb c → W.1 92 x = nI (ukr c s (cnb c) x)) (h31 : W.1 3 1 = nI (cnd c)) {kk b D : Nat} (hk : b + (kk + 1) = cnb c) (hD : D < 256) {P : Nat} (hP : P < 256) (hPb : ∀ d, d < 8 → P.testBit d = (Kn c s b d && D.testBit d)) : ∀ (k i n : Nat), i + k = cnd c → k < n → q_X4_lowestPost_3 n (nI P) (nI (sfm (cnb c) (b + 1))) (nI D) (nI (mm (Kn c s) (kk + 1) b D.testBit)) (nI i) W = some (enp (fnd (fun d => (Kn c s b d && D.testBit d) && decide (1 + mm (Kn c s) kk (b + 1) (rmv D.testBit d) = mm (Kn c s) (kk + 1) b D.testBit)) k i), W) := by
  have w3 := hw.2.2.1
  have w4 := hw.2.2.2.1
  have mb : ∀ k b D, mm (Kn c s) k b D ≤ k := by
    intro k
    induction k with
    | zero => intro b D; exact Nat.le_refl 0
    | succ k ih => intro b D; rw [mm]; have := ih (b + 1) D; split <;> omega
  intro k
  induction k with
  | zero =>
    intro i n hi hn
    obtain ⟨m, rfl⟩ : ∃ m, n = m + 1 := ⟨n - 1, by omega⟩
    rw [q_X4_lowestPost_3, h31, show i = cnd c by omega, if_pos (Int32.le_refl _)]
    rfl
  | succ k ih =>
    intro i n hi hn
    obtain ⟨m, rfl⟩ : ∃ m, n = m + 1 := ⟨n - 1, by omega⟩
    have i8 : i < 8 := by omega
    have h2 : 2 ^ i < 256 := (two_lt i8 : 2 ^ i < 2 ^ 8)
    have hle : P &&& 2 ^ i < 256 := Nat.lt_of_le_of_lt Nat.and_le_left hP
    rw [q_X4_lowestPost_3, h31, if_neg (by rw [leN (by omega) (by omega)]; omega), show ((1 : Int32) <<< (nI i &&& 31)) = nI (2 ^ i) from shlN (by omega), fa_and, not_and8 i i8 D hD, fnd]
    have z : (nI (P &&& 2 ^ i) = (0 : Int32)) ↔ P.testBit i = false := (show (nI _ = nI 0) ↔ _ from nI_eq (by omega) (by decide)).trans and_bit
    rw [show nI i + 1 = nI (i + 1) from nI_add i 1, ih (i + 1) m (by omega) (by omega)]
    cases e : P.testBit i with
    | false =>
      rw [if_pos (z.mpr e)]
      rw [← hPb i i8, e, Bool.false_and, if_neg (by decide)]
    | true =>
      rw [if_neg (fun q => by rw [z.mp q] at e; cases e)]
      rw [xc_most hw hU (k := kk) (b := b + 1) (by omega) (Nat.lt_of_le_of_lt Nat.and_le_left hD : D &&& (255 ^^^ 2 ^ i) < 256), Option.bind_some, rmv_m hD i8]
      show (if nI 1 + nI (mm (Kn c s) kk (b + 1) (rmv D.testBit i)) = nI (mm (Kn c s) (kk + 1) b D.testBit) then _ else _) = _
      have b1 := mb kk (b + 1) (rmv D.testBit i)
      have b2 := mb (kk + 1) b D.testBit
      rw [nI_add, ← hPb i i8, e, Bool.true_and]
      by_cases q : 1 + mm (Kn c s) kk (b + 1) (rmv D.testBit i) = mm (Kn c s) (kk + 1) b D.testBit
      · rw [if_pos (by rw [q]), if_pos (decide_eq_true q)]
        rfl
      · rw [if_neg (by rw [eqN (by omega) (by omega)]; exact q), if_neg (by simpa using q)]
        exact ih (i + 1) m (by omega) (by omega)
theorem xc_low (hw : WC c) (hU : ∀ x, x < 2 ^ cnb c → W.1 92 x = nI (ukr c s (cnb c) x)) (h31 : W.1 3 1 = nI (cnd c)) {kk b D : Nat} (hk : b + (kk + 1) = cnb c) (hD : D < 256) {P : Nat} (hP : P < 256) (hPb : ∀ d, d < 8 → P.testBit d = (Kn c s b d && D.testBit d)) : p_X4_lowestPost (nI P) (nI (sfm (cnb c) (b + 1))) (nI D) (nI (mm (Kn c s) (kk + 1) b D.testBit)) W = some (enp (gp (Kn c s) kk b D.testBit), W) := by
  have e := lo_3 hw hU h31 hk hD hP hPb (cnd c) 0 FU (by omega) (FU_gt (by have := hw.2.2.1; omega))
  unfold gp
  rw [fnd_ext (n := cnd c) (fun j hj => by
    cases q : Kn c s b j with
    | false => rfl
    | true => have := Kn_lt q; omega) (cnd c) 0 8 (by omega) hw.2.2.1]
  exact e
theorem po_21 (hw : WC c) (hU : ∀ x, x < 2 ^ cnb c → W.1 92 x = nI (ukr c s (cnb c) x)) (h31 : W.1 3 1 = nI (cnd c)) {x : Nat} (hx : x < cnb c) : ∀ (j b kk n D : Nat) (last : Int32), b + j = x → b + (kk + 1) = cnb c → j + 1 < n → D < 256 → q_X4_postOf_21 n (nI x) (nI (sfm (cnb c) b)) (nI D) last (nI b) W = some (enp (po (Kn c s) (kk + 1) b D.testBit j), W) := by
  have w3 := hw.2.2.1
  have w4 := hw.2.2.2.1
  intro j
  induction j with
  | zero =>
    intro b kk n D last hb hk hn hD
    obtain ⟨m, rfl⟩ : ∃ m, n = m + 2 := ⟨n - 2, by omega⟩
    obtain rfl : b = x := by omega
    have h2 : 2 ^ b < 32 := (two_lt (show b < 5 by omega) : 2 ^ b < 2 ^ 5)
    have hks : W.1 92 (2 ^ b) = nI (kn c s b) := by
      rw [hU (2 ^ b) (two_lt hx)]
      congr 1
      apply Nat.eq_of_testBit_eq
      intro d
      rw [ukr_bit, Bool.eq_iff_iff, exB_iff]
      simp only [Nat.testBit_two_pow, Bool.and_eq_true, decide_eq_true_eq]
      exact ⟨fun ⟨y, _, h3, h4⟩ => by subst h3; exact h4, fun h => ⟨b, hx, rfl, h⟩⟩
    have hkl := kn_lt c s b hw
    rw [show q_X4_postOf_21 (m + 2) = q_X4_postOf_21 ((m + 1) + 1) from rfl, q_X4_postOf_21, if_neg (by rw [ltN (by omega) (by omega)]; omega), xc_most hw hU (k := kk + 1) hk hD, Option.bind_some]
    rw [sfm_s w4 hx, show ((1 : Int32) <<< (nI b &&& 31)) = nI (2 ^ b) from shlN (by omega)]
    rw [if_pos (show vin (nI (2 ^ b)) 32 from (vin_t (by omega)).mpr trivial)]
    show Option.bind (p_X4_lowestPost ((W.1 92 (nI (2 ^ b)).toNatClampNeg) &&& nI D) (nI (sfm (cnb c) (b + 1))) (nI D) (nI (mm (Kn c s) (kk + 1) b D.testBit)) W) _ = _
    rw [nI_clamp (by omega), hks, fa_and, xc_low hw hU h31 hk hD (Nat.lt_of_le_of_lt Nat.and_le_right hD) (fun d _ => by rw [Nat.testBit_and]; rfl), Option.bind_some]
    have fin : ∀ (a : Int32) (D' l : Int32), q_X4_postOf_21 (m + 1) (nI b) a D' l (nI (b + 1)) W = some (l, W) := fun a D' l => by
      rw [q_X4_postOf_21, if_pos (by rw [ltN (by omega) (by omega)]; omega)]
    rw [show nI b + 1 = nI (b + 1) from nI_add b 1, po]
    show (if enp (gp (Kn c s) kk b D.testBit) = (-9 : Int32) then _ else _) = _
    split
    · exact fin _ _ _
    · exact fin _ _ _
  | succ j ih =>
    intro b kk n D last hb hk hn hD
    obtain ⟨m, rfl⟩ : ∃ m, n = m + 1 := ⟨n - 1, by omega⟩
    have hbn : b < cnb c := by omega
    have h2 : 2 ^ b < 32 := (two_lt (show b < 5 by omega) : 2 ^ b < 2 ^ 5)
    have hks : W.1 92 (2 ^ b) = nI (kn c s b) := by
      rw [hU (2 ^ b) (two_lt hbn)]
      congr 1
      apply Nat.eq_of_testBit_eq
      intro d
      rw [ukr_bit, Bool.eq_iff_iff, exB_iff]
      simp only [Nat.testBit_two_pow, Bool.and_eq_true, decide_eq_true_eq]
      exact ⟨fun ⟨y, _, h3, h4⟩ => by subst h3; exact h4, fun h => ⟨b, hbn, rfl, h⟩⟩
    have hkl := kn_lt c s b hw
    obtain ⟨k2, rfl⟩ : ∃ k2, kk = k2 + 1 := ⟨kk - 1, by omega⟩
    rw [q_X4_postOf_21, if_neg (by rw [ltN (by omega) (by omega)]; omega), xc_most hw hU (k := k2 + 1 + 1) hk hD, Option.bind_some]
    rw [sfm_s w4 hbn, show ((1 : Int32) <<< (nI b &&& 31)) = nI (2 ^ b) from shlN (by omega)]
    rw [if_pos (show vin (nI (2 ^ b)) 32 from (vin_t (by omega)).mpr trivial)]
    show Option.bind (p_X4_lowestPost ((W.1 92 (nI (2 ^ b)).toNatClampNeg) &&& nI D) (nI (sfm (cnb c) (b + 1))) (nI D) (nI (mm (Kn c s) (k2 + 1 + 1) b D.testBit)) W) _ = _
    rw [nI_clamp (by omega), hks, fa_and, xc_low hw hU h31 hk hD (Nat.lt_of_le_of_lt Nat.and_le_right hD) (fun d _ => by rw [Nat.testBit_and]; rfl), Option.bind_some]
    rw [show nI b + 1 = nI (b + 1) from nI_add b 1, po]
    have h8 : ∀ d, gp (Kn c s) (k2 + 1) b D.testBit = some d → d < 8 := fun d h => (gp_some h).1
    show (if enp (gp (Kn c s) (k2 + 1) b D.testBit) = (-9 : Int32) then q_X4_postOf_21 m (nI x) (nI (sfm (cnb c) (b + 1))) (nI D) (enp (gp (Kn c s) (k2 + 1) b D.testBit)) (nI (b + 1)) W else q_X4_postOf_21 m (nI x) (nI (sfm (cnb c) (b + 1))) (nI D &&& (((1 : Int32) <<< (enp (gp (Kn c s) (k2 + 1) b D.testBit) &&& 31)) ^^^ (-1 : Int32))) (enp (gp (Kn c s) (k2 + 1) b D.testBit)) (nI (b + 1)) W) = _
    cases hg : gp (Kn c s) (k2 + 1) b D.testBit with
    | none =>
      rw [if_pos (show enp none = (-9 : Int32) from rfl)]
      exact ih (b + 1) k2 m D _ (by omega) (by omega) (by omega) hD
    | some d =>
      have hd := h8 d hg
      rw [if_neg (fun q => by have := (enp_9 (o := some d) (fun e h => by cases h; exact hd)).mp q; cases this)]
      rw [show ((1 : Int32) <<< (enp (some d) &&& 31)) = nI (2 ^ d) from shlN (by omega), not_and8 d hd D hD]
      have := ih (b + 1) k2 m (D &&& (255 ^^^ 2 ^ d)) (enp (some d)) (by omega) (by omega) (by omega) (Nat.lt_of_le_of_lt Nat.and_le_left hD)
      rw [rmv_m hD hd] at this
      exact this
end PC3
