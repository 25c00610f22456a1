-- POSTS: THE REFERENCE
theorem divN {a b : Nat} (ha : a < 2 ^ 31) (hb : b < 2 ^ 31) : nI a / nI b = nI (a / b) := (Int32.ofNat_div ha hb).symm
theorem nines {k : Nat} (hk : k < 10) (S : St) : p_X10_nines (nI k) S = some (nI (9 ^ k), S) := by
  have go : ∀ (j i n : Nat), i + j = k → j < n → q_X10_nines_4 n (nI k) (nI (9 ^ i)) (nI i) S = some (nI (9 ^ k), S) := by
    intro j
    induction j with
    | zero =>
      intro i n hi hn
      obtain ⟨m, rfl⟩ : ∃ m, n = m + 1 := ⟨n - 1, by omega⟩
      rw [q_X10_nines_4, show i = k by omega, if_pos (Int32.le_refl _)]
    | succ j ih =>
      intro i n hi hn
      obtain ⟨m, rfl⟩ : ∃ m, n = m + 1 := ⟨n - 1, by omega⟩
      rw [q_X10_nines_4, if_neg (by rw [leN (by omega) (by omega)]; omega), show nI i + 1 = nI (i + 1) from nI_add i 1, show nI (9 ^ i) * (9 : Int32) = nI (9 ^ (i + 1)) from mulN (9 ^ i) 9]
      exact ih (i + 1) m (by omega) (by omega)
  exact go k 0 FU (by omega) (FU_gt (by omega))
def ebv (b : Nat) : Int32 := if b = 0 then -1 else nI (b - 1)
def esv (b : Nat) : Int32 := if b = 0 then -9 else nI (b - 1)
theorem esv_ebv : ∀ a, a < 7 → ∀ b, b < 7 → (esv a ≤ ebv b ↔ a ≤ b) := by decide +kernel
theorem esv_lt : ∀ a, a < 7 → ∀ b, b < 7 → ¬ a ≤ b → esv a = ebv a := by decide +kernel
section PM2
variable {c : Cty} {s : Sce} {S : St}
theorem mm_le (K : Nat → Nat → Bool) : ∀ k b D, mm K k b D ≤ k := by
  intro k
  induction k with
  | zero => intro b D; exact Nat.le_refl 0
  | succ k ih => intro b D; rw [mm]; have := ih (b + 1) D; split <;> omega
theorem xm_postIn (hw : WC c) (hM : MC c S) {x b : Nat} (hx : x < 2 ^ 31) (hb : b < cnb c) : p_X10_postIn (nI x) (nI b) S = some (nI ((x / 9 ^ (cnb c - 1 - b)) % 9), S) := by
  have w4 := hw.2.2.2.1
  have p9 : 9 ^ (cnb c - 1 - b) ≤ 9 ^ 5 := Nat.pow_le_pow_right (by decide) (by omega)
  have p0 : 0 < 9 ^ (cnb c - 1 - b) := Nat.pow_pos (by decide)
  have hq : x / 9 ^ (cnb c - 1 - b) < 2 ^ 31 := Nat.lt_of_le_of_lt (Nat.div_le_self _ _) hx
  unfold p_X10_postIn
  rw [if_pos (show vin (2 : Int32) 8 from (vin_t (i := 2) (by omega)).mpr trivial), show S.1 101 (2 : Int32).toNatClampNeg = nI (cnb c) from hM.2.2.1]
  rw [show nI (cnb c) - (1 : Int32) = nI (cnb c - 1) from nI_subN (b := 1) (by omega), nI_subN (show b ≤ cnb c - 1 by omega), nines (by omega), Option.bind_some]
  have z : ¬ (nI (9 ^ (cnb c - 1 - b)) = (0 : Int32)) := fun q => by
    have := (nI_eq (by omega) (by decide)).mp (show nI (9 ^ (cnb c - 1 - b)) = nI 0 from q)
    omega
  have z9 : ¬ ((9 : Int32) = 0) := by decide
  show (if ¬ nI (9 ^ (cnb c - 1 - b)) = (0 : Int32) then if ¬ (9 : Int32) = 0 then some ((nI x / nI (9 ^ (cnb c - 1 - b))) - (nI x / nI (9 ^ (cnb c - 1 - b))) / nI 9 * nI 9, S) else none else none) = _
  rw [if_pos z, if_pos z9, divN hx (by omega), divN hq (by decide), mulN, nI_subN (Nat.div_mul_le_self _ _)]
  congr 3
  have := Nat.div_add_mod (x / 9 ^ (cnb c - 1 - b)) 9
  omega
def avl (c : Cty) (u : Nat) : Nat → Bool := fun d => decide (d < cnd c) && !u.testBit d
theorem avl_rmv (c : Cty) (u d : Nat) : avl c (u ||| 2 ^ d) = rmv (avl c u) d := by
  funext j
  show (decide (j < cnd c) && !(u ||| 2 ^ d).testBit j) = ((decide (j < cnd c) && !u.testBit j) && decide (j ≠ d))
  rw [Nat.testBit_or, Nat.testBit_two_pow]
  have : decide (d = j) = !decide (j ≠ d) := by by_cases e : d = j <;> simp [e, eq_comm]
  rw [this]
  cases decide (j < cnd c) <;> cases u.testBit j <;> cases decide (j ≠ d) <;> rfl
theorem xm_stand (hw : WC c) (hws : WS_ c s) (hM : MC c S) (hm : MS c s (S.1 110)) {x : Nat} (hx : x < 2 ^ 31) : ∀ (k b n cnt u : Nat), b + k = cnb c → k < n → u < 256 → cnt ≤ b → q_X10_standing_7 n (nI x) (nI cnt) (nI u) (nI b) S = some (if sv (Kn c s) k b (avl c u) (x % 9 ^ k) = 0 then -9 else nI (cnt + sv (Kn c s) k b (avl c u) (x % 9 ^ k) - 1), S) := by
  have w4 := hw.2.2.2.1
  have w3 := hw.2.2.1
  intro k
  induction k with
  | zero =>
    intro b n cnt u hb hn hu hcnt
    obtain ⟨m, rfl⟩ : ∃ m, n = m + 1 := ⟨n - 1, by omega⟩
    rw [q_X10_standing_7, if_pos (show vin (2 : Int32) 8 from (vin_t (i := 2) (by omega)).mpr trivial), show S.1 101 (2 : Int32).toNatClampNeg = nI (cnb c) from hM.2.2.1, show b = cnb c by omega, if_pos (Int32.le_refl _), sv, if_neg (by decide)]
    rfl
  | succ k ih =>
    intro b n cnt u hb hn hu hcnt
    obtain ⟨m, rfl⟩ : ∃ m, n = m + 1 := ⟨n - 1, by omega⟩
    have hbn : b < cnb c := by omega
    have hp := xm_postIn hw hM hx hbn
    rw [show cnb c - 1 - b = k by omega] at hp
    have hk := kn_lt c s b hw
    have e1 : x % 9 ^ (k + 1) / 9 ^ k = x / 9 ^ k % 9 := by rw [Nat.pow_succ, Nat.mod_mul_right_div_self]
    have e2 : x % 9 ^ (k + 1) % 9 ^ k = x % 9 ^ k := by rw [Nat.pow_succ, Nat.mod_mul_right_mod]
    have he9 : x / 9 ^ k % 9 < 9 := Nat.mod_lt _ (by decide)
    rw [q_X10_standing_7, if_pos (show vin (2 : Int32) 8 from (vin_t (i := 2) (by omega)).mpr trivial), show S.1 101 (2 : Int32).toNatClampNeg = nI (cnb c) from hM.2.2.1, if_neg (by rw [leN (by omega) (by omega)]; omega), hp, Option.bind_some, sv, e1, e2]
    generalize x / 9 ^ k % 9 = e at he9 ⊢
    show (if nI 8 ≤ nI e then q_X10_standing_7 m (nI x) (nI cnt) (nI u) (nI b + 1) S else Option.bind (p_X10_keys (nI b) S) (fun q37 => Option.bind (p_X10_has q37.1 (nI e) q37.2) (fun q42 => (if q42.1 = 0 then some ((-9 : Int32), q42.2) else Option.bind (p_X10_has (nI u) (nI e) q42.2) (fun q51 => (if q51.1 = 0 then q_X10_standing_7 m (nI x) (nI cnt + 1) (nI u ||| ((1 : Int32) <<< (nI e &&& 31))) (nI b + 1) q51.2 else some ((-9 : Int32), q51.2))))))) = _
    rw [show nI b + 1 = nI (b + 1) from nI_add b 1]
    by_cases h8 : 8 ≤ e
    · rw [if_pos (by rw [leN (by omega) (by omega)]; exact h8), if_pos h8]
      exact ih (b + 1) m cnt u (by omega) (by omega) hu (by omega)
    · rw [if_neg (by rw [leN (by omega) (by omega)]; exact h8), if_neg h8, xm_keys hw hws hM hm hbn, Option.bind_some]
      show Option.bind (p_X10_has (nI (kn c s b)) (nI e) S) _ = _
      rw [has_m (by omega) (by omega), Option.bind_some]
      cases eK : (kn c s b).testBit e with
      | false =>
        show (if nI (bN false) = (0 : Int32) then some ((-9 : Int32), S) else _) = _
        rw [if_pos (show nI (bN false) = (0 : Int32) from rfl), show Kn c s b e = false from eK, Bool.false_and, if_neg Bool.false_ne_true, if_pos rfl]
      | true =>
        show (if nI (bN true) = (0 : Int32) then some ((-9 : Int32), S) else Option.bind (p_X10_has (nI u) (nI e) S) _) = _
        rw [if_neg (show ¬ nI (bN true) = (0 : Int32) by decide), has_m (by omega) (by omega), Option.bind_some, show Kn c s b e = true from eK, Bool.true_and]
        have he : e < cnd c := Kn_lt (b := b) (s := s) eK
        have ha : avl c u e = !u.testBit e := by unfold avl; rw [decide_eq_true he, Bool.true_and]
        rw [ha]
        cases eU : u.testBit e with
        | true =>
          show (if nI (bN true) = (0 : Int32) then _ else some ((-9 : Int32), S)) = _
          rw [if_neg (show ¬ nI (bN true) = (0 : Int32) by decide), if_neg (show ¬ (!true) = true by decide), if_pos rfl]
        | false =>
          show (if nI (bN false) = (0 : Int32) then q_X10_standing_7 m (nI x) (nI cnt + nI 1) (nI u ||| ((1 : Int32) <<< (nI e &&& 31))) (nI (b + 1)) S else _) = _
          rw [if_pos (show nI (bN false) = (0 : Int32) from rfl), show ((1 : Int32) <<< (nI e &&& 31)) = nI (2 ^ e) from shlN (by omega), fa_or, nI_add]
          rw [ih (b + 1) m (cnt + 1) (u ||| 2 ^ e) (by omega) (by omega) (or_lt hu (two_lt (show e < 8 by omega) : 2 ^ e < 2 ^ 8)) (by omega), avl_rmv]
          rw [if_pos (show (!false) = true from rfl)]
          generalize sv (Kn c s) k (b + 1) (rmv (avl c u) e) (x % 9 ^ k) = v
          by_cases hv : v = 0
          · rw [if_pos hv, if_pos hv, if_pos rfl]
          · rw [if_neg hv, if_neg hv, if_neg (by omega), show cnt + 1 + v - 1 = cnt + (v + 1) - 1 by omega]
def pfin (c : Cty) (x1 : Int32) (row : Nat) (bv : Nat) (S : St) : Option (Int32 × St) := if x1 = (-1 : Int32) then some (ebv bv, S) else (p_X10_postIn (nI row) x1 S).bind (fun (q91 : Int32 × St) => (if q91.1 = (8 : Int32) then some ((-9 : Int32), q91.2) else some (q91.1, q91.2)))
theorem xm_postsq (hw : WC c) (hws : WS_ c s) (hM : MC c S) (hm : MS c s (S.1 110)) (x1 : Int32) : ∀ (k i n row bv : Nat), i + k = 9 ^ cnb c → k < n → (∀ y, y < i → sv (Kn c s) (cnb c) 0 (avl c 0) y ≤ bv) → ((i = 0 ∧ bv = 0 ∧ row = 0) ∨ (row < i ∧ sv (Kn c s) (cnb c) 0 (avl c 0) row = bv ∧ ∀ y, y < row → sv (Kn c s) (cnb c) 0 (avl c 0) y < bv)) → bv < 7 → q_X10_posts_27 n x1 (nI row) (ebv bv) (nI i) S = pfin c x1 (gr (Kn c s) (cnb c) 0 (avl c 0)) (mm (Kn c s) (cnb c) 0 (avl c 0) + 1) S := by
  have w4 := hw.2.2.2.1
  have p9 : 9 ^ cnb c ≤ 9 ^ 5 := Nat.pow_le_pow_right (by decide) w4
  have p0 : 0 < 9 ^ cnb c := Nat.pow_pos (by decide)
  obtain ⟨g1, g2, g3, g4⟩ := gr_all (K := Kn c s) (cnb c) 0 (avl c 0)
  have hmm := mm_le (Kn c s) (cnb c) 0 (avl c 0)
  intro k
  induction k with
  | zero =>
    intro i n row bv hi hn h1 h2 h7
    obtain ⟨m, rfl⟩ : ∃ m, n = m + 1 := ⟨n - 1, by omega⟩
    have hh : row < i ∧ sv (Kn c s) (cnb c) 0 (avl c 0) row = bv ∧ ∀ y, y < row → sv (Kn c s) (cnb c) 0 (avl c 0) y < bv := h2.resolve_left (fun q => by omega)
    have q1 := h1 _ (show gr (Kn c s) (cnb c) 0 (avl c 0) < i by omega)
    have q2 := g2 row (by omega)
    have ebv_ : bv = mm (Kn c s) (cnb c) 0 (avl c 0) + 1 := by omega
    have erow : row = gr (Kn c s) (cnb c) 0 (avl c 0) := by
      apply Nat.le_antisymm
      · apply Nat.le_of_not_lt
        intro q
        have := hh.2.2 _ q
        omega
      · apply Nat.le_of_not_lt
        intro q
        have := g4 row q
        omega
    rw [q_X10_posts_27, if_pos (show vin (2 : Int32) 8 from (vin_t (i := 2) (by omega)).mpr trivial), show S.1 101 (2 : Int32).toNatClampNeg = nI (cnb c) from hM.2.2.1, nines (by omega), Option.bind_some, show i = 9 ^ cnb c by omega]
    show (if nI (9 ^ cnb c) ≤ nI (9 ^ cnb c) then _ else _) = _
    rw [if_pos (Int32.le_refl _), ← erow, ← ebv_]
    rfl
  | succ k ih =>
    intro i n row bv hi hn h1 h2 h7
    obtain ⟨m, rfl⟩ : ∃ m, n = m + 1 := ⟨n - 1, by omega⟩
    have hst : p_X10_standing (nI i) S = some (esv (sv (Kn c s) (cnb c) 0 (avl c 0) i), S) := by
      have := xm_stand hw hws hM hm (x := i) (by omega) (cnb c) 0 FU 0 0 (by omega) (FU_gt (by omega)) (by decide) (Nat.le_refl 0)
      rw [Nat.mod_eq_of_lt (show i < 9 ^ cnb c by omega), Nat.zero_add] at this
      exact this
    have hs6 := g2 i (by omega)
    rw [q_X10_posts_27, if_pos (show vin (2 : Int32) 8 from (vin_t (i := 2) (by omega)).mpr trivial), show S.1 101 (2 : Int32).toNatClampNeg = nI (cnb c) from hM.2.2.1, nines (by omega), Option.bind_some]
    show (if nI (9 ^ cnb c) ≤ nI i then _ else Option.bind (p_X10_standing (nI i) S) _) = _
    rw [if_neg (by rw [leN (by omega) (by omega)]; omega), hst, Option.bind_some]
    show (if esv (sv (Kn c s) (cnb c) 0 (avl c 0) i) ≤ ebv bv then q_X10_posts_61 (q_X10_posts_27 m) x1 (ebv bv) (nI i) (esv (sv (Kn c s) (cnb c) 0 (avl c 0) i)) (nI row) S else q_X10_posts_61 (q_X10_posts_27 m) x1 (ebv bv) (nI i) (esv (sv (Kn c s) (cnb c) 0 (avl c 0) i)) (nI i) S) = _
    unfold q_X10_posts_61
    have hc := esv_ebv (sv (Kn c s) (cnb c) 0 (avl c 0) i) (by omega) bv h7
    have hl := esv_lt (sv (Kn c s) (cnb c) 0 (avl c 0) i) (by omega) bv h7
    rw [show nI i + 1 = nI (i + 1) from nI_add i 1]
    by_cases e : sv (Kn c s) (cnb c) 0 (avl c 0) i ≤ bv
    · rw [if_pos (hc.mpr e), if_pos (hc.mpr e)]
      refine ih (i + 1) m row bv (by omega) (by omega) (fun y hy => ?_) (Or.inr ?_) h7
      · by_cases ey : y = i
        · subst ey; exact e
        · exact h1 y (by omega)
      · rcases h2 with ⟨q1, q2, q3⟩ | ⟨q1, q2, q3⟩
        · subst q1; subst q2; subst q3
          exact ⟨by omega, by omega, fun y hy => absurd hy (Nat.not_lt_zero y)⟩
        · exact ⟨by omega, q2, q3⟩
    · rw [if_neg (fun q => e (hc.mp q)), if_neg (fun q => e (hc.mp q)), hl e]
      refine ih (i + 1) m i _ (by omega) (by omega) (fun y hy => ?_) (Or.inr ⟨by omega, rfl, fun y hy => ?_⟩) (by omega)
      · by_cases ey : y = i
        · subst ey; exact Nat.le_refl _
        · have := h1 y (by omega); omega
      · have := h1 y hy; omega
end PM2
theorem avl_0 (c : Cty) : (2 ^ cnd c - 1).testBit = avl c 0 := by
  funext j
  show _ = (decide (j < cnd c) && !(0 : Nat).testBit j)
  rw [Nat.testBit_two_pow_sub_one, Nat.zero_testBit, Bool.not_false, Bool.and_true]
theorem sfm_0 (nb : Nat) : sfm nb 0 = 2 ^ nb - 1 := by
  apply Nat.eq_of_testBit_eq
  intro j
  rw [sfm_bit, Nat.testBit_two_pow_sub_one, decide_eq_true (Nat.zero_le j), Bool.and_true]
theorem po_8 (K : Nat → Nat → Bool) : ∀ k b D j d, po K k b D j = some d → d < 8
  | 0, _, _, _, _, h => by cases h
  | k + 1, b, D, 0, d, h => (gp_some h).1
  | k + 1, b, D, j + 1, d, h => po_8 K k (b + 1) _ j d h
section PPO
variable {c : Cty} {s : Sce} {p : Pst} {im : Img} {h : Hea} {t : Txt} {tr : Int64} {S : St}
theorem xm_postsr (hw : WC c) (hws : WS_ c s) (hM : MC c S) (hm : MS c s (S.1 110)) (x1 : Int32) : q_X10_posts_27 FU x1 (0 : Int32) (-1 : Int32) (0 : Int32) S = pfin c x1 (gr (Kn c s) (cnb c) 0 (avl c 0)) (mm (Kn c s) (cnb c) 0 (avl c 0) + 1) S := by
  have p9 : 9 ^ cnb c ≤ 9 ^ 5 := Nat.pow_le_pow_right (by decide) hw.2.2.2.1
  exact xm_postsq hw hws hM hm x1 (9 ^ cnb c) 0 FU 0 0 (by omega) (FU_gt (by omega)) (fun y hy => absurd hy (Nat.not_lt_zero y)) (Or.inl ⟨rfl, rfl, rfl⟩) (by decide)
theorem pr_posts (hW : IW c s p im h t) (hC : IC c s p im h t tr S) (hM : IM c s p im h t tr S) (x : Int32) : PRR (p_X9_posts x) (p_X10_posts x) S := by
  have hR := hC.1
  have hs := hC.2.1
  have hw := hW.1
  have hws := hW.2.1
  have w3 := hw.2.2.1
  have w4 := hw.2.2.2.1
  have h256 : 2 ^ cnd c ≤ 256 := (two_le w3 : 2 ^ cnd c ≤ 2 ^ 8)
  have hd0 : 2 ^ cnd c - 1 < 256 := by have := Nat.two_pow_pos (cnd c); omega
  obtain ⟨W, e, f1, f2, f3⟩ := takeKeys hw hws hR hs hC.2.2.2.2.2.2.2
  have a1 : W.1 3 1 = nI (cnd c) := (f2 3 1 (by omega)).trans hR.2.1
  have a2 : W.1 3 2 = nI (cnb c) := (f2 3 2 (by omega)).trans hR.2.2.1
  have b1 : p_X4_allBoys W = some (nI (sfm (cnb c) 0), W) := by
    unfold p_X4_allBoys
    rw [a2, sfm_0, show ((1 : Int32) <<< (nI (cnb c) &&& 31)) = nI (2 ^ cnb c) from shlN (by omega), show nI (2 ^ cnb c) - (1 : Int32) = nI (2 ^ cnb c - 1) from nI_subN (b := 1) (Nat.two_pow_pos _)]
  have b2 : p_X4_allDoors W = some (nI (2 ^ cnd c - 1), W) := by
    unfold p_X4_allDoors
    rw [a1, show ((1 : Int32) <<< (nI (cnd c) &&& 31)) = nI (2 ^ cnd c) from shlN (by omega), show nI (2 ^ cnd c) - (1 : Int32) = nI (2 ^ cnd c - 1) from nI_subN (b := 1) (Nat.two_pow_pos _)]
  have iW : IC c s p im h t tr W := hC.cg (fun a j q => f2 a j (by have := q.2.2.2.1; omega)) (by rw [f3])
  have kW : kC S W := ⟨fun a j q => f2 a j (by omega), by rw [f3]⟩
  by_cases e1 : x = -1
  · subst e1
    refine prr hM hW (v := nI (mm (Kn c s) (cnb c) 0 (avl c 0))) ⟨W, ?_, iW, kW⟩ ?_
    · unfold p_X9_posts
      rw [if_pos rfl]
      unfold p_X4_mostPosts
      rw [e, Option.bind_some, b1, Option.bind_some]
      show Option.bind (Option.bind (p_X4_allDoors W) (fun q10 => Option.bind (p_X4_mostOf (nI (sfm (cnb c) 0)) q10.1 q10.2) (fun q13 => some (q13.1, q13.2)))) (fun q9 => some (q9.1, q9.2)) = _
      rw [b2, Option.bind_some]
      show Option.bind (Option.bind (p_X4_mostOf (nI (sfm (cnb c) 0)) (nI (2 ^ cnd c - 1)) W) (fun q13 => some (q13.1, q13.2))) (fun q9 => some (q9.1, q9.2)) = _
      rw [xc_most hw f1 (k := cnb c) (b := 0) (by omega) hd0, avl_0]
      rfl
    · (intro S1 hM1; have hT := hM1.th 0; refine ⟨_, ?_, hT, kM.sI (by decide)⟩; unfold p_X10_posts; generalize sI S1 99 0 (0 : Int32) = T at hT ⊢; obtain ⟨m1, m2, m3, m4, m5, m6, m7⟩ := hT)
      rw [if_pos rfl, xm_postsr hw hws m1 m2, pfin, if_pos rfl]
      rfl
  · rcases inb_n (n := cnb c) (by omega) x with ⟨b, hb, rfl, hx⟩ | hx
    · obtain ⟨kk, hkk⟩ : ∃ kk, cnb c = kk + 1 := ⟨cnb c - 1, by omega⟩
      refine prr hM hW (v := enp (po (Kn c s) (cnb c) 0 (avl c 0) b)) ⟨W, ?_, iW, kW⟩ ?_
      · unfold p_X9_posts
        rw [if_neg e1, xc_isBoy hR, hx, Option.bind_some]
        show (if nI (bN true) = (0 : Int32) then _ else Option.bind (p_X4_postOf (nI b) S) (fun q26 => some (q26.1, q26.2))) = _
        rw [if_neg (show ¬ nI (bN true) = (0 : Int32) by decide)]
        unfold p_X4_postOf
        rw [e, Option.bind_some, b1, Option.bind_some]
        show Option.bind (Option.bind (p_X4_allDoors W) (fun q10 => q_X4_postOf_21 FU (nI b) (nI (sfm (cnb c) 0)) q10.1 (-9 : Int32) (0 : Int32) q10.2)) (fun q26 => some (q26.1, q26.2)) = _
        rw [b2, Option.bind_some]
        show Option.bind (q_X4_postOf_21 FU (nI b) (nI (sfm (cnb c) 0)) (nI (2 ^ cnd c - 1)) (-9 : Int32) (nI 0) W) (fun q26 => some (q26.1, q26.2)) = _
        rw [po_21 hw f1 a1 hb b 0 kk FU (2 ^ cnd c - 1) (-9) (by omega) (by omega) (FU_gt (by omega)) hd0, avl_0, ← hkk]
        rfl
      · (intro S1 hM1; have hT := hM1.th 0; refine ⟨_, ?_, hT, kM.sI (by decide)⟩; unfold p_X10_posts; generalize sI S1 99 0 (0 : Int32) = T at hT ⊢; obtain ⟨m1, m2, m3, m4, m5, m6, m7⟩ := hT)
        have pl := po_8 (Kn c s) (cnb c) 0 (avl c 0) b
        have g1 := (gr_all (K := Kn c s) (cnb c) 0 (avl c 0)).1
        have p9 : 9 ^ cnb c ≤ 9 ^ 5 := Nat.pow_le_pow_right (by decide) w4
        rw [if_neg e1, xm_isBoy m1, hx, Option.bind_some]
        show (if nI (bN true) = (0 : Int32) then _ else q_X10_posts_27 FU (nI b) (0 : Int32) (-1 : Int32) (0 : Int32) T) = _
        rw [if_neg (show ¬ nI (bN true) = (0 : Int32) by decide), xm_postsr hw hws m1 m2, pfin, if_neg e1, xm_postIn hw m1 (by omega) hb, Option.bind_some, po_dig (cnb c) 0 (avl c 0) b hb]
        cases hpo : po (Kn c s) (cnb c) 0 (avl c 0) b with
        | none => rfl
        | some d =>
          have hd := pl d hpo
          show (if nI d = nI 8 then some ((-9 : Int32), T) else some (nI d, T)) = some (nI d, T)
          rw [if_neg (by rw [eqN (by omega) (by omega)]; omega)]
    · have e1' : (x = -nI 1) = False := eq_false (fun q => e1 q)
      refine prr hM hW ⟨S, by unfold p_X9_posts; simp (disch := omega) only [e1', fa_lit, nI_add, nI_clamp, vin_t, if_true, if_false, Option.bind_some, nI_bZ, Nat.zero_add, Bool.true_eq_false, Bool.false_eq_true, inb_if, inb_m, lne, lle, lnle, eq_self, xc_isBoy hR, xc_isDoor hR, hx]; rfl, hC, kC.rf S⟩ ?_
      (intro S1 hM1; have hT := hM1.th 0; refine ⟨_, ?_, hT, kM.sI (by decide)⟩; unfold p_X10_posts; generalize sI S1 99 0 (0 : Int32) = T at hT ⊢; obtain ⟨m1, m2, m3, m4, m5, m6, m7⟩ := hT)
      simp (disch := omega) only [e1', fa_lit, nI_add, nI_clamp, vin_t, if_true, if_false, Option.bind_some, nI_bZ, Nat.zero_add, Bool.true_eq_false, Bool.false_eq_true, inb_if, inb_m, lne, lle, lnle, eq_self, xm_isBoy m1, xm_isDoor m1, xm_isPlace m1, hx]
end PPO
