-- ODDS: both sides
/-- S, but the weights and (w) the two chances from T -/
def mx (w : Bool) (S T : St) : St := (fun a j => if (a = 94 ∧ j < 6) ∨ (w = true ∧ a = 93 ∧ (j = 1 ∨ j = 2)) then T.1 a j else S.1 a j, S.2)
theorem mx_94 (w : Bool) (S T : St) {j : Nat} (h : j < 6) : (mx w S T).1 94 j = T.1 94 j := if_pos (Or.inl ⟨rfl, h⟩)
theorem mx_931 (S T : St) : (mx true S T).1 93 1 = T.1 93 1 := by unfold mx; simp
theorem mx_932 (S T : St) : (mx true S T).1 93 2 = T.1 93 2 := by unfold mx; simp
theorem mx_else (w : Bool) (S T : St) {a j : Nat} (h : a ≠ 93 ∧ a ≠ 94) : (mx w S T).1 a j = S.1 a j := if_neg (by omega)
theorem mx_2 (w : Bool) (S T : St) : (mx w S T).2 = S.2 := rfl
theorem mx_w (w : Bool) (S T : St) (k j : Nat) (v : Int32) (h : (k = 94 ∧ j < 6) ∨ (w = true ∧ k = 93 ∧ (j = 1 ∨ j = 2))) : sI (mx w S T) k j v = mx w S (sI T k j v) := by
  refine Prod.ext ?_ rfl
  funext a i
  rw [sI_1]
  show _ = if _ then (sI T k j v).1 a i else S.1 a i
  rw [sI_1]
  by_cases e : a = k ∧ i = j
  · obtain ⟨rfl, rfl⟩ := e
    rw [if_pos ⟨rfl, rfl⟩, if_pos h, if_pos ⟨rfl, rfl⟩]
  · rw [if_neg e, if_neg e]
    rfl
theorem mx_in (S T : St) : sI (sI (mx false S T) 93 1 0) 93 2 1 = mx true S (sI (sI T 93 1 0) 93 2 1) := by
  refine Prod.ext ?_ rfl
  funext a i
  show (if a = 93 ∧ i = 2 then (1 : Int32) else if a = 93 ∧ i = 1 then 0 else if (a = 94 ∧ i < 6) ∨ (false = true ∧ a = 93 ∧ (i = 1 ∨ i = 2)) then T.1 a i else S.1 a i) = if (a = 94 ∧ i < 6) ∨ (true = true ∧ a = 93 ∧ (i = 1 ∨ i = 2)) then (if a = 93 ∧ i = 2 then (1 : Int32) else if a = 93 ∧ i = 1 then 0 else T.1 a i) else S.1 a i
  by_cases h1 : a = 93 ∧ i = 2
  · obtain ⟨rfl, rfl⟩ := h1; simp
  · by_cases h2 : a = 93 ∧ i = 1
    · obtain ⟨rfl, rfl⟩ := h2; simp
    · rw [if_neg h1, if_neg h2, if_neg h1, if_neg h2]
      by_cases h3 : a = 94 ∧ i < 6
      · rw [if_pos (Or.inl h3), if_pos (Or.inl h3)]
      · rw [if_neg (by simp; omega), if_neg (by simp; omega)]
theorem mx_w94 (w : Bool) (S T : St) {i : Int32} (h : vin i 6) (v : Int32) : sI (mx w S T) 94 i.toNatClampNeg v = mx w S (sI T 94 i.toNatClampNeg v) := mx_w w S T 94 _ v (Or.inl ⟨rfl, by obtain ⟨j, hj, rfl⟩ := vin_ex h (by decide); rw [nI_clamp (by omega)]; exact hj⟩)
theorem mx_r94 (w : Bool) (S T : St) {i : Int32} (h : vin i 6) : (mx w S T).1 94 i.toNatClampNeg = T.1 94 i.toNatClampNeg := mx_94 w S T (by obtain ⟨j, hj, rfl⟩ := vin_ex h (by decide); rw [nI_clamp (by omega)]; exact hj)
theorem od_38 (w : Bool) (S : St) (ag ag' : Int32 → Int32 → Int32 → St → Option St) (hag : ∀ a b d T, ag a b d (mx w S T) = (ag' a b d T).map (mx w S)) : ∀ (n : Nat) (x1 x2 x3 x4 : Int32) (T : St), q_X0_weighNumbers_38 ag n x1 x2 x3 x4 (mx w S T) = (q_X0_weighNumbers_38 ag' n x1 x2 x3 x4 T).map (mx w S)
  | 0, _, _, _, _, _ => rfl
  | n + 1, x1, x2, x3, x4, T => by
    rw [q_X0_weighNumbers_38, q_X0_weighNumbers_38]
    have h0 : vin (0 : Int32) 6 := (vin_t (i := 0) (by omega)).mpr trivial
    have e0 : vin (0 : Int32) 6 = True := eq_true h0
    by_cases h : x4 ≤ 0
    · simp only [h, e0, if_true, mx_w94 w S T h0, mx_r94 w S T h0, hag]
    · simp only [h, if_false]
      by_cases h1 : vin x4 6
      · by_cases h2 : vin (x4 - 1) 6
        · simp only [show vin x4 6 = True from eq_true h1, show vin (x4 - 1) 6 = True from eq_true h2, if_true, mx_w94 w S T h1, mx_r94 w S T h1, mx_r94 w S T h2, od_38 w S ag ag' hag n]
        · simp only [show vin (x4 - 1) 6 = False from eq_false h2, if_false, ite_self, Option.map_none]
      · simp only [show vin x4 6 = False from eq_false h1, if_false, Option.map_none]
theorem od_30 (w : Bool) (S : St) : ∀ (n : Nat) (x1 x2 x3 : Int32) (T : St), q_X0_weighNumbers_30 n x1 x2 x3 (mx w S T) = (q_X0_weighNumbers_30 n x1 x2 x3 T).map (mx w S)
  | 0, _, _, _, _ => rfl
  | n + 1, x1, x2, x3, T => by
    rw [q_X0_weighNumbers_30, q_X0_weighNumbers_30]
    by_cases h : x1 ≤ x3
    · simp only [h, if_true, Option.map_some]
    · simp only [h, if_false]
      exact od_38 w S _ _ (od_30 w S n) FU x1 x2 x3 x1 T
theorem od_cd (S T : St) : ∀ (n : Nat) (x2 x3 x4 : Int32), q_X0_commonDivisor_7 n x2 x3 x4 (mx true S T) = (q_X0_commonDivisor_7 n x2 x3 x4 T).map (fun q => (q.1, mx true S q.2))
  | 0, _, _, _ => rfl
  | n + 1, x2, x3, x4 => by
    rw [q_X0_commonDivisor_7, q_X0_commonDivisor_7]
    by_cases h : (64 : Int32) ≤ x4
    · simp only [h, if_true, Option.map_some]
    · by_cases h2 : x3 = 0
      · simp only [h, h2, if_true, if_false, Option.map_some]
      · simp only [h, h2, not_false_eq_true, if_true, if_false]
        exact od_cd S T n _ _ _
theorem od_56 (S : St) : ∀ (n : Nat) (x1 x4 : Int32) (T : St), q_X0_reckon_56 n x1 x4 (mx true S T) = (q_X0_reckon_56 n x1 x4 T).map (mx true S)
  | 0, _, _, _ => rfl
  | n + 1, x1, x4, T => by
    rw [q_X0_reckon_56, q_X0_reckon_56]
    by_cases h : x1 ≤ x4
    · simp only [h, if_true]
      rw [p_X0_commonDivisor, p_X0_commonDivisor, mx_931, mx_932, od_cd]
      cases q_X0_commonDivisor_7 FU (T.1 93 2) (T.1 93 1) (0 : Int32) T with
      | none => rfl
      | some q =>
        simp only [Option.map_some, Option.bind_some]
        by_cases h1 : q.1 ≤ 1
        · simp only [h1, if_true, Option.map_some]
        · simp only [h1, if_false]
          by_cases h2 : q.1 = 0
          · simp only [h2, not_true_eq_false, if_false, Option.map_none]
          · simp only [h2, not_false_eq_true, if_true, mx_931, mx_932, Option.map_some, mx_w true S _ 93 1 _ (Or.inr ⟨rfl, rfl, Or.inl rfl⟩), mx_w true S _ 93 2 _ (Or.inr ⟨rfl, rfl, Or.inr rfl⟩)]
    · simp only [h, if_false, mx_932, mx_w true S _ 93 2 _ (Or.inr ⟨rfl, rfl, Or.inr rfl⟩)]
      exact od_56 S n _ _ _
theorem od_19 (S : St) : ∀ (n : Nat) (x1 x3 x4 : Int32) (T : St), q_X0_reckon_19 n x1 x3 x4 (mx true S T) = (q_X0_reckon_19 n x1 x3 x4 T).map (mx true S)
  | 0, _, _, _, _ => rfl
  | n + 1, x1, x3, x4, T => by
    rw [q_X0_reckon_19, q_X0_reckon_19]
    by_cases h : x1 < x4
    · simp only [h, if_true]
      exact od_56 S _ _ _ _
    · simp only [h, if_false]
      by_cases h3 : x3 < x4
      · simp only [h3, if_true]
        exact od_19 S n _ _ _ _
      · simp only [h3, if_false]
        by_cases h1 : vin x4 6
        · simp only [show vin x4 6 = True from eq_true h1, if_true, mx_931, mx_r94 true S T h1, mx_w true S _ 93 1 _ (Or.inr ⟨rfl, rfl, Or.inl rfl⟩)]
          exact od_19 S n _ _ _ _
        · simp only [show vin x4 6 = False from eq_false h1, if_false, Option.map_none]
-- the reference: nothing of the state is read
theorem oc_pow (S T : St) : ∀ (n : Nat) (a b d e : Int32), q_X10_power_4 n a b d e S = (q_X10_power_4 n a b d e T).map (fun q => (q.1, S))
  | 0, _, _, _, _ => rfl
  | n + 1, a, b, d, e => by
    rw [q_X10_power_4, q_X10_power_4]
    by_cases h : b ≤ e
    · simp only [h, if_true, Option.map_some]
    · simp only [h, if_false]; exact oc_pow S T n _ _ _ _
theorem oc_gcd (S T : St) : ∀ (n : Nat) (a b : Int32), q_X10_gcd_4 n a b S = (q_X10_gcd_4 n a b T).map (fun q => (q.1, S))
  | 0, _, _ => rfl
  | n + 1, a, b => by
    rw [q_X10_gcd_4, q_X10_gcd_4]
    by_cases h : b = 0
    · simp only [h, if_true, Option.map_some]
    · simp only [h, not_false_eq_true, if_true, if_false]; exact oc_gcd S T n _ _
theorem oc_ones (S T : St) : ∀ (n : Nat) (a b d : Int32), q_X10_ones_4 n a b d S = (q_X10_ones_4 n a b d T).map (fun q => (q.1, S))
  | 0, _, _, _ => rfl
  | n + 1, a, b, d => by
    rw [q_X10_ones_4, q_X10_ones_4]
    by_cases h : (8 : Int32) ≤ d
    · simp only [h, if_true, Option.map_some]
    · simp only [h, if_false]; exact oc_ones S T n _ _ _
theorem oc_bind {f g : Option (Int32 × St)} {S T : St} {k : Int32 × St → Option (Int32 × St)} (h : f = g.map (fun q => (q.1, S))) (hg : ∀ q, g = some q → q.2 = T) (hk : ∀ v, k (v, S) = (k (v, T)).map (fun q => (q.1, S))) : f.bind k = (g.bind k).map (fun q => (q.1, S)) := by
  subst h
  cases g with
  | none => rfl
  | some q =>
    obtain ⟨v, U⟩ := q
    obtain rfl := hg _ rfl
    exact hk v
theorem oc_self {f : St → Option (Int32 × St)} (h : ∀ S T, f S = (f T).map (fun q => (q.1, S))) (T : St) (q : Int32 × St) (e : f T = some q) : q.2 = T := by
  have := h T T
  rw [e] at this
  have h2 := congrArg (Option.map (fun q : Int32 × St => q.2)) this
  simpa using h2
theorem oc_93 (S T : St) : ∀ (n : Nat) (x1 x2 x3 x4 x5 x6 : Int32), q_X10_odds_93 n x1 x2 x3 x4 x5 x6 S = (q_X10_odds_93 n x1 x2 x3 x4 x5 x6 T).map (fun q => (q.1, S))
  | 0, _, _, _, _, _, _ => rfl
  | n + 1, x1, x2, x3, x4, x5, x6 => by
    have hp : ∀ a b, p_X10_power a b S = (p_X10_power a b T).map (fun q => (q.1, S)) := fun a b => oc_pow S T FU a b 1 0
    have hp' : ∀ a b q, p_X10_power a b T = some q → q.2 = T := fun a b q e => oc_self (f := p_X10_power a b) (fun S T => oc_pow S T FU a b 1 0) T q e
    have hg : ∀ a b, p_X10_gcd a b S = (p_X10_gcd a b T).map (fun q => (q.1, S)) := fun a b => oc_gcd S T FU a b
    have hg' : ∀ a b q, p_X10_gcd a b T = some q → q.2 = T := fun a b q e => oc_self (f := p_X10_gcd a b) (fun S T => oc_gcd S T FU a b) T q e
    have ho : ∀ a, p_X10_ones a S = (p_X10_ones a T).map (fun q => (q.1, S)) := fun a => oc_ones S T FU a 0 0
    have ho' : ∀ a q, p_X10_ones a T = some q → q.2 = T := fun a q e => oc_self (f := p_X10_ones a) (fun S T => oc_ones S T FU a 0 0) T q e
    rw [q_X10_odds_93, q_X10_odds_93]
    by_cases h : ((1 : Int32) <<< (x4 &&& 31)) ≤ x6
    · simp only [h, if_true]
      refine oc_bind (hp _ _) (hp' _ _) (fun v => ?_)
      refine oc_bind (hg _ _) (hg' _ _) (fun w => ?_)
      by_cases h3 : x3 = 0 <;> by_cases hw : w = 0 <;> simp [h3, hw]
    · simp only [h, if_false]
      refine oc_bind (ho _) (ho' _) (fun v => ?_)
      by_cases h2 : x2 < v
      · simp only [h2, if_true]; exact oc_93 S T n _ _ _ _ _ _
      · simp only [h2, if_false]
        refine oc_bind (ho _) (ho' _) (fun v => ?_)
        refine oc_bind (hp _ _) (hp' _ _) (fun v => ?_)
        refine oc_bind (ho _) (ho' _) (fun w => ?_)
        refine oc_bind (hp _ _) (hp' _ _) (fun w => ?_)
        exact oc_93 S T n _ _ _ _ _ _

-- the weights at the start
def od0 : St := sI (sI (sI (sI (sI (sI (fun _ _ => 0, fun _ => 0) 94 0 1) 94 1 0) 94 2 0) 94 3 0) 94 4 0) 94 5 0
theorem od_in (S : St) : sI (sI (sI (sI (sI (sI S 94 0 1) 94 1 0) 94 2 0) 94 3 0) 94 4 0) 94 5 0 = mx false S od0 := by
  refine Prod.ext ?_ rfl
  funext a i
  by_cases h : a = 94 ∧ i < 6
  · obtain ⟨rfl, hi⟩ := h
    rw [mx_94 false S od0 hi]
    unfold od0
    simp only [sI_1, true_and]
    have : i = 0 ∨ i = 1 ∨ i = 2 ∨ i = 3 ∨ i = 4 ∨ i = 5 := by omega
    rcases this with rfl | rfl | rfl | rfl | rfl | rfl <;> simp
  · have e : (mx false S od0).1 a i = S.1 a i := if_neg (by simp; omega)
    rw [e]
    simp only [sI_1]
    repeat rw [if_neg (by omega)]
theorem od_2 (m : Nat) (x1 x2 : Int32) (S : St) : q_X0_weighNumbers_2 (m + 7) x1 x2 0 S = q_X0_weighNumbers_30 FU x1 x2 0 (mx false S od0) := by
  rw [← od_in]
  simp only [q_X0_weighNumbers_2]
  simp (disch := omega) only [fa_lit, nI_add, ltN, eqN, vin_t, nI_clamp, if_true, if_false, Nat.lt_irrefl, Nat.reduceAdd, Nat.reduceLT, Nat.reduceEqDiff]
def odR (x1 x2 x3 : Int32) : Option St := (q_X0_weighNumbers_30 FU x1 x2 0 od0).bind (fun q => q_X0_reckon_19 FU x1 x3 0 (sI (sI q 93 1 0) 93 2 1))
theorem od_all (x1 x2 x3 : Int32) (S : St) : p_X0_reckon x1 x2 x3 S = (odR x1 x2 x3).map (mx true S) := by
  unfold p_X0_reckon p_X0_weighNumbers odR
  rw [show q_X0_weighNumbers_2 FU x1 x2 0 S = _ from od_2 (FU - 7) x1 x2 S, od_30 false S]
  cases q_X0_weighNumbers_30 FU x1 x2 0 od0 with
  | none => rfl
  | some q =>
    simp only [Option.map_some, Option.bind_some]
    rw [mx_in, od_19]

def odZ : St := (fun _ _ => 0, fun _ => 0)
def odK (n x k : Nat) : Bool := match odR (nI n) (nI x) (nI k), q_X10_odds_93 FU (nI x) (nI k) (nI 0) (nI n) 0 0 odZ, q_X10_odds_93 FU (nI x) (nI k) (nI 1) (nI n) 0 0 odZ with
  | some T, some a, some b => decide (a.1 = T.1 93 1) && decide (b.1 = T.1 93 2)
  | _, _, _ => false
theorem odK_3 : ∀ x, x < 11 → ∀ k, k < 6 → ∀ n, n < 3 → odK n x k = true := by decide +kernel
theorem odK_4 : ∀ x, x < 11 → ∀ k, k < 6 → odK 3 x k = true := by decide +kernel
theorem odK_5 : ∀ x, x < 11 → ∀ k, k < 6 → odK 4 x k = true := by decide +kernel
theorem odK_6 : ∀ x, x < 11 → ∀ k, k < 6 → odK 5 x k = true := by decide +kernel
theorem odds_same {n x k : Nat} (hn : n < 6) (hx : x < 11) (hk : k < 6) : ∃ T : St, (∀ S, p_X0_reckon (nI n) (nI x) (nI k) S = some (mx true S T)) ∧ (∀ S, q_X10_odds_93 FU (nI x) (nI k) (nI 0) (nI n) (nI 0) (nI 0) S = some (T.1 93 1, S)) ∧ ∀ S, q_X10_odds_93 FU (nI x) (nI k) (nI 1) (nI n) (nI 0) (nI 0) S = some (T.1 93 2, S) := by
  have h : odK n x k = true := by
    by_cases h3 : n < 3
    · exact odK_3 x hx k hk n h3
    · have : n = 3 ∨ n = 4 ∨ n = 5 := by omega
      rcases this with rfl | rfl | rfl
      · exact odK_4 x hx k hk
      · exact odK_5 x hx k hk
      · exact odK_6 x hx k hk
  unfold odK at h
  have ho := od_all (nI n) (nI x) (nI k)
  have ha := fun S => oc_93 S odZ FU (nI x) (nI k) (nI 0) (nI n) (nI 0) (nI 0)
  have hb := fun S => oc_93 S odZ FU (nI x) (nI k) (nI 1) (nI n) (nI 0) (nI 0)
  rw [show q_X10_odds_93 FU (nI x) (nI k) (nI 0) (nI n) 0 0 odZ = q_X10_odds_93 FU (nI x) (nI k) (nI 0) (nI n) (nI 0) (nI 0) odZ from rfl, show q_X10_odds_93 FU (nI x) (nI k) (nI 1) (nI n) 0 0 odZ = q_X10_odds_93 FU (nI x) (nI k) (nI 1) (nI n) (nI 0) (nI 0) odZ from rfl] at h
  generalize odR (nI n) (nI x) (nI k) = oT at h ho
  generalize q_X10_odds_93 FU (nI x) (nI k) (nI 0) (nI n) (nI 0) (nI 0) odZ = oa at h ha
  generalize q_X10_odds_93 FU (nI x) (nI k) (nI 1) (nI n) (nI 0) (nI 0) odZ = ob at h hb
  cases oT with
  | none => cases h
  | some T =>
    cases oa with
    | none => cases h
    | some a =>
      cases ob with
      | none => cases h
      | some b =>
        simp only [Bool.and_eq_true, decide_eq_true_eq] at h
        refine ⟨T, fun S => ho S, fun S => ?_, fun S => ?_⟩
        · rw [ha S, ← h.1]; rfl
        · rw [hb S, ← h.2]; rfl
def ubN (c : Cty) (s : Sce) : Nat := cntB (cnb c) (fun b => decide (sag s b < cbr c b))
theorem ubN_le (c : Cty) (s : Sce) : ubN c s ≤ cnb c := cntB_le _ _
section PO
variable {c : Cty} {s : Sce} {S : St}
theorem xc_unbroken (hw : WC c) (hR : RC c S) (hs : RS c s 21 S) : p_X1_unbroken S = some (nI (ubN c s), S) := by
  have w4 := hw.2.2.2.1
  have r3 := hR.2.2.1
  have key := loop_cnt (fun m a i => q_X1_unbroken_4 m (nI a) (nI i) S) (cnb c) (fun b => decide (sag s b < cbr c b)) (fun a => some (nI a, S))
    (fun m a i hi => by
      show q_X1_unbroken_4 (m + 1) (nI a) (nI i) S = _
      rw [q_X1_unbroken_4]
      simp (disch := omega) only [r3, leN, show ¬ cnb c ≤ i from by omega, if_false, xc_broken hw hR hs hi, Option.bind_some, nI_bN0, Int32.add_zero]
      by_cases h : sag s i < cbr c i <;> simp only [h, decide_true, decide_false, Bool.not_true, Bool.not_false, if_true, if_false, fa_lit, nI_add, Bool.false_eq_true, Bool.true_eq_false])
    (fun m a => by
      show q_X1_unbroken_4 (m + 1) (nI a) (nI (cnb c)) S = _
      rw [q_X1_unbroken_4]
      simp only [r3, Int32.le_refl, if_true]) FU (FU_gt (by omega)) 0
  rw [Nat.zero_add] at key
  exact key
theorem xm_unbroken (hw : WC c) (hM : MC c S) (hm : MS c s (S.1 110)) (x y z : Int32) : q_X10_odds_41 FU x y z (nI 0) (nI 0) S = q_X10_odds_93 FU x y z (nI (ubN c s)) (nI 0) (nI 0) S := by
  have w4 := hw.2.2.2.1
  have r3 := hM.2.2.1
  have key := loop_cnt (fun m a i => q_X10_odds_41 m x y z (nI a) (nI i) S) (cnb c) (fun b => decide (sag s b < cbr c b)) (fun a => q_X10_odds_93 FU x y z (nI a) (nI 0) (nI 0) S)
    (fun m a i hi => by
      have h1 := (hM.2.2.2.2.2 i hi).2.2.1
      have h2 := (hm.1 i hi).2.1
      show q_X10_odds_41 (m + 1) x y z (nI a) (nI i) S = _
      rw [q_X10_odds_41]
      simp (disch := omega) only [fa_lit, nI_add, vin_t, nI_clamp, if_true, r3, leN, show ¬ cnb c ≤ i from by omega, if_false, h1, h2, Nat.add_zero]
      by_cases h : sag s i < cbr c i
      · simp only [h, show ¬ cbr c i ≤ sag s i from by rw [Int32.not_le]; exact h, decide_true, if_true, if_false]
      · simp only [h, show cbr c i ≤ sag s i from by rw [← Int32.not_lt]; exact h, decide_false, if_true, if_false, Bool.false_eq_true])
    (fun m a => by
      show q_X10_odds_41 (m + 1) x y z (nI a) (nI (cnb c)) S = _
      rw [q_X10_odds_41]
      simp (disch := omega) only [fa_lit, vin_t, nI_clamp, r3, Int32.le_refl, if_true]) FU (FU_gt (by omega)) 0
  rw [Nat.zero_add] at key
  exact key
end PO
