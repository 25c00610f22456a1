-- THE FEWEST BOYS, ON
theorem enc_9 {m : Nat} (h : m < 32) : (nI m = -nI 9) = False := by
  have : ∀ m, m < 32 → nI m ≠ -nI 9 := by decide +kernel
  exact eq_false (this m h)
section CV
variable {c : Cty} {s : Sce} {p : Pst} {im : Img} {h : Hea} {t : Txt} {tr : Int64} {S : St}
theorem ffa_20 (hw : WC c) (hU : ∀ x, x < 2 ^ cnb c → S.1 92 x = nI (ukr c s (cnb c) x)) : ∀ (k i n : Nat) (a : Option Nat), i + k = 2 ^ cnb c → k < n → isb (cvB c s) pc 0 i a → ∃ b, q_X4_fewestForAll_20 n (nI (2 ^ cnb c - 1)) (nI (2 ^ cnd c - 1)) (enc a) (nI i) S = some (enc b, S) ∧ isb (cvB c s) pc 0 (2 ^ cnb c) b := by
  have w3 := hw.2.2.1
  have w4 := hw.2.2.2.1
  have h32 : 2 ^ cnb c ≤ 32 := (two_le w4 : 2 ^ cnb c ≤ 2 ^ 5)
  have h256 : 2 ^ cnd c ≤ 256 := (two_le w3 : 2 ^ cnd c ≤ 2 ^ 8)
  have hpos : 0 < 2 ^ cnb c := Nat.two_pow_pos _
  intro k
  induction k with
  | zero =>
    intro i n a hi hn ha
    obtain ⟨m, rfl⟩ : ∃ m, n = m + 1 := ⟨n - 1, by omega⟩
    refine ⟨a, ?_, by rw [show i = 2 ^ cnb c by omega] at ha; exact ha⟩
    rw [q_X4_fewestForAll_20, if_pos (by rw [ltN (by omega) (by omega)]; omega)]
  | succ k ih =>
    intro i n a hi hn ha
    obtain ⟨m, rfl⟩ : ∃ m, n = m + 1 := ⟨n - 1, by omega⟩
    have hu := hU i (by omega)
    have hl := ukr_lt c s (cnb c) i
    have hup := isb_up ha
    have chk : ∀ x3 : Int32, q_X4_fewestForAll_44 (q_X4_fewestForAll_20 m) (nI (2 ^ cnb c - 1)) (nI (2 ^ cnd c - 1)) x3 (nI i) S = q_X4_fewestForAll_20 m (nI (2 ^ cnb c - 1)) (nI (2 ^ cnd c - 1)) (if cvB c s i then nI i else x3) (nI (i + 1)) S := by
      intro x3
      unfold q_X4_fewestForAll_44 q_X4_fewestForAll_49
      have e1 : ((1 : Int32) = 0) = False := by decide
      simp (disch := omega) only [e1, if_false, vin_t, if_true, nI_clamp, hu, eqN]
      rw [show nI i + 1 = nI (i + 1) from nI_add i 1]
      by_cases e : ukr c s (cnb c) i = 2 ^ cnd c - 1
      · rw [if_pos e, if_pos (show cvB c s i = true from decide_eq_true e)]
      · rw [if_neg e, if_neg (show ¬ cvB c s i = true from fun q => e (of_decide_eq_true q))]
    rw [q_X4_fewestForAll_20, if_neg (by rw [ltN (by omega) (by omega)]; omega)]
    cases a with
    | none =>
      rw [if_pos (show enc none = (-9 : Int32) from rfl), chk]
      obtain ⟨b, e, f⟩ := ih (i + 1) m _ (by omega) (by omega) hup
      refine ⟨b, ?_, f⟩
      rw [← e]
      by_cases e1 : cvB c s i = true
      · simp only [e1, if_true]; rfl
      · simp only [e1, if_false]; rfl
    | some x =>
      have hx : x < 32 := by have := ha.2.1; omega
      have h9 := enc_9 hx
      rw [if_neg (show ¬ enc (some x) = (-9 : Int32) from fun q => Eq.mp h9 (show nI x = -nI 9 from q))]
      rw [bitCount (show i < 256 by omega), Option.bind_some, show p_J6_bitCount_0f7a4 (enc (some x)) ((nI (pc i), S) : Int32 × St).2 = some (nI (pc x), S) from bitCount (by omega) S, Option.bind_some]
      show ∃ b, (if nI (pc x) ≤ nI (pc i) then q_X4_fewestForAll_49 (q_X4_fewestForAll_20 m) (nI (2 ^ cnb c - 1)) (nI (2 ^ cnd c - 1)) (nI x) (nI i) (0 : Int32) S else q_X4_fewestForAll_44 (q_X4_fewestForAll_20 m) (nI (2 ^ cnb c - 1)) (nI (2 ^ cnd c - 1)) (nI x) (nI i) S) = some (enc b, S) ∧ _
      have l1 : pc x < 100 := Nat.lt_of_le_of_lt (pc_le x) (by decide)
      have l2 : pc i < 100 := Nat.lt_of_le_of_lt (pc_le i) (by decide)
      by_cases el : pc x ≤ pc i
      · rw [if_pos ((le100 l1 l2).mpr el)]
        simp only [el, if_true] at hup
        unfold q_X4_fewestForAll_49
        rw [if_pos rfl, show nI i + 1 = nI (i + 1) from nI_add i 1]
        exact ih (i + 1) m (some x) (by omega) (by omega) hup
      · rw [if_neg (fun q => el ((le100 l1 l2).mp q)), chk]
        simp only [el, if_false] at hup
        by_cases e1 : cvB c s i = true
        · simp only [e1, if_true] at hup ⊢
          exact ih (i + 1) m (some i) (by omega) (by omega) hup
        · simp only [e1, if_false] at hup ⊢
          exact ih (i + 1) m (some x) (by omega) (by omega) hup
theorem cov_35 (hw : WC c) (hws : WS_ c s) (hM : MC c S) (hm : MS c s (S.1 110)) {x : Nat} (hx : x < 32) (ag : Int32 → Int32 → Int32 → St → Option (Int32 × St)) (x1 : Int32) : q_X10_coverOf_35 ag FU x1 (nI (2 ^ cnd c - 1)) (nI x) (nI 0) (nI 0) S = if cvB c s x then (if x1 = (-9 : Int32) then ag (nI x) (nI (2 ^ cnd c - 1)) (nI x + (-1)) S else (p_X10_ones (nI x) S).bind (fun (q89 : Int32 × St) => (p_X10_ones x1 q89.2).bind (fun (q93 : Int32 × St) => (if q93.1 < q89.1 then ag x1 (nI (2 ^ cnd c - 1)) (nI x + (-1)) q93.2 else ag (nI x) (nI (2 ^ cnd c - 1)) (nI x + (-1)) q93.2)))) else ag x1 (nI (2 ^ cnd c - 1)) (nI x + (-1)) S := by
  have w3 := hw.2.2.1
  have w4 := hw.2.2.2.1
  have r3 := hM.2.2.1
  have h256 : 2 ^ cnd c ≤ 256 := (two_le w3 : 2 ^ cnd c ≤ 2 ^ 8)
  have key := loop_up (fun m a i => q_X10_coverOf_35 ag m x1 (nI (2 ^ cnd c - 1)) (nI x) (nI a) (nI i) S) (cnb c) (fun b a => a ||| (if x.testBit b then kn c s b else 0)) (fun a => if nI a = nI (2 ^ cnd c - 1) then (if x1 = (-9 : Int32) then ag (nI x) (nI (2 ^ cnd c - 1)) (nI x + (-1)) S else (p_X10_ones (nI x) S).bind (fun (q89 : Int32 × St) => (p_X10_ones x1 q89.2).bind (fun (q93 : Int32 × St) => (if q93.1 < q89.1 then ag x1 (nI (2 ^ cnd c - 1)) (nI x + (-1)) q93.2 else ag (nI x) (nI (2 ^ cnd c - 1)) (nI x + (-1)) q93.2)))) else ag x1 (nI (2 ^ cnd c - 1)) (nI x + (-1)) S) (fun _ _ => True)
    (fun m a i hi _ => ⟨by
      show q_X10_coverOf_35 ag (m + 1) x1 (nI (2 ^ cnd c - 1)) (nI x) (nI a) (nI i) S = _
      rw [q_X10_coverOf_35]
      rw [if_pos (show vin (2 : Int32) 8 from (vin_t (i := 2) (by omega)).mpr trivial), show S.1 101 (2 : Int32).toNatClampNeg = nI (cnb c) from r3, if_neg (by rw [leN (by omega) (by omega)]; omega), has_m (by omega) (by omega), Option.bind_some]
      show (if nI (bN (x.testBit i)) = 0 then q_X10_coverOf_35 ag m x1 (nI (2 ^ cnd c - 1)) (nI x) (nI a ||| nI 0) (nI i + 1) S else Option.bind (p_X10_keys (nI i) S) (fun q60 => q_X10_coverOf_35 ag m x1 (nI (2 ^ cnd c - 1)) (nI x) (nI a ||| q60.1) (nI i + 1) q60.2)) = _
      rw [xm_keys hw hws hM hm hi, show nI i + 1 = nI (i + 1) from nI_add i 1]
      cases x.testBit i
      · rw [if_pos (show nI (bN false) = (0 : Int32) from rfl), fa_or]; rfl
      · rw [if_neg (show ¬ nI (bN true) = (0 : Int32) by decide), Option.bind_some, fa_or]; rfl, trivial⟩)
    (fun m a _ => by
      show q_X10_coverOf_35 ag (m + 1) x1 (nI (2 ^ cnd c - 1)) (nI x) (nI a) (nI (cnb c)) S = _
      rw [q_X10_coverOf_35]
      rw [if_pos (show vin (2 : Int32) 8 from (vin_t (i := 2) (by omega)).mpr trivial), show S.1 101 (2 : Int32).toNatClampNeg = nI (cnb c) from r3, if_pos (Int32.le_refl _)]) (cnb c) FU 0 0 (by omega) (FU_gt (by omega)) trivial
  have e : ∀ n, lpf (fun b a => a ||| (if x.testBit b then kn c s b else 0)) 0 n 0 = ukr c s n x := by
    intro n
    induction n with
    | zero => rfl
    | succ n ih => rw [lpf_end, Nat.zero_add, ih, ukr]
  have k1 := key.1
  rw [e] at k1
  refine k1.trans ?_
  have hl := ukr_lt c s (cnb c) x
  have q : (nI (ukr c s (cnb c) x) = nI (2 ^ cnd c - 1)) = (cvB c s x = true) := by rw [eqN (by omega) (by omega)]; unfold cvB; rw [decide_eq_true_eq]
  by_cases e1 : cvB c s x = true
  · rw [if_pos e1, if_pos (q.mpr e1)]
  · rw [if_neg e1, if_neg (fun z => e1 (q.mp z))]
theorem dn1 (k : Nat) : nI (k + 1) + (-1) = nI k := by
  have := nI_subN (a := k + 1) (b := 1) (by omega)
  rw [Int32.sub_eq_add_neg] at this
  exact this
theorem cov_25 (hw : WC c) (hws : WS_ c s) (hM : MC c S) (hm : MS c s (S.1 110)) : ∀ (k n : Nat) (a : Option Nat), k ≤ 2 ^ cnb c → k < n → isb (cvB c s) pc k (2 ^ cnb c) a → ∃ b, q_X10_coverOf_25 n (enc a) (nI (2 ^ cnd c - 1)) (nI k + (-1)) S = some (enc b, S) ∧ isb (cvB c s) pc 0 (2 ^ cnb c) b := by
  have w3 := hw.2.2.1
  have w4 := hw.2.2.2.1
  have h32 : 2 ^ cnb c ≤ 32 := (two_le w4 : 2 ^ cnb c ≤ 2 ^ 5)
  intro k
  induction k with
  | zero =>
    intro n a hk hn ha
    obtain ⟨m, rfl⟩ : ∃ m, n = m + 1 := ⟨n - 1, by omega⟩
    refine ⟨a, ?_, ha⟩
    rw [q_X10_coverOf_25, if_pos (by decide)]
  | succ k ih =>
    intro n a hk hn ha
    obtain ⟨m, rfl⟩ : ∃ m, n = m + 1 := ⟨n - 1, by omega⟩
    have hdn := isb_dn (i := k) (by omega) ha
    rw [dn1, q_X10_coverOf_25, if_neg (by show ¬ nI k < nI 0; rw [ltN (by omega) (by omega)]; omega)]
    rw [show q_X10_coverOf_35 (q_X10_coverOf_25 m) FU (enc a) (nI (2 ^ cnd c - 1)) (nI k) (0 : Int32) (0 : Int32) S = _ from cov_35 hw hws hM hm (show k < 32 by omega) (q_X10_coverOf_25 m) (enc a)]
    by_cases e1 : cvB c s k = true
    · rw [if_pos e1] at hdn ⊢
      cases a with
      | none =>
        rw [if_pos (show enc none = (-9 : Int32) from rfl)]
        exact ih m (some k) (by omega) (by omega) hdn
      | some x =>
        have hx : x < 32 := by have := ha.2.1; omega
        have h9 := enc_9 hx
        rw [if_neg (show ¬ enc (some x) = (-9 : Int32) from fun q => Eq.mp h9 (show nI x = -nI 9 from q))]
        rw [ones (by omega), Option.bind_some, show p_X10_ones (enc (some x)) ((nI (pc k), S) : Int32 × St).2 = some (nI (pc x), S) from ones (by omega) S, Option.bind_some]
        show ∃ b, (if nI (pc x) < nI (pc k) then q_X10_coverOf_25 m (enc (some x)) (nI (2 ^ cnd c - 1)) (nI k + (-1)) S else q_X10_coverOf_25 m (enc (some k)) (nI (2 ^ cnd c - 1)) (nI k + (-1)) S) = some (enc b, S) ∧ _
        have l1 : pc x < 2 ^ 31 := Nat.lt_of_le_of_lt (pc_le x) (by decide)
        have l2 : pc k < 2 ^ 31 := Nat.lt_of_le_of_lt (pc_le k) (by decide)
        by_cases el : pc x < pc k
        · rw [if_pos ((ltN l1 l2).mpr el)]
          simp only [el, if_true] at hdn
          exact ih m (some x) (by omega) (by omega) hdn
        · rw [if_neg (fun q => el ((ltN l1 l2).mp q))]
          simp only [el, if_false] at hdn
          exact ih m (some k) (by omega) (by omega) hdn
    · rw [if_neg e1] at hdn ⊢
      exact ih m a (by omega) (by omega) hdn
theorem xm_cover (hw : WC c) (hws : WS_ c s) (hM : MC c S) (hm : MS c s (S.1 110)) : ∃ b, p_X10_coverOf S = some (enc b, S) ∧ isb (cvB c s) pc 0 (2 ^ cnb c) b := by
  have w3 := hw.2.2.1
  have w4 := hw.2.2.2.1
  have h32 : 2 ^ cnb c ≤ 32 := (two_le w4 : 2 ^ cnb c ≤ 2 ^ 5)
  obtain ⟨b, e, f⟩ := cov_25 hw hws hM hm (2 ^ cnb c) FU none (Nat.le_refl _) (FU_gt (by omega)) (fun j h1 h2 => absurd h2 (by omega))
  refine ⟨b, ?_, f⟩
  unfold p_X10_coverOf
  rw [if_pos (show vin (1 : Int32) 8 from (vin_t (i := 1) (by omega)).mpr trivial), if_pos (show vin (2 : Int32) 8 from (vin_t (i := 2) (by omega)).mpr trivial), show S.1 101 (1 : Int32).toNatClampNeg = nI (cnd c) from hM.2.1, show S.1 101 (2 : Int32).toNatClampNeg = nI (cnb c) from hM.2.2.1]
  rw [show ((1 : Int32) <<< (nI (cnd c) &&& 31)) = nI (2 ^ cnd c) from shlN (by omega), show ((1 : Int32) <<< (nI (cnb c) &&& 31)) = nI (2 ^ cnb c) from shlN (by omega)]
  rw [show nI (2 ^ cnd c) - (1 : Int32) = nI (2 ^ cnd c - 1) from nI_subN (b := 1) (Nat.two_pow_pos _)]
  rw [Int32.sub_eq_add_neg]
  exact e
theorem xc_few (hw : WC c) (hws : WS_ c s) (hR : RC c S) (hs : RS c s 21 S) (h0 : S.1 92 0 = nI 0) : ∃ b W, p_X4_fewestForAll S = some (enc b, W) ∧ isb (cvB c s) pc 0 (2 ^ cnb c) b ∧ (∀ a b, ¬ (a = 92 ∧ b ≠ 0) → W.1 a b = S.1 a b) ∧ W.2 = S.2 := by
  have w3 := hw.2.2.1
  have w4 := hw.2.2.2.1
  have h32 : 2 ^ cnb c ≤ 32 := (two_le w4 : 2 ^ cnb c ≤ 2 ^ 5)
  obtain ⟨W, e, f1, f2, f3⟩ := takeKeys hw hws hR hs h0
  obtain ⟨b, g1, g2⟩ := ffa_20 (s := s) hw f1 (2 ^ cnb c) 0 FU none (by omega) (FU_gt (by omega)) (fun j h1 h2 => absurd h2 (by omega))
  refine ⟨b, W, ?_, g2, f2, f3⟩
  unfold p_X4_fewestForAll
  rw [e, Option.bind_some]
  unfold p_X4_allBoys p_X4_allDoors
  rw [Option.bind_some]
  show Option.bind (some (((1 : Int32) <<< ((W.1 3 1) &&& 31)) - (1 : Int32), W)) _ = _
  rw [Option.bind_some]
  show q_X4_fewestForAll_20 FU (((1 : Int32) <<< ((W.1 3 2) &&& 31)) - (1 : Int32)) (((1 : Int32) <<< ((W.1 3 1) &&& 31)) - (1 : Int32)) (-9 : Int32) (0 : Int32) W = _
  rw [show W.1 3 1 = nI (cnd c) from (f2 3 1 (by omega)).trans hR.2.1, show W.1 3 2 = nI (cnb c) from (f2 3 2 (by omega)).trans hR.2.2.1]
  rw [show ((1 : Int32) <<< (nI (cnd c) &&& 31)) = nI (2 ^ cnd c) from shlN (by omega), show ((1 : Int32) <<< (nI (cnb c) &&& 31)) = nI (2 ^ cnb c) from shlN (by omega)]
  rw [show nI (2 ^ cnd c) - (1 : Int32) = nI (2 ^ cnd c - 1) from nI_subN (b := 1) (Nat.two_pow_pos _), show nI (2 ^ cnb c) - (1 : Int32) = nI (2 ^ cnb c - 1) from nI_subN (b := 1) (Nat.two_pow_pos _)]
  exact g1
theorem pr_now (hW : IW c s p im h t) (hC : IC c s p im h t tr S) (hM : IM c s p im h t tr S) (x : Int32) : PRR (p_X9_now x) (p_X10_now x) S := by
  have hR := hC.1
  have hs := hC.2.1
  have hw := hW.1
  have hws := hW.2.1
  have r21 : S.1 21 5 = nI (syr s) := hs.2.2.2
  have r214 : S.1 21 4 = nI (spr s) := hs.2.2.1
  obtain ⟨nx, hnx, n1, n2, n3⟩ := hC.2.2.1
  rcases inb_le (n := 4) (by decide) x with ⟨k, hk, rfl, hx⟩ | ⟨hx, hne⟩
  · have hk5 : k = 3 ∨ k = 0 ∨ k = 1 ∨ k = 2 ∨ k = 4 := by omega
    rcases hk5 with rfl | hk5
    · obtain ⟨b, W, e, g1, g2, g3⟩ := xc_few hw hws hR hs hC.2.2.2.2.2.2.2
      refine prr hM hW (v := enc b) ⟨W, ?_, hC.cg (fun a j q => g2 a j (by have := q.2.2.2.1; omega)) (by rw [g3]), ⟨fun a j q => g2 a j (by omega), by rw [g3]⟩⟩ ?_
      · unfold p_X9_now
        simp (disch := omega) only [fa_lit, nI_add, nI_clamp, vin_t, if_true, if_false, Option.bind_some, nI_bZ, Nat.zero_add, Bool.true_eq_false, Bool.false_eq_true, inb_if, inb_m, lne, lle, lnle, eq_self]
        rw [e]
        rfl
      · (intro S1 hM1; have hT := hM1.th 0; refine ⟨_, ?_, hT, kM.sI (by decide)⟩; unfold p_X10_now; generalize sI S1 99 0 (0 : Int32) = T at hT ⊢; obtain ⟨m1, m2, m3, m4, m5, m6, m7⟩ := hT)
        obtain ⟨b', e', g'⟩ := xm_cover hw hws m1 m2
        rw [isb_un g1 g']
        simp (disch := omega) only [fa_lit, nI_add, nI_clamp, vin_t, if_true, if_false, Option.bind_some, nI_bZ, Nat.zero_add, Bool.true_eq_false, Bool.false_eq_true, inb_if, inb_m, lne, lle, lnle, eq_self, hx]
        rw [e']
        rfl
    · rcases hk5 with rfl | rfl | rfl | rfl
      all_goals
        refine prr hM hW ⟨S, by unfold p_X9_now; simp (disch := omega) only [fa_lit, nI_add, nI_clamp, vin_t, if_true, if_false, Option.bind_some, nI_bZ, Nat.zero_add, Bool.true_eq_false, Bool.false_eq_true, inb_if, inb_m, lne, lle, lnle, eq_self, xc_isBoy hR, xc_isDoor hR, r21, r214, n2, xc_atHome hw hws hR hs]; rfl, hC, kC.rf S⟩ ?_
        (intro S1 hM1; have hT := hM1.th 0; refine ⟨_, ?_, hT, kM.sI (by decide)⟩; unfold p_X10_now; generalize sI S1 99 0 (0 : Int32) = T at hT ⊢; obtain ⟨m1, m2, m3, m4, m5, m6, m7⟩ := hT)
        simp (disch := omega) only [fa_lit, nI_add, nI_clamp, vin_t, if_true, if_false, Option.bind_some, nI_bZ, Nat.zero_add, Bool.true_eq_false, Bool.false_eq_true, inb_if, inb_m, lne, lle, lnle, eq_self, xm_isBoy m1, xm_isDoor m1, xm_isPlace m1, hx, m2.2.2.1, m2.2.2.2, m3.1, xm_atHome hw hws m1 m2]
  · have n0 : (x = nI 0) = False := eq_false (hne 0 (by decide))
    have n1 : (x = nI 1) = False := eq_false (hne 1 (by decide))
    have n2 : (x = nI 2) = False := eq_false (hne 2 (by decide))
    have n3 : (x = nI 3) = False := eq_false (hne 3 (by decide))
    have n4 : (x = nI 4) = False := eq_false (hne 4 (by decide))
    refine prr hM hW ⟨S, by unfold p_X9_now; simp (disch := omega) only [fa_lit, nI_add, nI_clamp, vin_t, if_true, if_false, Option.bind_some, nI_bZ, Nat.zero_add, Bool.true_eq_false, Bool.false_eq_true, inb_if, inb_m, lne, lle, lnle, eq_self, xc_isBoy hR, xc_isDoor hR, n0, n1, n2, n3, n4]; rfl, hC, kC.rf S⟩ ?_
    (intro S1 hM1; have hT := hM1.th 0; refine ⟨_, ?_, hT, kM.sI (by decide)⟩; unfold p_X10_now; generalize sI S1 99 0 (0 : Int32) = T at hT ⊢; obtain ⟨m1, m2, m3, m4, m5, m6, m7⟩ := hT)
    simp (disch := omega) only [fa_lit, nI_add, nI_clamp, vin_t, if_true, if_false, Option.bind_some, nI_bZ, Nat.zero_add, Bool.true_eq_false, Bool.false_eq_true, inb_if, inb_m, lne, lle, lnle, eq_self, xm_isBoy m1, xm_isDoor m1, xm_isPlace m1, hx]
end CV
