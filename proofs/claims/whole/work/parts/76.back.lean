-- MICHAELMAS, UNDO, KEEP, BACK
theorem m41 : ∀ n, n < 81 → nI n - nI n / nI 41 * nI 41 = nI (n % 41) := by decide +kernel
theorem opN_cg {c : Cty} {s s' : Sce} {d : Nat} (h2 : s'.2 = s.2) (hd : spi s' d = spi s d) : opN c s' d = opN c s d := by
  have hl : ∀ b v, sgB c s' b v = sgB c s b v := fun b v => by unfold sgB lwy hgy sag sco; rw [h2]
  have hp : spr s' = spr s := by unfold spr; rw [h2]
  refine bs_cong (fun b _ => ?_)
  rw [kn_bit, kn_bit, hl, hp, hd]
def nsp (c : Cty) (s : Sce) (d : Nat) : Nat := (spi s d + cns c) % 41
def mcC (c : Cty) (s : Sce) (n : Nat) (S : St) : St := (fun a j => if a = 25 ∧ j < n then nI (nsp c s j) else S.1 a j, S.2)
theorem mcC_0 (c : Cty) (s : Sce) (S : St) : mcC c s 0 S = S := by
  refine Prod.ext ?_ rfl
  funext a j
  exact if_neg (by omega)
theorem mcC_ne {c : Cty} {s : Sce} {n : Nat} {S : St} {a j : Nat} (h : a ≠ 25 ∨ n ≤ j) : (mcC c s n S).1 a j = S.1 a j := if_neg (by omega)
theorem mcC_s {c : Cty} {s : Sce} {n : Nat} {S : St} : sI (mcC c s n S) 25 n (nI (nsp c s n)) = mcC c s (n + 1) S := by
  refine Prod.ext ?_ rfl
  funext a j
  simp only [sI_1, mcC]
  by_cases e : a = 25 ∧ j = n
  · obtain ⟨rfl, rfl⟩ := e
    rw [if_pos ⟨rfl, rfl⟩, if_pos (by omega)]
  · rw [if_neg e]
    by_cases e1 : a = 25 ∧ j < n
    · rw [if_pos e1, if_pos (by omega)]
    · rw [if_neg e1, if_neg (by omega)]
def mcM (c : Cty) (s : Sce) (n : Nat) (S : St) : St := (fun a j => if a = 110 ∧ 15 ≤ j ∧ j < 15 + n then nI (nsp c s (j - 15)) else S.1 a j, S.2)
theorem mcM_0 (c : Cty) (s : Sce) (S : St) : mcM c s 0 S = S := by
  refine Prod.ext ?_ rfl
  funext a j
  exact if_neg (by omega)
theorem mcM_ne {c : Cty} {s : Sce} {n : Nat} {S : St} {a j : Nat} (h : a ≠ 110 ∨ j < 15 ∨ 15 + n ≤ j) : (mcM c s n S).1 a j = S.1 a j := if_neg (by omega)
theorem mcM_s {c : Cty} {s : Sce} {n : Nat} {S : St} : sI (mcM c s n S) 110 (15 + n) (nI (nsp c s n)) = mcM c s (n + 1) S := by
  refine Prod.ext ?_ rfl
  funext a j
  simp only [sI_1, mcM]
  by_cases e : a = 110 ∧ j = 15 + n
  · obtain ⟨rfl, rfl⟩ := e
    rw [if_pos ⟨rfl, rfl⟩, if_pos (by omega), show 15 + n - 15 = n by omega]
  · rw [if_neg e]
    by_cases e1 : a = 110 ∧ 15 ≤ j ∧ j < 15 + n
    · rw [if_pos e1, if_pos (by omega)]
    · rw [if_neg e1, if_neg (by omega)]
def smi (c : Cty) (s : Sce) (n : Nat) : Sce := ((spl s, fun d => if d < n then nsp c s d else spi s d), s.2)
theorem smi_W {c : Cty} {s : Sce} (hws : WS_ c s) (n : Nat) : WS_ c (smi c s n) := by
  refine ⟨hws.1, fun d hd => ?_, hws.2.2.1, hws.2.2.2⟩
  show (if d < n then nsp c s d else spi s d) ≤ 40
  split
  · unfold nsp; omega
  · exact hws.2.1 d hd
def miB (c : Cty) (s : Sce) (d : Nat) : Bool := decide (opN c (smi c s (cnd c)) d = 0)
section MI2
variable {c : Cty} {s : Sce} {p : Pst} {im : Img} {h : Hea} {t : Txt} {tr : Int64} {S : St}
theorem mcC_R (hs : RS c s 21 S) (n : Nat) : RS c (smi c s n) 21 (mcC c s n S) := by
  obtain ⟨s1, s2, s3, s4⟩ := hs
  refine ⟨fun b hb => ?_, fun d hd => ?_, ?_, ?_⟩
  · rw [mcC_ne (by omega), mcC_ne (by omega), mcC_ne (by omega)]; exact s1 b hb
  · show _ = nI (if d < n then nsp c s d else spi s d)
    by_cases e : d < n
    · rw [if_pos e]; exact if_pos ⟨rfl, e⟩
    · rw [if_neg e, mcC_ne (by omega)]; exact s2 d hd
  · rw [mcC_ne (by omega)]; exact s3
  · rw [mcC_ne (by omega)]; exact s4
theorem mcM_R (hw : WC c) (hs : MS c s (S.1 110)) (n : Nat) (hn : n ≤ cnd c) : MS c (smi c s n) ((mcM c s n S).1 110) := by
  have w3 := hw.2.2.1
  have w4 := hw.2.2.2.1
  obtain ⟨s1, s2, s3, s4⟩ := hs
  refine ⟨fun b hb => ?_, fun d hd => ?_, ?_, ?_⟩
  · rw [mcM_ne (by omega), mcM_ne (by omega), mcM_ne (by omega)]; exact s1 b hb
  · show _ = nI (if d < n then nsp c s d else spi s d)
    by_cases e : d < n
    · rw [if_pos e]
      refine (if_pos ⟨rfl, by omega, by omega⟩).trans ?_
      rw [show 15 + d - 15 = d by omega]
    · rw [if_neg e, mcM_ne (by omega)]; exact s2 d hd
  · rw [mcM_ne (by omega)]; exact s3
  · rw [mcM_ne (by omega)]; exact s4
theorem mi_c (hw : WC c) (hws : WS_ c s) (hR : RC c S) (hs : RS c s 21 S) : ∀ (k i n a : Nat), i + k = cnd c → k < n → a = cntB i (miB c s) → q_X9_michaelmas_15 n (nI a) (nI i) (mcC c s i S) = some (nI (cntB (cnd c) (miB c s)), mcC c s (cnd c) S) := by
  have w3 := hw.2.2.1
  have w5 := hw.2.2.2.2.1
  intro k
  induction k with
  | zero =>
    intro i n a hi hn ha
    obtain ⟨m, rfl⟩ : ∃ m, n = m + 1 := ⟨n - 1, by omega⟩
    obtain rfl : i = cnd c := by omega
    have g0 : (mcC c s (cnd c) S).1 3 1 = nI (cnd c) := (mcC_ne (by omega)).trans hR.2.1
    rw [q_X9_michaelmas_15, ha]
    simp only [g0, Int32.le_refl, if_true]
  | succ k ih =>
    intro i n a hi hn ha
    obtain ⟨m, rfl⟩ : ∃ m, n = m + 1 := ⟨n - 1, by omega⟩
    have g0 : (mcC c s i S).1 3 1 = nI (cnd c) := (mcC_ne (by omega)).trans hR.2.1
    have g3 : (mcC c s i S).1 3 3 = nI (cns c) := (mcC_ne (by omega)).trans hR.2.2.2.1
    have g25 : (mcC c s i S).1 25 i = nI (spi s i) := (mcC_ne (by omega)).trans (hs.2.1 i (by omega))
    have hp := hws.2.1 i (by omega)
    have hR' : RC c (mcC c s (i + 1) S) := hR.cg (fun a j q q' => mcC_ne (by omega))
    have ho := xc_openers (d := i) hw (smi_W hws (i + 1)) hR' (mcC_R hs (i + 1)) (by omega)
    have eo : opN c (smi c s (i + 1)) i = opN c (smi c s (cnd c)) i := opN_cg rfl (by
      show (if i < i + 1 then _ else _) = (if i < cnd c then _ else _)
      rw [if_pos (by omega), if_pos (by omega)])
    have hl := opN_lt c (smi c s (cnd c)) i hw
    rw [eo] at ho
    rw [q_X9_michaelmas_15]
    simp (disch := omega) only [fa_lit, g0, leN, show ¬ cnd c ≤ i from by omega, if_false, vin_t, if_true, nI_clamp, lne, not_false_eq_true, g3, g25, nI_add, m41]
    rw [show nI ((spi s i + cns c) % 41) = nI (nsp c s i) from rfl, mcC_s, ho]
    simp (disch := omega) only [Option.bind_some, eqN]
    by_cases e : opN c (smi c s (cnd c)) i = 0
    · rw [if_pos e]
      exact ih (i + 1) m (a + 1) (by omega) (by omega) (by rw [cntB, if_pos (show miB c s i = true from decide_eq_true e), ha])
    · rw [if_neg e]
      exact ih (i + 1) m a (by omega) (by omega) (by rw [cntB, if_neg (show ¬ miB c s i = true from fun q => e (of_decide_eq_true q)), ha]; rfl)
theorem mi_m2 (hw : WC c) (hws : WS_ c s) (hR : MC c S) (hs : MS c (smi c s (cnd c)) (S.1 110)) : ∀ (k i n a : Nat), i + k = cnd c → k < n → a = cntB i (miB c s) → q_X10_michaelmas_59 n (nI a) (nI i) S = some (nI (cntB (cnd c) (miB c s)), S) := by
  have w3 := hw.2.2.1
  have g0 := hR.2.1
  intro k
  induction k with
  | zero =>
    intro i n a hi hn ha
    obtain ⟨m, rfl⟩ : ∃ m, n = m + 1 := ⟨n - 1, by omega⟩
    obtain rfl : i = cnd c := by omega
    rw [q_X10_michaelmas_59, ha]
    simp (disch := omega) only [fa_lit, vin_t, nI_clamp, g0, Int32.le_refl, if_true]
  | succ k ih =>
    intro i n a hi hn ha
    obtain ⟨m, rfl⟩ : ∃ m, n = m + 1 := ⟨n - 1, by omega⟩
    have ho := xm_openers (d := i) hw (smi_W hws (cnd c)) hR hs (by omega)
    have hl := opN_lt c (smi c s (cnd c)) i hw
    rw [q_X10_michaelmas_59]
    simp (disch := omega) only [fa_lit, g0, leN, show ¬ cnd c ≤ i from by omega, if_false, vin_t, if_true, nI_clamp, nI_add, ho, Option.bind_some, eqN]
    by_cases e : opN c (smi c s (cnd c)) i = 0
    · rw [if_pos e]
      exact ih (i + 1) m (a + 1) (by omega) (by omega) (by rw [cntB, if_pos (show miB c s i = true from decide_eq_true e), ha])
    · rw [if_neg e]
      exact ih (i + 1) m a (by omega) (by omega) (by rw [cntB, if_neg (show ¬ miB c s i = true from fun q => e (of_decide_eq_true q)), ha]; rfl)
theorem mi_m (hw : WC c) (hws : WS_ c s) (hR : MC c S) (hs : MS c s (S.1 110)) : ∀ (k i n : Nat), i + k = cnd c → k < n → q_X10_michaelmas_13 n (nI 0) (nI i) (mcM c s i S) = q_X10_michaelmas_59 FU (nI 0) (nI 0) (mcM c s (cnd c) S) := by
  have w3 := hw.2.2.1
  have w5 := hw.2.2.2.2.1
  intro k
  induction k with
  | zero =>
    intro i n hi hn
    obtain ⟨m, rfl⟩ : ∃ m, n = m + 1 := ⟨n - 1, by omega⟩
    obtain rfl : i = cnd c := by omega
    have g0 : (mcM c s (cnd c) S).1 101 1 = nI (cnd c) := (mcM_ne (by omega)).trans hR.2.1
    rw [q_X10_michaelmas_13]
    simp (disch := omega) only [fa_lit, vin_t, nI_clamp, g0, Int32.le_refl, if_true]
  | succ k ih =>
    intro i n hi hn
    obtain ⟨m, rfl⟩ : ∃ m, n = m + 1 := ⟨n - 1, by omega⟩
    have g0 : (mcM c s i S).1 101 1 = nI (cnd c) := (mcM_ne (by omega)).trans hR.2.1
    have g3 : (mcM c s i S).1 101 3 = nI (cns c) := (mcM_ne (by omega)).trans hR.2.2.2.1
    have g25 : (mcM c s i S).1 110 (15 + i) = nI (spi s i) := (mcM_ne (by omega)).trans (hs.2.1 i (by omega))
    have hp := hws.2.1 i (by omega)
    rw [q_X10_michaelmas_13]
    simp (disch := omega) only [fa_lit, g0, leN, show ¬ cnd c ≤ i from by omega, if_false, vin_t, if_true, nI_clamp, lne, not_false_eq_true, g3, g25, nI_add, m41]
    rw [show nI ((spi s i + cns c) % 41) = nI (nsp c s i) from rfl, mcM_s]
    exact ih (i + 1) m (by omega) (by omega)
theorem pr_michaelmas (hW : IW c s p im h t) (hC : IC c s p im h t tr S) (hM : IM c s p im h t tr S) : PRR p_X9_michaelmas p_X10_michaelmas S := by
  have hw := hW.1
  have hws := hW.2.1
  have w3 := hw.2.2.1
  refine deed (v := nI (cntB (cnd c) (miB c s))) (s' := smi c s (cnd c)) hW hC hM (smi_W hws _) (fun S1 e1 i1 i2 => ⟨mcC c s (cnd c) S1, ?_, mcC_R i2 _, fun a j q => mcC_ne (by omega), rfl⟩) (fun T T1 hT e1 i1 i2 => ⟨mcM c s (cnd c) T1, ?_, mcM_R hw i2 _ (Nat.le_refl _), fun a j q => mcM_ne (by omega), rfl⟩)
  · unfold p_X9_michaelmas
    rw [e1, Option.bind_some]
    have := mi_c hw hws i1 i2 (cnd c) 0 FU 0 (by omega) (FU_gt (by omega)) rfl
    rw [mcC_0] at this
    exact this
  · unfold p_X10_michaelmas
    rw [e1, Option.bind_some]
    have := mi_m hw hws i1 i2 (cnd c) 0 FU (by omega) (FU_gt (by omega))
    rw [mcM_0] at this
    refine this.trans ?_
    exact mi_m2 hw hws (i1.cg (fun a j q q' => mcM_ne (by omega))) (mcM_R hw i2 _ (Nat.le_refl _)) (cnd c) 0 FU 0 (by omega) (FU_gt (by omega)) rfl
theorem pr_undo (hW : IW c s p im h t) (hC : IC c s p im h t tr S) (hM : IM c s p im h t tr S) : PRR p_X9_undo p_X10_undo S := by
  have hw := hW.1
  have hp := hW.2.2.1.1
  by_cases e0 : p.1 = 0
  · obtain ⟨nx, hnx, n1, n2, n3⟩ := hC.2.2.1
    rw [e0] at n2
    refine prr hM hW (v := -nI 2) ⟨S, by unfold p_X9_undo; rw [n2, if_pos (show nI 0 = (0 : Int32) from rfl)]; rfl, hC, kC.rf S⟩ ?_
    (intro S1 hM1; have hT := hM1.th 0; refine ⟨_, ?_, hT, kM.sI (by decide)⟩; unfold p_X10_undo; generalize sI S1 99 0 (0 : Int32) = T at hT ⊢; obtain ⟨m1, m2, m3, m4, m5, m6, m7⟩ := hT)
    have t23 := m3.1
    rw [e0] at t23
    rw [t23, if_pos (show nI 0 = (0 : Int32) from rfl)]
    rfl
  · have hW' : IW c (p.2 (p.1 - 1)) (p.1 - 1, p.2) im h t := by
      obtain ⟨v1, v2, v3, v4, v5, v6⟩ := hW
      exact ⟨v1, v3.2 _ (by omega), ⟨by show p.1 - 1 ≤ 10; omega, fun i hi => v3.2 i (by have : i < p.1 - 1 := hi; omega)⟩, v4, v5, v6⟩
    obtain ⟨c1, c2, c3, c4, c5, c6, c7, c8⟩ := hC
    obtain ⟨nx, hnx, n1, n2, n3⟩ := c3
    obtain ⟨U, hU⟩ : ∃ U, U = sI (sI S 26 1 (nI ((nx + 9) % 10))) 26 2 (nI (p.1 - 1)) := ⟨_, rfl⟩
    have u26 : U.1 26 1 = nI ((nx + 9) % 10) := by rw [hU, sI_ne (by omega), sI_eq ⟨rfl, rfl⟩]
    have u262 : U.1 26 2 = nI (p.1 - 1) := by rw [hU, sI_eq ⟨rfl, rfl⟩]
    have uo : ∀ a j, a ≠ 26 → U.1 a j = S.1 a j := fun a j q => by rw [hU, sI_ne (by omega), sI_ne (by omega)]
    obtain ⟨S', e, f1, f2, f3⟩ := becomes (k0 := 21) (k1 := 28 + 5 * ((nx + 9) % 10)) U (by omega)
    refine prr hM hW' (v := nI (p.1 - 1)) (tr' := tr) ⟨S', ?_, ⟨?_, ?_, ?_, ?_, ?_, ?_, ?_, ?_⟩, ?_⟩ ?_
    · unfold p_X9_undo p_X6_bringBack
      have z : ¬ (nI p.1 = (0 : Int32)) := fun q => e0 ((nI_eq (by omega) (by decide)).mp (show nI p.1 = nI 0 from q))
      rw [n2, if_neg z, if_neg z, n1]
      simp (disch := omega) only [fa_lit, d10, sI_ne, n2, s10]
      rw [← hU]
      simp (disch := omega) only [lne, not_false_eq_true, if_true, u26, sI_eq, vin_t, nI_clamp, ll27, Option.bind_some, e]
      rw [f2 26 2 (by omega), u262]
    · exact c1.cg (fun a j q q' => by rw [f2 a j (by omega), uo a j (by omega)])
    · refine f1 _ _ hw ?_
      have := n3 (p.1 - 1) (by omega)
      rw [show (nx + 10 - p.1 + (p.1 - 1)) % 10 = (nx + 9) % 10 by omega] at this
      exact this.cg (fun a j q q' => uo a j (by omega))
    · refine ⟨(nx + 9) % 10, by omega, (f2 26 1 (by omega)).trans u26, (f2 26 2 (by omega)).trans u262, fun i hi => ?_⟩
      have hi' : i < p.1 - 1 := hi
      have := n3 i (by omega)
      show RS c (p.2 i) (28 + 5 * (((nx + 9) % 10 + 10 - (p.1 - 1) + i) % 10)) S'
      rw [show ((nx + 9) % 10 + 10 - (p.1 - 1) + i) % 10 = (nx + 10 - p.1 + i) % 10 by omega]
      exact this.cg (fun a j q q' => by rw [f2 a j (by omega), uo a j (by omega)])
    · exact c4.cg (fun a j q q' => by rw [f2 a j (by omega), uo a j (by omega)])
    · exact c5.cg (fun a j q q' => by rw [f2 a j (by omega), uo a j (by omega)])
    · exact c6.cg (fun j => by rw [f2 _ j (by omega), uo _ j (by omega)]) (by rw [f2 _ _ (by omega), uo _ _ (by omega)])
    · rw [f3, hU]; exact c7
    · rw [f2 _ _ (by omega), uo _ _ (by omega)]; exact c8
    · exact ⟨fun a j q => by rw [f2 a j (by omega), uo a j (by omega)], by rw [f3, hU]; rfl⟩
    · intro S1 hM1
      have hT := hM1.th 0
      obtain ⟨V, hV⟩ : ∃ V, V = sI (sI S1 99 0 0) 99 23 (nI (p.1 - 1)) := ⟨_, rfl⟩
      have kV : kM S1 V := by rw [hV]; exact (kM.sI (by decide)).tr (kM.sI (by decide))
      have loop : ∀ (k i n : Nat), i + k = 25 → k < n → q_X10_undo_27 n (nI i) (crw 110 0 113 (25 * (p.1 - 1)) i V) = some (nI (p.1 - 1), crw 110 0 113 (25 * (p.1 - 1)) 25 V) := by
        have g : ∀ i, (crw 110 0 113 (25 * (p.1 - 1)) i V).1 99 23 = nI (p.1 - 1) := fun i => (crw_ne (by omega)).trans (by rw [hV]; exact sI_eq ⟨rfl, rfl⟩)
        intro k
        induction k with
        | zero =>
          intro i n hi hn
          obtain ⟨m, rfl⟩ : ∃ m, n = m + 1 := ⟨n - 1, by omega⟩
          rw [q_X10_undo_27, show i = 25 by omega]
          simp (disch := omega) only [fa_lit, Int32.le_refl, if_true, g]
        | succ k ih =>
          intro i n hi hn
          obtain ⟨m, rfl⟩ : ∃ m, n = m + 1 := ⟨n - 1, by omega⟩
          rw [q_X10_undo_27]
          have e1 : (crw 110 0 113 (25 * (p.1 - 1)) i V).1 113 (25 * (p.1 - 1) + i) = V.1 113 (25 * (p.1 - 1) + i) := crw_ne (by omega)
          have e2 := crw_s (a0 := 110) (o0 := 0) (a1 := 113) (o1 := 25 * (p.1 - 1)) (n := i) (S := V)
          rw [Nat.zero_add] at e2
          simp (disch := omega) only [fa_lit, leN, show ¬ 25 ≤ i from by omega, if_false, vin_t, if_true, nI_clamp, nI_add, g, mulN, e1]
          rw [e2]
          exact ih (i + 1) m (by omega) (by omega)
      have l := loop 25 0 FU (by omega) (FU_gt (by decide))
      rw [crw_0] at l
      refine ⟨crw 110 0 113 (25 * (p.1 - 1)) 25 V, ?_, ?_, kV.tr ⟨fun a j q => crw_ne (by omega), rfl⟩⟩
      · unfold p_X10_undo
        rw [hV] at l ⊢
        generalize sI S1 99 0 (0 : Int32) = T at hT l ⊢
        have z : ¬ (nI p.1 = (0 : Int32)) := fun q => e0 ((nI_eq (by omega) (by decide)).mp (show nI p.1 = nI 0 from q))
        rw [hT.2.2.1.1, if_neg z]
        rw [show nI p.1 - (1 : Int32) = nI (p.1 - 1) from nI_subN (b := 1) (by omega)]
        exact l
      · have hV2 : ∀ a j, ¬ (a = 99 ∧ j = 23) → V.1 a j = (sI S1 99 0 0).1 a j := fun a j q => by rw [hV]; exact sI_ne (by omega)
        have hV9 : V.2 = (sI S1 99 0 0).2 := by rw [hV]; rfl
        have h23 : V.1 99 23 = nI (p.1 - 1) := by rw [hV]; exact sI_eq ⟨rfl, rfl⟩
        generalize sI S1 99 0 (0 : Int32) = T at hT hV2 hV9
        obtain ⟨m1, m2, m3, m4, m5, m6, m7⟩ := hT
        have ne : ∀ a j, a ≠ 110 → ¬ (a = 99 ∧ j = 23) → (crw 110 0 113 (25 * (p.1 - 1)) 25 V).1 a j = T.1 a j := fun a j q q' => by rw [crw_ne (by omega), hV2 a j q']
        refine ⟨m1.cg (fun a j q q' => ne a j (by omega) (by omega)), ?_, ⟨(crw_ne (by omega)).trans h23, fun i hi => ?_⟩, m4.cg (fun a j q q' => ne a j (by omega) (by omega)), m5.cg (ne _ _ (by omega) (by omega)) (fun a j q q' => ne a j (by omega) (by omega)), m6.cg (ne _ _ (by omega) (by omega)) (fun j => ne _ j (by omega) (by omega)), ?_⟩
        · refine (m3.2 (p.1 - 1) (by omega)).at_ hw (fun j hj => ?_)
          have := crw_in (a0 := 110) (o0 := 0) (a1 := 113) (o1 := 25 * (p.1 - 1)) (n := 25) (S := V) hj
          rw [Nat.zero_add] at this
          rw [this, hV2 _ _ (by omega)]
        · have hi' : i < p.1 - 1 := hi
          refine (m3.2 i (by omega)).at_ hw (fun j hj => ?_)
          exact ne _ _ (by omega) (by omega)
        · show V.2 99 = tr
          rw [hV9]; exact m7
end MI2
