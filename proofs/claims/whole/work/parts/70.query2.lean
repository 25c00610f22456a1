-- QUESTIONS, ON
section QV
variable {c : Cty} {s : Sce} {p : Pst} {im : Img} {h : Hea} {t : Txt} {tr : Int64} {S : St}
theorem pr_boy (hW : IW c s p im h t) (hC : IC c s p im h t tr S) (hM : IM c s p im h t tr S) (x y : Int32) : PRR (p_X9_boy x y) (p_X10_boy x y) S := by
  have hR := hC.1
  have hs := hC.2.1
  have hw := hW.1
  have hws := hW.2.1
  have w3 := hw.2.2.1
  have w4 := hw.2.2.2.1
  rcases inb_n (n := cnb c) (by omega) x with ⟨b, hb, rfl, hx⟩ | hx
  · obtain ⟨r7, r8, r10, r11⟩ := hR.2.2.2.2.2 b hb
    have r22 : S.1 22 b = nI (spl s b) := (hs.1 b hb).1
    have r23 : S.1 23 b = sag s b := (hs.1 b hb).2.1
    have r24 : S.1 24 b = sco s b := (hs.1 b hb).2.2
    have c0 : p_X1_lowest (nI b) (nI 0) S = some (lwv (clo c b) (cbr c b) (sag s b), S) := (xc_lowest hw hR hs hb 0).trans (by rw [lwy_0])
    have c1 : p_X1_highest (nI b) (nI 0) S = some (hgv (chi c b) (cbr c b) (sag s b) (sco s b), S) := (xc_highest hw hR hs hb 0).trans (by rw [hgy_0])
    have c7 := xc_keys0 hw hws hR hs hb
    have c8 : p_X1_reach (nI b) (nI 0) S = some (nI (rch c (kn c s b) (spl s b)), S) := xc_reach hw hws hR hs hb 0
    have c9 := xc_shutOut hw hws hR hs hb
    have hk := kn_lt c s b hw
    rcases inb_le (n := 9) (by decide) y with ⟨k, hk9, rfl, hy⟩ | ⟨hy, hne⟩
    · have hk5 : k = 0 ∨ k = 1 ∨ k = 2 ∨ k = 3 ∨ k = 4 ∨ k = 5 ∨ k = 6 ∨ k = 7 ∨ k = 8 ∨ k = 9 := by omega
      rcases hk5 with rfl | rfl | rfl | rfl | rfl | rfl | rfl | rfl | rfl | rfl
      all_goals
        refine prr hM hW ⟨S, by unfold p_X9_boy; simp (disch := omega) only [fa_lit, nI_add, nI_clamp, vin_t, if_true, if_false, Option.bind_some, nI_bZ, Nat.zero_add, Bool.true_eq_false, Bool.false_eq_true, inb_if, inb_m, lne, lle, lnle, eq_self, xc_isBoy hR, xc_isDoor hR, hx, r22, r23, r24, r10, r11, c0, c1, c7, c8, c9]; rfl, hC, kC.rf S⟩ ?_
        (intro S1 hM1; have hT := hM1.th 0; refine ⟨_, ?_, hT, kM.sI (by decide)⟩; unfold p_X10_boy; generalize sI S1 99 0 (0 : Int32) = T at hT ⊢; obtain ⟨m1, m2, m3, m4, m5, m6, m7⟩ := hT)
        obtain ⟨t5, t6, t8, t9⟩ := m1.2.2.2.2.2 b hb
        obtain ⟨u1, u2, u3⟩ := m2.1 b hb
        simp (disch := omega) only [fa_lit, nI_add, nI_clamp, vin_t, if_true, if_false, Option.bind_some, nI_bZ, Nat.zero_add, Bool.true_eq_false, Bool.false_eq_true, inb_if, inb_m, lne, lle, lnle, eq_self, xm_isBoy m1, xm_isDoor m1, xm_isPlace m1, hx, hy, t5, t6, t8, t9, u1, u2, u3, xm_lowest hw m1 hb, xm_highest hw m1 hb, xm_keys hw hws m1 m2 hb, xm_reachBy hw hws m1 m2 hb hk, xm_shutOf hw hws m1 m2 hb]
    · have n0 : (y = nI 0) = False := eq_false (hne 0 (by decide))
      have n1 : (y = nI 1) = False := eq_false (hne 1 (by decide))
      have n2 : (y = nI 2) = False := eq_false (hne 2 (by decide))
      have n3 : (y = nI 3) = False := eq_false (hne 3 (by decide))
      have n4 : (y = nI 4) = False := eq_false (hne 4 (by decide))
      have n5 : (y = nI 5) = False := eq_false (hne 5 (by decide))
      have n6 : (y = nI 6) = False := eq_false (hne 6 (by decide))
      have n7 : (y = nI 7) = False := eq_false (hne 7 (by decide))
      have n8 : (y = nI 8) = False := eq_false (hne 8 (by decide))
      have n9 : (y = nI 9) = False := eq_false (hne 9 (by decide))
      refine prr hM hW ⟨S, by unfold p_X9_boy; simp (disch := omega) only [fa_lit, nI_add, nI_clamp, vin_t, if_true, if_false, Option.bind_some, nI_bZ, Nat.zero_add, Bool.true_eq_false, Bool.false_eq_true, inb_if, inb_m, lne, lle, lnle, eq_self, xc_isBoy hR, xc_isDoor hR, hx, n0, n1, n2, n3, n4, n5, n6, n7, n8, n9]; rfl, hC, kC.rf S⟩ ?_
      (intro S1 hM1; have hT := hM1.th 0; refine ⟨_, ?_, hT, kM.sI (by decide)⟩; unfold p_X10_boy; generalize sI S1 99 0 (0 : Int32) = T at hT ⊢; obtain ⟨m1, m2, m3, m4, m5, m6, m7⟩ := hT)
      simp (disch := omega) only [fa_lit, nI_add, nI_clamp, vin_t, if_true, if_false, Option.bind_some, nI_bZ, Nat.zero_add, Bool.true_eq_false, Bool.false_eq_true, inb_if, inb_m, lne, lle, lnle, eq_self, xm_isBoy m1, xm_isDoor m1, xm_isPlace m1, hx, hy]
  · refine prr hM hW ⟨S, by unfold p_X9_boy; simp (disch := omega) only [fa_lit, nI_add, nI_clamp, vin_t, if_true, if_false, Option.bind_some, nI_bZ, Nat.zero_add, Bool.true_eq_false, Bool.false_eq_true, inb_if, inb_m, lne, lle, lnle, eq_self, xc_isBoy hR, xc_isDoor hR, hx]; rfl, hC, kC.rf S⟩ ?_
    (intro S1 hM1; have hT := hM1.th 0; refine ⟨_, ?_, hT, kM.sI (by decide)⟩; unfold p_X10_boy; generalize sI S1 99 0 (0 : Int32) = T at hT ⊢; obtain ⟨m1, m2, m3, m4, m5, m6, m7⟩ := hT)
    simp (disch := omega) only [fa_lit, nI_add, nI_clamp, vin_t, if_true, if_false, Option.bind_some, nI_bZ, Nat.zero_add, Bool.true_eq_false, Bool.false_eq_true, inb_if, inb_m, lne, lle, lnle, eq_self, xm_isBoy m1, xm_isDoor m1, xm_isPlace m1, hx]
theorem pr_way (hW : IW c s p im h t) (hC : IC c s p im h t tr S) (hM : IM c s p im h t tr S) (x y : Int32) : PRR (p_X9_way x y) (p_X10_way x y) S := by
  have hR := hC.1
  have hs := hC.2.1
  have hw := hW.1
  have hws := hW.2.1
  have w2 := hw.2.1
  have w4 := hw.2.2.2.1
  rcases inb_n (n := cnb c) (by omega) x with ⟨b, hb, rfl, hx⟩ | hx
  · rcases inb_n (n := cnp c) (by omega) y with ⟨q, hq, rfl, hy⟩ | hy
    · refine prr hM hW ⟨S, by unfold p_X9_way; simp (disch := omega) only [fa_lit, nI_add, nI_clamp, vin_t, if_true, if_false, Option.bind_some, nI_bZ, Nat.zero_add, Bool.true_eq_false, Bool.false_eq_true, inb_if, inb_m, lne, lle, lnle, eq_self, xc_isBoy hR, xc_isDoor hR, hx, hR.1, hy, xc_fewestDoors hw hws hR hs hb hq]; rfl, hC, kC.rf S⟩ ?_
      (intro S1 hM1; have hT := hM1.th 0; refine ⟨_, ?_, hT, kM.sI (by decide)⟩; unfold p_X10_way; generalize sI S1 99 0 (0 : Int32) = T at hT ⊢; obtain ⟨m1, m2, m3, m4, m5, m6, m7⟩ := hT)
      have u1 := (m2.1 b hb).1
      have u2 := hws.1 b hb
      have u3 : 2 ^ spl s b < 2 ^ 8 := two_lt (by omega)
      simp (disch := omega) only [fa_lit, nI_add, nI_clamp, vin_t, if_true, if_false, Option.bind_some, nI_bZ, Nat.zero_add, Bool.true_eq_false, Bool.false_eq_true, inb_if, inb_m, lne, lle, lnle, eq_self, xm_isBoy m1, xm_isDoor m1, xm_isPlace m1, hx, hy, u1, shlN]
      exact xm_wayq hw hws m1 m2 hb (by omega) 8 0 FU (2 ^ spl s b) (by decide) (FU_gt (by decide)) u3
    · refine prr hM hW ⟨S, by unfold p_X9_way; simp (disch := omega) only [fa_lit, nI_add, nI_clamp, vin_t, if_true, if_false, Option.bind_some, nI_bZ, Nat.zero_add, Bool.true_eq_false, Bool.false_eq_true, inb_if, inb_m, lne, lle, lnle, eq_self, xc_isBoy hR, xc_isDoor hR, hx, hR.1, hy]; rfl, hC, kC.rf S⟩ ?_
      (intro S1 hM1; have hT := hM1.th 0; refine ⟨_, ?_, hT, kM.sI (by decide)⟩; unfold p_X10_way; generalize sI S1 99 0 (0 : Int32) = T at hT ⊢; obtain ⟨m1, m2, m3, m4, m5, m6, m7⟩ := hT)
      simp (disch := omega) only [fa_lit, nI_add, nI_clamp, vin_t, if_true, if_false, Option.bind_some, nI_bZ, Nat.zero_add, Bool.true_eq_false, Bool.false_eq_true, inb_if, inb_m, lne, lle, lnle, eq_self, xm_isBoy m1, xm_isDoor m1, xm_isPlace m1, hx, hy]
  · refine prr hM hW ⟨S, by unfold p_X9_way; simp (disch := omega) only [fa_lit, nI_add, nI_clamp, vin_t, if_true, if_false, Option.bind_some, nI_bZ, Nat.zero_add, Bool.true_eq_false, Bool.false_eq_true, inb_if, inb_m, lne, lle, lnle, eq_self, xc_isBoy hR, xc_isDoor hR, hx]; rfl, hC, kC.rf S⟩ ?_
    (intro S1 hM1; have hT := hM1.th 0; refine ⟨_, ?_, hT, kM.sI (by decide)⟩; unfold p_X10_way; generalize sI S1 99 0 (0 : Int32) = T at hT ⊢; obtain ⟨m1, m2, m3, m4, m5, m6, m7⟩ := hT)
    simp (disch := omega) only [fa_lit, nI_add, nI_clamp, vin_t, if_true, if_false, Option.bind_some, nI_bZ, Nat.zero_add, Bool.true_eq_false, Bool.false_eq_true, inb_if, inb_m, lne, lle, lnle, eq_self, xm_isBoy m1, xm_isDoor m1, xm_isPlace m1, hx]
theorem pr_tune (hW : IW c s p im h t) (hC : IC c s p im h t tr S) (hM : IM c s p im h t tr S) (x : Int32) : PRR (p_X9_tune x) (p_X10_tune x) S := by
  have hR := hC.1
  have hs := hC.2.1
  have hw := hW.1
  have hws := hW.2.1
  have w4 := hw.2.2.2.1
  have hp : 2 ^ cnb c ≤ 2 ^ 5 := two_le w4
  rcases inb_le (n := 2 ^ cnb c - 1) (by omega) x with ⟨a, ha, rfl, hx⟩ | ⟨hx, _⟩
  · refine prr hM hW ⟨S, by unfold p_X9_tune; simp (disch := omega) only [fa_lit, nI_add, nI_clamp, vin_t, if_true, if_false, Option.bind_some, nI_bZ, Nat.zero_add, Bool.true_eq_false, Bool.false_eq_true, inb_if, inb_m, lne, lle, lnle, eq_self, xc_isBoy hR, xc_isDoor hR, hR.2.2.1, all_bits, hx, xc_tune hw hR hs (show a < 32 by omega)]; rfl, hC, kC.rf S⟩ ?_
    (intro S1 hM1; have hT := hM1.th 0; refine ⟨_, ?_, hT, kM.sI (by decide)⟩; unfold p_X10_tune; generalize sI S1 99 0 (0 : Int32) = T at hT ⊢; obtain ⟨m1, m2, m3, m4, m5, m6, m7⟩ := hT)
    simp (disch := omega) only [fa_lit, nI_add, nI_clamp, vin_t, if_true, if_false, Option.bind_some, nI_bZ, Nat.zero_add, Bool.true_eq_false, Bool.false_eq_true, inb_if, inb_m, lne, lle, lnle, eq_self, xm_isBoy m1, xm_isDoor m1, xm_isPlace m1, m1.2.2.1, all_bits, hx]
    exact xm_tuneq hw m1 m2 (by omega) 41 0 FU (by decide) (FU_gt (by decide))
  · refine prr hM hW ⟨S, by unfold p_X9_tune; simp (disch := omega) only [fa_lit, nI_add, nI_clamp, vin_t, if_true, if_false, Option.bind_some, nI_bZ, Nat.zero_add, Bool.true_eq_false, Bool.false_eq_true, inb_if, inb_m, lne, lle, lnle, eq_self, xc_isBoy hR, xc_isDoor hR, hR.2.2.1, all_bits, hx]; rfl, hC, kC.rf S⟩ ?_
    (intro S1 hM1; have hT := hM1.th 0; refine ⟨_, ?_, hT, kM.sI (by decide)⟩; unfold p_X10_tune; generalize sI S1 99 0 (0 : Int32) = T at hT ⊢; obtain ⟨m1, m2, m3, m4, m5, m6, m7⟩ := hT)
    simp (disch := omega) only [fa_lit, nI_add, nI_clamp, vin_t, if_true, if_false, Option.bind_some, nI_bZ, Nat.zero_add, Bool.true_eq_false, Bool.false_eq_true, inb_if, inb_m, lne, lle, lnle, eq_self, xm_isBoy m1, xm_isDoor m1, xm_isPlace m1, m1.2.2.1, all_bits, hx]
theorem pr_thirds (hW : IW c s p im h t) (hC : IC c s p im h t tr S) (hM : IM c s p im h t tr S) (x y : Int32) : PRR (p_X9_thirds x y) (p_X10_thirds x y) S := by
  have hR := hC.1
  have hs := hC.2.1
  have hw := hW.1
  have hws := hW.2.1
  have w4 := hw.2.2.2.1
  rcases inb_n (n := cnb c) (by omega) x with ⟨a, ha, rfl, hx⟩ | hx
  · rcases inb_n (n := cnb c) (by omega) y with ⟨b, hb, rfl, hy⟩ | hy
    · by_cases e : a = b
      · subst e
        refine prr hM hW ⟨S, by unfold p_X9_thirds; simp (disch := omega) only [fa_lit, nI_add, nI_clamp, vin_t, if_true, if_false, Option.bind_some, nI_bZ, Nat.zero_add, Bool.true_eq_false, Bool.false_eq_true, inb_if, inb_m, lne, lle, lnle, eq_self, xc_isBoy hR, xc_isDoor hR, hx]; rfl, hC, kC.rf S⟩ ?_
        (intro S1 hM1; have hT := hM1.th 0; refine ⟨_, ?_, hT, kM.sI (by decide)⟩; unfold p_X10_thirds; generalize sI S1 99 0 (0 : Int32) = T at hT ⊢; obtain ⟨m1, m2, m3, m4, m5, m6, m7⟩ := hT)
        simp (disch := omega) only [fa_lit, nI_add, nI_clamp, vin_t, if_true, if_false, Option.bind_some, nI_bZ, Nat.zero_add, Bool.true_eq_false, Bool.false_eq_true, inb_if, inb_m, lne, lle, lnle, eq_self, xm_isBoy m1, xm_isDoor m1, xm_isPlace m1, hx]
      · refine prr hM hW ⟨S, by unfold p_X9_thirds; simp (disch := omega) only [fa_lit, nI_add, nI_clamp, vin_t, if_true, if_false, Option.bind_some, nI_bZ, Nat.zero_add, Bool.true_eq_false, Bool.false_eq_true, inb_if, inb_m, lne, lle, lnle, eq_self, xc_isBoy hR, xc_isDoor hR, hx, hy, xc_thirds hw hws hR hs ha hb]; rfl, hC, kC.rf S⟩ ?_
        (intro S1 hM1; have hT := hM1.th 0; refine ⟨_, ?_, hT, kM.sI (by decide)⟩; unfold p_X10_thirds; generalize sI S1 99 0 (0 : Int32) = T at hT ⊢; obtain ⟨m1, m2, m3, m4, m5, m6, m7⟩ := hT)
        simp (disch := omega) only [fa_lit, nI_add, nI_clamp, vin_t, if_true, if_false, Option.bind_some, nI_bZ, Nat.zero_add, Bool.true_eq_false, Bool.false_eq_true, inb_if, inb_m, lne, lle, lnle, eq_self, xm_isBoy m1, xm_isDoor m1, xm_isPlace m1, hx, hy, xm_thirdsq hw hws m1 m2 ha hb]
    · refine prr hM hW ⟨S, by unfold p_X9_thirds; simp (disch := omega) only [fa_lit, nI_add, nI_clamp, vin_t, if_true, if_false, Option.bind_some, nI_bZ, Nat.zero_add, Bool.true_eq_false, Bool.false_eq_true, inb_if, inb_m, lne, lle, lnle, eq_self, xc_isBoy hR, xc_isDoor hR, hx, hy]; rfl, hC, kC.rf S⟩ ?_
      (intro S1 hM1; have hT := hM1.th 0; refine ⟨_, ?_, hT, kM.sI (by decide)⟩; unfold p_X10_thirds; generalize sI S1 99 0 (0 : Int32) = T at hT ⊢; obtain ⟨m1, m2, m3, m4, m5, m6, m7⟩ := hT)
      simp (disch := omega) only [fa_lit, nI_add, nI_clamp, vin_t, if_true, if_false, Option.bind_some, nI_bZ, Nat.zero_add, Bool.true_eq_false, Bool.false_eq_true, inb_if, inb_m, lne, lle, lnle, eq_self, xm_isBoy m1, xm_isDoor m1, xm_isPlace m1, hx, hy]
  · refine prr hM hW ⟨S, by unfold p_X9_thirds; simp (disch := omega) only [fa_lit, nI_add, nI_clamp, vin_t, if_true, if_false, Option.bind_some, nI_bZ, Nat.zero_add, Bool.true_eq_false, Bool.false_eq_true, inb_if, inb_m, lne, lle, lnle, eq_self, xc_isBoy hR, xc_isDoor hR, hx]; rfl, hC, kC.rf S⟩ ?_
    (intro S1 hM1; have hT := hM1.th 0; refine ⟨_, ?_, hT, kM.sI (by decide)⟩; unfold p_X10_thirds; generalize sI S1 99 0 (0 : Int32) = T at hT ⊢; obtain ⟨m1, m2, m3, m4, m5, m6, m7⟩ := hT)
    simp (disch := omega) only [fa_lit, nI_add, nI_clamp, vin_t, if_true, if_false, Option.bind_some, nI_bZ, Nat.zero_add, Bool.true_eq_false, Bool.false_eq_true, inb_if, inb_m, lne, lle, lnle, eq_self, xm_isBoy m1, xm_isDoor m1, xm_isPlace m1, hx]
theorem mx_C (hC : IC c s p im h t tr S) (T : St) : IC c s p im h t tr (mx true S T) := hC.cg (fun a j q => mx_else true S T ⟨q.2.1, q.2.2.1⟩) rfl
theorem mx_k (S T : St) : kC S (mx true S T) := ⟨fun a j q => mx_else true S T ⟨by omega, by omega⟩, rfl⟩
theorem pr_odds (hW : IW c s p im h t) (hC : IC c s p im h t tr S) (hM : IM c s p im h t tr S) (x y z : Int32) : PRR (p_X9_odds x y z) (p_X10_odds x y z) S := by
  have hR := hC.1
  have hs := hC.2.1
  have hw := hW.1
  have w4 := hw.2.2.2.1
  rcases inb_le (n := 10) (by decide) x with ⟨a, ha, rfl, hx⟩ | ⟨hx, _⟩
  · rcases inb_le (n := 5) (by decide) y with ⟨b, hb, rfl, hy⟩ | ⟨hy, _⟩
    · rcases inb_le (n := 1) (by decide) z with ⟨d, hd, rfl, hz⟩ | ⟨hz, _⟩
      · have hu := ubN_le c s
        obtain ⟨T, o1, o2, o3⟩ := odds_same (n := ubN c s) (x := a) (k := b) (by omega) (by omega) (by omega)
        have hd2 : d = 0 ∨ d = 1 := by omega
        rcases hd2 with rfl | rfl
        · refine prr hM hW ⟨mx true S T, by unfold p_X9_odds; simp (disch := omega) only [fa_lit, nI_add, nI_clamp, vin_t, if_true, if_false, Option.bind_some, nI_bZ, Nat.zero_add, Bool.true_eq_false, Bool.false_eq_true, inb_if, inb_m, lne, lle, lnle, eq_self, xc_isBoy hR, xc_isDoor hR, hx, hy, hz, xc_unbroken hw hR hs, o1, mx_931]; rfl, mx_C hC T, mx_k S T⟩ ?_
          (intro S1 hM1; have hT := hM1.th 0; refine ⟨_, ?_, hT, kM.sI (by decide)⟩; unfold p_X10_odds; generalize sI S1 99 0 (0 : Int32) = T at hT ⊢; obtain ⟨m1, m2, m3, m4, m5, m6, m7⟩ := hT)
          simp (disch := omega) only [fa_lit, nI_add, nI_clamp, vin_t, if_true, if_false, Option.bind_some, nI_bZ, Nat.zero_add, Bool.true_eq_false, Bool.false_eq_true, inb_if, inb_m, lne, lle, lnle, eq_self, xm_isBoy m1, xm_isDoor m1, xm_isPlace m1, hx, hy, hz, xm_unbroken hw m1 m2, o2]
        · refine prr hM hW ⟨mx true S T, by unfold p_X9_odds; simp (disch := omega) only [fa_lit, nI_add, nI_clamp, vin_t, if_true, if_false, Option.bind_some, nI_bZ, Nat.zero_add, Bool.true_eq_false, Bool.false_eq_true, inb_if, inb_m, lne, lle, lnle, eq_self, xc_isBoy hR, xc_isDoor hR, hx, hy, hz, xc_unbroken hw hR hs, o1, mx_932]; rfl, mx_C hC T, mx_k S T⟩ ?_
          (intro S1 hM1; have hT := hM1.th 0; refine ⟨_, ?_, hT, kM.sI (by decide)⟩; unfold p_X10_odds; generalize sI S1 99 0 (0 : Int32) = T at hT ⊢; obtain ⟨m1, m2, m3, m4, m5, m6, m7⟩ := hT)
          simp (disch := omega) only [fa_lit, nI_add, nI_clamp, vin_t, if_true, if_false, Option.bind_some, nI_bZ, Nat.zero_add, Bool.true_eq_false, Bool.false_eq_true, inb_if, inb_m, lne, lle, lnle, eq_self, xm_isBoy m1, xm_isDoor m1, xm_isPlace m1, hx, hy, hz, xm_unbroken hw m1 m2, o3]
      · refine prr hM hW ⟨S, by unfold p_X9_odds; simp (disch := omega) only [fa_lit, nI_add, nI_clamp, vin_t, if_true, if_false, Option.bind_some, nI_bZ, Nat.zero_add, Bool.true_eq_false, Bool.false_eq_true, inb_if, inb_m, lne, lle, lnle, eq_self, xc_isBoy hR, xc_isDoor hR, hx, hy, hz]; rfl, hC, kC.rf S⟩ ?_
        (intro S1 hM1; have hT := hM1.th 0; refine ⟨_, ?_, hT, kM.sI (by decide)⟩; unfold p_X10_odds; generalize sI S1 99 0 (0 : Int32) = T at hT ⊢; obtain ⟨m1, m2, m3, m4, m5, m6, m7⟩ := hT)
        simp (disch := omega) only [fa_lit, nI_add, nI_clamp, vin_t, if_true, if_false, Option.bind_some, nI_bZ, Nat.zero_add, Bool.true_eq_false, Bool.false_eq_true, inb_if, inb_m, lne, lle, lnle, eq_self, xm_isBoy m1, xm_isDoor m1, xm_isPlace m1, hx, hy, hz]
    · refine prr hM hW ⟨S, by unfold p_X9_odds; simp (disch := omega) only [fa_lit, nI_add, nI_clamp, vin_t, if_true, if_false, Option.bind_some, nI_bZ, Nat.zero_add, Bool.true_eq_false, Bool.false_eq_true, inb_if, inb_m, lne, lle, lnle, eq_self, xc_isBoy hR, xc_isDoor hR, hx, hy]; rfl, hC, kC.rf S⟩ ?_
      (intro S1 hM1; have hT := hM1.th 0; refine ⟨_, ?_, hT, kM.sI (by decide)⟩; unfold p_X10_odds; generalize sI S1 99 0 (0 : Int32) = T at hT ⊢; obtain ⟨m1, m2, m3, m4, m5, m6, m7⟩ := hT)
      simp (disch := omega) only [fa_lit, nI_add, nI_clamp, vin_t, if_true, if_false, Option.bind_some, nI_bZ, Nat.zero_add, Bool.true_eq_false, Bool.false_eq_true, inb_if, inb_m, lne, lle, lnle, eq_self, xm_isBoy m1, xm_isDoor m1, xm_isPlace m1, hx, hy]
  · refine prr hM hW ⟨S, by unfold p_X9_odds; simp (disch := omega) only [fa_lit, nI_add, nI_clamp, vin_t, if_true, if_false, Option.bind_some, nI_bZ, Nat.zero_add, Bool.true_eq_false, Bool.false_eq_true, inb_if, inb_m, lne, lle, lnle, eq_self, xc_isBoy hR, xc_isDoor hR, hx]; rfl, hC, kC.rf S⟩ ?_
    (intro S1 hM1; have hT := hM1.th 0; refine ⟨_, ?_, hT, kM.sI (by decide)⟩; unfold p_X10_odds; generalize sI S1 99 0 (0 : Int32) = T at hT ⊢; obtain ⟨m1, m2, m3, m4, m5, m6, m7⟩ := hT)
    simp (disch := omega) only [fa_lit, nI_add, nI_clamp, vin_t, if_true, if_false, Option.bind_some, nI_bZ, Nat.zero_add, Bool.true_eq_false, Bool.false_eq_true, inb_if, inb_m, lne, lle, lnle, eq_self, xm_isBoy m1, xm_isDoor m1, xm_isPlace m1, hx]
theorem pr_who (hW : IW c s p im h t) (hC : IC c s p im h t tr S) (hM : IM c s p im h t tr S) : PRR p_X9_who p_X10_who S := by
  have hR := hC.1
  have hs := hC.2.1
  have hw := hW.1
  have hws := hW.2.1
  have hwh := hW.2.2.2.2.1
  refine prr hM hW ⟨S, by unfold p_X9_who; simp only [xc_suspects hw hws hwh hR hs hC.2.2.2.2.1, Option.bind_some]; rfl, hC, kC.rf S⟩ ?_
  (intro S1 hM1; have hT := hM1.th 0; refine ⟨_, ?_, hT, kM.sI (by decide)⟩; unfold p_X10_who; generalize sI S1 99 0 (0 : Int32) = T at hT ⊢; obtain ⟨m1, m2, m3, m4, m5, m6, m7⟩ := hT)
  simp only [xm_whoCan hw hws hwh m1 m2 m5, Option.bind_some]
theorem pr_ask (hW : IW c s p im h t) (hC : IC c s p im h t tr S) (hM : IM c s p im h t tr S) : PRR p_X9_ask p_X10_ask S := by
  have hR := hC.1
  have hs := hC.2.1
  have hw := hW.1
  have hws := hW.2.1
  have hwh := hW.2.2.2.2.1
  have hl := whN_lt c s h hw
  refine prr hM hW ⟨S, by unfold p_X9_ask; rw [xc_suspects hw hws hwh hR hs hC.2.2.2.2.1, Option.bind_some, xc_best hw hws hR hs hl, Option.bind_some], hC, kC.rf S⟩ ?_
  (intro S1 hM1; have hT := hM1.th 0; refine ⟨_, ?_, hT, kM.sI (by decide)⟩; unfold p_X10_ask; generalize sI S1 99 0 (0 : Int32) = T at hT ⊢; obtain ⟨m1, m2, m3, m4, m5, m6, m7⟩ := hT)
  rw [xm_whoCan hw hws hwh m1 m2 m5, Option.bind_some, ones (Nat.lt_of_lt_of_le hl (by decide)), Option.bind_some]
  exact xm_ask hw hws m1 m2 hl
theorem pr_forget (hW : IW c s p im h t) (hC : IC c s p im h t tr S) (hM : IM c s p im h t tr S) : PRR p_X9_forget p_X10_forget S := by
  obtain ⟨c1, c2, c3, c4, c5, c6, c7, c8⟩ := hC
  obtain ⟨v1, v2, v3, v4, v5, v6⟩ := hW
  have hW' : IW c s p im (0, h.2) t := ⟨v1, v2, v3, v4, ⟨Nat.zero_le 6, fun i hi => absurd hi (Nat.not_lt_zero i)⟩, v6⟩
  refine prr hM hW' (tr' := tr) ⟨sI S 95 3 0, by unfold p_X9_forget; rw [c5.1], ⟨c1.cg (fun a j q q' => sI_ne (by omega)), c2.cg (fun a j q q' => sI_ne (by omega)), c3.cg (fun a j q q' => sI_ne (by omega)), c4.cg (fun a j q q' => sI_ne (by omega)), ⟨sI_eq ⟨rfl, rfl⟩, fun i hi => absurd hi (Nat.not_lt_zero i)⟩, c6.cg (fun j => sI_ne (by omega)) (sI_ne (by omega)), c7, (sI_ne (by omega)).trans c8⟩, kC.sI (by decide)⟩ ?_
  intro S1 hM1
  have hT := hM1.th 0
  refine ⟨sI (sI S1 99 0 0) 99 26 0, ?_, ?_, (kM.sI (by decide)).tr (kM.sI (by decide))⟩
  · unfold p_X10_forget
    generalize sI S1 99 0 (0 : Int32) = T at hT ⊢
    rw [hT.2.2.2.2.1.1]
  · generalize sI S1 99 0 (0 : Int32) = T at hT ⊢
    obtain ⟨m1, m2, m3, m4, m5, m6, m7⟩ := hT
    exact ⟨m1.cg (fun a j q q' => sI_ne (by omega)), m2.cg (fun j => sI_ne (by omega)), m3.cg (sI_ne (by omega)) (fun j => sI_ne (by omega)), m4.cg (fun a j q q' => sI_ne (by omega)), ⟨sI_eq ⟨rfl, rfl⟩, fun i hi => absurd hi (Nat.not_lt_zero i)⟩, m6.cg (sI_ne (by omega)) (fun j => sI_ne (by omega)), m7⟩
theorem pr_count (hW : IW c s p im h t) (hC : IC c s p im h t tr S) (hM : IM c s p im h t tr S) (x : Int32) : PRR (p_X9_count x) (p_X10_count x) S := by
  have hR := hC.1
  have c5 := hC.2.2.2.2.1.1
  have c6 := hC.2.2.2.2.2.1.1
  rcases inb_le (n := 3) (by decide) x with ⟨k, hk, rfl, hx⟩ | ⟨hx, hne⟩
  · have hk5 : k = 0 ∨ k = 1 ∨ k = 2 ∨ k = 3 := by omega
    rcases hk5 with rfl | rfl | rfl | rfl
    all_goals
      refine prr hM hW ⟨S, by unfold p_X9_count; simp (disch := omega) only [fa_lit, nI_add, nI_clamp, vin_t, if_true, if_false, Option.bind_some, nI_bZ, Nat.zero_add, Bool.true_eq_false, Bool.false_eq_true, inb_if, inb_m, lne, lle, lnle, eq_self, xc_isBoy hR, xc_isDoor hR, hR.1, hR.2.1, hR.2.2.1, hR.2.2.2.1]; rfl, hC, kC.rf S⟩ ?_
      (intro S1 hM1; have hT := hM1.th 0; refine ⟨_, ?_, hT, kM.sI (by decide)⟩; unfold p_X10_count; generalize sI S1 99 0 (0 : Int32) = T at hT ⊢; obtain ⟨m1, m2, m3, m4, m5, m6, m7⟩ := hT)
      simp (disch := omega) only [fa_lit, nI_add, nI_clamp, vin_t, if_true, if_false, Option.bind_some, nI_bZ, Nat.zero_add, Bool.true_eq_false, Bool.false_eq_true, inb_if, inb_m, lne, lle, lnle, eq_self, xm_isBoy m1, xm_isDoor m1, xm_isPlace m1, hx, m1.1, m1.2.1, m1.2.2.1, m1.2.2.2.1]
  · have n0 : (x = nI 0) = False := eq_false (hne 0 (by decide))
    have n1 : (x = nI 1) = False := eq_false (hne 1 (by decide))
    have n2 : (x = nI 2) = False := eq_false (hne 2 (by decide))
    have n3 : (x = nI 3) = False := eq_false (hne 3 (by decide))
    by_cases e4 : x = nI 4
    · refine prr hM hW ⟨S, by unfold p_X9_count; simp (disch := omega) only [fa_lit, nI_add, nI_clamp, vin_t, if_true, if_false, Option.bind_some, nI_bZ, Nat.zero_add, Bool.true_eq_false, Bool.false_eq_true, inb_if, inb_m, lne, lle, lnle, eq_self, xc_isBoy hR, xc_isDoor hR, n0, n1, n2, n3, e4, c5]; rfl, hC, kC.rf S⟩ ?_
      (intro S1 hM1; have hT := hM1.th 0; refine ⟨_, ?_, hT, kM.sI (by decide)⟩; unfold p_X10_count; generalize sI S1 99 0 (0 : Int32) = T at hT ⊢; obtain ⟨m1, m2, m3, m4, m5, m6, m7⟩ := hT)
      simp (disch := omega) only [fa_lit, nI_add, nI_clamp, vin_t, if_true, if_false, Option.bind_some, nI_bZ, Nat.zero_add, Bool.true_eq_false, Bool.false_eq_true, inb_if, inb_m, lne, lle, lnle, eq_self, xm_isBoy m1, xm_isDoor m1, xm_isPlace m1, hx, e4, m5.1]
      rw [e4] at hx
      simp (disch := omega) only [fa_lit, nI_add, nI_clamp, vin_t, if_true, if_false, Option.bind_some, nI_bZ, Nat.zero_add, Bool.true_eq_false, Bool.false_eq_true, inb_if, inb_m, lne, lle, lnle, eq_self, xm_isBoy m1, xm_isDoor m1, xm_isPlace m1, hx]
    · by_cases e5 : x = nI 5
      · refine prr hM hW ⟨S, by unfold p_X9_count; simp (disch := omega) only [fa_lit, nI_add, nI_clamp, vin_t, if_true, if_false, Option.bind_some, nI_bZ, Nat.zero_add, Bool.true_eq_false, Bool.false_eq_true, inb_if, inb_m, lne, lle, lnle, eq_self, xc_isBoy hR, xc_isDoor hR, n0, n1, n2, n3, e5, c6]; rfl, hC, kC.rf S⟩ ?_
        (intro S1 hM1; have hT := hM1.th 0; refine ⟨_, ?_, hT, kM.sI (by decide)⟩; unfold p_X10_count; generalize sI S1 99 0 (0 : Int32) = T at hT ⊢; obtain ⟨m1, m2, m3, m4, m5, m6, m7⟩ := hT)
        rw [e5] at hx
        simp (disch := omega) only [fa_lit, nI_add, nI_clamp, vin_t, if_true, if_false, Option.bind_some, nI_bZ, Nat.zero_add, Bool.true_eq_false, Bool.false_eq_true, inb_if, inb_m, lne, lle, lnle, eq_self, xm_isBoy m1, xm_isDoor m1, xm_isPlace m1, hx, e5, m6.1]
      · refine prr hM hW ⟨S, by unfold p_X9_count; simp (disch := omega) only [fa_lit, nI_add, nI_clamp, vin_t, if_true, if_false, Option.bind_some, nI_bZ, Nat.zero_add, Bool.true_eq_false, Bool.false_eq_true, inb_if, inb_m, lne, lle, lnle, eq_self, xc_isBoy hR, xc_isDoor hR, n0, n1, n2, n3, e4, e5]; rfl, hC, kC.rf S⟩ ?_
        (intro S1 hM1; have hT := hM1.th 0; refine ⟨_, ?_, hT, kM.sI (by decide)⟩; unfold p_X10_count; generalize sI S1 99 0 (0 : Int32) = T at hT ⊢; obtain ⟨m1, m2, m3, m4, m5, m6, m7⟩ := hT)
        simp (disch := omega) only [fa_lit, nI_add, nI_clamp, vin_t, if_true, if_false, Option.bind_some, nI_bZ, Nat.zero_add, Bool.true_eq_false, Bool.false_eq_true, inb_if, inb_m, lne, lle, lnle, eq_self, xm_isBoy m1, xm_isDoor m1, xm_isPlace m1, hx, e4, e5]
end QV
