-- DEEDS: goes, colds, props, undo, keep, back
section DE
variable {c : Cty} {s : Sce} {p : Pst} {im : Img} {h : Hea} {t : Txt} {tr : Int64} {S : St}
/-- after remembering, a change of the present scene: both sides -/
theorem deed {f g : St → Option (Int32 × St)} {v : Int32} {s' : Sce} (hW : IW c s p im h t) (hC : IC c s p im h t tr S) (hM : IM c s p im h t tr S) (hws : WS_ c s') (a : ∀ S1, p_X6_remember S = some S1 → RC c S1 → RS c s 21 S1 → ∃ S2, f S = some (v, S2) ∧ RS c s' 21 S2 ∧ (∀ a j, a < 21 ∨ 25 < a → S2.1 a j = S1.1 a j) ∧ S2.2 = S1.2) (b : ∀ T T1, IM c s p im h t tr (sI T 99 0 0) → p_X10_notes (sI T 99 0 0) = some T1 → MC c T1 → MS c s (T1.1 110) → ∃ T2, g T = some (v, T2) ∧ MS c s' (T2.1 110) ∧ (∀ a j, a ≠ 110 → T2.1 a j = T1.1 a j) ∧ T2.2 = T1.2) : PRR f g S := by
  have hW' : IW c s' (psh p s) im h t := by
    obtain ⟨v1, v2, v3, v4, v5, v6⟩ := psh_W hW
    exact ⟨v1, hws, v3, v4, v5, v6⟩
  obtain ⟨S1, e1, i1, k1⟩ := xc_remember hW hC
  obtain ⟨S2, f1, f2, f3, f4⟩ := a S1 e1 i1.1 i1.2.1
  refine prr hM hW' (tr' := tr) ⟨S2, f1, i1.sc f2 f3 (by rw [f4]), k1.tr ⟨fun a j q => f3 a j (by omega), by rw [f4]⟩⟩ (fun T hT => ?_)
  obtain ⟨T1, e1, i1, k1⟩ := xm_notes hW (hT.th 0)
  obtain ⟨T2, f1, f2, f3, f4⟩ := b T T1 (hT.th 0) e1 i1.1 i1.2.1
  exact ⟨T2, f1, i1.sc f2 f3 (by rw [f4]), ((kM.sI (by decide)).tr k1).tr ⟨fun a j q => f3 a j (by omega), by rw [f4]⟩⟩
theorem pr_goes (hW : IW c s p im h t) (hC : IC c s p im h t tr S) (hM : IM c s p im h t tr S) (x y : Int32) : PRR (p_X9_goes x y) (p_X10_goes x y) S := by
  have hR := hC.1
  have hs := hC.2.1
  have hw := hW.1
  have hws := hW.2.1
  have w2 := hw.2.1
  have w3 := hw.2.2.1
  have w4 := hw.2.2.2.1
  rcases inb_n (n := cnb c) (by omega) x with ⟨b, hb, rfl, hx⟩ | hx
  · rcases inb_n (n := cnd c) (by omega) y with ⟨d, hd, rfl, hy⟩ | hy
    · obtain ⟨r4, r5⟩ := hR.2.2.2.2.1 d hd
      have r22 : S.1 22 b = nI (spl s b) := (hs.1 b hb).1
      have wd := hw.2.2.2.2.2.1 d hd
      have wb := hws.1 b hb
      have hk := kn_lt c s b hw
      have ho := xc_opens hw hws hR hs hb hd
      have go : ∀ o : Nat, o < cnp c → p_X1_beyond (nI b) (nI d) S = some (nI o, S) → (∀ T, IM c s p im h t tr (sI T 99 0 0) → p_X10_goes (nI b) (nI d) T = q_X10_goes_52 (nI b) (nI d) (nI (spl s b)) (sI T 99 0 0)) → (∀ T, MC c T → (if T.1 102 d = nI (spl s b) then q_X10_goes_103 (nI b) (T.1 103 d) (nI b) T else q_X10_goes_103 (nI b) (T.1 102 d) (nI b) T) = q_X10_goes_103 (nI b) (nI o) (nI b) T) → PRR (p_X9_goes (nI b) (nI d)) (p_X10_goes (nI b) (nI d)) S := by
        intro o ho8 hbe hg hg2
        have hbe9 : (nI o = -nI 9) = False := by
          have : ∀ o, o < 8 → nI o ≠ -nI 9 := by decide +kernel
          exact eq_false (this o (by omega))
        cases hbit : (kn c s b).testBit d with
        | false =>
          rw [hbit] at ho
          refine prr hM hW ⟨S, by unfold p_X9_goes; simp (disch := omega) only [fa_lit, nI_bZ, xc_isBoy hR, xc_isDoor hR, hx, hy, hbe, hbe9, ho, Option.bind_some, if_true, if_false, Bool.true_eq_false]; rfl, hC, kC.rf S⟩ ?_
          intro T hT
          refine ⟨sI T 99 0 0, ?_, hT.th 0, kM.sI (by decide)⟩
          rw [hg T (hT.th 0)]
          have hT := hT.th 0
          generalize sI T 99 0 (0 : Int32) = U at hT ⊢
          unfold q_X10_goes_52
          simp (disch := omega) only [fa_lit, nI_bZ, xm_keys hw hws hT.1 hT.2.1 hb, has_m, hbit, Option.bind_some, if_true]
        | true =>
          rw [hbit] at ho
          refine deed (v := nI o) (s' := ((pu1 (spl s) b o, spi s), s.2)) hW hC hM ⟨fun b' hb' => ?_, hws.2.1, hws.2.2.1, hws.2.2.2⟩ (fun S1 e1 i1 i2 => ⟨sI S1 22 b (nI o), ?_, ⟨fun b' hb' => ?_, fun d' hd' => ?_, ?_, ?_⟩, fun a j q => sI_ne (by omega), rfl⟩) (fun T T1 hT e1 i1 i2 => ⟨sI T1 110 b (nI o), ?_, ⟨fun b' hb' => ?_, fun d' hd' => ?_, ?_, ?_⟩, fun a j q => sI_ne (by omega), rfl⟩)
          · show pu1 _ _ _ _ < _
            by_cases e : b' = b
            · subst e; rw [pu1_eq]; exact ho8
            · rw [pu1_ne _ _ _ e]; exact hws.1 b' hb'
          · unfold p_X9_goes
            simp (disch := omega) only [fa_lit, nI_bZ, xc_isBoy hR, xc_isDoor hR, hx, hy, hbe, hbe9, ho, Option.bind_some, if_true, if_false, Bool.true_eq_false, e1, vin_t, nI_clamp]
          · show _ = nI (pu1 _ _ _ _) ∧ _ ∧ _
            by_cases e : b' = b
            · subst e
              rw [pu1_eq]
              exact ⟨sI_eq ⟨rfl, rfl⟩, (sI_ne (by omega)).trans (i2.1 b' hb').2.1, (sI_ne (by omega)).trans (i2.1 b' hb').2.2⟩
            · rw [pu1_ne _ _ _ e, sI_ne (by omega), sI_ne (by omega), sI_ne (by omega)]
              exact i2.1 b' hb'
          · rw [sI_ne (by omega)]; exact i2.2.1 d' hd'
          · rw [sI_ne (by omega)]; exact i2.2.2.1
          · rw [sI_ne (by omega)]; exact i2.2.2.2
          · rw [hg T hT]
            generalize sI T 99 0 (0 : Int32) = U at hT e1 ⊢
            unfold q_X10_goes_52
            simp (disch := omega) only [fa_lit, nI_bZ, xm_keys hw hws hT.1 hT.2.1 hb, has_m, hbit, Option.bind_some, if_false, Bool.true_eq_false, e1, vin_t, if_true, nI_clamp, nI_add, Nat.zero_add]
            rw [hg2 T1 i1]
            unfold q_X10_goes_103
            simp (disch := omega) only [fa_lit, nI_add, Nat.zero_add, vin_t, if_true, nI_clamp, sI_eq]
          · show _ = nI (pu1 _ _ _ _) ∧ _ ∧ _
            by_cases e : b' = b
            · subst e
              rw [pu1_eq]
              exact ⟨sI_eq ⟨rfl, rfl⟩, (sI_ne (by omega)).trans (i2.1 b' hb').2.1, (sI_ne (by omega)).trans (i2.1 b' hb').2.2⟩
            · rw [pu1_ne _ _ _ e, sI_ne (by omega), sI_ne (by omega), sI_ne (by omega)]
              exact i2.1 b' hb'
          · rw [sI_ne (by omega)]; exact i2.2.1 d' hd'
          · rw [sI_ne (by omega)]; exact i2.2.2.1
          · rw [sI_ne (by omega)]; exact i2.2.2.2
      by_cases e1 : con c d = spl s b
      · refine go (cot c d) wd.2 ?_ (fun T hT => ?_) (fun T hT => ?_)
        · unfold p_X1_beyond
          simp (disch := omega) only [vin_t, if_true, nI_clamp, r4, r22, e1, r5]
        · unfold p_X10_goes
          generalize sI T 99 0 (0 : Int32) = U at hT ⊢
          obtain ⟨m1, m2, m3, m4, m5, m6, m7⟩ := hT
          obtain ⟨t4, t5⟩ := m1.2.2.2.2.1 d hd
          have u1 := (m2.1 b hb).1
          simp (disch := omega) only [fa_lit, nI_add, nI_clamp, vin_t, if_true, if_false, Option.bind_some, nI_bZ, Nat.zero_add, Bool.true_eq_false, Bool.false_eq_true, inb_if, inb_m, lne, lle, lnle, eq_self, xm_isBoy m1, xm_isDoor m1, xm_isPlace m1, hx, hy, t4, t5, u1, e1]
        · obtain ⟨t4, t5⟩ := hT.2.2.2.2.1 d hd
          rw [t4, t5, e1, if_pos rfl]
      · by_cases e2 : cot c d = spl s b
        · refine go (con c d) wd.1 ?_ (fun T hT => ?_) (fun T hT => ?_)
          · unfold p_X1_beyond
            simp (disch := omega) only [vin_t, if_true, if_false, nI_clamp, r4, r22, lne, e2, r5]
          · unfold p_X10_goes
            generalize sI T 99 0 (0 : Int32) = U at hT ⊢
            obtain ⟨m1, m2, m3, m4, m5, m6, m7⟩ := hT
            obtain ⟨t4, t5⟩ := m1.2.2.2.2.1 d hd
            have u1 := (m2.1 b hb).1
            simp (disch := omega) only [fa_lit, nI_add, nI_clamp, vin_t, if_true, if_false, Option.bind_some, nI_bZ, Nat.zero_add, Bool.true_eq_false, Bool.false_eq_true, inb_if, inb_m, lne, lle, lnle, eq_self, xm_isBoy m1, xm_isDoor m1, xm_isPlace m1, hx, hy, t4, t5, u1, e2]
          · obtain ⟨t4, t5⟩ := hT.2.2.2.2.1 d hd
            rw [t4, t5, if_neg (by rw [eqN (by omega) (by omega)]; exact e1)]
        · have hbe : p_X1_beyond (nI b) (nI d) S = some (-nI 9, S) := by
            unfold p_X1_beyond
            simp (disch := omega) only [fa_lit, vin_t, if_true, if_false, nI_clamp, r4, r22, lne, r5]
          refine prr hM hW ⟨S, by unfold p_X9_goes; simp (disch := omega) only [fa_lit, nI_bZ, xc_isBoy hR, xc_isDoor hR, hx, hy, hbe, Option.bind_some, if_true, if_false, Bool.true_eq_false]; rfl, hC, kC.rf S⟩ ?_
          (intro S1 hM1; have hT := hM1.th 0; refine ⟨_, ?_, hT, kM.sI (by decide)⟩; unfold p_X10_goes; generalize sI S1 99 0 (0 : Int32) = T at hT ⊢; obtain ⟨m1, m2, m3, m4, m5, m6, m7⟩ := hT)
          obtain ⟨t4, t5⟩ := m1.2.2.2.2.1 d hd
          have u1 := (m2.1 b hb).1
          simp (disch := omega) only [fa_lit, nI_add, nI_clamp, vin_t, if_true, if_false, Option.bind_some, nI_bZ, Nat.zero_add, Bool.true_eq_false, Bool.false_eq_true, inb_if, inb_m, lne, lle, lnle, eq_self, xm_isBoy m1, xm_isDoor m1, xm_isPlace m1, hx, hy, t4, t5, u1]
    · refine prr hM hW ⟨S, by unfold p_X9_goes; simp (disch := omega) only [fa_lit, nI_add, nI_clamp, vin_t, if_true, if_false, Option.bind_some, nI_bZ, Nat.zero_add, Bool.true_eq_false, Bool.false_eq_true, inb_if, inb_m, lne, lle, lnle, eq_self, xc_isBoy hR, xc_isDoor hR, hx, hy]; rfl, hC, kC.rf S⟩ ?_
      (intro S1 hM1; have hT := hM1.th 0; refine ⟨_, ?_, hT, kM.sI (by decide)⟩; unfold p_X10_goes; generalize sI S1 99 0 (0 : Int32) = T at hT ⊢; obtain ⟨m1, m2, m3, m4, m5, m6, m7⟩ := hT)
      simp (disch := omega) only [fa_lit, nI_add, nI_clamp, vin_t, if_true, if_false, Option.bind_some, nI_bZ, Nat.zero_add, Bool.true_eq_false, Bool.false_eq_true, inb_if, inb_m, lne, lle, lnle, eq_self, xm_isBoy m1, xm_isDoor m1, xm_isPlace m1, hx, hy]
  · refine prr hM hW ⟨S, by unfold p_X9_goes; simp (disch := omega) only [fa_lit, nI_add, nI_clamp, vin_t, if_true, if_false, Option.bind_some, nI_bZ, Nat.zero_add, Bool.true_eq_false, Bool.false_eq_true, inb_if, inb_m, lne, lle, lnle, eq_self, xc_isBoy hR, xc_isDoor hR, hx]; rfl, hC, kC.rf S⟩ ?_
    (intro S1 hM1; have hT := hM1.th 0; refine ⟨_, ?_, hT, kM.sI (by decide)⟩; unfold p_X10_goes; generalize sI S1 99 0 (0 : Int32) = T at hT ⊢; obtain ⟨m1, m2, m3, m4, m5, m6, m7⟩ := hT)
    simp (disch := omega) only [fa_lit, nI_add, nI_clamp, vin_t, if_true, if_false, Option.bind_some, nI_bZ, Nat.zero_add, Bool.true_eq_false, Bool.false_eq_true, inb_if, inb_m, lne, lle, lnle, eq_self, xm_isBoy m1, xm_isDoor m1, xm_isPlace m1, hx]
theorem pr_colds (hW : IW c s p im h t) (hC : IC c s p im h t tr S) (hM : IM c s p im h t tr S) (x y : Int32) : PRR (p_X9_colds x y) (p_X10_colds x y) S := by
  have hR := hC.1
  have hs := hC.2.1
  have hw := hW.1
  have hws := hW.2.1
  have w4 := hw.2.2.2.1
  rcases inb_n (n := cnb c) (by omega) x with ⟨b, hb, rfl, hx⟩ | hx
  · have r24 : S.1 24 b = sco s b := (hs.1 b hb).2.2
    cases hy : inb y (nI 0) (nI 9) with
    | true =>
      by_cases e : sco s b = y
      · refine prr hM hW ⟨S, by unfold p_X9_colds; simp (disch := omega) only [fa_lit, nI_add, nI_clamp, vin_t, if_true, if_false, Option.bind_some, nI_bZ, Nat.zero_add, Bool.true_eq_false, Bool.false_eq_true, inb_if, inb_m, lne, lle, lnle, eq_self, xc_isBoy hR, xc_isDoor hR, hx, hy, r24, e]; rfl, hC, kC.rf S⟩ ?_
        (intro S1 hM1; have hT := hM1.th 0; refine ⟨_, ?_, hT, kM.sI (by decide)⟩; unfold p_X10_colds; generalize sI S1 99 0 (0 : Int32) = T at hT ⊢; obtain ⟨m1, m2, m3, m4, m5, m6, m7⟩ := hT)
        have u1 := (m2.1 b hb).2.2
        simp (disch := omega) only [fa_lit, nI_add, nI_clamp, vin_t, if_true, if_false, Option.bind_some, nI_bZ, Nat.zero_add, Bool.true_eq_false, Bool.false_eq_true, inb_if, inb_m, lne, lle, lnle, eq_self, xm_isBoy m1, xm_isDoor m1, xm_isPlace m1, hx, hy, u1, e]
      · refine deed (v := sco s b) (s' := (s.1, (sag s, pu1 (sco s) b y), s.2.2)) hW hC hM ⟨hws.1, hws.2.1, hws.2.2.1, hws.2.2.2⟩ (fun S1 e1 i1 i2 => ⟨sI S1 24 b y, ?_, ⟨fun b' hb' => ?_, fun d' hd' => ?_, ?_, ?_⟩, fun a j q => sI_ne (by omega), rfl⟩) (fun T T1 hT e1 i1 i2 => ⟨sI T1 110 (10 + b) y, ?_, ⟨fun b' hb' => ?_, fun d' hd' => ?_, ?_, ?_⟩, fun a j q => sI_ne (by omega), rfl⟩)
        · unfold p_X9_colds
          simp (disch := omega) only [fa_lit, nI_add, nI_clamp, vin_t, if_true, if_false, Option.bind_some, nI_bZ, Nat.zero_add, Bool.true_eq_false, Bool.false_eq_true, inb_if, inb_m, lne, lle, lnle, eq_self, xc_isBoy hR, xc_isDoor hR, hx, hy, r24, e, e1]
        · show _ ∧ _ ∧ _ = pu1 _ _ _ _
          by_cases e : b' = b
          · subst e
            rw [pu1_eq, sI_ne (by omega), sI_ne (by omega)]
            exact ⟨(i2.1 b' hb').1, (i2.1 b' hb').2.1, sI_eq ⟨rfl, rfl⟩⟩
          · rw [pu1_ne _ _ _ e, sI_ne (by omega), sI_ne (by omega), sI_ne (by omega)]
            exact i2.1 b' hb'
        · rw [sI_ne (by omega)]; exact i2.2.1 d' hd'
        · rw [sI_ne (by omega)]; exact i2.2.2.1
        · rw [sI_ne (by omega)]; exact i2.2.2.2
        · unfold p_X10_colds
          generalize sI T 99 0 (0 : Int32) = U at hT e1 ⊢
          obtain ⟨m1, m2, m3, m4, m5, m6, m7⟩ := hT
          have u1 := (m2.1 b hb).2.2
          simp (disch := omega) only [fa_lit, nI_add, nI_clamp, vin_t, if_true, if_false, Option.bind_some, nI_bZ, Nat.zero_add, Bool.true_eq_false, Bool.false_eq_true, inb_if, inb_m, lne, lle, lnle, eq_self, xm_isBoy m1, xm_isDoor m1, xm_isPlace m1, hx, hy, u1, e, e1]
        · show _ ∧ _ ∧ _ = pu1 _ _ _ _
          by_cases e : b' = b
          · subst e
            rw [pu1_eq, sI_ne (by omega), sI_ne (by omega)]
            exact ⟨(i2.1 b' hb').1, (i2.1 b' hb').2.1, sI_eq ⟨rfl, rfl⟩⟩
          · rw [pu1_ne _ _ _ e, sI_ne (by omega), sI_ne (by omega), sI_ne (by omega)]
            exact i2.1 b' hb'
        · rw [sI_ne (by have := hw.2.2.1; omega)]; exact i2.2.1 d' hd'
        · rw [sI_ne (by omega)]; exact i2.2.2.1
        · rw [sI_ne (by omega)]; exact i2.2.2.2
    | false =>
      refine prr hM hW ⟨S, by unfold p_X9_colds; simp (disch := omega) only [fa_lit, nI_add, nI_clamp, vin_t, if_true, if_false, Option.bind_some, nI_bZ, Nat.zero_add, Bool.true_eq_false, Bool.false_eq_true, inb_if, inb_m, lne, lle, lnle, eq_self, xc_isBoy hR, xc_isDoor hR, hx, hy]; rfl, hC, kC.rf S⟩ ?_
      (intro S1 hM1; have hT := hM1.th 0; refine ⟨_, ?_, hT, kM.sI (by decide)⟩; unfold p_X10_colds; generalize sI S1 99 0 (0 : Int32) = T at hT ⊢; obtain ⟨m1, m2, m3, m4, m5, m6, m7⟩ := hT)
      simp (disch := omega) only [fa_lit, nI_add, nI_clamp, vin_t, if_true, if_false, Option.bind_some, nI_bZ, Nat.zero_add, Bool.true_eq_false, Bool.false_eq_true, inb_if, inb_m, lne, lle, lnle, eq_self, xm_isBoy m1, xm_isDoor m1, xm_isPlace m1, hx, hy]
  · refine prr hM hW ⟨S, by unfold p_X9_colds; simp (disch := omega) only [fa_lit, nI_add, nI_clamp, vin_t, if_true, if_false, Option.bind_some, nI_bZ, Nat.zero_add, Bool.true_eq_false, Bool.false_eq_true, inb_if, inb_m, lne, lle, lnle, eq_self, xc_isBoy hR, xc_isDoor hR, hx]; rfl, hC, kC.rf S⟩ ?_
    (intro S1 hM1; have hT := hM1.th 0; refine ⟨_, ?_, hT, kM.sI (by decide)⟩; unfold p_X10_colds; generalize sI S1 99 0 (0 : Int32) = T at hT ⊢; obtain ⟨m1, m2, m3, m4, m5, m6, m7⟩ := hT)
    simp (disch := omega) only [fa_lit, nI_add, nI_clamp, vin_t, if_true, if_false, Option.bind_some, nI_bZ, Nat.zero_add, Bool.true_eq_false, Bool.false_eq_true, inb_if, inb_m, lne, lle, lnle, eq_self, xm_isBoy m1, xm_isDoor m1, xm_isPlace m1, hx]
theorem pr_props (hW : IW c s p im h t) (hC : IC c s p im h t tr S) (hM : IM c s p im h t tr S) (x y : Int32) : PRR (p_X9_props x y) (p_X10_props x y) S := by
  have hR := hC.1
  have hs := hC.2.1
  have hw := hW.1
  have hws := hW.2.1
  have w3 := hw.2.2.1
  have w4 := hw.2.2.2.1
  have hsp := spr_lt hw hws
  rcases inb_n (n := cnd c) (by omega) x with ⟨d, hd, rfl, hx⟩ | hx
  · have r21 : S.1 21 4 = nI (spr s) := hs.2.2.1
    have hbt := bN_lt ((spr s).testBit d)
    rcases inb_le (n := 1) (by decide) y with ⟨o, ho, rfl, hy⟩ | ⟨hy, _⟩
    · by_cases e : bN ((spr s).testBit d) = o
      · refine prr hM hW ⟨S, by unfold p_X9_props; simp (disch := omega) only [fa_lit, nI_add, nI_clamp, vin_t, if_true, if_false, Option.bind_some, nI_bZ, Nat.zero_add, Bool.true_eq_false, Bool.false_eq_true, inb_if, inb_m, lne, lle, lnle, eq_self, xc_isBoy hR, xc_isDoor hR, hx, hy, r21, bitT, e]; rfl, hC, kC.rf S⟩ ?_
        (intro S1 hM1; have hT := hM1.th 0; refine ⟨_, ?_, hT, kM.sI (by decide)⟩; unfold p_X10_props; generalize sI S1 99 0 (0 : Int32) = T at hT ⊢; obtain ⟨m1, m2, m3, m4, m5, m6, m7⟩ := hT)
        have u1 := m2.2.2.1
        simp (disch := omega) only [fa_lit, nI_add, nI_clamp, vin_t, if_true, if_false, Option.bind_some, nI_bZ, Nat.zero_add, Bool.true_eq_false, Bool.false_eq_true, inb_if, inb_m, lne, lle, lnle, eq_self, xm_isBoy m1, xm_isDoor m1, xm_isPlace m1, hx, hy, u1, bitT, e]
      · have hx2 : spr s ^^^ 2 ^ d < 2 ^ cnd c := Nat.xor_lt_two_pow hws.2.2.1 (two_lt hd)
        have hx8 : spr s ^^^ 2 ^ d < 256 := Nat.lt_of_lt_of_le hx2 (two_le w3 : 2 ^ cnd c ≤ 2 ^ 8)
        refine deed (v := nI (pc (spr s ^^^ 2 ^ d))) (s' := (s.1, s.2.1, (spr s ^^^ 2 ^ d, syr s))) hW hC hM ⟨hws.1, hws.2.1, hx2, hws.2.2.2⟩ (fun S1 e1 i1 i2 => ⟨sI S1 21 4 (nI (spr s ^^^ 2 ^ d)), ?_, ⟨fun b' hb' => ?_, fun d' hd' => ?_, ?_, ?_⟩, fun a j q => sI_ne (by omega), rfl⟩) (fun T T1 hT e1 i1 i2 => ⟨sI T1 110 23 (nI (spr s ^^^ 2 ^ d)), ?_, ⟨fun b' hb' => ?_, fun d' hd' => ?_, ?_, ?_⟩, fun a j q => sI_ne (by omega), rfl⟩)
        · unfold p_X9_props
          simp (disch := omega) only [fa_lit, nI_add, nI_clamp, vin_t, if_true, if_false, Option.bind_some, nI_bZ, Nat.zero_add, Bool.true_eq_false, Bool.false_eq_true, inb_if, inb_m, lne, lle, lnle, eq_self, xc_isBoy hR, xc_isDoor hR, hx, hy, r21, bitT, e1, i2.2.2.1, shlN, fb_xorI, sI_eq]
          rw [bitCount hx8]
          rfl
        · rw [sI_ne (by omega), sI_ne (by omega), sI_ne (by omega)]; exact i2.1 b' hb'
        · rw [sI_ne (by omega)]; exact i2.2.1 d' hd'
        · exact sI_eq ⟨rfl, rfl⟩
        · rw [sI_ne (by omega)]; exact i2.2.2.2
        · unfold p_X10_props
          generalize sI T 99 0 (0 : Int32) = U at hT e1 ⊢
          obtain ⟨m1, m2, m3, m4, m5, m6, m7⟩ := hT
          have u1 := m2.2.2.1
          simp (disch := omega) only [fa_lit, nI_add, nI_clamp, vin_t, if_true, if_false, Option.bind_some, nI_bZ, Nat.zero_add, Bool.true_eq_false, Bool.false_eq_true, inb_if, inb_m, lne, lle, lnle, eq_self, xm_isBoy m1, xm_isDoor m1, xm_isPlace m1, hx, hy, u1, bitT, e1, i2.2.2.1, shlN, fb_xorI, sI_eq]
          rw [ones (Nat.lt_of_lt_of_le hx8 (by decide))]
          rfl
        · rw [sI_ne (by omega), sI_ne (by omega), sI_ne (by omega)]; exact i2.1 b' hb'
        · rw [sI_ne (by omega)]; exact i2.2.1 d' hd'
        · exact sI_eq ⟨rfl, rfl⟩
        · rw [sI_ne (by omega)]; exact i2.2.2.2
    · refine prr hM hW ⟨S, by unfold p_X9_props; simp (disch := omega) only [fa_lit, nI_add, nI_clamp, vin_t, if_true, if_false, Option.bind_some, nI_bZ, Nat.zero_add, Bool.true_eq_false, Bool.false_eq_true, inb_if, inb_m, lne, lle, lnle, eq_self, xc_isBoy hR, xc_isDoor hR, hx, hy]; rfl, hC, kC.rf S⟩ ?_
      (intro S1 hM1; have hT := hM1.th 0; refine ⟨_, ?_, hT, kM.sI (by decide)⟩; unfold p_X10_props; generalize sI S1 99 0 (0 : Int32) = T at hT ⊢; obtain ⟨m1, m2, m3, m4, m5, m6, m7⟩ := hT)
      simp (disch := omega) only [fa_lit, nI_add, nI_clamp, vin_t, if_true, if_false, Option.bind_some, nI_bZ, Nat.zero_add, Bool.true_eq_false, Bool.false_eq_true, inb_if, inb_m, lne, lle, lnle, eq_self, xm_isBoy m1, xm_isDoor m1, xm_isPlace m1, hx, hy]
  · refine prr hM hW ⟨S, by unfold p_X9_props; simp (disch := omega) only [fa_lit, nI_add, nI_clamp, vin_t, if_true, if_false, Option.bind_some, nI_bZ, Nat.zero_add, Bool.true_eq_false, Bool.false_eq_true, inb_if, inb_m, lne, lle, lnle, eq_self, xc_isBoy hR, xc_isDoor hR, hx]; rfl, hC, kC.rf S⟩ ?_
    (intro S1 hM1; have hT := hM1.th 0; refine ⟨_, ?_, hT, kM.sI (by decide)⟩; unfold p_X10_props; generalize sI S1 99 0 (0 : Int32) = T at hT ⊢; obtain ⟨m1, m2, m3, m4, m5, m6, m7⟩ := hT)
    simp (disch := omega) only [fa_lit, nI_add, nI_clamp, vin_t, if_true, if_false, Option.bind_some, nI_bZ, Nat.zero_add, Bool.true_eq_false, Bool.false_eq_true, inb_if, inb_m, lne, lle, lnle, eq_self, xm_isBoy m1, xm_isDoor m1, xm_isPlace m1, hx]
end DE
