-- QUESTIONS: the two answer alike
theorem inb_le {n : Nat} (hn : n < 2 ^ 29) (x : Int32) : (∃ k, k ≤ n ∧ x = nI k ∧ inb x (nI 0) (nI n) = true) ∨ (inb x (nI 0) (nI n) = false ∧ ∀ k, k ≤ n → x ≠ nI k) := by
  have e : nI (n + 1) - nI 1 = nI n := by rw [nI_subN (by omega)]; rfl
  have h := inb_n (n := n + 1) (by omega) x
  rw [e] at h
  rcases h with ⟨b, hb, hx, hi⟩ | h
  · exact Or.inl ⟨b, by omega, hx, hi⟩
  · refine Or.inr ⟨h, fun k hk hx => ?_⟩
    subst hx
    unfold inb at h
    simp (disch := omega) only [ltN, show ¬ k < 0 from Nat.not_lt_zero k, show ¬ n < k from by omega, decide_false, Bool.or_self, Bool.not_false, Bool.true_eq_false] at h
theorem lne {a b : Nat} (h : a ≠ b ∧ a < 1000 ∧ b < 1000) : (nI a = nI b) = False := eq_false (fun q => h.1 ((nI_eq (by omega) (by omega)).mp q))
theorem lle {a b : Nat} (h : a ≤ b ∧ b < 1000) : (nI a ≤ nI b) = True := eq_true ((nI_leI (by omega) (by omega)).mpr h.1)
theorem lnle {a b : Nat} (h : b < a ∧ a < 1000) : (nI a ≤ nI b) = False := eq_false (fun q => by have := (nI_leI (by omega) (by omega)).mp q; omega)
theorem xc_isBoy {c : Cty} {S : St} (hR : RC c S) (x : Int32) : p_X9_isBoy x S = some (nI (bN (inb x (nI 0) (nI (cnb c) - nI 1))), S) := by
  unfold p_X9_isBoy
  simp only [hR.2.2.1, fa_lit, inb_if, Option.bind_some, nI_bZ, nI_bO]
  cases inb x (nI 0) (nI (cnb c) - nI 1) <;> simp
theorem xc_isDoor {c : Cty} {S : St} (hR : RC c S) (x : Int32) : p_X9_isDoor x S = some (nI (bN (inb x (nI 0) (nI (cnd c) - nI 1))), S) := by
  unfold p_X9_isDoor
  simp only [hR.2.1, fa_lit, inb_if, Option.bind_some, nI_bZ, nI_bO]
  cases inb x (nI 0) (nI (cnd c) - nI 1) <;> simp
theorem xm_isBoy {c : Cty} {S : St} (hR : MC c S) (x : Int32) : p_X10_isBoy x S = some (nI (bN (inb x (nI 0) (nI (cnb c) - nI 1))), S) := by
  unfold p_X10_isBoy
  simp (disch := omega) only [fa_lit, vin_t, nI_clamp, if_true, hR.2.2.1, inb_m, Option.bind_some, nI_bZ, nI_bO]
  cases inb x (nI 0) (nI (cnb c) - nI 1) <;> simp
theorem xm_isDoor {c : Cty} {S : St} (hR : MC c S) (x : Int32) : p_X10_isDoor x S = some (nI (bN (inb x (nI 0) (nI (cnd c) - nI 1))), S) := by
  unfold p_X10_isDoor
  simp (disch := omega) only [fa_lit, vin_t, nI_clamp, if_true, hR.2.1, inb_m, Option.bind_some, nI_bZ, nI_bO]
  cases inb x (nI 0) (nI (cnd c) - nI 1) <;> simp
theorem xm_isPlace {c : Cty} {S : St} (hR : MC c S) (x : Int32) : p_X10_isPlace x S = some (nI (bN (inb x (nI 0) (nI (cnp c) - nI 1))), S) := by
  unfold p_X10_isPlace
  simp (disch := omega) only [fa_lit, vin_t, nI_clamp, if_true, hR.1, inb_m, Option.bind_some, nI_bZ, nI_bO]
  cases inb x (nI 0) (nI (cnp c) - nI 1) <;> simp
section QU
variable {c : Cty} {s : Sce} {p : Pst} {im : Img} {h : Hea} {t : Txt} {tr : Int64} {S : St}
theorem pr_door (hW : IW c s p im h t) (hC : IC c s p im h t tr S) (hM : IM c s p im h t tr S) (x y : Int32) : PRR (p_X9_door x y) (p_X10_door x y) S := by
  have hR := hC.1
  have hs := hC.2.1
  have hw := hW.1
  have hws := hW.2.1
  have w3 := hw.2.2.1
  have w4 := hw.2.2.2.1
  have hsp := spr_lt hw hws
  rcases inb_n (n := cnd c) (by omega) x with ⟨d, hd, rfl, hx⟩ | hx
  · obtain ⟨r4, r5⟩ := hR.2.2.2.2.1 d hd
    have r25 : S.1 25 d = nI (spi s d) := hs.2.1 d hd
    have r21 : S.1 21 4 = nI (spr s) := hs.2.2.1
    rcases inb_le (n := 4) (by decide) y with ⟨k, hk, rfl, hy⟩ | ⟨hy, hne⟩
    · have hk5 : k = 0 ∨ k = 1 ∨ k = 2 ∨ k = 3 ∨ k = 4 := by omega
      rcases hk5 with rfl | rfl | rfl | rfl | rfl
      · refine prr hM hW ⟨S, by unfold p_X9_door; simp (disch := omega) only [fa_lit, nI_add, nI_clamp, vin_t, if_true, if_false, Option.bind_some, nI_bZ, Nat.zero_add, Bool.true_eq_false, Bool.false_eq_true, inb_if, inb_m, lne, lle, lnle, eq_self, xc_isBoy hR, xc_isDoor hR, hx, r4, r5, r25, r21]; rfl, hC, kC.rf S⟩ ?_
        (intro S1 hM1; have hT := hM1.th 0; refine ⟨_, ?_, hT, kM.sI (by decide)⟩; unfold p_X10_door; generalize sI S1 99 0 (0 : Int32) = T at hT ⊢; obtain ⟨m1, m2, m3, m4, m5, m6, m7⟩ := hT)
        obtain ⟨t4, t5⟩ := m1.2.2.2.2.1 d hd
        simp (disch := omega) only [fa_lit, nI_add, nI_clamp, vin_t, if_true, if_false, Option.bind_some, nI_bZ, Nat.zero_add, Bool.true_eq_false, Bool.false_eq_true, inb_if, inb_m, lne, lle, lnle, eq_self, xm_isBoy m1, xm_isDoor m1, xm_isPlace m1, hx, hy, t4, t5]
      · refine prr hM hW ⟨S, by unfold p_X9_door; simp (disch := omega) only [fa_lit, nI_add, nI_clamp, vin_t, if_true, if_false, Option.bind_some, nI_bZ, Nat.zero_add, Bool.true_eq_false, Bool.false_eq_true, inb_if, inb_m, lne, lle, lnle, eq_self, xc_isBoy hR, xc_isDoor hR, hx, r4, r5, r25, r21]; rfl, hC, kC.rf S⟩ ?_
        (intro S1 hM1; have hT := hM1.th 0; refine ⟨_, ?_, hT, kM.sI (by decide)⟩; unfold p_X10_door; generalize sI S1 99 0 (0 : Int32) = T at hT ⊢; obtain ⟨m1, m2, m3, m4, m5, m6, m7⟩ := hT)
        obtain ⟨t4, t5⟩ := m1.2.2.2.2.1 d hd
        simp (disch := omega) only [fa_lit, nI_add, nI_clamp, vin_t, if_true, if_false, Option.bind_some, nI_bZ, Nat.zero_add, Bool.true_eq_false, Bool.false_eq_true, inb_if, inb_m, lne, lle, lnle, eq_self, xm_isBoy m1, xm_isDoor m1, xm_isPlace m1, hx, hy, t4, t5]
      · refine prr hM hW ⟨S, by unfold p_X9_door; simp (disch := omega) only [fa_lit, nI_add, nI_clamp, vin_t, if_true, if_false, Option.bind_some, nI_bZ, Nat.zero_add, Bool.true_eq_false, Bool.false_eq_true, inb_if, inb_m, lne, lle, lnle, eq_self, xc_isBoy hR, xc_isDoor hR, hx, r4, r5, r25, r21]; rfl, hC, kC.rf S⟩ ?_
        (intro S1 hM1; have hT := hM1.th 0; refine ⟨_, ?_, hT, kM.sI (by decide)⟩; unfold p_X10_door; generalize sI S1 99 0 (0 : Int32) = T at hT ⊢; obtain ⟨m1, m2, m3, m4, m5, m6, m7⟩ := hT)
        have t15 := m2.2.1 d hd
        simp (disch := omega) only [fa_lit, nI_add, nI_clamp, vin_t, if_true, if_false, Option.bind_some, nI_bZ, Nat.zero_add, Bool.true_eq_false, Bool.false_eq_true, inb_if, inb_m, lne, lle, lnle, eq_self, xm_isBoy m1, xm_isDoor m1, xm_isPlace m1, hx, hy, t15]
      · refine prr hM hW ⟨S, by unfold p_X9_door; simp (disch := omega) only [fa_lit, nI_add, nI_clamp, vin_t, if_true, if_false, Option.bind_some, nI_bZ, Nat.zero_add, Bool.true_eq_false, Bool.false_eq_true, inb_if, inb_m, lne, lle, lnle, eq_self, xc_isBoy hR, xc_isDoor hR, hx, r4, r5, r25, r21]; rfl, hC, kC.rf S⟩ ?_
        (intro S1 hM1; have hT := hM1.th 0; refine ⟨_, ?_, hT, kM.sI (by decide)⟩; unfold p_X10_door; generalize sI S1 99 0 (0 : Int32) = T at hT ⊢; obtain ⟨m1, m2, m3, m4, m5, m6, m7⟩ := hT)
        have t23 := m2.2.2.1
        simp (disch := omega) only [fa_lit, nI_add, nI_clamp, vin_t, if_true, if_false, Option.bind_some, nI_bZ, Nat.zero_add, Bool.true_eq_false, Bool.false_eq_true, inb_if, inb_m, lne, lle, lnle, eq_self, xm_isBoy m1, xm_isDoor m1, xm_isPlace m1, hx, hy, t23]
      · refine prr hM hW ⟨S, by unfold p_X9_door; simp (disch := omega) only [fa_lit, nI_add, nI_clamp, vin_t, if_true, if_false, Option.bind_some, nI_bZ, Nat.zero_add, Bool.true_eq_false, Bool.false_eq_true, inb_if, inb_m, lne, lle, lnle, eq_self, xc_isBoy hR, xc_isDoor hR, hx, xc_openers hw hws hR hs hd]; rfl, hC, kC.rf S⟩ ?_
        (intro S1 hM1; have hT := hM1.th 0; refine ⟨_, ?_, hT, kM.sI (by decide)⟩; unfold p_X10_door; generalize sI S1 99 0 (0 : Int32) = T at hT ⊢; obtain ⟨m1, m2, m3, m4, m5, m6, m7⟩ := hT)
        simp (disch := omega) only [fa_lit, nI_add, nI_clamp, vin_t, if_true, if_false, Option.bind_some, nI_bZ, Nat.zero_add, Bool.true_eq_false, Bool.false_eq_true, inb_if, inb_m, lne, lle, lnle, eq_self, xm_isBoy m1, xm_isDoor m1, xm_isPlace m1, hx, hy, xm_openers hw hws m1 m2 hd]
    · have n0 : (y = nI 0) = False := eq_false (hne 0 (by decide))
      have n1 : (y = nI 1) = False := eq_false (hne 1 (by decide))
      have n2 : (y = nI 2) = False := eq_false (hne 2 (by decide))
      have n3 : (y = nI 3) = False := eq_false (hne 3 (by decide))
      have n4 : (y = nI 4) = False := eq_false (hne 4 (by decide))
      refine prr hM hW ⟨S, by unfold p_X9_door; simp (disch := omega) only [fa_lit, nI_add, nI_clamp, vin_t, if_true, if_false, Option.bind_some, nI_bZ, Nat.zero_add, Bool.true_eq_false, Bool.false_eq_true, inb_if, inb_m, lne, lle, lnle, eq_self, xc_isBoy hR, xc_isDoor hR, hx, n0, n1, n2, n3, n4]; rfl, hC, kC.rf S⟩ ?_
      (intro S1 hM1; have hT := hM1.th 0; refine ⟨_, ?_, hT, kM.sI (by decide)⟩; unfold p_X10_door; generalize sI S1 99 0 (0 : Int32) = T at hT ⊢; obtain ⟨m1, m2, m3, m4, m5, m6, m7⟩ := hT)
      simp (disch := omega) only [fa_lit, nI_add, nI_clamp, vin_t, if_true, if_false, Option.bind_some, nI_bZ, Nat.zero_add, Bool.true_eq_false, Bool.false_eq_true, inb_if, inb_m, lne, lle, lnle, eq_self, xm_isBoy m1, xm_isDoor m1, xm_isPlace m1, hx, hy]
  · refine prr hM hW ⟨S, by unfold p_X9_door; simp (disch := omega) only [fa_lit, nI_add, nI_clamp, vin_t, if_true, if_false, Option.bind_some, nI_bZ, Nat.zero_add, Bool.true_eq_false, Bool.false_eq_true, inb_if, inb_m, lne, lle, lnle, eq_self, xc_isBoy hR, xc_isDoor hR, hx]; rfl, hC, kC.rf S⟩ ?_
    (intro S1 hM1; have hT := hM1.th 0; refine ⟨_, ?_, hT, kM.sI (by decide)⟩; unfold p_X10_door; generalize sI S1 99 0 (0 : Int32) = T at hT ⊢; obtain ⟨m1, m2, m3, m4, m5, m6, m7⟩ := hT)
    simp (disch := omega) only [fa_lit, nI_add, nI_clamp, vin_t, if_true, if_false, Option.bind_some, nI_bZ, Nat.zero_add, Bool.true_eq_false, Bool.false_eq_true, inb_if, inb_m, lne, lle, lnle, eq_self, xm_isBoy m1, xm_isDoor m1, xm_isPlace m1, hx]
end QU
