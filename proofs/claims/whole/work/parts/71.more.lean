-- RATE, HEARS, TYPE, CLEAR, TRACE
theorem sL_sL (S : St) (k : Nat) (v w : Int64) : sL (sL S k v) k w = sL S k w := by
  refine Prod.ext rfl ?_
  funext a
  rw [sL_2, sL_2, sL_2]
  split <;> rfl
theorem nne {a b : Nat} (h : a ≠ b) : (a = b) = False := eq_false h
def rtT : Nat → Int64
  | 0 => 1 | 1 => 11 | 2 => 101 | 3 => 1011 | 4 => 10101 | _ => 100001
section RA
variable {c : Cty} {s : Sce} {p : Pst} {im : Img} {h : Hea} {t : Txt} {tr : Int64} {S : St}
theorem IC.sL (hC : IC c s p im h t tr S) (v : Int64) : IC c s p im h t v (sL S 98 v) := ⟨hC.1, hC.2.1, hC.2.2.1, hC.2.2.2.1, hC.2.2.2.2.1, hC.2.2.2.2.2.1, sL_eq _ _ _, hC.2.2.2.2.2.2.2⟩
theorem IM.sL (hM : IM c s p im h t tr S) (v : Int64) : IM c s p im h t v (sL S 99 v) := ⟨hM.1, hM.2.1, hM.2.2.1, hM.2.2.2.1, hM.2.2.2.2.1, hM.2.2.2.2.2.1, sL_eq _ _ _⟩
theorem pr_rate (hW : IW c s p im h t) (hC : IC c s p im h t tr S) (hM : IM c s p im h t tr S) (x y : Int32) : PRR (p_X9_rate x y) (p_X10_rate x y) S := by
  have hR := hC.1
  have hs := hC.2.1
  have hw := hW.1
  have hws := hW.2.1
  have w4 := hw.2.2.2.1
  rcases inb_le (n := 5) (by decide) x with ⟨k, hk, rfl, hx⟩ | ⟨hx, _⟩
  · rcases inb_n (n := cnb c) (by omega) y with ⟨b, hb, rfl, hy⟩ | hy
    · have kl := kn_lt c s b hw
      have r22 : ∀ v, (sL S 98 v).1 22 b = nI (spl s b) := fun _ => (hs.1 b hb).1
      have r23 : ∀ v, (sL S 98 v).1 23 b = sag s b := fun _ => (hs.1 b hb).2.1
      have c1 : ∀ v, p_X1_highest (nI b) (nI 0) (sL S 98 v) = some (hgv (chi c b) (cbr c b) (sag s b) (sco s b), sL S 98 v) := fun v => (xc_highest hw (hC.sL v).1 (hC.sL v).2.1 hb 0).trans (by rw [hgy_0])
      have c7 : ∀ v, p_X1_keys (nI b) (nI 0) (sL S 98 v) = some (nI (kn c s b), sL S 98 v) := fun v => xc_keys0 hw hws (hC.sL v).1 (hC.sL v).2.1 hb
      have cb : ∀ T, p_J6_bitCount_0f7a4 (nI (kn c s b)) T = some (nI (pc (kn c s b)), T) := fun T => bitCount kl T
      have ct : S.2 98 = tr := hC.2.2.2.2.2.2.1
      have hk5 : k = 0 ∨ k = 1 ∨ k = 2 ∨ k = 3 ∨ k = 4 ∨ k = 5 := by omega
      have hn : p_X9_rate (nI k) (nI b) S = some ((if k = 0 then sag s b else if k = 1 then sag s b + hgv (chi c b) (cbr c b) (sag s b) (sco s b) else if k = 2 then sag s b - nI (pc (kn c s b)) else if k = 3 then nI 2 * (sag s b + hgv (chi c b) (cbr c b) (sag s b) (sco s b)) else if k = 4 then (sag s b - nI (pc (kn c s b))) + nI b else sag s b + nI (spl s b)), sL S 98 (tr + rtT k)) := by
        rcases hk5 with rfl | rfl | rfl | rfl | rfl | rfl
        all_goals
          unfold p_X9_rate p_X5_rateAs p_X5_asTwin p_X5_asSoloist p_X5_asBass p_X5_asAlto p_X5_asTreble p_X5_asBoy
          simp (disch := omega) only [fa_lit, nI_add, nI_clamp, vin_t, if_true, if_false, Option.bind_some, nI_bZ, Nat.zero_add, Bool.true_eq_false, Bool.false_eq_true, inb_if, inb_m, lne, lle, lnle, eq_self, xc_isBoy hR, xc_isDoor hR, hx, hy, r22, r23, c1, c7, cb, sL_sL, sL_eq, ct, nne, Int64.add_assoc]
          rfl
      refine prr hM hW ⟨_, hn, hC.sL _, kC.sL⟩ ?_
      intro S1 hM1
      have hT := hM1.th 0
      refine ⟨_, ?_, hT.sL (tr + rtT k), (kM.sI (by decide)).tr kM.sL⟩
      unfold p_X10_rate
      generalize sI S1 99 0 (0 : Int32) = T at hT ⊢
      obtain ⟨m1, m2, m3, m4, m5, m6, m7⟩ := hT
      obtain ⟨u1, u2, u3⟩ := m2.1 b hb
      have v1 : ∀ v, (sL T 99 v).1 110 b = nI (spl s b) := fun _ => u1
      have ko : ∀ U, p_X10_ones (nI (kn c s b)) U = some (nI (pc (kn c s b)), U) := fun U => ones (Nat.lt_of_lt_of_le kl (by decide)) U
      rcases hk5 with rfl | rfl | rfl | rfl | rfl | rfl
      all_goals
        simp (disch := omega) only [fa_lit, nI_add, nI_clamp, vin_t, if_true, if_false, Option.bind_some, nI_bZ, Nat.zero_add, Bool.true_eq_false, Bool.false_eq_true, inb_if, inb_m, lne, lle, lnle, eq_self, xm_isBoy m1, xm_isDoor m1, xm_isPlace m1, hx, hy, u1, u2, u3, v1, xm_highest hw m1 hb, xm_keys hw hws m1 m2 hb, ko, q_X10_rate_125, m7, nne]
        rfl
    · refine prr hM hW ⟨S, by unfold p_X9_rate; simp (disch := omega) only [fa_lit, nI_add, nI_clamp, vin_t, if_true, if_false, Option.bind_some, nI_bZ, Nat.zero_add, Bool.true_eq_false, Bool.false_eq_true, inb_if, inb_m, lne, lle, lnle, eq_self, xc_isBoy hR, xc_isDoor hR, hx, hy]; rfl, hC, kC.rf S⟩ ?_
      (intro S1 hM1; have hT := hM1.th 0; refine ⟨_, ?_, hT, kM.sI (by decide)⟩; unfold p_X10_rate; generalize sI S1 99 0 (0 : Int32) = T at hT ⊢; obtain ⟨m1, m2, m3, m4, m5, m6, m7⟩ := hT)
      simp (disch := omega) only [fa_lit, nI_add, nI_clamp, vin_t, if_true, if_false, Option.bind_some, nI_bZ, Nat.zero_add, Bool.true_eq_false, Bool.false_eq_true, inb_if, inb_m, lne, lle, lnle, eq_self, xm_isBoy m1, xm_isDoor m1, xm_isPlace m1, hx, hy]
  · refine prr hM hW ⟨S, by unfold p_X9_rate; simp (disch := omega) only [fa_lit, nI_add, nI_clamp, vin_t, if_true, if_false, Option.bind_some, nI_bZ, Nat.zero_add, Bool.true_eq_false, Bool.false_eq_true, inb_if, inb_m, lne, lle, lnle, eq_self, xc_isBoy hR, xc_isDoor hR, hx]; rfl, hC, kC.rf S⟩ ?_
    (intro S1 hM1; have hT := hM1.th 0; refine ⟨_, ?_, hT, kM.sI (by decide)⟩; unfold p_X10_rate; generalize sI S1 99 0 (0 : Int32) = T at hT ⊢; obtain ⟨m1, m2, m3, m4, m5, m6, m7⟩ := hT)
    simp (disch := omega) only [fa_lit, nI_add, nI_clamp, vin_t, if_true, if_false, Option.bind_some, nI_bZ, Nat.zero_add, Bool.true_eq_false, Bool.false_eq_true, inb_if, inb_m, lne, lle, lnle, eq_self, xm_isBoy m1, xm_isDoor m1, xm_isPlace m1, hx]
/-- a function with one place more -/
def pu1 {α : Type} (f : Nat → α) (n : Nat) (v : α) : Nat → α := fun i => if i = n then v else f i
theorem pu1_eq {α : Type} (f : Nat → α) (n : Nat) (v : α) : pu1 f n v n = v := if_pos rfl
theorem pu1_ne {α : Type} (f : Nat → α) (n : Nat) (v : α) {i : Nat} (h : i ≠ n) : pu1 f n v i = f i := if_neg h
theorem pr_hears (hW : IW c s p im h t) (hC : IC c s p im h t tr S) (hM : IM c s p im h t tr S) (x y : Int32) : PRR (p_X9_hears x y) (p_X10_hears x y) S := by
  have hR := hC.1
  have w3 := hW.1.2.2.1
  have h6 := hW.2.2.2.2.1.1
  rcases inb_n (n := cnd c) (by omega) x with ⟨d, hd, rfl, hx⟩ | hx
  · rcases inb_le (n := 1) (by decide) y with ⟨o, ho, rfl, hy⟩ | ⟨hy, _⟩
    · by_cases e : h.1 = 6
      · have c5 := hC.2.2.2.2.1.1
        rw [e] at c5
        refine prr hM hW ⟨S, by unfold p_X9_hears; simp (disch := omega) only [fa_lit, nI_add, nI_clamp, vin_t, if_true, if_false, Option.bind_some, nI_bZ, Nat.zero_add, Bool.true_eq_false, Bool.false_eq_true, inb_if, inb_m, lne, lle, lnle, eq_self, xc_isBoy hR, xc_isDoor hR, hx, hy, c5, ltN, Nat.lt_irrefl]; rfl, hC, kC.rf S⟩ ?_
        (intro S1 hM1; have hT := hM1.th 0; refine ⟨_, ?_, hT, kM.sI (by decide)⟩; unfold p_X10_hears; generalize sI S1 99 0 (0 : Int32) = T at hT ⊢; obtain ⟨m1, m2, m3, m4, m5, m6, m7⟩ := hT)
        have t5 := m5.1
        rw [e] at t5
        simp (disch := omega) only [fa_lit, nI_add, nI_clamp, vin_t, if_true, if_false, Option.bind_some, nI_bZ, Nat.zero_add, Bool.true_eq_false, Bool.false_eq_true, inb_if, inb_m, lne, lle, lnle, eq_self, xm_isBoy m1, xm_isDoor m1, xm_isPlace m1, hx, hy, t5]
      · obtain ⟨c1, c2, c3, c4, c5, c6, c7, c8⟩ := hC
        obtain ⟨v1, v2, v3, v4, v5, v6⟩ := hW
        have hW' : IW c s p im (h.1 + 1, pu1 h.2.1 h.1 d, pu1 h.2.2 h.1 o) t := by
          refine ⟨v1, v2, v3, v4, ⟨by show h.1 + 1 ≤ 6; omega, fun i hi => ?_⟩, v6⟩
          by_cases ei : i = h.1
          · subst ei
            show pu1 _ _ _ _ < _ ∧ pu1 _ _ _ _ ≤ 1
            rw [pu1_eq, pu1_eq]; exact ⟨hd, ho⟩
          · show pu1 _ _ _ _ < _ ∧ pu1 _ _ _ _ ≤ 1
            rw [pu1_ne _ _ _ ei, pu1_ne _ _ _ ei]; exact v5.2 i (by have : i < h.1 + 1 := hi; omega)
        refine prr hM hW' (v := nI (h.1 + 1)) (tr' := tr) ⟨sI (sI (sI S 96 h.1 (nI d)) 97 h.1 (nI o)) 95 3 (nI (h.1 + 1)), ?_, ⟨c1.cg (fun a j q q' => ?_), c2.cg (fun a j q q' => ?_), c3.cg (fun a j q q' => ?_), c4.cg (fun a j q q' => ?_), ⟨sI_eq ⟨rfl, rfl⟩, fun i hi => ?_⟩, c6.cg (fun j => ?_) ?_, c7, Eq.trans ?_ c8⟩, ((kC.sI (by decide)).tr (kC.sI (by decide))).tr (kC.sI (by decide))⟩ ?_
        · unfold p_X9_hears p_X3_add
          simp (disch := omega) only [fa_lit, nI_add, nI_clamp, vin_t, if_true, if_false, Option.bind_some, nI_bZ, Nat.zero_add, Bool.true_eq_false, Bool.false_eq_true, inb_if, inb_m, lne, lle, lnle, eq_self, xc_isBoy hR, xc_isDoor hR, hx, hy, c5.1, ltN, show h.1 < 6 from by omega, sI_ne, sI_eq]
        · simp (disch := omega) only [sI_ne]
        · simp (disch := omega) only [sI_ne]
        · simp (disch := omega) only [sI_ne]
        · simp (disch := omega) only [sI_ne]
        · have hi' : i < h.1 + 1 := hi
          show _ = nI (pu1 _ _ _ _) ∧ _ = nI (pu1 _ _ _ _)
          by_cases ei : i = h.1
          · subst ei
            rw [pu1_eq, pu1_eq]
            constructor
            · simp (disch := omega) only [sI_ne, sI_eq]
            · simp (disch := omega) only [sI_ne, sI_eq]
          · rw [pu1_ne _ _ _ ei, pu1_ne _ _ _ ei]
            simp (disch := omega) only [sI_ne]
            exact c5.2 i (by omega)
        · simp (disch := omega) only [sI_ne]
        · simp (disch := omega) only [sI_ne]
        · simp (disch := omega) only [sI_ne]
        · intro S1 hM1
          have hT := hM1.th 0
          refine ⟨sI (sI (sI (sI S1 99 0 0) 114 h.1 (nI d)) 115 h.1 (nI o)) 99 26 (nI (h.1 + 1)), ?_, ?_, (((kM.sI (by decide)).tr (kM.sI (by decide))).tr (kM.sI (by decide))).tr (kM.sI (by decide))⟩
          · unfold p_X10_hears
            generalize sI S1 99 0 (0 : Int32) = T at hT ⊢
            obtain ⟨m1, m2, m3, m4, m5, m6, m7⟩ := hT
            simp (disch := omega) only [fa_lit, nI_add, nI_clamp, vin_t, if_true, if_false, Option.bind_some, nI_bZ, Nat.zero_add, Bool.true_eq_false, Bool.false_eq_true, inb_if, inb_m, lne, lle, lnle, eq_self, xm_isBoy m1, xm_isDoor m1, xm_isPlace m1, hx, hy, m5.1, sI_ne, sI_eq]
          · generalize sI S1 99 0 (0 : Int32) = T at hT ⊢
            obtain ⟨m1, m2, m3, m4, m5, m6, m7⟩ := hT
            refine ⟨m1.cg (fun a j q q' => ?_), m2.cg (fun j => ?_), m3.cg ?_ (fun j => ?_), m4.cg (fun a j q q' => ?_), ⟨sI_eq ⟨rfl, rfl⟩, fun i hi => ?_⟩, m6.cg ?_ (fun j => ?_), m7⟩
            · simp (disch := omega) only [sI_ne]
            · simp (disch := omega) only [sI_ne]
            · simp (disch := omega) only [sI_ne]
            · simp (disch := omega) only [sI_ne]
            · simp (disch := omega) only [sI_ne]
            · have hi' : i < h.1 + 1 := hi
              show _ = nI (pu1 _ _ _ _) ∧ _ = nI (pu1 _ _ _ _)
              by_cases ei : i = h.1
              · subst ei
                rw [pu1_eq, pu1_eq]
                constructor
                · simp (disch := omega) only [sI_ne, sI_eq]
                · simp (disch := omega) only [sI_ne, sI_eq]
              · rw [pu1_ne _ _ _ ei, pu1_ne _ _ _ ei]
                simp (disch := omega) only [sI_ne]
                exact m5.2 i (by omega)
            · simp (disch := omega) only [sI_ne]
            · simp (disch := omega) only [sI_ne]
    · refine prr hM hW ⟨S, by unfold p_X9_hears; simp (disch := omega) only [fa_lit, nI_add, nI_clamp, vin_t, if_true, if_false, Option.bind_some, nI_bZ, Nat.zero_add, Bool.true_eq_false, Bool.false_eq_true, inb_if, inb_m, lne, lle, lnle, eq_self, xc_isBoy hR, xc_isDoor hR, hx, hy]; rfl, hC, kC.rf S⟩ ?_
      (intro S1 hM1; have hT := hM1.th 0; refine ⟨_, ?_, hT, kM.sI (by decide)⟩; unfold p_X10_hears; generalize sI S1 99 0 (0 : Int32) = T at hT ⊢; obtain ⟨m1, m2, m3, m4, m5, m6, m7⟩ := hT)
      simp (disch := omega) only [fa_lit, nI_add, nI_clamp, vin_t, if_true, if_false, Option.bind_some, nI_bZ, Nat.zero_add, Bool.true_eq_false, Bool.false_eq_true, inb_if, inb_m, lne, lle, lnle, eq_self, xm_isBoy m1, xm_isDoor m1, xm_isPlace m1, hx, hy]
  · refine prr hM hW ⟨S, by unfold p_X9_hears; simp (disch := omega) only [fa_lit, nI_add, nI_clamp, vin_t, if_true, if_false, Option.bind_some, nI_bZ, Nat.zero_add, Bool.true_eq_false, Bool.false_eq_true, inb_if, inb_m, lne, lle, lnle, eq_self, xc_isBoy hR, xc_isDoor hR, hx]; rfl, hC, kC.rf S⟩ ?_
    (intro S1 hM1; have hT := hM1.th 0; refine ⟨_, ?_, hT, kM.sI (by decide)⟩; unfold p_X10_hears; generalize sI S1 99 0 (0 : Int32) = T at hT ⊢; obtain ⟨m1, m2, m3, m4, m5, m6, m7⟩ := hT)
    simp (disch := omega) only [fa_lit, nI_add, nI_clamp, vin_t, if_true, if_false, Option.bind_some, nI_bZ, Nat.zero_add, Bool.true_eq_false, Bool.false_eq_true, inb_if, inb_m, lne, lle, lnle, eq_self, xm_isBoy m1, xm_isDoor m1, xm_isPlace m1, hx]
theorem pr_type (hW : IW c s p im h t) (hC : IC c s p im h t tr S) (hM : IM c s p im h t tr S) (x : Int32) : PRR (p_X9_type x) (p_X10_type x) S := by
  have h6 := hW.2.2.2.2.2.1
  rcases inb_le (n := 255) (by decide) x with ⟨d, hd, rfl, hx⟩ | ⟨hx, _⟩
  · by_cases e : t.1 = 150
    · have c6 := hC.2.2.2.2.2.1.1
      rw [e] at c6
      refine prr hM hW ⟨S, by unfold p_X9_type; simp (disch := omega) only [fa_lit, nI_add, nI_clamp, vin_t, if_true, if_false, Option.bind_some, nI_bZ, Nat.zero_add, Bool.true_eq_false, Bool.false_eq_true, inb_if, inb_m, lne, lle, lnle, eq_self, hx, c6, ltN, Nat.lt_irrefl]; rfl, hC, kC.rf S⟩ ?_
      (intro S1 hM1; have hT := hM1.th 0; refine ⟨_, ?_, hT, kM.sI (by decide)⟩; unfold p_X10_type; generalize sI S1 99 0 (0 : Int32) = T at hT ⊢; obtain ⟨m1, m2, m3, m4, m5, m6, m7⟩ := hT)
      have t6 := m6.1
      rw [e] at t6
      simp (disch := omega) only [fa_lit, nI_add, nI_clamp, vin_t, if_true, if_false, Option.bind_some, nI_bZ, Nat.zero_add, Bool.true_eq_false, Bool.false_eq_true, inb_if, inb_m, lne, lle, lnle, eq_self, hx, t6]
    · obtain ⟨c1, c2, c3, c4, c5, c6, c7, c8⟩ := hC
      obtain ⟨v1, v2, v3, v4, v5, v6⟩ := hW
      have hW' : IW c s p im h (t.1 + 1, pu1 t.2 t.1 d) := by
        refine ⟨v1, v2, v3, v4, v5, ⟨by show t.1 + 1 ≤ 150; omega, fun i hi => ?_⟩⟩
        by_cases ei : i = t.1
        · subst ei
          show pu1 _ _ _ _ ≤ 255
          rw [pu1_eq]; exact hd
        · show pu1 _ _ _ _ ≤ 255
          rw [pu1_ne _ _ _ ei]; exact v6.2 i (by have : i < t.1 + 1 := hi; omega)
      refine prr hM hW' (v := nI (t.1 + 1)) (tr' := tr) ⟨sI (sI S 2 t.1 (nI d)) 1 1 (nI (t.1 + 1)), ?_, ⟨c1.cg (fun a j q q' => ?_), c2.cg (fun a j q q' => ?_), c3.cg (fun a j q q' => ?_), c4.cg (fun a j q q' => ?_), c5.cg (fun a j q q' => ?_), ⟨sI_eq ⟨rfl, rfl⟩, fun i hi => ?_⟩, c7, Eq.trans ?_ c8⟩, (kC.sI (by decide)).tr (kC.sI (by decide))⟩ ?_
      · unfold p_X9_type
        simp (disch := omega) only [fa_lit, nI_add, nI_clamp, vin_t, if_true, if_false, Option.bind_some, nI_bZ, Nat.zero_add, Bool.true_eq_false, Bool.false_eq_true, inb_if, inb_m, lne, lle, lnle, eq_self, hx, c6.1, ltN, show t.1 < 150 from by omega, sI_ne, sI_eq]
      · simp (disch := omega) only [sI_ne]
      · simp (disch := omega) only [sI_ne]
      · simp (disch := omega) only [sI_ne]
      · simp (disch := omega) only [sI_ne]
      · simp (disch := omega) only [sI_ne]
      · have hi' : i < t.1 + 1 := hi
        show _ = nI (pu1 _ _ _ _)
        by_cases ei : i = t.1
        · subst ei
          rw [pu1_eq]
          simp (disch := omega) only [sI_ne, sI_eq]
        · rw [pu1_ne _ _ _ ei]
          simp (disch := omega) only [sI_ne]
          exact c6.2 i (by omega)
      · simp (disch := omega) only [sI_ne]
      · intro S1 hM1
        have hT := hM1.th 0
        refine ⟨sI (sI (sI S1 99 0 0) 100 t.1 (nI d)) 99 3 (nI (t.1 + 1)), ?_, ?_, ((kM.sI (by decide)).tr (kM.sI (by decide))).tr (kM.sI (by decide))⟩
        · unfold p_X10_type
          generalize sI S1 99 0 (0 : Int32) = T at hT ⊢
          obtain ⟨m1, m2, m3, m4, m5, m6, m7⟩ := hT
          simp (disch := omega) only [fa_lit, nI_add, nI_clamp, vin_t, if_true, if_false, Option.bind_some, nI_bZ, Nat.zero_add, Bool.true_eq_false, Bool.false_eq_true, inb_if, inb_m, lne, lle, lnle, eq_self, hx, m6.1, sI_ne, sI_eq]
        · generalize sI S1 99 0 (0 : Int32) = T at hT ⊢
          obtain ⟨m1, m2, m3, m4, m5, m6, m7⟩ := hT
          refine ⟨m1.cg (fun a j q q' => ?_), m2.cg (fun j => ?_), m3.cg ?_ (fun j => ?_), m4.cg (fun a j q q' => ?_), m5.cg ?_ (fun a j q q' => ?_), ⟨sI_eq ⟨rfl, rfl⟩, fun i hi => ?_⟩, m7⟩
          · simp (disch := omega) only [sI_ne]
          · simp (disch := omega) only [sI_ne]
          · simp (disch := omega) only [sI_ne]
          · simp (disch := omega) only [sI_ne]
          · simp (disch := omega) only [sI_ne]
          · simp (disch := omega) only [sI_ne]
          · simp (disch := omega) only [sI_ne]
          · have hi' : i < t.1 + 1 := hi
            show _ = nI (pu1 _ _ _ _)
            by_cases ei : i = t.1
            · subst ei
              rw [pu1_eq]
              simp (disch := omega) only [sI_ne, sI_eq]
            · rw [pu1_ne _ _ _ ei]
              simp (disch := omega) only [sI_ne]
              exact m6.2 i (by omega)
  · refine prr hM hW ⟨S, by unfold p_X9_type; simp (disch := omega) only [fa_lit, nI_add, nI_clamp, vin_t, if_true, if_false, Option.bind_some, nI_bZ, Nat.zero_add, Bool.true_eq_false, Bool.false_eq_true, inb_if, inb_m, lne, lle, lnle, eq_self, hx]; rfl, hC, kC.rf S⟩ ?_
    (intro S1 hM1; have hT := hM1.th 0; refine ⟨_, ?_, hT, kM.sI (by decide)⟩; unfold p_X10_type; generalize sI S1 99 0 (0 : Int32) = T at hT ⊢; obtain ⟨m1, m2, m3, m4, m5, m6, m7⟩ := hT)
    simp (disch := omega) only [fa_lit, nI_add, nI_clamp, vin_t, if_true, if_false, Option.bind_some, nI_bZ, Nat.zero_add, Bool.true_eq_false, Bool.false_eq_true, inb_if, inb_m, lne, lle, lnle, eq_self, hx]
theorem pr_clear (hW : IW c s p im h t) (hC : IC c s p im h t tr S) (hM : IM c s p im h t tr S) : PRR p_X9_clear p_X10_clear S := by
  obtain ⟨c1, c2, c3, c4, c5, c6, c7, c8⟩ := hC
  obtain ⟨v1, v2, v3, v4, v5, v6⟩ := hW
  have hW' : IW c s p im h (0, t.2) := ⟨v1, v2, v3, v4, v5, ⟨Nat.zero_le 150, fun i hi => absurd hi (Nat.not_lt_zero i)⟩⟩
  refine prr hM hW' (v := nI t.1) (tr' := tr) ⟨sI S 1 1 0, by unfold p_X9_clear; rw [c6.1], ⟨c1.cg (fun a j q q' => sI_ne (by omega)), c2.cg (fun a j q q' => sI_ne (by omega)), c3.cg (fun a j q q' => sI_ne (by omega)), c4.cg (fun a j q q' => sI_ne (by omega)), c5.cg (fun a j q q' => sI_ne (by omega)), ⟨sI_eq ⟨rfl, rfl⟩, fun i hi => absurd hi (Nat.not_lt_zero i)⟩, c7, (sI_ne (by omega)).trans c8⟩, kC.sI (by decide)⟩ ?_
  intro S1 hM1
  have hT := hM1.th 0
  refine ⟨sI (sI S1 99 0 0) 99 3 0, ?_, ?_, (kM.sI (by decide)).tr (kM.sI (by decide))⟩
  · unfold p_X10_clear
    generalize sI S1 99 0 (0 : Int32) = T at hT ⊢
    rw [hT.2.2.2.2.2.1.1]
  · generalize sI S1 99 0 (0 : Int32) = T at hT ⊢
    obtain ⟨m1, m2, m3, m4, m5, m6, m7⟩ := hT
    exact ⟨m1.cg (fun a j q q' => sI_ne (by omega)), m2.cg (fun j => sI_ne (by omega)), m3.cg (sI_ne (by omega)) (fun j => sI_ne (by omega)), m4.cg (fun a j q q' => sI_ne (by omega)), m5.cg (sI_ne (by omega)) (fun a j q q' => sI_ne (by omega)), ⟨sI_eq ⟨rfl, rfl⟩, fun i hi => absurd hi (Nat.not_lt_zero i)⟩, m7⟩
theorem pr_trace (hW : IW c s p im h t) (hC : IC c s p im h t tr S) (hM : IM c s p im h t tr S) : p_X9_trace S = some (tr, S) ∧ p_X10_trace S = some (tr, sI S 99 0 0) ∧ IC c s p im h t tr (sI S 99 0 0) ∧ IM c s p im h t tr (sI S 99 0 0) := by
  refine ⟨?_, ?_, hC.kM (kM.sI (by decide)), hM.th 0⟩
  · unfold p_X9_trace; rw [hC.2.2.2.2.2.2.1]
  · unfold p_X10_trace; rw [(hM.th 0).2.2.2.2.2.2]
end RA
