-- KEEP, BACK
section KB
variable {c : Cty} {s : Sce} {p : Pst} {im : Img} {h : Hea} {t : Txt} {tr : Int64} {S : St}
theorem kp_m {x : Nat} {S : St} (hx : x < 2) : ∀ (k i n : Nat), i + k = 25 → k < n → q_X10_keep_18 n (nI x) (nI i) (crw 111 (25 * x) 110 0 i S) = some (S.1 110 24, sI (crw 111 (25 * x) 110 0 25 S) 112 x (nI 1)) := by
  intro k
  induction k with
  | zero =>
    intro i n hi hn
    obtain ⟨m, rfl⟩ : ∃ m, n = m + 1 := ⟨n - 1, by omega⟩
    have g : (crw 111 (25 * x) 110 0 25 S).1 110 24 = S.1 110 24 := crw_ne (by omega)
    rw [q_X10_keep_18, show i = 25 by omega]
    simp (disch := omega) only [fa_lit, Int32.le_refl, if_true, vin_t, nI_clamp, sI_ne, g]
  | succ k ih =>
    intro i n hi hn
    obtain ⟨m, rfl⟩ : ∃ m, n = m + 1 := ⟨n - 1, by omega⟩
    rw [q_X10_keep_18]
    have e1 : (crw 111 (25 * x) 110 0 i S).1 110 i = S.1 110 (0 + i) := by rw [crw_ne (by omega), Nat.zero_add]
    simp (disch := omega) only [fa_lit, leN, show ¬ 25 ≤ i from by omega, if_false, vin_t, if_true, nI_clamp, nI_add, mulN, e1]
    rw [crw_s]
    exact ih (i + 1) m (by omega) (by omega)
theorem bk_m {x : Nat} {S : St} (hx : x < 2) : ∀ (k i n : Nat), i + k = 25 → k < n → q_X10_back_30 n (nI x) (nI i) (crw 110 0 111 (25 * x) i S) = some (S.1 111 (25 * x + 24), sI (crw 110 0 111 (25 * x) 25 S) 99 23 (nI 0)) := by
  intro k
  induction k with
  | zero =>
    intro i n hi hn
    obtain ⟨m, rfl⟩ : ∃ m, n = m + 1 := ⟨n - 1, by omega⟩
    have g : (crw 110 0 111 (25 * x) 25 S).1 110 24 = S.1 111 (25 * x + 24) := by
      have := crw_in (a0 := 110) (o0 := 0) (a1 := 111) (o1 := 25 * x) (n := 25) (S := S) (j := 24) (by omega)
      rw [Nat.zero_add] at this
      exact this
    rw [q_X10_back_30, show i = 25 by omega]
    simp (disch := omega) only [fa_lit, Int32.le_refl, if_true, vin_t, nI_clamp, sI_ne, g]
  | succ k ih =>
    intro i n hi hn
    obtain ⟨m, rfl⟩ : ∃ m, n = m + 1 := ⟨n - 1, by omega⟩
    rw [q_X10_back_30]
    have e1 : (crw 110 0 111 (25 * x) i S).1 111 (25 * x + i) = S.1 111 (25 * x + i) := crw_ne (by omega)
    have e2 := crw_s (a0 := 110) (o0 := 0) (a1 := 111) (o1 := 25 * x) (n := i) (S := S)
    rw [Nat.zero_add] at e2
    simp (disch := omega) only [fa_lit, leN, show ¬ 25 ≤ i from by omega, if_false, vin_t, if_true, nI_clamp, nI_add, mulN, e1]
    rw [e2]
    exact ih (i + 1) m (by omega) (by omega)
theorem pr_keep (hW : IW c s p im h t) (hC : IC c s p im h t tr S) (hM : IM c s p im h t tr S) (x : Int32) : PRR (p_X9_keep x) (p_X10_keep x) S := by
  have hw := hW.1
  rcases inb_le (n := 1) (by decide) x with ⟨k, hk, rfl, hx⟩ | ⟨hx, _⟩
  · have hW' : IW c s p (pu1 im k (true, s)) h t := by
      obtain ⟨v1, v2, v3, v4, v5, v6⟩ := hW
      refine ⟨v1, v2, v3, fun i hi => ?_, v5, v6⟩
      by_cases e : i = k
      · subst e; rw [pu1_eq]; exact fun _ => v2
      · rw [pu1_ne _ _ _ e]; exact v4 i hi
    obtain ⟨c1, c2, c3, c4, c5, c6, c7, c8⟩ := hC
    obtain ⟨S', e, f1, f2, f3⟩ := becomes (k0 := 79 + 5 * k) (k1 := 21) S (by omega)
    have r21 : S.1 21 5 = nI (syr s) := c2.2.2.2
    refine prr hM hW' (v := nI (syr s)) (tr' := tr) ⟨sI S' 89 k (nI 1), ?_, ⟨?_, ?_, ?_, ?_, ?_, ?_, ?_, ?_⟩, ?_⟩ ?_
    · unfold p_X9_keep
      simp (disch := omega) only [fa_lit, nI_add, nI_clamp, vin_t, if_true, if_false, Option.bind_some, nI_bZ, Nat.zero_add, Bool.true_eq_false, Bool.false_eq_true, inb_if, inb_m, lne, lle, lnle, eq_self, hx, ll78, e, sI_ne]
      rw [f2 21 5 (by omega), r21]
    · exact c1.cg (fun a j q q' => by rw [sI_ne (by omega), f2 a j (by omega)])
    · exact c2.cg (fun a j q q' => by rw [sI_ne (by omega), f2 a j (by omega)])
    · exact c3.cg (fun a j q q' => by rw [sI_ne (by omega), f2 a j (by omega)])
    · intro i hi
      by_cases ei : i = k
      · subst ei
        rw [pu1_eq]
        refine ⟨sI_eq ⟨rfl, rfl⟩, fun _ => ?_⟩
        exact (f1 c s hw c2).cg (fun a j q q' => sI_ne (by omega))
      · rw [pu1_ne _ _ _ ei]
        refine ⟨?_, fun q => ((c4 i hi).2 q).cg (fun a j q q' => by rw [sI_ne (by omega), f2 a j (by omega)])⟩
        rw [sI_ne (by omega), f2 _ _ (by omega)]; exact (c4 i hi).1
    · exact c5.cg (fun a j q q' => by rw [sI_ne (by omega), f2 a j (by omega)])
    · exact c6.cg (fun j => by rw [sI_ne (by omega), f2 _ j (by omega)]) (by rw [sI_ne (by omega), f2 _ _ (by omega)])
    · show S'.2 98 = tr
      rw [f3]; exact c7
    · rw [sI_ne (by omega), f2 _ _ (by omega)]; exact c8
    · exact ⟨fun a j q => by rw [sI_ne (by omega), f2 a j (by omega)], by show S'.2 99 = _; rw [f3]⟩
    · intro S1 hM1
      have hT := hM1.th 0
      refine ⟨sI (crw 111 (25 * k) 110 0 25 (sI S1 99 0 0)) 112 k (nI 1), ?_, ?_, (kM.sI (k := 99) (i := 0) (v := 0) (by decide)).tr ⟨fun a j q => by rw [sI_ne (by omega), crw_ne (by omega)], rfl⟩⟩
      · unfold p_X10_keep
        generalize sI S1 99 0 (0 : Int32) = T at hT ⊢
        have l := kp_m (x := k) (S := T) (by omega) 25 0 FU (by omega) (FU_gt (by decide))
        rw [crw_0, hT.2.1.2.2.2] at l
        simp (disch := omega) only [fa_lit, nI_add, nI_clamp, vin_t, if_true, if_false, Option.bind_some, nI_bZ, Nat.zero_add, Bool.true_eq_false, Bool.false_eq_true, inb_if, inb_m, lne, lle, lnle, eq_self, hx]
        exact l
      · generalize sI S1 99 0 (0 : Int32) = T at hT ⊢
        obtain ⟨m1, m2, m3, m4, m5, m6, m7⟩ := hT
        have ne : ∀ a j, a ≠ 111 → a ≠ 112 → (sI (crw 111 (25 * k) 110 0 25 T) 112 k (nI 1)).1 a j = T.1 a j := fun a j q q' => by rw [sI_ne (by omega), crw_ne (by omega)]
        refine ⟨m1.cg (fun a j q q' => ne a j (by omega) (by omega)), m2.cg (fun j => ne _ _ (by omega) (by omega)), m3.cg (ne _ _ (by omega) (by omega)) (fun j => ne _ _ (by omega) (by omega)), fun i hi => ?_, m5.cg (ne _ _ (by omega) (by omega)) (fun a j q q' => ne a j (by omega) (by omega)), m6.cg (ne _ _ (by omega) (by omega)) (fun j => ne _ j (by omega) (by omega)), m7⟩
        by_cases ei : i = k
        · subst ei
          rw [pu1_eq]
          refine ⟨sI_eq ⟨rfl, rfl⟩, fun _ => m2.at_ hw (fun j hj => ?_)⟩
          rw [sI_ne (by omega), crw_in hj, Nat.zero_add]
        · rw [pu1_ne _ _ _ ei]
          refine ⟨?_, fun q => ((m4 i hi).2 q).at_ hw (fun j hj => ?_)⟩
          · rw [sI_ne (by omega), crw_ne (by omega)]; exact (m4 i hi).1
          · rw [sI_ne (by omega), crw_ne (by omega)]
  · refine prr hM hW ⟨S, by unfold p_X9_keep; simp (disch := omega) only [fa_lit, nI_add, nI_clamp, vin_t, if_true, if_false, Option.bind_some, nI_bZ, Nat.zero_add, Bool.true_eq_false, Bool.false_eq_true, inb_if, inb_m, lne, lle, lnle, eq_self, hx]; rfl, hC, kC.rf S⟩ ?_
    (intro S1 hM1; have hT := hM1.th 0; refine ⟨_, ?_, hT, kM.sI (by decide)⟩; unfold p_X10_keep; generalize sI S1 99 0 (0 : Int32) = T at hT ⊢; obtain ⟨m1, m2, m3, m4, m5, m6, m7⟩ := hT)
    simp (disch := omega) only [fa_lit, nI_add, nI_clamp, vin_t, if_true, if_false, Option.bind_some, nI_bZ, Nat.zero_add, Bool.true_eq_false, Bool.false_eq_true, inb_if, inb_m, lne, lle, lnle, eq_self, hx]
theorem pr_back (hW : IW c s p im h t) (hC : IC c s p im h t tr S) (hM : IM c s p im h t tr S) (x : Int32) : PRR (p_X9_back x) (p_X10_back x) S := by
  have hw := hW.1
  rcases inb_le (n := 1) (by decide) x with ⟨k, hk, rfl, hx⟩ | ⟨hx, _⟩
  · have hk2 : k < 2 := by omega
    cases hb : (im k).1 with
    | false =>
      have r89 := (hC.2.2.2.1 k hk2).1
      rw [hb] at r89
      refine prr hM hW ⟨S, by unfold p_X9_back; simp (disch := omega) only [fa_lit, nI_add, nI_clamp, vin_t, if_true, if_false, Option.bind_some, nI_bZ, Nat.zero_add, Bool.true_eq_false, Bool.false_eq_true, inb_if, inb_m, lne, lle, lnle, eq_self, hx, r89]; rfl, hC, kC.rf S⟩ ?_
      (intro S1 hM1; have hT := hM1.th 0; refine ⟨_, ?_, hT, kM.sI (by decide)⟩; unfold p_X10_back; generalize sI S1 99 0 (0 : Int32) = T at hT ⊢; obtain ⟨m1, m2, m3, m4, m5, m6, m7⟩ := hT)
      have t112 := (m4 k hk2).1
      rw [hb] at t112
      simp (disch := omega) only [fa_lit, nI_add, nI_clamp, vin_t, if_true, if_false, Option.bind_some, nI_bZ, Nat.zero_add, Bool.true_eq_false, Bool.false_eq_true, inb_if, inb_m, lne, lle, lnle, eq_self, hx, t112]
    | true =>
      have hW' : IW c (im k).2 (0, p.2) im h t := by
        obtain ⟨v1, v2, v3, v4, v5, v6⟩ := hW
        exact ⟨v1, v4 k hk2 hb, ⟨Nat.zero_le 10, fun i hi => absurd hi (Nat.not_lt_zero i)⟩, v4, v5, v6⟩
      have r89 := (hC.2.2.2.1 k hk2).1
      rw [hb] at r89
      obtain ⟨c1, c2, c3, c4, c5, c6, c7, c8⟩ := hC
      have rk := (c4 k hk2).2 hb
      obtain ⟨S', e, f1, f2, f3⟩ := becomes (k0 := 21) (k1 := 79 + 5 * k) S (by omega)
      have g := f1 c (im k).2 hw rk
      have g5 : S'.1 21 5 = nI (syr (im k).2) := g.2.2.2
      obtain ⟨nx, hnx, n1, n2, n3⟩ := c3
      refine prr hM hW' (v := nI (syr (im k).2)) (tr' := tr) ⟨sI S' 26 2 (nI 0), ?_, ⟨?_, ?_, ?_, ?_, ?_, ?_, ?_, ?_⟩, ?_⟩ ?_
      · unfold p_X9_back
        simp (disch := omega) only [fa_lit, nI_add, nI_clamp, vin_t, if_true, if_false, Option.bind_some, nI_bZ, Nat.zero_add, Bool.true_eq_false, Bool.false_eq_true, inb_if, inb_m, lne, lle, lnle, eq_self, hx, r89, ll78, e, sI_ne, g5]
      · exact c1.cg (fun a j q q' => by rw [sI_ne (by omega), f2 a j (by omega)])
      · exact g.cg (fun a j q q' => sI_ne (by omega))
      · exact ⟨nx, hnx, by rw [sI_ne (by omega), f2 _ _ (by omega)]; exact n1, sI_eq ⟨rfl, rfl⟩, fun i hi => absurd hi (Nat.not_lt_zero i)⟩
      · exact c4.cg (fun a j q q' => by rw [sI_ne (by omega), f2 a j (by omega)])
      · exact c5.cg (fun a j q q' => by rw [sI_ne (by omega), f2 a j (by omega)])
      · exact c6.cg (fun j => by rw [sI_ne (by omega), f2 _ j (by omega)]) (by rw [sI_ne (by omega), f2 _ _ (by omega)])
      · show S'.2 98 = tr
        rw [f3]; exact c7
      · rw [sI_ne (by omega), f2 _ _ (by omega)]; exact c8
      · exact ⟨fun a j q => by rw [sI_ne (by omega), f2 a j (by omega)], by show S'.2 99 = _; rw [f3]⟩
      · intro S1 hM1
        have hT := hM1.th 0
        refine ⟨sI (crw 110 0 111 (25 * k) 25 (sI S1 99 0 0)) 99 23 (nI 0), ?_, ?_, (kM.sI (k := 99) (i := 0) (v := 0) (by decide)).tr ⟨fun a j q => by rw [sI_ne (by omega), crw_ne (by omega)], rfl⟩⟩
        · unfold p_X10_back
          generalize sI S1 99 0 (0 : Int32) = T at hT ⊢
          have l := bk_m (x := k) (S := T) (by omega) 25 0 FU (by omega) (FU_gt (by decide))
          have t112 := (hT.2.2.2.1 k hk2).1
          rw [hb] at t112
          have tk := (hT.2.2.2.1 k hk2).2 hb
          rw [crw_0, show T.1 111 (25 * k + 24) = nI (syr (im k).2) from tk.2.2.2] at l
          simp (disch := omega) only [fa_lit, nI_add, nI_clamp, vin_t, if_true, if_false, Option.bind_some, nI_bZ, Nat.zero_add, Bool.true_eq_false, Bool.false_eq_true, inb_if, inb_m, lne, lle, lnle, eq_self, hx, t112]
          exact l
        · generalize sI S1 99 0 (0 : Int32) = T at hT ⊢
          obtain ⟨m1, m2, m3, m4, m5, m6, m7⟩ := hT
          have ne : ∀ a j, a ≠ 110 → ¬ (a = 99 ∧ j = 23) → (sI (crw 110 0 111 (25 * k) 25 T) 99 23 (nI 0)).1 a j = T.1 a j := fun a j q q' => by rw [sI_ne (by omega), crw_ne (by omega)]
          refine ⟨m1.cg (fun a j q q' => ne a j (by omega) (by omega)), ?_, ⟨sI_eq ⟨rfl, rfl⟩, fun i hi => absurd hi (Nat.not_lt_zero i)⟩, m4.cg (fun a j q q' => ne a j (by omega) (by omega)), m5.cg (ne _ _ (by omega) (by omega)) (fun a j q q' => ne a j (by omega) (by omega)), m6.cg (ne _ _ (by omega) (by omega)) (fun j => ne _ j (by omega) (by omega)), m7⟩
          refine ((m4 k hk2).2 hb).at_ hw (fun j hj => ?_)
          have := crw_in (a0 := 110) (o0 := 0) (a1 := 111) (o1 := 25 * k) (n := 25) (S := T) hj
          rw [Nat.zero_add] at this
          rw [sI_ne (by omega), this]
  · refine prr hM hW ⟨S, by unfold p_X9_back; simp (disch := omega) only [fa_lit, nI_add, nI_clamp, vin_t, if_true, if_false, Option.bind_some, nI_bZ, Nat.zero_add, Bool.true_eq_false, Bool.false_eq_true, inb_if, inb_m, lne, lle, lnle, eq_self, hx]; rfl, hC, kC.rf S⟩ ?_
    (intro S1 hM1; have hT := hM1.th 0; refine ⟨_, ?_, hT, kM.sI (by decide)⟩; unfold p_X10_back; generalize sI S1 99 0 (0 : Int32) = T at hT ⊢; obtain ⟨m1, m2, m3, m4, m5, m6, m7⟩ := hT)
    simp (disch := omega) only [fa_lit, nI_add, nI_clamp, vin_t, if_true, if_false, Option.bind_some, nI_bZ, Nat.zero_add, Bool.true_eq_false, Bool.false_eq_true, inb_if, inb_m, lne, lle, lnle, eq_self, hx]
end KB
