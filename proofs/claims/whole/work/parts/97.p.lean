-- CITY, BOTH
theorem ct66 {v : Int32} {S : St} : ∀ n, 2 < n → q_X9_city_66 n v (nI 0) S = some (v, sI (sI S 89 0 0) 89 1 0) := by
  intro n hn
  obtain ⟨m, rfl⟩ : ∃ m, n = m + 1 + 1 + 1 := ⟨n - 3, by omega⟩
  rw [q_X9_city_66]
  simp (disch := omega) only [fa_lit, leN, show ¬ 2 ≤ 0 from by omega, if_false, vin_t, if_true, nI_clamp, nI_add, Nat.zero_add]
  rw [q_X9_city_66]
  simp (disch := omega) only [fa_lit, leN, show ¬ 2 ≤ 1 from by omega, if_false, vin_t, if_true, nI_clamp, nI_add]
  rw [q_X9_city_66]
  simp (disch := omega) only [fa_lit, leN, Nat.reduceAdd, Nat.le_refl, if_true]
theorem neg10 {e : Nat} (h : e ≤ 150) : ¬ (0 : Int32) ≤ -10 - nI e := by
  have : ∀ e, e < 151 → ¬ (0 : Int32) ≤ -10 - nI e := by decide +kernel
  exact this e (by omega)
section CI
variable {c : Cty} {s : Sce} {p : Pst} {im : Img} {h : Hea} {t : Txt} {tr : Int64} {S S' : St}
theorem IC.kR (hC : IC c s p im h t tr S) (k : kR S S') : IC c s p im h t tr S' := by
  obtain ⟨c1, c2, c3, c4, c5, c6, c7, c8⟩ := hC
  have e : ∀ a j, ¬ (a = 1 ∧ j ≠ 1) → ¬ (12 ≤ a ∧ a ≤ 20) → S'.1 a j = S.1 a j := k.1
  exact ⟨c1.cg (fun a j q q' => e a j (by omega) (by omega)), c2.cg (fun a j q q' => e a j (by omega) (by omega)), c3.cg (fun a j q q' => e a j (by omega) (by omega)), c4.cg (fun a j q q' => e a j (by omega) (by omega)), c5.cg (fun a j q q' => e a j (by omega) (by omega)), c6.cg (fun j => e 2 j (by omega) (by omega)) (e 1 1 (by omega) (by omega)), by rw [k.2]; exact c7, (e 92 0 (by omega) (by omega)).trans c8⟩
theorem kR.kC (k : kR S S') : kC S S' := ⟨fun a j q => k.1 a j (by omega) (by omega), by rw [k.2]⟩
/-- the class's city -/
theorem cityC (hW : IW c s p im h t) (hC : IC c s p im h t tr S) : match prs t 200 0 0 d0 with
  | .inl e => e ≤ 150 ∧ CS_ p_X9_city (-10 - nI e) (IC c s p im h t tr) S
  | .inr q => WD q.2 ∧ CS_ p_X9_city (nI q.1) (IC (ctD q.2) (scD q.2) (0, p.2) (fun _ => (false, s)) (0, h.2) (0, t.2) tr) S := by
  have ht : WT t := hW.2.2.2.2.2
  have hi := intoC ht hC.2.2.2.2.2.1
  cases hr : prs t 200 0 0 d0 with
  | inl e =>
    rw [hr] at hi
    obtain ⟨S1, e1, k1, l1⟩ := hi
    have le := Nat.le_trans l1 ht.1
    refine ⟨le, S1, ?_, hC.kR k1, k1.kC⟩
    unfold p_X9_city
    rw [e1, Option.bind_some]
    show (if (0 : Int32) ≤ -10 - nI e then _ else some (-10 - nI e, S1)) = _
    rw [if_neg (neg10 le)]
  | inr q =>
    rw [hr] at hi
    obtain ⟨S1, e1, k1, l1, l2, l3⟩ := hi
    have lx : q.1 < 2 ^ 31 := by have := ht.1; omega
    refine ⟨l2, ?_⟩
    have hC1 := hC.kR k1
    have hD2 : RD q.2 (sI S1 1 1 0) := l1.cg (sI_ne (by omega)) (fun j => sI_ne (by omega)) (fun a j _ _ _ => sI_ne (by omega)) (fun a j _ _ _ => sI_ne (by omega))
    obtain ⟨S3, e3, f1, f2, f3, f4, f5⟩ := bec2 l2 hD2
    obtain ⟨S4, e4, g1, g2, g3⟩ := begs l2 f1 f2 f3
    have fr : ∀ a j, a < 99 → (a < 1 ∨ a = 2 ∨ 25 < a) → S4.1 a j = S1.1 a j := fun a j q1 q2 => by
      rw [g2 a j (by omega), f4 a j (by omega), sI_ne (by omega)]
    have e5 := ct66 (v := nI q.1) (S := sI (sI S4 26 2 0) 95 3 0) FU (FU_gt (by decide))
    have un : p_X9_city S = some (nI q.1, sI (sI (sI (sI S4 26 2 0) 95 3 0) 89 0 0) 89 1 0) := by
      unfold p_X9_city
      rw [e1, Option.bind_some]
      show (if (0 : Int32) ≤ nI q.1 then (p_X2_becomes (sI S1 1 1 0)).bind _ else _) = _
      rw [if_pos (show (0 : Int32) ≤ nI q.1 from (show nI 0 ≤ nI q.1 ↔ _ from nI_leI (by decide) lx).mpr (Nat.zero_le _)), e3, Option.bind_some, e4, Option.bind_some]
      exact e5
    obtain ⟨c1, c2, c3, c4, c5, c6, c7, c8⟩ := hC1
    refine ⟨_, un, ⟨?_, ?_, ?_, ?_, ?_, ?_, ?_, ?_⟩, ?_⟩
    · exact f1.cg (fun a j q1 q2 => by rw [sI_ne (by omega), sI_ne (by omega), sI_ne (by omega), sI_ne (by omega), g2 a j (by omega)])
    · exact g1.cg (fun a j q1 q2 => by rw [sI_ne (by omega), sI_ne (by omega), sI_ne (by omega), sI_ne (by omega)])
    · obtain ⟨nx, n0, n1, n2, n3⟩ := c3
      refine ⟨nx, n0, ?_, ?_, fun i hi => absurd hi (Nat.not_lt_zero i)⟩
      · rw [sI_ne (by omega), sI_ne (by omega), sI_ne (by omega), sI_ne (by omega), fr _ _ (by omega) (by omega)]; exact n1
      · rw [sI_ne (by omega), sI_ne (by omega), sI_ne (by omega), sI_eq ⟨rfl, rfl⟩]; rfl
    · intro i hi
      refine ⟨?_, fun q => absurd q Bool.false_ne_true⟩
      have : i = 0 ∨ i = 1 := by omega
      rcases this with rfl | rfl
      · rw [sI_ne (by omega), sI_eq ⟨rfl, rfl⟩]; rfl
      · rw [sI_eq ⟨rfl, rfl⟩]; rfl
    · refine ⟨?_, fun i hi => absurd hi (Nat.not_lt_zero i)⟩
      rw [sI_ne (by omega), sI_ne (by omega), sI_eq ⟨rfl, rfl⟩]; rfl
    · refine ⟨?_, fun i hi => absurd hi (Nat.not_lt_zero i)⟩
      rw [sI_ne (by omega), sI_ne (by omega), sI_ne (by omega), sI_ne (by omega), g2 _ _ (by omega), f4 _ _ (by omega), sI_eq ⟨rfl, rfl⟩]; rfl
    · show S4.2 98 = tr
      rw [g3, f5]; exact c7
    · rw [sI_ne (by omega), sI_ne (by omega), sI_ne (by omega), sI_ne (by omega), fr _ _ (by omega) (by omega)]; exact c8
    · refine ⟨fun a j q1 => ?_, ?_⟩
      · rw [sI_ne (by omega), sI_ne (by omega), sI_ne (by omega), sI_ne (by omega), g2 _ _ (by omega), f4 _ _ (by omega), sI_ne (by omega)]
        exact k1.1 a j (by omega) (by omega)
      · show S4.2 99 = S.2 99
        rw [g3, f5]
        show S1.2 99 = _
        rw [k1.2]
theorem IM.kU (hW : WC c) (hM : IM c s p im h t tr S) (e : ∀ a j, ¬ (a = 99 ∧ (j = 0 ∨ (4 ≤ j ∧ j ≤ 9))) → ¬ (a = 101 ∧ 4 ≤ j) → ¬ (102 ≤ a ∧ a ≤ 104 ∧ 8 ≤ j) → ¬ (105 ≤ a ∧ a ≤ 109 ∧ 5 ≤ j) → S'.1 a j = S.1 a j) (e2 : S'.2 = S.2) : IM c s p im h t tr S' := by
  obtain ⟨w1, w2, w3, w4, w5, w6, w7⟩ := hW
  obtain ⟨m1, m2, m3, m4, m5, m6, m7⟩ := hM
  obtain ⟨r1, r2, r3, r4, r5, r6⟩ := m1
  refine ⟨⟨?_, ?_, ?_, ?_, fun d hd => ?_, fun b hb => ?_⟩, m2.cg (fun j => e _ _ (by omega) (by omega) (by omega) (by omega)), m3.cg (e _ _ (by omega) (by omega) (by omega) (by omega)) (fun j => e _ _ (by omega) (by omega) (by omega) (by omega)), m4.cg (fun a j q q' => e _ _ (by omega) (by omega) (by omega) (by omega)), m5.cg (e _ _ (by omega) (by omega) (by omega) (by omega)) (fun a j q q' => e _ _ (by omega) (by omega) (by omega) (by omega)), m6.cg (e _ _ (by omega) (by omega) (by omega) (by omega)) (fun j => e _ _ (by omega) (by omega) (by omega) (by omega)), by rw [e2]; exact m7⟩
  · rw [e _ _ (by omega) (by omega) (by omega) (by omega)]; exact r1
  · rw [e _ _ (by omega) (by omega) (by omega) (by omega)]; exact r2
  · rw [e _ _ (by omega) (by omega) (by omega) (by omega)]; exact r3
  · rw [e _ _ (by omega) (by omega) (by omega) (by omega)]; exact r4
  · rw [e _ _ (by omega) (by omega) (by omega) (by omega), e _ _ (by omega) (by omega) (by omega) (by omega)]; exact r5 d hd
  · rw [e _ _ (by omega) (by omega) (by omega) (by omega), e _ _ (by omega) (by omega) (by omega) (by omega), e _ _ (by omega) (by omega) (by omega) (by omega), e _ _ (by omega) (by omega) (by omega) (by omega)]; exact r6 b hb
/-- the reference's city -/
theorem cityM (hW : IW c s p im h t) (hM : IM c s p im h t tr S) : match prs t 200 0 0 d0 with
  | .inl e => MS_ p_X10_city (-10 - nI e) (IM c s p im h t tr) S
  | .inr q => WD q.2 → MS_ p_X10_city (nI q.1) (IM (ctD q.2) (scD q.2) (0, p.2) (fun _ => (false, s)) (0, h.2) (0, t.2) tr) S := by
  have ht : WT t := hW.2.2.2.2.2
  have hL := ht.1
  obtain ⟨T, e1, q1, q2, q3, q4, q5⟩ := cityB ht hM.2.2.2.2.2.1
  have hp := city_25 ht 200 0 0 FU d0 T (by omega) (FU_gt (by omega)) (Nat.le_refl 0) (fun _ => ⟨rfl, rfl⟩) d0_W q1 q3 q2
  cases hr : prs t 200 0 0 d0 with
  | inl e =>
    rw [hr] at hp
    obtain ⟨T', k, f⟩ := hp
    refine ⟨T', e1.trans f, hM.kU hW.1 (fun a j c1 c2 c3 c4 => ?_) (k.2.trans q5), ⟨fun a j q => ?_, by rw [k.2, q5]⟩⟩
    · rw [k.1 a j (by omega) c2 c3 c4, q4 a j c1 c2]
    · rw [k.1 a j (by omega) (by omega) (by omega) (by omega), q4 a j (by omega) (by omega)]
  | inr q =>
    intro hD
    rw [hr] at hp
    obtain ⟨T', k, f, g⟩ := hp
    obtain ⟨T2, z1, z2, z3, z4, z5, z6, z7, z8, z9, z10⟩ := settles hD g
    have un : p_X10_city S = some (nI q.1, T2) := by
      rw [e1, f, z1, Option.bind_some]
    refine ⟨T2, un, ⟨z2, z3, ⟨z6, fun i hi => absurd hi (Nat.not_lt_zero i)⟩, fun i hi => ⟨?_, fun q => absurd q Bool.false_ne_true⟩, ⟨z5, fun i hi => absurd hi (Nat.not_lt_zero i)⟩, ⟨z4, fun i hi => absurd hi (Nat.not_lt_zero i)⟩, ?_⟩, ⟨fun a j q => ?_, ?_⟩⟩
    · have : i = 0 ∨ i = 1 := by omega
      rcases this with rfl | rfl
      · exact z7
      · exact z8
    · rw [z10, k.2, q5]; exact hM.2.2.2.2.2.2
    · rw [z9 a j q, k.1 a j (by omega) (by omega) (by omega) (by omega), q4 a j (by omega) (by omega)]
    · rw [z10, k.2, q5]
theorem pr_city (hW : IW c s p im h t) (hC : IC c s p im h t tr S) (hM : IM c s p im h t tr S) : PRR p_X9_city p_X10_city S := by
  have a := cityC hW hC
  have b := fun S1 (hM1 : IM c s p im h t tr S1) => cityM hW hM1
  cases hr : prs t 200 0 0 d0 with
  | inl e =>
    rw [hr] at a b
    exact prr hM hW a.2 b
  | inr q =>
    rw [hr] at a b
    have hw := ctD_W a.1
    refine prr hM (c' := ctD q.2) (s' := scD q.2) (p' := (0, p.2)) (im' := fun _ => (false, s)) (h' := (0, h.2)) (t' := (0, t.2)) ⟨hw.1, hw.2, ⟨Nat.zero_le 10, fun i hi => absurd hi (Nat.not_lt_zero i)⟩, fun i hi q => absurd q Bool.false_ne_true, ⟨Nat.zero_le 6, fun i hi => absurd hi (Nat.not_lt_zero i)⟩, ⟨Nat.zero_le 150, fun i hi => absurd hi (Nat.not_lt_zero i)⟩⟩ a.2 (fun S1 h1 => b S1 h1 a.1)
end CI
