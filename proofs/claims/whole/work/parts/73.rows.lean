-- ROWS OF THE REFERENCE: copies, what is remembered
def crw (a0 o0 a1 o1 n : Nat) (S : St) : St := (fun a j => if a = a0 ∧ o0 ≤ j ∧ j < o0 + n then S.1 a1 (j - o0 + o1) else S.1 a j, S.2)
theorem crw_0 (a0 o0 a1 o1 : Nat) (S : St) : crw a0 o0 a1 o1 0 S = S := by
  refine Prod.ext ?_ rfl
  funext a j
  exact if_neg (by omega)
theorem crw_ne {a0 o0 a1 o1 n : Nat} {S : St} {a j : Nat} (h : a ≠ a0 ∨ j < o0 ∨ o0 + n ≤ j) : (crw a0 o0 a1 o1 n S).1 a j = S.1 a j := if_neg (by omega)
theorem crw_in {a0 o0 a1 o1 n : Nat} {S : St} {j : Nat} (h : j < n) : (crw a0 o0 a1 o1 n S).1 a0 (o0 + j) = S.1 a1 (o1 + j) := by
  refine (if_pos ⟨rfl, by omega, by omega⟩).trans ?_
  rw [show o0 + j - o0 + o1 = o1 + j by omega]
theorem crw_s {a0 o0 a1 o1 n : Nat} {S : St} : sI (crw a0 o0 a1 o1 n S) a0 (o0 + n) (S.1 a1 (o1 + n)) = crw a0 o0 a1 o1 (n + 1) S := by
  refine Prod.ext ?_ rfl
  funext a j
  simp only [sI_1, crw]
  by_cases e : a = a0 ∧ j = o0 + n
  · obtain ⟨rfl, rfl⟩ := e
    rw [if_pos ⟨rfl, rfl⟩, if_pos ⟨rfl, by omega, by omega⟩, show o0 + n - o0 + o1 = o1 + n by omega]
  · rw [if_neg e]
    by_cases e2 : a = a0 ∧ o0 ≤ j ∧ j < o0 + n
    · rw [if_pos e2, if_pos (by omega)]
    · rw [if_neg e2, if_neg (by omega)]
theorem mulN (a b : Nat) : nI a * nI b = nI (a * b) := by
  apply Int32.toBitVec_inj.mp
  show BitVec.ofNat 32 a * BitVec.ofNat 32 b = BitVec.ofNat 32 (a * b)
  rw [BitVec.ofNat_mul]
theorem no_47 {k0 : Nat} {S : St} (hk : k0 < 10) (hS : S.1 99 23 = nI k0) : ∀ (k i n : Nat), i + k = 25 → k < n → q_X10_notes_47 n (nI i) (crw 113 (25 * k0) 110 0 i S) = some (sI (crw 113 (25 * k0) 110 0 25 S) 99 23 (nI (k0 + 1))) := by
  have g : ∀ i, (crw 113 (25 * k0) 110 0 i S).1 99 23 = nI k0 := fun i => (crw_ne (by omega)).trans hS
  intro k
  induction k with
  | zero =>
    intro i n hi hn
    obtain ⟨m, rfl⟩ : ∃ m, n = m + 1 := ⟨n - 1, by omega⟩
    rw [q_X10_notes_47, show i = 25 by omega]
    simp (disch := omega) only [fa_lit, Int32.le_refl, if_true, g, nI_add]
  | succ k ih =>
    intro i n hi hn
    obtain ⟨m, rfl⟩ : ∃ m, n = m + 1 := ⟨n - 1, by omega⟩
    rw [q_X10_notes_47]
    have e1 : (crw 113 (25 * k0) 110 0 i S).1 110 i = S.1 110 (0 + i) := by rw [crw_ne (by omega), Nat.zero_add]
    simp (disch := omega) only [fa_lit, leN, show ¬ 25 ≤ i from by omega, if_false, vin_t, if_true, nI_clamp, nI_add, g, mulN, e1]
    rw [crw_s]
    exact ih (i + 1) m (by omega) (by omega)
theorem no_11 {S : St} : ∀ (k i n : Nat), i + k = 225 → k < n → q_X10_notes_11 n (nI i) (crw 113 0 113 25 i S) = q_X10_notes_47 FU (nI 0) (sI (crw 113 0 113 25 225 S) 99 23 (nI 9)) := by
  intro k
  induction k with
  | zero =>
    intro i n hi hn
    obtain ⟨m, rfl⟩ : ∃ m, n = m + 1 := ⟨n - 1, by omega⟩
    rw [q_X10_notes_11, show i = 225 by omega]
    simp (disch := omega) only [fa_lit, Int32.le_refl, if_true]
  | succ k ih =>
    intro i n hi hn
    obtain ⟨m, rfl⟩ : ∃ m, n = m + 1 := ⟨n - 1, by omega⟩
    rw [q_X10_notes_11]
    have e1 : (crw 113 0 113 25 i S).1 113 (i + 25) = S.1 113 (25 + i) := by rw [crw_ne (by omega), Nat.add_comm]
    simp (disch := omega) only [fa_lit, leN, show ¬ 225 ≤ i from by omega, if_false, vin_t, if_true, nI_clamp, nI_add, e1]
    have e2 := crw_s (a0 := 113) (o0 := 0) (a1 := 113) (o1 := 25) (n := i) (S := S)
    rw [Nat.zero_add] at e2
    rw [e2]
    exact ih (i + 1) m (by omega) (by omega)
theorem no_11_ (S : St) : q_X10_notes_11 FU (0 : Int32) S = q_X10_notes_47 FU (nI 0) (sI (crw 113 0 113 25 225 S) 99 23 (nI 9)) := by
  have e := no_11 (S := S) 225 0 FU (by omega) (FU_gt (by decide))
  rw [crw_0] at e
  exact e
section RW_
variable {c : Cty} {s : Sce} {p : Pst} {im : Img} {h : Hea} {t : Txt} {tr : Int64} {S : St}
theorem MS.at_ {f : Nat → Int32} {g : Nat → Int32} (hw : WC c) (hR : MS c s f) (e : ∀ j, j < 25 → g j = f j) : MS c s g := by
  obtain ⟨w1, w2, w3, w4, w5, w6, w7⟩ := hw
  obtain ⟨r1, r2, r3, r4⟩ := hR
  refine ⟨fun b hb => ?_, fun d hd => ?_, ?_, ?_⟩
  · rw [e _ (by omega), e _ (by omega), e _ (by omega)]; exact r1 b hb
  · rw [e _ (by omega)]; exact r2 d hd
  · rw [e _ (by omega)]; exact r3
  · rw [e _ (by omega)]; exact r4
/-- one row more, the k0-th, when there are k0 -/
theorem no_row (hw : WC c) {p0 : Pst} (hp : p0.1 < 10) (m1 : MC c S) (m2 : MS c s (S.1 110)) (m3 : MP c p0 S) (m4 : MI_ c im S) (m5 : MH h S) (m6 : MT t S) (m7 : S.2 99 = tr) : ∃ S', q_X10_notes_47 FU (nI 0) S = some S' ∧ IM c s (p0.1 + 1, pu1 p0.2 p0.1 s) im h t tr S' ∧ kM S S' := by
  have e := no_47 (S := S) hp m3.1 25 0 FU (by omega) (FU_gt (by decide))
  rw [crw_0] at e
  have ne : ∀ a j, 99 ≠ a → 113 ≠ a → (sI (crw 113 (25 * p0.1) 110 0 25 S) 99 23 (nI (p0.1 + 1))).1 a j = S.1 a j := fun a j q q' => by rw [sI_ne (by omega), crw_ne (by omega)]
  have ne9 : ∀ j, j ≠ 23 → (sI (crw 113 (25 * p0.1) 110 0 25 S) 99 23 (nI (p0.1 + 1))).1 99 j = S.1 99 j := fun j q => by rw [sI_ne (by omega), crw_ne (by omega)]
  refine ⟨_, e, ⟨m1.cg (fun a j q q' => ne a j (by omega) (by omega)), m2.cg (fun j => ne 110 j (by omega) (by omega)), ⟨sI_eq ⟨rfl, rfl⟩, fun i hi => ?_⟩, m4.cg (fun a j q q' => ne a j (by omega) (by omega)), m5.cg (ne9 26 (by omega)) (fun a j q q' => ne a j (by omega) (by omega)), m6.cg (ne9 3 (by omega)) (fun j => ne 100 j (by omega) (by omega)), m7⟩, ⟨fun a j q => ne a j (by omega) (by omega), rfl⟩⟩
  have hi' : i < p0.1 + 1 := hi
  show MS c (pu1 p0.2 p0.1 s i) _
  by_cases ei : i = p0.1
  · subst ei
    rw [pu1_eq]
    refine m2.at_ hw (fun j hj => ?_)
    rw [sI_ne (by omega), crw_in hj, Nat.zero_add]
  · rw [pu1_ne _ _ _ ei]
    refine (m3.2 i (by omega)).at_ hw (fun j hj => ?_)
    show _ = S.1 113 (25 * i + j)
    rw [sI_ne (by omega), crw_ne (by omega)]
theorem xm_notes (hW : IW c s p im h t) (hM : IM c s p im h t tr S) : ∃ S', p_X10_notes S = some S' ∧ IM c s (psh p s) im h t tr S' ∧ kM S S' := by
  obtain ⟨m1, m2, m3, m4, m5, m6, m7⟩ := hM
  have hw := hW.1
  have hp := hW.2.2.1.1
  unfold p_X10_notes psh
  by_cases e10 : p.1 = 10
  · have e23 := m3.1
    rw [e10] at e23
    rw [if_pos (by rw [e23]; rfl), if_pos e10, no_11_ S]
    have ne : ∀ a j, 99 ≠ a → 113 ≠ a → (sI (crw 113 0 113 25 225 S) 99 23 (nI 9)).1 a j = S.1 a j := fun a j q q' => by rw [sI_ne (by omega), crw_ne (by omega)]
    have ne9 : ∀ j, j ≠ 23 → (sI (crw 113 0 113 25 225 S) 99 23 (nI 9)).1 99 j = S.1 99 j := fun j q => by rw [sI_ne (by omega), crw_ne (by omega)]
    obtain ⟨S', f1, f2, f3⟩ := no_row (c := c) (s := s) (im := im) (h := h) (t := t) (tr := tr) (S := sI (crw 113 0 113 25 225 S) 99 23 (nI 9)) hw (p0 := (9, fun i => p.2 (i + 1))) (by show 9 < 10; omega) (m1.cg (fun a j q q' => ne a j (by omega) (by omega))) (m2.cg (fun j => ne 110 j (by omega) (by omega))) ⟨sI_eq ⟨rfl, rfl⟩, fun i hi => by
      have hi' : i < 9 := hi
      show MS c (p.2 (i + 1)) _
      refine (m3.2 (i + 1) (by omega)).at_ hw (fun j hj => ?_)
      show _ = S.1 113 (25 * (i + 1) + j)
      rw [sI_ne (by omega)]
      have := crw_in (a0 := 113) (o0 := 0) (a1 := 113) (o1 := 25) (n := 225) (S := S) (j := 25 * i + j) (by omega)
      rw [Nat.zero_add] at this
      rw [this, show 25 + (25 * i + j) = 25 * (i + 1) + j by omega]⟩ (m4.cg (fun a j q q' => ne a j (by omega) (by omega))) (m5.cg (ne9 26 (by omega)) (fun a j q q' => ne a j (by omega) (by omega))) (m6.cg (ne9 3 (by omega)) (fun j => ne 100 j (by omega) (by omega))) m7
    refine ⟨S', f1, ?_, ⟨fun a j q => (f3.1 a j q).trans (ne a j (by omega) (by omega)), f3.2⟩⟩
    have e : ((10, fun i => if i = 9 then s else p.2 (i + 1)) : Pst) = (9 + 1, pu1 (fun i => p.2 (i + 1)) 9 s) := rfl
    rw [e]
    exact f2
  · rw [if_neg (by rw [m3.1, fa_lit, eqN (by omega) (by omega)]; exact e10), if_neg e10]
    exact no_row hw (by omega) m1 m2 m3 m4 m5 m6 m7
end RW_
