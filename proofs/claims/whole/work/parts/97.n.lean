-- THE NEW CITY, THE NEW SCENE; the reference holds them
def ctD (D : Dft) : Cty := ((D.1.1, D.1.2.1, D.1.2.2.1, D.1.2.2.2.1), (D.2.1.1, D.2.1.2.1, D.2.2.2.2.2.2), (fun b => nI (D.2.2.1 b), fun b => nI (D.2.2.2.1 b), fun b => nI (D.2.2.2.2.2.1 b)))
def scD (D : Dft) : Sce := ((D.2.2.2.2.2.2, D.2.1.2.2), (fun b => nI (D.2.2.2.2.1 b), fun _ => 0), (0, 0))
theorem ctD_W {D : Dft} (hw : WD D) : WC (ctD D) ∧ WS_ (ctD D) (scD D) := by
  obtain ⟨w1, w2, w3, w4, w5, w6, w7, w8⟩ := hw
  exact ⟨⟨w1, w2, w3, w4, w5, fun d hd => ⟨(w7 d hd).1, (w7 d hd).2.1⟩, w8⟩, w8, fun d hd => (w7 d hd).2.2, Nat.two_pow_pos _, Nat.zero_le 99⟩
theorem sbM_at (n : Nat) (S : St) (a j : Nat) : (sbM n S).1 a j = if (a = 105 ∨ a = 106 ∨ a = 108 ∨ a = 109) ∧ j < n then S.1 a (5 + j) else if a = 110 ∧ j < n then S.1 109 (5 + j) else if a = 110 ∧ 5 ≤ j ∧ j < 5 + n then S.1 107 j else S.1 a j := rfl
theorem sdM_at (n : Nat) (S : St) (a j : Nat) : (sdM n S).1 a j = if (a = 102 ∨ a = 103) ∧ j < n then S.1 a (8 + j) else if a = 110 ∧ 15 ≤ j ∧ j < 15 + n then S.1 104 (8 + (j - 15)) else S.1 a j := rfl
theorem zrw_ne {n : Nat} {S : St} {a j : Nat} (h : ¬ (a = 110 ∧ j < n)) : (zrw n S).1 a j = S.1 a j := if_neg h
theorem settles {T : St} {D : Dft} (hw : WD D) (hD : MD D T) : ∃ T', p_X10_settles T = some T' ∧ MC (ctD D) T' ∧ MS (ctD D) (scD D) (T'.1 110) ∧ T'.1 99 3 = 0 ∧ T'.1 99 26 = 0 ∧ T'.1 99 23 = 0 ∧ T'.1 112 0 = 0 ∧ T'.1 112 1 = 0 ∧ (∀ a j, a < 99 → T'.1 a j = T.1 a j) ∧ T'.2 = T.2 := by
  obtain ⟨w1, w2, w3, w4, w5, w6, w7, w8⟩ := hw
  obtain ⟨d1, d2, d3, d4, d5, d6, d7⟩ := hD
  obtain ⟨A, hA⟩ : ∃ A, A = crw 101 0 101 4 4 T := ⟨_, rfl⟩
  obtain ⟨B, hB⟩ : ∃ B, B = zrw 25 A := ⟨_, rfl⟩
  obtain ⟨C, hC⟩ : ∃ C, C = sdM 8 B := ⟨_, rfl⟩
  obtain ⟨E, hE⟩ : ∃ E, E = sbM 5 C := ⟨_, rfl⟩
  have run_ : p_X10_settles T = some (sI (sI (sI (sI (sI E 99 3 0) 99 26 0) 99 23 0) 112 0 0) 112 1 0) := by
    have s1 := st_2 (S := T) 4 0 FU (by omega) (FU_gt (by decide))
    have s2 := st_29 (S := A) 25 0 FU (by omega) (FU_gt (by decide))
    have s3 := st_50 (S := B) 8 0 FU (by omega) (FU_gt (by decide))
    have s4 := st_112 (S := C) 5 0 FU (by omega) (FU_gt (by decide))
    rw [crw_0, ← hA] at s1
    rw [zrw_0, ← hB] at s2
    rw [sdM_0, ← hC] at s3
    rw [sbM_0, ← hE] at s4
    unfold p_X10_settles
    exact s1.trans (s2.trans (s3.trans s4))
  have out : ∀ a j, a ≠ 99 → a ≠ 112 → (sI (sI (sI (sI (sI E 99 3 0) 99 26 0) 99 23 0) 112 0 0) 112 1 0).1 a j = E.1 a j := fun a j h1 h2 => by
    rw [sI_ne (by omega), sI_ne (by omega), sI_ne (by omega), sI_ne (by omega), sI_ne (by omega)]
  have aN : ∀ a j, a ≠ 101 → A.1 a j = T.1 a j := fun a j h => by rw [hA]; exact crw_ne (by omega)
  have bN_ : ∀ a j, a ≠ 101 → a ≠ 110 → B.1 a j = T.1 a j := fun a j h h' => by rw [hB, zrw_ne (by omega)]; exact aN a j h
  have p0 : ∀ i, i < 4 → E.1 101 i = T.1 101 (4 + i) := fun i hi => by
    rw [hE, sbM_ne (by omega) (by omega), hC, sdM_ne (by omega) (by omega), hB, zrw_ne (by omega), hA]
    have := crw_in (a0 := 101) (o0 := 0) (a1 := 101) (o1 := 4) (n := 4) (S := T) hi
    rw [Nat.zero_add] at this
    exact this
  have pd : ∀ a d, a = 102 ∨ a = 103 → d < 8 → E.1 a d = T.1 a (8 + d) := fun a d ha hd => by
    rw [hE, sbM_ne (by omega) (by omega), hC]
    exact (if_pos ⟨ha, hd⟩).trans (bN_ _ _ (by omega) (by omega))
  have cN : ∀ a j, 105 ≤ a → a ≤ 109 → C.1 a j = T.1 a j := fun a j h h' => by rw [hC, sdM_ne (by omega) (by omega)]; exact bN_ _ _ (by omega) (by omega)
  have pb : ∀ a b, a = 105 ∨ a = 106 ∨ a = 108 ∨ a = 109 → b < 5 → E.1 a b = T.1 a (5 + b) := fun a b ha hb => by
    rw [hE]
    exact (if_pos ⟨ha, hb⟩).trans (cN _ _ (by omega) (by omega))
  have h0 : ∀ b, b < 5 → E.1 110 b = T.1 109 (5 + b) := fun b hb => by
    rw [hE, sbM_at, if_neg (by omega), if_pos ⟨rfl, hb⟩]
    exact cN _ _ (by omega) (by omega)
  have h5 : ∀ b, b < 5 → E.1 110 (5 + b) = T.1 107 (5 + b) := fun b hb => by
    rw [hE, sbM_at, if_neg (by omega), if_neg (by omega), if_pos ⟨rfl, by omega, by omega⟩]
    exact cN _ _ (by omega) (by omega)
  have h15 : ∀ d, d < 8 → E.1 110 (15 + d) = T.1 104 (8 + d) := fun d hd => by
    rw [hE, sbM_ne (by omega) (by omega), hC, sdM_at, if_neg (by omega), if_pos ⟨rfl, by omega, by omega⟩, show 15 + d - 15 = d by omega]
    exact bN_ _ _ (by omega) (by omega)
  have hz : ∀ j, 10 ≤ j → j < 25 → (j < 15 ∨ 23 ≤ j) → E.1 110 j = 0 := fun j q1 q2 q3 => by
    rw [hE, sbM_ne (by omega) (by omega), hC, sdM_ne (by omega) (by omega), hB]
    exact if_pos ⟨rfl, q2⟩
  refine ⟨_, run_, ⟨?_, ?_, ?_, ?_, fun d hd => ?_, fun b hb => ?_⟩, ⟨fun b hb => ?_, fun d hd => ?_, ?_, ?_⟩, ?_, ?_, ?_, ?_, ?_, fun a j h => ?_, ?_⟩
  · rw [out _ _ (by omega) (by omega), p0 0 (by omega)]; exact d1
  · rw [out _ _ (by omega) (by omega), p0 1 (by omega)]; exact d2
  · rw [out _ _ (by omega) (by omega), p0 2 (by omega)]; exact d3
  · rw [out _ _ (by omega) (by omega), p0 3 (by omega)]; exact d4
  · have hd' : d < D.1.2.1 := hd
    rw [out _ _ (by omega) (by omega), out _ _ (by omega) (by omega), pd 102 d (by omega) (by omega), pd 103 d (by omega) (by omega)]
    exact ⟨(d6 d hd').1, (d6 d hd').2.1⟩
  · have hb' : b < D.1.2.2.1 := hb
    rw [out _ _ (by omega) (by omega), out _ _ (by omega) (by omega), out _ _ (by omega) (by omega), out _ _ (by omega) (by omega), pb 105 b (by omega) (by omega), pb 106 b (by omega) (by omega), pb 108 b (by omega) (by omega), pb 109 b (by omega) (by omega)]
    exact ⟨(d7 b hb').1, (d7 b hb').2.1, (d7 b hb').2.2.2.1, (d7 b hb').2.2.2.2⟩
  · have hb' : b < D.1.2.2.1 := hb
    rw [out _ _ (by omega) (by omega), out _ _ (by omega) (by omega), out _ _ (by omega) (by omega), h0 b (by omega), h5 b (by omega), hz (10 + b) (by omega) (by omega) (by omega)]
    exact ⟨(d7 b hb').2.2.2.2, (d7 b hb').2.2.1, rfl⟩
  · have hd' : d < D.1.2.1 := hd
    rw [out _ _ (by omega) (by omega), h15 d (by omega)]
    exact (d6 d hd').2.2
  · rw [out _ _ (by omega) (by omega), hz 23 (by omega) (by omega) (by omega)]; rfl
  · rw [out _ _ (by omega) (by omega), hz 24 (by omega) (by omega) (by omega)]; rfl
  · rw [sI_ne (by omega), sI_ne (by omega), sI_ne (by omega), sI_ne (by omega)]; exact sI_eq ⟨rfl, rfl⟩
  · rw [sI_ne (by omega), sI_ne (by omega), sI_ne (by omega)]; exact sI_eq ⟨rfl, rfl⟩
  · rw [sI_ne (by omega), sI_ne (by omega)]; exact sI_eq ⟨rfl, rfl⟩
  · rw [sI_ne (by omega)]; exact sI_eq ⟨rfl, rfl⟩
  · exact sI_eq ⟨rfl, rfl⟩
  · rw [out _ _ (by omega) (by omega), hE, sbM_ne (by omega) (by omega), hC, sdM_ne (by omega) (by omega)]; exact bN_ _ _ (by omega) (by omega)
  · show E.2 = T.2
    rw [hE, hC, hB, hA]; rfl
