-- THE START
def INV (S : St) : Prop := ∃ c s p im h t tr, IW c s p im h t ∧ IC c s p im h t tr S ∧ IM c s p im h t tr S
theorem S0_at (k i : Nat) : S0.1 k i = if k = 3 ∨ k = 12 then (if i = 0 then 2 else if i = 3 then 5 else 0) else if k = 1 ∧ i = 4 then -1 else if k = 93 ∧ i = 2 then 1 else 0 := rfl
theorem S0_z {k i : Nat} (h1 : k ≠ 3) (h2 : k ≠ 12) (h3 : k ≠ 93) (h4 : ¬ (k = 1 ∧ i = 4)) : S0.1 k i = 0 := by
  rw [S0_at, if_neg (by omega), if_neg h4, if_neg (by omega)]
theorem start_ : ∃ Sa Sb, p_X10_begins S0 = some Sa ∧ p_X10_settles Sa = some Sb ∧ INV Sb := by
  obtain ⟨U, hU⟩ : ∃ U, U = sI (sI (sI (sI (sI S0 99 9 0) 101 4 2) 101 5 0) 101 6 0) 101 7 5 := ⟨_, rfl⟩
  have hb : p_X10_begins S0 = some U := by
    unfold p_X10_begins
    rw [if_pos (show vin (4 : Int32) 8 from (vin_t (i := 4) (by omega)).mpr trivial), if_pos (show vin (5 : Int32) 8 from (vin_t (i := 5) (by omega)).mpr trivial), if_pos (show vin (6 : Int32) 8 from (vin_t (i := 6) (by omega)).mpr trivial), if_pos (show vin (7 : Int32) 8 from (vin_t (i := 7) (by omega)).mpr trivial), hU]
    rfl
  have u9 : U.1 99 9 = nI 0 := by rw [hU, sI_ne (by omega), sI_ne (by omega), sI_ne (by omega), sI_ne (by omega)]; exact sI_eq ⟨rfl, rfl⟩
  have p4 : U.1 101 4 = nI 2 := by rw [hU, sI_ne (by omega), sI_ne (by omega), sI_ne (by omega)]; exact sI_eq ⟨rfl, rfl⟩
  have p5 : U.1 101 5 = nI 0 := by rw [hU, sI_ne (by omega), sI_ne (by omega)]; exact sI_eq ⟨rfl, rfl⟩
  have p6 : U.1 101 6 = nI 0 := by rw [hU, sI_ne (by omega)]; exact sI_eq ⟨rfl, rfl⟩
  have p7 : U.1 101 7 = nI 5 := by rw [hU]; exact sI_eq ⟨rfl, rfl⟩
  have hD : MD d0 U := ⟨p4, p5, p6, p7, u9, fun d h => absurd h (Nat.not_lt_zero d), fun b h => absurd h (Nat.not_lt_zero b)⟩
  obtain ⟨T2, z1, z2, z3, z4, z5, z6, z7, z8, z9, z10⟩ := settles d0_W hD
  have fr : ∀ a j, a < 99 → T2.1 a j = S0.1 a j := fun a j q => by
    rw [z9 a j q, hU, sI_ne (by omega), sI_ne (by omega), sI_ne (by omega), sI_ne (by omega), sI_ne (by omega)]
  have f2 : T2.2 = fun _ => 0 := by rw [z10, hU]; rfl
  have hw := ctD_W d0_W
  refine ⟨U, T2, hb, z1, ctD d0, scD d0, (0, fun _ => scD d0), (fun _ => (false, scD d0)), (0, (fun _ => 0), (fun _ => 0)), (0, fun _ => 0), 0, ?_, ?_, ?_⟩
  · exact ⟨hw.1, hw.2, ⟨Nat.zero_le 10, fun i hi => absurd hi (Nat.not_lt_zero i)⟩, fun i hi q => absurd q Bool.false_ne_true, ⟨Nat.zero_le 6, fun i hi => absurd hi (Nat.not_lt_zero i)⟩, ⟨Nat.zero_le 150, fun i hi => absurd hi (Nat.not_lt_zero i)⟩⟩
  · refine ⟨⟨?_, ?_, ?_, ?_, fun d h => absurd h (Nat.not_lt_zero d), fun b h => absurd h (Nat.not_lt_zero b)⟩, ⟨fun b h => absurd h (Nat.not_lt_zero b), fun d h => absurd h (Nat.not_lt_zero d), ?_, ?_⟩, ⟨0, by omega, ?_, ?_, fun i hi => absurd hi (Nat.not_lt_zero i)⟩, fun i hi => ⟨?_, fun q => absurd q Bool.false_ne_true⟩, ⟨?_, fun i hi => absurd hi (Nat.not_lt_zero i)⟩, ⟨?_, fun i hi => absurd hi (Nat.not_lt_zero i)⟩, ?_, ?_⟩
    · rw [fr _ _ (by omega)]; rfl
    · rw [fr _ _ (by omega)]; rfl
    · rw [fr _ _ (by omega)]; rfl
    · rw [fr _ _ (by omega)]; rfl
    · rw [fr _ _ (by omega), S0_z (by omega) (by omega) (by omega) (by omega)]; rfl
    · rw [fr _ _ (by omega), S0_z (by omega) (by omega) (by omega) (by omega)]; rfl
    · rw [fr _ _ (by omega), S0_z (by omega) (by omega) (by omega) (by omega)]; rfl
    · rw [fr _ _ (by omega), S0_z (by omega) (by omega) (by omega) (by omega)]; rfl
    · rw [fr _ _ (by omega), S0_z (by omega) (by omega) (by omega) (by omega)]; rfl
    · rw [fr _ _ (by omega), S0_z (by omega) (by omega) (by omega) (by omega)]; rfl
    · rw [fr _ _ (by omega), S0_z (by omega) (by omega) (by omega) (by omega)]; rfl
    · rw [f2]
    · rw [fr _ _ (by omega), S0_z (by omega) (by omega) (by omega) (by omega)]; rfl
  · refine ⟨z2, z3, ⟨z6, fun i hi => absurd hi (Nat.not_lt_zero i)⟩, fun i hi => ⟨?_, fun q => absurd q Bool.false_ne_true⟩, ⟨z5, fun i hi => absurd hi (Nat.not_lt_zero i)⟩, ⟨z4, fun i hi => absurd hi (Nat.not_lt_zero i)⟩, ?_⟩
    · have : i = 0 ∨ i = 1 := by omega
      rcases this with rfl | rfl
      · exact z7
      · exact z8
    · rw [f2]
