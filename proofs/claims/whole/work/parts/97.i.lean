-- THE REFERENCE BEGINS A CITY
section RML
variable {t : Txt} {S : St}
theorem cityB (ht : WT t) (hT : MT t S) : ∃ T, p_X10_city S = q_X10_city_25 FU (nI 0) T ∧ MD d0 T ∧ QM t (.inr 0) T ∧ MT t T ∧ (∀ a j, ¬ (a = 99 ∧ (j = 0 ∨ (4 ≤ j ∧ j ≤ 9))) → ¬ (a = 101 ∧ 4 ≤ j) → T.1 a j = S.1 a j) ∧ T.2 = S.2 := by
  have hL := ht.1
  obtain ⟨U, hU⟩ : ∃ U, U = sI (sI (sI (sI (sI (sI (sI (sI S 99 0 0) 99 8 (-1)) 99 4 0) 99 9 0) 101 4 2) 101 5 0) 101 6 0) 101 7 5 := ⟨_, rfl⟩
  have hb : p_X10_begins (sI (sI (sI S 99 0 (0 : Int32)) 99 8 (-1 : Int32)) 99 4 (0 : Int32)) = some U := by
    unfold p_X10_begins
    rw [if_pos (show vin (4 : Int32) 8 from (vin_t (i := 4) (by omega)).mpr trivial), if_pos (show vin (5 : Int32) 8 from (vin_t (i := 5) (by omega)).mpr trivial), if_pos (show vin (6 : Int32) 8 from (vin_t (i := 6) (by omega)).mpr trivial), if_pos (show vin (7 : Int32) 8 from (vin_t (i := 7) (by omega)).mpr trivial), hU]
    rfl
  have uf : ∀ a j, ¬ (a = 99 ∧ (j = 0 ∨ (4 ≤ j ∧ j ≤ 9))) → ¬ (a = 101 ∧ 4 ≤ j) → U.1 a j = S.1 a j := fun a j c1 c2 => by
    rw [hU, sI_ne (by omega), sI_ne (by omega), sI_ne (by omega), sI_ne (by omega), sI_ne (by omega), sI_ne (by omega), sI_ne (by omega), sI_ne (by omega)]
  have ul : U.2 = S.2 := by rw [hU]; rfl
  have uT : MT t U := hT.cg (uf _ _ (by omega) (by omega)) (fun j => uf _ _ (by omega) (by omega))
  have u4 : U.1 99 4 = nI 0 := by rw [hU, sI_ne (by omega), sI_ne (by omega), sI_ne (by omega), sI_ne (by omega), sI_ne (by omega)]; exact sI_eq ⟨rfl, rfl⟩
  have u8 : U.1 99 8 = -1 := by rw [hU, sI_ne (by omega), sI_ne (by omega), sI_ne (by omega), sI_ne (by omega), sI_ne (by omega), sI_ne (by omega)]; exact sI_eq ⟨rfl, rfl⟩
  have u9 : U.1 99 9 = nI 0 := by rw [hU, sI_ne (by omega), sI_ne (by omega), sI_ne (by omega), sI_ne (by omega)]; exact sI_eq ⟨rfl, rfl⟩
  have p4 : U.1 101 4 = nI 2 := by rw [hU, sI_ne (by omega), sI_ne (by omega), sI_ne (by omega)]; exact sI_eq ⟨rfl, rfl⟩
  have p5 : U.1 101 5 = nI 0 := by rw [hU, sI_ne (by omega), sI_ne (by omega)]; exact sI_eq ⟨rfl, rfl⟩
  have p6 : U.1 101 6 = nI 0 := by rw [hU, sI_ne (by omega)]; exact sI_eq ⟨rfl, rfl⟩
  have p7 : U.1 101 7 = nI 5 := by rw [hU]; exact sI_eq ⟨rfl, rfl⟩
  obtain ⟨T, q1, q2, q3, q4⟩ := tokM ht (Nat.zero_le _) uT u4
  refine ⟨T, ?_, ?_, ⟨(q3 _ _ (by omega)).trans u8, Nat.zero_le _, q2⟩, uT.cg (q3 _ _ (by omega)) (fun j => q3 _ _ (by omega)), fun a j c1 c2 => by rw [q3 a j (by omega), uf a j c1 c2], q4.trans ul⟩
  · unfold p_X10_city
    rw [hb, Option.bind_some, q1, Option.bind_some]
    rfl
  · exact ⟨(q3 _ _ (by omega)).trans p4, (q3 _ _ (by omega)).trans p5, (q3 _ _ (by omega)).trans p6, (q3 _ _ (by omega)).trans p7, (q3 _ _ (by omega)).trans u9, fun d h => absurd h (Nat.not_lt_zero d), fun b h => absurd h (Nat.not_lt_zero b)⟩
end RML
