-- THE INVARIANT, WHOLE: the class's part and the reference's
abbrev Pst : Type := Nat × (Nat → Sce)
abbrev Img : Type := Nat → Bool × Sce
abbrev Txt : Type := Nat × (Nat → Nat)
def IW (c : Cty) (s : Sce) (p : Pst) (im : Img) (h : Hea) (t : Txt) : Prop := WC c ∧ WS_ c s ∧ (p.1 ≤ 10 ∧ ∀ i, i < p.1 → WS_ c (p.2 i)) ∧ (∀ i, i < 2 → (im i).1 = true → WS_ c (im i).2) ∧ WH c h ∧ (t.1 ≤ 150 ∧ ∀ i, i < t.1 → t.2 i ≤ 255)
def RP (c : Cty) (p : Pst) (S : St) : Prop := ∃ nx, nx < 10 ∧ S.1 26 1 = nI nx ∧ S.1 26 2 = nI p.1 ∧ ∀ i, i < p.1 → RS c (p.2 i) (28 + 5 * ((nx + 10 - p.1 + i) % 10)) S
def RI (c : Cty) (im : Img) (S : St) : Prop := ∀ i, i < 2 → S.1 89 i = nI (bN (im i).1) ∧ ((im i).1 = true → RS c (im i).2 (79 + 5 * i) S)
def RT (t : Txt) (S : St) : Prop := S.1 1 1 = nI t.1 ∧ ∀ i, i < t.1 → S.1 2 i = nI (t.2 i)
def IC (c : Cty) (s : Sce) (p : Pst) (im : Img) (h : Hea) (t : Txt) (tr : Int64) (S : St) : Prop := RC c S ∧ RS c s 21 S ∧ RP c p S ∧ RI c im S ∧ RH h S ∧ RT t S ∧ S.2 98 = tr ∧ S.1 92 0 = nI 0
def MP (c : Cty) (p : Pst) (S : St) : Prop := S.1 99 23 = nI p.1 ∧ ∀ i, i < p.1 → MS c (p.2 i) (fun j => S.1 113 (25 * i + j))
def MI_ (c : Cty) (im : Img) (S : St) : Prop := ∀ i, i < 2 → S.1 112 i = nI (bN (im i).1) ∧ ((im i).1 = true → MS c (im i).2 (fun j => S.1 111 (25 * i + j)))
def MT (t : Txt) (S : St) : Prop := S.1 99 3 = nI t.1 ∧ ∀ i, i < t.1 → S.1 100 i = nI (t.2 i)
def IM (c : Cty) (s : Sce) (p : Pst) (im : Img) (h : Hea) (t : Txt) (tr : Int64) (S : St) : Prop := MC c S ∧ MS c s (S.1 110) ∧ MP c p S ∧ MI_ c im S ∧ MH h S ∧ MT t S ∧ S.2 99 = tr
/-- what the invariant says of the class, what it says of the reference -/
def uC (a j : Nat) : Prop := a < 99 ∧ a ≠ 93 ∧ a ≠ 94 ∧ ¬ (a = 92 ∧ j ≠ 0) ∧ ¬ (a = 1 ∧ j ≠ 1)
def uM (a j : Nat) : Prop := 99 ≤ a ∧ ¬ (a = 99 ∧ j ≠ 3 ∧ j ≠ 23 ∧ j ≠ 26)
def kC (S S' : St) : Prop := (∀ a j, 99 ≤ a → S'.1 a j = S.1 a j) ∧ S'.2 99 = S.2 99
def kM (S S' : St) : Prop := (∀ a j, a < 99 → S'.1 a j = S.1 a j) ∧ S'.2 98 = S.2 98
theorem kC.rf (S : St) : kC S S := ⟨fun _ _ _ => rfl, rfl⟩
theorem kM.rf (S : St) : kM S S := ⟨fun _ _ _ => rfl, rfl⟩
theorem kC.tr {S T U : St} (h : kC S T) (g : kC T U) : kC S U := ⟨fun a j q => (g.1 a j q).trans (h.1 a j q), g.2.trans h.2⟩
theorem kM.tr {S T U : St} (h : kM S T) (g : kM T U) : kM S U := ⟨fun a j q => (g.1 a j q).trans (h.1 a j q), g.2.trans h.2⟩
theorem kC.sI {S : St} {k i : Nat} {v : Int32} (h : k < 99) : kC S (sI S k i v) := ⟨fun a j q => sI_ne (by omega), rfl⟩
theorem kM.sI {S : St} {k i : Nat} {v : Int32} (h : 99 ≤ k) : kM S (sI S k i v) := ⟨fun a j q => sI_ne (by omega), rfl⟩
theorem kC.sL {S : St} {v : Int64} : kC S (sL S 98 v) := ⟨fun _ _ _ => rfl, sL_ne (by decide)⟩
theorem kM.sL {S : St} {v : Int64} : kM S (sL S 99 v) := ⟨fun _ _ _ => rfl, sL_ne (by decide)⟩
section CONG
variable {c : Cty} {s : Sce} {p : Pst} {im : Img} {h : Hea} {t : Txt} {tr : Int64} {S S' : St}
theorem RC.cg (hR : RC c S) (e : ∀ a j, 3 ≤ a → a < 12 → S'.1 a j = S.1 a j) : RC c S' := by
  obtain ⟨r1, r2, r3, r4, r5, r6⟩ := hR
  refine ⟨?_, ?_, ?_, ?_, fun d hd => ?_, fun b hb => ?_⟩
  · rw [e _ _ (by decide) (by decide)]; exact r1
  · rw [e _ _ (by decide) (by decide)]; exact r2
  · rw [e _ _ (by decide) (by decide)]; exact r3
  · rw [e _ _ (by decide) (by decide)]; exact r4
  · rw [e _ _ (by decide) (by decide), e _ _ (by decide) (by decide)]; exact r5 d hd
  · rw [e _ _ (by decide) (by decide), e _ _ (by decide) (by decide), e _ _ (by decide) (by decide), e _ _ (by decide) (by decide)]; exact r6 b hb
theorem RS.cg {k : Nat} (hR : RS c s k S) (e : ∀ a j, k ≤ a → a ≤ k + 4 → S'.1 a j = S.1 a j) : RS c s k S' := by
  obtain ⟨r1, r2, r3, r4⟩ := hR
  refine ⟨fun b hb => ?_, fun d hd => ?_, ?_, ?_⟩
  · rw [e _ _ (by omega) (by omega), e _ _ (by omega) (by omega), e _ _ (by omega) (by omega)]; exact r1 b hb
  · rw [e _ _ (by omega) (by omega)]; exact r2 d hd
  · rw [e _ _ (by omega) (by omega)]; exact r3
  · rw [e _ _ (by omega) (by omega)]; exact r4
theorem RP.cg (hR : RP c p S) (e : ∀ a j, 26 ≤ a → a < 79 → S'.1 a j = S.1 a j) : RP c p S' := by
  obtain ⟨nx, r1, r2, r3, r4⟩ := hR
  refine ⟨nx, r1, ?_, ?_, fun i hi => ?_⟩
  · rw [e _ _ (by decide) (by decide)]; exact r2
  · rw [e _ _ (by decide) (by decide)]; exact r3
  · exact (r4 i hi).cg (fun a j h1 h2 => e a j (by omega) (by omega))
theorem RI.cg (hR : RI c im S) (e : ∀ a j, 79 ≤ a → a < 90 → S'.1 a j = S.1 a j) : RI c im S' := by
  intro i hi
  obtain ⟨r1, r2⟩ := hR i hi
  refine ⟨?_, fun q => (r2 q).cg (fun a j h1 h2 => e a j (by omega) (by omega))⟩
  rw [e _ _ (by decide) (by decide)]; exact r1
theorem RH.cg (hR : RH h S) (e : ∀ a j, 95 ≤ a → a < 98 → S'.1 a j = S.1 a j) : RH h S' := by
  obtain ⟨r1, r2⟩ := hR
  refine ⟨?_, fun i hi => ?_⟩
  · rw [e _ _ (by decide) (by decide)]; exact r1
  · rw [e _ _ (by decide) (by decide), e _ _ (by decide) (by decide)]; exact r2 i hi
theorem RT.cg (hR : RT t S) (e : ∀ j, S'.1 2 j = S.1 2 j) (e1 : S'.1 1 1 = S.1 1 1) : RT t S' := by
  obtain ⟨r1, r2⟩ := hR
  refine ⟨?_, fun i hi => ?_⟩
  · rw [e1]; exact r1
  · rw [e]; exact r2 i hi
theorem IC.cg (hI : IC c s p im h t tr S) (e : ∀ a j, uC a j → S'.1 a j = S.1 a j) (e2 : S'.2 98 = S.2 98) : IC c s p im h t tr S' := by
  obtain ⟨h1, h2, h3, h4, h5, h6, h7, h8⟩ := hI
  refine ⟨h1.cg (fun a j q q' => e a j ?_), h2.cg (fun a j q q' => e a j ?_), h3.cg (fun a j q q' => e a j ?_), h4.cg (fun a j q q' => e a j ?_), h5.cg (fun a j q q' => e a j ?_), h6.cg (fun j => e 2 j ?_) (e 1 1 ?_), e2.trans h7, (e 92 0 ?_).trans h8⟩ <;> refine ⟨?_, ?_, ?_, ?_, ?_⟩ <;> omega
theorem IC.kM (hI : IC c s p im h t tr S) (k : kM S S') : IC c s p im h t tr S' := hI.cg (fun a j q => k.1 a j q.1) k.2
theorem MC.cg (hR : MC c S) (e : ∀ a j, 101 ≤ a → a < 110 → S'.1 a j = S.1 a j) : MC c S' := by
  obtain ⟨r1, r2, r3, r4, r5, r6⟩ := hR
  refine ⟨?_, ?_, ?_, ?_, fun d hd => ?_, fun b hb => ?_⟩
  · rw [e _ _ (by decide) (by decide)]; exact r1
  · rw [e _ _ (by decide) (by decide)]; exact r2
  · rw [e _ _ (by decide) (by decide)]; exact r3
  · rw [e _ _ (by decide) (by decide)]; exact r4
  · rw [e _ _ (by decide) (by decide), e _ _ (by decide) (by decide)]; exact r5 d hd
  · rw [e _ _ (by decide) (by decide), e _ _ (by decide) (by decide), e _ _ (by decide) (by decide), e _ _ (by decide) (by decide)]; exact r6 b hb
theorem MS.cg {f g : Nat → Int32} (hR : MS c s f) (e : ∀ j, g j = f j) : MS c s g := by
  have : g = f := funext e
  rw [this]; exact hR
theorem MP.cg (hR : MP c p S) (e1 : S'.1 99 23 = S.1 99 23) (e : ∀ j, S'.1 113 j = S.1 113 j) : MP c p S' := ⟨e1.trans hR.1, fun i hi => (hR.2 i hi).cg (fun j => e _)⟩
theorem MI_.cg (hR : MI_ c im S) (e : ∀ a j, 111 ≤ a → a < 113 → S'.1 a j = S.1 a j) : MI_ c im S' := by
  intro i hi
  obtain ⟨r1, r2⟩ := hR i hi
  refine ⟨?_, fun q => (r2 q).cg (fun j => e _ _ (by decide) (by decide))⟩
  rw [e _ _ (by decide) (by decide)]; exact r1
theorem MH.cg (hR : MH h S) (e1 : S'.1 99 26 = S.1 99 26) (e : ∀ a j, 114 ≤ a → a < 116 → S'.1 a j = S.1 a j) : MH h S' := by
  obtain ⟨r1, r2⟩ := hR
  refine ⟨e1.trans r1, fun i hi => ?_⟩
  rw [e _ _ (by decide) (by decide), e _ _ (by decide) (by decide)]; exact r2 i hi
theorem MT.cg (hR : MT t S) (e1 : S'.1 99 3 = S.1 99 3) (e : ∀ j, S'.1 100 j = S.1 100 j) : MT t S' := by
  obtain ⟨r1, r2⟩ := hR
  refine ⟨e1.trans r1, fun i hi => ?_⟩
  rw [e]; exact r2 i hi
theorem IM.cg (hI : IM c s p im h t tr S) (e : ∀ a j, uM a j → S'.1 a j = S.1 a j) (e2 : S'.2 99 = S.2 99) : IM c s p im h t tr S' := by
  obtain ⟨h1, h2, h3, h4, h5, h6, h7⟩ := hI
  refine ⟨h1.cg (fun a j q q' => e a j ?_), h2.cg (fun j => e 110 j ?_), h3.cg (e 99 23 ?_) (fun j => e 113 j ?_), h4.cg (fun a j q q' => e a j ?_), h5.cg (e 99 26 ?_) (fun a j q q' => e a j ?_), h6.cg (e 99 3 ?_) (fun j => e 100 j ?_), e2.trans h7⟩ <;> refine ⟨?_, ?_⟩ <;> omega
theorem IM.kC (hI : IM c s p im h t tr S) (k : kC S S') : IM c s p im h t tr S' := hI.cg (fun a j q => k.1 a j q.1) k.2
theorem IM.th (hI : IM c s p im h t tr S) (v : Int32) : IM c s p im h t tr (sI S 99 0 v) := hI.cg (fun a j q => sI_ne (by obtain ⟨q1, q2⟩ := q; omega)) rfl
end CONG
/-- a step of the class, of the reference -/
def CS_ (f : St → Option (Int32 × St)) (v : Int32) (P : St → Prop) (S : St) : Prop := ∃ S', f S = some (v, S') ∧ P S' ∧ kC S S'
def MS_ (f : St → Option (Int32 × St)) (v : Int32) (P : St → Prop) (S : St) : Prop := ∃ S', f S = some (v, S') ∧ P S' ∧ kM S S'
/-- the two, one after the other -/
def PRR (f g : St → Option (Int32 × St)) (S : St) : Prop := ∃ v S1 S2, f S = some (v, S1) ∧ g S1 = some (v, S2) ∧ ∃ c s p im h t tr, IW c s p im h t ∧ IC c s p im h t tr S2 ∧ IM c s p im h t tr S2
theorem prr {f g : St → Option (Int32 × St)} {S : St} {v : Int32} {c : Cty} {s : Sce} {p : Pst} {im : Img} {h : Hea} {t : Txt} {tr : Int64} {c' : Cty} {s' : Sce} {p' : Pst} {im' : Img} {h' : Hea} {t' : Txt} {tr' : Int64} (hM : IM c s p im h t tr S) (hW : IW c' s' p' im' h' t') (a : CS_ f v (IC c' s' p' im' h' t' tr') S) (b : ∀ S1, IM c s p im h t tr S1 → MS_ g v (IM c' s' p' im' h' t' tr') S1) : PRR f g S := by
  obtain ⟨S1, e1, i1, k1⟩ := a
  obtain ⟨S2, e2, i2, k2⟩ := b S1 (hM.kC k1)
  exact ⟨v, S1, S2, e1, e2, c', s', p', im', h', t', tr', hW, i1.kM k2, i2⟩
-- within bounds
theorem inb_n {n : Nat} (hn : n < 2 ^ 30) (x : Int32) : (∃ b, b < n ∧ x = nI b ∧ inb x (nI 0) (nI n - nI 1) = true) ∨ inb x (nI 0) (nI n - nI 1) = false := by
  by_cases h : inb x (nI 0) (nI n - nI 1) = true
  · left
    have h' := h
    unfold inb at h
    simp only [Bool.not_eq_true', Bool.or_eq_false_iff, decide_eq_false_iff_not] at h
    by_cases h0 : n = 0
    · subst h0
      exfalso
      apply h.2
      have h1 := Int32.not_lt.mp h.1
      exact Int32.lt_of_lt_of_le (by decide) h1
    · rw [nI_subN (by omega)] at h
      have hv : vin x n := by
        intro q
        rcases q with q | q
        · exact h.1 q
        · obtain ⟨j, hj⟩ : ∃ j : Nat, x.toNatClampNeg = j := ⟨_, rfl⟩
          have hx : x = nI j := by
            have h1 := Int32.not_lt.mp h.1
            rw [← hj]
            exact (Int32.ofNat_toNatClampNeg x h1).symm
          apply h.2
          have hj2 : j < 2 ^ 31 := by rw [← hj]; exact Int32.toNatClampNeg_lt x
          rw [hx, ltN (by omega) hj2]
          omega
      obtain ⟨b, hb, e⟩ := vin_ex hv (by omega)
      exact ⟨b, hb, e, h'⟩
  · right
    simpa using h
