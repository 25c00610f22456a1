-- THE CHAINS ARE THE ITEMS
def fin_ (D : Dft) (r : Nat ⊕ Nat) : Nat ⊕ (Nat × Dft) := match r with
  | .inl e => .inl e
  | .inr p => .inr (p, D)
theorem cls_c (t : Txt) (p : Nat) (D : Dft) : cls t p D = fin_ D (cS t (.inr p)) := by
  unfold cls
  rw [cS_r]
  by_cases e : (tok t p).1 = 3
  · rw [if_pos e, if_pos e]; rfl
  · rw [if_neg e, if_neg e]; rfl
theorem itN_c (t : Txt) (p : Nat) (D : Dft) : itN t p D = fin_ ((nV t (.inr p) 1 8, D.1.2), D.2) (cS t (nS t (.inr p) 1 8)) := by
  unfold itN nB
  rw [nS_r, nV_r]
  cases nok t p 1 8
  · rfl
  · exact cls_c t _ _
theorem itS_c (t : Txt) (p : Nat) (D : Dft) : itS t p D = fin_ ((D.1.1, D.1.2.1, D.1.2.2.1, nV t (.inr p) 0 40, 1), D.2) (cS t (nS t (.inr p) 0 40)) := by
  unfold itS nB
  rw [nS_r, nV_r]
  cases nok t p 0 40
  · rfl
  · exact cls_c t _ _
theorem itD_c (t : Txt) (p : Nat) (D : Dft) {a b x : Nat} {r1 r2 r3 : Nat ⊕ Nat} (ha : a = nV t (.inr p) 0 (D.1.1 - 1)) (h1 : r1 = nS t (.inr p) 0 (D.1.1 - 1)) (hb : b = nV2 t r1 (D.1.1 - 1) a) (h2 : r2 = nS2 t r1 (D.1.1 - 1) a) (hx : x = nV t r2 0 40) (h3 : r3 = nS t r2 0 40) : itD t p D = fin_ (addD D a b x) (cS t r3) := by
  unfold itD nB
  rw [nS_r] at h1
  rw [nV_r] at ha
  cases e0 : nok t p 0 (D.1.1 - 1) with
  | false =>
    rw [e0, if_neg Bool.false_ne_true] at h1
    subst h1; subst h2; subst h3
    rfl
  | true =>
    rw [e0, if_pos rfl] at h1 ha
    subst h1
    rw [nS2_r] at h2
    rw [nV2_r] at hb
    rw [if_pos rfl, ← ha]
    show (if nok t (tok t p).2.2.2 0 (D.1.1 - 1) = true then (if (tok t (tok t p).2.2.2).2.1 = a then Sum.inl (tok t (tok t p).2.2.2).2.2.1 else if nok t (tok t (tok t p).2.2.2).2.2.2 0 40 = true then cls t (tok t (tok t (tok t p).2.2.2).2.2.2).2.2.2 (addD D a (tok t (tok t p).2.2.2).2.1 (tok t (tok t (tok t p).2.2.2).2.2.2).2.1) else Sum.inl (tok t (tok t (tok t p).2.2.2).2.2.2).2.2.1) else Sum.inl (tok t (tok t p).2.2.2).2.2.1) = _
    generalize (tok t p).2.2.2 = p1 at h2 hb ⊢
    cases e1 : nok t p1 0 (D.1.1 - 1) with
    | false =>
      have en : nk2 t p1 (D.1.1 - 1) a = false := by unfold nk2; rw [e1, Bool.false_and]
      rw [en, if_neg Bool.false_ne_true] at h2
      subst h2; subst h3
      rfl
    | true =>
      by_cases ea : (tok t p1).2.1 = a
      · have en : nk2 t p1 (D.1.1 - 1) a = false := by unfold nk2; rw [e1, Bool.true_and]; exact decide_eq_false (fun q => q ea)
        rw [en, if_neg Bool.false_ne_true] at h2
        subst h2; subst h3
        rw [if_pos rfl, if_pos ea]
        rfl
      · have en : nk2 t p1 (D.1.1 - 1) a = true := by unfold nk2; rw [e1, Bool.true_and]; exact decide_eq_true ea
        rw [en, if_pos rfl] at h2 hb
        subst h2
        rw [nS_r] at h3
        rw [nV_r] at hx
        rw [if_pos rfl, if_neg ea, ← hb]
        generalize (tok t p1).2.2.2 = p2 at h3 hx ⊢
        cases e2 : nok t p2 0 40 with
        | false =>
          rw [e2, if_neg Bool.false_ne_true] at h3
          subst h3
          rfl
        | true =>
          rw [e2, if_pos rfl] at h3 hx
          subst h3
          rw [if_pos rfl, ← hx]
          exact cls_c t _ _
