-- THE BOY'S CHAIN
def bindS {β : Type} (r : Nat ⊕ Nat) (f : Nat → Nat ⊕ β) : Nat ⊕ β := match r with
  | .inl e => .inl e
  | .inr p => f p
theorem bS_nB {β : Type} (t : Txt) (r : Nat ⊕ Nat) (lo hi : Nat) (F : Nat → Nat → Nat ⊕ β) : bindS r (fun p => nB t p lo hi F) = bindS (nS t r lo hi) (F (nV t r lo hi)) := by
  cases r with
  | inl e => rfl
  | inr p =>
    show nB t p lo hi F = _
    unfold nB
    rw [nS_r, nV_r]
    cases nok t p lo hi <;> rfl
theorem bS_cls (t : Txt) (r : Nat ⊕ Nat) (D : Dft) : bindS r (fun p => cls t p D) = fin_ D (cS t r) := by
  cases r with
  | inl e => rfl
  | inr p => exact cls_c t p D
theorem itB_c (t : Txt) (p : Nat) (D : Dft) {a b x y z : Nat} {r1 r2 r3 r4 r5 : Nat ⊕ Nat} (ha : a = nV t (.inr p) 0 40) (h1 : r1 = nS t (.inr p) 0 40) (hb : b = nV t r1 a 40) (h2 : r2 = nS t r1 a 40) (hx : x = nV t r2 7 20) (h3 : r3 = nS t r2 7 20) (hy : y = nV t r3 7 20) (h4 : r4 = nS t r3 7 20) (hz : z = nV t r4 0 (D.1.1 - 1)) (h5 : r5 = nS t r4 0 (D.1.1 - 1)) : itB t p D = fin_ (addB D a b x y z) (cS t r5) := by
  have s1 : itB t p D = bindS r1 (fun p1 => nB t p1 a 40 (fun hi p2 => nB t p2 7 20 (fun ag p3 => nB t p3 7 20 (fun br p4 => nB t p4 0 (D.1.1 - 1) (fun hm p5 => cls t p5 (addB D a hi ag br hm)))))) := by
    rw [h1, ha]
    exact bS_nB t (.inr p) 0 40 (fun lo p1 => nB t p1 lo 40 (fun hi p2 => nB t p2 7 20 (fun ag p3 => nB t p3 7 20 (fun br p4 => nB t p4 0 (D.1.1 - 1) (fun hm p5 => cls t p5 (addB D lo hi ag br hm))))))
  have s2 : itB t p D = bindS r2 (fun p2 => nB t p2 7 20 (fun ag p3 => nB t p3 7 20 (fun br p4 => nB t p4 0 (D.1.1 - 1) (fun hm p5 => cls t p5 (addB D a b ag br hm))))) := by
    rw [s1, bS_nB, ← h2, ← hb]
  have s3 : itB t p D = bindS r3 (fun p3 => nB t p3 7 20 (fun br p4 => nB t p4 0 (D.1.1 - 1) (fun hm p5 => cls t p5 (addB D a b x br hm)))) := by
    rw [s2, bS_nB, ← h3, ← hx]
  have s4 : itB t p D = bindS r4 (fun p4 => nB t p4 0 (D.1.1 - 1) (fun hm p5 => cls t p5 (addB D a b x y hm))) := by
    rw [s3, bS_nB, ← h4, ← hy]
  have s5 : itB t p D = bindS r5 (fun p5 => cls t p5 (addB D a b x y z)) := by
    rw [s4, bS_nB, ← h5, ← hz]
  rw [s5, bS_cls]
