-- THE LAW'S LOOP
theorem stp {f g : St → Option (Int32 × St)} {S : St} (R : St → Option Int32) (h : PRR f g S) (k : ∀ S2, INV S2 → R S2 = some 1) : (f S).bind (fun (q : Int32 × St) => (g q.2).bind (fun (r : Int32 × St) => (if q.1 = r.1 then R r.2 else some 0))) = some 1 := by
  obtain ⟨v, S1, S2, e1, e2, hI⟩ := h
  rw [e1, Option.bind_some]
  show (g S1).bind (fun (r : Int32 × St) => (if v = r.1 then R r.2 else some 0)) = some 1
  rw [e2, Option.bind_some]
  show (if v = v then R S2 else some 0) = some 1
  rw [if_pos rfl]
  exact k S2 hI
theorem end4 : ∀ l, l < 4 → nI l - nI 4 < nI 0 := by decide +kernel
theorem lawE {L i : Nat} (hL : L ≤ 256) (hi : i ≤ 256) : (Int32.ofNat L - (4 : Int32) < nI i) ↔ L < i + 4 := by
  show nI L - nI 4 < nI i ↔ _
  by_cases h : 4 ≤ L
  · rw [nI_subN h, nI_ltI (by omega) (by omega)]
    omega
  · refine ⟨fun _ => by omega, fun _ => ?_⟩
    exact Int32.lt_of_lt_of_le (end4 L (by omega)) ((nI_leI (by omega) (by omega)).mpr (Nat.zero_le i))
theorem vinA {L i : Nat} (j : Nat) (hL : L ≤ 256) (h : i + j < L) : vin (nI i + nI j) L = True := by
  rw [nI_add]
  exact vin_t ⟨h, by omega⟩
set_option maxRecDepth 100000 in
set_option maxHeartbeats 4000000 in
theorem law_loop {xs : Nat → Int32} {L : Nat} (hL : L ≤ 256) : ∀ (k n i : Nat) (S : St), k < n → i ≤ 256 → L < i + 4 * k + 4 → INV S → q_law_18 xs L n (nI i) S = some 1 := by
  intro k
  induction k with
  | zero =>
    intro n i S hn hi hk hI
    obtain ⟨n, rfl⟩ : ∃ m, n = m + 1 := ⟨n - 1, by omega⟩
    rw [q_law_18, if_pos ((lawE hL hi).mpr (by omega))]
  | succ k ih =>
    intro n i S hn hi hk hI
    obtain ⟨n, rfl⟩ : ∃ m, n = m + 1 := ⟨n - 1, by omega⟩
    by_cases he : L < i + 4
    · rw [q_law_18, if_pos ((lawE hL hi).mpr he)]
    · have v0 : vin (nI i) L = True := vin_t ⟨by omega, by omega⟩
      have v1 : vin (nI i + (1 : Int32)) L = True := vinA 1 hL (by omega)
      have v2 : vin (nI i + (2 : Int32)) L = True := vinA 2 hL (by omega)
      have v3 : vin (nI i + (3 : Int32)) L = True := vinA 3 hL (by omega)
      have rest : ∀ S2, INV S2 → q_law_18 xs L n (nI i + (4 : Int32)) S2 = some 1 := fun S2 h2 => by
        rw [show nI i + (4 : Int32) = nI (i + 4) from nI_add i 4]
        exact ih n (i + 4) S2 (by omega) (by omega) (by omega) h2
      rw [q_law_18, if_neg (fun q => he ((lawE hL hi).mp q))]
      generalize q_law_18 xs L n = R at rest ⊢
      generalize nI i = x at v0 v1 v2 v3 rest ⊢
      obtain ⟨c, s, p, im, h, t, tr, hW, hC, hM⟩ := id hI
      simp only [v0, v1, v2, v3, if_true]
      generalize xs x.toNatClampNeg &&& (31 : Int32) = o
      by_cases o0 : o = 0
      · rw [if_pos o0]
        have q := stp (R (x + (4 : Int32))) (pr_type hW hC hM (xs (x + (1 : Int32)).toNatClampNeg)) rest
        exact q
      rw [if_neg o0]
      by_cases o1 : o = 1
      · rw [if_pos o1]
        have q := stp (R (x + (4 : Int32))) (pr_clear hW hC hM) rest
        exact q
      rw [if_neg o1]
      by_cases o2 : o = 2
      · rw [if_pos o2]
        have q := stp (R (x + (4 : Int32))) (pr_city hW hC hM) rest
        exact q
      rw [if_neg o2]
      by_cases o3 : o = 3
      · rw [if_pos o3]
        have q := stp (R (x + (4 : Int32))) (pr_door hW hC hM (xs (x + (1 : Int32)).toNatClampNeg) (xs (x + (2 : Int32)).toNatClampNeg)) rest
        exact q
      rw [if_neg o3]
      by_cases o4 : o = 4
      · rw [if_pos o4]
        have q := stp (R (x + (4 : Int32))) (pr_boy hW hC hM (xs (x + (1 : Int32)).toNatClampNeg) (xs (x + (2 : Int32)).toNatClampNeg)) rest
        exact q
      rw [if_neg o4]
      by_cases o5 : o = 5
      · rw [if_pos o5]
        have q := stp (R (x + (4 : Int32))) (pr_now hW hC hM (xs (x + (1 : Int32)).toNatClampNeg)) rest
        exact q
      rw [if_neg o5]
      by_cases o6 : o = 6
      · rw [if_pos o6]
        have q := stp (R (x + (4 : Int32))) (pr_goes hW hC hM (xs (x + (1 : Int32)).toNatClampNeg) (xs (x + (2 : Int32)).toNatClampNeg)) rest
        exact q
      rw [if_neg o6]
      by_cases o7 : o = 7
      · rw [if_pos o7]
        have q := stp (R (x + (4 : Int32))) (pr_colds hW hC hM (xs (x + (1 : Int32)).toNatClampNeg) (xs (x + (2 : Int32)).toNatClampNeg)) rest
        exact q
      rw [if_neg o7]
      by_cases o8 : o = 8
      · rw [if_pos o8]
        have q := stp (R (x + (4 : Int32))) (pr_props hW hC hM (xs (x + (1 : Int32)).toNatClampNeg) (xs (x + (2 : Int32)).toNatClampNeg)) rest
        exact q
      rw [if_neg o8]
      by_cases o9 : o = 9
      · rw [if_pos o9]
        have q := stp (R (x + (4 : Int32))) (pr_year hW hC hM) rest
        exact q
      rw [if_neg o9]
      by_cases o10 : o = 10
      · rw [if_pos o10]
        have q := stp (R (x + (4 : Int32))) (pr_michaelmas hW hC hM) rest
        exact q
      rw [if_neg o10]
      by_cases o11 : o = 11
      · rw [if_pos o11]
        have q := stp (R (x + (4 : Int32))) (pr_undo hW hC hM) rest
        exact q
      rw [if_neg o11]
      by_cases o12 : o = 12
      · rw [if_pos o12]
        have q := stp (R (x + (4 : Int32))) (pr_way hW hC hM (xs (x + (1 : Int32)).toNatClampNeg) (xs (x + (2 : Int32)).toNatClampNeg)) rest
        exact q
      rw [if_neg o12]
      by_cases o13 : o = 13
      · rw [if_pos o13]
        have q := stp (R (x + (4 : Int32))) (pr_posts hW hC hM (xs (x + (1 : Int32)).toNatClampNeg)) rest
        exact q
      rw [if_neg o13]
      by_cases o14 : o = 14
      · rw [if_pos o14]
        have q := stp (R (x + (4 : Int32))) (pr_tune hW hC hM (xs (x + (1 : Int32)).toNatClampNeg)) rest
        exact q
      rw [if_neg o14]
      by_cases o15 : o = 15
      · rw [if_pos o15]
        have q := stp (R (x + (4 : Int32))) (pr_thirds hW hC hM (xs (x + (1 : Int32)).toNatClampNeg) (xs (x + (2 : Int32)).toNatClampNeg)) rest
        exact q
      rw [if_neg o15]
      by_cases o16 : o = 16
      · rw [if_pos o16]
        have q := stp (R (x + (4 : Int32))) (pr_odds hW hC hM (xs (x + (1 : Int32)).toNatClampNeg) (xs (x + (2 : Int32)).toNatClampNeg) (xs (x + (3 : Int32)).toNatClampNeg)) rest
        exact q
      rw [if_neg o16]
      by_cases o17 : o = 17
      · rw [if_pos o17]
        have q := stp (R (x + (4 : Int32))) (pr_hears hW hC hM (xs (x + (1 : Int32)).toNatClampNeg) (xs (x + (2 : Int32)).toNatClampNeg)) rest
        exact q
      rw [if_neg o17]
      by_cases o18 : o = 18
      · rw [if_pos o18]
        have q := stp (R (x + (4 : Int32))) (pr_forget hW hC hM) rest
        exact q
      rw [if_neg o18]
      by_cases o19 : o = 19
      · rw [if_pos o19]
        have q := stp (R (x + (4 : Int32))) (pr_who hW hC hM) rest
        exact q
      rw [if_neg o19]
      by_cases o20 : o = 20
      · rw [if_pos o20]
        have q := stp (R (x + (4 : Int32))) (pr_ask hW hC hM) rest
        exact q
      rw [if_neg o20]
      by_cases o21 : o = 21
      · rw [if_pos o21]
        have q := stp (R (x + (4 : Int32))) (pr_rate hW hC hM (xs (x + (1 : Int32)).toNatClampNeg) (xs (x + (2 : Int32)).toNatClampNeg)) rest
        exact q
      rw [if_neg o21]
      by_cases o22 : o = 22
      · rw [if_pos o22]
        have q := stp (R (x + (4 : Int32))) (pr_keep hW hC hM (xs (x + (1 : Int32)).toNatClampNeg)) rest
        exact q
      rw [if_neg o22]
      by_cases o23 : o = 23
      · rw [if_pos o23]
        have q := stp (R (x + (4 : Int32))) (pr_back hW hC hM (xs (x + (1 : Int32)).toNatClampNeg)) rest
        exact q
      rw [if_neg o23]
      by_cases o24 : o = 24
      · rw [if_pos o24]
        have q := stp (R (x + (4 : Int32))) (pr_count hW hC hM (xs (x + (1 : Int32)).toNatClampNeg)) rest
        exact q
      rw [if_neg o24]
      by_cases o25 : o = 25
      · rw [if_pos o25]
        obtain ⟨e1, e2, i1, i2⟩ := pr_trace hW hC hM
        rw [e1, Option.bind_some]
        show (p_X10_trace S).bind (fun (q : Int64 × St) => if lg_cmp tr q.1 = 0 then R (x + (4 : Int32)) q.2 else some 0) = some 1
        rw [e2, Option.bind_some]
        show (if lg_cmp tr tr = 0 then R (x + (4 : Int32)) (sI S 99 0 0) else some 0) = some 1
        rw [if_pos ((lg_cmp_eq tr tr).mpr rfl)]
        exact rest _ ⟨c, s, p, im, h, t, tr, hW, i1, i2⟩
      · rw [if_neg o25]
        exact rest S hI
