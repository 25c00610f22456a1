-- CONSTRUCTORS: a world that grows, a list of cells from the address h on
def Wr (D : va_G) (h : Nat) (ws : List va_E) (H : Heap) : Prop := H.size = h + ws.length ∧ ∀ (k : Nat) (x : va_E), ws[k]? = some x → va_at D vwCl (h + k, x) H
def KI (D : va_G) (cs : Cs3) (U : State) : Prop := KK D cs U ∧ va_AO "ChoristerKeys$Scene" U
def PI (D : va_G) (cs : Cs3) (h : Nat) (ws : List va_E) (av : List Value) : Array Value → State → Prop := fun v U => v = av.toArray ∧ Wr D h ws U.heap ∧ KI D cs U
def QI (D : va_G) (h : Nat) (ws : List va_E) : Array Value → State → Outcome → State → Prop := fun _ st oc t => oc = .returned none ∧ Wr D h ws t.heap ∧ va_F (AA h) st t
def Ci (l : Launch) (y : MethodName) (cc : ByteArray) (nL : Nat) (rm : Room) (mc ms : Nat) (D : va_G) (cs : Cs3) (h : Nat) (av : List Value) (ws0 ws1 : List va_E) : Prop :=
  Met l y (WS y cc nL none) rm (PI D cs h ws0 av) (QI D h ws1) mc ms (AA h)
theorem PIb {D : va_G} {cs : Cs3} {h : Nat} {ws : List va_E} {av : List Value} : FrameBlind (PI D cs h ws av) :=
  fun a U g mk ⟨q1, q2, q3, q4⟩ => ⟨q1, q2, ⟨va_K.moved (u := U) (U := U.calling g mk a) (Vm.Alike.refl U.vm) q3.1, NTb (rfl : U.vm = (U.calling g mk a).vm) q3.2⟩, va_AO.moved (u := U) (U := U.calling g mk a) (Vm.Alike.refl U.vm) q4⟩
theorem wr_push {D : va_G} {h : Nat} {ws : List va_E} {H H1 : Heap} {x : va_E} (hR : Wr D h ws H) (z : H1.size = H.size + 1) (o : ∀ q : Nat, q < H.size → H1[q]? = H[q]?) (hx : va_at D vwCl (H.size, x) H1) : Wr D h (ws ++ [x]) H1 := by
  refine ⟨by rw [z, hR.1]; simp; omega, fun k y hk => ?_⟩
  by_cases hl : k < ws.length
  · rw [List.getElem?_append_left hl] at hk
    exact (hR.2 k y hk).kept (o _ ((hR.2 k y hk).lt))
  · rw [List.getElem?_append_right (by omega)] at hk
    have hz : k - ws.length < 1 := (List.getElem?_eq_some_iff.mp hk).1
    have hk0 : k = ws.length := by omega
    subst hk0
    rw [Nat.sub_self] at hk
    cases hk
    rw [← hR.1]
    exact hx
theorem wr_set {D : va_G} {h : Nat} {pre post : List va_E} {H H1 : Heap} {x y : va_E} (hR : Wr D h (pre ++ x :: post) H) (z : H1.size = H.size) (o : ∀ q : Nat, q ≠ h + pre.length → H1[q]? = H[q]?) (hx : va_at D vwCl (h + pre.length, y) H1) : Wr D h (pre ++ y :: post) H1 := by
  refine ⟨by rw [z, hR.1]; simp, fun k w hk => ?_⟩
  by_cases e : k = pre.length
  · subst e
    rw [List.getElem?_append_right (Nat.le_refl _), Nat.sub_self] at hk
    cases hk
    exact hx
  · have hk' : (pre ++ x :: post)[k]? = some w := by
      by_cases hl : k < pre.length
      · rw [List.getElem?_append_left hl] at hk ⊢; exact hk
      · rw [List.getElem?_append_right (by omega)] at hk ⊢
        obtain ⟨j, hj⟩ : ∃ j, k - pre.length = j + 1 := ⟨k - pre.length - 1, by omega⟩
        rw [hj] at hk ⊢
        exact hk
    exact (hR.2 k w hk').kept (o _ (by show h + k ≠ _; omega))
theorem wr_at {D : va_G} {h : Nat} {pre post : List va_E} {H : Heap} {x : va_E} (hR : Wr D h (pre ++ x :: post) H) : va_at D vwCl (h + pre.length, x) H :=
  hR.2 pre.length x (by rw [List.getElem?_append_right (Nat.le_refl _), Nat.sub_self]; rfl)
theorem wr_join {D : va_G} {h : Nat} {pre : List va_E} {x : va_E} {ws1 : List va_E} {H H1 : Heap} (hR : Wr D h (pre ++ [x]) H) (hR1 : Wr D (h + pre.length) ws1 H1) (hk : ∀ q : Nat, q < H.size → ¬ AA (h + pre.length) q → H1[q]? = H[q]?) : Wr D h (pre ++ ws1) H1 := by
  refine ⟨by rw [hR1.1]; simp; omega, fun k y hy => ?_⟩
  by_cases hl : k < pre.length
  · rw [List.getElem?_append_left hl] at hy
    have hy' : (pre ++ [x])[k]? = some y := by rw [List.getElem?_append_left hl]; exact hy
    exact (hR.2 k y hy').kept (hk _ ((hR.2 k y hy').lt) (by show ¬ h + pre.length ≤ h + k; omega))
  · rw [List.getElem?_append_right (by omega)] at hy
    have h1 := hR1.2 _ y hy
    rw [show h + pre.length + (k - pre.length) = h + k by omega] at h1
    exact h1
theorem wr_sub {D : va_G} {h : Nat} {pre : List va_E} {x : va_E} {H : Heap} (hR : Wr D h (pre ++ [x]) H) : Wr D (h + pre.length) [x] H := by
  refine ⟨by rw [hR.1]; simp; omega, fun k y hk => ?_⟩
  match k, hk with
  | 0, hk => cases hk; exact wr_at (post := []) hR
section XI
variable {p : Program} {l : Launch} {e : Env} {R : Room} {s : State} {m : MethodId} {args : Array Value} {below : List Frame} {meth : Method} {c : Code} {H H0 : Heap} {locs : List Loc} {cells slots : Nat} {Q : State → Prop}
variable {own : String} {cc : ByteArray} {nL pc : Nat} {ls : Array Slot} {rest : List Value} {D : va_G} {h a n index : Nat} {cs : Cs3} {ws pre post : List va_E} {fs : List Value} {C : String} {T : u_T} {N : Nat}
theorem r_newa (hC : CX p s m args meth c own cc nL D cs) (hR : Wr D h ws H) (hS : va_S (AA h) H0 H locs) (harr : Cond.arrayClass .int ∈ TB) {n : Int32} (K : Nat) (hn : ¬ n < 0) (hN : n.toNatClampNeg = K) (hbytes : K * componentBytes .int ≤ 536870912) (hcells : cells + 1 ≤ R.cells) (hslots : slots + K ≤ R.slots) (ha : h + ws.length = a) (hdg : decode cc pc = .ok (.newarray .int, 2))
    (kk : ∀ H1 : Heap, Wr D h (ws ++ [.inl (cs.1, K, .inl (fun _ => 0))]) H1 → va_S (AA h) H0 H1 locs → W p l e R s m args below meth c H1 locs (cells + 1) (slots + K) Q (F0 m (pc + 2) ls (.ref a :: rest))) : W p l e R s m args below meth c H locs cells slots Q (F0 m pc ls (.int n :: rest)) := by
  obtain ⟨hx, hb, hml, hown, hts, hK, hlk⟩ := hC
  refine va_newaK (atype := .int) hx hb (hts _ harr) rfl hdg rfl hn hN hbytes hcells hslots (h := a) (by rw [← ha]; exact hR.1) fun H1 cA e1 z1 o1 hAr hNm => ?_
  have hcA : cA = cs.1 := Option.some.inj (hNm.symm.trans (hK.1.2 0 _ rfl).2)
  subst hcA
  have hz : H.size = a := by rw [← ha]; exact hR.1
  refine kk H1 (wr_push hR (by rw [z1, hz]) (fun q hq => o1 q (by rw [← hz]; exact hq)) ?_) ⟨Nat.le_trans hS.1 (by omega), fun x h1 h2 => (o1 x (by have := hS.1; omega)).trans (hS.2.1 x h1 h2), hS.2.2⟩
  rw [hz]
  exact e1
theorem r_newz (hC : CX p s m args meth c own cc nL D cs) (hR : Wr D h ws H) (hS : va_S (AA h) H0 H locs) (harr : Cond.arrayClass .boolean ∈ TB) {n : Int32} (K : Nat) (hn : ¬ n < 0) (hN : n.toNatClampNeg = K) (hbytes : K * componentBytes .boolean ≤ 536870912) (hcells : cells + 1 ≤ R.cells) (hslots : slots + K ≤ R.slots) (ha : h + ws.length = a) (hdg : decode cc pc = .ok (.newarray .boolean, 2))
    (kk : ∀ H1 : Heap, Wr D h (ws ++ [.inl (cs.2.1, K, .inl (fun _ => 0))]) H1 → va_S (AA h) H0 H1 locs → W p l e R s m args below meth c H1 locs (cells + 1) (slots + K) Q (F0 m (pc + 2) ls (.ref a :: rest))) : W p l e R s m args below meth c H locs cells slots Q (F0 m pc ls (.int n :: rest)) := by
  obtain ⟨hx, hb, hml, hown, hts, hK, hlk⟩ := hC
  refine va_newaK (atype := .boolean) hx hb (hts _ harr) rfl hdg rfl hn hN hbytes hcells hslots (h := a) (by rw [← ha]; exact hR.1) fun H1 cA e1 z1 o1 hAr hNm => ?_
  have hcA : cA = cs.2.1 := Option.some.inj (hNm.symm.trans (hK.1.2 1 _ rfl).2)
  subst hcA
  have hz : H.size = a := by rw [← ha]; exact hR.1
  refine kk H1 (wr_push hR (by rw [z1, hz]) (fun q hq => o1 q (by rw [← hz]; exact hq)) ?_) ⟨Nat.le_trans hS.1 (by omega), fun x h1 h2 => (o1 x (by have := hS.1; omega)).trans (hS.2.1 x h1 h2), hS.2.2⟩
  rw [hz]
  exact e1
theorem r_newq (hC : CX p s m args meth c own cc nL D cs) (hO : va_AO "ChoristerKeys$Scene" s) (hR : Wr D h ws H) (hS : va_S (AA h) H0 H locs) (hcl : Cond.classLink own index "ChoristerKeys$Scene" ∈ TB) {n : Int32} (K : Nat) (hn : ¬ n < 0) (hN : n.toNatClampNeg = K) (hbytes : K * 4 ≤ 536870912) (hcells : cells + 1 ≤ R.cells) (hslots : slots + K ≤ R.slots) (ha : h + ws.length = a) (hdg : decode cc pc = .ok (.anewarray index, 3))
    (kk : ∀ H1 : Heap, Wr D h (ws ++ [.inl (cs.2.2, K, .inr (.inr (.inr (.inr (fun _ => none)))))]) H1 → va_S (AA h) H0 H1 locs → W p l e R s m args below meth c H1 locs (cells + 1) (slots + K) Q (F0 m (pc + 3) ls (.ref a :: rest))) : W p l e R s m args below meth c H locs cells slots Q (F0 m pc ls (.int n :: rest)) := by
  obtain ⟨hx, hb, hml, hown, hts, hK, hlk⟩ := hC
  subst hN
  have hz : H.size = a := by rw [← ha]; exact hR.1
  refine W.anew hx hb hown (hts _ hcl) (va_AO.use hO) rfl hdg rfl hn hbytes hcells hslots fun cA kA comp f1 f2 f3 f4 => ?_
  have hcA : cA = cs.2.2 := by
    obtain ⟨kA', comp', g1, g2, g3, g4⟩ := (hK.1.2 2 _ rfl).2
    exact Option.some.inj (f1.symm.trans g4)
  subst hcA
  generalize hH1 : H.push ({ cls := cs.2.2, slots := Array.replicate n.toNatClampNeg .null, vm := .none } : Cell) = H1
  have z1 : H1.size = H.size + 1 := by rw [← hH1, Array.size_push]
  have e1 : H1[H.size]? = some (arrV cs.2.2 n.toNatClampNeg (fun _ => .null)) := by rw [← hH1, Array.getElem?_push_size, ← arrV_new]
  have o1 : ∀ q : Nat, q < H.size → H1[q]? = H[q]? := fun q hq => by rw [← hH1, Array.getElem?_push, if_neg (Nat.ne_of_lt hq)]
  have k1 := kk H1 (wr_push hR z1 o1 e1) ⟨Nat.le_trans hS.1 (by omega), fun x h1 h2 => (o1 x (by have := hS.1; omega)).trans (hS.2.1 x h1 h2), hS.2.2⟩
  rw [← hz] at k1
  exact k1
theorem r_new (hC : CX p s m args meth c own cc nL D cs) (hR : Wr D h ws H) (hS : va_S (AA h) H0 H locs) (hc : vwCl[n]? = some (C, T, N)) (hin : ∀ w ∈ u_ws C T N, w ∈ TB) (ty : Nat → FieldType) (hty : ∀ k, k < N → parseFieldDescriptor (T k).2.2.1 = some (ty k)) (hcl : Cond.classLink own index C ∈ TB) (hinst : Cond.instantiable C N ∈ TB) (hini : Cond.initialized C ∈ TB) (hfs : ∀ j, j < N → defaultValue (ty j) = vp_V fs j) (hcells : cells + 1 ≤ R.cells) (hslots : slots + N ≤ R.slots) (ha : h + ws.length = a) (hdg : decode cc pc = .ok (.new index, 3))
    (kk : ∀ H1 : Heap, Wr D h (ws ++ [.inr (n, fs)]) H1 → va_S (AA h) H0 H1 locs → W p l e R s m args below meth c H1 locs (cells + 1) (slots + N) Q (F0 m (pc + 3) ls (.ref a :: rest))) : W p l e R s m args below meth c H locs cells slots Q (F0 m pc ls rest) := by
  obtain ⟨hx, hb, hml, hown, hts, hK, hlk⟩ := hC
  have hKn := hK.1.1 n _ hc
  have hz : H.size = a := by rw [← ha]; exact hR.1
  refine W.newcK hx hb hown (hts _ hcl) (hts _ hinst) (hts _ hini) rfl hdg hcells hslots hKn.2.1 hz fun H1 kC hkC e1 z1 o1 => ?_
  refine kk H1 (wr_push hR (by rw [z1, hz]) (fun q hq => o1 q (by rw [← hz]; exact hq)) ?_) ⟨Nat.le_trans hS.1 (by omega), fun x h1 h2 => (o1 x (by have := hS.1; omega)).trans (hS.2.1 x h1 h2), hS.2.2⟩
  rw [hz]
  exact ⟨_, hc, (u_born ty hts hin hKn hkC e1 hty).to hfs⟩
theorem r_get (hC : CX p s m args meth c own cc nL D cs) (hR : Wr D h (pre ++ .inr (n, fs) :: post) H) (hc : vwCl[n]? = some (C, T, N)) (hin : ∀ w ∈ u_ws C T N, w ∈ TB) (f : Nat) (hf : f < N) (hlink : Cond.fieldLink own index (T f).1 (T f).2.1 (T f).2.2.1 ∈ TB) {v : Value} (hv : fs[f]? = some v) (ha : h + pre.length = a) (hdg : decode cc pc = .ok (.getfield index, 3))
    (kk : W p l e R s m args below meth c H locs cells slots Q (F0 m (pc + 3) ls (v :: rest))) : W p l e R s m args below meth c H locs cells slots Q (F0 m pc ls (.ref a :: rest)) := by
  obtain ⟨hx, hb, hml, hown, hts, hK, hlk⟩ := hC
  have h0 := wr_at hR
  rw [ha] at h0
  have hP : va_P D vwCl [(a, .inr (n, fs))] H := fun i q hq => by
    match i, hq with
    | 0, hq => cases hq; exact h0
  exact va_get hx hb hts hin hown hK.1 hP 0 rfl hc f hf (hts _ hlink) (fun _ h => h) hv hdg kk
theorem r_put (hC : CX p s m args meth c own cc nL D cs) (hR : Wr D h (pre ++ .inr (n, fs) :: post) H) (hS0 : va_S (AA h) H0 H locs) (hc : vwCl[n]? = some (C, T, N)) (hin : ∀ w ∈ u_ws C T N, w ∈ TB) (ty0 : Nat → FieldType) (hty : ∀ k, k < N → parseFieldDescriptor (T k).2.2.1 = some (ty0 k)) (hnm : ∀ a, a < N → ∀ b, b < N → a ≠ b → (T a).2.1 ≠ (T b).2.1) (f : Nat) (hf : f < N) (hlink : Cond.fieldLink own index (T f).1 (T f).2.1 (T f).2.2.1 ∈ TB) (hfin : (T f).2.2.2 = false) {ty : FieldType} {v : Value} (hd : parseFieldDescriptor (T f).2.2.1 = some ty) (hn : narrow ty v = v) (hfit : fits ty v = true) (hl : f < fs.length) (ha : h + pre.length = a)
    (hdg : decode cc pc = .ok (.putfield index, 3)) (kk : ∀ (H1 : Heap) (locs1 : List Loc), Wr D h (pre ++ .inr (n, fs.set f v) :: post) H1 → va_S (AA h) H0 H1 locs1 → W p l e R s m args below meth c H1 locs1 cells slots Q (F0 m (pc + 3) ls rest)) : W p l e R s m args below meth c H locs cells slots Q (F0 m pc ls (v :: .ref a :: rest)) := by
  obtain ⟨hx, hb, hml, hown, hts, hK, hlk⟩ := hC
  subst ha
  have hap := va_apart (own := own) hts hin ty0 hty hnm hK.1 hc
  obtain ⟨r, h1, cell, q1, q2, q3, q4⟩ := wr_at hR
  have hr : r = (C, T, N) := Option.some.inj (h1.symm.trans hc)
  subst hr
  obtain ⟨hS, hfc, kC, hkC, hkind⟩ := hK.1.1 n _ hc
  obtain ⟨cf, kf, fi, fl, hi, hsl⟩ := hS f hf
  have hlay := hts _ (hin _ (u_in_lay hf))
  unfold u_lay at hlay
  rw [if_neg (by rw [hfin]; decide)] at hlay
  have hst := (u_facts hfc hkC (u_lays hts hin hf) hi).1
  have h6 := u_store hfc hkC hkind hlay hi hd hn hfit
  refine W.putK hx hb (f := fl) ⟨hown, hts _ hlink, ⟨_, _, _, hi⟩, hst⟩ (by rw [q2]; exact h6) q1 q3 (by rw [hsl]; exact k2_hasslot (q4 f hf)) rfl rfl hdg fun H' e1 e2 e3 => ?_
  rw [hsl] at e1 ⊢
  exact kk H' _ (wr_set hR e2 e3 ⟨_, hc, t_OB.to (V := updV (vp_V fs) f v) ⟨_, e1, q2, q3, t_set q4 hap hf v⟩ (fun j _ => vp_updV_set hl v j)⟩) (hS0.put e2 e3 (Nat.le_add_right h pre.length))
theorem r_putF (hC : CX p s m args meth c own cc nL D cs) (hin2 : meth.name = "<init>") (hR : Wr D h (pre ++ .inr (n, fs) :: post) H) (hS0 : va_S (AA h) H0 H locs) (hc : vwCl[n]? = some (C, T, N)) (hin : ∀ w ∈ u_ws C T N, w ∈ TB) (ty0 : Nat → FieldType) (hty : ∀ k, k < N → parseFieldDescriptor (T k).2.2.1 = some (ty0 k)) (hnm : ∀ a, a < N → ∀ b, b < N → a ≠ b → (T a).2.1 ≠ (T b).2.1) (f : Nat) (hf : f < N) (hlink : Cond.fieldLink own index (T f).1 (T f).2.1 (T f).2.2.1 ∈ TB) (hfin : (T f).2.2.2 = true) (hdecl : (T f).1 = own) {ty : FieldType} {v : Value} (hd : parseFieldDescriptor (T f).2.2.1 = some ty) (hn : narrow ty v = v) (hfit : fits ty v = true) (hl : f < fs.length) (ha : h + pre.length = a)
    (hdg : decode cc pc = .ok (.putfield index, 3)) (kk : ∀ (H1 : Heap) (locs1 : List Loc), Wr D h (pre ++ .inr (n, fs.set f v) :: post) H1 → va_S (AA h) H0 H1 locs1 → W p l e R s m args below meth c H1 locs1 cells slots Q (F0 m (pc + 3) ls rest)) : W p l e R s m args below meth c H locs cells slots Q (F0 m pc ls (v :: .ref a :: rest)) := by
  obtain ⟨hx, hb, hml, hown, hts, hK, hlk⟩ := hC
  subst ha
  have hap := va_apart (own := own) hts hin ty0 hty hnm hK.1 hc
  obtain ⟨r, h1, cell, q1, q2, q3, q4⟩ := wr_at hR
  have hr : r = (C, T, N) := Option.some.inj (h1.symm.trans hc)
  subst hr
  obtain ⟨hS, hfc, kC, hkC, hkind⟩ := hK.1.1 n _ hc
  obtain ⟨cf, kf, fi, fl, hi, hsl⟩ := hS f hf
  have hlay := hts _ (hin _ (u_in_lay hf))
  unfold u_lay at hlay
  rw [if_pos hfin] at hlay
  have hst := (u_facts hfc hkC (u_lays hts hin hf) hi).1
  have hcf : m.cls = cf := by
    obtain ⟨_, _, c', _, _, _, -, -, hf', -, -, -, hown2, -⟩ := Cond.laysFinal_spec hlay
    have e1 : c' = cf := by have := hi.symm.trans hf'; simp at this; exact this.1.symm
    rw [hdecl] at hown2
    rw [← e1]; exact Option.some.inj (hown.symm.trans hown2)
  have h6 := u_fits hfc hkC hkind (Or.inr hlay) hi hd hn hfit
  refine W.putFinK hx hb hown (hts _ hlink) hi hst hcf hin2 (by rw [q2]; exact h6) q1 q3 (by rw [hsl]; exact k2_hasslot (q4 f hf)) rfl rfl hdg fun H' e1 e2 e3 => ?_
  rw [hsl] at e1 ⊢
  exact kk H' _ (wr_set hR e2 e3 ⟨_, hc, t_OB.to (V := updV (vp_V fs) f v) ⟨_, e1, q2, q3, t_set q4 hap hf v⟩ (fun j _ => vp_updV_set hl v j)⟩) (hS0.put e2 e3 (Nat.le_add_right h pre.length))
/-- a scene goes into an array of scenes -/
theorem r_aast (hC : CX p s m args meth c own cc nL D cs) {K v : Nat} {g : Nat → Option Nat} {vs : List Value} {kv : Nat} (hR : Wr D h (pre ++ .inl (cs.2.2, K, .inr (.inr (.inr (.inr g)))) :: post) H) (hS : va_S (AA h) H0 H locs) (hv : (pre ++ .inl (cs.2.2, K, .inr (.inr (.inr (.inr g)))) :: post)[kv]? = some (.inr (8, vs))) (hva : h + kv = v) {i : Int32} (j : Nat) (hj : i.toNatClampNeg = j) (hi : vp_in i K) (ha : h + pre.length = a) (hdg : decode cc pc = .ok (.aastore, 1))
    (kk : ∀ (H1 : Heap) (locs1 : List Loc), Wr D h (pre ++ .inl (cs.2.2, K, .inr (.inr (.inr (.inr (va_up g j (some v)))))) :: post) H1 → va_S (AA h) H0 H1 locs1 → W p l e R s m args below meth c H1 locs1 cells slots Q (F0 m (pc + 1) ls rest)) : W p l e R s m args below meth c H locs cells slots Q (F0 m pc ls (.ref v :: .int i :: .ref a :: rest)) := by
  obtain ⟨hx, hb, hml, hown, hts, hK, hlk⟩ := hC
  subst ha
  subst hva
  subst hj
  have hlt : i.toNatClampNeg < K := Nat.not_le.mp fun q => hi (Or.inr q)
  have h0 : ¬ i < 0 := fun q => hi (Or.inl q)
  have hA := wr_at hR
  obtain ⟨r', hr', cellV, g1, g2, g3, -⟩ := hR.2 kv _ hv
  have hcls := (hK.1.1 8 _ (rfl : vwCl[8]? = some (RX8, TX8, 6))).2
  obtain ⟨kA, comp, k1, k2, k3, -⟩ := (hK.1.2 2 _ rfl).2
  have hcomp : comp = D.1 8 := Option.some.inj (k3.symm.trans hcls.1)
  subst hcomp
  obtain ⟨kC, hkC, -⟩ := hcls.2
  refine W.aast hx hb hA (fun q h => by cases h) (fun h => by cases h) k1 k2 rfl hkC ⟨h0, by show _ < (arrV _ _ _).slots.size; rw [arrV_size]; exact hlt⟩ g1 (fun q h => by rw [g3] at h; cases h) (by rw [g2]; exact hkC) (by rw [g2]; exact va_assign hcls) rfl rfl hdg fun H1 e z oq => ?_
  refine kk H1 _ (wr_set hR z oq ?_) (hS.put z oq (Nat.le_add_right h pre.length))
  show H1[h + pre.length]? = some (vp_cell _ _)
  rw [e]
  rw [vp_cell_q, vp_cell_q, arrV_store]
  congr 2
  funext q
  by_cases hq : q = i.toNatClampNeg
  · subst hq
    simp [updV, va_up, va_rf]
  · simp [updV, va_up, hq]
/-- a constructor of a cell that was just made -/
theorem r_ctor (hC : CX p s m args meth c own cc nL D cs) (hO : va_AO "ChoristerKeys$Scene" s) {x : va_E} {ws1 : List va_E} (hR : Wr D h (pre ++ [x]) H) (hS : va_S (AA h) H0 H locs) {y : MethodName} {cy : ByteArray} {ny an mc ms : Nat} {rm : Room} {As : List Value} (hM : Ci l y cy ny rm mc ms D cs a (.ref a :: As) [x] ws1) (ha : h + pre.length = a) (mi : MI y cy ny none an) (hinst : Cond.instanceMethod y ∈ TB) (hy : y.name = "<init>") (hlink : Cond.methodLink own index y ∈ TB) (hrm : rm.cells = mc ∧ rm.slots = ms) (hRm : rm.frames + 1 ≤ R.frames ∧ 8 + (ny + 11) + rm.locals ≤ R.locals) (hcs : cells + mc ≤ R.cells ∧ slots + ms ≤ R.slots) {st0 : List Value} (hst : st0 = As.reverse ++ .ref a :: rest) (han : As.length = an) (hls : ls.size = nL) (hroom : (rest.map fun v => v.category).sum ≤ 8) (hdg : decode cc pc = .ok (.invokespecial index, 3))
    (kk : ∀ (H1 : Heap) (locs1 : List Loc), Wr D h (pre ++ ws1) H1 → va_S (AA h) H0 H1 locs1 → W p l e R s m args below meth c H1 locs1 (cells + mc) (slots + ms) Q (F0 m (pc + 3) ls rest)) : W p l e R s m args below meth c H locs cells slots Q (F0 m pc ls st0) := by
  obtain ⟨hx, hb, hml, hown, hts, hK, hlk⟩ := id hC
  obtain ⟨m1, m2, m3, m4, m5⟩ := mi
  subst ha
  have hr := va_runI (e := e) (R := R) (locs := locs) (cells := cells) (slots := slots) (below := below) (meth := meth) (H := H) (g := F0 m pc ls st0) (As := As) (rest := rest) ⟨hx, hb, hml, hown, hts⟩ hM (n := an) ⟨callB_of an hts (WSg m1) rfl hrm.1 hrm.2 (hts _ m2) (hts _ hlink) ⟨m3, m4, m5⟩ hRm, hy, hts _ hinst⟩ ⟨PIb, fun U hU hv => ⟨rfl, by rw [hU]; exact wr_sub hR, ⟨va_K.moved hv.alike hK.1, NTw hv hK.2⟩, va_AO.moved hv.alike hO⟩⟩ rfl han hls hst (lv_room hroom) hdg hcs
  intro T' hT X
  obtain ⟨v, st₀, t, T2, L, h0, X', hL, e1, e2, ⟨hv, hw, hz, hk⟩, st⟩ := hr T' hT X
  cases hv
  rw [h0] at hz hk
  obtain ⟨t2, a1, b1⟩ := kk T2.heap (locs ++ L) (by rw [e1]; exact wr_join hR hw hk)
    ⟨Nat.le_trans hS.1 (by rw [e1]; exact hz), fun q h1 h2 => by rw [e1, hk q (Nat.lt_of_lt_of_le h1 hS.1) (fun z => h2 (Nat.le_trans (Nat.le_add_right _ _) z))]; exact hS.2.1 q h1 h2, fun q hq => by
      rcases List.mem_append.mp hq with h | h
      · exact hS.2.2 q h
      · exact Nat.le_trans (Nat.le_add_right _ _) (hL q h)⟩ T2 rfl X'
  exact ⟨t2, st t2 a1, b1⟩
theorem r_ctorN (hC : CX p s m args meth c own cc nL D cs) (hO : va_AO "ChoristerKeys$Scene" s) {x : va_E} {ws1 : List va_E} (hR : Wr D h (pre ++ [x]) H) (hS : va_S (AA h) H0 H locs) {y : MethodName} {host : String} {cy : ByteArray} {ny an mc ms : Nat} {rm : Room} {As : List Value} (hM : Ci l y cy ny rm mc ms D cs a (.ref a :: As) [x] ws1) (ha : h + pre.length = a) (mi : MI y cy ny none an) (hinst : Cond.instanceMethod y ∈ TB) (hy : y.name = "<init>") (hlink : Cond.methodLinkNest own index y host ∈ NT) (hrm : rm.cells = mc ∧ rm.slots = ms) (hRm : rm.frames + 1 ≤ R.frames ∧ 8 + (ny + 11) + rm.locals ≤ R.locals) (hcs : cells + mc ≤ R.cells ∧ slots + ms ≤ R.slots) {st0 : List Value} (hst : st0 = As.reverse ++ .ref a :: rest) (han : As.length = an) (hls : ls.size = nL) (hroom : (rest.map fun v => v.category).sum ≤ 8) (hdg : decode cc pc = .ok (.invokespecial index, 3))
    (kk : ∀ (H1 : Heap) (locs1 : List Loc), Wr D h (pre ++ ws1) H1 → va_S (AA h) H0 H1 locs1 → W p l e R s m args below meth c H1 locs1 (cells + mc) (slots + ms) Q (F0 m (pc + 3) ls rest)) : W p l e R s m args below meth c H locs cells slots Q (F0 m pc ls st0) := by
  obtain ⟨hx, hb, hml, hown, hts, hK, hlk⟩ := id hC
  obtain ⟨m1, m2, m3, m4, m5⟩ := mi
  subst ha
  have hr := va_runIN (e := e) (R := R) (locs := locs) (cells := cells) (slots := slots) (below := below) (meth := meth) (H := H) (g := F0 m pc ls st0) (As := As) (rest := rest) ⟨hx, hb, hml, hown, hts⟩ hM (n := an) ⟨va_cnB an hts (WSg m1) rfl hrm.1 hrm.2 (hK.2 _ hlink) (hts _ m2) ⟨m3, m4, m5⟩ hRm, hy, hts _ hinst⟩ ⟨PIb, fun U hU hv => ⟨rfl, by rw [hU]; exact wr_sub hR, ⟨va_K.moved hv.alike hK.1, NTw hv hK.2⟩, va_AO.moved hv.alike hO⟩⟩ rfl han hls hst (lv_room hroom) hdg hcs
  intro T' hT X
  obtain ⟨v, st₀, t, T2, L, h0, X', hL, e1, e2, ⟨hv, hw, hz, hk⟩, st⟩ := hr T' hT X
  cases hv
  rw [h0] at hz hk
  obtain ⟨t2, a1, b1⟩ := kk T2.heap (locs ++ L) (by rw [e1]; exact wr_join hR hw hk)
    ⟨Nat.le_trans hS.1 (by rw [e1]; exact hz), fun q h1 h2 => by rw [e1, hk q (Nat.lt_of_lt_of_le h1 hS.1) (fun z => h2 (Nat.le_trans (Nat.le_add_right _ _) z))]; exact hS.2.1 q h1 h2, fun q hq => by
      rcases List.mem_append.mp hq with h | h
      · exact hS.2.2 q h
      · exact Nat.le_trans (Nat.le_add_right _ _) (hL q h)⟩ T2 rfl X'
  exact ⟨t2, st t2 a1, b1⟩
theorem r_vret {mc ms : Nat} (hC : CX p s m args meth c own cc nL D cs) (hr : meth.sig.returnType = none) (hR : Wr D h ws H) (hS : va_S (AA h) s.heap H locs) (hc : cells = mc) (hs : slots = ms) (hdg : decode cc pc = .ok (.return_, 1)) : W p l e R s m args below meth c H locs cells slots (MQ below (QI D h ws) args s mc ms (AA h)) (F0 m pc ls []) := by
  subst hc; subst hs
  exact W.vret hC.1 hC.2.1 hr (fun t ht _ => ⟨rfl, by rw [ht]; exact hR, hS.F ht⟩) hS.2.2 hdg hC.2.2.2.2.2.2
theorem r_obj (hC : CX p s m args meth c own cc nL D cs) (hlink : Cond.methodLink own index Lib.objectInit ∈ TB) (hinst : Cond.instanceMethod Lib.objectInit ∈ TB) (hcode : Cond.code Lib.objectInit ⟨#[0xb1]⟩ 1 none ∈ TB) (hls : ls.size = nL) (hdg : decode cc pc = .ok (.invokespecial index, 3)) (hf : 1 ≤ R.frames) (hl : 12 ≤ R.locals)
    (kk : W p l e R s m args below meth c H locs cells slots Q (F0 m (pc + 3) ls [])) : W p l e R s m args below meth c H locs cells slots Q (F0 m pc ls [.ref a]) := by
  obtain ⟨hx, hb, hml, hown, hts, hK, hlk⟩ := hC
  exact W.objInit hx hb hown (hts _ hlink) (hts _ hinst) (hts _ hcode) rfl (by rw [hml]; exact hls) rfl hdg hf hl kk
end XI
theorem r_met {l : Launch} {y : MethodName} {cc : ByteArray} {nL : Nat} {rm : Room} {mc ms : Nat} {D : va_G} {cs : Cs3} {h : Nat} {av : List Value} {ws0 ws1 : List va_E} (hy : plainName y.cls = true) (hyn : y.name = "<init>") (hnl : (lg_sl av).length ≤ nL)
    (body : ∀ (p : Program) (e : Env) (s : State) (m : MethodId) (below : List Frame) (meth : Method) (c : Code) (ls : Array Slot), CX p s m av.toArray meth c y.cls cc nL D cs → va_AO "ChoristerKeys$Scene" s → meth.name = "<init>" → meth.sig.returnType = none → Wr D h ws0 s.heap → va_S (AA h) s.heap s.heap [] → lv_has ls nL (lv_args 0 av) → W p l e rm s m av.toArray below meth c s.heap [] 0 0 (MQ below (QI D h ws1) av.toArray s mc ms (AA h)) (F0 m 0 ls [])) : Ci l y cc nL rm mc ms D cs h av ws0 ws1 := by
  refine Met.ofW (cc := cc) (maxL := nL) (ret := none) hy rfl ?_
  intro p e s m args below meth c s₁ B hml hv
  obtain ⟨rfl, hW, hK, hO⟩ := hv
  have hts := atoms_spec (ws := WS y cc nL none) B.pre
  rw [lg_entry_eq]
  exact body p e s m below meth c _ ⟨B.exec, B.bytes, hml, findClass_of_methodNamed B.named, fun w hw => hts w (List.mem_cons_of_mem _ hw), hK, B.notSynchronized⟩ hO ((name_of_methodNamed B.named B.method).1.trans hyn) B.returns hW va_S.rf (lv_entry av hnl)
