-- ONE WORLD: every cell of the class's and of the reference's object, one behind another from b on; what they hold is a pair of functions
def TB : List Cond := lw_tbl.filter goodWord
theorem TBm {w : Cond} (i : Nat) (h : lw_tbl[i]? = some w) (hg : goodWord w = true) : w ∈ TB := List.mem_filter.mpr ⟨List.mem_of_getElem? h, hg⟩
theorem TBg {w : Cond} (h : w ∈ TB) : (w.onTables && w.keeps) = true ∨ ∃ ty, w = .arrayClass ty := good_of_word (List.mem_filter.mp h).2
def WS (y : MethodName) (cc : ByteArray) (nL : Nat) (ret : Option FieldType) : List Cond := .code y cc nL ret :: TB
theorem WSg {y : MethodName} {cc : ByteArray} {nL : Nat} {ret : Option FieldType} (h : Cond.code y cc nL ret ∈ TB) : GoodIn TB (WS y cc nL ret) := by
  intro w hw
  rcases List.mem_cons.mp hw with rfl | hw
  · exact ⟨h, TBg h⟩
  · exact ⟨hw, TBg hw⟩
def isNest : Cond → Bool
  | .methodLinkNest _ _ _ _ => true
  | _ => false
def NT : List Cond := lw_tbl.filter isNest
theorem NTm {w : Cond} (i : Nat) (h : lw_tbl[i]? = some w) (hg : isNest w = true) : w ∈ NT := List.mem_filter.mpr ⟨List.mem_of_getElem? h, hg⟩
theorem NTw {s U : State} (hW : s.WarmedH U.vm) (h : ∀ w ∈ NT, va_Nw w s) : ∀ w ∈ NT, va_Nw w U := by
  intro w hw
  have h1 := h w hw
  have h2 := (List.mem_filter.mp hw).2
  cases w <;> first | exact va_Nw.warmM hW h1 | (simp [isNest] at h2; done)
theorem NTb {U V : State} (e : U.vm = V.vm) (h : ∀ w ∈ NT, va_Nw w U) : ∀ w ∈ NT, va_Nw w V := by
  intro w hw
  have h1 := h w hw
  have h2 := (List.mem_filter.mp hw).2
  cases w <;> first | exact va_Nw.same rfl e h1 | (simp [isNest] at h2; done)
theorem uX0 : ∀ w ∈ u_ws RX0 TX0 3, w ∈ TB := by decide +kernel
theorem uX1 : ∀ w ∈ u_ws RX1 TX1 2, w ∈ TB := by decide +kernel
theorem uX2 : ∀ w ∈ u_ws RX2 TX2 12, w ∈ TB := by decide +kernel
theorem uX3 : ∀ w ∈ u_ws RX3 TX3 4, w ∈ TB := by decide +kernel
theorem uX4 : ∀ w ∈ u_ws RX4 TX4 2, w ∈ TB := by decide +kernel
theorem uX5 : ∀ w ∈ u_ws RX5 TX5 2, w ∈ TB := by decide +kernel
theorem uX6 : ∀ w ∈ u_ws RX6 TX6 3, w ∈ TB := by decide +kernel
theorem uX7 : ∀ w ∈ u_ws RX7 TX7 7, w ∈ TB := by decide +kernel
theorem uX8 : ∀ w ∈ u_ws RX8 TX8 6, w ∈ TB := by decide +kernel
theorem uX9 : ∀ w ∈ u_ws RX9 TX9 12, w ∈ TB := by decide +kernel
theorem uX10 : ∀ w ∈ u_ws RX10 TX10 27, w ∈ TB := by decide +kernel

abbrev St : Type := (Nat → Nat → Int32) × (Nat → Int64)
def sI (S : St) (k i : Nat) (v : Int32) : St := (fun a j => if a = k ∧ j = i then v else S.1 a j, S.2)
def sL (S : St) (k : Nat) (v : Int64) : St := (S.1, fun a => if a = k then v else S.2 a)
def shT : List (Nat × Nat × List Nat) := [(0, 9, [3, 5, 14, 23, 28, 80, 91, 92, 93, 95, 97, 100]), (0, 7, [4, 0, 0, 0, 0, 0, 0]), (1, 150, []), (0, 2, [0, 0, 0, 0, 6, 7, 8, 9, 10, 11, 12, 13]), (1, 8, []), (1, 8, []), (1, 8, []), (1, 5, []), (1, 5, []), (1, 5, []), (1, 5, []), (1, 5, []), (0, 2, [0, 0, 0, 0, 15, 16, 17, 18, 19, 20, 21, 22]), (1, 8, []), (1, 8, []), (1, 8, []), (1, 5, []), (1, 5, []), (1, 5, []), (1, 5, []), (1, 5, []), (0, 8, [24, 25, 26, 27, 0, 0]), (1, 5, []), (1, 5, []), (1, 5, []), (1, 8, []), (0, 6, [29, 0, 0]), (3, 10, [28, 33, 38, 43, 48, 53, 58, 63, 68, 73]), (0, 8, [31, 32, 33, 34, 0, 0]), (1, 5, []), (1, 5, []), (1, 5, []), (1, 8, []), (0, 8, [36, 37, 38, 39, 0, 0]), (1, 5, []), (1, 5, []), (1, 5, []), (1, 8, []), (0, 8, [41, 42, 43, 44, 0, 0]), (1, 5, []), (1, 5, []), (1, 5, []), (1, 8, []), (0, 8, [46, 47, 48, 49, 0, 0]), (1, 5, []), (1, 5, []), (1, 5, []), (1, 8, []), (0, 8, [51, 52, 53, 54, 0, 0]), (1, 5, []), (1, 5, []), (1, 5, []), (1, 8, []), (0, 8, [56, 57, 58, 59, 0, 0]), (1, 5, []), (1, 5, []), (1, 5, []), (1, 8, []), (0, 8, [61, 62, 63, 64, 0, 0]), (1, 5, []), (1, 5, []), (1, 5, []), (1, 8, []), (0, 8, [66, 67, 68, 69, 0, 0]), (1, 5, []), (1, 5, []), (1, 5, []), (1, 8, []), (0, 8, [71, 72, 73, 74, 0, 0]), (1, 5, []), (1, 5, []), (1, 5, []), (1, 8, []), (0, 8, [76, 77, 78, 79, 0, 0]), (1, 5, []), (1, 5, []), (1, 5, []), (1, 8, []), (3, 2, [79, 84]), (0, 8, [82, 83, 84, 85, 0, 0]), (1, 5, []), (1, 5, []), (1, 5, []), (1, 8, []), (0, 8, [87, 88, 89, 90, 0, 0]), (1, 5, []), (1, 5, []), (1, 5, []), (1, 8, []), (2, 2, []), (0, 1, [5, 23]), (0, 4, [92, 94]), (1, 32, []), (0, 0, [96, 0, 0]), (1, 6, []), (0, 3, [92, 98, 99, 0]), (1, 6, []), (1, 6, []), (0, 5, [92, 1]), (0, 10, [0, 1, 102, 0, 0, 0, 0, 0, 0, 0, 103, 104, 105, 106, 107, 108, 109, 110, 111, 112, 113, 114, 115, 0, 116, 117, 0]), (1, 150, []), (1, 8, []), (1, 16, []), (1, 16, []), (1, 16, []), (1, 10, []), (1, 10, []), (1, 10, []), (1, 10, []), (1, 10, []), (1, 25, []), (1, 50, []), (2, 2, []), (1, 250, []), (1, 6, []), (1, 6, [])]
def sh (k : Nat) : Nat × Nat × List Nat := shT.getD k (9, 0, [])
def NC : Nat := 116
abbrev Cs3 : Type := ClassId × ClassId × ClassId
def tys (cs : Cs3) : List (ClassId × FieldType) := [(cs.1, .int), (cs.2.1, .boolean), (cs.2.2, .object "ChoristerKeys$Scene")]
def fv (b : Nat) (S : St) (k i : Nat) : Nat → Value
  | 0 => .int (S.1 k i)
  | 1 => .long (S.2 k)
  | c + 2 => .ref (b + c)
def fvs (b : Nat) (S : St) (k : Nat) : Nat → List Nat → List Value
  | _, [] => []
  | i, c :: l => fv b S k i c :: fvs b S k (i + 1) l
def cellOf (b : Nat) (cs : Cs3) (S : St) (k : Nat) : va_E :=
  if (sh k).1 = 0 then .inr ((sh k).2.1, fvs b S k 0 (sh k).2.2)
  else if (sh k).1 = 1 then .inl (cs.1, (sh k).2.1, .inl (S.1 k))
  else if (sh k).1 = 2 then .inl (cs.2.1, (sh k).2.1, .inl (S.1 k))
  else .inl (cs.2.2, (sh k).2.1, .inr (.inr (.inr (.inr (fun i => ((sh k).2.2)[i]?.map (fun c => b + c))))))
def Wd (D : va_G) (b : Nat) (cs : Cs3) (S : St) (H : Heap) : Prop := ∀ k, k < NC → va_at D vwCl (b + k, cellOf b cs S k) H
def KK (D : va_G) (cs : Cs3) (U : State) : Prop := va_K D vwCl (tys cs) U ∧ ∀ w ∈ NT, va_Nw w U
def AA (b : Nat) : Nat → Prop := fun q => b ≤ q
def CX (p : Program) (s : State) (m : MethodId) (args : Array Value) (meth : Method) (c : Code) (own : String) (cc : ByteArray) (nL : Nat) (D : va_G) (cs : Cs3) : Prop :=
  p.tables.exec = Jvm.exec ∧ c.code = cc ∧ c.maxLocals = nL ∧ s.vm.findClass own = some m.cls ∧ (∀ w ∈ TB, w.before args s = true) ∧ KK D cs s ∧ meth.locks = false
def QX (D : va_G) (b : Nat) (cs : Cs3) (o : Option Value) (S : St) : Array Value → State → Outcome → State → Prop := fun _ st oc t => oc = .returned o ∧ Wd D b cs S t.heap ∧ va_F (AA b) st t
def PX (D : va_G) (b : Nat) (cs : Cs3) (S : St) (av : List Value) : Array Value → State → Prop := fun v U => v = av.toArray ∧ Wd D b cs S U.heap ∧ KK D cs U
/-- a method's contract: from state S it comes to state S1 with the answer o -/
def Ct (l : Launch) (y : MethodName) (cc : ByteArray) (nL : Nat) (ret : Option FieldType) (rm : Room) (D : va_G) (b : Nat) (cs : Cs3) (av : List Value) (S : St) (o : Option Value) (S1 : St) : Prop :=
  Met l y (WS y cc nL ret) rm (PX D b cs S av) (QX D b cs o S1) 0 0 (AA b)
theorem PXb {D : va_G} {b : Nat} {cs : Cs3} {S : St} {av : List Value} : FrameBlind (PX D b cs S av) :=
  fun a U g mk ⟨q1, q2, q3⟩ => ⟨q1, q2, va_K.moved (u := U) (U := U.calling g mk a) (Vm.Alike.refl U.vm) q3.1, NTb (rfl : U.vm = (U.calling g mk a).vm) q3.2⟩
-- the state's functions
theorem fvs_len (b : Nat) (S : St) (k : Nat) : ∀ (l : List Nat) (i : Nat), (fvs b S k i l).length = l.length
  | [], _ => rfl
  | _ :: l, i => by simp [fvs, fvs_len b S k l (i + 1)]
theorem fvs_get (b : Nat) (S : St) (k : Nat) : ∀ (l : List Nat) (i j : Nat), (fvs b S k i l)[j]? = (l[j]?).map (fv b S k (i + j))
  | [], _, _ => by simp [fvs]
  | c :: l, i, 0 => by simp [fvs]
  | c :: l, i, j + 1 => by
    rw [fvs, List.getElem?_cons_succ, fvs_get b S k l (i + 1) j, List.getElem?_cons_succ, show i + 1 + j = i + (j + 1) by omega]
theorem fv_sI {b : Nat} {S : St} {k k' i i' : Nat} {v : Int32} (h : ¬ (k' = k ∧ i' = i)) (c : Nat) : fv b (sI S k i v) k' i' c = fv b S k' i' c := by
  match c with
  | 0 => simp [fv, sI, h]
  | 1 => simp [fv, sI]
  | c + 2 => rfl
theorem fvs_ext {b : Nat} {S S1 : St} {k : Nat} : ∀ (l : List Nat) (i : Nat), (∀ j c, l[j]? = some c → fv b S1 k (i + j) c = fv b S k (i + j) c) → fvs b S1 k i l = fvs b S k i l
  | [], _, _ => rfl
  | c :: l, i, h => by
    simp only [fvs]
    rw [show fv b S1 k i c = fv b S k i c from h 0 c rfl, fvs_ext (b := b) (S := S) (S1 := S1) (k := k) l (i + 1) (fun j d hj => by rw [show i + 1 + j = i + (j + 1) by omega]; exact h (j + 1) d hj)]
theorem fvs_set {b : Nat} {S S1 : St} {k : Nat} {v : Value} : ∀ (l : List Nat) (i f : Nat), (∀ c, l[f]? = some c → fv b S1 k (i + f) c = v) → (∀ j c, j ≠ f → l[j]? = some c → fv b S1 k (i + j) c = fv b S k (i + j) c) → (fvs b S k i l).set f v = fvs b S1 k i l
  | [], _, _, _, _ => by simp [fvs]
  | c :: l, i, 0, h, ho => by
    simp only [fvs, List.set_cons_zero]
    rw [show fv b S1 k i c = v from h c rfl, fvs_ext (b := b) (S := S) (S1 := S1) (k := k) l (i + 1) (fun j d hj => by rw [show i + 1 + j = i + (j + 1) by omega]; exact ho (j + 1) d (by omega) hj)]
  | c :: l, i, f + 1, h, ho => by
    simp only [fvs, List.set_cons_succ]
    rw [show fv b S1 k i c = fv b S k i c from ho 0 c (by omega) rfl, fvs_set (b := b) (S := S) (S1 := S1) (k := k) l (i + 1) f (fun d hd => by rw [show i + 1 + f = i + (f + 1) by omega]; exact h d hd) (fun j d hj hd => by rw [show i + 1 + j = i + (j + 1) by omega]; exact ho (j + 1) d (by omega) hd)]
theorem cell_oth {b : Nat} {cs : Cs3} {S S1 : St} {k : Nat} (h1 : ∀ i, S1.1 k i = S.1 k i) (h2 : S1.2 k = S.2 k) : cellOf b cs S1 k = cellOf b cs S k := by
  have e1 : S1.1 k = S.1 k := funext h1
  have e2 : fvs b S1 k 0 (sh k).2.2 = fvs b S k 0 (sh k).2.2 := fvs_ext _ _ (fun j c _ => by
    match c with
    | 0 => simp [fv, h1]
    | 1 => simp [fv, h2]
    | c + 2 => rfl)
  simp only [cellOf, e1, e2]
theorem cell_obj {b : Nat} {cs : Cs3} {S : St} {k n : Nat} {l : List Nat} (h : sh k = (0, n, l)) : cellOf b cs S k = .inr (n, fvs b S k 0 l) := by simp [cellOf, h]
theorem cell_int {b : Nat} {cs : Cs3} {S : St} {k n : Nat} {l : List Nat} (h : sh k = (1, n, l)) : cellOf b cs S k = .inl (cs.1, n, .inl (S.1 k)) := by simp [cellOf, h]
theorem cell_bool {b : Nat} {cs : Cs3} {S : St} {k n : Nat} {l : List Nat} (h : sh k = (2, n, l)) : cellOf b cs S k = .inl (cs.2.1, n, .inl (S.1 k)) := by simp [cellOf, h]
theorem cell_refs {b : Nat} {cs : Cs3} {S : St} {k n : Nat} {l : List Nat} (h : sh k = (3, n, l)) : cellOf b cs S k = .inl (cs.2.2, n, .inr (.inr (.inr (.inr (fun i => l[i]?.map (fun c => b + c)))))) := by simp [cellOf, h]
/-- a world where one cell was written -/
theorem Wd_set {D : va_G} {b : Nat} {cs : Cs3} {S S1 : St} {H H1 : Heap} {k : Nat} (hW : Wd D b cs S H) (hk : va_at D vwCl (b + k, cellOf b cs S1 k) H1) (ho : ∀ k', k' ≠ k → cellOf b cs S1 k' = cellOf b cs S k') (oq : ∀ q : Nat, q ≠ b + k → H1[q]? = H[q]?) : Wd D b cs S1 H1 := by
  intro k' hk'
  by_cases e : k' = k
  · subst e; exact hk
  · rw [ho k' e]
    exact (hW k' hk').kept (oq _ (by show b + k' ≠ b + k; omega))
section XR
variable {p : Program} {l : Launch} {e : Env} {R : Room} {s : State} {m : MethodId} {args : Array Value} {below : List Frame} {meth : Method} {c : Code} {H H0 : Heap} {locs : List Loc} {cells slots : Nat} {Q : State → Prop}
variable {own : String} {cc : ByteArray} {nL pc : Nat} {ls : Array Slot} {rest : List Value} {D : va_G} {b : Nat} {cs : Cs3} {S S1 : St} {k n index : Nat} {ll : List Nat} {C : String} {T : u_T} {N : Nat}
theorem x_get (hC : CX p s m args meth c own cc nL D cs) (hW : Wd D b cs S H) (k : Nat) (hk : k < NC) (hsh : sh k = (0, n, ll)) (hc : vwCl[n]? = some (C, T, N)) (hin : ∀ w ∈ u_ws C T N, w ∈ TB) (f : Nat) (hf : f < N) (hlink : Cond.fieldLink own index (T f).1 (T f).2.1 (T f).2.2.1 ∈ TB) {d : Nat} (hd : ll[f]? = some d) {v : Value} (hv : fv b S k f d = v) (hdg : decode cc pc = .ok (.getfield index, 3))
    (kk : W p l e R s m args below meth c H locs cells slots Q (F0 m (pc + 3) ls (v :: rest))) : W p l e R s m args below meth c H locs cells slots Q (F0 m pc ls (.ref (b + k) :: rest)) := by
  obtain ⟨hx, hb, hml, hown, hts, hK, hlk⟩ := hC
  have h0 := hW k hk
  rw [cell_obj hsh] at h0
  have hP : va_P D vwCl [(b + k, .inr (n, fvs b S k 0 ll))] H := fun i q hq => by
    match i, hq with
    | 0, hq => cases hq; exact h0
  exact va_get hx hb hts hin hown hK.1 hP 0 rfl hc f hf (hts _ hlink) (fun _ h => h) (by rw [fvs_get, hd, Nat.zero_add]; exact congrArg some hv) hdg kk
theorem x_put (hC : CX p s m args meth c own cc nL D cs) (hW : Wd D b cs S H) (hS0 : va_S (AA b) H0 H locs) (k : Nat) (hk : k < NC) (hsh : sh k = (0, n, ll)) (hc : vwCl[n]? = some (C, T, N)) (hin : ∀ w ∈ u_ws C T N, w ∈ TB) (ty0 : Nat → FieldType) (hty : ∀ k, k < N → parseFieldDescriptor (T k).2.2.1 = some (ty0 k)) (hnm : ∀ a, a < N → ∀ b, b < N → a ≠ b → (T a).2.1 ≠ (T b).2.1) (f : Nat) (hf : f < N) (hlink : Cond.fieldLink own index (T f).1 (T f).2.1 (T f).2.2.1 ∈ TB) (hfin : (T f).2.2.2 = false) {ty : FieldType} {v : Value} (hd : parseFieldDescriptor (T f).2.2.1 = some ty) (hn : narrow ty v = v) (hfit : fits ty v = true) (hset : (fvs b S k 0 ll).set f v = fvs b S1 k 0 ll) (hl : f < ll.length) (ho : ∀ k', k' ≠ k → cellOf b cs S1 k' = cellOf b cs S k')
    (hdg : decode cc pc = .ok (.putfield index, 3)) (kk : ∀ (H1 : Heap) (locs1 : List Loc), Wd D b cs S1 H1 → va_S (AA b) H0 H1 locs1 → W p l e R s m args below meth c H1 locs1 cells slots Q (F0 m (pc + 3) ls rest)) : W p l e R s m args below meth c H locs cells slots Q (F0 m pc ls (v :: .ref (b + k) :: rest)) := by
  obtain ⟨hx, hb, hml, hown, hts, hK, hlk⟩ := hC
  have hap := va_apart (own := own) hts hin ty0 hty hnm hK.1 hc
  have h0 := hW k hk
  rw [cell_obj hsh] at h0
  obtain ⟨r, h1, cell, q1, q2, q3, q4⟩ := h0
  have hr : r = (C, T, N) := Option.some.inj (h1.symm.trans hc)
  subst hr
  obtain ⟨hS, hfc, kC, hkC, hkind⟩ := hK.1.1 n _ hc
  obtain ⟨cf, kf, fi, fl, hi, hsl⟩ := hS f hf
  have hlay := hts _ (hin _ (u_in_lay hf))
  unfold u_lay at hlay
  rw [if_neg (by rw [hfin]; decide)] at hlay
  have hst := (u_facts hfc hkC (u_lays hts hin hf) hi).1
  have h6 := u_store hfc hkC hkind hlay hi hd hn hfit
  refine W.putK hx hb (f := fl) ⟨hown, hts _ hlink, ⟨_, _, _, hi⟩, hst⟩ (by rw [q2]; exact h6) q1 q3 (by rw [hsl]; exact k2_hasslot (q4 f hf)) rfl rfl hdg fun H' e1 e2 e3 => ?_
  rw [hsl] at e1 ⊢
  refine kk H' _ (Wd_set hW ?_ ho e3) (hS0.put e2 e3 (Nat.le_add_right b k))
  rw [cell_obj hsh, ← hset]
  exact ⟨_, hc, t_OB.to (V := updV (vp_V (fvs b S k 0 ll)) f v) ⟨_, e1, q2, q3, t_set q4 hap hf v⟩ (fun j _ => vp_updV_set (by rw [fvs_len]; exact hl) v j)⟩
/-- an int field -/
theorem x_puti (hC : CX p s m args meth c own cc nL D cs) (hW : Wd D b cs S H) (hS0 : va_S (AA b) H0 H locs) (k : Nat) (hk : k < NC) (hsh : sh k = (0, n, ll)) (hc : vwCl[n]? = some (C, T, N)) (hin : ∀ w ∈ u_ws C T N, w ∈ TB) (ty0 : Nat → FieldType) (hty : ∀ k, k < N → parseFieldDescriptor (T k).2.2.1 = some (ty0 k)) (hnm : ∀ a, a < N → ∀ b, b < N → a ≠ b → (T a).2.1 ≠ (T b).2.1) (f : Nat) (hf : f < N) (hlink : Cond.fieldLink own index (T f).1 (T f).2.1 (T f).2.2.1 ∈ TB) (hfin : (T f).2.2.2 = false) {ty : FieldType} {v : Int32} (hd : parseFieldDescriptor (T f).2.2.1 = some ty) (hn : narrow ty (.int v) = .int v) (hfit : fits ty (.int v) = true) (h0 : ll[f]? = some 0)
    (hdg : decode cc pc = .ok (.putfield index, 3)) (kk : ∀ (H1 : Heap) (locs1 : List Loc), Wd D b cs (sI S k f v) H1 → va_S (AA b) H0 H1 locs1 → W p l e R s m args below meth c H1 locs1 cells slots Q (F0 m (pc + 3) ls rest)) : W p l e R s m args below meth c H locs cells slots Q (F0 m pc ls (.int v :: .ref (b + k) :: rest)) := by
  refine x_put (S1 := sI S k f v) hC hW hS0 k hk hsh hc hin ty0 hty hnm f hf hlink hfin hd hn hfit ?_ (List.getElem?_eq_some_iff.mp h0).1 ?_ hdg kk
  · refine fvs_set ll 0 f (fun d hd => ?_) (fun j d hj hd => ?_)
    · rw [h0] at hd; cases hd; simp [fv, sI]
    · rw [Nat.zero_add]; exact fv_sI (fun h => hj h.2) d
  · exact fun k' hk' => cell_oth (fun i => by simp [sI, hk']) rfl
/-- a long field, the only one of its cell -/
theorem x_putl (hC : CX p s m args meth c own cc nL D cs) (hW : Wd D b cs S H) (hS0 : va_S (AA b) H0 H locs) (k : Nat) (hk : k < NC) (hsh : sh k = (0, n, ll)) (hc : vwCl[n]? = some (C, T, N)) (hin : ∀ w ∈ u_ws C T N, w ∈ TB) (ty0 : Nat → FieldType) (hty : ∀ k, k < N → parseFieldDescriptor (T k).2.2.1 = some (ty0 k)) (hnm : ∀ a, a < N → ∀ b, b < N → a ≠ b → (T a).2.1 ≠ (T b).2.1) (f : Nat) (hf : f < N) (hlink : Cond.fieldLink own index (T f).1 (T f).2.1 (T f).2.2.1 ∈ TB) (hfin : (T f).2.2.2 = false) {v : Int64} (hd : parseFieldDescriptor (T f).2.2.1 = some .long) (h0 : ll[f]? = some 1) (h1 : ∀ j, j ≠ f → ll[j]? ≠ some 1)
    (hdg : decode cc pc = .ok (.putfield index, 3)) (kk : ∀ (H1 : Heap) (locs1 : List Loc), Wd D b cs (sL S k v) H1 → va_S (AA b) H0 H1 locs1 → W p l e R s m args below meth c H1 locs1 cells slots Q (F0 m (pc + 3) ls rest)) : W p l e R s m args below meth c H locs cells slots Q (F0 m pc ls (.long v :: .ref (b + k) :: rest)) := by
  refine x_put (S1 := sL S k v) hC hW hS0 k hk hsh hc hin ty0 hty hnm f hf hlink hfin hd rfl rfl ?_ (List.getElem?_eq_some_iff.mp h0).1 ?_ hdg kk
  · refine fvs_set ll 0 f (fun d hd => ?_) (fun j d hj hd => ?_)
    · rw [h0] at hd; cases hd; simp [fv, sL]
    · match d, hd with
      | 0, _ => rfl
      | 1, hd => exact absurd hd (h1 j hj)
      | d + 2, _ => rfl
  · exact fun k' hk' => cell_oth (fun i => rfl) (by simp [sL, hk'])
theorem x_iald (hC : CX p s m args meth c own cc nL D cs) (hW : Wd D b cs S H) (k : Nat) (hk : k < NC) {n : Nat} (hsh : sh k = (1, n, [])) {i : Int32} (hin : vp_in i n) (hdg : decode cc pc = .ok (.iaload, 1))
    (kk : W p l e R s m args below meth c H locs cells slots Q (F0 m (pc + 1) ls (.int (S.1 k i.toNatClampNeg) :: rest))) : W p l e R s m args below meth c H locs cells slots Q (F0 m pc ls (.int i :: .ref (b + k) :: rest)) := by
  obtain ⟨hx, hb, hml, hown, hts, hK, hlk⟩ := hC
  have h0 := hW k hk
  rw [cell_int hsh] at h0
  have hlt : i.toNatClampNeg < n := Nat.not_le.mp fun q => hin (Or.inr q)
  exact W.iald (v := .int (S.1 k i.toNatClampNeg)) hx hb h0 ((hK.1.2 0 _ rfl).1 n (fun j => .int (S.1 k j))) (fun q => by cases q) (by show ¬ (i < 0 ∨ (arrV _ _ _).slots.size ≤ _); rw [arrV_size]; exact hin) (by show (arrV _ _ _).slots[_]? = _; rw [arrV_read _ _ hlt]) rfl rfl hdg kk
theorem x_zald (hC : CX p s m args meth c own cc nL D cs) (hW : Wd D b cs S H) (k : Nat) (hk : k < NC) {n : Nat} (hsh : sh k = (2, n, [])) {i : Int32} (hin : vp_in i n) (hdg : decode cc pc = .ok (.baload, 1))
    (kk : W p l e R s m args below meth c H locs cells slots Q (F0 m (pc + 1) ls (.int (S.1 k i.toNatClampNeg) :: rest))) : W p l e R s m args below meth c H locs cells slots Q (F0 m pc ls (.int i :: .ref (b + k) :: rest)) := by
  obtain ⟨hx, hb, hml, hown, hts, hK, hlk⟩ := hC
  have h0 := hW k hk
  rw [cell_bool hsh] at h0
  have hP : va_P D vwCl [(b + k, .inl (cs.2.1, n, .inl (S.1 k)))] H := fun i q hq => by
    match i, hq with
    | 0, hq => cases hq; exact h0
  exact va_zald hx hb hK.1 hP 0 1 rfl rfl hin hdg kk
theorem x_aald (hC : CX p s m args meth c own cc nL D cs) (hW : Wd D b cs S H) (k : Nat) (hk : k < NC) {n : Nat} {ll : List Nat} (hsh : sh k = (3, n, ll)) {i : Int32} (hin : vp_in i n) {j : Nat} (hj : ll[i.toNatClampNeg]? = some j) (hdg : decode cc pc = .ok (.aaload, 1))
    (kk : W p l e R s m args below meth c H locs cells slots Q (F0 m (pc + 1) ls (.ref (b + j) :: rest))) : W p l e R s m args below meth c H locs cells slots Q (F0 m pc ls (.int i :: .ref (b + k) :: rest)) := by
  obtain ⟨hx, hb, hml, hown, hts, hK, hlk⟩ := hC
  have h0 := hW k hk
  rw [cell_refs hsh] at h0
  have hP : va_P D vwCl [(b + k, .inl (cs.2.2, n, .inr (.inr (.inr (.inr (fun i => ll[i]?.map (fun c => b + c)))))))] H := fun i q hq => by
    match i, hq with
    | 0, hq => cases hq; exact h0
  refine va_aldq hx hb hK.1 hP 0 2 rfl rfl hin hdg ?_
  rw [hj]
  exact kk
theorem x_iast (hC : CX p s m args meth c own cc nL D cs) (hW : Wd D b cs S H) (hS0 : va_S (AA b) H0 H locs) (k : Nat) (hk : k < NC) {n : Nat} (hsh : sh k = (1, n, [])) {i x : Int32} (hin : vp_in i n) (hdg : decode cc pc = .ok (.iastore, 1))
    (kk : ∀ (H1 : Heap) (locs1 : List Loc), Wd D b cs (sI S k i.toNatClampNeg x) H1 → va_S (AA b) H0 H1 locs1 → W p l e R s m args below meth c H1 locs1 cells slots Q (F0 m (pc + 1) ls rest)) : W p l e R s m args below meth c H locs cells slots Q (F0 m pc ls (.int x :: .int i :: .ref (b + k) :: rest)) := by
  obtain ⟨hx, hb, hml, hown, hts, hK, hlk⟩ := hC
  have h0 := hW k hk
  rw [cell_int hsh] at h0
  refine W.iast hx hb h0 ((hK.1.2 0 _ rfl).1 n (fun j => .int (S.1 k j))) (fun q => by cases q) (by show ¬ (i < 0 ∨ (arrV _ _ _).slots.size ≤ _); rw [arrV_size]; exact hin) rfl rfl hdg fun H1 e z oq => ?_
  refine kk H1 _ (Wd_set hW ?_ (fun k' hk' => cell_oth (fun i => by simp [sI, hk']) rfl) oq) (hS0.put z oq (Nat.le_add_right b k))
  rw [cell_int hsh]
  show H1[b + k]? = some (vp_cell _ _)
  rw [e]
  rw [vp_cell_i, vp_cell_i, arrV_store]
  congr 2
  funext q
  by_cases hq : q = i.toNatClampNeg
  · subst hq; simp [updV, sI]
  · simp [updV, sI, hq]
theorem x_zast (hC : CX p s m args meth c own cc nL D cs) (hW : Wd D b cs S H) (hS0 : va_S (AA b) H0 H locs) (k : Nat) (hk : k < NC) {n : Nat} (hsh : sh k = (2, n, [])) {i x : Int32} (hin : vp_in i n) (hx01 : vp_nar .boolean x = x) (hdg : decode cc pc = .ok (.bastore, 1))
    (kk : ∀ (H1 : Heap) (locs1 : List Loc), Wd D b cs (sI S k i.toNatClampNeg x) H1 → va_S (AA b) H0 H1 locs1 → W p l e R s m args below meth c H1 locs1 cells slots Q (F0 m (pc + 1) ls rest)) : W p l e R s m args below meth c H locs cells slots Q (F0 m pc ls (.int x :: .int i :: .ref (b + k) :: rest)) := by
  obtain ⟨hx, hb, hml, hown, hts, hK, hlk⟩ := hC
  have h0 := hW k hk
  rw [cell_bool hsh] at h0
  refine W.zast hx hb h0 ((hK.1.2 1 _ rfl).1 n (fun j => .int (S.1 k j))) (fun q => by cases q) (by show ¬ (i < 0 ∨ (arrV _ _ _).slots.size ≤ _); rw [arrV_size]; exact hin) rfl rfl hdg fun H1 e z oq => ?_
  refine kk H1 _ (Wd_set hW ?_ (fun k' hk' => cell_oth (fun i => by simp [sI, hk']) rfl) oq) (hS0.put z oq (Nat.le_add_right b k))
  rw [cell_bool hsh]
  show H1[b + k]? = some (vp_cell _ _)
  rw [e]
  rw [vp_cell_i, vp_cell_i, arrV_store]
  congr 2
  funext q
  by_cases hq : q = i.toNatClampNeg
  · subst hq
    simp [updV, sI]
    first | exact congrArg Value.int hx01 | (rw [← hx01]; rfl) | skip
  · simp [updV, sI, hq]
-- calls
def MI (y : MethodName) (cc : ByteArray) (nL : Nat) (ret : Option FieldType) (n : Nat) : Prop := Cond.code y cc nL ret ∈ TB ∧ Cond.initialized y.cls ∈ TB ∧ y.cls ≠ "java/lang/invoke/MethodHandle" ∧ y.cls ≠ "java/lang/invoke/VarHandle" ∧ (parseMethodDescriptor y.desc).map (fun d => d.parameters.length) = some n
theorem x_go {o : Option Value} {a : Array Value} {st0 : List Value} (hr : va_Run p l e R s m args below meth c H locs cells slots 0 0 (F0 m pc ls st0) rest (QX D b cs o S1 a) (AA b)) (hS : va_S (AA b) H0 H locs)
    (kk : ∀ (H1 : Heap) (locs1 : List Loc), Wd D b cs S1 H1 → va_S (AA b) H0 H1 locs1 → W p l e R s m args below meth c H1 locs1 cells slots Q (F0 m (pc + 3) ls (o.toList ++ rest))) : W p l e R s m args below meth c H locs cells slots Q (F0 m pc ls st0) := by
  intro T hT X
  obtain ⟨v, st₀, t, T', L, h0, X', hL, e1, e2, ⟨hv, hw, hz, hk⟩, st⟩ := hr T hT X
  cases hv
  rw [h0] at hz hk
  obtain ⟨t2, a1, b1⟩ := kk T'.heap (locs ++ L) (by rw [e1]; exact hw)
    ⟨Nat.le_trans hS.1 (by rw [e1]; exact hz), fun q h1 h2 => by rw [e1, hk q (Nat.lt_of_lt_of_le h1 hS.1) h2]; exact hS.2.1 q h1 h2, fun q hq => by
      rcases List.mem_append.mp hq with h | h
      · exact hS.2.2 q h
      · exact hL q h⟩ T' rfl X'
  exact ⟨t2, st t2 a1, b1⟩
theorem x_pre (hC : CX p s m args meth c own cc nL D cs) (hW : Wd D b cs S H) {av : List Value} : ∀ U : State, U.heap = H → s.WarmedH U.vm → PX D b cs S av av.toArray U :=
  fun U hU hv => ⟨rfl, by rw [hU]; exact hW, va_K.moved hv.alike hC.2.2.2.2.2.1.1, NTw hv hC.2.2.2.2.2.1.2⟩
theorem x_callV (hC : CX p s m args meth c own cc nL D cs) (hW : Wd D b cs S H) (hS : va_S (AA b) H0 H locs) {y : MethodName} {cy : ByteArray} {ny an : Nat} {ret : Option FieldType} {rm : Room} {As : List Value} {o : Option Value} (k : Nat) (hM : Ct l y cy ny ret rm D b cs (.ref (b + k) :: As) S o S1) (hk : k < NC) (hsh : sh k = (0, n, ll)) (hc : vwCl[n]? = some (y.cls, T, N)) (mi : MI y cy ny ret an) (hinst : Cond.instanceMethod y ∈ TB) (hsel : Cond.selects y.cls y y ∈ TB) (hlink : Cond.methodLink own index y ∈ TB) (hrm : rm.cells = 0 ∧ rm.slots = 0) (hR : rm.frames + 1 ≤ R.frames ∧ 8 + (ny + 11) + rm.locals ≤ R.locals) (hcs : cells ≤ R.cells ∧ slots ≤ R.slots) {st0 : List Value} (hst : st0 = As.reverse ++ .ref (b + k) :: rest) (han : As.length = an) (hls : ls.size = nL) (hroom : (rest.map fun v => v.category).sum ≤ 8) (hdg : decode cc pc = .ok (.invokevirtual index, 3))
    (kk : ∀ (H1 : Heap) (locs1 : List Loc), Wd D b cs S1 H1 → va_S (AA b) H0 H1 locs1 → W p l e R s m args below meth c H1 locs1 cells slots Q (F0 m (pc + 3) ls (o.toList ++ rest))) : W p l e R s m args below meth c H locs cells slots Q (F0 m pc ls st0) := by
  obtain ⟨hx, hb, hml, hown, hts, hK, hlk⟩ := id hC
  obtain ⟨m1, m2, m3, m4, m5⟩ := mi
  have h0 := hW k hk
  rw [cell_obj hsh] at h0
  have hP : va_P D vwCl [(b + k, .inr (n, fvs b S k 0 ll))] H := fun i q hq => by
    match i, hq with
    | 0, hq => cases hq; exact h0
  refine x_go (va_runV (As := As) (rest := rest) ⟨hx, hb, hml, hown, hts⟩ hM (n := an) ⟨callB_of an hts (WSg m1) rfl hrm.1 hrm.2 (hts _ m2) (hts _ hlink) ⟨m3, m4, m5⟩ hR, hts _ hinst, hts _ hsel⟩ ⟨PXb, ?_, x_pre hC hW⟩ rfl han hls hst (lv_room hroom) hdg hcs) hS kk
  obtain ⟨q', h1, cell, g1, g2, g3, -⟩ := h0
  exact ⟨cell, g1, by rw [g3]; rfl, by rw [g2]; exact (hK.1.1 n _ hc).2.1⟩
theorem x_callS (hC : CX p s m args meth c own cc nL D cs) (hW : Wd D b cs S H) (hS : va_S (AA b) H0 H locs) {y : MethodName} {cy : ByteArray} {ny an : Nat} {ret : Option FieldType} {rm : Room} {As : List Value} {o : Option Value} (hM : Ct l y cy ny ret rm D b cs As S o S1) (mi : MI y cy ny ret an) (hst1 : Cond.static y ∈ TB) (hlink : Cond.methodLink own index y ∈ TB) (hrm : rm.cells = 0 ∧ rm.slots = 0) (hR : rm.frames + 1 ≤ R.frames ∧ 8 + (ny + 11) + rm.locals ≤ R.locals) (hcs : cells ≤ R.cells ∧ slots ≤ R.slots) {st0 : List Value} (hst : st0 = As.reverse ++ rest) (han : As.length = an) (hls : ls.size = nL) (hroom : (rest.map fun v => v.category).sum ≤ 8) (hdg : decode cc pc = .ok (.invokestatic index, 3))
    (kk : ∀ (H1 : Heap) (locs1 : List Loc), Wd D b cs S1 H1 → va_S (AA b) H0 H1 locs1 → W p l e R s m args below meth c H1 locs1 cells slots Q (F0 m (pc + 3) ls (o.toList ++ rest))) : W p l e R s m args below meth c H locs cells slots Q (F0 m pc ls st0) := by
  obtain ⟨hx, hb, hml, hown, hts, hK, hlk⟩ := id hC
  obtain ⟨m1, m2, m3, m4, m5⟩ := mi
  exact x_go (va_runS (As := As) (rest := rest) ⟨hx, hb, hml, hown, hts⟩ hM (n := an) ⟨callB_of an hts (WSg m1) rfl hrm.1 hrm.2 (hts _ m2) (hts _ hlink) ⟨m3, m4, m5⟩ hR, hts _ hst1⟩ ⟨PXb, x_pre hC hW⟩ rfl han hls hst (lv_room hroom) hdg hcs) hS kk
theorem x_callSN (hC : CX p s m args meth c own cc nL D cs) (hW : Wd D b cs S H) (hS : va_S (AA b) H0 H locs) {y : MethodName} {host : String} {cy : ByteArray} {ny an : Nat} {ret : Option FieldType} {rm : Room} {As : List Value} {o : Option Value} (hM : Ct l y cy ny ret rm D b cs As S o S1) (mi : MI y cy ny ret an) (hst1 : Cond.static y ∈ TB) (hlink : Cond.methodLinkNest own index y host ∈ NT) (hrm : rm.cells = 0 ∧ rm.slots = 0) (hR : rm.frames + 1 ≤ R.frames ∧ 8 + (ny + 11) + rm.locals ≤ R.locals) (hcs : cells ≤ R.cells ∧ slots ≤ R.slots) {st0 : List Value} (hst : st0 = As.reverse ++ rest) (han : As.length = an) (hls : ls.size = nL) (hroom : (rest.map fun v => v.category).sum ≤ 8) (hdg : decode cc pc = .ok (.invokestatic index, 3))
    (kk : ∀ (H1 : Heap) (locs1 : List Loc), Wd D b cs S1 H1 → va_S (AA b) H0 H1 locs1 → W p l e R s m args below meth c H1 locs1 cells slots Q (F0 m (pc + 3) ls (o.toList ++ rest))) : W p l e R s m args below meth c H locs cells slots Q (F0 m pc ls st0) := by
  obtain ⟨hx, hb, hml, hown, hts, hK, hlk⟩ := id hC
  obtain ⟨m1, m2, m3, m4, m5⟩ := mi
  exact x_go (va_runSN (As := As) (rest := rest) ⟨hx, hb, hml, hown, hts⟩ hM (n := an) ⟨va_cnB an hts (WSg m1) rfl hrm.1 hrm.2 (hK.2 _ hlink) (hts _ m2) ⟨m3, m4, m5⟩ hR, hts _ hst1, trivial⟩ ⟨PXb, x_pre hC hW⟩ rfl han hls hst (lv_room hroom) hdg hcs) hS kk
-- returns
theorem x_q {o : Option Value} (hW : Wd D b cs S H) (hS : va_S (AA b) s.heap H locs) : ∀ t : State, t.heap = H → s.WarmedH t.vm → QX D b cs o S args s (.returned o) t :=
  fun t ht _ => ⟨rfl, by rw [ht]; exact hW, hS.F ht⟩
theorem x_iret (hC : CX p s m args meth c own cc nL D cs) (hr : meth.sig.returnType = some .int) (hW : Wd D b cs S H) (hS : va_S (AA b) s.heap H locs) {v : Int32} (hdg : decode cc pc = .ok (.ireturn, 1)) : W p l e R s m args below meth c H locs cells slots (MQ below (QX D b cs (some (.int v)) S) args s cells slots (AA b)) (F0 m pc ls [.int v]) :=
  W.iret hC.1 hC.2.1 hr (x_q hW hS) hS.2.2 hdg hC.2.2.2.2.2.2
theorem x_zret (hC : CX p s m args meth c own cc nL D cs) (hr : meth.sig.returnType = some .boolean) (hW : Wd D b cs S H) (hS : va_S (AA b) s.heap H locs) {v : Int32} (hv : v = 0 ∨ v = 1) (hdg : decode cc pc = .ok (.ireturn, 1)) : W p l e R s m args below meth c H locs cells slots (MQ below (QX D b cs (some (.int v)) S) args s cells slots (AA b)) (F0 m pc ls [.int v]) :=
  W.zret hC.1 hC.2.1 hr (by rcases hv with rfl | rfl <;> rfl) (x_q hW hS) hS.2.2 hdg hC.2.2.2.2.2.2
theorem x_lret (hC : CX p s m args meth c own cc nL D cs) (hr : meth.sig.returnType = some .long) (hW : Wd D b cs S H) (hS : va_S (AA b) s.heap H locs) {v : Int64} (hdg : decode cc pc = .ok (.lreturn, 1)) : W p l e R s m args below meth c H locs cells slots (MQ below (QX D b cs (some (.long v)) S) args s cells slots (AA b)) (F0 m pc ls [.long v]) :=
  W.lret hC.1 hC.2.1 hr (x_q hW hS) hS.2.2 hdg hC.2.2.2.2.2.2
theorem x_vret (hC : CX p s m args meth c own cc nL D cs) (hr : meth.sig.returnType = none) (hW : Wd D b cs S H) (hS : va_S (AA b) s.heap H locs) (hdg : decode cc pc = .ok (.return_, 1)) : W p l e R s m args below meth c H locs cells slots (MQ below (QX D b cs none S) args s cells slots (AA b)) (F0 m pc ls []) :=
  W.vret hC.1 hC.2.1 hr (x_q hW hS) hS.2.2 hdg hC.2.2.2.2.2.2
end XR
/-- a method's contract out of the walk of its body -/
theorem x_met {l : Launch} {y : MethodName} {cc : ByteArray} {nL : Nat} {ret : Option FieldType} {rm : Room} {D : va_G} {b : Nat} {cs : Cs3} {av : List Value} {S S1 : St} {o : Option Value} (hy : plainName y.cls = true) (hnl : (lg_sl av).length ≤ nL)
    (body : ∀ (p : Program) (e : Env) (s : State) (m : MethodId) (below : List Frame) (meth : Method) (c : Code) (ls : Array Slot), CX p s m av.toArray meth c y.cls cc nL D cs → meth.sig.returnType = ret → Wd D b cs S s.heap → va_S (AA b) s.heap s.heap [] → lv_has ls nL (lv_args 0 av) → W p l e rm s m av.toArray below meth c s.heap [] 0 0 (MQ below (QX D b cs o S1) av.toArray s 0 0 (AA b)) (F0 m 0 ls [])) : Ct l y cc nL ret rm D b cs av S o S1 := by
  refine Met.ofW (cc := cc) (maxL := nL) (ret := ret) hy rfl ?_
  intro p e s m args below meth c s₁ B hml hv
  obtain ⟨rfl, hW, hK⟩ := hv
  have hts := atoms_spec (ws := WS y cc nL ret) B.pre
  rw [lg_entry_eq]
  exact body p e s m below meth c _ ⟨B.exec, B.bytes, hml, findClass_of_methodNamed B.named, fun w hw => hts w (List.mem_cons_of_mem _ hw), hK, B.notSynchronized⟩ B.returns hW va_S.rf (lv_entry av hnl)
theorem xb {α β : Type} {x : Option α} {f : α → Option β} {r : β} (h : x.bind f = some r) : ∃ a, x = some a ∧ f a = some r := by
  cases x with
  | none => cases h
  | some a => exact ⟨a, rfl, h⟩
theorem xt {α : Type} {c : Prop} [Decidable c] {a b r : α} (hc : c) (h : (if c then a else b) = r) : a = r := by rwa [if_pos hc] at h
theorem xf {α : Type} {c : Prop} [Decidable c] {a b r : α} (hc : ¬ c) (h : (if c then a else b) = r) : b = r := by rwa [if_neg hc] at h
theorem xg {α : Type} {c : Prop} [Decidable c] {a : Option α} {r : α} (h : (if c then a else none) = some r) : c ∧ a = some r := by
  by_cases hc : c
  · exact ⟨hc, by rwa [if_pos hc] at h⟩
  · rw [if_neg hc] at h; cases h
