theorem ml_X10_1 : Cond.methodLink RX10 1 Lib.objectInit ∈ TB := TBm 736 (by decide +kernel) rfl
theorem cw_X9_init : Cond.code yX9_init cX9_init 2 none ∈ TB := TBm 69 (by decide +kernel) rfl
theorem mi_X9_init : MI yX9_init cX9_init 2 none 0 := ⟨cw_X9_init, iw_X9, by decide +kernel, by decide +kernel, by decide +kernel⟩
theorem cw_X10_init : Cond.code yX10_init cX10_init 1 none ∈ TB := TBm 735 (by decide +kernel) rfl
theorem mi_X10_init : MI yX10_init cX10_init 1 none 0 := ⟨cw_X10_init, iw_X10, by decide +kernel, by decide +kernel, by decide +kernel⟩
theorem ml_L_9 : Cond.methodLink RL 9 yX9_init ∈ TB := TBm 67 (by decide +kernel) rfl
theorem ml_L_12 : Cond.methodLink RL 12 yX10_init ∈ TB := TBm 733 (by decide +kernel) rfl
theorem nw_X9 : Cond.instantiable RX9 12 ∈ TB := TBm 66 (by decide +kernel) rfl
theorem nw_X10 : Cond.instantiable RX10 27 ∈ TB := TBm 732 (by decide +kernel) rfl
theorem cl_L_7 : Cond.classLink RL 7 RX9 ∈ TB := TBm 65 (by decide +kernel) rfl
theorem in_X9_init : Cond.instanceMethod yX9_init ∈ TB := TBm 68 (by decide +kernel) rfl
theorem cl_L_10 : Cond.classLink RL 10 RX10 ∈ TB := TBm 731 (by decide +kernel) rfl
theorem in_X10_init : Cond.instanceMethod yX10_init ∈ TB := TBm 734 (by decide +kernel) rfl
def WX10 (cs : Cs3) (b : Nat) : List va_E := [.inr (10, [.int 0, .long 0, .ref (b + 100), .int 0, .int 0, .int 0, .int 0, .int 0, .int 0, .int 0, .ref (b + 101), .ref (b + 102), .ref (b + 103), .ref (b + 104), .ref (b + 105), .ref (b + 106), .ref (b + 107), .ref (b + 108), .ref (b + 109), .ref (b + 110), .ref (b + 111), .ref (b + 112), .ref (b + 113), .int 0, .ref (b + 114), .ref (b + 115), .int 0]), .inl (cs.1, 150, .inl (fun _ => 0)), .inl (cs.1, 8, .inl (fun _ => 0)), .inl (cs.1, 16, .inl (fun _ => 0)), .inl (cs.1, 16, .inl (fun _ => 0)), .inl (cs.1, 16, .inl (fun _ => 0)), .inl (cs.1, 10, .inl (fun _ => 0)), .inl (cs.1, 10, .inl (fun _ => 0)), .inl (cs.1, 10, .inl (fun _ => 0)), .inl (cs.1, 10, .inl (fun _ => 0)), .inl (cs.1, 10, .inl (fun _ => 0)), .inl (cs.1, 25, .inl (fun _ => 0)), .inl (cs.1, 50, .inl (fun _ => 0)), .inl (cs.2.1, 2, .inl (fun _ => 0)), .inl (cs.1, 250, .inl (fun _ => 0)), .inl (cs.1, 6, .inl (fun _ => 0)), .inl (cs.1, 6, .inl (fun _ => 0))]
def S0 : St := (fun k i => if k = 3 ∨ k = 12 then (if i = 0 then 2 else if i = 3 then 5 else 0) else if k = 1 ∧ i = 4 then -1 else if k = 93 ∧ i = 2 then 1 else 0, fun _ => 0)
theorem at_refs {D : va_G} {cl : List vw_C} {a n : Nat} {cA : ClassId} {f g : Nat → Option Nat} {H : Heap} (h : va_at D cl (a, .inl (cA, n, .inr (.inr (.inr (.inr f))))) H) (e : ∀ i, i < n → f i = g i) : va_at D cl (a, .inl (cA, n, .inr (.inr (.inr (.inr g))))) H := by
  have h' : H[a]? = some (vp_cell cA (n, .inr (.inr (.inr (.inr f))))) := h
  show H[a]? = some (vp_cell cA (n, .inr (.inr (.inr (.inr g)))))
  rw [h', vp_cell_q, vp_cell_q]
  congr 1
  unfold arrV
  congr 1
  apply Array.ext
  · simp
  · intro j h1 h2
    simp only [Array.getElem_ofFn]
    rw [e j (by simpa using h1)]

def Gd (D : va_G) (b k0 : Nat) (ws : List va_E) (H : Heap) : Prop := ∀ (i : Nat) (x : va_E), ws[i]? = some x → va_at D vwCl (b + k0 + i, x) H
theorem gd_app {D : va_G} {b k0 n : Nat} {A B : List va_E} {H : Heap} (h : Gd D b k0 (A ++ B) H) (hn : k0 + A.length = n) : Gd D b k0 A H ∧ Gd D b n B H := by
  subst hn
  refine ⟨fun i x hx => h i x ?_, fun i x hx => ?_⟩
  · rw [List.getElem?_append_left (List.getElem?_eq_some_iff.mp hx).1]; exact hx
  · have := h (A.length + i) x (by rw [List.getElem?_append_right (by omega), show A.length + i - A.length = i by omega]; exact hx)
    rw [show b + (k0 + A.length) + i = b + k0 + (A.length + i) by omega]
    exact this
theorem gd_cons {D : va_G} {b k0 : Nat} {x : va_E} {l : List va_E} {H : Heap} (h : Gd D b k0 (x :: l) H) : va_at D vwCl (b + k0, x) H ∧ Gd D b (k0 + 1) l H := by
  refine ⟨h 0 x rfl, fun i y hy => ?_⟩
  have := h (i + 1) y hy
  rw [show b + (k0 + 1) + i = b + k0 + (i + 1) by omega]
  exact this
theorem len_X7 (cs : Cs3) (h : Nat) : (WX7 cs h).length = 2 := rfl
theorem len_X2 (cs : Cs3) (h : Nat) : (WX2 cs h).length = 9 := rfl
theorem len_X8 (cs : Cs3) (h : Nat) : (WX8 cs h).length = 5 := rfl
theorem len_X1 (cs : Cs3) (h c0 c1 : Nat) : (WX1 cs h c0 c1).length = 1 := rfl
theorem len_X4 (cs : Cs3) (h c0 : Nat) : (WX4 cs h c0).length = 2 := rfl
theorem len_X0 (cs : Cs3) (h : Nat) : (WX0 cs h).length = 2 := rfl
theorem len_X3 (cs : Cs3) (h c0 : Nat) : (WX3 cs h c0).length = 3 := rfl
theorem len_X5 (cs : Cs3) (h c0 : Nat) : (WX5 cs h c0).length = 1 := rfl
theorem len_X6 (cs : Cs3) (h : Nat) : (WX6 cs h).length = 52 := by simp [WX6, len_X8]
set_option maxRecDepth 100000 in
theorem blk_1 {D : va_G} {cs : Cs3} {b : Nat} {H : Heap} (h : Gd D b 1 (WX7 cs (b + 1)) H) : ∀ k, 1 ≤ k → k < 3 → va_at D vwCl (b + k, cellOf b cs S0 k) H := by
  intro k h1 h2
  match k, h1, h2 with
  | 0, h1, h2 => exact absurd h1 (by decide)
  | 1, _, _ => exact h 0 _ rfl
  | 2, _, _ => exact h 1 _ rfl
  | k + 3, h1, h2 => exact absurd h2 (by omega)
set_option maxRecDepth 100000 in
theorem blk_3 {D : va_G} {cs : Cs3} {b : Nat} {H : Heap} (h : Gd D b 3 (WX2 cs (b + 3)) H) : ∀ k, 3 ≤ k → k < 12 → va_at D vwCl (b + k, cellOf b cs S0 k) H := by
  intro k h1 h2
  match k, h1, h2 with
  | 0, h1, h2 => exact absurd h1 (by decide)
  | 1, h1, h2 => exact absurd h1 (by decide)
  | 2, h1, h2 => exact absurd h1 (by decide)
  | 3, _, _ => exact h 0 _ rfl
  | 4, _, _ => exact h 1 _ rfl
  | 5, _, _ => exact h 2 _ rfl
  | 6, _, _ => exact h 3 _ rfl
  | 7, _, _ => exact h 4 _ rfl
  | 8, _, _ => exact h 5 _ rfl
  | 9, _, _ => exact h 6 _ rfl
  | 10, _, _ => exact h 7 _ rfl
  | 11, _, _ => exact h 8 _ rfl
  | k + 12, h1, h2 => exact absurd h2 (by omega)
set_option maxRecDepth 100000 in
theorem blk_12 {D : va_G} {cs : Cs3} {b : Nat} {H : Heap} (h : Gd D b 12 (WX2 cs (b + 12)) H) : ∀ k, 12 ≤ k → k < 21 → va_at D vwCl (b + k, cellOf b cs S0 k) H := by
  intro k h1 h2
  match k, h1, h2 with
  | 0, h1, h2 => exact absurd h1 (by decide)
  | 1, h1, h2 => exact absurd h1 (by decide)
  | 2, h1, h2 => exact absurd h1 (by decide)
  | 3, h1, h2 => exact absurd h1 (by decide)
  | 4, h1, h2 => exact absurd h1 (by decide)
  | 5, h1, h2 => exact absurd h1 (by decide)
  | 6, h1, h2 => exact absurd h1 (by decide)
  | 7, h1, h2 => exact absurd h1 (by decide)
  | 8, h1, h2 => exact absurd h1 (by decide)
  | 9, h1, h2 => exact absurd h1 (by decide)
  | 10, h1, h2 => exact absurd h1 (by decide)
  | 11, h1, h2 => exact absurd h1 (by decide)
  | 12, _, _ => exact h 0 _ rfl
  | 13, _, _ => exact h 1 _ rfl
  | 14, _, _ => exact h 2 _ rfl
  | 15, _, _ => exact h 3 _ rfl
  | 16, _, _ => exact h 4 _ rfl
  | 17, _, _ => exact h 5 _ rfl
  | 18, _, _ => exact h 6 _ rfl
  | 19, _, _ => exact h 7 _ rfl
  | 20, _, _ => exact h 8 _ rfl
  | k + 21, h1, h2 => exact absurd h2 (by omega)
set_option maxRecDepth 100000 in
theorem blk_21 {D : va_G} {cs : Cs3} {b : Nat} {H : Heap} (h : Gd D b 21 (WX8 cs (b + 21)) H) : ∀ k, 21 ≤ k → k < 26 → va_at D vwCl (b + k, cellOf b cs S0 k) H := by
  intro k h1 h2
  match k, h1, h2 with
  | 0, h1, h2 => exact absurd h1 (by decide)
  | 1, h1, h2 => exact absurd h1 (by decide)
  | 2, h1, h2 => exact absurd h1 (by decide)
  | 3, h1, h2 => exact absurd h1 (by decide)
  | 4, h1, h2 => exact absurd h1 (by decide)
  | 5, h1, h2 => exact absurd h1 (by decide)
  | 6, h1, h2 => exact absurd h1 (by decide)
  | 7, h1, h2 => exact absurd h1 (by decide)
  | 8, h1, h2 => exact absurd h1 (by decide)
  | 9, h1, h2 => exact absurd h1 (by decide)
  | 10, h1, h2 => exact absurd h1 (by decide)
  | 11, h1, h2 => exact absurd h1 (by decide)
  | 12, h1, h2 => exact absurd h1 (by decide)
  | 13, h1, h2 => exact absurd h1 (by decide)
  | 14, h1, h2 => exact absurd h1 (by decide)
  | 15, h1, h2 => exact absurd h1 (by decide)
  | 16, h1, h2 => exact absurd h1 (by decide)
  | 17, h1, h2 => exact absurd h1 (by decide)
  | 18, h1, h2 => exact absurd h1 (by decide)
  | 19, h1, h2 => exact absurd h1 (by decide)
  | 20, h1, h2 => exact absurd h1 (by decide)
  | 21, _, _ => exact h 0 _ rfl
  | 22, _, _ => exact h 1 _ rfl
  | 23, _, _ => exact h 2 _ rfl
  | 24, _, _ => exact h 3 _ rfl
  | 25, _, _ => exact h 4 _ rfl
  | k + 26, h1, h2 => exact absurd h2 (by omega)
set_option maxRecDepth 100000 in
theorem blk_28 {D : va_G} {cs : Cs3} {b : Nat} {H : Heap} (h : Gd D b 28 (WX8 cs (b + 28)) H) : ∀ k, 28 ≤ k → k < 33 → va_at D vwCl (b + k, cellOf b cs S0 k) H := by
  intro k h1 h2
  match k, h1, h2 with
  | 0, h1, h2 => exact absurd h1 (by decide)
  | 1, h1, h2 => exact absurd h1 (by decide)
  | 2, h1, h2 => exact absurd h1 (by decide)
  | 3, h1, h2 => exact absurd h1 (by decide)
  | 4, h1, h2 => exact absurd h1 (by decide)
  | 5, h1, h2 => exact absurd h1 (by decide)
  | 6, h1, h2 => exact absurd h1 (by decide)
  | 7, h1, h2 => exact absurd h1 (by decide)
  | 8, h1, h2 => exact absurd h1 (by decide)
  | 9, h1, h2 => exact absurd h1 (by decide)
  | 10, h1, h2 => exact absurd h1 (by decide)
  | 11, h1, h2 => exact absurd h1 (by decide)
  | 12, h1, h2 => exact absurd h1 (by decide)
  | 13, h1, h2 => exact absurd h1 (by decide)
  | 14, h1, h2 => exact absurd h1 (by decide)
  | 15, h1, h2 => exact absurd h1 (by decide)
  | 16, h1, h2 => exact absurd h1 (by decide)
  | 17, h1, h2 => exact absurd h1 (by decide)
  | 18, h1, h2 => exact absurd h1 (by decide)
  | 19, h1, h2 => exact absurd h1 (by decide)
  | 20, h1, h2 => exact absurd h1 (by decide)
  | 21, h1, h2 => exact absurd h1 (by decide)
  | 22, h1, h2 => exact absurd h1 (by decide)
  | 23, h1, h2 => exact absurd h1 (by decide)
  | 24, h1, h2 => exact absurd h1 (by decide)
  | 25, h1, h2 => exact absurd h1 (by decide)
  | 26, h1, h2 => exact absurd h1 (by decide)
  | 27, h1, h2 => exact absurd h1 (by decide)
  | 28, _, _ => exact h 0 _ rfl
  | 29, _, _ => exact h 1 _ rfl
  | 30, _, _ => exact h 2 _ rfl
  | 31, _, _ => exact h 3 _ rfl
  | 32, _, _ => exact h 4 _ rfl
  | k + 33, h1, h2 => exact absurd h2 (by omega)
set_option maxRecDepth 100000 in
theorem blk_33 {D : va_G} {cs : Cs3} {b : Nat} {H : Heap} (h : Gd D b 33 (WX8 cs (b + 33)) H) : ∀ k, 33 ≤ k → k < 38 → va_at D vwCl (b + k, cellOf b cs S0 k) H := by
  intro k h1 h2
  match k, h1, h2 with
  | 0, h1, h2 => exact absurd h1 (by decide)
  | 1, h1, h2 => exact absurd h1 (by decide)
  | 2, h1, h2 => exact absurd h1 (by decide)
  | 3, h1, h2 => exact absurd h1 (by decide)
  | 4, h1, h2 => exact absurd h1 (by decide)
  | 5, h1, h2 => exact absurd h1 (by decide)
  | 6, h1, h2 => exact absurd h1 (by decide)
  | 7, h1, h2 => exact absurd h1 (by decide)
  | 8, h1, h2 => exact absurd h1 (by decide)
  | 9, h1, h2 => exact absurd h1 (by decide)
  | 10, h1, h2 => exact absurd h1 (by decide)
  | 11, h1, h2 => exact absurd h1 (by decide)
  | 12, h1, h2 => exact absurd h1 (by decide)
  | 13, h1, h2 => exact absurd h1 (by decide)
  | 14, h1, h2 => exact absurd h1 (by decide)
  | 15, h1, h2 => exact absurd h1 (by decide)
  | 16, h1, h2 => exact absurd h1 (by decide)
  | 17, h1, h2 => exact absurd h1 (by decide)
  | 18, h1, h2 => exact absurd h1 (by decide)
  | 19, h1, h2 => exact absurd h1 (by decide)
  | 20, h1, h2 => exact absurd h1 (by decide)
  | 21, h1, h2 => exact absurd h1 (by decide)
  | 22, h1, h2 => exact absurd h1 (by decide)
  | 23, h1, h2 => exact absurd h1 (by decide)
  | 24, h1, h2 => exact absurd h1 (by decide)
  | 25, h1, h2 => exact absurd h1 (by decide)
  | 26, h1, h2 => exact absurd h1 (by decide)
  | 27, h1, h2 => exact absurd h1 (by decide)
  | 28, h1, h2 => exact absurd h1 (by decide)
  | 29, h1, h2 => exact absurd h1 (by decide)
  | 30, h1, h2 => exact absurd h1 (by decide)
  | 31, h1, h2 => exact absurd h1 (by decide)
  | 32, h1, h2 => exact absurd h1 (by decide)
  | 33, _, _ => exact h 0 _ rfl
  | 34, _, _ => exact h 1 _ rfl
  | 35, _, _ => exact h 2 _ rfl
  | 36, _, _ => exact h 3 _ rfl
  | 37, _, _ => exact h 4 _ rfl
  | k + 38, h1, h2 => exact absurd h2 (by omega)
set_option maxRecDepth 100000 in
theorem blk_38 {D : va_G} {cs : Cs3} {b : Nat} {H : Heap} (h : Gd D b 38 (WX8 cs (b + 38)) H) : ∀ k, 38 ≤ k → k < 43 → va_at D vwCl (b + k, cellOf b cs S0 k) H := by
  intro k h1 h2
  match k, h1, h2 with
  | 0, h1, h2 => exact absurd h1 (by decide)
  | 1, h1, h2 => exact absurd h1 (by decide)
  | 2, h1, h2 => exact absurd h1 (by decide)
  | 3, h1, h2 => exact absurd h1 (by decide)
  | 4, h1, h2 => exact absurd h1 (by decide)
  | 5, h1, h2 => exact absurd h1 (by decide)
  | 6, h1, h2 => exact absurd h1 (by decide)
  | 7, h1, h2 => exact absurd h1 (by decide)
  | 8, h1, h2 => exact absurd h1 (by decide)
  | 9, h1, h2 => exact absurd h1 (by decide)
  | 10, h1, h2 => exact absurd h1 (by decide)
  | 11, h1, h2 => exact absurd h1 (by decide)
  | 12, h1, h2 => exact absurd h1 (by decide)
  | 13, h1, h2 => exact absurd h1 (by decide)
  | 14, h1, h2 => exact absurd h1 (by decide)
  | 15, h1, h2 => exact absurd h1 (by decide)
  | 16, h1, h2 => exact absurd h1 (by decide)
  | 17, h1, h2 => exact absurd h1 (by decide)
  | 18, h1, h2 => exact absurd h1 (by decide)
  | 19, h1, h2 => exact absurd h1 (by decide)
  | 20, h1, h2 => exact absurd h1 (by decide)
  | 21, h1, h2 => exact absurd h1 (by decide)
  | 22, h1, h2 => exact absurd h1 (by decide)
  | 23, h1, h2 => exact absurd h1 (by decide)
  | 24, h1, h2 => exact absurd h1 (by decide)
  | 25, h1, h2 => exact absurd h1 (by decide)
  | 26, h1, h2 => exact absurd h1 (by decide)
  | 27, h1, h2 => exact absurd h1 (by decide)
  | 28, h1, h2 => exact absurd h1 (by decide)
  | 29, h1, h2 => exact absurd h1 (by decide)
  | 30, h1, h2 => exact absurd h1 (by decide)
  | 31, h1, h2 => exact absurd h1 (by decide)
  | 32, h1, h2 => exact absurd h1 (by decide)
  | 33, h1, h2 => exact absurd h1 (by decide)
  | 34, h1, h2 => exact absurd h1 (by decide)
  | 35, h1, h2 => exact absurd h1 (by decide)
  | 36, h1, h2 => exact absurd h1 (by decide)
  | 37, h1, h2 => exact absurd h1 (by decide)
  | 38, _, _ => exact h 0 _ rfl
  | 39, _, _ => exact h 1 _ rfl
  | 40, _, _ => exact h 2 _ rfl
  | 41, _, _ => exact h 3 _ rfl
  | 42, _, _ => exact h 4 _ rfl
  | k + 43, h1, h2 => exact absurd h2 (by omega)
set_option maxRecDepth 100000 in
theorem blk_43 {D : va_G} {cs : Cs3} {b : Nat} {H : Heap} (h : Gd D b 43 (WX8 cs (b + 43)) H) : ∀ k, 43 ≤ k → k < 48 → va_at D vwCl (b + k, cellOf b cs S0 k) H := by
  intro k h1 h2
  match k, h1, h2 with
  | 0, h1, h2 => exact absurd h1 (by decide)
  | 1, h1, h2 => exact absurd h1 (by decide)
  | 2, h1, h2 => exact absurd h1 (by decide)
  | 3, h1, h2 => exact absurd h1 (by decide)
  | 4, h1, h2 => exact absurd h1 (by decide)
  | 5, h1, h2 => exact absurd h1 (by decide)
  | 6, h1, h2 => exact absurd h1 (by decide)
  | 7, h1, h2 => exact absurd h1 (by decide)
  | 8, h1, h2 => exact absurd h1 (by decide)
  | 9, h1, h2 => exact absurd h1 (by decide)
  | 10, h1, h2 => exact absurd h1 (by decide)
  | 11, h1, h2 => exact absurd h1 (by decide)
  | 12, h1, h2 => exact absurd h1 (by decide)
  | 13, h1, h2 => exact absurd h1 (by decide)
  | 14, h1, h2 => exact absurd h1 (by decide)
  | 15, h1, h2 => exact absurd h1 (by decide)
  | 16, h1, h2 => exact absurd h1 (by decide)
  | 17, h1, h2 => exact absurd h1 (by decide)
  | 18, h1, h2 => exact absurd h1 (by decide)
  | 19, h1, h2 => exact absurd h1 (by decide)
  | 20, h1, h2 => exact absurd h1 (by decide)
  | 21, h1, h2 => exact absurd h1 (by decide)
  | 22, h1, h2 => exact absurd h1 (by decide)
  | 23, h1, h2 => exact absurd h1 (by decide)
  | 24, h1, h2 => exact absurd h1 (by decide)
  | 25, h1, h2 => exact absurd h1 (by decide)
  | 26, h1, h2 => exact absurd h1 (by decide)
  | 27, h1, h2 => exact absurd h1 (by decide)
  | 28, h1, h2 => exact absurd h1 (by decide)
  | 29, h1, h2 => exact absurd h1 (by decide)
  | 30, h1, h2 => exact absurd h1 (by decide)
  | 31, h1, h2 => exact absurd h1 (by decide)
  | 32, h1, h2 => exact absurd h1 (by decide)
  | 33, h1, h2 => exact absurd h1 (by decide)
  | 34, h1, h2 => exact absurd h1 (by decide)
  | 35, h1, h2 => exact absurd h1 (by decide)
  | 36, h1, h2 => exact absurd h1 (by decide)
  | 37, h1, h2 => exact absurd h1 (by decide)
  | 38, h1, h2 => exact absurd h1 (by decide)
  | 39, h1, h2 => exact absurd h1 (by decide)
  | 40, h1, h2 => exact absurd h1 (by decide)
  | 41, h1, h2 => exact absurd h1 (by decide)
  | 42, h1, h2 => exact absurd h1 (by decide)
  | 43, _, _ => exact h 0 _ rfl
  | 44, _, _ => exact h 1 _ rfl
  | 45, _, _ => exact h 2 _ rfl
  | 46, _, _ => exact h 3 _ rfl
  | 47, _, _ => exact h 4 _ rfl
  | k + 48, h1, h2 => exact absurd h2 (by omega)
set_option maxRecDepth 100000 in
theorem blk_48 {D : va_G} {cs : Cs3} {b : Nat} {H : Heap} (h : Gd D b 48 (WX8 cs (b + 48)) H) : ∀ k, 48 ≤ k → k < 53 → va_at D vwCl (b + k, cellOf b cs S0 k) H := by
  intro k h1 h2
  match k, h1, h2 with
  | 0, h1, h2 => exact absurd h1 (by decide)
  | 1, h1, h2 => exact absurd h1 (by decide)
  | 2, h1, h2 => exact absurd h1 (by decide)
  | 3, h1, h2 => exact absurd h1 (by decide)
  | 4, h1, h2 => exact absurd h1 (by decide)
  | 5, h1, h2 => exact absurd h1 (by decide)
  | 6, h1, h2 => exact absurd h1 (by decide)
  | 7, h1, h2 => exact absurd h1 (by decide)
  | 8, h1, h2 => exact absurd h1 (by decide)
  | 9, h1, h2 => exact absurd h1 (by decide)
  | 10, h1, h2 => exact absurd h1 (by decide)
  | 11, h1, h2 => exact absurd h1 (by decide)
  | 12, h1, h2 => exact absurd h1 (by decide)
  | 13, h1, h2 => exact absurd h1 (by decide)
  | 14, h1, h2 => exact absurd h1 (by decide)
  | 15, h1, h2 => exact absurd h1 (by decide)
  | 16, h1, h2 => exact absurd h1 (by decide)
  | 17, h1, h2 => exact absurd h1 (by decide)
  | 18, h1, h2 => exact absurd h1 (by decide)
  | 19, h1, h2 => exact absurd h1 (by decide)
  | 20, h1, h2 => exact absurd h1 (by decide)
  | 21, h1, h2 => exact absurd h1 (by decide)
  | 22, h1, h2 => exact absurd h1 (by decide)
  | 23, h1, h2 => exact absurd h1 (by decide)
  | 24, h1, h2 => exact absurd h1 (by decide)
  | 25, h1, h2 => exact absurd h1 (by decide)
  | 26, h1, h2 => exact absurd h1 (by decide)
  | 27, h1, h2 => exact absurd h1 (by decide)
  | 28, h1, h2 => exact absurd h1 (by decide)
  | 29, h1, h2 => exact absurd h1 (by decide)
  | 30, h1, h2 => exact absurd h1 (by decide)
  | 31, h1, h2 => exact absurd h1 (by decide)
  | 32, h1, h2 => exact absurd h1 (by decide)
  | 33, h1, h2 => exact absurd h1 (by decide)
  | 34, h1, h2 => exact absurd h1 (by decide)
  | 35, h1, h2 => exact absurd h1 (by decide)
  | 36, h1, h2 => exact absurd h1 (by decide)
  | 37, h1, h2 => exact absurd h1 (by decide)
  | 38, h1, h2 => exact absurd h1 (by decide)
  | 39, h1, h2 => exact absurd h1 (by decide)
  | 40, h1, h2 => exact absurd h1 (by decide)
  | 41, h1, h2 => exact absurd h1 (by decide)
  | 42, h1, h2 => exact absurd h1 (by decide)
  | 43, h1, h2 => exact absurd h1 (by decide)
  | 44, h1, h2 => exact absurd h1 (by decide)
  | 45, h1, h2 => exact absurd h1 (by decide)
  | 46, h1, h2 => exact absurd h1 (by decide)
  | 47, h1, h2 => exact absurd h1 (by decide)
  | 48, _, _ => exact h 0 _ rfl
  | 49, _, _ => exact h 1 _ rfl
  | 50, _, _ => exact h 2 _ rfl
  | 51, _, _ => exact h 3 _ rfl
  | 52, _, _ => exact h 4 _ rfl
  | k + 53, h1, h2 => exact absurd h2 (by omega)
set_option maxRecDepth 100000 in
theorem blk_53 {D : va_G} {cs : Cs3} {b : Nat} {H : Heap} (h : Gd D b 53 (WX8 cs (b + 53)) H) : ∀ k, 53 ≤ k → k < 58 → va_at D vwCl (b + k, cellOf b cs S0 k) H := by
  intro k h1 h2
  match k, h1, h2 with
  | 0, h1, h2 => exact absurd h1 (by decide)
  | 1, h1, h2 => exact absurd h1 (by decide)
  | 2, h1, h2 => exact absurd h1 (by decide)
  | 3, h1, h2 => exact absurd h1 (by decide)
  | 4, h1, h2 => exact absurd h1 (by decide)
  | 5, h1, h2 => exact absurd h1 (by decide)
  | 6, h1, h2 => exact absurd h1 (by decide)
  | 7, h1, h2 => exact absurd h1 (by decide)
  | 8, h1, h2 => exact absurd h1 (by decide)
  | 9, h1, h2 => exact absurd h1 (by decide)
  | 10, h1, h2 => exact absurd h1 (by decide)
  | 11, h1, h2 => exact absurd h1 (by decide)
  | 12, h1, h2 => exact absurd h1 (by decide)
  | 13, h1, h2 => exact absurd h1 (by decide)
  | 14, h1, h2 => exact absurd h1 (by decide)
  | 15, h1, h2 => exact absurd h1 (by decide)
  | 16, h1, h2 => exact absurd h1 (by decide)
  | 17, h1, h2 => exact absurd h1 (by decide)
  | 18, h1, h2 => exact absurd h1 (by decide)
  | 19, h1, h2 => exact absurd h1 (by decide)
  | 20, h1, h2 => exact absurd h1 (by decide)
  | 21, h1, h2 => exact absurd h1 (by decide)
  | 22, h1, h2 => exact absurd h1 (by decide)
  | 23, h1, h2 => exact absurd h1 (by decide)
  | 24, h1, h2 => exact absurd h1 (by decide)
  | 25, h1, h2 => exact absurd h1 (by decide)
  | 26, h1, h2 => exact absurd h1 (by decide)
  | 27, h1, h2 => exact absurd h1 (by decide)
  | 28, h1, h2 => exact absurd h1 (by decide)
  | 29, h1, h2 => exact absurd h1 (by decide)
  | 30, h1, h2 => exact absurd h1 (by decide)
  | 31, h1, h2 => exact absurd h1 (by decide)
  | 32, h1, h2 => exact absurd h1 (by decide)
  | 33, h1, h2 => exact absurd h1 (by decide)
  | 34, h1, h2 => exact absurd h1 (by decide)
  | 35, h1, h2 => exact absurd h1 (by decide)
  | 36, h1, h2 => exact absurd h1 (by decide)
  | 37, h1, h2 => exact absurd h1 (by decide)
  | 38, h1, h2 => exact absurd h1 (by decide)
  | 39, h1, h2 => exact absurd h1 (by decide)
  | 40, h1, h2 => exact absurd h1 (by decide)
  | 41, h1, h2 => exact absurd h1 (by decide)
  | 42, h1, h2 => exact absurd h1 (by decide)
  | 43, h1, h2 => exact absurd h1 (by decide)
  | 44, h1, h2 => exact absurd h1 (by decide)
  | 45, h1, h2 => exact absurd h1 (by decide)
  | 46, h1, h2 => exact absurd h1 (by decide)
  | 47, h1, h2 => exact absurd h1 (by decide)
  | 48, h1, h2 => exact absurd h1 (by decide)
  | 49, h1, h2 => exact absurd h1 (by decide)
  | 50, h1, h2 => exact absurd h1 (by decide)
  | 51, h1, h2 => exact absurd h1 (by decide)
  | 52, h1, h2 => exact absurd h1 (by decide)
  | 53, _, _ => exact h 0 _ rfl
  | 54, _, _ => exact h 1 _ rfl
  | 55, _, _ => exact h 2 _ rfl
  | 56, _, _ => exact h 3 _ rfl
  | 57, _, _ => exact h 4 _ rfl
  | k + 58, h1, h2 => exact absurd h2 (by omega)
set_option maxRecDepth 100000 in
theorem blk_58 {D : va_G} {cs : Cs3} {b : Nat} {H : Heap} (h : Gd D b 58 (WX8 cs (b + 58)) H) : ∀ k, 58 ≤ k → k < 63 → va_at D vwCl (b + k, cellOf b cs S0 k) H := by
  intro k h1 h2
  match k, h1, h2 with
  | 0, h1, h2 => exact absurd h1 (by decide)
  | 1, h1, h2 => exact absurd h1 (by decide)
  | 2, h1, h2 => exact absurd h1 (by decide)
  | 3, h1, h2 => exact absurd h1 (by decide)
  | 4, h1, h2 => exact absurd h1 (by decide)
  | 5, h1, h2 => exact absurd h1 (by decide)
  | 6, h1, h2 => exact absurd h1 (by decide)
  | 7, h1, h2 => exact absurd h1 (by decide)
  | 8, h1, h2 => exact absurd h1 (by decide)
  | 9, h1, h2 => exact absurd h1 (by decide)
  | 10, h1, h2 => exact absurd h1 (by decide)
  | 11, h1, h2 => exact absurd h1 (by decide)
  | 12, h1, h2 => exact absurd h1 (by decide)
  | 13, h1, h2 => exact absurd h1 (by decide)
  | 14, h1, h2 => exact absurd h1 (by decide)
  | 15, h1, h2 => exact absurd h1 (by decide)
  | 16, h1, h2 => exact absurd h1 (by decide)
  | 17, h1, h2 => exact absurd h1 (by decide)
  | 18, h1, h2 => exact absurd h1 (by decide)
  | 19, h1, h2 => exact absurd h1 (by decide)
  | 20, h1, h2 => exact absurd h1 (by decide)
  | 21, h1, h2 => exact absurd h1 (by decide)
  | 22, h1, h2 => exact absurd h1 (by decide)
  | 23, h1, h2 => exact absurd h1 (by decide)
  | 24, h1, h2 => exact absurd h1 (by decide)
  | 25, h1, h2 => exact absurd h1 (by decide)
  | 26, h1, h2 => exact absurd h1 (by decide)
  | 27, h1, h2 => exact absurd h1 (by decide)
  | 28, h1, h2 => exact absurd h1 (by decide)
  | 29, h1, h2 => exact absurd h1 (by decide)
  | 30, h1, h2 => exact absurd h1 (by decide)
  | 31, h1, h2 => exact absurd h1 (by decide)
  | 32, h1, h2 => exact absurd h1 (by decide)
  | 33, h1, h2 => exact absurd h1 (by decide)
  | 34, h1, h2 => exact absurd h1 (by decide)
  | 35, h1, h2 => exact absurd h1 (by decide)
  | 36, h1, h2 => exact absurd h1 (by decide)
  | 37, h1, h2 => exact absurd h1 (by decide)
  | 38, h1, h2 => exact absurd h1 (by decide)
  | 39, h1, h2 => exact absurd h1 (by decide)
  | 40, h1, h2 => exact absurd h1 (by decide)
  | 41, h1, h2 => exact absurd h1 (by decide)
  | 42, h1, h2 => exact absurd h1 (by decide)
  | 43, h1, h2 => exact absurd h1 (by decide)
  | 44, h1, h2 => exact absurd h1 (by decide)
  | 45, h1, h2 => exact absurd h1 (by decide)
  | 46, h1, h2 => exact absurd h1 (by decide)
  | 47, h1, h2 => exact absurd h1 (by decide)
  | 48, h1, h2 => exact absurd h1 (by decide)
  | 49, h1, h2 => exact absurd h1 (by decide)
  | 50, h1, h2 => exact absurd h1 (by decide)
  | 51, h1, h2 => exact absurd h1 (by decide)
  | 52, h1, h2 => exact absurd h1 (by decide)
  | 53, h1, h2 => exact absurd h1 (by decide)
  | 54, h1, h2 => exact absurd h1 (by decide)
  | 55, h1, h2 => exact absurd h1 (by decide)
  | 56, h1, h2 => exact absurd h1 (by decide)
  | 57, h1, h2 => exact absurd h1 (by decide)
  | 58, _, _ => exact h 0 _ rfl
  | 59, _, _ => exact h 1 _ rfl
  | 60, _, _ => exact h 2 _ rfl
  | 61, _, _ => exact h 3 _ rfl
  | 62, _, _ => exact h 4 _ rfl
  | k + 63, h1, h2 => exact absurd h2 (by omega)
set_option maxRecDepth 100000 in
theorem blk_63 {D : va_G} {cs : Cs3} {b : Nat} {H : Heap} (h : Gd D b 63 (WX8 cs (b + 63)) H) : ∀ k, 63 ≤ k → k < 68 → va_at D vwCl (b + k, cellOf b cs S0 k) H := by
  intro k h1 h2
  match k, h1, h2 with
  | 0, h1, h2 => exact absurd h1 (by decide)
  | 1, h1, h2 => exact absurd h1 (by decide)
  | 2, h1, h2 => exact absurd h1 (by decide)
  | 3, h1, h2 => exact absurd h1 (by decide)
  | 4, h1, h2 => exact absurd h1 (by decide)
  | 5, h1, h2 => exact absurd h1 (by decide)
  | 6, h1, h2 => exact absurd h1 (by decide)
  | 7, h1, h2 => exact absurd h1 (by decide)
  | 8, h1, h2 => exact absurd h1 (by decide)
  | 9, h1, h2 => exact absurd h1 (by decide)
  | 10, h1, h2 => exact absurd h1 (by decide)
  | 11, h1, h2 => exact absurd h1 (by decide)
  | 12, h1, h2 => exact absurd h1 (by decide)
  | 13, h1, h2 => exact absurd h1 (by decide)
  | 14, h1, h2 => exact absurd h1 (by decide)
  | 15, h1, h2 => exact absurd h1 (by decide)
  | 16, h1, h2 => exact absurd h1 (by decide)
  | 17, h1, h2 => exact absurd h1 (by decide)
  | 18, h1, h2 => exact absurd h1 (by decide)
  | 19, h1, h2 => exact absurd h1 (by decide)
  | 20, h1, h2 => exact absurd h1 (by decide)
  | 21, h1, h2 => exact absurd h1 (by decide)
  | 22, h1, h2 => exact absurd h1 (by decide)
  | 23, h1, h2 => exact absurd h1 (by decide)
  | 24, h1, h2 => exact absurd h1 (by decide)
  | 25, h1, h2 => exact absurd h1 (by decide)
  | 26, h1, h2 => exact absurd h1 (by decide)
  | 27, h1, h2 => exact absurd h1 (by decide)
  | 28, h1, h2 => exact absurd h1 (by decide)
  | 29, h1, h2 => exact absurd h1 (by decide)
  | 30, h1, h2 => exact absurd h1 (by decide)
  | 31, h1, h2 => exact absurd h1 (by decide)
  | 32, h1, h2 => exact absurd h1 (by decide)
  | 33, h1, h2 => exact absurd h1 (by decide)
  | 34, h1, h2 => exact absurd h1 (by decide)
  | 35, h1, h2 => exact absurd h1 (by decide)
  | 36, h1, h2 => exact absurd h1 (by decide)
  | 37, h1, h2 => exact absurd h1 (by decide)
  | 38, h1, h2 => exact absurd h1 (by decide)
  | 39, h1, h2 => exact absurd h1 (by decide)
  | 40, h1, h2 => exact absurd h1 (by decide)
  | 41, h1, h2 => exact absurd h1 (by decide)
  | 42, h1, h2 => exact absurd h1 (by decide)
  | 43, h1, h2 => exact absurd h1 (by decide)
  | 44, h1, h2 => exact absurd h1 (by decide)
  | 45, h1, h2 => exact absurd h1 (by decide)
  | 46, h1, h2 => exact absurd h1 (by decide)
  | 47, h1, h2 => exact absurd h1 (by decide)
  | 48, h1, h2 => exact absurd h1 (by decide)
  | 49, h1, h2 => exact absurd h1 (by decide)
  | 50, h1, h2 => exact absurd h1 (by decide)
  | 51, h1, h2 => exact absurd h1 (by decide)
  | 52, h1, h2 => exact absurd h1 (by decide)
  | 53, h1, h2 => exact absurd h1 (by decide)
  | 54, h1, h2 => exact absurd h1 (by decide)
  | 55, h1, h2 => exact absurd h1 (by decide)
  | 56, h1, h2 => exact absurd h1 (by decide)
  | 57, h1, h2 => exact absurd h1 (by decide)
  | 58, h1, h2 => exact absurd h1 (by decide)
  | 59, h1, h2 => exact absurd h1 (by decide)
  | 60, h1, h2 => exact absurd h1 (by decide)
  | 61, h1, h2 => exact absurd h1 (by decide)
  | 62, h1, h2 => exact absurd h1 (by decide)
  | 63, _, _ => exact h 0 _ rfl
  | 64, _, _ => exact h 1 _ rfl
  | 65, _, _ => exact h 2 _ rfl
  | 66, _, _ => exact h 3 _ rfl
  | 67, _, _ => exact h 4 _ rfl
  | k + 68, h1, h2 => exact absurd h2 (by omega)
set_option maxRecDepth 100000 in
theorem blk_68 {D : va_G} {cs : Cs3} {b : Nat} {H : Heap} (h : Gd D b 68 (WX8 cs (b + 68)) H) : ∀ k, 68 ≤ k → k < 73 → va_at D vwCl (b + k, cellOf b cs S0 k) H := by
  intro k h1 h2
  match k, h1, h2 with
  | 0, h1, h2 => exact absurd h1 (by decide)
  | 1, h1, h2 => exact absurd h1 (by decide)
  | 2, h1, h2 => exact absurd h1 (by decide)
  | 3, h1, h2 => exact absurd h1 (by decide)
  | 4, h1, h2 => exact absurd h1 (by decide)
  | 5, h1, h2 => exact absurd h1 (by decide)
  | 6, h1, h2 => exact absurd h1 (by decide)
  | 7, h1, h2 => exact absurd h1 (by decide)
  | 8, h1, h2 => exact absurd h1 (by decide)
  | 9, h1, h2 => exact absurd h1 (by decide)
  | 10, h1, h2 => exact absurd h1 (by decide)
  | 11, h1, h2 => exact absurd h1 (by decide)
  | 12, h1, h2 => exact absurd h1 (by decide)
  | 13, h1, h2 => exact absurd h1 (by decide)
  | 14, h1, h2 => exact absurd h1 (by decide)
  | 15, h1, h2 => exact absurd h1 (by decide)
  | 16, h1, h2 => exact absurd h1 (by decide)
  | 17, h1, h2 => exact absurd h1 (by decide)
  | 18, h1, h2 => exact absurd h1 (by decide)
  | 19, h1, h2 => exact absurd h1 (by decide)
  | 20, h1, h2 => exact absurd h1 (by decide)
  | 21, h1, h2 => exact absurd h1 (by decide)
  | 22, h1, h2 => exact absurd h1 (by decide)
  | 23, h1, h2 => exact absurd h1 (by decide)
  | 24, h1, h2 => exact absurd h1 (by decide)
  | 25, h1, h2 => exact absurd h1 (by decide)
  | 26, h1, h2 => exact absurd h1 (by decide)
  | 27, h1, h2 => exact absurd h1 (by decide)
  | 28, h1, h2 => exact absurd h1 (by decide)
  | 29, h1, h2 => exact absurd h1 (by decide)
  | 30, h1, h2 => exact absurd h1 (by decide)
  | 31, h1, h2 => exact absurd h1 (by decide)
  | 32, h1, h2 => exact absurd h1 (by decide)
  | 33, h1, h2 => exact absurd h1 (by decide)
  | 34, h1, h2 => exact absurd h1 (by decide)
  | 35, h1, h2 => exact absurd h1 (by decide)
  | 36, h1, h2 => exact absurd h1 (by decide)
  | 37, h1, h2 => exact absurd h1 (by decide)
  | 38, h1, h2 => exact absurd h1 (by decide)
  | 39, h1, h2 => exact absurd h1 (by decide)
  | 40, h1, h2 => exact absurd h1 (by decide)
  | 41, h1, h2 => exact absurd h1 (by decide)
  | 42, h1, h2 => exact absurd h1 (by decide)
  | 43, h1, h2 => exact absurd h1 (by decide)
  | 44, h1, h2 => exact absurd h1 (by decide)
  | 45, h1, h2 => exact absurd h1 (by decide)
  | 46, h1, h2 => exact absurd h1 (by decide)
  | 47, h1, h2 => exact absurd h1 (by decide)
  | 48, h1, h2 => exact absurd h1 (by decide)
  | 49, h1, h2 => exact absurd h1 (by decide)
  | 50, h1, h2 => exact absurd h1 (by decide)
  | 51, h1, h2 => exact absurd h1 (by decide)
  | 52, h1, h2 => exact absurd h1 (by decide)
  | 53, h1, h2 => exact absurd h1 (by decide)
  | 54, h1, h2 => exact absurd h1 (by decide)
  | 55, h1, h2 => exact absurd h1 (by decide)
  | 56, h1, h2 => exact absurd h1 (by decide)
  | 57, h1, h2 => exact absurd h1 (by decide)
  | 58, h1, h2 => exact absurd h1 (by decide)
  | 59, h1, h2 => exact absurd h1 (by decide)
  | 60, h1, h2 => exact absurd h1 (by decide)
  | 61, h1, h2 => exact absurd h1 (by decide)
  | 62, h1, h2 => exact absurd h1 (by decide)
  | 63, h1, h2 => exact absurd h1 (by decide)
  | 64, h1, h2 => exact absurd h1 (by decide)
  | 65, h1, h2 => exact absurd h1 (by decide)
  | 66, h1, h2 => exact absurd h1 (by decide)
  | 67, h1, h2 => exact absurd h1 (by decide)
  | 68, _, _ => exact h 0 _ rfl
  | 69, _, _ => exact h 1 _ rfl
  | 70, _, _ => exact h 2 _ rfl
  | 71, _, _ => exact h 3 _ rfl
  | 72, _, _ => exact h 4 _ rfl
  | k + 73, h1, h2 => exact absurd h2 (by omega)
set_option maxRecDepth 100000 in
theorem blk_73 {D : va_G} {cs : Cs3} {b : Nat} {H : Heap} (h : Gd D b 73 (WX8 cs (b + 73)) H) : ∀ k, 73 ≤ k → k < 78 → va_at D vwCl (b + k, cellOf b cs S0 k) H := by
  intro k h1 h2
  match k, h1, h2 with
  | 0, h1, h2 => exact absurd h1 (by decide)
  | 1, h1, h2 => exact absurd h1 (by decide)
  | 2, h1, h2 => exact absurd h1 (by decide)
  | 3, h1, h2 => exact absurd h1 (by decide)
  | 4, h1, h2 => exact absurd h1 (by decide)
  | 5, h1, h2 => exact absurd h1 (by decide)
  | 6, h1, h2 => exact absurd h1 (by decide)
  | 7, h1, h2 => exact absurd h1 (by decide)
  | 8, h1, h2 => exact absurd h1 (by decide)
  | 9, h1, h2 => exact absurd h1 (by decide)
  | 10, h1, h2 => exact absurd h1 (by decide)
  | 11, h1, h2 => exact absurd h1 (by decide)
  | 12, h1, h2 => exact absurd h1 (by decide)
  | 13, h1, h2 => exact absurd h1 (by decide)
  | 14, h1, h2 => exact absurd h1 (by decide)
  | 15, h1, h2 => exact absurd h1 (by decide)
  | 16, h1, h2 => exact absurd h1 (by decide)
  | 17, h1, h2 => exact absurd h1 (by decide)
  | 18, h1, h2 => exact absurd h1 (by decide)
  | 19, h1, h2 => exact absurd h1 (by decide)
  | 20, h1, h2 => exact absurd h1 (by decide)
  | 21, h1, h2 => exact absurd h1 (by decide)
  | 22, h1, h2 => exact absurd h1 (by decide)
  | 23, h1, h2 => exact absurd h1 (by decide)
  | 24, h1, h2 => exact absurd h1 (by decide)
  | 25, h1, h2 => exact absurd h1 (by decide)
  | 26, h1, h2 => exact absurd h1 (by decide)
  | 27, h1, h2 => exact absurd h1 (by decide)
  | 28, h1, h2 => exact absurd h1 (by decide)
  | 29, h1, h2 => exact absurd h1 (by decide)
  | 30, h1, h2 => exact absurd h1 (by decide)
  | 31, h1, h2 => exact absurd h1 (by decide)
  | 32, h1, h2 => exact absurd h1 (by decide)
  | 33, h1, h2 => exact absurd h1 (by decide)
  | 34, h1, h2 => exact absurd h1 (by decide)
  | 35, h1, h2 => exact absurd h1 (by decide)
  | 36, h1, h2 => exact absurd h1 (by decide)
  | 37, h1, h2 => exact absurd h1 (by decide)
  | 38, h1, h2 => exact absurd h1 (by decide)
  | 39, h1, h2 => exact absurd h1 (by decide)
  | 40, h1, h2 => exact absurd h1 (by decide)
  | 41, h1, h2 => exact absurd h1 (by decide)
  | 42, h1, h2 => exact absurd h1 (by decide)
  | 43, h1, h2 => exact absurd h1 (by decide)
  | 44, h1, h2 => exact absurd h1 (by decide)
  | 45, h1, h2 => exact absurd h1 (by decide)
  | 46, h1, h2 => exact absurd h1 (by decide)
  | 47, h1, h2 => exact absurd h1 (by decide)
  | 48, h1, h2 => exact absurd h1 (by decide)
  | 49, h1, h2 => exact absurd h1 (by decide)
  | 50, h1, h2 => exact absurd h1 (by decide)
  | 51, h1, h2 => exact absurd h1 (by decide)
  | 52, h1, h2 => exact absurd h1 (by decide)
  | 53, h1, h2 => exact absurd h1 (by decide)
  | 54, h1, h2 => exact absurd h1 (by decide)
  | 55, h1, h2 => exact absurd h1 (by decide)
  | 56, h1, h2 => exact absurd h1 (by decide)
  | 57, h1, h2 => exact absurd h1 (by decide)
  | 58, h1, h2 => exact absurd h1 (by decide)
  | 59, h1, h2 => exact absurd h1 (by decide)
  | 60, h1, h2 => exact absurd h1 (by decide)
  | 61, h1, h2 => exact absurd h1 (by decide)
  | 62, h1, h2 => exact absurd h1 (by decide)
  | 63, h1, h2 => exact absurd h1 (by decide)
  | 64, h1, h2 => exact absurd h1 (by decide)
  | 65, h1, h2 => exact absurd h1 (by decide)
  | 66, h1, h2 => exact absurd h1 (by decide)
  | 67, h1, h2 => exact absurd h1 (by decide)
  | 68, h1, h2 => exact absurd h1 (by decide)
  | 69, h1, h2 => exact absurd h1 (by decide)
  | 70, h1, h2 => exact absurd h1 (by decide)
  | 71, h1, h2 => exact absurd h1 (by decide)
  | 72, h1, h2 => exact absurd h1 (by decide)
  | 73, _, _ => exact h 0 _ rfl
  | 74, _, _ => exact h 1 _ rfl
  | 75, _, _ => exact h 2 _ rfl
  | 76, _, _ => exact h 3 _ rfl
  | 77, _, _ => exact h 4 _ rfl
  | k + 78, h1, h2 => exact absurd h2 (by omega)
set_option maxRecDepth 100000 in
theorem blk_79 {D : va_G} {cs : Cs3} {b : Nat} {H : Heap} (h : Gd D b 79 (WX8 cs (b + 79)) H) : ∀ k, 79 ≤ k → k < 84 → va_at D vwCl (b + k, cellOf b cs S0 k) H := by
  intro k h1 h2
  match k, h1, h2 with
  | 0, h1, h2 => exact absurd h1 (by decide)
  | 1, h1, h2 => exact absurd h1 (by decide)
  | 2, h1, h2 => exact absurd h1 (by decide)
  | 3, h1, h2 => exact absurd h1 (by decide)
  | 4, h1, h2 => exact absurd h1 (by decide)
  | 5, h1, h2 => exact absurd h1 (by decide)
  | 6, h1, h2 => exact absurd h1 (by decide)
  | 7, h1, h2 => exact absurd h1 (by decide)
  | 8, h1, h2 => exact absurd h1 (by decide)
  | 9, h1, h2 => exact absurd h1 (by decide)
  | 10, h1, h2 => exact absurd h1 (by decide)
  | 11, h1, h2 => exact absurd h1 (by decide)
  | 12, h1, h2 => exact absurd h1 (by decide)
  | 13, h1, h2 => exact absurd h1 (by decide)
  | 14, h1, h2 => exact absurd h1 (by decide)
  | 15, h1, h2 => exact absurd h1 (by decide)
  | 16, h1, h2 => exact absurd h1 (by decide)
  | 17, h1, h2 => exact absurd h1 (by decide)
  | 18, h1, h2 => exact absurd h1 (by decide)
  | 19, h1, h2 => exact absurd h1 (by decide)
  | 20, h1, h2 => exact absurd h1 (by decide)
  | 21, h1, h2 => exact absurd h1 (by decide)
  | 22, h1, h2 => exact absurd h1 (by decide)
  | 23, h1, h2 => exact absurd h1 (by decide)
  | 24, h1, h2 => exact absurd h1 (by decide)
  | 25, h1, h2 => exact absurd h1 (by decide)
  | 26, h1, h2 => exact absurd h1 (by decide)
  | 27, h1, h2 => exact absurd h1 (by decide)
  | 28, h1, h2 => exact absurd h1 (by decide)
  | 29, h1, h2 => exact absurd h1 (by decide)
  | 30, h1, h2 => exact absurd h1 (by decide)
  | 31, h1, h2 => exact absurd h1 (by decide)
  | 32, h1, h2 => exact absurd h1 (by decide)
  | 33, h1, h2 => exact absurd h1 (by decide)
  | 34, h1, h2 => exact absurd h1 (by decide)
  | 35, h1, h2 => exact absurd h1 (by decide)
  | 36, h1, h2 => exact absurd h1 (by decide)
  | 37, h1, h2 => exact absurd h1 (by decide)
  | 38, h1, h2 => exact absurd h1 (by decide)
  | 39, h1, h2 => exact absurd h1 (by decide)
  | 40, h1, h2 => exact absurd h1 (by decide)
  | 41, h1, h2 => exact absurd h1 (by decide)
  | 42, h1, h2 => exact absurd h1 (by decide)
  | 43, h1, h2 => exact absurd h1 (by decide)
  | 44, h1, h2 => exact absurd h1 (by decide)
  | 45, h1, h2 => exact absurd h1 (by decide)
  | 46, h1, h2 => exact absurd h1 (by decide)
  | 47, h1, h2 => exact absurd h1 (by decide)
  | 48, h1, h2 => exact absurd h1 (by decide)
  | 49, h1, h2 => exact absurd h1 (by decide)
  | 50, h1, h2 => exact absurd h1 (by decide)
  | 51, h1, h2 => exact absurd h1 (by decide)
  | 52, h1, h2 => exact absurd h1 (by decide)
  | 53, h1, h2 => exact absurd h1 (by decide)
  | 54, h1, h2 => exact absurd h1 (by decide)
  | 55, h1, h2 => exact absurd h1 (by decide)
  | 56, h1, h2 => exact absurd h1 (by decide)
  | 57, h1, h2 => exact absurd h1 (by decide)
  | 58, h1, h2 => exact absurd h1 (by decide)
  | 59, h1, h2 => exact absurd h1 (by decide)
  | 60, h1, h2 => exact absurd h1 (by decide)
  | 61, h1, h2 => exact absurd h1 (by decide)
  | 62, h1, h2 => exact absurd h1 (by decide)
  | 63, h1, h2 => exact absurd h1 (by decide)
  | 64, h1, h2 => exact absurd h1 (by decide)
  | 65, h1, h2 => exact absurd h1 (by decide)
  | 66, h1, h2 => exact absurd h1 (by decide)
  | 67, h1, h2 => exact absurd h1 (by decide)
  | 68, h1, h2 => exact absurd h1 (by decide)
  | 69, h1, h2 => exact absurd h1 (by decide)
  | 70, h1, h2 => exact absurd h1 (by decide)
  | 71, h1, h2 => exact absurd h1 (by decide)
  | 72, h1, h2 => exact absurd h1 (by decide)
  | 73, h1, h2 => exact absurd h1 (by decide)
  | 74, h1, h2 => exact absurd h1 (by decide)
  | 75, h1, h2 => exact absurd h1 (by decide)
  | 76, h1, h2 => exact absurd h1 (by decide)
  | 77, h1, h2 => exact absurd h1 (by decide)
  | 78, h1, h2 => exact absurd h1 (by decide)
  | 79, _, _ => exact h 0 _ rfl
  | 80, _, _ => exact h 1 _ rfl
  | 81, _, _ => exact h 2 _ rfl
  | 82, _, _ => exact h 3 _ rfl
  | 83, _, _ => exact h 4 _ rfl
  | k + 84, h1, h2 => exact absurd h2 (by omega)
set_option maxRecDepth 100000 in
theorem blk_84 {D : va_G} {cs : Cs3} {b : Nat} {H : Heap} (h : Gd D b 84 (WX8 cs (b + 84)) H) : ∀ k, 84 ≤ k → k < 89 → va_at D vwCl (b + k, cellOf b cs S0 k) H := by
  intro k h1 h2
  match k, h1, h2 with
  | 0, h1, h2 => exact absurd h1 (by decide)
  | 1, h1, h2 => exact absurd h1 (by decide)
  | 2, h1, h2 => exact absurd h1 (by decide)
  | 3, h1, h2 => exact absurd h1 (by decide)
  | 4, h1, h2 => exact absurd h1 (by decide)
  | 5, h1, h2 => exact absurd h1 (by decide)
  | 6, h1, h2 => exact absurd h1 (by decide)
  | 7, h1, h2 => exact absurd h1 (by decide)
  | 8, h1, h2 => exact absurd h1 (by decide)
  | 9, h1, h2 => exact absurd h1 (by decide)
  | 10, h1, h2 => exact absurd h1 (by decide)
  | 11, h1, h2 => exact absurd h1 (by decide)
  | 12, h1, h2 => exact absurd h1 (by decide)
  | 13, h1, h2 => exact absurd h1 (by decide)
  | 14, h1, h2 => exact absurd h1 (by decide)
  | 15, h1, h2 => exact absurd h1 (by decide)
  | 16, h1, h2 => exact absurd h1 (by decide)
  | 17, h1, h2 => exact absurd h1 (by decide)
  | 18, h1, h2 => exact absurd h1 (by decide)
  | 19, h1, h2 => exact absurd h1 (by decide)
  | 20, h1, h2 => exact absurd h1 (by decide)
  | 21, h1, h2 => exact absurd h1 (by decide)
  | 22, h1, h2 => exact absurd h1 (by decide)
  | 23, h1, h2 => exact absurd h1 (by decide)
  | 24, h1, h2 => exact absurd h1 (by decide)
  | 25, h1, h2 => exact absurd h1 (by decide)
  | 26, h1, h2 => exact absurd h1 (by decide)
  | 27, h1, h2 => exact absurd h1 (by decide)
  | 28, h1, h2 => exact absurd h1 (by decide)
  | 29, h1, h2 => exact absurd h1 (by decide)
  | 30, h1, h2 => exact absurd h1 (by decide)
  | 31, h1, h2 => exact absurd h1 (by decide)
  | 32, h1, h2 => exact absurd h1 (by decide)
  | 33, h1, h2 => exact absurd h1 (by decide)
  | 34, h1, h2 => exact absurd h1 (by decide)
  | 35, h1, h2 => exact absurd h1 (by decide)
  | 36, h1, h2 => exact absurd h1 (by decide)
  | 37, h1, h2 => exact absurd h1 (by decide)
  | 38, h1, h2 => exact absurd h1 (by decide)
  | 39, h1, h2 => exact absurd h1 (by decide)
  | 40, h1, h2 => exact absurd h1 (by decide)
  | 41, h1, h2 => exact absurd h1 (by decide)
  | 42, h1, h2 => exact absurd h1 (by decide)
  | 43, h1, h2 => exact absurd h1 (by decide)
  | 44, h1, h2 => exact absurd h1 (by decide)
  | 45, h1, h2 => exact absurd h1 (by decide)
  | 46, h1, h2 => exact absurd h1 (by decide)
  | 47, h1, h2 => exact absurd h1 (by decide)
  | 48, h1, h2 => exact absurd h1 (by decide)
  | 49, h1, h2 => exact absurd h1 (by decide)
  | 50, h1, h2 => exact absurd h1 (by decide)
  | 51, h1, h2 => exact absurd h1 (by decide)
  | 52, h1, h2 => exact absurd h1 (by decide)
  | 53, h1, h2 => exact absurd h1 (by decide)
  | 54, h1, h2 => exact absurd h1 (by decide)
  | 55, h1, h2 => exact absurd h1 (by decide)
  | 56, h1, h2 => exact absurd h1 (by decide)
  | 57, h1, h2 => exact absurd h1 (by decide)
  | 58, h1, h2 => exact absurd h1 (by decide)
  | 59, h1, h2 => exact absurd h1 (by decide)
  | 60, h1, h2 => exact absurd h1 (by decide)
  | 61, h1, h2 => exact absurd h1 (by decide)
  | 62, h1, h2 => exact absurd h1 (by decide)
  | 63, h1, h2 => exact absurd h1 (by decide)
  | 64, h1, h2 => exact absurd h1 (by decide)
  | 65, h1, h2 => exact absurd h1 (by decide)
  | 66, h1, h2 => exact absurd h1 (by decide)
  | 67, h1, h2 => exact absurd h1 (by decide)
  | 68, h1, h2 => exact absurd h1 (by decide)
  | 69, h1, h2 => exact absurd h1 (by decide)
  | 70, h1, h2 => exact absurd h1 (by decide)
  | 71, h1, h2 => exact absurd h1 (by decide)
  | 72, h1, h2 => exact absurd h1 (by decide)
  | 73, h1, h2 => exact absurd h1 (by decide)
  | 74, h1, h2 => exact absurd h1 (by decide)
  | 75, h1, h2 => exact absurd h1 (by decide)
  | 76, h1, h2 => exact absurd h1 (by decide)
  | 77, h1, h2 => exact absurd h1 (by decide)
  | 78, h1, h2 => exact absurd h1 (by decide)
  | 79, h1, h2 => exact absurd h1 (by decide)
  | 80, h1, h2 => exact absurd h1 (by decide)
  | 81, h1, h2 => exact absurd h1 (by decide)
  | 82, h1, h2 => exact absurd h1 (by decide)
  | 83, h1, h2 => exact absurd h1 (by decide)
  | 84, _, _ => exact h 0 _ rfl
  | 85, _, _ => exact h 1 _ rfl
  | 86, _, _ => exact h 2 _ rfl
  | 87, _, _ => exact h 3 _ rfl
  | 88, _, _ => exact h 4 _ rfl
  | k + 89, h1, h2 => exact absurd h2 (by omega)
set_option maxRecDepth 100000 in
theorem blk_90 {D : va_G} {cs : Cs3} {b : Nat} {H : Heap} (h : Gd D b 90 (WX1 cs (b + 90) (b + 3) (b + 21)) H) : ∀ k, 90 ≤ k → k < 91 → va_at D vwCl (b + k, cellOf b cs S0 k) H := by
  intro k h1 h2
  match k, h1, h2 with
  | 0, h1, h2 => exact absurd h1 (by decide)
  | 1, h1, h2 => exact absurd h1 (by decide)
  | 2, h1, h2 => exact absurd h1 (by decide)
  | 3, h1, h2 => exact absurd h1 (by decide)
  | 4, h1, h2 => exact absurd h1 (by decide)
  | 5, h1, h2 => exact absurd h1 (by decide)
  | 6, h1, h2 => exact absurd h1 (by decide)
  | 7, h1, h2 => exact absurd h1 (by decide)
  | 8, h1, h2 => exact absurd h1 (by decide)
  | 9, h1, h2 => exact absurd h1 (by decide)
  | 10, h1, h2 => exact absurd h1 (by decide)
  | 11, h1, h2 => exact absurd h1 (by decide)
  | 12, h1, h2 => exact absurd h1 (by decide)
  | 13, h1, h2 => exact absurd h1 (by decide)
  | 14, h1, h2 => exact absurd h1 (by decide)
  | 15, h1, h2 => exact absurd h1 (by decide)
  | 16, h1, h2 => exact absurd h1 (by decide)
  | 17, h1, h2 => exact absurd h1 (by decide)
  | 18, h1, h2 => exact absurd h1 (by decide)
  | 19, h1, h2 => exact absurd h1 (by decide)
  | 20, h1, h2 => exact absurd h1 (by decide)
  | 21, h1, h2 => exact absurd h1 (by decide)
  | 22, h1, h2 => exact absurd h1 (by decide)
  | 23, h1, h2 => exact absurd h1 (by decide)
  | 24, h1, h2 => exact absurd h1 (by decide)
  | 25, h1, h2 => exact absurd h1 (by decide)
  | 26, h1, h2 => exact absurd h1 (by decide)
  | 27, h1, h2 => exact absurd h1 (by decide)
  | 28, h1, h2 => exact absurd h1 (by decide)
  | 29, h1, h2 => exact absurd h1 (by decide)
  | 30, h1, h2 => exact absurd h1 (by decide)
  | 31, h1, h2 => exact absurd h1 (by decide)
  | 32, h1, h2 => exact absurd h1 (by decide)
  | 33, h1, h2 => exact absurd h1 (by decide)
  | 34, h1, h2 => exact absurd h1 (by decide)
  | 35, h1, h2 => exact absurd h1 (by decide)
  | 36, h1, h2 => exact absurd h1 (by decide)
  | 37, h1, h2 => exact absurd h1 (by decide)
  | 38, h1, h2 => exact absurd h1 (by decide)
  | 39, h1, h2 => exact absurd h1 (by decide)
  | 40, h1, h2 => exact absurd h1 (by decide)
  | 41, h1, h2 => exact absurd h1 (by decide)
  | 42, h1, h2 => exact absurd h1 (by decide)
  | 43, h1, h2 => exact absurd h1 (by decide)
  | 44, h1, h2 => exact absurd h1 (by decide)
  | 45, h1, h2 => exact absurd h1 (by decide)
  | 46, h1, h2 => exact absurd h1 (by decide)
  | 47, h1, h2 => exact absurd h1 (by decide)
  | 48, h1, h2 => exact absurd h1 (by decide)
  | 49, h1, h2 => exact absurd h1 (by decide)
  | 50, h1, h2 => exact absurd h1 (by decide)
  | 51, h1, h2 => exact absurd h1 (by decide)
  | 52, h1, h2 => exact absurd h1 (by decide)
  | 53, h1, h2 => exact absurd h1 (by decide)
  | 54, h1, h2 => exact absurd h1 (by decide)
  | 55, h1, h2 => exact absurd h1 (by decide)
  | 56, h1, h2 => exact absurd h1 (by decide)
  | 57, h1, h2 => exact absurd h1 (by decide)
  | 58, h1, h2 => exact absurd h1 (by decide)
  | 59, h1, h2 => exact absurd h1 (by decide)
  | 60, h1, h2 => exact absurd h1 (by decide)
  | 61, h1, h2 => exact absurd h1 (by decide)
  | 62, h1, h2 => exact absurd h1 (by decide)
  | 63, h1, h2 => exact absurd h1 (by decide)
  | 64, h1, h2 => exact absurd h1 (by decide)
  | 65, h1, h2 => exact absurd h1 (by decide)
  | 66, h1, h2 => exact absurd h1 (by decide)
  | 67, h1, h2 => exact absurd h1 (by decide)
  | 68, h1, h2 => exact absurd h1 (by decide)
  | 69, h1, h2 => exact absurd h1 (by decide)
  | 70, h1, h2 => exact absurd h1 (by decide)
  | 71, h1, h2 => exact absurd h1 (by decide)
  | 72, h1, h2 => exact absurd h1 (by decide)
  | 73, h1, h2 => exact absurd h1 (by decide)
  | 74, h1, h2 => exact absurd h1 (by decide)
  | 75, h1, h2 => exact absurd h1 (by decide)
  | 76, h1, h2 => exact absurd h1 (by decide)
  | 77, h1, h2 => exact absurd h1 (by decide)
  | 78, h1, h2 => exact absurd h1 (by decide)
  | 79, h1, h2 => exact absurd h1 (by decide)
  | 80, h1, h2 => exact absurd h1 (by decide)
  | 81, h1, h2 => exact absurd h1 (by decide)
  | 82, h1, h2 => exact absurd h1 (by decide)
  | 83, h1, h2 => exact absurd h1 (by decide)
  | 84, h1, h2 => exact absurd h1 (by decide)
  | 85, h1, h2 => exact absurd h1 (by decide)
  | 86, h1, h2 => exact absurd h1 (by decide)
  | 87, h1, h2 => exact absurd h1 (by decide)
  | 88, h1, h2 => exact absurd h1 (by decide)
  | 89, h1, h2 => exact absurd h1 (by decide)
  | 90, _, _ => exact h 0 _ rfl
  | k + 91, h1, h2 => exact absurd h2 (by omega)
set_option maxRecDepth 100000 in
theorem blk_91 {D : va_G} {cs : Cs3} {b : Nat} {H : Heap} (h : Gd D b 91 (WX4 cs (b + 91) (b + 90)) H) : ∀ k, 91 ≤ k → k < 93 → va_at D vwCl (b + k, cellOf b cs S0 k) H := by
  intro k h1 h2
  match k, h1, h2 with
  | 0, h1, h2 => exact absurd h1 (by decide)
  | 1, h1, h2 => exact absurd h1 (by decide)
  | 2, h1, h2 => exact absurd h1 (by decide)
  | 3, h1, h2 => exact absurd h1 (by decide)
  | 4, h1, h2 => exact absurd h1 (by decide)
  | 5, h1, h2 => exact absurd h1 (by decide)
  | 6, h1, h2 => exact absurd h1 (by decide)
  | 7, h1, h2 => exact absurd h1 (by decide)
  | 8, h1, h2 => exact absurd h1 (by decide)
  | 9, h1, h2 => exact absurd h1 (by decide)
  | 10, h1, h2 => exact absurd h1 (by decide)
  | 11, h1, h2 => exact absurd h1 (by decide)
  | 12, h1, h2 => exact absurd h1 (by decide)
  | 13, h1, h2 => exact absurd h1 (by decide)
  | 14, h1, h2 => exact absurd h1 (by decide)
  | 15, h1, h2 => exact absurd h1 (by decide)
  | 16, h1, h2 => exact absurd h1 (by decide)
  | 17, h1, h2 => exact absurd h1 (by decide)
  | 18, h1, h2 => exact absurd h1 (by decide)
  | 19, h1, h2 => exact absurd h1 (by decide)
  | 20, h1, h2 => exact absurd h1 (by decide)
  | 21, h1, h2 => exact absurd h1 (by decide)
  | 22, h1, h2 => exact absurd h1 (by decide)
  | 23, h1, h2 => exact absurd h1 (by decide)
  | 24, h1, h2 => exact absurd h1 (by decide)
  | 25, h1, h2 => exact absurd h1 (by decide)
  | 26, h1, h2 => exact absurd h1 (by decide)
  | 27, h1, h2 => exact absurd h1 (by decide)
  | 28, h1, h2 => exact absurd h1 (by decide)
  | 29, h1, h2 => exact absurd h1 (by decide)
  | 30, h1, h2 => exact absurd h1 (by decide)
  | 31, h1, h2 => exact absurd h1 (by decide)
  | 32, h1, h2 => exact absurd h1 (by decide)
  | 33, h1, h2 => exact absurd h1 (by decide)
  | 34, h1, h2 => exact absurd h1 (by decide)
  | 35, h1, h2 => exact absurd h1 (by decide)
  | 36, h1, h2 => exact absurd h1 (by decide)
  | 37, h1, h2 => exact absurd h1 (by decide)
  | 38, h1, h2 => exact absurd h1 (by decide)
  | 39, h1, h2 => exact absurd h1 (by decide)
  | 40, h1, h2 => exact absurd h1 (by decide)
  | 41, h1, h2 => exact absurd h1 (by decide)
  | 42, h1, h2 => exact absurd h1 (by decide)
  | 43, h1, h2 => exact absurd h1 (by decide)
  | 44, h1, h2 => exact absurd h1 (by decide)
  | 45, h1, h2 => exact absurd h1 (by decide)
  | 46, h1, h2 => exact absurd h1 (by decide)
  | 47, h1, h2 => exact absurd h1 (by decide)
  | 48, h1, h2 => exact absurd h1 (by decide)
  | 49, h1, h2 => exact absurd h1 (by decide)
  | 50, h1, h2 => exact absurd h1 (by decide)
  | 51, h1, h2 => exact absurd h1 (by decide)
  | 52, h1, h2 => exact absurd h1 (by decide)
  | 53, h1, h2 => exact absurd h1 (by decide)
  | 54, h1, h2 => exact absurd h1 (by decide)
  | 55, h1, h2 => exact absurd h1 (by decide)
  | 56, h1, h2 => exact absurd h1 (by decide)
  | 57, h1, h2 => exact absurd h1 (by decide)
  | 58, h1, h2 => exact absurd h1 (by decide)
  | 59, h1, h2 => exact absurd h1 (by decide)
  | 60, h1, h2 => exact absurd h1 (by decide)
  | 61, h1, h2 => exact absurd h1 (by decide)
  | 62, h1, h2 => exact absurd h1 (by decide)
  | 63, h1, h2 => exact absurd h1 (by decide)
  | 64, h1, h2 => exact absurd h1 (by decide)
  | 65, h1, h2 => exact absurd h1 (by decide)
  | 66, h1, h2 => exact absurd h1 (by decide)
  | 67, h1, h2 => exact absurd h1 (by decide)
  | 68, h1, h2 => exact absurd h1 (by decide)
  | 69, h1, h2 => exact absurd h1 (by decide)
  | 70, h1, h2 => exact absurd h1 (by decide)
  | 71, h1, h2 => exact absurd h1 (by decide)
  | 72, h1, h2 => exact absurd h1 (by decide)
  | 73, h1, h2 => exact absurd h1 (by decide)
  | 74, h1, h2 => exact absurd h1 (by decide)
  | 75, h1, h2 => exact absurd h1 (by decide)
  | 76, h1, h2 => exact absurd h1 (by decide)
  | 77, h1, h2 => exact absurd h1 (by decide)
  | 78, h1, h2 => exact absurd h1 (by decide)
  | 79, h1, h2 => exact absurd h1 (by decide)
  | 80, h1, h2 => exact absurd h1 (by decide)
  | 81, h1, h2 => exact absurd h1 (by decide)
  | 82, h1, h2 => exact absurd h1 (by decide)
  | 83, h1, h2 => exact absurd h1 (by decide)
  | 84, h1, h2 => exact absurd h1 (by decide)
  | 85, h1, h2 => exact absurd h1 (by decide)
  | 86, h1, h2 => exact absurd h1 (by decide)
  | 87, h1, h2 => exact absurd h1 (by decide)
  | 88, h1, h2 => exact absurd h1 (by decide)
  | 89, h1, h2 => exact absurd h1 (by decide)
  | 90, h1, h2 => exact absurd h1 (by decide)
  | 91, _, _ => exact h 0 _ rfl
  | 92, _, _ => exact h 1 _ rfl
  | k + 93, h1, h2 => exact absurd h2 (by omega)
set_option maxRecDepth 100000 in
theorem blk_93 {D : va_G} {cs : Cs3} {b : Nat} {H : Heap} (h : Gd D b 93 (WX0 cs (b + 93)) H) : ∀ k, 93 ≤ k → k < 95 → va_at D vwCl (b + k, cellOf b cs S0 k) H := by
  intro k h1 h2
  match k, h1, h2 with
  | 0, h1, h2 => exact absurd h1 (by decide)
  | 1, h1, h2 => exact absurd h1 (by decide)
  | 2, h1, h2 => exact absurd h1 (by decide)
  | 3, h1, h2 => exact absurd h1 (by decide)
  | 4, h1, h2 => exact absurd h1 (by decide)
  | 5, h1, h2 => exact absurd h1 (by decide)
  | 6, h1, h2 => exact absurd h1 (by decide)
  | 7, h1, h2 => exact absurd h1 (by decide)
  | 8, h1, h2 => exact absurd h1 (by decide)
  | 9, h1, h2 => exact absurd h1 (by decide)
  | 10, h1, h2 => exact absurd h1 (by decide)
  | 11, h1, h2 => exact absurd h1 (by decide)
  | 12, h1, h2 => exact absurd h1 (by decide)
  | 13, h1, h2 => exact absurd h1 (by decide)
  | 14, h1, h2 => exact absurd h1 (by decide)
  | 15, h1, h2 => exact absurd h1 (by decide)
  | 16, h1, h2 => exact absurd h1 (by decide)
  | 17, h1, h2 => exact absurd h1 (by decide)
  | 18, h1, h2 => exact absurd h1 (by decide)
  | 19, h1, h2 => exact absurd h1 (by decide)
  | 20, h1, h2 => exact absurd h1 (by decide)
  | 21, h1, h2 => exact absurd h1 (by decide)
  | 22, h1, h2 => exact absurd h1 (by decide)
  | 23, h1, h2 => exact absurd h1 (by decide)
  | 24, h1, h2 => exact absurd h1 (by decide)
  | 25, h1, h2 => exact absurd h1 (by decide)
  | 26, h1, h2 => exact absurd h1 (by decide)
  | 27, h1, h2 => exact absurd h1 (by decide)
  | 28, h1, h2 => exact absurd h1 (by decide)
  | 29, h1, h2 => exact absurd h1 (by decide)
  | 30, h1, h2 => exact absurd h1 (by decide)
  | 31, h1, h2 => exact absurd h1 (by decide)
  | 32, h1, h2 => exact absurd h1 (by decide)
  | 33, h1, h2 => exact absurd h1 (by decide)
  | 34, h1, h2 => exact absurd h1 (by decide)
  | 35, h1, h2 => exact absurd h1 (by decide)
  | 36, h1, h2 => exact absurd h1 (by decide)
  | 37, h1, h2 => exact absurd h1 (by decide)
  | 38, h1, h2 => exact absurd h1 (by decide)
  | 39, h1, h2 => exact absurd h1 (by decide)
  | 40, h1, h2 => exact absurd h1 (by decide)
  | 41, h1, h2 => exact absurd h1 (by decide)
  | 42, h1, h2 => exact absurd h1 (by decide)
  | 43, h1, h2 => exact absurd h1 (by decide)
  | 44, h1, h2 => exact absurd h1 (by decide)
  | 45, h1, h2 => exact absurd h1 (by decide)
  | 46, h1, h2 => exact absurd h1 (by decide)
  | 47, h1, h2 => exact absurd h1 (by decide)
  | 48, h1, h2 => exact absurd h1 (by decide)
  | 49, h1, h2 => exact absurd h1 (by decide)
  | 50, h1, h2 => exact absurd h1 (by decide)
  | 51, h1, h2 => exact absurd h1 (by decide)
  | 52, h1, h2 => exact absurd h1 (by decide)
  | 53, h1, h2 => exact absurd h1 (by decide)
  | 54, h1, h2 => exact absurd h1 (by decide)
  | 55, h1, h2 => exact absurd h1 (by decide)
  | 56, h1, h2 => exact absurd h1 (by decide)
  | 57, h1, h2 => exact absurd h1 (by decide)
  | 58, h1, h2 => exact absurd h1 (by decide)
  | 59, h1, h2 => exact absurd h1 (by decide)
  | 60, h1, h2 => exact absurd h1 (by decide)
  | 61, h1, h2 => exact absurd h1 (by decide)
  | 62, h1, h2 => exact absurd h1 (by decide)
  | 63, h1, h2 => exact absurd h1 (by decide)
  | 64, h1, h2 => exact absurd h1 (by decide)
  | 65, h1, h2 => exact absurd h1 (by decide)
  | 66, h1, h2 => exact absurd h1 (by decide)
  | 67, h1, h2 => exact absurd h1 (by decide)
  | 68, h1, h2 => exact absurd h1 (by decide)
  | 69, h1, h2 => exact absurd h1 (by decide)
  | 70, h1, h2 => exact absurd h1 (by decide)
  | 71, h1, h2 => exact absurd h1 (by decide)
  | 72, h1, h2 => exact absurd h1 (by decide)
  | 73, h1, h2 => exact absurd h1 (by decide)
  | 74, h1, h2 => exact absurd h1 (by decide)
  | 75, h1, h2 => exact absurd h1 (by decide)
  | 76, h1, h2 => exact absurd h1 (by decide)
  | 77, h1, h2 => exact absurd h1 (by decide)
  | 78, h1, h2 => exact absurd h1 (by decide)
  | 79, h1, h2 => exact absurd h1 (by decide)
  | 80, h1, h2 => exact absurd h1 (by decide)
  | 81, h1, h2 => exact absurd h1 (by decide)
  | 82, h1, h2 => exact absurd h1 (by decide)
  | 83, h1, h2 => exact absurd h1 (by decide)
  | 84, h1, h2 => exact absurd h1 (by decide)
  | 85, h1, h2 => exact absurd h1 (by decide)
  | 86, h1, h2 => exact absurd h1 (by decide)
  | 87, h1, h2 => exact absurd h1 (by decide)
  | 88, h1, h2 => exact absurd h1 (by decide)
  | 89, h1, h2 => exact absurd h1 (by decide)
  | 90, h1, h2 => exact absurd h1 (by decide)
  | 91, h1, h2 => exact absurd h1 (by decide)
  | 92, h1, h2 => exact absurd h1 (by decide)
  | 93, _, _ => exact h 0 _ rfl
  | 94, _, _ => exact h 1 _ rfl
  | k + 95, h1, h2 => exact absurd h2 (by omega)
set_option maxRecDepth 100000 in
theorem blk_95 {D : va_G} {cs : Cs3} {b : Nat} {H : Heap} (h : Gd D b 95 (WX3 cs (b + 95) (b + 90)) H) : ∀ k, 95 ≤ k → k < 98 → va_at D vwCl (b + k, cellOf b cs S0 k) H := by
  intro k h1 h2
  match k, h1, h2 with
  | 0, h1, h2 => exact absurd h1 (by decide)
  | 1, h1, h2 => exact absurd h1 (by decide)
  | 2, h1, h2 => exact absurd h1 (by decide)
  | 3, h1, h2 => exact absurd h1 (by decide)
  | 4, h1, h2 => exact absurd h1 (by decide)
  | 5, h1, h2 => exact absurd h1 (by decide)
  | 6, h1, h2 => exact absurd h1 (by decide)
  | 7, h1, h2 => exact absurd h1 (by decide)
  | 8, h1, h2 => exact absurd h1 (by decide)
  | 9, h1, h2 => exact absurd h1 (by decide)
  | 10, h1, h2 => exact absurd h1 (by decide)
  | 11, h1, h2 => exact absurd h1 (by decide)
  | 12, h1, h2 => exact absurd h1 (by decide)
  | 13, h1, h2 => exact absurd h1 (by decide)
  | 14, h1, h2 => exact absurd h1 (by decide)
  | 15, h1, h2 => exact absurd h1 (by decide)
  | 16, h1, h2 => exact absurd h1 (by decide)
  | 17, h1, h2 => exact absurd h1 (by decide)
  | 18, h1, h2 => exact absurd h1 (by decide)
  | 19, h1, h2 => exact absurd h1 (by decide)
  | 20, h1, h2 => exact absurd h1 (by decide)
  | 21, h1, h2 => exact absurd h1 (by decide)
  | 22, h1, h2 => exact absurd h1 (by decide)
  | 23, h1, h2 => exact absurd h1 (by decide)
  | 24, h1, h2 => exact absurd h1 (by decide)
  | 25, h1, h2 => exact absurd h1 (by decide)
  | 26, h1, h2 => exact absurd h1 (by decide)
  | 27, h1, h2 => exact absurd h1 (by decide)
  | 28, h1, h2 => exact absurd h1 (by decide)
  | 29, h1, h2 => exact absurd h1 (by decide)
  | 30, h1, h2 => exact absurd h1 (by decide)
  | 31, h1, h2 => exact absurd h1 (by decide)
  | 32, h1, h2 => exact absurd h1 (by decide)
  | 33, h1, h2 => exact absurd h1 (by decide)
  | 34, h1, h2 => exact absurd h1 (by decide)
  | 35, h1, h2 => exact absurd h1 (by decide)
  | 36, h1, h2 => exact absurd h1 (by decide)
  | 37, h1, h2 => exact absurd h1 (by decide)
  | 38, h1, h2 => exact absurd h1 (by decide)
  | 39, h1, h2 => exact absurd h1 (by decide)
  | 40, h1, h2 => exact absurd h1 (by decide)
  | 41, h1, h2 => exact absurd h1 (by decide)
  | 42, h1, h2 => exact absurd h1 (by decide)
  | 43, h1, h2 => exact absurd h1 (by decide)
  | 44, h1, h2 => exact absurd h1 (by decide)
  | 45, h1, h2 => exact absurd h1 (by decide)
  | 46, h1, h2 => exact absurd h1 (by decide)
  | 47, h1, h2 => exact absurd h1 (by decide)
  | 48, h1, h2 => exact absurd h1 (by decide)
  | 49, h1, h2 => exact absurd h1 (by decide)
  | 50, h1, h2 => exact absurd h1 (by decide)
  | 51, h1, h2 => exact absurd h1 (by decide)
  | 52, h1, h2 => exact absurd h1 (by decide)
  | 53, h1, h2 => exact absurd h1 (by decide)
  | 54, h1, h2 => exact absurd h1 (by decide)
  | 55, h1, h2 => exact absurd h1 (by decide)
  | 56, h1, h2 => exact absurd h1 (by decide)
  | 57, h1, h2 => exact absurd h1 (by decide)
  | 58, h1, h2 => exact absurd h1 (by decide)
  | 59, h1, h2 => exact absurd h1 (by decide)
  | 60, h1, h2 => exact absurd h1 (by decide)
  | 61, h1, h2 => exact absurd h1 (by decide)
  | 62, h1, h2 => exact absurd h1 (by decide)
  | 63, h1, h2 => exact absurd h1 (by decide)
  | 64, h1, h2 => exact absurd h1 (by decide)
  | 65, h1, h2 => exact absurd h1 (by decide)
  | 66, h1, h2 => exact absurd h1 (by decide)
  | 67, h1, h2 => exact absurd h1 (by decide)
  | 68, h1, h2 => exact absurd h1 (by decide)
  | 69, h1, h2 => exact absurd h1 (by decide)
  | 70, h1, h2 => exact absurd h1 (by decide)
  | 71, h1, h2 => exact absurd h1 (by decide)
  | 72, h1, h2 => exact absurd h1 (by decide)
  | 73, h1, h2 => exact absurd h1 (by decide)
  | 74, h1, h2 => exact absurd h1 (by decide)
  | 75, h1, h2 => exact absurd h1 (by decide)
  | 76, h1, h2 => exact absurd h1 (by decide)
  | 77, h1, h2 => exact absurd h1 (by decide)
  | 78, h1, h2 => exact absurd h1 (by decide)
  | 79, h1, h2 => exact absurd h1 (by decide)
  | 80, h1, h2 => exact absurd h1 (by decide)
  | 81, h1, h2 => exact absurd h1 (by decide)
  | 82, h1, h2 => exact absurd h1 (by decide)
  | 83, h1, h2 => exact absurd h1 (by decide)
  | 84, h1, h2 => exact absurd h1 (by decide)
  | 85, h1, h2 => exact absurd h1 (by decide)
  | 86, h1, h2 => exact absurd h1 (by decide)
  | 87, h1, h2 => exact absurd h1 (by decide)
  | 88, h1, h2 => exact absurd h1 (by decide)
  | 89, h1, h2 => exact absurd h1 (by decide)
  | 90, h1, h2 => exact absurd h1 (by decide)
  | 91, h1, h2 => exact absurd h1 (by decide)
  | 92, h1, h2 => exact absurd h1 (by decide)
  | 93, h1, h2 => exact absurd h1 (by decide)
  | 94, h1, h2 => exact absurd h1 (by decide)
  | 95, _, _ => exact h 0 _ rfl
  | 96, _, _ => exact h 1 _ rfl
  | 97, _, _ => exact h 2 _ rfl
  | k + 98, h1, h2 => exact absurd h2 (by omega)
set_option maxRecDepth 100000 in
theorem blk_98 {D : va_G} {cs : Cs3} {b : Nat} {H : Heap} (h : Gd D b 98 (WX5 cs (b + 98) (b + 90)) H) : ∀ k, 98 ≤ k → k < 99 → va_at D vwCl (b + k, cellOf b cs S0 k) H := by
  intro k h1 h2
  match k, h1, h2 with
  | 0, h1, h2 => exact absurd h1 (by decide)
  | 1, h1, h2 => exact absurd h1 (by decide)
  | 2, h1, h2 => exact absurd h1 (by decide)
  | 3, h1, h2 => exact absurd h1 (by decide)
  | 4, h1, h2 => exact absurd h1 (by decide)
  | 5, h1, h2 => exact absurd h1 (by decide)
  | 6, h1, h2 => exact absurd h1 (by decide)
  | 7, h1, h2 => exact absurd h1 (by decide)
  | 8, h1, h2 => exact absurd h1 (by decide)
  | 9, h1, h2 => exact absurd h1 (by decide)
  | 10, h1, h2 => exact absurd h1 (by decide)
  | 11, h1, h2 => exact absurd h1 (by decide)
  | 12, h1, h2 => exact absurd h1 (by decide)
  | 13, h1, h2 => exact absurd h1 (by decide)
  | 14, h1, h2 => exact absurd h1 (by decide)
  | 15, h1, h2 => exact absurd h1 (by decide)
  | 16, h1, h2 => exact absurd h1 (by decide)
  | 17, h1, h2 => exact absurd h1 (by decide)
  | 18, h1, h2 => exact absurd h1 (by decide)
  | 19, h1, h2 => exact absurd h1 (by decide)
  | 20, h1, h2 => exact absurd h1 (by decide)
  | 21, h1, h2 => exact absurd h1 (by decide)
  | 22, h1, h2 => exact absurd h1 (by decide)
  | 23, h1, h2 => exact absurd h1 (by decide)
  | 24, h1, h2 => exact absurd h1 (by decide)
  | 25, h1, h2 => exact absurd h1 (by decide)
  | 26, h1, h2 => exact absurd h1 (by decide)
  | 27, h1, h2 => exact absurd h1 (by decide)
  | 28, h1, h2 => exact absurd h1 (by decide)
  | 29, h1, h2 => exact absurd h1 (by decide)
  | 30, h1, h2 => exact absurd h1 (by decide)
  | 31, h1, h2 => exact absurd h1 (by decide)
  | 32, h1, h2 => exact absurd h1 (by decide)
  | 33, h1, h2 => exact absurd h1 (by decide)
  | 34, h1, h2 => exact absurd h1 (by decide)
  | 35, h1, h2 => exact absurd h1 (by decide)
  | 36, h1, h2 => exact absurd h1 (by decide)
  | 37, h1, h2 => exact absurd h1 (by decide)
  | 38, h1, h2 => exact absurd h1 (by decide)
  | 39, h1, h2 => exact absurd h1 (by decide)
  | 40, h1, h2 => exact absurd h1 (by decide)
  | 41, h1, h2 => exact absurd h1 (by decide)
  | 42, h1, h2 => exact absurd h1 (by decide)
  | 43, h1, h2 => exact absurd h1 (by decide)
  | 44, h1, h2 => exact absurd h1 (by decide)
  | 45, h1, h2 => exact absurd h1 (by decide)
  | 46, h1, h2 => exact absurd h1 (by decide)
  | 47, h1, h2 => exact absurd h1 (by decide)
  | 48, h1, h2 => exact absurd h1 (by decide)
  | 49, h1, h2 => exact absurd h1 (by decide)
  | 50, h1, h2 => exact absurd h1 (by decide)
  | 51, h1, h2 => exact absurd h1 (by decide)
  | 52, h1, h2 => exact absurd h1 (by decide)
  | 53, h1, h2 => exact absurd h1 (by decide)
  | 54, h1, h2 => exact absurd h1 (by decide)
  | 55, h1, h2 => exact absurd h1 (by decide)
  | 56, h1, h2 => exact absurd h1 (by decide)
  | 57, h1, h2 => exact absurd h1 (by decide)
  | 58, h1, h2 => exact absurd h1 (by decide)
  | 59, h1, h2 => exact absurd h1 (by decide)
  | 60, h1, h2 => exact absurd h1 (by decide)
  | 61, h1, h2 => exact absurd h1 (by decide)
  | 62, h1, h2 => exact absurd h1 (by decide)
  | 63, h1, h2 => exact absurd h1 (by decide)
  | 64, h1, h2 => exact absurd h1 (by decide)
  | 65, h1, h2 => exact absurd h1 (by decide)
  | 66, h1, h2 => exact absurd h1 (by decide)
  | 67, h1, h2 => exact absurd h1 (by decide)
  | 68, h1, h2 => exact absurd h1 (by decide)
  | 69, h1, h2 => exact absurd h1 (by decide)
  | 70, h1, h2 => exact absurd h1 (by decide)
  | 71, h1, h2 => exact absurd h1 (by decide)
  | 72, h1, h2 => exact absurd h1 (by decide)
  | 73, h1, h2 => exact absurd h1 (by decide)
  | 74, h1, h2 => exact absurd h1 (by decide)
  | 75, h1, h2 => exact absurd h1 (by decide)
  | 76, h1, h2 => exact absurd h1 (by decide)
  | 77, h1, h2 => exact absurd h1 (by decide)
  | 78, h1, h2 => exact absurd h1 (by decide)
  | 79, h1, h2 => exact absurd h1 (by decide)
  | 80, h1, h2 => exact absurd h1 (by decide)
  | 81, h1, h2 => exact absurd h1 (by decide)
  | 82, h1, h2 => exact absurd h1 (by decide)
  | 83, h1, h2 => exact absurd h1 (by decide)
  | 84, h1, h2 => exact absurd h1 (by decide)
  | 85, h1, h2 => exact absurd h1 (by decide)
  | 86, h1, h2 => exact absurd h1 (by decide)
  | 87, h1, h2 => exact absurd h1 (by decide)
  | 88, h1, h2 => exact absurd h1 (by decide)
  | 89, h1, h2 => exact absurd h1 (by decide)
  | 90, h1, h2 => exact absurd h1 (by decide)
  | 91, h1, h2 => exact absurd h1 (by decide)
  | 92, h1, h2 => exact absurd h1 (by decide)
  | 93, h1, h2 => exact absurd h1 (by decide)
  | 94, h1, h2 => exact absurd h1 (by decide)
  | 95, h1, h2 => exact absurd h1 (by decide)
  | 96, h1, h2 => exact absurd h1 (by decide)
  | 97, h1, h2 => exact absurd h1 (by decide)
  | 98, _, _ => exact h 0 _ rfl
  | k + 99, h1, h2 => exact absurd h2 (by omega)
set_option maxHeartbeats 8000000 in
set_option maxRecDepth 100000 in
theorem wd99 {D : va_G} {cs : Cs3} {b : Nat} {H : Heap} (h : Gd D b 0 (WX9 cs b) H) : ∀ k, k < 99 → va_at D vwCl (b + k, cellOf b cs S0 k) H := by
  intro k hk
  obtain ⟨g0, h⟩ := gd_cons h
  obtain ⟨h, g98⟩ := gd_app (n := 98) h (by simp [len_X7, len_X2, len_X8, len_X1, len_X4, len_X0, len_X3, len_X5, len_X6])
  obtain ⟨h, g95⟩ := gd_app (n := 95) h (by simp [len_X7, len_X2, len_X8, len_X1, len_X4, len_X0, len_X3, len_X5, len_X6])
  obtain ⟨h, g93⟩ := gd_app (n := 93) h (by simp [len_X7, len_X2, len_X8, len_X1, len_X4, len_X0, len_X3, len_X5, len_X6])
  obtain ⟨h, g91⟩ := gd_app (n := 91) h (by simp [len_X7, len_X2, len_X8, len_X1, len_X4, len_X0, len_X3, len_X5, len_X6])
  obtain ⟨h, g90⟩ := gd_app (n := 90) h (by simp [len_X7, len_X2, len_X8, len_X1, len_X4, len_X0, len_X3, len_X5, len_X6])
  obtain ⟨h, g89⟩ := gd_app (n := 89) h (by simp [len_X7, len_X2, len_X8, len_X1, len_X4, len_X0, len_X3, len_X5, len_X6])
  obtain ⟨h, h2⟩ := gd_app (n := 78) h (by simp [len_X7, len_X2, len_X8, len_X1, len_X4, len_X0, len_X3, len_X5, len_X6])
  obtain ⟨g78, h2⟩ := gd_cons h2
  obtain ⟨h2, g84⟩ := gd_app (n := 84) h2 (by simp [len_X7, len_X2, len_X8, len_X1, len_X4, len_X0, len_X3, len_X5, len_X6])
  obtain ⟨-, g79⟩ := gd_app (n := 79) h2 rfl
  obtain ⟨h, h3⟩ := gd_app (n := 26) h (by simp [len_X7, len_X2, len_X8, len_X1, len_X4, len_X0, len_X3, len_X5, len_X6])
  obtain ⟨h, g21⟩ := gd_app (n := 21) h (by simp [len_X7, len_X2, len_X8, len_X1, len_X4, len_X0, len_X3, len_X5, len_X6])
  obtain ⟨h, g12⟩ := gd_app (n := 12) h (by simp [len_X7, len_X2, len_X8, len_X1, len_X4, len_X0, len_X3, len_X5, len_X6])
  obtain ⟨h, g3⟩ := gd_app (n := 3) h (by simp [len_X7, len_X2, len_X8, len_X1, len_X4, len_X0, len_X3, len_X5, len_X6])
  obtain ⟨-, g1⟩ := gd_app (n := 1) h rfl
  obtain ⟨g26, h3⟩ := gd_cons h3
  obtain ⟨g27, h3⟩ := gd_cons h3
  obtain ⟨h3, g73⟩ := gd_app (n := 73) h3 (by simp [len_X7, len_X2, len_X8, len_X1, len_X4, len_X0, len_X3, len_X5, len_X6])
  obtain ⟨h3, g68⟩ := gd_app (n := 68) h3 (by simp [len_X7, len_X2, len_X8, len_X1, len_X4, len_X0, len_X3, len_X5, len_X6])
  obtain ⟨h3, g63⟩ := gd_app (n := 63) h3 (by simp [len_X7, len_X2, len_X8, len_X1, len_X4, len_X0, len_X3, len_X5, len_X6])
  obtain ⟨h3, g58⟩ := gd_app (n := 58) h3 (by simp [len_X7, len_X2, len_X8, len_X1, len_X4, len_X0, len_X3, len_X5, len_X6])
  obtain ⟨h3, g53⟩ := gd_app (n := 53) h3 (by simp [len_X7, len_X2, len_X8, len_X1, len_X4, len_X0, len_X3, len_X5, len_X6])
  obtain ⟨h3, g48⟩ := gd_app (n := 48) h3 (by simp [len_X7, len_X2, len_X8, len_X1, len_X4, len_X0, len_X3, len_X5, len_X6])
  obtain ⟨h3, g43⟩ := gd_app (n := 43) h3 (by simp [len_X7, len_X2, len_X8, len_X1, len_X4, len_X0, len_X3, len_X5, len_X6])
  obtain ⟨h3, g38⟩ := gd_app (n := 38) h3 (by simp [len_X7, len_X2, len_X8, len_X1, len_X4, len_X0, len_X3, len_X5, len_X6])
  obtain ⟨h3, g33⟩ := gd_app (n := 33) h3 (by simp [len_X7, len_X2, len_X8, len_X1, len_X4, len_X0, len_X3, len_X5, len_X6])
  obtain ⟨-, g28⟩ := gd_app (n := 28) h3 rfl
  by_cases hc : k < 1
  · obtain rfl : k = 0 := by omega
    exact g0
  by_cases hc : k < 3
  · exact blk_1 g1 k (by omega) hc
  by_cases hc : k < 12
  · exact blk_3 g3 k (by omega) hc
  by_cases hc : k < 21
  · exact blk_12 g12 k (by omega) hc
  by_cases hc : k < 26
  · exact blk_21 g21 k (by omega) hc
  by_cases hc : k < 27
  · obtain rfl : k = 26 := by omega
    exact g26
  by_cases hc : k < 28
  · obtain rfl : k = 27 := by omega
    exact at_refs g27 (by intro i hi; have hi : i < 10 := hi; match i, hi with | 0, _ => rfl | 1, _ => rfl | 2, _ => rfl | 3, _ => rfl | 4, _ => rfl | 5, _ => rfl | 6, _ => rfl | 7, _ => rfl | 8, _ => rfl | 9, _ => rfl | i + 10, hi => exact absurd hi (by omega))
  by_cases hc : k < 33
  · exact blk_28 g28 k (by omega) hc
  by_cases hc : k < 38
  · exact blk_33 g33 k (by omega) hc
  by_cases hc : k < 43
  · exact blk_38 g38 k (by omega) hc
  by_cases hc : k < 48
  · exact blk_43 g43 k (by omega) hc
  by_cases hc : k < 53
  · exact blk_48 g48 k (by omega) hc
  by_cases hc : k < 58
  · exact blk_53 g53 k (by omega) hc
  by_cases hc : k < 63
  · exact blk_58 g58 k (by omega) hc
  by_cases hc : k < 68
  · exact blk_63 g63 k (by omega) hc
  by_cases hc : k < 73
  · exact blk_68 g68 k (by omega) hc
  by_cases hc : k < 78
  · exact blk_73 g73 k (by omega) hc
  by_cases hc : k < 79
  · obtain rfl : k = 78 := by omega
    exact at_refs g78 (by intro i hi; have hi : i < 2 := hi; match i, hi with | 0, _ => rfl | 1, _ => rfl | i + 2, hi => exact absurd hi (by omega))
  by_cases hc : k < 84
  · exact blk_79 g79 k (by omega) hc
  by_cases hc : k < 89
  · exact blk_84 g84 k (by omega) hc
  by_cases hc : k < 90
  · obtain rfl : k = 89 := by omega
    exact g89 0 _ rfl
  by_cases hc : k < 91
  · exact blk_90 g90 k (by omega) hc
  by_cases hc : k < 93
  · exact blk_91 g91 k (by omega) hc
  by_cases hc : k < 95
  · exact blk_93 g93 k (by omega) hc
  by_cases hc : k < 98
  · exact blk_95 g95 k (by omega) hc
  by_cases hc : k < 99
  · exact blk_98 g98 k (by omega) hc
  exact absurd hk (by omega)
set_option maxHeartbeats 8000000 in
set_option maxRecDepth 100000 in
theorem wd17 {D : va_G} {cs : Cs3} {b : Nat} {H : Heap} (hR : Wr D (b + 99) (WX10 cs b) H) : ∀ k, k < 17 → va_at D vwCl (b + 99 + k, cellOf b cs S0 (99 + k)) H := by
  intro k hk
  match k, hk with
  | 0, _ => exact hR.2 0 _ rfl
  | 1, _ => exact hR.2 1 _ rfl
  | 2, _ => exact hR.2 2 _ rfl
  | 3, _ => exact hR.2 3 _ rfl
  | 4, _ => exact hR.2 4 _ rfl
  | 5, _ => exact hR.2 5 _ rfl
  | 6, _ => exact hR.2 6 _ rfl
  | 7, _ => exact hR.2 7 _ rfl
  | 8, _ => exact hR.2 8 _ rfl
  | 9, _ => exact hR.2 9 _ rfl
  | 10, _ => exact hR.2 10 _ rfl
  | 11, _ => exact hR.2 11 _ rfl
  | 12, _ => exact hR.2 12 _ rfl
  | 13, _ => exact hR.2 13 _ rfl
  | 14, _ => exact hR.2 14 _ rfl
  | 15, _ => exact hR.2 15 _ rfl
  | 16, _ => exact hR.2 16 _ rfl
  | k + 17, hk => exact absurd hk (by omega)
theorem wd_all {D : va_G} {cs : Cs3} {b : Nat} {H : Heap} (h1 : ∀ k, k < 99 → va_at D vwCl (b + k, cellOf b cs S0 k) H) (hR : Wr D (b + 99) (WX10 cs b) H) : Wd D b cs S0 H := by
  intro k hk
  by_cases e : k < 99
  · exact h1 k e
  · have h2 := wd17 hR (k - 99) (by unfold NC at hk; omega)
    rw [show b + 99 + (k - 99) = b + k by omega, show 99 + (k - 99) = k by omega] at h2
    exact h2
theorem dX10_init_0 : decode cX10_init 0 = .ok (.aload_n 0, 1) := by decide +kernel
theorem dX10_init_1 : decode cX10_init 1 = .ok (.invokespecial 1, 3) := by decide +kernel
theorem dX10_init_4 : decode cX10_init 4 = .ok (.aload_n 0, 1) := by decide +kernel
theorem dX10_init_5 : decode cX10_init 5 = .ok (.sipush 150, 3) := by decide +kernel
theorem dX10_init_8 : decode cX10_init 8 = .ok (.newarray .int, 2) := by decide +kernel
theorem dX10_init_10 : decode cX10_init 10 = .ok (.putfield 7, 3) := by decide +kernel
theorem dX10_init_13 : decode cX10_init 13 = .ok (.aload_n 0, 1) := by decide +kernel
theorem dX10_init_14 : decode cX10_init 14 = .ok (.bipush 8, 2) := by decide +kernel
theorem dX10_init_16 : decode cX10_init 16 = .ok (.newarray .int, 2) := by decide +kernel
theorem dX10_init_18 : decode cX10_init 18 = .ok (.putfield 13, 3) := by decide +kernel
theorem dX10_init_21 : decode cX10_init 21 = .ok (.aload_n 0, 1) := by decide +kernel
theorem dX10_init_22 : decode cX10_init 22 = .ok (.bipush 16, 2) := by decide +kernel
theorem dX10_init_24 : decode cX10_init 24 = .ok (.newarray .int, 2) := by decide +kernel
theorem dX10_init_26 : decode cX10_init 26 = .ok (.putfield 16, 3) := by decide +kernel
theorem dX10_init_29 : decode cX10_init 29 = .ok (.aload_n 0, 1) := by decide +kernel
theorem dX10_init_30 : decode cX10_init 30 = .ok (.bipush 16, 2) := by decide +kernel
theorem dX10_init_32 : decode cX10_init 32 = .ok (.newarray .int, 2) := by decide +kernel
theorem dX10_init_34 : decode cX10_init 34 = .ok (.putfield 19, 3) := by decide +kernel
theorem dX10_init_37 : decode cX10_init 37 = .ok (.aload_n 0, 1) := by decide +kernel
theorem dX10_init_38 : decode cX10_init 38 = .ok (.bipush 16, 2) := by decide +kernel
theorem dX10_init_40 : decode cX10_init 40 = .ok (.newarray .int, 2) := by decide +kernel
theorem dX10_init_42 : decode cX10_init 42 = .ok (.putfield 22, 3) := by decide +kernel
theorem dX10_init_45 : decode cX10_init 45 = .ok (.aload_n 0, 1) := by decide +kernel
theorem dX10_init_46 : decode cX10_init 46 = .ok (.bipush 10, 2) := by decide +kernel
theorem dX10_init_48 : decode cX10_init 48 = .ok (.newarray .int, 2) := by decide +kernel
theorem dX10_init_50 : decode cX10_init 50 = .ok (.putfield 25, 3) := by decide +kernel
theorem dX10_init_53 : decode cX10_init 53 = .ok (.aload_n 0, 1) := by decide +kernel
theorem dX10_init_54 : decode cX10_init 54 = .ok (.bipush 10, 2) := by decide +kernel
theorem dX10_init_56 : decode cX10_init 56 = .ok (.newarray .int, 2) := by decide +kernel
theorem dX10_init_58 : decode cX10_init 58 = .ok (.putfield 28, 3) := by decide +kernel
theorem dX10_init_61 : decode cX10_init 61 = .ok (.aload_n 0, 1) := by decide +kernel
theorem dX10_init_62 : decode cX10_init 62 = .ok (.bipush 10, 2) := by decide +kernel
theorem dX10_init_64 : decode cX10_init 64 = .ok (.newarray .int, 2) := by decide +kernel
theorem dX10_init_66 : decode cX10_init 66 = .ok (.putfield 31, 3) := by decide +kernel
theorem dX10_init_69 : decode cX10_init 69 = .ok (.aload_n 0, 1) := by decide +kernel
theorem dX10_init_70 : decode cX10_init 70 = .ok (.bipush 10, 2) := by decide +kernel
theorem dX10_init_72 : decode cX10_init 72 = .ok (.newarray .int, 2) := by decide +kernel
theorem dX10_init_74 : decode cX10_init 74 = .ok (.putfield 34, 3) := by decide +kernel
theorem dX10_init_77 : decode cX10_init 77 = .ok (.aload_n 0, 1) := by decide +kernel
theorem dX10_init_78 : decode cX10_init 78 = .ok (.bipush 10, 2) := by decide +kernel
theorem dX10_init_80 : decode cX10_init 80 = .ok (.newarray .int, 2) := by decide +kernel
theorem dX10_init_82 : decode cX10_init 82 = .ok (.putfield 37, 3) := by decide +kernel
theorem dX10_init_85 : decode cX10_init 85 = .ok (.aload_n 0, 1) := by decide +kernel
theorem dX10_init_86 : decode cX10_init 86 = .ok (.bipush 25, 2) := by decide +kernel
theorem dX10_init_88 : decode cX10_init 88 = .ok (.newarray .int, 2) := by decide +kernel
theorem dX10_init_90 : decode cX10_init 90 = .ok (.putfield 40, 3) := by decide +kernel
theorem dX10_init_93 : decode cX10_init 93 = .ok (.aload_n 0, 1) := by decide +kernel
theorem dX10_init_94 : decode cX10_init 94 = .ok (.bipush 50, 2) := by decide +kernel
theorem dX10_init_96 : decode cX10_init 96 = .ok (.newarray .int, 2) := by decide +kernel
theorem dX10_init_98 : decode cX10_init 98 = .ok (.putfield 43, 3) := by decide +kernel
theorem dX10_init_101 : decode cX10_init 101 = .ok (.aload_n 0, 1) := by decide +kernel
theorem dX10_init_102 : decode cX10_init 102 = .ok (.iconst 2, 1) := by decide +kernel
theorem dX10_init_103 : decode cX10_init 103 = .ok (.newarray .boolean, 2) := by decide +kernel
theorem dX10_init_105 : decode cX10_init 105 = .ok (.putfield 46, 3) := by decide +kernel
theorem dX10_init_108 : decode cX10_init 108 = .ok (.aload_n 0, 1) := by decide +kernel
theorem dX10_init_109 : decode cX10_init 109 = .ok (.sipush 250, 3) := by decide +kernel
theorem dX10_init_112 : decode cX10_init 112 = .ok (.newarray .int, 2) := by decide +kernel
theorem dX10_init_114 : decode cX10_init 114 = .ok (.putfield 50, 3) := by decide +kernel
theorem dX10_init_117 : decode cX10_init 117 = .ok (.aload_n 0, 1) := by decide +kernel
theorem dX10_init_118 : decode cX10_init 118 = .ok (.bipush 6, 2) := by decide +kernel
theorem dX10_init_120 : decode cX10_init 120 = .ok (.newarray .int, 2) := by decide +kernel
theorem dX10_init_122 : decode cX10_init 122 = .ok (.putfield 53, 3) := by decide +kernel
theorem dX10_init_125 : decode cX10_init 125 = .ok (.aload_n 0, 1) := by decide +kernel
theorem dX10_init_126 : decode cX10_init 126 = .ok (.bipush 6, 2) := by decide +kernel
theorem dX10_init_128 : decode cX10_init 128 = .ok (.newarray .int, 2) := by decide +kernel
theorem dX10_init_130 : decode cX10_init 130 = .ok (.putfield 56, 3) := by decide +kernel
theorem dX10_init_133 : decode cX10_init 133 = .ok (.aload_n 0, 1) := by decide +kernel
theorem dX10_init_134 : decode cX10_init 134 = .ok (.invokevirtual 59, 3) := by decide +kernel
theorem dX10_init_137 : decode cX10_init 137 = .ok (.aload_n 0, 1) := by decide +kernel
theorem dX10_init_138 : decode cX10_init 138 = .ok (.invokevirtual 62, 3) := by decide +kernel
theorem dX10_init_141 : decode cX10_init 141 = .ok (.return_, 1) := by decide +kernel
abbrev rX10_init : Room := { frames := 1, cells := 16, slots := 595, locals := 21 }
def PM (D : va_G) (cs : Cs3) (b : Nat) : Array Value → State → Prop := fun v U => v = ([.ref (b + 99)] : List Value).toArray ∧ U.heap.size = b + 99 + 1 ∧ (∀ k, k < 99 → va_at D vwCl (b + k, cellOf b cs S0 k) U.heap) ∧ Wr D (b + 99) [.inr (10, [.int 0, .long 0, .null, .int 0, .int 0, .int 0, .int 0, .int 0, .int 0, .int 0, .null, .null, .null, .null, .null, .null, .null, .null, .null, .null, .null, .null, .null, .int 0, .null, .null, .int 0])] U.heap ∧ KI D cs U
def CM (l : Launch) (D : va_G) (cs : Cs3) (b : Nat) (Sb : St) : Prop := Met l yX10_init (WS yX10_init cX10_init 1 none) rX10_init (PM D cs b) (QX D b cs none Sb) 16 595 (AA b)
theorem PMb {D : va_G} {cs : Cs3} {b : Nat} : FrameBlind (PM D cs b) :=
  fun a U g mk ⟨q1, q2, q5, q6, q3, q4⟩ => ⟨q1, q2, q5, q6, ⟨va_K.moved (u := U) (U := U.calling g mk a) (Vm.Alike.refl U.vm) q3.1, NTb (rfl : U.vm = (U.calling g mk a).vm) q3.2⟩, va_AO.moved (u := U) (U := U.calling g mk a) (Vm.Alike.refl U.vm) q4⟩
set_option maxHeartbeats 8000000 in
set_option maxRecDepth 100000 in
theorem ci_X10 (l : Launch) (D : va_G) (cs : Cs3) (b : Nat) (Sa Sb : St) (hb1 : p_X10_begins S0 = some Sa) (hb2 : p_X10_settles Sa = some Sb) : CM l D cs b Sb := by
  refine Met.ofW (cc := cX10_init) (maxL := 1) (ret := none) (by decide +kernel) rfl ?_
  intro p e s m args below meth c s₁ B hml hv
  obtain ⟨rfl, hsz, hpre, hR, hK, hO⟩ := hv
  have hts := atoms_spec (ws := WS yX10_init cX10_init 1 none) B.pre
  have hr := B.returns
  have hin2 : meth.name = "<init>" := (name_of_methodNamed B.named B.method).1
  have hC : CX p s m ([.ref (b + 99)] : List Value).toArray meth c RX10 cX10_init 1 D cs := ⟨B.exec, B.bytes, hml, findClass_of_methodNamed B.named, fun w hw => hts w (List.mem_cons_of_mem _ hw), hK, B.notSynchronized⟩
  rw [lg_entry_eq]
  have hS : va_S (AA (b + 99)) s.heap s.heap [] := va_S.rf
  have hl := lv_entry ([.ref (b + 99)]) (n := 1) (Nat.le_of_ble_eq_true rfl)
  generalize (lg_sl ([.ref (b + 99)]) ++ List.replicate (1 - (lg_sl ([.ref (b + 99)])).length) Slot.unset).toArray = ls at hl ⊢
  have hl : lv_has ls 1 [(0, .ref (b + 99))] := hl
  refine lv_aload_n hC.1 hC.2.1 dX10_init_0 rfl (lv_at hl 0 rfl) ?_
  refine r_obj hC ml_X10_1 in_obj cw_obj hl.1 dX10_init_1 (Nat.le_of_ble_eq_true rfl) (Nat.le_of_ble_eq_true rfl) ?_
  refine lv_aload_n hC.1 hC.2.1 dX10_init_4 rfl (lv_at hl 0 rfl) ?_
  refine lv_sipush (v := 150) hC.1 hC.2.1 dX10_init_5 (by decide) ?_
  refine r_newa hC hR hS aw_int 150 (by decide) (by decide) (Nat.le_of_ble_eq_true rfl) (Nat.le_of_ble_eq_true rfl) (Nat.le_of_ble_eq_true rfl) (a := b + 100) rfl dX10_init_8 (fun H hR hS => ?_)
  have hR : Wr D (b + 99) [.inr (10, [.int 0, .long 0, .null, .int 0, .int 0, .int 0, .int 0, .int 0, .int 0, .int 0, .null, .null, .null, .null, .null, .null, .null, .null, .null, .null, .null, .null, .null, .int 0, .null, .null, .int 0]), .inl (cs.1, 150, .inl (fun _ => 0))] H := hR
  refine r_putF (pre := []) (post := [.inl (cs.1, 150, .inl (fun _ => 0))]) (C := RX10) (T := TX10) (N := 27) (ty := .array .int) (v := .ref (b + 100)) hC hin2 hR hS rfl uX10 tyX10 tyX10_ok nmX10 2 (by decide) fl_X10_7 rfl rfl (by decide +kernel) rfl rfl (Nat.le_of_ble_eq_true rfl) rfl dX10_init_10 (fun H locs hR hS => ?_)
  have hR : Wr D (b + 99) [.inr (10, [.int 0, .long 0, .ref (b + 100), .int 0, .int 0, .int 0, .int 0, .int 0, .int 0, .int 0, .null, .null, .null, .null, .null, .null, .null, .null, .null, .null, .null, .null, .null, .int 0, .null, .null, .int 0]), .inl (cs.1, 150, .inl (fun _ => 0))] H := hR
  refine lv_aload_n hC.1 hC.2.1 dX10_init_13 rfl (lv_at hl 0 rfl) ?_
  refine lv_bipush (v := 8) hC.1 hC.2.1 dX10_init_14 (by decide) ?_
  refine r_newa hC hR hS aw_int 8 (by decide) (by decide) (Nat.le_of_ble_eq_true rfl) (Nat.le_of_ble_eq_true rfl) (Nat.le_of_ble_eq_true rfl) (a := b + 101) rfl dX10_init_16 (fun H hR hS => ?_)
  have hR : Wr D (b + 99) [.inr (10, [.int 0, .long 0, .ref (b + 100), .int 0, .int 0, .int 0, .int 0, .int 0, .int 0, .int 0, .null, .null, .null, .null, .null, .null, .null, .null, .null, .null, .null, .null, .null, .int 0, .null, .null, .int 0]), .inl (cs.1, 150, .inl (fun _ => 0)), .inl (cs.1, 8, .inl (fun _ => 0))] H := hR
  refine r_putF (pre := []) (post := [.inl (cs.1, 150, .inl (fun _ => 0)), .inl (cs.1, 8, .inl (fun _ => 0))]) (C := RX10) (T := TX10) (N := 27) (ty := .array .int) (v := .ref (b + 101)) hC hin2 hR hS rfl uX10 tyX10 tyX10_ok nmX10 10 (by decide) fl_X10_13 rfl rfl (by decide +kernel) rfl rfl (Nat.le_of_ble_eq_true rfl) rfl dX10_init_18 (fun H locs hR hS => ?_)
  have hR : Wr D (b + 99) [.inr (10, [.int 0, .long 0, .ref (b + 100), .int 0, .int 0, .int 0, .int 0, .int 0, .int 0, .int 0, .ref (b + 101), .null, .null, .null, .null, .null, .null, .null, .null, .null, .null, .null, .null, .int 0, .null, .null, .int 0]), .inl (cs.1, 150, .inl (fun _ => 0)), .inl (cs.1, 8, .inl (fun _ => 0))] H := hR
  refine lv_aload_n hC.1 hC.2.1 dX10_init_21 rfl (lv_at hl 0 rfl) ?_
  refine lv_bipush (v := 16) hC.1 hC.2.1 dX10_init_22 (by decide) ?_
  refine r_newa hC hR hS aw_int 16 (by decide) (by decide) (Nat.le_of_ble_eq_true rfl) (Nat.le_of_ble_eq_true rfl) (Nat.le_of_ble_eq_true rfl) (a := b + 102) rfl dX10_init_24 (fun H hR hS => ?_)
  have hR : Wr D (b + 99) [.inr (10, [.int 0, .long 0, .ref (b + 100), .int 0, .int 0, .int 0, .int 0, .int 0, .int 0, .int 0, .ref (b + 101), .null, .null, .null, .null, .null, .null, .null, .null, .null, .null, .null, .null, .int 0, .null, .null, .int 0]), .inl (cs.1, 150, .inl (fun _ => 0)), .inl (cs.1, 8, .inl (fun _ => 0)), .inl (cs.1, 16, .inl (fun _ => 0))] H := hR
  refine r_putF (pre := []) (post := [.inl (cs.1, 150, .inl (fun _ => 0)), .inl (cs.1, 8, .inl (fun _ => 0)), .inl (cs.1, 16, .inl (fun _ => 0))]) (C := RX10) (T := TX10) (N := 27) (ty := .array .int) (v := .ref (b + 102)) hC hin2 hR hS rfl uX10 tyX10 tyX10_ok nmX10 11 (by decide) fl_X10_16 rfl rfl (by decide +kernel) rfl rfl (Nat.le_of_ble_eq_true rfl) rfl dX10_init_26 (fun H locs hR hS => ?_)
  have hR : Wr D (b + 99) [.inr (10, [.int 0, .long 0, .ref (b + 100), .int 0, .int 0, .int 0, .int 0, .int 0, .int 0, .int 0, .ref (b + 101), .ref (b + 102), .null, .null, .null, .null, .null, .null, .null, .null, .null, .null, .null, .int 0, .null, .null, .int 0]), .inl (cs.1, 150, .inl (fun _ => 0)), .inl (cs.1, 8, .inl (fun _ => 0)), .inl (cs.1, 16, .inl (fun _ => 0))] H := hR
  refine lv_aload_n hC.1 hC.2.1 dX10_init_29 rfl (lv_at hl 0 rfl) ?_
  refine lv_bipush (v := 16) hC.1 hC.2.1 dX10_init_30 (by decide) ?_
  refine r_newa hC hR hS aw_int 16 (by decide) (by decide) (Nat.le_of_ble_eq_true rfl) (Nat.le_of_ble_eq_true rfl) (Nat.le_of_ble_eq_true rfl) (a := b + 103) rfl dX10_init_32 (fun H hR hS => ?_)
  have hR : Wr D (b + 99) [.inr (10, [.int 0, .long 0, .ref (b + 100), .int 0, .int 0, .int 0, .int 0, .int 0, .int 0, .int 0, .ref (b + 101), .ref (b + 102), .null, .null, .null, .null, .null, .null, .null, .null, .null, .null, .null, .int 0, .null, .null, .int 0]), .inl (cs.1, 150, .inl (fun _ => 0)), .inl (cs.1, 8, .inl (fun _ => 0)), .inl (cs.1, 16, .inl (fun _ => 0)), .inl (cs.1, 16, .inl (fun _ => 0))] H := hR
  refine r_putF (pre := []) (post := [.inl (cs.1, 150, .inl (fun _ => 0)), .inl (cs.1, 8, .inl (fun _ => 0)), .inl (cs.1, 16, .inl (fun _ => 0)), .inl (cs.1, 16, .inl (fun _ => 0))]) (C := RX10) (T := TX10) (N := 27) (ty := .array .int) (v := .ref (b + 103)) hC hin2 hR hS rfl uX10 tyX10 tyX10_ok nmX10 12 (by decide) fl_X10_19 rfl rfl (by decide +kernel) rfl rfl (Nat.le_of_ble_eq_true rfl) rfl dX10_init_34 (fun H locs hR hS => ?_)
  have hR : Wr D (b + 99) [.inr (10, [.int 0, .long 0, .ref (b + 100), .int 0, .int 0, .int 0, .int 0, .int 0, .int 0, .int 0, .ref (b + 101), .ref (b + 102), .ref (b + 103), .null, .null, .null, .null, .null, .null, .null, .null, .null, .null, .int 0, .null, .null, .int 0]), .inl (cs.1, 150, .inl (fun _ => 0)), .inl (cs.1, 8, .inl (fun _ => 0)), .inl (cs.1, 16, .inl (fun _ => 0)), .inl (cs.1, 16, .inl (fun _ => 0))] H := hR
  refine lv_aload_n hC.1 hC.2.1 dX10_init_37 rfl (lv_at hl 0 rfl) ?_
  refine lv_bipush (v := 16) hC.1 hC.2.1 dX10_init_38 (by decide) ?_
  refine r_newa hC hR hS aw_int 16 (by decide) (by decide) (Nat.le_of_ble_eq_true rfl) (Nat.le_of_ble_eq_true rfl) (Nat.le_of_ble_eq_true rfl) (a := b + 104) rfl dX10_init_40 (fun H hR hS => ?_)
  have hR : Wr D (b + 99) [.inr (10, [.int 0, .long 0, .ref (b + 100), .int 0, .int 0, .int 0, .int 0, .int 0, .int 0, .int 0, .ref (b + 101), .ref (b + 102), .ref (b + 103), .null, .null, .null, .null, .null, .null, .null, .null, .null, .null, .int 0, .null, .null, .int 0]), .inl (cs.1, 150, .inl (fun _ => 0)), .inl (cs.1, 8, .inl (fun _ => 0)), .inl (cs.1, 16, .inl (fun _ => 0)), .inl (cs.1, 16, .inl (fun _ => 0)), .inl (cs.1, 16, .inl (fun _ => 0))] H := hR
  refine r_putF (pre := []) (post := [.inl (cs.1, 150, .inl (fun _ => 0)), .inl (cs.1, 8, .inl (fun _ => 0)), .inl (cs.1, 16, .inl (fun _ => 0)), .inl (cs.1, 16, .inl (fun _ => 0)), .inl (cs.1, 16, .inl (fun _ => 0))]) (C := RX10) (T := TX10) (N := 27) (ty := .array .int) (v := .ref (b + 104)) hC hin2 hR hS rfl uX10 tyX10 tyX10_ok nmX10 13 (by decide) fl_X10_22 rfl rfl (by decide +kernel) rfl rfl (Nat.le_of_ble_eq_true rfl) rfl dX10_init_42 (fun H locs hR hS => ?_)
  have hR : Wr D (b + 99) [.inr (10, [.int 0, .long 0, .ref (b + 100), .int 0, .int 0, .int 0, .int 0, .int 0, .int 0, .int 0, .ref (b + 101), .ref (b + 102), .ref (b + 103), .ref (b + 104), .null, .null, .null, .null, .null, .null, .null, .null, .null, .int 0, .null, .null, .int 0]), .inl (cs.1, 150, .inl (fun _ => 0)), .inl (cs.1, 8, .inl (fun _ => 0)), .inl (cs.1, 16, .inl (fun _ => 0)), .inl (cs.1, 16, .inl (fun _ => 0)), .inl (cs.1, 16, .inl (fun _ => 0))] H := hR
  refine lv_aload_n hC.1 hC.2.1 dX10_init_45 rfl (lv_at hl 0 rfl) ?_
  refine lv_bipush (v := 10) hC.1 hC.2.1 dX10_init_46 (by decide) ?_
  refine r_newa hC hR hS aw_int 10 (by decide) (by decide) (Nat.le_of_ble_eq_true rfl) (Nat.le_of_ble_eq_true rfl) (Nat.le_of_ble_eq_true rfl) (a := b + 105) rfl dX10_init_48 (fun H hR hS => ?_)
  have hR : Wr D (b + 99) [.inr (10, [.int 0, .long 0, .ref (b + 100), .int 0, .int 0, .int 0, .int 0, .int 0, .int 0, .int 0, .ref (b + 101), .ref (b + 102), .ref (b + 103), .ref (b + 104), .null, .null, .null, .null, .null, .null, .null, .null, .null, .int 0, .null, .null, .int 0]), .inl (cs.1, 150, .inl (fun _ => 0)), .inl (cs.1, 8, .inl (fun _ => 0)), .inl (cs.1, 16, .inl (fun _ => 0)), .inl (cs.1, 16, .inl (fun _ => 0)), .inl (cs.1, 16, .inl (fun _ => 0)), .inl (cs.1, 10, .inl (fun _ => 0))] H := hR
  refine r_putF (pre := []) (post := [.inl (cs.1, 150, .inl (fun _ => 0)), .inl (cs.1, 8, .inl (fun _ => 0)), .inl (cs.1, 16, .inl (fun _ => 0)), .inl (cs.1, 16, .inl (fun _ => 0)), .inl (cs.1, 16, .inl (fun _ => 0)), .inl (cs.1, 10, .inl (fun _ => 0))]) (C := RX10) (T := TX10) (N := 27) (ty := .array .int) (v := .ref (b + 105)) hC hin2 hR hS rfl uX10 tyX10 tyX10_ok nmX10 14 (by decide) fl_X10_25 rfl rfl (by decide +kernel) rfl rfl (Nat.le_of_ble_eq_true rfl) rfl dX10_init_50 (fun H locs hR hS => ?_)
  have hR : Wr D (b + 99) [.inr (10, [.int 0, .long 0, .ref (b + 100), .int 0, .int 0, .int 0, .int 0, .int 0, .int 0, .int 0, .ref (b + 101), .ref (b + 102), .ref (b + 103), .ref (b + 104), .ref (b + 105), .null, .null, .null, .null, .null, .null, .null, .null, .int 0, .null, .null, .int 0]), .inl (cs.1, 150, .inl (fun _ => 0)), .inl (cs.1, 8, .inl (fun _ => 0)), .inl (cs.1, 16, .inl (fun _ => 0)), .inl (cs.1, 16, .inl (fun _ => 0)), .inl (cs.1, 16, .inl (fun _ => 0)), .inl (cs.1, 10, .inl (fun _ => 0))] H := hR
  refine lv_aload_n hC.1 hC.2.1 dX10_init_53 rfl (lv_at hl 0 rfl) ?_
  refine lv_bipush (v := 10) hC.1 hC.2.1 dX10_init_54 (by decide) ?_
  refine r_newa hC hR hS aw_int 10 (by decide) (by decide) (Nat.le_of_ble_eq_true rfl) (Nat.le_of_ble_eq_true rfl) (Nat.le_of_ble_eq_true rfl) (a := b + 106) rfl dX10_init_56 (fun H hR hS => ?_)
  have hR : Wr D (b + 99) [.inr (10, [.int 0, .long 0, .ref (b + 100), .int 0, .int 0, .int 0, .int 0, .int 0, .int 0, .int 0, .ref (b + 101), .ref (b + 102), .ref (b + 103), .ref (b + 104), .ref (b + 105), .null, .null, .null, .null, .null, .null, .null, .null, .int 0, .null, .null, .int 0]), .inl (cs.1, 150, .inl (fun _ => 0)), .inl (cs.1, 8, .inl (fun _ => 0)), .inl (cs.1, 16, .inl (fun _ => 0)), .inl (cs.1, 16, .inl (fun _ => 0)), .inl (cs.1, 16, .inl (fun _ => 0)), .inl (cs.1, 10, .inl (fun _ => 0)), .inl (cs.1, 10, .inl (fun _ => 0))] H := hR
  refine r_putF (pre := []) (post := [.inl (cs.1, 150, .inl (fun _ => 0)), .inl (cs.1, 8, .inl (fun _ => 0)), .inl (cs.1, 16, .inl (fun _ => 0)), .inl (cs.1, 16, .inl (fun _ => 0)), .inl (cs.1, 16, .inl (fun _ => 0)), .inl (cs.1, 10, .inl (fun _ => 0)), .inl (cs.1, 10, .inl (fun _ => 0))]) (C := RX10) (T := TX10) (N := 27) (ty := .array .int) (v := .ref (b + 106)) hC hin2 hR hS rfl uX10 tyX10 tyX10_ok nmX10 15 (by decide) fl_X10_28 rfl rfl (by decide +kernel) rfl rfl (Nat.le_of_ble_eq_true rfl) rfl dX10_init_58 (fun H locs hR hS => ?_)
  have hR : Wr D (b + 99) [.inr (10, [.int 0, .long 0, .ref (b + 100), .int 0, .int 0, .int 0, .int 0, .int 0, .int 0, .int 0, .ref (b + 101), .ref (b + 102), .ref (b + 103), .ref (b + 104), .ref (b + 105), .ref (b + 106), .null, .null, .null, .null, .null, .null, .null, .int 0, .null, .null, .int 0]), .inl (cs.1, 150, .inl (fun _ => 0)), .inl (cs.1, 8, .inl (fun _ => 0)), .inl (cs.1, 16, .inl (fun _ => 0)), .inl (cs.1, 16, .inl (fun _ => 0)), .inl (cs.1, 16, .inl (fun _ => 0)), .inl (cs.1, 10, .inl (fun _ => 0)), .inl (cs.1, 10, .inl (fun _ => 0))] H := hR
  refine lv_aload_n hC.1 hC.2.1 dX10_init_61 rfl (lv_at hl 0 rfl) ?_
  refine lv_bipush (v := 10) hC.1 hC.2.1 dX10_init_62 (by decide) ?_
  refine r_newa hC hR hS aw_int 10 (by decide) (by decide) (Nat.le_of_ble_eq_true rfl) (Nat.le_of_ble_eq_true rfl) (Nat.le_of_ble_eq_true rfl) (a := b + 107) rfl dX10_init_64 (fun H hR hS => ?_)
  have hR : Wr D (b + 99) [.inr (10, [.int 0, .long 0, .ref (b + 100), .int 0, .int 0, .int 0, .int 0, .int 0, .int 0, .int 0, .ref (b + 101), .ref (b + 102), .ref (b + 103), .ref (b + 104), .ref (b + 105), .ref (b + 106), .null, .null, .null, .null, .null, .null, .null, .int 0, .null, .null, .int 0]), .inl (cs.1, 150, .inl (fun _ => 0)), .inl (cs.1, 8, .inl (fun _ => 0)), .inl (cs.1, 16, .inl (fun _ => 0)), .inl (cs.1, 16, .inl (fun _ => 0)), .inl (cs.1, 16, .inl (fun _ => 0)), .inl (cs.1, 10, .inl (fun _ => 0)), .inl (cs.1, 10, .inl (fun _ => 0)), .inl (cs.1, 10, .inl (fun _ => 0))] H := hR
  refine r_putF (pre := []) (post := [.inl (cs.1, 150, .inl (fun _ => 0)), .inl (cs.1, 8, .inl (fun _ => 0)), .inl (cs.1, 16, .inl (fun _ => 0)), .inl (cs.1, 16, .inl (fun _ => 0)), .inl (cs.1, 16, .inl (fun _ => 0)), .inl (cs.1, 10, .inl (fun _ => 0)), .inl (cs.1, 10, .inl (fun _ => 0)), .inl (cs.1, 10, .inl (fun _ => 0))]) (C := RX10) (T := TX10) (N := 27) (ty := .array .int) (v := .ref (b + 107)) hC hin2 hR hS rfl uX10 tyX10 tyX10_ok nmX10 16 (by decide) fl_X10_31 rfl rfl (by decide +kernel) rfl rfl (Nat.le_of_ble_eq_true rfl) rfl dX10_init_66 (fun H locs hR hS => ?_)
  have hR : Wr D (b + 99) [.inr (10, [.int 0, .long 0, .ref (b + 100), .int 0, .int 0, .int 0, .int 0, .int 0, .int 0, .int 0, .ref (b + 101), .ref (b + 102), .ref (b + 103), .ref (b + 104), .ref (b + 105), .ref (b + 106), .ref (b + 107), .null, .null, .null, .null, .null, .null, .int 0, .null, .null, .int 0]), .inl (cs.1, 150, .inl (fun _ => 0)), .inl (cs.1, 8, .inl (fun _ => 0)), .inl (cs.1, 16, .inl (fun _ => 0)), .inl (cs.1, 16, .inl (fun _ => 0)), .inl (cs.1, 16, .inl (fun _ => 0)), .inl (cs.1, 10, .inl (fun _ => 0)), .inl (cs.1, 10, .inl (fun _ => 0)), .inl (cs.1, 10, .inl (fun _ => 0))] H := hR
  refine lv_aload_n hC.1 hC.2.1 dX10_init_69 rfl (lv_at hl 0 rfl) ?_
  refine lv_bipush (v := 10) hC.1 hC.2.1 dX10_init_70 (by decide) ?_
  refine r_newa hC hR hS aw_int 10 (by decide) (by decide) (Nat.le_of_ble_eq_true rfl) (Nat.le_of_ble_eq_true rfl) (Nat.le_of_ble_eq_true rfl) (a := b + 108) rfl dX10_init_72 (fun H hR hS => ?_)
  have hR : Wr D (b + 99) [.inr (10, [.int 0, .long 0, .ref (b + 100), .int 0, .int 0, .int 0, .int 0, .int 0, .int 0, .int 0, .ref (b + 101), .ref (b + 102), .ref (b + 103), .ref (b + 104), .ref (b + 105), .ref (b + 106), .ref (b + 107), .null, .null, .null, .null, .null, .null, .int 0, .null, .null, .int 0]), .inl (cs.1, 150, .inl (fun _ => 0)), .inl (cs.1, 8, .inl (fun _ => 0)), .inl (cs.1, 16, .inl (fun _ => 0)), .inl (cs.1, 16, .inl (fun _ => 0)), .inl (cs.1, 16, .inl (fun _ => 0)), .inl (cs.1, 10, .inl (fun _ => 0)), .inl (cs.1, 10, .inl (fun _ => 0)), .inl (cs.1, 10, .inl (fun _ => 0)), .inl (cs.1, 10, .inl (fun _ => 0))] H := hR
  refine r_putF (pre := []) (post := [.inl (cs.1, 150, .inl (fun _ => 0)), .inl (cs.1, 8, .inl (fun _ => 0)), .inl (cs.1, 16, .inl (fun _ => 0)), .inl (cs.1, 16, .inl (fun _ => 0)), .inl (cs.1, 16, .inl (fun _ => 0)), .inl (cs.1, 10, .inl (fun _ => 0)), .inl (cs.1, 10, .inl (fun _ => 0)), .inl (cs.1, 10, .inl (fun _ => 0)), .inl (cs.1, 10, .inl (fun _ => 0))]) (C := RX10) (T := TX10) (N := 27) (ty := .array .int) (v := .ref (b + 108)) hC hin2 hR hS rfl uX10 tyX10 tyX10_ok nmX10 17 (by decide) fl_X10_34 rfl rfl (by decide +kernel) rfl rfl (Nat.le_of_ble_eq_true rfl) rfl dX10_init_74 (fun H locs hR hS => ?_)
  have hR : Wr D (b + 99) [.inr (10, [.int 0, .long 0, .ref (b + 100), .int 0, .int 0, .int 0, .int 0, .int 0, .int 0, .int 0, .ref (b + 101), .ref (b + 102), .ref (b + 103), .ref (b + 104), .ref (b + 105), .ref (b + 106), .ref (b + 107), .ref (b + 108), .null, .null, .null, .null, .null, .int 0, .null, .null, .int 0]), .inl (cs.1, 150, .inl (fun _ => 0)), .inl (cs.1, 8, .inl (fun _ => 0)), .inl (cs.1, 16, .inl (fun _ => 0)), .inl (cs.1, 16, .inl (fun _ => 0)), .inl (cs.1, 16, .inl (fun _ => 0)), .inl (cs.1, 10, .inl (fun _ => 0)), .inl (cs.1, 10, .inl (fun _ => 0)), .inl (cs.1, 10, .inl (fun _ => 0)), .inl (cs.1, 10, .inl (fun _ => 0))] H := hR
  refine lv_aload_n hC.1 hC.2.1 dX10_init_77 rfl (lv_at hl 0 rfl) ?_
  refine lv_bipush (v := 10) hC.1 hC.2.1 dX10_init_78 (by decide) ?_
  refine r_newa hC hR hS aw_int 10 (by decide) (by decide) (Nat.le_of_ble_eq_true rfl) (Nat.le_of_ble_eq_true rfl) (Nat.le_of_ble_eq_true rfl) (a := b + 109) rfl dX10_init_80 (fun H hR hS => ?_)
  have hR : Wr D (b + 99) [.inr (10, [.int 0, .long 0, .ref (b + 100), .int 0, .int 0, .int 0, .int 0, .int 0, .int 0, .int 0, .ref (b + 101), .ref (b + 102), .ref (b + 103), .ref (b + 104), .ref (b + 105), .ref (b + 106), .ref (b + 107), .ref (b + 108), .null, .null, .null, .null, .null, .int 0, .null, .null, .int 0]), .inl (cs.1, 150, .inl (fun _ => 0)), .inl (cs.1, 8, .inl (fun _ => 0)), .inl (cs.1, 16, .inl (fun _ => 0)), .inl (cs.1, 16, .inl (fun _ => 0)), .inl (cs.1, 16, .inl (fun _ => 0)), .inl (cs.1, 10, .inl (fun _ => 0)), .inl (cs.1, 10, .inl (fun _ => 0)), .inl (cs.1, 10, .inl (fun _ => 0)), .inl (cs.1, 10, .inl (fun _ => 0)), .inl (cs.1, 10, .inl (fun _ => 0))] H := hR
  refine r_putF (pre := []) (post := [.inl (cs.1, 150, .inl (fun _ => 0)), .inl (cs.1, 8, .inl (fun _ => 0)), .inl (cs.1, 16, .inl (fun _ => 0)), .inl (cs.1, 16, .inl (fun _ => 0)), .inl (cs.1, 16, .inl (fun _ => 0)), .inl (cs.1, 10, .inl (fun _ => 0)), .inl (cs.1, 10, .inl (fun _ => 0)), .inl (cs.1, 10, .inl (fun _ => 0)), .inl (cs.1, 10, .inl (fun _ => 0)), .inl (cs.1, 10, .inl (fun _ => 0))]) (C := RX10) (T := TX10) (N := 27) (ty := .array .int) (v := .ref (b + 109)) hC hin2 hR hS rfl uX10 tyX10 tyX10_ok nmX10 18 (by decide) fl_X10_37 rfl rfl (by decide +kernel) rfl rfl (Nat.le_of_ble_eq_true rfl) rfl dX10_init_82 (fun H locs hR hS => ?_)
  have hR : Wr D (b + 99) [.inr (10, [.int 0, .long 0, .ref (b + 100), .int 0, .int 0, .int 0, .int 0, .int 0, .int 0, .int 0, .ref (b + 101), .ref (b + 102), .ref (b + 103), .ref (b + 104), .ref (b + 105), .ref (b + 106), .ref (b + 107), .ref (b + 108), .ref (b + 109), .null, .null, .null, .null, .int 0, .null, .null, .int 0]), .inl (cs.1, 150, .inl (fun _ => 0)), .inl (cs.1, 8, .inl (fun _ => 0)), .inl (cs.1, 16, .inl (fun _ => 0)), .inl (cs.1, 16, .inl (fun _ => 0)), .inl (cs.1, 16, .inl (fun _ => 0)), .inl (cs.1, 10, .inl (fun _ => 0)), .inl (cs.1, 10, .inl (fun _ => 0)), .inl (cs.1, 10, .inl (fun _ => 0)), .inl (cs.1, 10, .inl (fun _ => 0)), .inl (cs.1, 10, .inl (fun _ => 0))] H := hR
  refine lv_aload_n hC.1 hC.2.1 dX10_init_85 rfl (lv_at hl 0 rfl) ?_
  refine lv_bipush (v := 25) hC.1 hC.2.1 dX10_init_86 (by decide) ?_
  refine r_newa hC hR hS aw_int 25 (by decide) (by decide) (Nat.le_of_ble_eq_true rfl) (Nat.le_of_ble_eq_true rfl) (Nat.le_of_ble_eq_true rfl) (a := b + 110) rfl dX10_init_88 (fun H hR hS => ?_)
  have hR : Wr D (b + 99) [.inr (10, [.int 0, .long 0, .ref (b + 100), .int 0, .int 0, .int 0, .int 0, .int 0, .int 0, .int 0, .ref (b + 101), .ref (b + 102), .ref (b + 103), .ref (b + 104), .ref (b + 105), .ref (b + 106), .ref (b + 107), .ref (b + 108), .ref (b + 109), .null, .null, .null, .null, .int 0, .null, .null, .int 0]), .inl (cs.1, 150, .inl (fun _ => 0)), .inl (cs.1, 8, .inl (fun _ => 0)), .inl (cs.1, 16, .inl (fun _ => 0)), .inl (cs.1, 16, .inl (fun _ => 0)), .inl (cs.1, 16, .inl (fun _ => 0)), .inl (cs.1, 10, .inl (fun _ => 0)), .inl (cs.1, 10, .inl (fun _ => 0)), .inl (cs.1, 10, .inl (fun _ => 0)), .inl (cs.1, 10, .inl (fun _ => 0)), .inl (cs.1, 10, .inl (fun _ => 0)), .inl (cs.1, 25, .inl (fun _ => 0))] H := hR
  refine r_putF (pre := []) (post := [.inl (cs.1, 150, .inl (fun _ => 0)), .inl (cs.1, 8, .inl (fun _ => 0)), .inl (cs.1, 16, .inl (fun _ => 0)), .inl (cs.1, 16, .inl (fun _ => 0)), .inl (cs.1, 16, .inl (fun _ => 0)), .inl (cs.1, 10, .inl (fun _ => 0)), .inl (cs.1, 10, .inl (fun _ => 0)), .inl (cs.1, 10, .inl (fun _ => 0)), .inl (cs.1, 10, .inl (fun _ => 0)), .inl (cs.1, 10, .inl (fun _ => 0)), .inl (cs.1, 25, .inl (fun _ => 0))]) (C := RX10) (T := TX10) (N := 27) (ty := .array .int) (v := .ref (b + 110)) hC hin2 hR hS rfl uX10 tyX10 tyX10_ok nmX10 19 (by decide) fl_X10_40 rfl rfl (by decide +kernel) rfl rfl (Nat.le_of_ble_eq_true rfl) rfl dX10_init_90 (fun H locs hR hS => ?_)
  have hR : Wr D (b + 99) [.inr (10, [.int 0, .long 0, .ref (b + 100), .int 0, .int 0, .int 0, .int 0, .int 0, .int 0, .int 0, .ref (b + 101), .ref (b + 102), .ref (b + 103), .ref (b + 104), .ref (b + 105), .ref (b + 106), .ref (b + 107), .ref (b + 108), .ref (b + 109), .ref (b + 110), .null, .null, .null, .int 0, .null, .null, .int 0]), .inl (cs.1, 150, .inl (fun _ => 0)), .inl (cs.1, 8, .inl (fun _ => 0)), .inl (cs.1, 16, .inl (fun _ => 0)), .inl (cs.1, 16, .inl (fun _ => 0)), .inl (cs.1, 16, .inl (fun _ => 0)), .inl (cs.1, 10, .inl (fun _ => 0)), .inl (cs.1, 10, .inl (fun _ => 0)), .inl (cs.1, 10, .inl (fun _ => 0)), .inl (cs.1, 10, .inl (fun _ => 0)), .inl (cs.1, 10, .inl (fun _ => 0)), .inl (cs.1, 25, .inl (fun _ => 0))] H := hR
  refine lv_aload_n hC.1 hC.2.1 dX10_init_93 rfl (lv_at hl 0 rfl) ?_
  refine lv_bipush (v := 50) hC.1 hC.2.1 dX10_init_94 (by decide) ?_
  refine r_newa hC hR hS aw_int 50 (by decide) (by decide) (Nat.le_of_ble_eq_true rfl) (Nat.le_of_ble_eq_true rfl) (Nat.le_of_ble_eq_true rfl) (a := b + 111) rfl dX10_init_96 (fun H hR hS => ?_)
  have hR : Wr D (b + 99) [.inr (10, [.int 0, .long 0, .ref (b + 100), .int 0, .int 0, .int 0, .int 0, .int 0, .int 0, .int 0, .ref (b + 101), .ref (b + 102), .ref (b + 103), .ref (b + 104), .ref (b + 105), .ref (b + 106), .ref (b + 107), .ref (b + 108), .ref (b + 109), .ref (b + 110), .null, .null, .null, .int 0, .null, .null, .int 0]), .inl (cs.1, 150, .inl (fun _ => 0)), .inl (cs.1, 8, .inl (fun _ => 0)), .inl (cs.1, 16, .inl (fun _ => 0)), .inl (cs.1, 16, .inl (fun _ => 0)), .inl (cs.1, 16, .inl (fun _ => 0)), .inl (cs.1, 10, .inl (fun _ => 0)), .inl (cs.1, 10, .inl (fun _ => 0)), .inl (cs.1, 10, .inl (fun _ => 0)), .inl (cs.1, 10, .inl (fun _ => 0)), .inl (cs.1, 10, .inl (fun _ => 0)), .inl (cs.1, 25, .inl (fun _ => 0)), .inl (cs.1, 50, .inl (fun _ => 0))] H := hR
  refine r_putF (pre := []) (post := [.inl (cs.1, 150, .inl (fun _ => 0)), .inl (cs.1, 8, .inl (fun _ => 0)), .inl (cs.1, 16, .inl (fun _ => 0)), .inl (cs.1, 16, .inl (fun _ => 0)), .inl (cs.1, 16, .inl (fun _ => 0)), .inl (cs.1, 10, .inl (fun _ => 0)), .inl (cs.1, 10, .inl (fun _ => 0)), .inl (cs.1, 10, .inl (fun _ => 0)), .inl (cs.1, 10, .inl (fun _ => 0)), .inl (cs.1, 10, .inl (fun _ => 0)), .inl (cs.1, 25, .inl (fun _ => 0)), .inl (cs.1, 50, .inl (fun _ => 0))]) (C := RX10) (T := TX10) (N := 27) (ty := .array .int) (v := .ref (b + 111)) hC hin2 hR hS rfl uX10 tyX10 tyX10_ok nmX10 20 (by decide) fl_X10_43 rfl rfl (by decide +kernel) rfl rfl (Nat.le_of_ble_eq_true rfl) rfl dX10_init_98 (fun H locs hR hS => ?_)
  have hR : Wr D (b + 99) [.inr (10, [.int 0, .long 0, .ref (b + 100), .int 0, .int 0, .int 0, .int 0, .int 0, .int 0, .int 0, .ref (b + 101), .ref (b + 102), .ref (b + 103), .ref (b + 104), .ref (b + 105), .ref (b + 106), .ref (b + 107), .ref (b + 108), .ref (b + 109), .ref (b + 110), .ref (b + 111), .null, .null, .int 0, .null, .null, .int 0]), .inl (cs.1, 150, .inl (fun _ => 0)), .inl (cs.1, 8, .inl (fun _ => 0)), .inl (cs.1, 16, .inl (fun _ => 0)), .inl (cs.1, 16, .inl (fun _ => 0)), .inl (cs.1, 16, .inl (fun _ => 0)), .inl (cs.1, 10, .inl (fun _ => 0)), .inl (cs.1, 10, .inl (fun _ => 0)), .inl (cs.1, 10, .inl (fun _ => 0)), .inl (cs.1, 10, .inl (fun _ => 0)), .inl (cs.1, 10, .inl (fun _ => 0)), .inl (cs.1, 25, .inl (fun _ => 0)), .inl (cs.1, 50, .inl (fun _ => 0))] H := hR
  refine lv_aload_n hC.1 hC.2.1 dX10_init_101 rfl (lv_at hl 0 rfl) ?_
  refine lv_iconst (v := 2) hC.1 hC.2.1 dX10_init_102 (by decide) ?_
  refine r_newz hC hR hS aw_boolean 2 (by decide) (by decide) (Nat.le_of_ble_eq_true rfl) (Nat.le_of_ble_eq_true rfl) (Nat.le_of_ble_eq_true rfl) (a := b + 112) rfl dX10_init_103 (fun H hR hS => ?_)
  have hR : Wr D (b + 99) [.inr (10, [.int 0, .long 0, .ref (b + 100), .int 0, .int 0, .int 0, .int 0, .int 0, .int 0, .int 0, .ref (b + 101), .ref (b + 102), .ref (b + 103), .ref (b + 104), .ref (b + 105), .ref (b + 106), .ref (b + 107), .ref (b + 108), .ref (b + 109), .ref (b + 110), .ref (b + 111), .null, .null, .int 0, .null, .null, .int 0]), .inl (cs.1, 150, .inl (fun _ => 0)), .inl (cs.1, 8, .inl (fun _ => 0)), .inl (cs.1, 16, .inl (fun _ => 0)), .inl (cs.1, 16, .inl (fun _ => 0)), .inl (cs.1, 16, .inl (fun _ => 0)), .inl (cs.1, 10, .inl (fun _ => 0)), .inl (cs.1, 10, .inl (fun _ => 0)), .inl (cs.1, 10, .inl (fun _ => 0)), .inl (cs.1, 10, .inl (fun _ => 0)), .inl (cs.1, 10, .inl (fun _ => 0)), .inl (cs.1, 25, .inl (fun _ => 0)), .inl (cs.1, 50, .inl (fun _ => 0)), .inl (cs.2.1, 2, .inl (fun _ => 0))] H := hR
  refine r_putF (pre := []) (post := [.inl (cs.1, 150, .inl (fun _ => 0)), .inl (cs.1, 8, .inl (fun _ => 0)), .inl (cs.1, 16, .inl (fun _ => 0)), .inl (cs.1, 16, .inl (fun _ => 0)), .inl (cs.1, 16, .inl (fun _ => 0)), .inl (cs.1, 10, .inl (fun _ => 0)), .inl (cs.1, 10, .inl (fun _ => 0)), .inl (cs.1, 10, .inl (fun _ => 0)), .inl (cs.1, 10, .inl (fun _ => 0)), .inl (cs.1, 10, .inl (fun _ => 0)), .inl (cs.1, 25, .inl (fun _ => 0)), .inl (cs.1, 50, .inl (fun _ => 0)), .inl (cs.2.1, 2, .inl (fun _ => 0))]) (C := RX10) (T := TX10) (N := 27) (ty := .array .boolean) (v := .ref (b + 112)) hC hin2 hR hS rfl uX10 tyX10 tyX10_ok nmX10 21 (by decide) fl_X10_46 rfl rfl (by decide +kernel) rfl rfl (Nat.le_of_ble_eq_true rfl) rfl dX10_init_105 (fun H locs hR hS => ?_)
  have hR : Wr D (b + 99) [.inr (10, [.int 0, .long 0, .ref (b + 100), .int 0, .int 0, .int 0, .int 0, .int 0, .int 0, .int 0, .ref (b + 101), .ref (b + 102), .ref (b + 103), .ref (b + 104), .ref (b + 105), .ref (b + 106), .ref (b + 107), .ref (b + 108), .ref (b + 109), .ref (b + 110), .ref (b + 111), .ref (b + 112), .null, .int 0, .null, .null, .int 0]), .inl (cs.1, 150, .inl (fun _ => 0)), .inl (cs.1, 8, .inl (fun _ => 0)), .inl (cs.1, 16, .inl (fun _ => 0)), .inl (cs.1, 16, .inl (fun _ => 0)), .inl (cs.1, 16, .inl (fun _ => 0)), .inl (cs.1, 10, .inl (fun _ => 0)), .inl (cs.1, 10, .inl (fun _ => 0)), .inl (cs.1, 10, .inl (fun _ => 0)), .inl (cs.1, 10, .inl (fun _ => 0)), .inl (cs.1, 10, .inl (fun _ => 0)), .inl (cs.1, 25, .inl (fun _ => 0)), .inl (cs.1, 50, .inl (fun _ => 0)), .inl (cs.2.1, 2, .inl (fun _ => 0))] H := hR
  refine lv_aload_n hC.1 hC.2.1 dX10_init_108 rfl (lv_at hl 0 rfl) ?_
  refine lv_sipush (v := 250) hC.1 hC.2.1 dX10_init_109 (by decide) ?_
  refine r_newa hC hR hS aw_int 250 (by decide) (by decide) (Nat.le_of_ble_eq_true rfl) (Nat.le_of_ble_eq_true rfl) (Nat.le_of_ble_eq_true rfl) (a := b + 113) rfl dX10_init_112 (fun H hR hS => ?_)
  have hR : Wr D (b + 99) [.inr (10, [.int 0, .long 0, .ref (b + 100), .int 0, .int 0, .int 0, .int 0, .int 0, .int 0, .int 0, .ref (b + 101), .ref (b + 102), .ref (b + 103), .ref (b + 104), .ref (b + 105), .ref (b + 106), .ref (b + 107), .ref (b + 108), .ref (b + 109), .ref (b + 110), .ref (b + 111), .ref (b + 112), .null, .int 0, .null, .null, .int 0]), .inl (cs.1, 150, .inl (fun _ => 0)), .inl (cs.1, 8, .inl (fun _ => 0)), .inl (cs.1, 16, .inl (fun _ => 0)), .inl (cs.1, 16, .inl (fun _ => 0)), .inl (cs.1, 16, .inl (fun _ => 0)), .inl (cs.1, 10, .inl (fun _ => 0)), .inl (cs.1, 10, .inl (fun _ => 0)), .inl (cs.1, 10, .inl (fun _ => 0)), .inl (cs.1, 10, .inl (fun _ => 0)), .inl (cs.1, 10, .inl (fun _ => 0)), .inl (cs.1, 25, .inl (fun _ => 0)), .inl (cs.1, 50, .inl (fun _ => 0)), .inl (cs.2.1, 2, .inl (fun _ => 0)), .inl (cs.1, 250, .inl (fun _ => 0))] H := hR
  refine r_putF (pre := []) (post := [.inl (cs.1, 150, .inl (fun _ => 0)), .inl (cs.1, 8, .inl (fun _ => 0)), .inl (cs.1, 16, .inl (fun _ => 0)), .inl (cs.1, 16, .inl (fun _ => 0)), .inl (cs.1, 16, .inl (fun _ => 0)), .inl (cs.1, 10, .inl (fun _ => 0)), .inl (cs.1, 10, .inl (fun _ => 0)), .inl (cs.1, 10, .inl (fun _ => 0)), .inl (cs.1, 10, .inl (fun _ => 0)), .inl (cs.1, 10, .inl (fun _ => 0)), .inl (cs.1, 25, .inl (fun _ => 0)), .inl (cs.1, 50, .inl (fun _ => 0)), .inl (cs.2.1, 2, .inl (fun _ => 0)), .inl (cs.1, 250, .inl (fun _ => 0))]) (C := RX10) (T := TX10) (N := 27) (ty := .array .int) (v := .ref (b + 113)) hC hin2 hR hS rfl uX10 tyX10 tyX10_ok nmX10 22 (by decide) fl_X10_50 rfl rfl (by decide +kernel) rfl rfl (Nat.le_of_ble_eq_true rfl) rfl dX10_init_114 (fun H locs hR hS => ?_)
  have hR : Wr D (b + 99) [.inr (10, [.int 0, .long 0, .ref (b + 100), .int 0, .int 0, .int 0, .int 0, .int 0, .int 0, .int 0, .ref (b + 101), .ref (b + 102), .ref (b + 103), .ref (b + 104), .ref (b + 105), .ref (b + 106), .ref (b + 107), .ref (b + 108), .ref (b + 109), .ref (b + 110), .ref (b + 111), .ref (b + 112), .ref (b + 113), .int 0, .null, .null, .int 0]), .inl (cs.1, 150, .inl (fun _ => 0)), .inl (cs.1, 8, .inl (fun _ => 0)), .inl (cs.1, 16, .inl (fun _ => 0)), .inl (cs.1, 16, .inl (fun _ => 0)), .inl (cs.1, 16, .inl (fun _ => 0)), .inl (cs.1, 10, .inl (fun _ => 0)), .inl (cs.1, 10, .inl (fun _ => 0)), .inl (cs.1, 10, .inl (fun _ => 0)), .inl (cs.1, 10, .inl (fun _ => 0)), .inl (cs.1, 10, .inl (fun _ => 0)), .inl (cs.1, 25, .inl (fun _ => 0)), .inl (cs.1, 50, .inl (fun _ => 0)), .inl (cs.2.1, 2, .inl (fun _ => 0)), .inl (cs.1, 250, .inl (fun _ => 0))] H := hR
  refine lv_aload_n hC.1 hC.2.1 dX10_init_117 rfl (lv_at hl 0 rfl) ?_
  refine lv_bipush (v := 6) hC.1 hC.2.1 dX10_init_118 (by decide) ?_
  refine r_newa hC hR hS aw_int 6 (by decide) (by decide) (Nat.le_of_ble_eq_true rfl) (Nat.le_of_ble_eq_true rfl) (Nat.le_of_ble_eq_true rfl) (a := b + 114) rfl dX10_init_120 (fun H hR hS => ?_)
  have hR : Wr D (b + 99) [.inr (10, [.int 0, .long 0, .ref (b + 100), .int 0, .int 0, .int 0, .int 0, .int 0, .int 0, .int 0, .ref (b + 101), .ref (b + 102), .ref (b + 103), .ref (b + 104), .ref (b + 105), .ref (b + 106), .ref (b + 107), .ref (b + 108), .ref (b + 109), .ref (b + 110), .ref (b + 111), .ref (b + 112), .ref (b + 113), .int 0, .null, .null, .int 0]), .inl (cs.1, 150, .inl (fun _ => 0)), .inl (cs.1, 8, .inl (fun _ => 0)), .inl (cs.1, 16, .inl (fun _ => 0)), .inl (cs.1, 16, .inl (fun _ => 0)), .inl (cs.1, 16, .inl (fun _ => 0)), .inl (cs.1, 10, .inl (fun _ => 0)), .inl (cs.1, 10, .inl (fun _ => 0)), .inl (cs.1, 10, .inl (fun _ => 0)), .inl (cs.1, 10, .inl (fun _ => 0)), .inl (cs.1, 10, .inl (fun _ => 0)), .inl (cs.1, 25, .inl (fun _ => 0)), .inl (cs.1, 50, .inl (fun _ => 0)), .inl (cs.2.1, 2, .inl (fun _ => 0)), .inl (cs.1, 250, .inl (fun _ => 0)), .inl (cs.1, 6, .inl (fun _ => 0))] H := hR
  refine r_putF (pre := []) (post := [.inl (cs.1, 150, .inl (fun _ => 0)), .inl (cs.1, 8, .inl (fun _ => 0)), .inl (cs.1, 16, .inl (fun _ => 0)), .inl (cs.1, 16, .inl (fun _ => 0)), .inl (cs.1, 16, .inl (fun _ => 0)), .inl (cs.1, 10, .inl (fun _ => 0)), .inl (cs.1, 10, .inl (fun _ => 0)), .inl (cs.1, 10, .inl (fun _ => 0)), .inl (cs.1, 10, .inl (fun _ => 0)), .inl (cs.1, 10, .inl (fun _ => 0)), .inl (cs.1, 25, .inl (fun _ => 0)), .inl (cs.1, 50, .inl (fun _ => 0)), .inl (cs.2.1, 2, .inl (fun _ => 0)), .inl (cs.1, 250, .inl (fun _ => 0)), .inl (cs.1, 6, .inl (fun _ => 0))]) (C := RX10) (T := TX10) (N := 27) (ty := .array .int) (v := .ref (b + 114)) hC hin2 hR hS rfl uX10 tyX10 tyX10_ok nmX10 24 (by decide) fl_X10_53 rfl rfl (by decide +kernel) rfl rfl (Nat.le_of_ble_eq_true rfl) rfl dX10_init_122 (fun H locs hR hS => ?_)
  have hR : Wr D (b + 99) [.inr (10, [.int 0, .long 0, .ref (b + 100), .int 0, .int 0, .int 0, .int 0, .int 0, .int 0, .int 0, .ref (b + 101), .ref (b + 102), .ref (b + 103), .ref (b + 104), .ref (b + 105), .ref (b + 106), .ref (b + 107), .ref (b + 108), .ref (b + 109), .ref (b + 110), .ref (b + 111), .ref (b + 112), .ref (b + 113), .int 0, .ref (b + 114), .null, .int 0]), .inl (cs.1, 150, .inl (fun _ => 0)), .inl (cs.1, 8, .inl (fun _ => 0)), .inl (cs.1, 16, .inl (fun _ => 0)), .inl (cs.1, 16, .inl (fun _ => 0)), .inl (cs.1, 16, .inl (fun _ => 0)), .inl (cs.1, 10, .inl (fun _ => 0)), .inl (cs.1, 10, .inl (fun _ => 0)), .inl (cs.1, 10, .inl (fun _ => 0)), .inl (cs.1, 10, .inl (fun _ => 0)), .inl (cs.1, 10, .inl (fun _ => 0)), .inl (cs.1, 25, .inl (fun _ => 0)), .inl (cs.1, 50, .inl (fun _ => 0)), .inl (cs.2.1, 2, .inl (fun _ => 0)), .inl (cs.1, 250, .inl (fun _ => 0)), .inl (cs.1, 6, .inl (fun _ => 0))] H := hR
  refine lv_aload_n hC.1 hC.2.1 dX10_init_125 rfl (lv_at hl 0 rfl) ?_
  refine lv_bipush (v := 6) hC.1 hC.2.1 dX10_init_126 (by decide) ?_
  refine r_newa hC hR hS aw_int 6 (by decide) (by decide) (Nat.le_of_ble_eq_true rfl) (Nat.le_of_ble_eq_true rfl) (Nat.le_of_ble_eq_true rfl) (a := b + 115) rfl dX10_init_128 (fun H hR hS => ?_)
  have hR : Wr D (b + 99) [.inr (10, [.int 0, .long 0, .ref (b + 100), .int 0, .int 0, .int 0, .int 0, .int 0, .int 0, .int 0, .ref (b + 101), .ref (b + 102), .ref (b + 103), .ref (b + 104), .ref (b + 105), .ref (b + 106), .ref (b + 107), .ref (b + 108), .ref (b + 109), .ref (b + 110), .ref (b + 111), .ref (b + 112), .ref (b + 113), .int 0, .ref (b + 114), .null, .int 0]), .inl (cs.1, 150, .inl (fun _ => 0)), .inl (cs.1, 8, .inl (fun _ => 0)), .inl (cs.1, 16, .inl (fun _ => 0)), .inl (cs.1, 16, .inl (fun _ => 0)), .inl (cs.1, 16, .inl (fun _ => 0)), .inl (cs.1, 10, .inl (fun _ => 0)), .inl (cs.1, 10, .inl (fun _ => 0)), .inl (cs.1, 10, .inl (fun _ => 0)), .inl (cs.1, 10, .inl (fun _ => 0)), .inl (cs.1, 10, .inl (fun _ => 0)), .inl (cs.1, 25, .inl (fun _ => 0)), .inl (cs.1, 50, .inl (fun _ => 0)), .inl (cs.2.1, 2, .inl (fun _ => 0)), .inl (cs.1, 250, .inl (fun _ => 0)), .inl (cs.1, 6, .inl (fun _ => 0)), .inl (cs.1, 6, .inl (fun _ => 0))] H := hR
  refine r_putF (pre := []) (post := [.inl (cs.1, 150, .inl (fun _ => 0)), .inl (cs.1, 8, .inl (fun _ => 0)), .inl (cs.1, 16, .inl (fun _ => 0)), .inl (cs.1, 16, .inl (fun _ => 0)), .inl (cs.1, 16, .inl (fun _ => 0)), .inl (cs.1, 10, .inl (fun _ => 0)), .inl (cs.1, 10, .inl (fun _ => 0)), .inl (cs.1, 10, .inl (fun _ => 0)), .inl (cs.1, 10, .inl (fun _ => 0)), .inl (cs.1, 10, .inl (fun _ => 0)), .inl (cs.1, 25, .inl (fun _ => 0)), .inl (cs.1, 50, .inl (fun _ => 0)), .inl (cs.2.1, 2, .inl (fun _ => 0)), .inl (cs.1, 250, .inl (fun _ => 0)), .inl (cs.1, 6, .inl (fun _ => 0)), .inl (cs.1, 6, .inl (fun _ => 0))]) (C := RX10) (T := TX10) (N := 27) (ty := .array .int) (v := .ref (b + 115)) hC hin2 hR hS rfl uX10 tyX10 tyX10_ok nmX10 25 (by decide) fl_X10_56 rfl rfl (by decide +kernel) rfl rfl (Nat.le_of_ble_eq_true rfl) rfl dX10_init_130 (fun H locs hR hS => ?_)
  have hR : Wr D (b + 99) [.inr (10, [.int 0, .long 0, .ref (b + 100), .int 0, .int 0, .int 0, .int 0, .int 0, .int 0, .int 0, .ref (b + 101), .ref (b + 102), .ref (b + 103), .ref (b + 104), .ref (b + 105), .ref (b + 106), .ref (b + 107), .ref (b + 108), .ref (b + 109), .ref (b + 110), .ref (b + 111), .ref (b + 112), .ref (b + 113), .int 0, .ref (b + 114), .ref (b + 115), .int 0]), .inl (cs.1, 150, .inl (fun _ => 0)), .inl (cs.1, 8, .inl (fun _ => 0)), .inl (cs.1, 16, .inl (fun _ => 0)), .inl (cs.1, 16, .inl (fun _ => 0)), .inl (cs.1, 16, .inl (fun _ => 0)), .inl (cs.1, 10, .inl (fun _ => 0)), .inl (cs.1, 10, .inl (fun _ => 0)), .inl (cs.1, 10, .inl (fun _ => 0)), .inl (cs.1, 10, .inl (fun _ => 0)), .inl (cs.1, 10, .inl (fun _ => 0)), .inl (cs.1, 25, .inl (fun _ => 0)), .inl (cs.1, 50, .inl (fun _ => 0)), .inl (cs.2.1, 2, .inl (fun _ => 0)), .inl (cs.1, 250, .inl (fun _ => 0)), .inl (cs.1, 6, .inl (fun _ => 0)), .inl (cs.1, 6, .inl (fun _ => 0))] H := hR
  have h99 : ∀ k, k < 99 → va_at D vwCl (b + k, cellOf b cs S0 k) H := fun k hk => (hpre k hk).kept (hS.2.1 _ (by rw [hsz]; show b + k < b + 99 + 1; omega) (by show ¬ b + 99 ≤ b + k; omega))
  have hW : Wd D b cs S0 H := wd_all h99 hR
  have hS : va_S (AA b) s.heap H locs := ⟨hS.1, fun q h1 h2 => hS.2.1 q h1 (fun h => h2 (Nat.le_trans (Nat.le_add_right _ _) h)), fun q hq => Nat.le_trans (Nat.le_add_right _ _) (hS.2.2 q hq)⟩
  refine lv_aload_n hC.1 hC.2.1 dX10_init_133 rfl (lv_at hl 0 rfl) ?_
  refine x_callV (T := TX10) (N := 27) (S := S0) (S1 := Sa) (As := []) (rest := []) hC hW hS 99 (c_X10_begins l D b cs S0 Sa hb1) (by decide) rfl rfl mi_X10_begins in_X10_begins sl_X10_begins ml_X10_59 ⟨rfl, rfl⟩ ⟨Nat.le_of_ble_eq_true rfl, Nat.le_of_ble_eq_true rfl⟩ ⟨Nat.le_of_ble_eq_true rfl, Nat.le_of_ble_eq_true rfl⟩ rfl rfl hl.1 (Nat.le_of_ble_eq_true rfl) dX10_init_134 (fun H locs hW hS => ?_)
  refine lv_aload_n hC.1 hC.2.1 dX10_init_137 rfl (lv_at hl 0 rfl) ?_
  refine x_callV (T := TX10) (N := 27) (S := Sa) (S1 := Sb) (As := []) (rest := []) hC hW hS 99 (c_X10_settles l D b cs Sa Sb hb2) (by decide) rfl rfl mi_X10_settles in_X10_settles sl_X10_settles ml_X10_62 ⟨rfl, rfl⟩ ⟨Nat.le_of_ble_eq_true rfl, Nat.le_of_ble_eq_true rfl⟩ ⟨Nat.le_of_ble_eq_true rfl, Nat.le_of_ble_eq_true rfl⟩ rfl rfl hl.1 (Nat.le_of_ble_eq_true rfl) dX10_init_138 (fun H locs hW hS => ?_)
  refine W.widen (k := 16) (n := 595) (Nat.le_of_ble_eq_true rfl) (Nat.le_of_ble_eq_true rfl) ?_
  exact x_vret hC hr hW hS dX10_init_141
