-- THE PURE FUNCTIONS, printed by wip/whole/gen.py
theorem xr {α β : Type} {a c : α} {b d : β} (h : some (a, b) = some (c, d)) : a = c ∧ b = d := by cases h; exact ⟨rfl, rfl⟩
def FU : Nat := 100000
abbrev vin (i : Int32) (n : Nat) : Prop := ¬ (i < 0 ∨ n ≤ i.toNatClampNeg)
def q_X0_commonDivisor_7 : Nat → Int32 → Int32 → Int32 → St → Option (Int32 × St)
  | 0, _, _, _, _ => none
  | n + 1, x2, x3, x4, S => (if (64 : Int32) ≤ x4 then some (x2, S) else (if x3 = 0 then some (x2, S) else if ¬ x3 = 0 then q_X0_commonDivisor_7 n x3 (x2 - x2 / x3 * x3) (x4 + 1) S else none))
def p_X0_commonDivisor (x0 : Int32) (x1 : Int32) (S : St) : Option (Int32 × St) :=
  q_X0_commonDivisor_7 FU x0 x1 (0 : Int32) S
def q_X0_weighNumbers_38 (ag30 : Int32 → Int32 → Int32 → St → Option (St)) : Nat → Int32 → Int32 → Int32 → Int32 → St → Option (St)
  | 0, _, _, _, _, _ => none
  | n + 1, x1, x2, x3, x4, S => (if x4 ≤ 0 then if vin (0 : Int32) 6 then if vin (0 : Int32) 6 then ag30 x1 x2 (x3 + 1) (sI S 94 (0 : Int32).toNatClampNeg ((S.1 94 (0 : Int32).toNatClampNeg) * ((10 : Int32) - x2))) else none else none else if vin x4 6 then if vin (x4 - (1 : Int32)) 6 then if vin x4 6 then q_X0_weighNumbers_38 ag30 n x1 x2 x3 (x4 + (-1)) (sI S 94 x4.toNatClampNeg (((S.1 94 x4.toNatClampNeg) * ((10 : Int32) - x2)) + ((S.1 94 (x4 - (1 : Int32)).toNatClampNeg) * x2))) else none else none else none)
def q_X0_weighNumbers_30 : Nat → Int32 → Int32 → Int32 → St → Option (St)
  | 0, _, _, _, _ => none
  | n + 1, x1, x2, x3, S => (if x1 ≤ x3 then some S else q_X0_weighNumbers_38 (q_X0_weighNumbers_30 n) FU x1 x2 x3 x1 S)
def q_X0_weighNumbers_2 : Nat → Int32 → Int32 → Int32 → St → Option (St)
  | 0, _, _, _, _ => none
  | n + 1, x1, x2, x3, S => (if (5 : Int32) < x3 then q_X0_weighNumbers_30 FU x1 x2 (0 : Int32) S else (if x3 = 0 then if vin x3 6 then q_X0_weighNumbers_2 n x1 x2 (x3 + 1) (sI S 94 x3.toNatClampNeg (1 : Int32)) else none else if vin x3 6 then q_X0_weighNumbers_2 n x1 x2 (x3 + 1) (sI S 94 x3.toNatClampNeg (0 : Int32)) else none))
def p_X0_weighNumbers (x1 : Int32) (x2 : Int32) (S : St) : Option (St) :=
  q_X0_weighNumbers_2 FU x1 x2 (0 : Int32) S
def q_X0_reckon_56 : Nat → Int32 → Int32 → St → Option (St)
  | 0, _, _, _ => none
  | n + 1, x1, x4, S => (if x1 ≤ x4 then (p_X0_commonDivisor (S.1 93 2) (S.1 93 1) S).bind (fun (q87 : Int32 × St) => (if q87.1 ≤ (1 : Int32) then some q87.2 else if ¬ q87.1 = 0 then if ¬ q87.1 = 0 then some (sI (sI q87.2 93 1 ((q87.2.1 93 1) / q87.1)) 93 2 (((sI q87.2 93 1 ((q87.2.1 93 1) / q87.1)).1 93 2) / q87.1)) else none else none)) else q_X0_reckon_56 n x1 (x4 + 1) (sI S 93 2 ((S.1 93 2) * (10 : Int32))))
def q_X0_reckon_19 : Nat → Int32 → Int32 → Int32 → St → Option (St)
  | 0, _, _, _, _ => none
  | n + 1, x1, x3, x4, S => (if x1 < x4 then q_X0_reckon_56 FU x1 (0 : Int32) S else (if x3 < x4 then q_X0_reckon_19 n x1 x3 (x4 + 1) S else if vin x4 6 then q_X0_reckon_19 n x1 x3 (x4 + 1) (sI S 93 1 ((S.1 93 1) + (S.1 94 x4.toNatClampNeg))) else none))
def p_X0_reckon (x1 : Int32) (x2 : Int32) (x3 : Int32) (S : St) : Option (St) :=
  (p_X0_weighNumbers x1 x2 S).bind (fun (q3 : St) => q_X0_reckon_19 FU x1 x3 (0 : Int32) (sI (sI q3 93 1 (0 : Int32)) 93 2 (1 : Int32)))
def p_X1_isBroken (x1 : Int32) (x2 : Int32) (S : St) : Option (Int32 × St) :=
  if vin x1 5 then if vin x1 5 then (if ((S.1 23 x1.toNatClampNeg) + x2) < (S.1 10 x1.toNatClampNeg) then some ((0 : Int32), S) else some ((1 : Int32), S)) else none else none
def q_X1_unbroken_4 : Nat → Int32 → Int32 → St → Option (Int32 × St)
  | 0, _, _, _ => none
  | n + 1, x1, x2, S => (if (S.1 3 2) ≤ x2 then some (x1, S) else (p_X1_isBroken x2 (0 : Int32) S).bind (fun (q18 : Int32 × St) => (if q18.1 = 0 then q_X1_unbroken_4 n (x1 + 1) (x2 + 1) q18.2 else q_X1_unbroken_4 n x1 (x2 + 1) q18.2)))
def p_X1_unbroken (S : St) : Option (Int32 × St) :=
  q_X1_unbroken_4 FU (0 : Int32) (0 : Int32) S
def p_X1_lowest (x1 : Int32) (x2 : Int32) (S : St) : Option (Int32 × St) :=
  if vin x1 5 then (p_X1_isBroken x1 x2 S).bind (fun (q12 : Int32 × St) => (if q12.1 = 0 then some ((S.1 7 x1.toNatClampNeg) - (0 : Int32), q12.2) else some ((S.1 7 x1.toNatClampNeg) - (12 : Int32), q12.2))) else none
def q_X1_highest_17 (x1 : Int32) (x2 : Int32) (y0 : Int32) (S : St) : Option (Int32 × St) :=
  if vin x1 5 then (p_X1_isBroken x1 x2 S).bind (fun (q30 : Int32 × St) => (if q30.1 = 0 then some (((S.1 8 x1.toNatClampNeg) - (0 : Int32)) - y0, q30.2) else some (((S.1 8 x1.toNatClampNeg) - (12 : Int32)) - y0, q30.2))) else none
def p_X1_highest (x1 : Int32) (x2 : Int32) (S : St) : Option (Int32 × St) :=
  (if x2 = 0 then if vin x1 5 then q_X1_highest_17 x1 x2 (S.1 24 x1.toNatClampNeg) S else none else q_X1_highest_17 x1 x2 (0 : Int32) S)
def p_X9_within (x0 : Int32) (x1 : Int32) (x2 : Int32) (S : St) : Option (Int32 × St) :=
  (if x0 < x1 then some ((0 : Int32), S) else (if x2 < x0 then some ((0 : Int32), S) else some ((1 : Int32), S)))
def p_X1_sings (x1 : Int32) (x2 : Int32) (S : St) : Option (Int32 × St) :=
  (p_X1_lowest x1 (0 : Int32) S).bind (fun (q4 : Int32 × St) => (p_X1_highest x1 (0 : Int32) q4.2).bind (fun (q10 : Int32 × St) => (p_X9_within x2 q4.1 q10.1 q10.2).bind (fun (q13 : Int32 × St) => if q13.1 = 0 ∨ q13.1 = 1 then some (q13.1, q13.2) else none)))
def q_X1_keys_27 : Nat → Int32 → Int32 → Int32 → Int32 → St → Option (Int32 × St)
  | 0, _, _, _, _, _ => none
  | n + 1, x3, x4, x5, x6, S => (if (S.1 3 1) ≤ x6 then some (x5, S) else if vin x6 8 then (p_X9_within (S.1 25 x6.toNatClampNeg) x3 x4 S).bind (fun (q52 : Int32 × St) => (if q52.1 = 0 then q_X1_keys_27 n x3 x4 x5 (x6 + 1) q52.2 else q_X1_keys_27 n x3 x4 (x5 ||| ((1 : Int32) <<< (x6 &&& 31))) (x6 + 1) q52.2)) else none)
def p_X1_keys (x1 : Int32) (x2 : Int32) (S : St) : Option (Int32 × St) :=
  (p_X1_lowest x1 x2 S).bind (fun (q3 : Int32 × St) => (p_X1_highest x1 x2 q3.2).bind (fun (q10 : Int32 × St) => q_X1_keys_27 FU q3.1 q10.1 (q10.2.1 21 4) (0 : Int32) q10.2))
def p_X1_opens (x1 : Int32) (x2 : Int32) (S : St) : Option (Int32 × St) :=
  (if (((S.1 21 4) >>> (x2 &&& 31)) &&& (1 : Int32)) = (1 : Int32) then some ((1 : Int32), S) else if vin x2 8 then (p_X1_sings x1 (S.1 25 x2.toNatClampNeg) S).bind (fun (q26 : Int32 × St) => (if q26.1 = 0 then some ((0 : Int32), q26.2) else some ((1 : Int32), q26.2))) else none)
def q_X1_openers_4 : Nat → Int32 → Int32 → Int32 → St → Option (Int32 × St)
  | 0, _, _, _, _ => none
  | n + 1, x1, x2, x3, S => (if (S.1 3 2) ≤ x3 then some (x2, S) else (p_X1_opens x3 x1 S).bind (fun (q18 : Int32 × St) => (if q18.1 = 0 then q_X1_openers_4 n x1 x2 (x3 + 1) q18.2 else q_X1_openers_4 n x1 (x2 ||| ((1 : Int32) <<< (x3 &&& 31))) (x3 + 1) q18.2)))
def p_X1_openers (x1 : Int32) (S : St) : Option (Int32 × St) :=
  q_X1_openers_4 FU x1 (0 : Int32) (0 : Int32) S
def q_X1_atHome_4 : Nat → Int32 → Int32 → St → Option (Int32 × St)
  | 0, _, _, _ => none
  | n + 1, x1, x2, S => (if (S.1 3 2) ≤ x2 then some (x1, S) else if vin x2 5 then if vin x2 5 then (if (S.1 22 x2.toNatClampNeg) = (S.1 11 x2.toNatClampNeg) then q_X1_atHome_4 n (x1 ||| ((1 : Int32) <<< (x2 &&& 31))) (x2 + 1) S else q_X1_atHome_4 n x1 (x2 + 1) S) else none else none)
def p_X1_atHome (S : St) : Option (Int32 × St) :=
  q_X1_atHome_4 FU (0 : Int32) (0 : Int32) S
def p_X1_beyond (x1 : Int32) (x2 : Int32) (S : St) : Option (Int32 × St) :=
  if vin x2 8 then if vin x1 5 then (if (S.1 4 x2.toNatClampNeg) = (S.1 22 x1.toNatClampNeg) then if vin x2 8 then some (S.1 5 x2.toNatClampNeg, S) else none else if vin x2 8 then if vin x1 5 then (if (S.1 5 x2.toNatClampNeg) = (S.1 22 x1.toNatClampNeg) then if vin x2 8 then some (S.1 4 x2.toNatClampNeg, S) else none else some ((-9 : Int32), S)) else none else none) else none else none
def q_X1_spread_5 : Nat → Int32 → Int32 → Int32 → Int32 → St → Option (Int32 × St)
  | 0, _, _, _, _, _ => none
  | n + 1, x1, x2, x3, x4, S => (if (S.1 3 1) ≤ x4 then some (x3, S) else if vin x4 8 then if vin x4 8 then (if ((x2 >>> (x4 &&& 31)) &&& (1 : Int32)) = (1 : Int32) then (if (x1 &&& (((1 : Int32) <<< ((S.1 4 x4.toNatClampNeg) &&& 31)) ||| ((1 : Int32) <<< ((S.1 5 x4.toNatClampNeg) &&& 31)))) = 0 then q_X1_spread_5 n x1 x2 x3 (x4 + 1) S else q_X1_spread_5 n x1 x2 (x3 ||| (((1 : Int32) <<< ((S.1 4 x4.toNatClampNeg) &&& 31)) ||| ((1 : Int32) <<< ((S.1 5 x4.toNatClampNeg) &&& 31)))) (x4 + 1) S) else q_X1_spread_5 n x1 x2 x3 (x4 + 1) S) else none else none)
def p_X1_spread (x1 : Int32) (x2 : Int32) (S : St) : Option (Int32 × St) :=
  q_X1_spread_5 FU x1 x2 x1 (0 : Int32) S
def q_X1_reach_23 : Nat → Int32 → Int32 → Int32 → St → Option (Int32 × St)
  | 0, _, _, _, _ => none
  | n + 1, x3, x4, x5, S => (if (S.1 3 0) ≤ x5 then some (x4, S) else (p_X1_spread x4 x3 S).bind (fun (q39 : Int32 × St) => q_X1_reach_23 n x3 q39.1 (x5 + 1) q39.2))
def p_X1_reach (x1 : Int32) (x2 : Int32) (S : St) : Option (Int32 × St) :=
  (p_X1_keys x1 x2 S).bind (fun (q3 : Int32 × St) => if vin x1 5 then q_X1_reach_23 FU q3.1 ((1 : Int32) <<< ((q3.2.1 22 x1.toNatClampNeg) &&& 31)) (1 : Int32) q3.2 else none)
def q_X1_fewestDoors_23 : Nat → Int32 → Int32 → Int32 → Int32 → St → Option (Int32 × St)
  | 0, _, _, _, _, _ => none
  | n + 1, x2, x3, x4, x5, S => (if (S.1 3 0) ≤ x5 then some ((-9 : Int32), S) else (if ((x4 >>> (x2 &&& 31)) &&& (1 : Int32)) = (1 : Int32) then some (x5, S) else (p_X1_spread x4 x3 S).bind (fun (q52 : Int32 × St) => q_X1_fewestDoors_23 n x2 x3 q52.1 (x5 + 1) q52.2)))
def p_X1_fewestDoors (x1 : Int32) (x2 : Int32) (S : St) : Option (Int32 × St) :=
  (p_X1_keys x1 (0 : Int32) S).bind (fun (q3 : Int32 × St) => if vin x1 5 then q_X1_fewestDoors_23 FU x2 q3.1 ((1 : Int32) <<< ((q3.2.1 22 x1.toNatClampNeg) &&& 31)) (0 : Int32) q3.2 else none)
def q_X1_shutOut_2 : Nat → Int32 → Int32 → St → Option (Int32 × St)
  | 0, _, _, _ => none
  | n + 1, x1, x2, S => (if (20 : Int32) < x2 then some ((-9 : Int32), S) else (p_X1_reach x1 x2 S).bind (fun (q11 : Int32 × St) => if vin x1 5 then (if ((q11.1 >>> ((q11.2.1 11 x1.toNatClampNeg) &&& 31)) &&& (1 : Int32)) = 0 then some (x2, q11.2) else q_X1_shutOut_2 n x1 (x2 + 1) q11.2) else none))
def p_X1_shutOut (x1 : Int32) (S : St) : Option (Int32 × St) :=
  q_X1_shutOut_2 FU x1 (0 : Int32) S
def q_X1_singersOf_4 : Nat → Int32 → Int32 → Int32 → St → Option (Int32 × St)
  | 0, _, _, _, _ => none
  | n + 1, x1, x2, x3, S => (if (S.1 3 2) ≤ x3 then some (x2, S) else (p_X1_sings x3 x1 S).bind (fun (q18 : Int32 × St) => (if q18.1 = 0 then q_X1_singersOf_4 n x1 x2 (x3 + 1) q18.2 else q_X1_singersOf_4 n x1 (x2 ||| ((1 : Int32) <<< (x3 &&& 31))) (x3 + 1) q18.2)))
def p_X1_singersOf (x1 : Int32) (S : St) : Option (Int32 × St) :=
  q_X1_singersOf_4 FU x1 (0 : Int32) (0 : Int32) S
def q_X1_lowestPitchOf_2 : Nat → Int32 → Int32 → St → Option (Int32 × St)
  | 0, _, _, _ => none
  | n + 1, x1, x2, S => (if (40 : Int32) < x2 then some ((-9 : Int32), S) else (p_X1_singersOf x2 S).bind (fun (q10 : Int32 × St) => (if q10.1 = x1 then some (x2, q10.2) else q_X1_lowestPitchOf_2 n x1 (x2 + 1) q10.2)))
def p_X1_lowestPitchOf (x1 : Int32) (S : St) : Option (Int32 × St) :=
  q_X1_lowestPitchOf_2 FU x1 (0 : Int32) S
def q_X1_rowsOfThirds_65 (ag5 : Int32 → Int32 → Int32 → Int32 → St → Option (Int32 × St)) (ag20 : Int32 → Int32 → Int32 → Int32 → Int32 → St → Option (Int32 × St)) (x1 : Int32) (x2 : Int32) (x3 : Int32) (x4 : Int32) (x5 : Int32) (y0 : Int32) (S : St) : Option (Int32 × St) :=
  (if y0 = 0 then ag20 x1 x2 x3 x4 (x5 + 1) S else if vin x4 8 then (p_X1_sings x1 (S.1 25 x4.toNatClampNeg) S).bind (fun (q84 : Int32 × St) => (if q84.1 = 0 then ag20 x1 x2 x3 x4 (x5 + 1) q84.2 else if vin x5 8 then (p_X1_sings x2 (q84.2.1 25 x5.toNatClampNeg) q84.2).bind (fun (q102 : Int32 × St) => (if q102.1 = 0 then ag20 x1 x2 x3 x4 (x5 + 1) q102.2 else ag20 x1 x2 (x3 + 1) x4 (x5 + 1) q102.2)) else none)) else none)
def q_X1_rowsOfThirds_20 (ag5 : Int32 → Int32 → Int32 → Int32 → St → Option (Int32 × St)) : Nat → Int32 → Int32 → Int32 → Int32 → Int32 → St → Option (Int32 × St)
  | 0, _, _, _, _, _, _ => none
  | n + 1, x1, x2, x3, x4, x5, S => (if (S.1 3 1) ≤ x5 then ag5 x1 x2 x3 (x4 + 1) S else if vin x4 8 then if vin x5 8 then (if (if 0 ≤ ((S.1 25 x4.toNatClampNeg) - (S.1 25 x5.toNatClampNeg)) then ((S.1 25 x4.toNatClampNeg) - (S.1 25 x5.toNatClampNeg)) else 0 - ((S.1 25 x4.toNatClampNeg) - (S.1 25 x5.toNatClampNeg))) = (4 : Int32) then q_X1_rowsOfThirds_65 ag5 (q_X1_rowsOfThirds_20 ag5 n) x1 x2 x3 x4 x5 (1 : Int32) S else q_X1_rowsOfThirds_65 ag5 (q_X1_rowsOfThirds_20 ag5 n) x1 x2 x3 x4 x5 (0 : Int32) S) else none else none)
def q_X1_rowsOfThirds_5 : Nat → Int32 → Int32 → Int32 → Int32 → St → Option (Int32 × St)
  | 0, _, _, _, _, _ => none
  | n + 1, x1, x2, x3, x4, S => (if (S.1 3 1) ≤ x4 then some (x3, S) else q_X1_rowsOfThirds_20 (q_X1_rowsOfThirds_5 n) FU x1 x2 x3 x4 (0 : Int32) S)
def p_X1_rowsOfThirds (x1 : Int32) (x2 : Int32) (S : St) : Option (Int32 × St) :=
  q_X1_rowsOfThirds_5 FU x1 x2 (0 : Int32) (0 : Int32) S
def p_X2_becomesEmpty (S : St) : Option (St) :=
  some (sI (sI (sI (sI S 12 0 (2 : Int32)) 12 1 (0 : Int32)) 12 2 (0 : Int32)) 12 3 (5 : Int32))
def q_X2_becomes_84 : Nat → Int32 → St → Option (St)
  | 0, _, _ => none
  | n + 1, x2, S => (if (5 : Int32) ≤ x2 then some S else if vin x2 5 then if vin x2 5 then if vin x2 5 then if vin x2 5 then if vin x2 5 then if vin x2 5 then if vin x2 5 then if vin x2 5 then if vin x2 5 then if vin x2 5 then q_X2_becomes_84 n (x2 + 1) (sI (sI (sI (sI (sI S 7 x2.toNatClampNeg (S.1 16 x2.toNatClampNeg)) 8 x2.toNatClampNeg ((sI S 7 x2.toNatClampNeg (S.1 16 x2.toNatClampNeg)).1 17 x2.toNatClampNeg)) 9 x2.toNatClampNeg ((sI (sI S 7 x2.toNatClampNeg (S.1 16 x2.toNatClampNeg)) 8 x2.toNatClampNeg ((sI S 7 x2.toNatClampNeg (S.1 16 x2.toNatClampNeg)).1 17 x2.toNatClampNeg)).1 18 x2.toNatClampNeg)) 10 x2.toNatClampNeg ((sI (sI (sI S 7 x2.toNatClampNeg (S.1 16 x2.toNatClampNeg)) 8 x2.toNatClampNeg ((sI S 7 x2.toNatClampNeg (S.1 16 x2.toNatClampNeg)).1 17 x2.toNatClampNeg)) 9 x2.toNatClampNeg ((sI (sI S 7 x2.toNatClampNeg (S.1 16 x2.toNatClampNeg)) 8 x2.toNatClampNeg ((sI S 7 x2.toNatClampNeg (S.1 16 x2.toNatClampNeg)).1 17 x2.toNatClampNeg)).1 18 x2.toNatClampNeg)).1 19 x2.toNatClampNeg)) 11 x2.toNatClampNeg ((sI (sI (sI (sI S 7 x2.toNatClampNeg (S.1 16 x2.toNatClampNeg)) 8 x2.toNatClampNeg ((sI S 7 x2.toNatClampNeg (S.1 16 x2.toNatClampNeg)).1 17 x2.toNatClampNeg)) 9 x2.toNatClampNeg ((sI (sI S 7 x2.toNatClampNeg (S.1 16 x2.toNatClampNeg)) 8 x2.toNatClampNeg ((sI S 7 x2.toNatClampNeg (S.1 16 x2.toNatClampNeg)).1 17 x2.toNatClampNeg)).1 18 x2.toNatClampNeg)) 10 x2.toNatClampNeg ((sI (sI (sI S 7 x2.toNatClampNeg (S.1 16 x2.toNatClampNeg)) 8 x2.toNatClampNeg ((sI S 7 x2.toNatClampNeg (S.1 16 x2.toNatClampNeg)).1 17 x2.toNatClampNeg)) 9 x2.toNatClampNeg ((sI (sI S 7 x2.toNatClampNeg (S.1 16 x2.toNatClampNeg)) 8 x2.toNatClampNeg ((sI S 7 x2.toNatClampNeg (S.1 16 x2.toNatClampNeg)).1 17 x2.toNatClampNeg)).1 18 x2.toNatClampNeg)).1 19 x2.toNatClampNeg)).1 20 x2.toNatClampNeg)) else none else none else none else none else none else none else none else none else none else none)
def q_X2_becomes_34 : Nat → Int32 → St → Option (St)
  | 0, _, _ => none
  | n + 1, x2, S => (if (8 : Int32) ≤ x2 then q_X2_becomes_84 FU (0 : Int32) S else if vin x2 8 then if vin x2 8 then if vin x2 8 then if vin x2 8 then if vin x2 8 then if vin x2 8 then q_X2_becomes_34 n (x2 + 1) (sI (sI (sI S 4 x2.toNatClampNeg (S.1 13 x2.toNatClampNeg)) 5 x2.toNatClampNeg ((sI S 4 x2.toNatClampNeg (S.1 13 x2.toNatClampNeg)).1 14 x2.toNatClampNeg)) 6 x2.toNatClampNeg ((sI (sI S 4 x2.toNatClampNeg (S.1 13 x2.toNatClampNeg)) 5 x2.toNatClampNeg ((sI S 4 x2.toNatClampNeg (S.1 13 x2.toNatClampNeg)).1 14 x2.toNatClampNeg)).1 15 x2.toNatClampNeg)) else none else none else none else none else none else none)
def p_X2_becomes (S : St) : Option (St) :=
  q_X2_becomes_34 FU (0 : Int32) (sI (sI (sI (sI S 3 0 (S.1 12 0)) 3 1 ((sI S 3 0 (S.1 12 0)).1 12 1)) 3 2 ((sI (sI S 3 0 (S.1 12 0)) 3 1 ((sI S 3 0 (S.1 12 0)).1 12 1)).1 12 2)) 3 3 ((sI (sI (sI S 3 0 (S.1 12 0)) 3 1 ((sI S 3 0 (S.1 12 0)).1 12 1)) 3 2 ((sI (sI S 3 0 (S.1 12 0)) 3 1 ((sI S 3 0 (S.1 12 0)).1 12 1)).1 12 2)).1 12 3))
def p_X3_add (x1 : Int32) (x2 : Int32) (S : St) : Option (St) :=
  (if (6 : Int32) ≤ (S.1 95 3) then some S else if vin (S.1 95 3) 6 then if vin ((sI S 96 (S.1 95 3).toNatClampNeg x1).1 95 3) 6 then some (sI (sI (sI S 96 (S.1 95 3).toNatClampNeg x1) 97 ((sI S 96 (S.1 95 3).toNatClampNeg x1).1 95 3).toNatClampNeg x2) 95 3 (((sI (sI S 96 (S.1 95 3).toNatClampNeg x1) 97 ((sI S 96 (S.1 95 3).toNatClampNeg x1).1 95 3).toNatClampNeg x2).1 95 3) + (1 : Int32))) else none else none)
def q_X3_suspects_17 : Nat → Int32 → Int32 → St → Option (Int32 × St)
  | 0, _, _, _ => none
  | n + 1, x1, x2, S => (if (S.1 95 3) ≤ x2 then some (x1, S) else if vin x2 6 then (p_X1_openers (S.1 96 x2.toNatClampNeg) S).bind (fun (q35 : Int32 × St) => if vin x2 6 then (if (q35.2.1 97 x2.toNatClampNeg) = (1 : Int32) then q_X3_suspects_17 n (x1 &&& q35.1) (x2 + 1) q35.2 else q_X3_suspects_17 n (x1 &&& (q35.1 ^^^ (-1 : Int32))) (x2 + 1) q35.2) else none) else none)
def p_X3_suspects (S : St) : Option (Int32 × St) :=
  q_X3_suspects_17 FU (((1 : Int32) <<< ((S.1 3 2) &&& 31)) - (1 : Int32)) (0 : Int32) S
def p_J6_bitCount_0f7a4 (x0 : Int32) (S : St) : Option (Int32 × St) :=
  some ((((((((x0 - (((x0.toUInt32 >>> ((1 : Int32).toUInt32 &&& Int32.toUInt32 31)).toInt32) &&& (1431655765 : Int32))) &&& (858993459 : Int32)) + ((((x0 - (((x0.toUInt32 >>> ((1 : Int32).toUInt32 &&& Int32.toUInt32 31)).toInt32) &&& (1431655765 : Int32))).toUInt32 >>> ((2 : Int32).toUInt32 &&& Int32.toUInt32 31)).toInt32) &&& (858993459 : Int32))) + (((((x0 - (((x0.toUInt32 >>> ((1 : Int32).toUInt32 &&& Int32.toUInt32 31)).toInt32) &&& (1431655765 : Int32))) &&& (858993459 : Int32)) + ((((x0 - (((x0.toUInt32 >>> ((1 : Int32).toUInt32 &&& Int32.toUInt32 31)).toInt32) &&& (1431655765 : Int32))).toUInt32 >>> ((2 : Int32).toUInt32 &&& Int32.toUInt32 31)).toInt32) &&& (858993459 : Int32))).toUInt32 >>> ((4 : Int32).toUInt32 &&& Int32.toUInt32 31)).toInt32)) &&& (252645135 : Int32)) + (((((((x0 - (((x0.toUInt32 >>> ((1 : Int32).toUInt32 &&& Int32.toUInt32 31)).toInt32) &&& (1431655765 : Int32))) &&& (858993459 : Int32)) + ((((x0 - (((x0.toUInt32 >>> ((1 : Int32).toUInt32 &&& Int32.toUInt32 31)).toInt32) &&& (1431655765 : Int32))).toUInt32 >>> ((2 : Int32).toUInt32 &&& Int32.toUInt32 31)).toInt32) &&& (858993459 : Int32))) + (((((x0 - (((x0.toUInt32 >>> ((1 : Int32).toUInt32 &&& Int32.toUInt32 31)).toInt32) &&& (1431655765 : Int32))) &&& (858993459 : Int32)) + ((((x0 - (((x0.toUInt32 >>> ((1 : Int32).toUInt32 &&& Int32.toUInt32 31)).toInt32) &&& (1431655765 : Int32))).toUInt32 >>> ((2 : Int32).toUInt32 &&& Int32.toUInt32 31)).toInt32) &&& (858993459 : Int32))).toUInt32 >>> ((4 : Int32).toUInt32 &&& Int32.toUInt32 31)).toInt32)) &&& (252645135 : Int32)).toUInt32 >>> ((8 : Int32).toUInt32 &&& Int32.toUInt32 31)).toInt32)) + ((((((((x0 - (((x0.toUInt32 >>> ((1 : Int32).toUInt32 &&& Int32.toUInt32 31)).toInt32) &&& (1431655765 : Int32))) &&& (858993459 : Int32)) + ((((x0 - (((x0.toUInt32 >>> ((1 : Int32).toUInt32 &&& Int32.toUInt32 31)).toInt32) &&& (1431655765 : Int32))).toUInt32 >>> ((2 : Int32).toUInt32 &&& Int32.toUInt32 31)).toInt32) &&& (858993459 : Int32))) + (((((x0 - (((x0.toUInt32 >>> ((1 : Int32).toUInt32 &&& Int32.toUInt32 31)).toInt32) &&& (1431655765 : Int32))) &&& (858993459 : Int32)) + ((((x0 - (((x0.toUInt32 >>> ((1 : Int32).toUInt32 &&& Int32.toUInt32 31)).toInt32) &&& (1431655765 : Int32))).toUInt32 >>> ((2 : Int32).toUInt32 &&& Int32.toUInt32 31)).toInt32) &&& (858993459 : Int32))).toUInt32 >>> ((4 : Int32).toUInt32 &&& Int32.toUInt32 31)).toInt32)) &&& (252645135 : Int32)) + (((((((x0 - (((x0.toUInt32 >>> ((1 : Int32).toUInt32 &&& Int32.toUInt32 31)).toInt32) &&& (1431655765 : Int32))) &&& (858993459 : Int32)) + ((((x0 - (((x0.toUInt32 >>> ((1 : Int32).toUInt32 &&& Int32.toUInt32 31)).toInt32) &&& (1431655765 : Int32))).toUInt32 >>> ((2 : Int32).toUInt32 &&& Int32.toUInt32 31)).toInt32) &&& (858993459 : Int32))) + (((((x0 - (((x0.toUInt32 >>> ((1 : Int32).toUInt32 &&& Int32.toUInt32 31)).toInt32) &&& (1431655765 : Int32))) &&& (858993459 : Int32)) + ((((x0 - (((x0.toUInt32 >>> ((1 : Int32).toUInt32 &&& Int32.toUInt32 31)).toInt32) &&& (1431655765 : Int32))).toUInt32 >>> ((2 : Int32).toUInt32 &&& Int32.toUInt32 31)).toInt32) &&& (858993459 : Int32))).toUInt32 >>> ((4 : Int32).toUInt32 &&& Int32.toUInt32 31)).toInt32)) &&& (252645135 : Int32)).toUInt32 >>> ((8 : Int32).toUInt32 &&& Int32.toUInt32 31)).toInt32)).toUInt32 >>> ((16 : Int32).toUInt32 &&& Int32.toUInt32 31)).toInt32)) &&& (63 : Int32), S)
def q_X3_bestDoor_24 : Nat → Int32 → Int32 → Int32 → Int32 → Int32 → St → Option (Int32 × St)
  | 0, _, _, _, _, _, _ => none
  | n + 1, x1, x2, x3, x4, x5, S => (if (S.1 3 1) ≤ x5 then some (x3, S) else (p_X1_openers x5 S).bind (fun (q46 : Int32 × St) => (p_J6_bitCount_0f7a4 (x1 &&& q46.1) q46.2).bind (fun (q50 : Int32 × St) => (if x4 ≤ (if q50.1 < (x2 - q50.1) then (x2 - q50.1) else q50.1) then q_X3_bestDoor_24 n x1 x2 x3 x4 (x5 + 1) q50.2 else q_X3_bestDoor_24 n x1 x2 x5 (if q50.1 < (x2 - q50.1) then (x2 - q50.1) else q50.1) (x5 + 1) q50.2))))
def p_X3_bestDoor (x1 : Int32) (S : St) : Option (Int32 × St) :=
  (p_J6_bitCount_0f7a4 x1 S).bind (fun (q1 : Int32 × St) => (if (1 : Int32) < q1.1 then q_X3_bestDoor_24 FU x1 q1.1 (-9 : Int32) (q1.1 + (1 : Int32)) (0 : Int32) q1.2 else some ((-9 : Int32), q1.2)))
def q_X4_takeKeys_33 (ag2 : Int32 → St → Option (St)) : Nat → Int32 → Int32 → Int32 → Int32 → St → Option (St)
  | 0, _, _, _, _, _ => none
  | n + 1, x1, x2, x3, x4, S => (if x3 ≤ x4 then ag2 (x1 + 1) S else if vin x4 32 then if vin (x3 ||| x4) 32 then q_X4_takeKeys_33 ag2 n x1 x2 x3 (x4 + 1) (sI S 92 (x3 ||| x4).toNatClampNeg ((S.1 92 x4.toNatClampNeg) ||| x2)) else none else none)
def q_X4_takeKeys_2 : Nat → Int32 → St → Option (St)
  | 0, _, _ => none
  | n + 1, x1, S => (if (S.1 3 2) ≤ x1 then some S else (p_X1_keys x1 (0 : Int32) S).bind (fun (q22 : Int32 × St) => q_X4_takeKeys_33 (q_X4_takeKeys_2 n) FU x1 q22.1 ((1 : Int32) <<< (x1 &&& 31)) (0 : Int32) q22.2))
def p_X4_takeKeys (S : St) : Option (St) :=
  q_X4_takeKeys_2 FU (0 : Int32) S
def p_X4_allBoys (S : St) : Option (Int32 × St) :=
  some (((1 : Int32) <<< ((S.1 3 2) &&& 31)) - (1 : Int32), S)
def p_X4_allDoors (S : St) : Option (Int32 × St) :=
  some (((1 : Int32) <<< ((S.1 3 1) &&& 31)) - (1 : Int32), S)
def q_X4_fewestForAll_49 (ag20 : Int32 → Int32 → Int32 → Int32 → St → Option (Int32 × St)) (x1 : Int32) (x2 : Int32) (x3 : Int32) (x4 : Int32) (y0 : Int32) (S : St) : Option (Int32 × St) :=
  (if y0 = 0 then ag20 x1 x2 x3 (x4 + 1) S else if vin x4 32 then (if (S.1 92 x4.toNatClampNeg) = x2 then ag20 x1 x2 x4 (x4 + 1) S else ag20 x1 x2 x3 (x4 + 1) S) else none)
def q_X4_fewestForAll_44 (ag20 : Int32 → Int32 → Int32 → Int32 → St → Option (Int32 × St)) (x1 : Int32) (x2 : Int32) (x3 : Int32) (x4 : Int32) (S : St) : Option (Int32 × St) :=
  q_X4_fewestForAll_49 ag20 x1 x2 x3 x4 (1 : Int32) S
def q_X4_fewestForAll_20 : Nat → Int32 → Int32 → Int32 → Int32 → St → Option (Int32 × St)
  | 0, _, _, _, _, _ => none
  | n + 1, x1, x2, x3, x4, S => (if x1 < x4 then some (x3, S) else (if x3 = (-9 : Int32) then q_X4_fewestForAll_44 (q_X4_fewestForAll_20 n) x1 x2 x3 x4 S else (p_J6_bitCount_0f7a4 x4 S).bind (fun (q34 : Int32 × St) => (p_J6_bitCount_0f7a4 x3 q34.2).bind (fun (q38 : Int32 × St) => (if q38.1 ≤ q34.1 then q_X4_fewestForAll_49 (q_X4_fewestForAll_20 n) x1 x2 x3 x4 (0 : Int32) q38.2 else q_X4_fewestForAll_44 (q_X4_fewestForAll_20 n) x1 x2 x3 x4 q38.2)))))
def p_X4_fewestForAll (S : St) : Option (Int32 × St) :=
  (p_X4_takeKeys S).bind (fun (q1 : St) => (p_X4_allBoys q1).bind (fun (q5 : Int32 × St) => (p_X4_allDoors q5.2).bind (fun (q10 : Int32 × St) => q_X4_fewestForAll_20 FU q5.1 q10.1 (-9 : Int32) (0 : Int32) q10.2)))
def q_X4_mostOf_8 : Nat → Int32 → Int32 → Int32 → Int32 → St → Option (Int32 × St)
  | 0, _, _, _, _, _ => none
  | n + 1, x1, x2, x3, x4, S => (if x1 < x4 then some (x3, S) else (if (x4 &&& (x1 ^^^ (-1 : Int32))) = 0 then (p_J6_bitCount_0f7a4 (x1 &&& (x4 ^^^ (-1 : Int32))) S).bind (fun (q29 : Int32 × St) => if vin x4 32 then (p_J6_bitCount_0f7a4 ((q29.2.1 92 x4.toNatClampNeg) &&& x2) q29.2).bind (fun (q46 : Int32 × St) => q_X4_mostOf_8 n x1 x2 (if (q29.1 + q46.1) < x3 then (q29.1 + q46.1) else x3) (x4 + 1) q46.2) else none) else q_X4_mostOf_8 n x1 x2 x3 (x4 + 1) S))
def p_X4_mostOf (x1 : Int32) (x2 : Int32) (S : St) : Option (Int32 × St) :=
  (p_J6_bitCount_0f7a4 x1 S).bind (fun (q1 : Int32 × St) => q_X4_mostOf_8 FU x1 x2 q1.1 (0 : Int32) q1.2)
def p_X4_mostPosts (S : St) : Option (Int32 × St) :=
  (p_X4_takeKeys S).bind (fun (q1 : St) => (p_X4_allBoys q1).bind (fun (q6 : Int32 × St) => (p_X4_allDoors q6.2).bind (fun (q10 : Int32 × St) => (p_X4_mostOf q6.1 q10.1 q10.2).bind (fun (q13 : Int32 × St) => some (q13.1, q13.2)))))
def q_X4_lowestPost_3 : Nat → Int32 → Int32 → Int32 → Int32 → Int32 → St → Option (Int32 × St)
  | 0, _, _, _, _, _, _ => none
  | n + 1, x1, x2, x3, x4, x5, S => (if (S.1 3 1) ≤ x5 then some ((-9 : Int32), S) else (if (x1 &&& ((1 : Int32) <<< (x5 &&& 31))) = 0 then q_X4_lowestPost_3 n x1 x2 x3 x4 (x5 + 1) S else (p_X4_mostOf x2 (x3 &&& (((1 : Int32) <<< (x5 &&& 31)) ^^^ (-1 : Int32))) S).bind (fun (q40 : Int32 × St) => (if ((1 : Int32) + q40.1) = x4 then some (x5, q40.2) else q_X4_lowestPost_3 n x1 x2 x3 x4 (x5 + 1) q40.2))))
def p_X4_lowestPost (x1 : Int32) (x2 : Int32) (x3 : Int32) (x4 : Int32) (S : St) : Option (Int32 × St) :=
  q_X4_lowestPost_3 FU x1 x2 x3 x4 (0 : Int32) S
def q_X4_postOf_21 : Nat → Int32 → Int32 → Int32 → Int32 → Int32 → St → Option (Int32 × St)
  | 0, _, _, _, _, _, _ => none
  | n + 1, x1, x2, x3, x4, x5, S => (if x1 < x5 then some (x4, S) else (p_X4_mostOf x2 x3 S).bind (fun (q30 : Int32 × St) => if vin ((1 : Int32) <<< (x5 &&& 31)) 32 then (p_X4_lowestPost ((q30.2.1 92 ((1 : Int32) <<< (x5 &&& 31)).toNatClampNeg) &&& x3) (x2 &&& (((1 : Int32) <<< (x5 &&& 31)) ^^^ (-1 : Int32))) x3 q30.1 q30.2).bind (fun (q60 : Int32 × St) => (if q60.1 = (-9 : Int32) then q_X4_postOf_21 n x1 (x2 &&& (((1 : Int32) <<< (x5 &&& 31)) ^^^ (-1 : Int32))) x3 q60.1 (x5 + 1) q60.2 else q_X4_postOf_21 n x1 (x2 &&& (((1 : Int32) <<< (x5 &&& 31)) ^^^ (-1 : Int32))) (x3 &&& (((1 : Int32) <<< (q60.1 &&& 31)) ^^^ (-1 : Int32))) q60.1 (x5 + 1) q60.2)) else none))
def p_X4_postOf (x1 : Int32) (S : St) : Option (Int32 × St) :=
  (p_X4_takeKeys S).bind (fun (q1 : St) => (p_X4_allBoys q1).bind (fun (q5 : Int32 × St) => (p_X4_allDoors q5.2).bind (fun (q10 : Int32 × St) => q_X4_postOf_21 FU x1 q5.1 q10.1 (-9 : Int32) (0 : Int32) q10.2)))
def p_X5_asBoy (x1 : Int32) (S : St) : Option (Int32 × St) :=
  if vin x1 5 then some ((sL S 98 ((S.2 98) + (1 : Int64))).1 23 x1.toNatClampNeg, sL S 98 ((S.2 98) + (1 : Int64))) else none
def p_X5_asAlto (x1 : Int32) (S : St) : Option (Int32 × St) :=
  (p_X5_asBoy x1 (sL S 98 ((S.2 98) + (100 : Int64)))).bind (fun (q14 : Int32 × St) => (p_X1_keys x1 (0 : Int32) q14.2).bind (fun (q23 : Int32 × St) => (p_J6_bitCount_0f7a4 q23.1 q23.2).bind (fun (q26 : Int32 × St) => some (q14.1 - q26.1, q26.2))))
def p_X5_asBass (x1 : Int32) (S : St) : Option (Int32 × St) :=
  (p_X5_asBoy x1 (sL S 98 ((S.2 98) + (100000 : Int64)))).bind (fun (q14 : Int32 × St) => if vin x1 5 then some (q14.1 + (q14.2.1 22 x1.toNatClampNeg), q14.2) else none)
def p_X5_asTreble (x1 : Int32) (S : St) : Option (Int32 × St) :=
  (p_X5_asBoy x1 (sL S 98 ((S.2 98) + (10 : Int64)))).bind (fun (q14 : Int32 × St) => (p_X1_highest x1 (0 : Int32) q14.2).bind (fun (q23 : Int32 × St) => some (q14.1 + q23.1, q23.2)))
def p_X5_asSoloist (x1 : Int32) (S : St) : Option (Int32 × St) :=
  (p_X5_asTreble x1 (sL S 98 ((S.2 98) + (1000 : Int64)))).bind (fun (q15 : Int32 × St) => some ((2 : Int32) * q15.1, q15.2))
def p_X5_asTwin (x1 : Int32) (S : St) : Option (Int32 × St) :=
  (p_X5_asAlto x1 (sL S 98 ((S.2 98) + (10000 : Int64)))).bind (fun (q14 : Int32 × St) => some (q14.1 + x1, q14.2))
def p_X5_rateAs (x1 : Int32) (x2 : Int32) (S : St) : Option (Int32 × St) :=
  (if x1 = 0 then (p_X5_asBoy x2 S).bind (fun (q42 : Int32 × St) => some (q42.1, q42.2)) else (if x1 = 1 then (p_X5_asTreble x2 S).bind (fun (q48 : Int32 × St) => some (q48.1, q48.2)) else (if x1 = 2 then (p_X5_asAlto x2 S).bind (fun (q54 : Int32 × St) => some (q54.1, q54.2)) else (if x1 = 3 then (p_X5_asSoloist x2 S).bind (fun (q60 : Int32 × St) => some (q60.1, q60.2)) else (if x1 = 4 then (p_X5_asTwin x2 S).bind (fun (q66 : Int32 × St) => some (q66.1, q66.2)) else (if x1 = 5 then (p_X5_asBass x2 S).bind (fun (q72 : Int32 × St) => some (q72.1, q72.2)) else some ((-1000000 : Int32), S)))))))
def q_X8_becomes_51 (k0 : Nat) (k1 : Nat) : Nat → Int32 → St → Option (St)
  | 0, _, _ => none
  | n + 1, x2, S => (if (8 : Int32) ≤ x2 then some (sI (sI S k0 4 (S.1 k1 4)) k0 5 ((sI S k0 4 (S.1 k1 4)).1 k1 5)) else if vin x2 8 then if vin x2 8 then q_X8_becomes_51 k0 k1 n (x2 + 1) (sI S (k0 + 4) x2.toNatClampNeg (S.1 (k1 + 4) x2.toNatClampNeg)) else none else none)
def q_X8_becomes_2 (k0 : Nat) (k1 : Nat) : Nat → Int32 → St → Option (St)
  | 0, _, _ => none
  | n + 1, x2, S => (if (5 : Int32) ≤ x2 then q_X8_becomes_51 k0 k1 FU (0 : Int32) S else if vin x2 5 then if vin x2 5 then if vin x2 5 then if vin x2 5 then if vin x2 5 then if vin x2 5 then q_X8_becomes_2 k0 k1 n (x2 + 1) (sI (sI (sI S (k0 + 1) x2.toNatClampNeg (S.1 (k1 + 1) x2.toNatClampNeg)) (k0 + 2) x2.toNatClampNeg ((sI S (k0 + 1) x2.toNatClampNeg (S.1 (k1 + 1) x2.toNatClampNeg)).1 (k1 + 2) x2.toNatClampNeg)) (k0 + 3) x2.toNatClampNeg ((sI (sI S (k0 + 1) x2.toNatClampNeg (S.1 (k1 + 1) x2.toNatClampNeg)) (k0 + 2) x2.toNatClampNeg ((sI S (k0 + 1) x2.toNatClampNeg (S.1 (k1 + 1) x2.toNatClampNeg)).1 (k1 + 2) x2.toNatClampNeg)).1 (k1 + 3) x2.toNatClampNeg)) else none else none else none else none else none else none)
def p_X8_becomes (k0 : Nat) (k1 : Nat) (S : St) : Option (St) :=
  q_X8_becomes_2 k0 k1 FU (0 : Int32) S
def p_X6_remember (S : St) : Option (St) :=
  if vin (S.1 26 1) 10 then (LL27[(S.1 26 1).toNatClampNeg]?).bind (fun j8 => (p_X8_becomes j8 21 S).bind (fun (q10 : St) => if ¬ (10 : Int32) = 0 then some (sI (sI q10 26 1 (((q10.1 26 1) + (1 : Int32)) - ((q10.1 26 1) + (1 : Int32)) / (10 : Int32) * (10 : Int32))) 26 2 (if (10 : Int32) < (((sI q10 26 1 (((q10.1 26 1) + (1 : Int32)) - ((q10.1 26 1) + (1 : Int32)) / (10 : Int32) * (10 : Int32))).1 26 2) + (1 : Int32)) then (10 : Int32) else (((sI q10 26 1 (((q10.1 26 1) + (1 : Int32)) - ((q10.1 26 1) + (1 : Int32)) / (10 : Int32) * (10 : Int32))).1 26 2) + (1 : Int32)))) else none)) else none
def p_X6_bringBack (S : St) : Option (St) :=
  (if (S.1 26 2) = 0 then some S else if ¬ (10 : Int32) = 0 then if vin ((sI (sI S 26 1 ((((S.1 26 1) + (10 : Int32)) - (1 : Int32)) - (((S.1 26 1) + (10 : Int32)) - (1 : Int32)) / (10 : Int32) * (10 : Int32))) 26 2 (((sI S 26 1 ((((S.1 26 1) + (10 : Int32)) - (1 : Int32)) - (((S.1 26 1) + (10 : Int32)) - (1 : Int32)) / (10 : Int32) * (10 : Int32))).1 26 2) - (1 : Int32))).1 26 1) 10 then (LL27[((sI (sI S 26 1 ((((S.1 26 1) + (10 : Int32)) - (1 : Int32)) - (((S.1 26 1) + (10 : Int32)) - (1 : Int32)) / (10 : Int32) * (10 : Int32))) 26 2 (((sI S 26 1 ((((S.1 26 1) + (10 : Int32)) - (1 : Int32)) - (((S.1 26 1) + (10 : Int32)) - (1 : Int32)) / (10 : Int32) * (10 : Int32))).1 26 2) - (1 : Int32))).1 26 1).toNatClampNeg]?).bind (fun j43 => (p_X8_becomes 21 j43 (sI (sI S 26 1 ((((S.1 26 1) + (10 : Int32)) - (1 : Int32)) - (((S.1 26 1) + (10 : Int32)) - (1 : Int32)) / (10 : Int32) * (10 : Int32))) 26 2 (((sI S 26 1 ((((S.1 26 1) + (10 : Int32)) - (1 : Int32)) - (((S.1 26 1) + (10 : Int32)) - (1 : Int32)) / (10 : Int32) * (10 : Int32))).1 26 2) - (1 : Int32)))).bind (fun (q44 : St) => some q44)) else none else none)
def p_X7_isDigit (x0 : Int32) (S : St) : Option (Int32 × St) :=
  (if x0 < (48 : Int32) then some ((0 : Int32), S) else (if (57 : Int32) < x0 then some ((0 : Int32), S) else some ((1 : Int32), S)))
def p_X7_isSign (x0 : Int32) (S : St) : Option (Int32 × St) :=
  (if x0 = (110 : Int32) then some ((1 : Int32), S) else (if x0 = (100 : Int32) then some ((1 : Int32), S) else (if x0 = (98 : Int32) then some ((1 : Int32), S) else (if x0 = (115 : Int32) then some ((1 : Int32), S) else (if x0 = (59 : Int32) then some ((1 : Int32), S) else some ((0 : Int32), S))))))
def q_X7_readToken_160 (ag118 : Int32 → St → Option (St)) (y0 : Int32) (S : St) : Option (St) :=
  if vin (S.1 1 2) 150 then ag118 y0 (sI (sI S 1 5 (if (100 : Int32) < ((((10 : Int32) * (S.1 1 5)) + (S.1 2 (S.1 1 2).toNatClampNeg)) - (48 : Int32)) then (100 : Int32) else ((((10 : Int32) * (S.1 1 5)) + (S.1 2 (S.1 1 2).toNatClampNeg)) - (48 : Int32)))) 1 2 (((sI S 1 5 (if (100 : Int32) < ((((10 : Int32) * (S.1 1 5)) + (S.1 2 (S.1 1 2).toNatClampNeg)) - (48 : Int32)) then (100 : Int32) else ((((10 : Int32) * (S.1 1 5)) + (S.1 2 (S.1 1 2).toNatClampNeg)) - (48 : Int32)))).1 1 2) + (1 : Int32))) else none
def q_X7_readToken_155 (ag118 : Int32 → St → Option (St)) (S : St) : Option (St) :=
  q_X7_readToken_160 ag118 (1 : Int32) S
def q_X7_readToken_203 (x2 : Int32) (S : St) : Option (St) :=
  (if x2 = 0 then (if (S.1 1 5) ≤ (99 : Int32) then some (sI S 1 4 (-2 : Int32)) else some (sI S 1 4 (-3 : Int32))) else some (sI S 1 4 (-3 : Int32)))
def q_X7_readToken_118 : Nat → Int32 → St → Option (St)
  | 0, _, _ => none
  | n + 1, x2, S => (if (S.1 1 1) ≤ (S.1 1 2) then q_X7_readToken_203 x2 S else if vin (S.1 1 2) 150 then (p_X7_isDigit (S.1 2 (S.1 1 2).toNatClampNeg) S).bind (fun (q138 : Int32 × St) => (if q138.1 = 0 then q_X7_readToken_203 x2 q138.2 else (if x2 = 0 then (if (q138.2.1 1 5) = 0 then q_X7_readToken_155 (q_X7_readToken_118 n) q138.2 else q_X7_readToken_160 (q_X7_readToken_118 n) (0 : Int32) q138.2) else q_X7_readToken_155 (q_X7_readToken_118 n) q138.2))) else none)
def q_X7_readToken_38 (S : St) : Option (St) :=
  (if ((sI S 1 3 (S.1 1 2)).1 1 2) < ((sI S 1 3 (S.1 1 2)).1 1 1) then if vin ((sI S 1 3 (S.1 1 2)).1 1 2) 150 then (p_X7_isDigit ((sI S 1 3 (S.1 1 2)).1 2 ((sI S 1 3 (S.1 1 2)).1 1 2).toNatClampNeg) (sI (sI S 1 3 (S.1 1 2)) 1 2 (((sI S 1 3 (S.1 1 2)).1 1 2) + (1 : Int32)))).bind (fun (q84 : Int32 × St) => (if q84.1 = 0 then (p_X7_isSign ((sI S 1 3 (S.1 1 2)).1 2 ((sI S 1 3 (S.1 1 2)).1 1 2).toNatClampNeg) q84.2).bind (fun (q92 : Int32 × St) => (if q92.1 = 0 then some (sI q92.2 1 4 (-3 : Int32)) else some (sI q92.2 1 4 ((sI S 1 3 (S.1 1 2)).1 2 ((sI S 1 3 (S.1 1 2)).1 1 2).toNatClampNeg)))) else q_X7_readToken_118 FU (0 : Int32) (sI q84.2 1 5 (((sI S 1 3 (S.1 1 2)).1 2 ((sI S 1 3 (S.1 1 2)).1 1 2).toNatClampNeg) - (48 : Int32))))) else none else some (sI (sI S 1 3 (S.1 1 2)) 1 4 (-1 : Int32)))
def q_X7_readToken_0 : Nat → St → Option (St)
  | 0, _ => none
  | n + 1, S => (if (S.1 1 1) ≤ (S.1 1 2) then q_X7_readToken_38 S else if vin (S.1 1 2) 150 then (if (S.1 2 (S.1 1 2).toNatClampNeg) = (32 : Int32) then q_X7_readToken_0 n (sI S 1 2 ((S.1 1 2) + (1 : Int32))) else q_X7_readToken_38 S) else none)
def p_X7_readToken (S : St) : Option (St) :=
  q_X7_readToken_0 FU S
def p_X7_readClose (S : St) : Option (Int32 × St) :=
  (p_X7_readToken S).bind (fun (q1 : St) => (if (q1.1 1 4) = (59 : Int32) then some ((1 : Int32), q1) else some ((0 : Int32), q1)))
def p_X7_readNumber (x1 : Int32) (x2 : Int32) (S : St) : Option (Int32 × St) :=
  (p_X7_readToken S).bind (fun (q1 : St) => (if (q1.1 1 4) = (-2 : Int32) then (p_X9_within (q1.1 1 5) x1 x2 q1).bind (fun (q19 : Int32 × St) => (if q19.1 = 0 then some ((0 : Int32), q19.2) else some ((1 : Int32), q19.2))) else some ((0 : Int32), q1)))
def p_X7_readBoy (S : St) : Option (Int32 × St) :=
  (p_X7_readNumber (0 : Int32) (40 : Int32) S).bind (fun (q9 : Int32 × St) => (if q9.1 = 0 then some ((0 : Int32), q9.2) else if vin (S.1 12 2) 5 then if vin (S.1 12 2) 5 then (p_X7_readNumber ((sI q9.2 16 (S.1 12 2).toNatClampNeg (q9.2.1 1 5)).1 16 (S.1 12 2).toNatClampNeg) (40 : Int32) (sI q9.2 16 (S.1 12 2).toNatClampNeg (q9.2.1 1 5))).bind (fun (q36 : Int32 × St) => (if q36.1 = 0 then some ((0 : Int32), q36.2) else if vin (S.1 12 2) 5 then (p_X7_readNumber (7 : Int32) (20 : Int32) (sI q36.2 17 (S.1 12 2).toNatClampNeg (q36.2.1 1 5))).bind (fun (q59 : Int32 × St) => (if q59.1 = 0 then some ((0 : Int32), q59.2) else if vin (S.1 12 2) 5 then (p_X7_readNumber (7 : Int32) (20 : Int32) (sI q59.2 18 (S.1 12 2).toNatClampNeg (q59.2.1 1 5))).bind (fun (q82 : Int32 × St) => (if q82.1 = 0 then some ((0 : Int32), q82.2) else if vin (S.1 12 2) 5 then (p_X7_readNumber (0 : Int32) (((sI q82.2 19 (S.1 12 2).toNatClampNeg (q82.2.1 1 5)).1 12 0) - (1 : Int32)) (sI q82.2 19 (S.1 12 2).toNatClampNeg (q82.2.1 1 5))).bind (fun (q108 : Int32 × St) => (if q108.1 = 0 then some ((0 : Int32), q108.2) else if vin (S.1 12 2) 5 then (p_X7_readClose (sI (sI q108.2 20 (S.1 12 2).toNatClampNeg (q108.2.1 1 5)) 12 2 (((sI q108.2 20 (S.1 12 2).toNatClampNeg (q108.2.1 1 5)).1 12 2) + (1 : Int32)))).bind (fun (q137 : Int32 × St) => if q137.1 = 0 ∨ q137.1 = 1 then some (q137.1, q137.2) else none) else none)) else none)) else none)) else none)) else none else none))
def p_X7_readDoor (S : St) : Option (Int32 × St) :=
  (p_X7_readNumber (0 : Int32) ((S.1 12 0) - (1 : Int32)) S).bind (fun (q13 : Int32 × St) => (if q13.1 = 0 then some ((0 : Int32), q13.2) else if vin (S.1 12 1) 8 then (p_X7_readNumber (0 : Int32) (((sI q13.2 13 (S.1 12 1).toNatClampNeg (q13.2.1 1 5)).1 12 0) - (1 : Int32)) (sI q13.2 13 (S.1 12 1).toNatClampNeg (q13.2.1 1 5))).bind (fun (q39 : Int32 × St) => (if q39.1 = 0 then some ((0 : Int32), q39.2) else if vin (S.1 12 1) 8 then (if (q39.2.1 1 5) = (q39.2.1 13 (S.1 12 1).toNatClampNeg) then some ((0 : Int32), q39.2) else if vin (S.1 12 1) 8 then (p_X7_readNumber (0 : Int32) (40 : Int32) (sI q39.2 14 (S.1 12 1).toNatClampNeg (q39.2.1 1 5))).bind (fun (q74 : Int32 × St) => (if q74.1 = 0 then some ((0 : Int32), q74.2) else if vin (S.1 12 1) 8 then (p_X7_readClose (sI (sI q74.2 15 (S.1 12 1).toNatClampNeg (q74.2.1 1 5)) 12 1 (((sI q74.2 15 (S.1 12 1).toNatClampNeg (q74.2.1 1 5)).1 12 1) + (1 : Int32)))).bind (fun (q103 : Int32 × St) => if q103.1 = 0 ∨ q103.1 = 1 then some (q103.1, q103.2) else none) else none)) else none) else none)) else none))
def p_X7_readPlaces (S : St) : Option (Int32 × St) :=
  (p_X7_readNumber (1 : Int32) (8 : Int32) S).bind (fun (q4 : Int32 × St) => (if q4.1 = 0 then some ((0 : Int32), q4.2) else (p_X7_readClose (sI q4.2 12 0 (q4.2.1 1 5))).bind (fun (q21 : Int32 × St) => if q21.1 = 0 ∨ q21.1 = 1 then some (q21.1, q21.2) else none)))
def p_X7_readStep (S : St) : Option (Int32 × St) :=
  (p_X7_readNumber (0 : Int32) (40 : Int32) (sI S 1 6 (1 : Int32))).bind (fun (q9 : Int32 × St) => (if q9.1 = 0 then some ((0 : Int32), q9.2) else (p_X7_readClose (sI q9.2 12 3 (q9.2.1 1 5))).bind (fun (q26 : Int32 × St) => if q26.1 = 0 ∨ q26.1 = 1 then some (q26.1, q26.2) else none)))
def p_X7_readItem (x2 : Int32) (S : St) : Option (Int32 × St) :=
  (if (S.1 1 4) = 98 then (if (5 : Int32) ≤ (S.1 12 2) then some ((0 : Int32), S) else (p_X7_readBoy S).bind (fun (q99 : Int32 × St) => (if q99.1 = 0 then some ((0 : Int32), q99.2) else some ((1 : Int32), q99.2)))) else (if (S.1 1 4) = 100 then (if (8 : Int32) ≤ (S.1 12 1) then some ((0 : Int32), S) else (p_X7_readDoor S).bind (fun (q77 : Int32 × St) => (if q77.1 = 0 then some ((0 : Int32), q77.2) else some ((1 : Int32), q77.2)))) else (if (S.1 1 4) = 110 then (if x2 = 0 then (p_X7_readPlaces S).bind (fun (q54 : Int32 × St) => (if q54.1 = 0 then some ((0 : Int32), q54.2) else some ((1 : Int32), q54.2))) else some ((0 : Int32), S)) else (if (S.1 1 4) = 115 then (if (S.1 1 6) = 0 then (p_X7_readStep S).bind (fun (q120 : Int32 × St) => (if q120.1 = 0 then some ((0 : Int32), q120.2) else some ((1 : Int32), q120.2))) else some ((0 : Int32), S)) else some ((0 : Int32), S)))))
def q_X7_readInto_16 : Nat → Int32 → St → Option (Int32 × St)
  | 0, _, _ => none
  | n + 1, x2, S => (if (150 : Int32) < x2 then some ((-10 : Int32) - (S.1 1 3), S) else (p_X7_readToken S).bind (fun (q24 : St) => (if (q24.1 1 4) = (-1 : Int32) then some (x2, q24) else (p_X7_readItem x2 q24).bind (fun (q40 : Int32 × St) => (if q40.1 = 0 then some ((-10 : Int32) - (q40.2.1 1 3), q40.2) else q_X7_readInto_16 n (x2 + 1) q40.2)))))
def p_X7_readInto (S : St) : Option (Int32 × St) :=
  (p_X2_becomesEmpty S).bind (fun (q1 : St) => q_X7_readInto_16 FU (0 : Int32) (sI (sI q1 1 2 (0 : Int32)) 1 6 (0 : Int32)))
def q_X8_beginsIn_46 : Nat → Int32 → St → Option (St)
  | 0, _, _ => none
  | n + 1, x2, S => (if (8 : Int32) ≤ x2 then some (sI (sI S 21 4 (0 : Int32)) 21 5 (0 : Int32)) else if vin x2 8 then if vin x2 8 then q_X8_beginsIn_46 n (x2 + 1) (sI S 25 x2.toNatClampNeg (S.1 6 x2.toNatClampNeg)) else none else none)
def q_X8_beginsIn_2 : Nat → Int32 → St → Option (St)
  | 0, _, _ => none
  | n + 1, x2, S => (if (5 : Int32) ≤ x2 then q_X8_beginsIn_46 FU (0 : Int32) S else if vin x2 5 then if vin x2 5 then if vin x2 5 then if vin x2 5 then if vin x2 5 then q_X8_beginsIn_2 n (x2 + 1) (sI (sI (sI S 22 x2.toNatClampNeg (S.1 11 x2.toNatClampNeg)) 23 x2.toNatClampNeg ((sI S 22 x2.toNatClampNeg (S.1 11 x2.toNatClampNeg)).1 9 x2.toNatClampNeg)) 24 x2.toNatClampNeg (0 : Int32)) else none else none else none else none else none)
def p_X8_beginsIn (S : St) : Option (St) :=
  q_X8_beginsIn_2 FU (0 : Int32) S
def p_X9_type (x1 : Int32) (S : St) : Option (Int32 × St) :=
  (p_X9_within x1 (0 : Int32) (255 : Int32) S).bind (fun (q5 : Int32 × St) => (if q5.1 = 0 then some ((-1 : Int32), q5.2) else (if (q5.2.1 1 1) < (150 : Int32) then if vin (q5.2.1 1 1) 150 then some ((sI (sI q5.2 2 (q5.2.1 1 1).toNatClampNeg x1) 1 1 (((sI q5.2 2 (q5.2.1 1 1).toNatClampNeg x1).1 1 1) + (1 : Int32))).1 1 1, sI (sI q5.2 2 (q5.2.1 1 1).toNatClampNeg x1) 1 1 (((sI q5.2 2 (q5.2.1 1 1).toNatClampNeg x1).1 1 1) + (1 : Int32))) else none else some ((-3 : Int32), q5.2))))
def p_X9_clear (S : St) : Option (Int32 × St) :=
  some (S.1 1 1, sI S 1 1 (0 : Int32))
def q_X9_city_66 : Nat → Int32 → Int32 → St → Option (Int32 × St)
  | 0, _, _, _ => none
  | n + 1, x1, x2, S => (if (2 : Int32) ≤ x2 then some (x1, S) else if vin x2 2 then q_X9_city_66 n x1 (x2 + 1) (sI S 89 x2.toNatClampNeg (0 : Int32)) else none)
def p_X9_city (S : St) : Option (Int32 × St) :=
  (p_X7_readInto S).bind (fun (q8 : Int32 × St) => (if 0 ≤ q8.1 then (p_X2_becomes (sI q8.2 1 1 (0 : Int32))).bind (fun (q34 : St) => (p_X8_beginsIn q34).bind (fun (q45 : St) => q_X9_city_66 FU q8.1 (0 : Int32) (sI (sI q45 26 2 (0 : Int32)) 95 3 (0 : Int32)))) else some (q8.1, q8.2)))
def p_X9_isDoor (x1 : Int32) (S : St) : Option (Int32 × St) :=
  (p_X9_within x1 (0 : Int32) ((S.1 3 1) - (1 : Int32)) S).bind (fun (q11 : Int32 × St) => if q11.1 = 0 ∨ q11.1 = 1 then some (q11.1, q11.2) else none)
def p_X9_door (x1 : Int32) (x2 : Int32) (S : St) : Option (Int32 × St) :=
  (p_X9_isDoor x1 S).bind (fun (q2 : Int32 × St) => (if q2.1 = 0 then some ((-1 : Int32), q2.2) else (if x2 = 0 then if vin x1 8 then some (q2.2.1 4 x1.toNatClampNeg, q2.2) else none else (if x2 = 1 then if vin x1 8 then some (q2.2.1 5 x1.toNatClampNeg, q2.2) else none else (if x2 = 2 then if vin x1 8 then some (q2.2.1 25 x1.toNatClampNeg, q2.2) else none else (if x2 = 3 then some (((q2.2.1 21 4) >>> (x1 &&& 31)) &&& (1 : Int32), q2.2) else (if x2 = 4 then (p_X1_openers x1 q2.2).bind (fun (q91 : Int32 × St) => some (q91.1, q91.2)) else some ((-1 : Int32), q2.2))))))))
def p_X9_isBoy (x1 : Int32) (S : St) : Option (Int32 × St) :=
  (p_X9_within x1 (0 : Int32) ((S.1 3 2) - (1 : Int32)) S).bind (fun (q11 : Int32 × St) => if q11.1 = 0 ∨ q11.1 = 1 then some (q11.1, q11.2) else none)
def p_X9_boy (x1 : Int32) (x2 : Int32) (S : St) : Option (Int32 × St) :=
  (p_X9_isBoy x1 S).bind (fun (q2 : Int32 × St) => (if q2.1 = 0 then some ((-1000000 : Int32), q2.2) else (if x2 = 0 then (p_X1_lowest x1 (0 : Int32) q2.2).bind (fun (q74 : Int32 × St) => some (q74.1, q74.2)) else (if x2 = 1 then (p_X1_highest x1 (0 : Int32) q2.2).bind (fun (q84 : Int32 × St) => some (q84.1, q84.2)) else (if x2 = 2 then if vin x1 5 then some (q2.2.1 23 x1.toNatClampNeg, q2.2) else none else (if x2 = 3 then if vin x1 5 then some (q2.2.1 10 x1.toNatClampNeg, q2.2) else none else (if x2 = 4 then if vin x1 5 then some (q2.2.1 11 x1.toNatClampNeg, q2.2) else none else (if x2 = 5 then if vin x1 5 then some (q2.2.1 22 x1.toNatClampNeg, q2.2) else none else (if x2 = 6 then if vin x1 5 then some (q2.2.1 24 x1.toNatClampNeg, q2.2) else none else (if x2 = 7 then (p_X1_keys x1 (0 : Int32) q2.2).bind (fun (q144 : Int32 × St) => some (q144.1, q144.2)) else (if x2 = 8 then (p_X1_reach x1 (0 : Int32) q2.2).bind (fun (q154 : Int32 × St) => some (q154.1, q154.2)) else (if x2 = 9 then (p_X1_shutOut x1 q2.2).bind (fun (q163 : Int32 × St) => some (q163.1, q163.2)) else some ((-1000000 : Int32), q2.2)))))))))))))
def p_X9_now (x1 : Int32) (S : St) : Option (Int32 × St) :=
  (if x1 = 0 then some (S.1 21 5, S) else (if x1 = 1 then some (S.1 21 4, S) else (if x1 = 2 then (p_X1_atHome S).bind (fun (q56 : Int32 × St) => some (q56.1, q56.2)) else (if x1 = 3 then (p_X4_fewestForAll S).bind (fun (q64 : Int32 × St) => some (q64.1, q64.2)) else (if x1 = 4 then some (S.1 26 2, S) else some ((-1 : Int32), S))))))
def p_X9_goes (x1 : Int32) (x2 : Int32) (S : St) : Option (Int32 × St) :=
  (p_X9_isBoy x1 S).bind (fun (q2 : Int32 × St) => (if q2.1 = 0 then some ((-1 : Int32), q2.2) else (p_X9_isDoor x2 q2.2).bind (fun (q10 : Int32 × St) => (if q10.1 = 0 then some ((-1 : Int32), q10.2) else (p_X1_beyond x1 x2 q10.2).bind (fun (q24 : Int32 × St) => (if q24.1 = (-9 : Int32) then some ((-2 : Int32), q24.2) else (p_X1_opens x1 x2 q24.2).bind (fun (q40 : Int32 × St) => (if q40.1 = 0 then some ((-2 : Int32), q40.2) else (p_X6_remember q40.2).bind (fun (q57 : St) => if vin x1 5 then some (q24.1, sI q57 22 x1.toNatClampNeg q24.1) else none)))))))))
def p_X9_colds (x1 : Int32) (x2 : Int32) (S : St) : Option (Int32 × St) :=
  (p_X9_isBoy x1 S).bind (fun (q2 : Int32 × St) => (if q2.1 = 0 then some ((-1 : Int32), q2.2) else (p_X9_within x2 (0 : Int32) (9 : Int32) q2.2).bind (fun (q12 : Int32 × St) => (if q12.1 = 0 then some ((-1 : Int32), q12.2) else if vin x1 5 then (if (q12.2.1 24 x1.toNatClampNeg) = x2 then some ((-2 : Int32), q12.2) else (p_X6_remember q12.2).bind (fun (q46 : St) => if vin x1 5 then some (q12.2.1 24 x1.toNatClampNeg, sI q46 24 x1.toNatClampNeg x2) else none)) else none))))
def p_X9_props (x1 : Int32) (x2 : Int32) (S : St) : Option (Int32 × St) :=
  (p_X9_isDoor x1 S).bind (fun (q2 : Int32 × St) => (if q2.1 = 0 then some ((-1 : Int32), q2.2) else (p_X9_within x2 (0 : Int32) (1 : Int32) q2.2).bind (fun (q11 : Int32 × St) => (if q11.1 = 0 then some ((-1 : Int32), q11.2) else (if (((q11.2.1 21 4) >>> (x1 &&& 31)) &&& (1 : Int32)) = x2 then some ((-2 : Int32), q11.2) else (p_X6_remember q11.2).bind (fun (q45 : St) => (p_J6_bitCount_0f7a4 ((sI q45 21 4 ((q45.1 21 4) ^^^ ((1 : Int32) <<< (x1 &&& 31)))).1 21 4) (sI q45 21 4 ((q45.1 21 4) ^^^ ((1 : Int32) <<< (x1 &&& 31))))).bind (fun (q70 : Int32 × St) => some (q70.1, q70.2))))))))
def q_X9_year_43 : Nat → Int32 → Int32 → St → Option (Int32 × St)
  | 0, _, _, _ => none
  | n + 1, x1, x2, S => (if (S.1 3 2) ≤ x2 then some (x1, S) else if vin x2 5 then if vin x2 5 then if vin x2 5 then if vin x2 5 then if vin x2 5 then (if ((sI (sI S 23 x2.toNatClampNeg ((S.1 23 x2.toNatClampNeg) + (1 : Int32))) 24 x2.toNatClampNeg (0 : Int32)).1 23 x2.toNatClampNeg) = ((sI (sI S 23 x2.toNatClampNeg ((S.1 23 x2.toNatClampNeg) + (1 : Int32))) 24 x2.toNatClampNeg (0 : Int32)).1 10 x2.toNatClampNeg) then q_X9_year_43 n (x1 + 1) (x2 + 1) (sI (sI S 23 x2.toNatClampNeg ((S.1 23 x2.toNatClampNeg) + (1 : Int32))) 24 x2.toNatClampNeg (0 : Int32)) else q_X9_year_43 n x1 (x2 + 1) (sI (sI S 23 x2.toNatClampNeg ((S.1 23 x2.toNatClampNeg) + (1 : Int32))) 24 x2.toNatClampNeg (0 : Int32))) else none else none else none else none else none)
def p_X9_year (S : St) : Option (Int32 × St) :=
  (if (S.1 21 5) < (99 : Int32) then (p_X6_remember S).bind (fun (q23 : St) => q_X9_year_43 FU (0 : Int32) (0 : Int32) (sI q23 21 5 ((q23.1 21 5) + (1 : Int32)))) else some ((-2 : Int32), S))
def q_X9_michaelmas_15 : Nat → Int32 → Int32 → St → Option (Int32 × St)
  | 0, _, _, _ => none
  | n + 1, x1, x2, S => (if (S.1 3 1) ≤ x2 then some (x1, S) else if vin x2 8 then if ¬ (41 : Int32) = 0 then if vin x2 8 then (p_X1_openers x2 (sI S 25 x2.toNatClampNeg (((S.1 25 x2.toNatClampNeg) + (S.1 3 3)) - ((S.1 25 x2.toNatClampNeg) + (S.1 3 3)) / (41 : Int32) * (41 : Int32)))).bind (fun (q60 : Int32 × St) => (if q60.1 = 0 then q_X9_michaelmas_15 n (x1 + 1) (x2 + 1) q60.2 else q_X9_michaelmas_15 n x1 (x2 + 1) q60.2)) else none else none else none)
def p_X9_michaelmas (S : St) : Option (Int32 × St) :=
  (p_X6_remember S).bind (fun (q8 : St) => q_X9_michaelmas_15 FU (0 : Int32) (0 : Int32) q8)
def p_X9_undo (S : St) : Option (Int32 × St) :=
  (if (S.1 26 2) = 0 then some ((-2 : Int32), S) else (p_X6_bringBack S).bind (fun (q21 : St) => some (q21.1 26 2, q21)))
def p_X9_way (x1 : Int32) (x2 : Int32) (S : St) : Option (Int32 × St) :=
  (p_X9_isBoy x1 S).bind (fun (q2 : Int32 × St) => (if q2.1 = 0 then some ((-1 : Int32), q2.2) else (p_X9_within x2 (0 : Int32) ((q2.2.1 3 0) - (1 : Int32)) q2.2).bind (fun (q19 : Int32 × St) => (if q19.1 = 0 then some ((-1 : Int32), q19.2) else (p_X1_fewestDoors x1 x2 q19.2).bind (fun (q33 : Int32 × St) => some (q33.1, q33.2))))))
def p_X9_posts (x1 : Int32) (S : St) : Option (Int32 × St) :=
  (if x1 = (-1 : Int32) then (p_X4_mostPosts S).bind (fun (q9 : Int32 × St) => some (q9.1, q9.2)) else (p_X9_isBoy x1 S).bind (fun (q15 : Int32 × St) => (if q15.1 = 0 then some ((-1 : Int32), q15.2) else (p_X4_postOf x1 q15.2).bind (fun (q26 : Int32 × St) => some (q26.1, q26.2)))))
def p_X9_tune (x1 : Int32) (S : St) : Option (Int32 × St) :=
  (p_X9_within x1 (0 : Int32) (((1 : Int32) <<< ((S.1 3 2) &&& 31)) - (1 : Int32)) S).bind (fun (q13 : Int32 × St) => (if q13.1 = 0 then some ((-1 : Int32), q13.2) else (p_X1_lowestPitchOf x1 q13.2).bind (fun (q26 : Int32 × St) => some (q26.1, q26.2))))
def p_X9_thirds (x1 : Int32) (x2 : Int32) (S : St) : Option (Int32 × St) :=
  (p_X9_isBoy x1 S).bind (fun (q2 : Int32 × St) => (if q2.1 = 0 then some ((-1 : Int32), q2.2) else (p_X9_isBoy x2 q2.2).bind (fun (q10 : Int32 × St) => (if q10.1 = 0 then some ((-1 : Int32), q10.2) else (if x1 = x2 then some ((-1 : Int32), q10.2) else (p_X1_rowsOfThirds x1 x2 q10.2).bind (fun (q29 : Int32 × St) => some (q29.1, q29.2)))))))
def p_X9_odds (x1 : Int32) (x2 : Int32) (x3 : Int32) (S : St) : Option (Int32 × St) :=
  (p_X9_within x1 (0 : Int32) (10 : Int32) S).bind (fun (q4 : Int32 × St) => (if q4.1 = 0 then some ((-1 : Int32), q4.2) else (p_X9_within x2 (0 : Int32) (5 : Int32) q4.2).bind (fun (q13 : Int32 × St) => (if q13.1 = 0 then some ((-1 : Int32), q13.2) else (p_X9_within x3 (0 : Int32) (1 : Int32) q13.2).bind (fun (q22 : Int32 × St) => (if q22.1 = 0 then some ((-1 : Int32), q22.2) else (p_X1_unbroken q22.2).bind (fun (q38 : Int32 × St) => (p_X0_reckon q38.1 x1 x2 q38.2).bind (fun (q43 : St) => (if x3 = 0 then some (q43.1 93 1, q43) else some (q43.1 93 2, q43))))))))))
def p_X9_hears (x1 : Int32) (x2 : Int32) (S : St) : Option (Int32 × St) :=
  (p_X9_isDoor x1 S).bind (fun (q2 : Int32 × St) => (if q2.1 = 0 then some ((-1 : Int32), q2.2) else (p_X9_within x2 (0 : Int32) (1 : Int32) q2.2).bind (fun (q11 : Int32 × St) => (if q11.1 = 0 then some ((-1 : Int32), q11.2) else (if (q11.2.1 95 3) < (6 : Int32) then (p_X3_add x1 x2 q11.2).bind (fun (q40 : St) => some (q40.1 95 3, q40)) else some ((-3 : Int32), q11.2))))))
def p_X9_forget (S : St) : Option (Int32 × St) :=
  some (S.1 95 3, sI S 95 3 (0 : Int32))
def p_X9_who (S : St) : Option (Int32 × St) :=
  (p_X3_suspects S).bind (fun (q4 : Int32 × St) => some (q4.1, q4.2))
def p_X9_ask (S : St) : Option (Int32 × St) :=
  (p_X3_suspects S).bind (fun (q8 : Int32 × St) => (p_X3_bestDoor q8.1 q8.2).bind (fun (q11 : Int32 × St) => some (q11.1, q11.2)))
def p_X9_rate (x1 : Int32) (x2 : Int32) (S : St) : Option (Int32 × St) :=
  (p_X9_within x1 (0 : Int32) (5 : Int32) S).bind (fun (q3 : Int32 × St) => (if q3.1 = 0 then some ((-1000000 : Int32), q3.2) else (p_X9_isBoy x2 q3.2).bind (fun (q11 : Int32 × St) => (if q11.1 = 0 then some ((-1000000 : Int32), q11.2) else (p_X5_rateAs x1 x2 q11.2).bind (fun (q26 : Int32 × St) => some (q26.1, q26.2))))))
def p_X9_keep (x1 : Int32) (S : St) : Option (Int32 × St) :=
  (p_X9_within x1 (0 : Int32) (1 : Int32) S).bind (fun (q3 : Int32 × St) => (if q3.1 = 0 then some ((-1 : Int32), q3.2) else if vin x1 2 then (LL78[x1.toNatClampNeg]?).bind (fun j16 => (p_X8_becomes j16 21 q3.2).bind (fun (q21 : St) => if vin x1 2 then some ((sI q21 89 x1.toNatClampNeg (1 : Int32)).1 21 5, sI q21 89 x1.toNatClampNeg (1 : Int32)) else none)) else none))
def p_X9_back (x1 : Int32) (S : St) : Option (Int32 × St) :=
  (p_X9_within x1 (0 : Int32) (1 : Int32) S).bind (fun (q3 : Int32 × St) => (if q3.1 = 0 then some ((-1 : Int32), q3.2) else if vin x1 2 then (if (q3.2.1 89 x1.toNatClampNeg) = 0 then some ((-2 : Int32), q3.2) else if vin x1 2 then (LL78[x1.toNatClampNeg]?).bind (fun j32 => (p_X8_becomes 21 j32 q3.2).bind (fun (q33 : St) => some ((sI q33 26 2 (0 : Int32)).1 21 5, sI q33 26 2 (0 : Int32)))) else none) else none))
def p_X9_count (x1 : Int32) (S : St) : Option (Int32 × St) :=
  (if x1 = 0 then some (S.1 3 0, S) else (if x1 = 1 then some (S.1 3 1, S) else (if x1 = 2 then some (S.1 3 2, S) else (if x1 = 3 then some (S.1 3 3, S) else (if x1 = 4 then some (S.1 95 3, S) else (if x1 = 5 then some (S.1 1 1, S) else some ((-1 : Int32), S)))))))
def p_X9_trace (S : St) : Option (Int64 × St) :=
  some (S.2 98, S)
def p_X10_in (x0 : Int32) (x1 : Int32) (x2 : Int32) (S : St) : Option (Int32 × St) :=
  (if x0 < x1 then some ((0 : Int32), S) else (if x2 < x0 then some ((0 : Int32), S) else some ((1 : Int32), S)))
def p_X10_has (x0 : Int32) (x1 : Int32) (S : St) : Option (Int32 × St) :=
  (if ((x0 >>> (x1 &&& 31)) &&& (1 : Int32)) = (1 : Int32) then some ((1 : Int32), S) else some ((0 : Int32), S))
def q_X10_ones_4 : Nat → Int32 → Int32 → Int32 → St → Option (Int32 × St)
  | 0, _, _, _, _ => none
  | n + 1, x0, x1, x2, S => (if (8 : Int32) ≤ x2 then some (x1, S) else q_X10_ones_4 n x0 (x1 + ((x0 >>> (x2 &&& 31)) &&& (1 : Int32))) (x2 + 1) S)
def p_X10_ones (x0 : Int32) (S : St) : Option (Int32 × St) :=
  q_X10_ones_4 FU x0 (0 : Int32) (0 : Int32) S
def p_X10_type (x1 : Int32) (S : St) : Option (Int32 × St) :=
  (p_X10_in x1 (0 : Int32) (255 : Int32) (sI S 99 0 (0 : Int32))).bind (fun (q10 : Int32 × St) => (if q10.1 = 0 then some ((-1 : Int32), q10.2) else (if (q10.2.1 99 3) = (150 : Int32) then some ((-3 : Int32), q10.2) else if vin (q10.2.1 99 3) 150 then some ((sI (sI q10.2 100 (q10.2.1 99 3).toNatClampNeg x1) 99 3 (((sI q10.2 100 (q10.2.1 99 3).toNatClampNeg x1).1 99 3) + (1 : Int32))).1 99 3, sI (sI q10.2 100 (q10.2.1 99 3).toNatClampNeg x1) 99 3 (((sI q10.2 100 (q10.2.1 99 3).toNatClampNeg x1).1 99 3) + (1 : Int32))) else none)))
def p_X10_clear (S : St) : Option (Int32 × St) :=
  some ((sI S 99 0 (0 : Int32)).1 99 3, sI (sI S 99 0 (0 : Int32)) 99 3 (0 : Int32))
def p_X10_letterAt (x1 : Int32) (S : St) : Option (Int32 × St) :=
  (if (S.1 99 3) ≤ x1 then some ((-1 : Int32), S) else if vin x1 150 then some (S.1 100 x1.toNatClampNeg, S) else none)
def p_X10_isLetter (x0 : Int32) (S : St) : Option (Int32 × St) :=
  (if x0 = (110 : Int32) then some ((1 : Int32), S) else (if x0 = (100 : Int32) then some ((1 : Int32), S) else (if x0 = (98 : Int32) then some ((1 : Int32), S) else (if x0 = (115 : Int32) then some ((1 : Int32), S) else some ((0 : Int32), S)))))
def q_X10_advances_125 (ag71 : Int32 → St → Option (St)) (x1 : Int32) (y0 : Int32) (S : St) : Option (St) :=
  ag71 x1 (sI (sI S 99 7 y0) 99 4 (((sI S 99 7 y0).1 99 4) + (1 : Int32)))
def q_X10_advances_71 : Nat → Int32 → St → Option (St)
  | 0, _, _ => none
  | n + 1, x1, S => (p_X10_letterAt (S.1 99 4) S).bind (fun (q76 : Int32 × St) => (p_X10_in q76.1 (48 : Int32) (57 : Int32) q76.2).bind (fun (q83 : Int32 × St) => (if q83.1 = 0 then (if (99 : Int32) < (q83.2.1 99 7) then some (sI q83.2 99 5 (4 : Int32)) else (if x1 = (48 : Int32) then (if ((q83.2.1 99 4) - (q83.2.1 99 6)) ≤ (1 : Int32) then some (sI q83.2 99 5 (2 : Int32)) else some (sI q83.2 99 5 (4 : Int32))) else some (sI q83.2 99 5 (2 : Int32)))) else (if (q83.2.1 99 7) ≤ (99 : Int32) then (p_X10_letterAt (q83.2.1 99 4) q83.2).bind (fun (q118 : Int32 × St) => q_X10_advances_125 (q_X10_advances_71 n) x1 ((((10 : Int32) * (q83.2.1 99 7)) + q118.1) - (48 : Int32)) q118.2) else q_X10_advances_125 (q_X10_advances_71 n) x1 (q83.2.1 99 7) q83.2))))
def q_X10_advances_0 : Nat → St → Option (St)
  | 0, _ => none
  | n + 1, S => (p_X10_letterAt (S.1 99 4) S).bind (fun (q5 : Int32 × St) => (if q5.1 = (32 : Int32) then q_X10_advances_0 n (sI q5.2 99 4 ((q5.2.1 99 4) + (1 : Int32))) else (p_X10_letterAt ((sI q5.2 99 6 (q5.2.1 99 4)).1 99 4) (sI q5.2 99 6 (q5.2.1 99 4))).bind (fun (q39 : Int32 × St) => (if 0 ≤ q39.1 then (p_X10_in q39.1 (48 : Int32) (57 : Int32) q39.2).bind (fun (q60 : Int32 × St) => (if q60.1 = 0 then (if q39.1 = (59 : Int32) then some (sI (sI (sI q60.2 99 4 ((q60.2.1 99 4) + (1 : Int32))) 99 7 q39.1) 99 5 (3 : Int32)) else (p_X10_isLetter q39.1 (sI (sI q60.2 99 4 ((q60.2.1 99 4) + (1 : Int32))) 99 7 q39.1)).bind (fun (q208 : Int32 × St) => (if q208.1 = 0 then some (sI q208.2 99 5 (4 : Int32)) else some (sI q208.2 99 5 (1 : Int32))))) else q_X10_advances_71 FU q39.1 (sI q60.2 99 7 (0 : Int32)))) else some (sI q39.2 99 5 (0 : Int32))))))
def p_X10_advances (S : St) : Option (St) :=
  q_X10_advances_0 FU S
def p_X10_isWell (S : St) : Option (Int32 × St) :=
  (if 0 ≤ (S.1 99 8) then some ((0 : Int32), S) else some ((1 : Int32), S))
def p_X10_takes (x1 : Int32) (S : St) : Option (Int32 × St) :=
  (p_X10_isWell S).bind (fun (q1 : Int32 × St) => (if q1.1 = 0 then some ((0 : Int32), q1.2) else (if x1 = 0 then some ((0 : Int32), sI q1.2 99 8 (q1.2.1 99 6)) else (p_X10_advances q1.2).bind (fun (q29 : St) => some (q1.2.1 99 7, q29)))))
def p_X10_number (x1 : Int32) (x2 : Int32) (S : St) : Option (Int32 × St) :=
  (if (S.1 99 5) = (2 : Int32) then (p_X10_in (S.1 99 7) x1 x2 S).bind (fun (q15 : Int32 × St) => (if q15.1 = 0 then (p_X10_takes (0 : Int32) q15.2).bind (fun (q26 : Int32 × St) => some (q26.1, q26.2)) else (p_X10_takes (1 : Int32) q15.2).bind (fun (q26 : Int32 × St) => some (q26.1, q26.2)))) else (p_X10_takes (0 : Int32) S).bind (fun (q26 : Int32 × St) => some (q26.1, q26.2)))
def p_X10_begins (S : St) : Option (St) :=
  if vin (4 : Int32) 8 then if vin (5 : Int32) 8 then if vin (6 : Int32) 8 then if vin (7 : Int32) 8 then some (sI (sI (sI (sI (sI S 99 9 (0 : Int32)) 101 (4 : Int32).toNatClampNeg (2 : Int32)) 101 (5 : Int32).toNatClampNeg (0 : Int32)) 101 (6 : Int32).toNatClampNeg (0 : Int32)) 101 (7 : Int32).toNatClampNeg (5 : Int32)) else none else none else none else none
def q_X10_mayBegin_18 (x1 : Int32) (S : St) : Option (Int32 × St) :=
  (if (S.1 99 7) = (110 : Int32) then (if x1 = 0 then some ((1 : Int32), S) else some ((0 : Int32), S)) else (if (S.1 99 9) = 0 then some ((1 : Int32), S) else some ((0 : Int32), S)))
def p_X10_mayBegin (x1 : Int32) (S : St) : Option (Int32 × St) :=
  (if (S.1 99 7) = (110 : Int32) then q_X10_mayBegin_18 x1 S else (if (S.1 99 7) = (115 : Int32) then q_X10_mayBegin_18 x1 S else (if (S.1 99 7) = (100 : Int32) then if vin (5 : Int32) 8 then (if (8 : Int32) ≤ (S.1 101 (5 : Int32).toNatClampNeg) then some ((0 : Int32), S) else some ((1 : Int32), S)) else none else if vin (6 : Int32) 8 then (if (5 : Int32) ≤ (S.1 101 (6 : Int32).toNatClampNeg) then some ((0 : Int32), S) else some ((1 : Int32), S)) else none)))
def q_X10_readsItem_103 (x3 : Int32) (y0 : Int32) (y1 : Int32) (S : St) : Option (St) :=
  (p_X10_takes y0 S).bind (fun (q103 : Int32 × St) => if vin y1 16 then (p_X10_number (0 : Int32) (40 : Int32) (sI q103.2 103 y1.toNatClampNeg q103.1)).bind (fun (q116 : Int32 × St) => if vin x3 16 then if vin (5 : Int32) 8 then if vin (5 : Int32) 8 then some (sI (sI q116.2 104 x3.toNatClampNeg q116.1) 101 (5 : Int32).toNatClampNeg (((sI q116.2 104 x3.toNatClampNeg q116.1).1 101 (5 : Int32).toNatClampNeg) + (1 : Int32))) else none else none else none) else none)
def q_X10_readsItem_102 (x3 : Int32) (y0 : Int32) (S : St) : Option (St) :=
  q_X10_readsItem_103 x3 (0 : Int32) y0 S
def p_X10_readsItem (x1 : Int32) (S : St) : Option (St) :=
  if vin (4 : Int32) 8 then (if x1 = (110 : Int32) then (p_X10_number (1 : Int32) (8 : Int32) S).bind (fun (q24 : Int32 × St) => if vin (4 : Int32) 8 then some (sI q24.2 101 (4 : Int32).toNatClampNeg q24.1) else none) else (if x1 = (100 : Int32) then if vin (5 : Int32) 8 then (p_X10_number (0 : Int32) ((S.1 101 (4 : Int32).toNatClampNeg) - (1 : Int32)) S).bind (fun (q55 : Int32 × St) => if vin ((8 : Int32) + (S.1 101 (5 : Int32).toNatClampNeg)) 16 then (if ((sI q55.2 102 ((8 : Int32) + (S.1 101 (5 : Int32).toNatClampNeg)).toNatClampNeg q55.1).1 99 5) = (2 : Int32) then (p_X10_in ((sI q55.2 102 ((8 : Int32) + (S.1 101 (5 : Int32).toNatClampNeg)).toNatClampNeg q55.1).1 99 7) (0 : Int32) ((S.1 101 (4 : Int32).toNatClampNeg) - (1 : Int32)) (sI q55.2 102 ((8 : Int32) + (S.1 101 (5 : Int32).toNatClampNeg)).toNatClampNeg q55.1)).bind (fun (q79 : Int32 × St) => (if q79.1 = 0 then q_X10_readsItem_102 ((8 : Int32) + (S.1 101 (5 : Int32).toNatClampNeg)) ((8 : Int32) + (S.1 101 (5 : Int32).toNatClampNeg)) q79.2 else if vin ((8 : Int32) + (S.1 101 (5 : Int32).toNatClampNeg)) 16 then (if (q79.2.1 99 7) = (q79.2.1 102 ((8 : Int32) + (S.1 101 (5 : Int32).toNatClampNeg)).toNatClampNeg) then q_X10_readsItem_102 ((8 : Int32) + (S.1 101 (5 : Int32).toNatClampNeg)) ((8 : Int32) + (S.1 101 (5 : Int32).toNatClampNeg)) q79.2 else q_X10_readsItem_103 ((8 : Int32) + (S.1 101 (5 : Int32).toNatClampNeg)) (1 : Int32) ((8 : Int32) + (S.1 101 (5 : Int32).toNatClampNeg)) q79.2) else none)) else q_X10_readsItem_102 ((8 : Int32) + (S.1 101 (5 : Int32).toNatClampNeg)) ((8 : Int32) + (S.1 101 (5 : Int32).toNatClampNeg)) (sI q55.2 102 ((8 : Int32) + (S.1 101 (5 : Int32).toNatClampNeg)).toNatClampNeg q55.1)) else none) else none else (if x1 = (98 : Int32) then if vin (6 : Int32) 8 then (p_X10_number (0 : Int32) (40 : Int32) S).bind (fun (q158 : Int32 × St) => if vin ((5 : Int32) + (S.1 101 (6 : Int32).toNatClampNeg)) 10 then if vin ((5 : Int32) + (S.1 101 (6 : Int32).toNatClampNeg)) 10 then (p_X10_number ((sI q158.2 105 ((5 : Int32) + (S.1 101 (6 : Int32).toNatClampNeg)).toNatClampNeg q158.1).1 105 ((5 : Int32) + (S.1 101 (6 : Int32).toNatClampNeg)).toNatClampNeg) (40 : Int32) (sI q158.2 105 ((5 : Int32) + (S.1 101 (6 : Int32).toNatClampNeg)).toNatClampNeg q158.1)).bind (fun (q176 : Int32 × St) => if vin ((5 : Int32) + (S.1 101 (6 : Int32).toNatClampNeg)) 10 then (p_X10_number (7 : Int32) (20 : Int32) (sI q176.2 106 ((5 : Int32) + (S.1 101 (6 : Int32).toNatClampNeg)).toNatClampNeg q176.1)).bind (fun (q190 : Int32 × St) => if vin ((5 : Int32) + (S.1 101 (6 : Int32).toNatClampNeg)) 10 then (p_X10_number (7 : Int32) (20 : Int32) (sI q190.2 107 ((5 : Int32) + (S.1 101 (6 : Int32).toNatClampNeg)).toNatClampNeg q190.1)).bind (fun (q204 : Int32 × St) => if vin ((5 : Int32) + (S.1 101 (6 : Int32).toNatClampNeg)) 10 then (p_X10_number (0 : Int32) ((S.1 101 (4 : Int32).toNatClampNeg) - (1 : Int32)) (sI q204.2 108 ((5 : Int32) + (S.1 101 (6 : Int32).toNatClampNeg)).toNatClampNeg q204.1)).bind (fun (q216 : Int32 × St) => if vin ((5 : Int32) + (S.1 101 (6 : Int32).toNatClampNeg)) 10 then if vin (6 : Int32) 8 then if vin (6 : Int32) 8 then some (sI (sI q216.2 109 ((5 : Int32) + (S.1 101 (6 : Int32).toNatClampNeg)).toNatClampNeg q216.1) 101 (6 : Int32).toNatClampNeg (((sI q216.2 109 ((5 : Int32) + (S.1 101 (6 : Int32).toNatClampNeg)).toNatClampNeg q216.1).1 101 (6 : Int32).toNatClampNeg) + (1 : Int32))) else none else none else none) else none) else none) else none) else none else none) else none else (p_X10_number (0 : Int32) (40 : Int32) S).bind (fun (q244 : Int32 × St) => if vin (7 : Int32) 8 then some (sI (sI q244.2 101 (7 : Int32).toNatClampNeg q244.1) 99 9 (1 : Int32)) else none)))) else none
def q_X10_settles_112 : Nat → Int32 → St → Option (St)
  | 0, _, _ => none
  | n + 1, x1, S => (if (5 : Int32) ≤ x1 then if vin (0 : Int32) 2 then if vin (1 : Int32) 2 then some (sI (sI (sI (sI (sI S 99 3 (0 : Int32)) 99 26 (0 : Int32)) 99 23 (0 : Int32)) 112 (0 : Int32).toNatClampNeg (0 : Int32)) 112 (1 : Int32).toNatClampNeg (0 : Int32)) else none else none else if vin ((5 : Int32) + x1) 10 then if vin x1 10 then if vin ((5 : Int32) + x1) 10 then if vin x1 10 then if vin ((5 : Int32) + x1) 10 then if vin x1 10 then if vin ((5 : Int32) + x1) 10 then if vin x1 10 then if vin x1 10 then if vin ((0 : Int32) + x1) 25 then if vin ((5 : Int32) + x1) 10 then if vin ((5 : Int32) + x1) 25 then q_X10_settles_112 n (x1 + 1) (sI (sI (sI (sI (sI (sI S 105 x1.toNatClampNeg (S.1 105 ((5 : Int32) + x1).toNatClampNeg)) 106 x1.toNatClampNeg ((sI S 105 x1.toNatClampNeg (S.1 105 ((5 : Int32) + x1).toNatClampNeg)).1 106 ((5 : Int32) + x1).toNatClampNeg)) 108 x1.toNatClampNeg ((sI (sI S 105 x1.toNatClampNeg (S.1 105 ((5 : Int32) + x1).toNatClampNeg)) 106 x1.toNatClampNeg ((sI S 105 x1.toNatClampNeg (S.1 105 ((5 : Int32) + x1).toNatClampNeg)).1 106 ((5 : Int32) + x1).toNatClampNeg)).1 108 ((5 : Int32) + x1).toNatClampNeg)) 109 x1.toNatClampNeg ((sI (sI (sI S 105 x1.toNatClampNeg (S.1 105 ((5 : Int32) + x1).toNatClampNeg)) 106 x1.toNatClampNeg ((sI S 105 x1.toNatClampNeg (S.1 105 ((5 : Int32) + x1).toNatClampNeg)).1 106 ((5 : Int32) + x1).toNatClampNeg)) 108 x1.toNatClampNeg ((sI (sI S 105 x1.toNatClampNeg (S.1 105 ((5 : Int32) + x1).toNatClampNeg)) 106 x1.toNatClampNeg ((sI S 105 x1.toNatClampNeg (S.1 105 ((5 : Int32) + x1).toNatClampNeg)).1 106 ((5 : Int32) + x1).toNatClampNeg)).1 108 ((5 : Int32) + x1).toNatClampNeg)).1 109 ((5 : Int32) + x1).toNatClampNeg)) 110 ((0 : Int32) + x1).toNatClampNeg ((sI (sI (sI (sI S 105 x1.toNatClampNeg (S.1 105 ((5 : Int32) + x1).toNatClampNeg)) 106 x1.toNatClampNeg ((sI S 105 x1.toNatClampNeg (S.1 105 ((5 : Int32) + x1).toNatClampNeg)).1 106 ((5 : Int32) + x1).toNatClampNeg)) 108 x1.toNatClampNeg ((sI (sI S 105 x1.toNatClampNeg (S.1 105 ((5 : Int32) + x1).toNatClampNeg)) 106 x1.toNatClampNeg ((sI S 105 x1.toNatClampNeg (S.1 105 ((5 : Int32) + x1).toNatClampNeg)).1 106 ((5 : Int32) + x1).toNatClampNeg)).1 108 ((5 : Int32) + x1).toNatClampNeg)) 109 x1.toNatClampNeg ((sI (sI (sI S 105 x1.toNatClampNeg (S.1 105 ((5 : Int32) + x1).toNatClampNeg)) 106 x1.toNatClampNeg ((sI S 105 x1.toNatClampNeg (S.1 105 ((5 : Int32) + x1).toNatClampNeg)).1 106 ((5 : Int32) + x1).toNatClampNeg)) 108 x1.toNatClampNeg ((sI (sI S 105 x1.toNatClampNeg (S.1 105 ((5 : Int32) + x1).toNatClampNeg)) 106 x1.toNatClampNeg ((sI S 105 x1.toNatClampNeg (S.1 105 ((5 : Int32) + x1).toNatClampNeg)).1 106 ((5 : Int32) + x1).toNatClampNeg)).1 108 ((5 : Int32) + x1).toNatClampNeg)).1 109 ((5 : Int32) + x1).toNatClampNeg)).1 109 x1.toNatClampNeg)) 110 ((5 : Int32) + x1).toNatClampNeg ((sI (sI (sI (sI (sI S 105 x1.toNatClampNeg (S.1 105 ((5 : Int32) + x1).toNatClampNeg)) 106 x1.toNatClampNeg ((sI S 105 x1.toNatClampNeg (S.1 105 ((5 : Int32) + x1).toNatClampNeg)).1 106 ((5 : Int32) + x1).toNatClampNeg)) 108 x1.toNatClampNeg ((sI (sI S 105 x1.toNatClampNeg (S.1 105 ((5 : Int32) + x1).toNatClampNeg)) 106 x1.toNatClampNeg ((sI S 105 x1.toNatClampNeg (S.1 105 ((5 : Int32) + x1).toNatClampNeg)).1 106 ((5 : Int32) + x1).toNatClampNeg)).1 108 ((5 : Int32) + x1).toNatClampNeg)) 109 x1.toNatClampNeg ((sI (sI (sI S 105 x1.toNatClampNeg (S.1 105 ((5 : Int32) + x1).toNatClampNeg)) 106 x1.toNatClampNeg ((sI S 105 x1.toNatClampNeg (S.1 105 ((5 : Int32) + x1).toNatClampNeg)).1 106 ((5 : Int32) + x1).toNatClampNeg)) 108 x1.toNatClampNeg ((sI (sI S 105 x1.toNatClampNeg (S.1 105 ((5 : Int32) + x1).toNatClampNeg)) 106 x1.toNatClampNeg ((sI S 105 x1.toNatClampNeg (S.1 105 ((5 : Int32) + x1).toNatClampNeg)).1 106 ((5 : Int32) + x1).toNatClampNeg)).1 108 ((5 : Int32) + x1).toNatClampNeg)).1 109 ((5 : Int32) + x1).toNatClampNeg)) 110 ((0 : Int32) + x1).toNatClampNeg ((sI (sI (sI (sI S 105 x1.toNatClampNeg (S.1 105 ((5 : Int32) + x1).toNatClampNeg)) 106 x1.toNatClampNeg ((sI S 105 x1.toNatClampNeg (S.1 105 ((5 : Int32) + x1).toNatClampNeg)).1 106 ((5 : Int32) + x1).toNatClampNeg)) 108 x1.toNatClampNeg ((sI (sI S 105 x1.toNatClampNeg (S.1 105 ((5 : Int32) + x1).toNatClampNeg)) 106 x1.toNatClampNeg ((sI S 105 x1.toNatClampNeg (S.1 105 ((5 : Int32) + x1).toNatClampNeg)).1 106 ((5 : Int32) + x1).toNatClampNeg)).1 108 ((5 : Int32) + x1).toNatClampNeg)) 109 x1.toNatClampNeg ((sI (sI (sI S 105 x1.toNatClampNeg (S.1 105 ((5 : Int32) + x1).toNatClampNeg)) 106 x1.toNatClampNeg ((sI S 105 x1.toNatClampNeg (S.1 105 ((5 : Int32) + x1).toNatClampNeg)).1 106 ((5 : Int32) + x1).toNatClampNeg)) 108 x1.toNatClampNeg ((sI (sI S 105 x1.toNatClampNeg (S.1 105 ((5 : Int32) + x1).toNatClampNeg)) 106 x1.toNatClampNeg ((sI S 105 x1.toNatClampNeg (S.1 105 ((5 : Int32) + x1).toNatClampNeg)).1 106 ((5 : Int32) + x1).toNatClampNeg)).1 108 ((5 : Int32) + x1).toNatClampNeg)).1 109 ((5 : Int32) + x1).toNatClampNeg)).1 109 x1.toNatClampNeg)).1 107 ((5 : Int32) + x1).toNatClampNeg)) else none else none else none else none else none else none else none else none else none else none else none else none)
def q_X10_settles_50 : Nat → Int32 → St → Option (St)
  | 0, _, _ => none
  | n + 1, x1, S => (if (8 : Int32) ≤ x1 then q_X10_settles_112 FU (0 : Int32) S else if vin ((8 : Int32) + x1) 16 then if vin x1 16 then if vin ((8 : Int32) + x1) 16 then if vin x1 16 then if vin ((8 : Int32) + x1) 16 then if vin ((15 : Int32) + x1) 25 then q_X10_settles_50 n (x1 + 1) (sI (sI (sI S 102 x1.toNatClampNeg (S.1 102 ((8 : Int32) + x1).toNatClampNeg)) 103 x1.toNatClampNeg ((sI S 102 x1.toNatClampNeg (S.1 102 ((8 : Int32) + x1).toNatClampNeg)).1 103 ((8 : Int32) + x1).toNatClampNeg)) 110 ((15 : Int32) + x1).toNatClampNeg ((sI (sI S 102 x1.toNatClampNeg (S.1 102 ((8 : Int32) + x1).toNatClampNeg)) 103 x1.toNatClampNeg ((sI S 102 x1.toNatClampNeg (S.1 102 ((8 : Int32) + x1).toNatClampNeg)).1 103 ((8 : Int32) + x1).toNatClampNeg)).1 104 ((8 : Int32) + x1).toNatClampNeg)) else none else none else none else none else none else none)
def q_X10_settles_29 : Nat → Int32 → St → Option (St)
  | 0, _, _ => none
  | n + 1, x1, S => (if (25 : Int32) ≤ x1 then q_X10_settles_50 FU (0 : Int32) S else if vin x1 25 then q_X10_settles_29 n (x1 + 1) (sI S 110 x1.toNatClampNeg (0 : Int32)) else none)
def q_X10_settles_2 : Nat → Int32 → St → Option (St)
  | 0, _, _ => none
  | n + 1, x1, S => (if (4 : Int32) ≤ x1 then q_X10_settles_29 FU (0 : Int32) S else if vin ((4 : Int32) + x1) 8 then if vin x1 8 then q_X10_settles_2 n (x1 + 1) (sI S 101 x1.toNatClampNeg (S.1 101 ((4 : Int32) + x1).toNatClampNeg)) else none else none)
def p_X10_settles (S : St) : Option (St) :=
  q_X10_settles_2 FU (0 : Int32) S
def q_X10_city_77 (ag25 : Int32 → St → Option (Int32 × St)) (x1 : Int32) (S : St) : Option (Int32 × St) :=
  (if (S.1 99 5) = (3 : Int32) then (p_X10_takes (1 : Int32) S).bind (fun (q91 : Int32 × St) => ag25 (x1 + 1) q91.2) else (p_X10_takes (0 : Int32) S).bind (fun (q91 : Int32 × St) => ag25 (x1 + 1) q91.2))
def q_X10_city_61 (ag25 : Int32 → St → Option (Int32 × St)) (x1 : Int32) (y0 : Int32) (S : St) : Option (Int32 × St) :=
  (p_X10_takes y0 S).bind (fun (q61 : Int32 × St) => (p_X10_isWell q61.2).bind (fun (q66 : Int32 × St) => (if q66.1 = 0 then q_X10_city_77 ag25 x1 q66.2 else (p_X10_readsItem q61.1 q66.2).bind (fun (q74 : St) => q_X10_city_77 ag25 x1 q74))))
def q_X10_city_60 (ag25 : Int32 → St → Option (Int32 × St)) (x1 : Int32) (S : St) : Option (Int32 × St) :=
  q_X10_city_61 ag25 x1 (0 : Int32) S
def q_X10_city_101 (x1 : Int32) (S : St) : Option (Int32 × St) :=
  (p_X10_isWell S).bind (fun (q102 : Int32 × St) => (if q102.1 = 0 then some ((-10 : Int32) - (q102.2.1 99 8), q102.2) else (p_X10_settles q102.2).bind (fun (q117 : St) => some (x1, q117))))
def q_X10_city_25 : Nat → Int32 → St → Option (Int32 × St)
  | 0, _, _ => none
  | n + 1, x1, S => (p_X10_isWell S).bind (fun (q26 : Int32 × St) => (if q26.1 = 0 then q_X10_city_101 x1 q26.2 else (if (q26.2.1 99 5) = 0 then q_X10_city_101 x1 q26.2 else (if (q26.2.1 99 5) = (1 : Int32) then (p_X10_mayBegin x1 q26.2).bind (fun (q50 : Int32 × St) => (if q50.1 = 0 then q_X10_city_60 (q_X10_city_25 n) x1 q50.2 else q_X10_city_61 (q_X10_city_25 n) x1 (1 : Int32) q50.2)) else q_X10_city_60 (q_X10_city_25 n) x1 q26.2))))
def p_X10_city (S : St) : Option (Int32 × St) :=
  (p_X10_begins (sI (sI (sI S 99 0 (0 : Int32)) 99 8 (-1 : Int32)) 99 4 (0 : Int32))).bind (fun (q16 : St) => (p_X10_advances q16).bind (fun (q22 : St) => q_X10_city_25 FU (0 : Int32) q22))
def p_X10_isDoor (x1 : Int32) (S : St) : Option (Int32 × St) :=
  if vin (1 : Int32) 8 then (p_X10_in x1 (0 : Int32) ((S.1 101 (1 : Int32).toNatClampNeg) - (1 : Int32)) S).bind (fun (q10 : Int32 × St) => if q10.1 = 0 ∨ q10.1 = 1 then some (q10.1, q10.2) else none) else none
def p_X10_isBoy (x1 : Int32) (S : St) : Option (Int32 × St) :=
  if vin (2 : Int32) 8 then (p_X10_in x1 (0 : Int32) ((S.1 101 (2 : Int32).toNatClampNeg) - (1 : Int32)) S).bind (fun (q10 : Int32 × St) => if q10.1 = 0 ∨ q10.1 = 1 then some (q10.1, q10.2) else none) else none
def p_X10_isPlace (x1 : Int32) (S : St) : Option (Int32 × St) :=
  if vin (0 : Int32) 8 then (p_X10_in x1 (0 : Int32) ((S.1 101 (0 : Int32).toNatClampNeg) - (1 : Int32)) S).bind (fun (q10 : Int32 × St) => if q10.1 = 0 ∨ q10.1 = 1 then some (q10.1, q10.2) else none) else none
def p_X10_lowest (x1 : Int32) (x2 : Int32) (S : St) : Option (Int32 × St) :=
  if vin x1 10 then (if x2 < (S.1 108 x1.toNatClampNeg) then if vin x1 10 then some (S.1 105 x1.toNatClampNeg, S) else none else if vin x1 10 then some ((S.1 105 x1.toNatClampNeg) - (12 : Int32), S) else none) else none
def p_X10_highest (x1 : Int32) (x2 : Int32) (x3 : Int32) (S : St) : Option (Int32 × St) :=
  if vin x1 10 then (if x2 < (S.1 108 x1.toNatClampNeg) then if vin x1 10 then some ((S.1 106 x1.toNatClampNeg) - x3, S) else none else if vin x1 10 then some (((S.1 106 x1.toNatClampNeg) - (12 : Int32)) - x3, S) else none) else none
def p_X10_sings (x1 : Int32) (x2 : Int32) (S : St) : Option (Int32 × St) :=
  if vin ((5 : Int32) + x1) 25 then (p_X10_lowest x1 (S.1 110 ((5 : Int32) + x1).toNatClampNeg) S).bind (fun (q11 : Int32 × St) => if vin ((5 : Int32) + x1) 25 then if vin ((10 : Int32) + x1) 25 then (p_X10_highest x1 (q11.2.1 110 ((5 : Int32) + x1).toNatClampNeg) (q11.2.1 110 ((10 : Int32) + x1).toNatClampNeg) q11.2).bind (fun (q33 : Int32 × St) => (p_X10_in x2 q11.1 q33.1 q33.2).bind (fun (q36 : Int32 × St) => if q36.1 = 0 ∨ q36.1 = 1 then some (q36.1, q36.2) else none)) else none else none) else none
def q_X10_keysIn_97 (ag36 : Int32 → Int32 → Int32 → Int32 → Int32 → St → Option (Int32 × St)) (x1 : Int32) (x3 : Int32) (x4 : Int32) (x5 : Int32) (x6 : Int32) (y0 : Int32) (S : St) : Option (Int32 × St) :=
  (if y0 = 0 then ag36 x1 x3 x4 (x5 ||| (0 : Int32)) (x6 + 1) S else ag36 x1 x3 x4 (x5 ||| ((1 : Int32) <<< (x6 &&& 31))) (x6 + 1) S)
def q_X10_keysIn_92 (ag36 : Int32 → Int32 → Int32 → Int32 → Int32 → St → Option (Int32 × St)) (x1 : Int32) (x3 : Int32) (x4 : Int32) (x5 : Int32) (x6 : Int32) (S : St) : Option (Int32 × St) :=
  q_X10_keysIn_97 ag36 x1 x3 x4 x5 x6 (1 : Int32) S
def q_X10_keysIn_36 : Nat → Int32 → Int32 → Int32 → Int32 → Int32 → St → Option (Int32 × St)
  | 0, _, _, _, _, _, _ => none
  | n + 1, x1, x3, x4, x5, x6, S => if vin (1 : Int32) 8 then (if (S.1 101 (1 : Int32).toNatClampNeg) ≤ x6 then some (x5, S) else if vin (23 : Int32) 25 then (p_X10_has (S.1 110 (23 : Int32).toNatClampNeg) x6 S).bind (fun (q56 : Int32 × St) => (if q56.1 = 0 then if vin ((15 : Int32) + x6) 25 then (p_X10_lowest x1 x3 q56.2).bind (fun (q75 : Int32 × St) => (p_X10_highest x1 x3 x4 q75.2).bind (fun (q83 : Int32 × St) => (p_X10_in (q56.2.1 110 ((15 : Int32) + x6).toNatClampNeg) q75.1 q83.1 q83.2).bind (fun (q86 : Int32 × St) => (if q86.1 = 0 then q_X10_keysIn_97 (q_X10_keysIn_36 n) x1 x3 x4 x5 x6 (0 : Int32) q86.2 else q_X10_keysIn_92 (q_X10_keysIn_36 n) x1 x3 x4 x5 x6 q86.2)))) else none else q_X10_keysIn_92 (q_X10_keysIn_36 n) x1 x3 x4 x5 x6 q56.2)) else none) else none
def p_X10_keysIn (x1 : Int32) (x2 : Int32) (S : St) : Option (Int32 × St) :=
  if vin ((5 : Int32) + x1) 25 then (if x2 = 0 then if vin ((10 : Int32) + x1) 25 then q_X10_keysIn_36 FU x1 ((S.1 110 ((5 : Int32) + x1).toNatClampNeg) + x2) (S.1 110 ((10 : Int32) + x1).toNatClampNeg) (0 : Int32) (0 : Int32) S else none else q_X10_keysIn_36 FU x1 ((S.1 110 ((5 : Int32) + x1).toNatClampNeg) + x2) (0 : Int32) (0 : Int32) (0 : Int32) S) else none
def p_X10_keys (x1 : Int32) (S : St) : Option (Int32 × St) :=
  (p_X10_keysIn x1 (0 : Int32) S).bind (fun (q3 : Int32 × St) => some (q3.1, q3.2))
def q_X10_openers_4 : Nat → Int32 → Int32 → Int32 → St → Option (Int32 × St)
  | 0, _, _, _, _ => none
  | n + 1, x1, x2, x3, S => if vin (2 : Int32) 8 then (if (S.1 101 (2 : Int32).toNatClampNeg) ≤ x3 then some (x2, S) else (p_X10_keys x3 S).bind (fun (q17 : Int32 × St) => (p_X10_has q17.1 x1 q17.2).bind (fun (q21 : Int32 × St) => (if q21.1 = 0 then q_X10_openers_4 n x1 (x2 ||| (0 : Int32)) (x3 + 1) q21.2 else q_X10_openers_4 n x1 (x2 ||| ((1 : Int32) <<< (x3 &&& 31))) (x3 + 1) q21.2)))) else none
def p_X10_openers (x1 : Int32) (S : St) : Option (Int32 × St) :=
  q_X10_openers_4 FU x1 (0 : Int32) (0 : Int32) S
def q_X10_wider_53 (ag5 : Int32 → Int32 → Int32 → Int32 → St → Option (Int32 × St)) (x1 : Int32) (x2 : Int32) (x4 : Int32) (y0 : Int32) (y1 : Int32) (S : St) : Option (Int32 × St) :=
  if vin x4 16 then (p_X10_has x1 (S.1 103 x4.toNatClampNeg) S).bind (fun (q64 : Int32 × St) => (if q64.1 = 0 then ag5 x1 x2 ((y1 ||| y0) ||| (0 : Int32)) (x4 + 1) q64.2 else if vin x4 16 then ag5 x1 x2 ((y1 ||| y0) ||| ((1 : Int32) <<< ((q64.2.1 102 x4.toNatClampNeg) &&& 31))) (x4 + 1) q64.2 else none)) else none
def q_X10_wider_5 : Nat → Int32 → Int32 → Int32 → Int32 → St → Option (Int32 × St)
  | 0, _, _, _, _, _ => none
  | n + 1, x1, x2, x3, x4, S => if vin (1 : Int32) 8 then (if (S.1 101 (1 : Int32).toNatClampNeg) ≤ x4 then some (x3, S) else (p_X10_has x2 x4 S).bind (fun (q19 : Int32 × St) => (if q19.1 = 0 then q_X10_wider_5 n x1 x2 x3 (x4 + 1) q19.2 else if vin x4 16 then (p_X10_has x1 (q19.2.1 102 x4.toNatClampNeg) q19.2).bind (fun (q34 : Int32 × St) => (if q34.1 = 0 then q_X10_wider_53 (q_X10_wider_5 n) x1 x2 x4 (0 : Int32) x3 q34.2 else if vin x4 16 then q_X10_wider_53 (q_X10_wider_5 n) x1 x2 x4 ((1 : Int32) <<< ((q34.2.1 103 x4.toNatClampNeg) &&& 31)) x3 q34.2 else none)) else none))) else none
def p_X10_wider (x1 : Int32) (x2 : Int32) (S : St) : Option (Int32 × St) :=
  q_X10_wider_5 FU x1 x2 x1 (0 : Int32) S
def q_X10_reachBy_14 : Nat → Int32 → Int32 → Int32 → St → Option (Int32 × St)
  | 0, _, _, _, _ => none
  | n + 1, x2, x3, x4, S => (if (8 : Int32) ≤ x4 then some (x3, S) else (p_X10_wider x3 x2 S).bind (fun (q24 : Int32 × St) => q_X10_reachBy_14 n x2 q24.1 (x4 + 1) q24.2))
def p_X10_reachBy (x1 : Int32) (x2 : Int32) (S : St) : Option (Int32 × St) :=
  if vin ((0 : Int32) + x1) 25 then q_X10_reachBy_14 FU x2 ((1 : Int32) <<< ((S.1 110 ((0 : Int32) + x1).toNatClampNeg) &&& 31)) (0 : Int32) S else none
def q_X10_shutOf_2 : Nat → Int32 → Int32 → St → Option (Int32 × St)
  | 0, _, _, _ => none
  | n + 1, x1, x2, S => (if (20 : Int32) < x2 then some ((-9 : Int32), S) else (p_X10_keysIn x1 x2 S).bind (fun (q13 : Int32 × St) => (p_X10_reachBy x1 q13.1 q13.2).bind (fun (q16 : Int32 × St) => if vin x1 10 then (p_X10_has q16.1 (q16.2.1 109 x1.toNatClampNeg) q16.2).bind (fun (q25 : Int32 × St) => (if q25.1 = 0 then some (x2, q25.2) else q_X10_shutOf_2 n x1 (x2 + 1) q25.2)) else none)))
def p_X10_shutOf (x1 : Int32) (S : St) : Option (Int32 × St) :=
  q_X10_shutOf_2 FU x1 (0 : Int32) S
def p_X10_door (x1 : Int32) (x2 : Int32) (S : St) : Option (Int32 × St) :=
  (p_X10_isDoor x1 (sI S 99 0 (0 : Int32))).bind (fun (q7 : Int32 × St) => (if q7.1 = 0 then some ((-1 : Int32), q7.2) else (p_X10_in x2 (0 : Int32) (4 : Int32) q7.2).bind (fun (q16 : Int32 × St) => (if q16.1 = 0 then some ((-1 : Int32), q16.2) else (if (2 : Int32) ≤ x2 then (if x2 = (2 : Int32) then if vin ((15 : Int32) + x1) 25 then some (q16.2.1 110 ((15 : Int32) + x1).toNatClampNeg, q16.2) else none else (if x2 = (3 : Int32) then if vin (23 : Int32) 25 then some (((q16.2.1 110 (23 : Int32).toNatClampNeg) >>> (x1 &&& 31)) &&& (1 : Int32), q16.2) else none else (p_X10_openers x1 q16.2).bind (fun (q87 : Int32 × St) => some (q87.1, q87.2)))) else (if x2 = 0 then if vin x1 16 then some (q16.2.1 102 x1.toNatClampNeg, q16.2) else none else if vin x1 16 then some (q16.2.1 103 x1.toNatClampNeg, q16.2) else none))))))
def p_X10_boy (x1 : Int32) (x2 : Int32) (S : St) : Option (Int32 × St) :=
  (p_X10_isBoy x1 (sI S 99 0 (0 : Int32))).bind (fun (q7 : Int32 × St) => (if q7.1 = 0 then some ((-1000000 : Int32), q7.2) else (p_X10_in x2 (0 : Int32) (9 : Int32) q7.2).bind (fun (q17 : Int32 × St) => (if q17.1 = 0 then some ((-1000000 : Int32), q17.2) else (if (4 : Int32) ≤ x2 then (if (7 : Int32) ≤ x2 then (if x2 = (7 : Int32) then (p_X10_keys x1 q17.2).bind (fun (q158 : Int32 × St) => some (q158.1, q158.2)) else (if x2 = (8 : Int32) then (p_X10_keys x1 q17.2).bind (fun (q174 : Int32 × St) => (p_X10_reachBy x1 q174.1 q174.2).bind (fun (q177 : Int32 × St) => some (q177.1, q177.2))) else (p_X10_shutOf x1 q17.2).bind (fun (q185 : Int32 × St) => some (q185.1, q185.2)))) else (if x2 = (4 : Int32) then if vin x1 10 then some (q17.2.1 109 x1.toNatClampNeg, q17.2) else none else (if x2 = (5 : Int32) then if vin ((0 : Int32) + x1) 25 then some (q17.2.1 110 ((0 : Int32) + x1).toNatClampNeg, q17.2) else none else if vin ((10 : Int32) + x1) 25 then some (q17.2.1 110 ((10 : Int32) + x1).toNatClampNeg, q17.2) else none))) else (if x2 = 0 then if vin ((5 : Int32) + x1) 25 then (p_X10_lowest x1 (q17.2.1 110 ((5 : Int32) + x1).toNatClampNeg) q17.2).bind (fun (q45 : Int32 × St) => some (q45.1, q45.2)) else none else (if x2 = (1 : Int32) then if vin ((5 : Int32) + x1) 25 then if vin ((10 : Int32) + x1) 25 then (p_X10_highest x1 (q17.2.1 110 ((5 : Int32) + x1).toNatClampNeg) (q17.2.1 110 ((10 : Int32) + x1).toNatClampNeg) q17.2).bind (fun (q75 : Int32 × St) => some (q75.1, q75.2)) else none else none else (if x2 = (2 : Int32) then if vin ((5 : Int32) + x1) 25 then some (q17.2.1 110 ((5 : Int32) + x1).toNatClampNeg, q17.2) else none else if vin x1 10 then some (q17.2.1 108 x1.toNatClampNeg, q17.2) else none))))))))
def q_X10_atHome_4 : Nat → Int32 → Int32 → St → Option (Int32 × St)
  | 0, _, _, _ => none
  | n + 1, x1, x2, S => if vin (2 : Int32) 8 then (if (S.1 101 (2 : Int32).toNatClampNeg) ≤ x2 then some (x1, S) else if vin ((0 : Int32) + x2) 25 then if vin x2 10 then (if (S.1 110 ((0 : Int32) + x2).toNatClampNeg) = (S.1 109 x2.toNatClampNeg) then q_X10_atHome_4 n (x1 ||| ((1 : Int32) <<< (x2 &&& 31))) (x2 + 1) S else q_X10_atHome_4 n (x1 ||| (0 : Int32)) (x2 + 1) S) else none else none) else none
def p_X10_atHome (S : St) : Option (Int32 × St) :=
  q_X10_atHome_4 FU (0 : Int32) (0 : Int32) S
def q_X10_coverOf_35 (ag25 : Int32 → Int32 → Int32 → St → Option (Int32 × St)) : Nat → Int32 → Int32 → Int32 → Int32 → Int32 → St → Option (Int32 × St)
  | 0, _, _, _, _, _, _ => none
  | n + 1, x1, x2, x3, x4, x5, S => if vin (2 : Int32) 8 then (if (S.1 101 (2 : Int32).toNatClampNeg) ≤ x5 then (if x4 = x2 then (if x1 = (-9 : Int32) then ag25 x3 x2 (x3 + (-1)) S else (p_X10_ones x3 S).bind (fun (q89 : Int32 × St) => (p_X10_ones x1 q89.2).bind (fun (q93 : Int32 × St) => (if q93.1 < q89.1 then ag25 x1 x2 (x3 + (-1)) q93.2 else ag25 x3 x2 (x3 + (-1)) q93.2)))) else ag25 x1 x2 (x3 + (-1)) S) else (p_X10_has x3 x5 S).bind (fun (q51 : Int32 × St) => (if q51.1 = 0 then q_X10_coverOf_35 ag25 n x1 x2 x3 (x4 ||| (0 : Int32)) (x5 + 1) q51.2 else (p_X10_keys x5 q51.2).bind (fun (q60 : Int32 × St) => q_X10_coverOf_35 ag25 n x1 x2 x3 (x4 ||| q60.1) (x5 + 1) q60.2)))) else none
def q_X10_coverOf_25 : Nat → Int32 → Int32 → Int32 → St → Option (Int32 × St)
  | 0, _, _, _, _ => none
  | n + 1, x1, x2, x3, S => (if x3 < 0 then some (x1, S) else q_X10_coverOf_35 (q_X10_coverOf_25 n) FU x1 x2 x3 (0 : Int32) (0 : Int32) S)
def p_X10_coverOf (S : St) : Option (Int32 × St) :=
  if vin (1 : Int32) 8 then if vin (2 : Int32) 8 then q_X10_coverOf_25 FU (-9 : Int32) (((1 : Int32) <<< ((S.1 101 (1 : Int32).toNatClampNeg) &&& 31)) - (1 : Int32)) (((1 : Int32) <<< ((S.1 101 (2 : Int32).toNatClampNeg) &&& 31)) - (1 : Int32)) S else none else none
def p_X10_now (x1 : Int32) (S : St) : Option (Int32 × St) :=
  (p_X10_in x1 (0 : Int32) (4 : Int32) (sI S 99 0 (0 : Int32))).bind (fun (q8 : Int32 × St) => (if q8.1 = 0 then some ((-1 : Int32), q8.2) else (if (2 : Int32) ≤ x1 then (if x1 = (2 : Int32) then (p_X10_atHome q8.2).bind (fun (q49 : Int32 × St) => some (q49.1, q49.2)) else (if x1 = (3 : Int32) then (p_X10_coverOf q8.2).bind (fun (q61 : Int32 × St) => some (q61.1, q61.2)) else some (q8.2.1 99 23, q8.2))) else (if x1 = 0 then if vin (24 : Int32) 25 then some (q8.2.1 110 (24 : Int32).toNatClampNeg, q8.2) else none else if vin (23 : Int32) 25 then some (q8.2.1 110 (23 : Int32).toNatClampNeg, q8.2) else none))))
def q_X10_notes_47 : Nat → Int32 → St → Option (St)
  | 0, _, _ => none
  | n + 1, x1, S => (if (25 : Int32) ≤ x1 then some (sI S 99 23 ((S.1 99 23) + (1 : Int32))) else if vin x1 25 then if vin (((25 : Int32) * (S.1 99 23)) + x1) 250 then q_X10_notes_47 n (x1 + 1) (sI S 113 (((25 : Int32) * (S.1 99 23)) + x1).toNatClampNeg (S.1 110 x1.toNatClampNeg)) else none else none)
def q_X10_notes_11 : Nat → Int32 → St → Option (St)
  | 0, _, _ => none
  | n + 1, x1, S => (if (225 : Int32) ≤ x1 then q_X10_notes_47 FU (0 : Int32) (sI S 99 23 (9 : Int32)) else if vin (x1 + (25 : Int32)) 250 then if vin x1 250 then q_X10_notes_11 n (x1 + 1) (sI S 113 x1.toNatClampNeg (S.1 113 (x1 + (25 : Int32)).toNatClampNeg)) else none else none)
def p_X10_notes (S : St) : Option (St) :=
  (if (S.1 99 23) = (10 : Int32) then q_X10_notes_11 FU (0 : Int32) S else q_X10_notes_47 FU (0 : Int32) S)
def q_X10_goes_103 (x1 : Int32) (y0 : Int32) (y1 : Int32) (S : St) : Option (Int32 × St) :=
  if vin y1 25 then if vin ((0 : Int32) + x1) 25 then some ((sI S 110 y1.toNatClampNeg y0).1 110 ((0 : Int32) + x1).toNatClampNeg, sI S 110 y1.toNatClampNeg y0) else none else none
def q_X10_goes_52 (x1 : Int32) (x2 : Int32) (x3 : Int32) (S : St) : Option (Int32 × St) :=
  (p_X10_keys x1 S).bind (fun (q54 : Int32 × St) => (p_X10_has q54.1 x2 q54.2).bind (fun (q58 : Int32 × St) => (if q58.1 = 0 then some ((-2 : Int32), q58.2) else (p_X10_notes q58.2).bind (fun (q68 : St) => if vin x2 16 then (if (q68.1 102 x2.toNatClampNeg) = x3 then if vin x2 16 then q_X10_goes_103 x1 (q68.1 103 x2.toNatClampNeg) ((0 : Int32) + x1) q68 else none else if vin x2 16 then q_X10_goes_103 x1 (q68.1 102 x2.toNatClampNeg) ((0 : Int32) + x1) q68 else none) else none))))
def p_X10_goes (x1 : Int32) (x2 : Int32) (S : St) : Option (Int32 × St) :=
  (p_X10_isBoy x1 (sI S 99 0 (0 : Int32))).bind (fun (q7 : Int32 × St) => (if q7.1 = 0 then some ((-1 : Int32), q7.2) else (p_X10_isDoor x2 q7.2).bind (fun (q15 : Int32 × St) => (if q15.1 = 0 then some ((-1 : Int32), q15.2) else if vin ((0 : Int32) + x1) 25 then if vin x2 16 then (if (q15.2.1 102 x2.toNatClampNeg) = (q15.2.1 110 ((0 : Int32) + x1).toNatClampNeg) then q_X10_goes_52 x1 x2 (q15.2.1 110 ((0 : Int32) + x1).toNatClampNeg) q15.2 else if vin x2 16 then (if (q15.2.1 103 x2.toNatClampNeg) = (q15.2.1 110 ((0 : Int32) + x1).toNatClampNeg) then q_X10_goes_52 x1 x2 (q15.2.1 110 ((0 : Int32) + x1).toNatClampNeg) q15.2 else some ((-2 : Int32), q15.2)) else none) else none else none))))
def p_X10_colds (x1 : Int32) (x2 : Int32) (S : St) : Option (Int32 × St) :=
  (p_X10_isBoy x1 (sI S 99 0 (0 : Int32))).bind (fun (q7 : Int32 × St) => (if q7.1 = 0 then some ((-1 : Int32), q7.2) else (p_X10_in x2 (0 : Int32) (9 : Int32) q7.2).bind (fun (q17 : Int32 × St) => (if q17.1 = 0 then some ((-1 : Int32), q17.2) else if vin ((10 : Int32) + x1) 25 then (if (q17.2.1 110 ((10 : Int32) + x1).toNatClampNeg) = x2 then some ((-2 : Int32), q17.2) else (p_X10_notes q17.2).bind (fun (q44 : St) => if vin ((10 : Int32) + x1) 25 then some (q17.2.1 110 ((10 : Int32) + x1).toNatClampNeg, sI q44 110 ((10 : Int32) + x1).toNatClampNeg x2) else none)) else none))))
def p_X10_props (x1 : Int32) (x2 : Int32) (S : St) : Option (Int32 × St) :=
  (p_X10_isDoor x1 (sI S 99 0 (0 : Int32))).bind (fun (q7 : Int32 × St) => (if q7.1 = 0 then some ((-1 : Int32), q7.2) else (p_X10_in x2 (0 : Int32) (1 : Int32) q7.2).bind (fun (q16 : Int32 × St) => (if q16.1 = 0 then some ((-1 : Int32), q16.2) else if vin (23 : Int32) 25 then (if (((q16.2.1 110 (23 : Int32).toNatClampNeg) >>> (x1 &&& 31)) &&& (1 : Int32)) = x2 then some ((-2 : Int32), q16.2) else (p_X10_notes q16.2).bind (fun (q43 : St) => if vin (23 : Int32) 25 then if vin (23 : Int32) 25 then if vin (23 : Int32) 25 then (p_X10_ones ((sI q43 110 (23 : Int32).toNatClampNeg ((q43.1 110 (23 : Int32).toNatClampNeg) ^^^ ((1 : Int32) <<< (x1 &&& 31)))).1 110 (23 : Int32).toNatClampNeg) (sI q43 110 (23 : Int32).toNatClampNeg ((q43.1 110 (23 : Int32).toNatClampNeg) ^^^ ((1 : Int32) <<< (x1 &&& 31))))).bind (fun (q66 : Int32 × St) => some (q66.1, q66.2)) else none else none else none)) else none))))
def q_X10_year_28 : Nat → Int32 → Int32 → St → Option (Int32 × St)
  | 0, _, _, _ => none
  | n + 1, x1, x2, S => if vin (2 : Int32) 8 then (if (S.1 101 (2 : Int32).toNatClampNeg) ≤ x2 then if vin (24 : Int32) 25 then if vin (24 : Int32) 25 then some (x1, sI S 110 (24 : Int32).toNatClampNeg ((S.1 110 (24 : Int32).toNatClampNeg) + (1 : Int32))) else none else none else if vin ((5 : Int32) + x2) 25 then if vin ((5 : Int32) + x2) 25 then if vin ((10 : Int32) + x2) 25 then if vin ((5 : Int32) + x2) 25 then if vin x2 10 then (if ((sI (sI S 110 ((5 : Int32) + x2).toNatClampNeg ((S.1 110 ((5 : Int32) + x2).toNatClampNeg) + (1 : Int32))) 110 ((10 : Int32) + x2).toNatClampNeg (0 : Int32)).1 110 ((5 : Int32) + x2).toNatClampNeg) = ((sI (sI S 110 ((5 : Int32) + x2).toNatClampNeg ((S.1 110 ((5 : Int32) + x2).toNatClampNeg) + (1 : Int32))) 110 ((10 : Int32) + x2).toNatClampNeg (0 : Int32)).1 108 x2.toNatClampNeg) then q_X10_year_28 n (x1 + (1 : Int32)) (x2 + 1) (sI (sI S 110 ((5 : Int32) + x2).toNatClampNeg ((S.1 110 ((5 : Int32) + x2).toNatClampNeg) + (1 : Int32))) 110 ((10 : Int32) + x2).toNatClampNeg (0 : Int32)) else q_X10_year_28 n (x1 + (0 : Int32)) (x2 + 1) (sI (sI S 110 ((5 : Int32) + x2).toNatClampNeg ((S.1 110 ((5 : Int32) + x2).toNatClampNeg) + (1 : Int32))) 110 ((10 : Int32) + x2).toNatClampNeg (0 : Int32))) else none else none else none else none else none) else none
def p_X10_year (S : St) : Option (Int32 × St) :=
  if vin (24 : Int32) 25 then (if ((sI S 99 0 (0 : Int32)).1 110 (24 : Int32).toNatClampNeg) = (99 : Int32) then some ((-2 : Int32), sI S 99 0 (0 : Int32)) else (p_X10_notes (sI S 99 0 (0 : Int32))).bind (fun (q21 : St) => q_X10_year_28 FU (0 : Int32) (0 : Int32) q21)) else none
def q_X10_michaelmas_59 : Nat → Int32 → Int32 → St → Option (Int32 × St)
  | 0, _, _, _ => none
  | n + 1, x1, x2, S => if vin (1 : Int32) 8 then (if (S.1 101 (1 : Int32).toNatClampNeg) ≤ x2 then some (x1, S) else (p_X10_openers x2 S).bind (fun (q72 : Int32 × St) => (if q72.1 = 0 then q_X10_michaelmas_59 n (x1 + (1 : Int32)) (x2 + 1) q72.2 else q_X10_michaelmas_59 n (x1 + (0 : Int32)) (x2 + 1) q72.2))) else none
def q_X10_michaelmas_13 : Nat → Int32 → Int32 → St → Option (Int32 × St)
  | 0, _, _, _ => none
  | n + 1, x1, x2, S => if vin (1 : Int32) 8 then (if (S.1 101 (1 : Int32).toNatClampNeg) ≤ x2 then q_X10_michaelmas_59 FU x1 (0 : Int32) S else if vin ((15 : Int32) + x2) 25 then if vin (3 : Int32) 8 then if ¬ (41 : Int32) = 0 then if vin ((15 : Int32) + x2) 25 then q_X10_michaelmas_13 n x1 (x2 + 1) (sI S 110 ((15 : Int32) + x2).toNatClampNeg (((S.1 110 ((15 : Int32) + x2).toNatClampNeg) + (S.1 101 (3 : Int32).toNatClampNeg)) - ((S.1 110 ((15 : Int32) + x2).toNatClampNeg) + (S.1 101 (3 : Int32).toNatClampNeg)) / (41 : Int32) * (41 : Int32))) else none else none else none else none) else none
def p_X10_michaelmas (S : St) : Option (Int32 × St) :=
  (p_X10_notes (sI S 99 0 (0 : Int32))).bind (fun (q6 : St) => q_X10_michaelmas_13 FU (0 : Int32) (0 : Int32) q6)
def q_X10_undo_27 : Nat → Int32 → St → Option (Int32 × St)
  | 0, _, _ => none
  | n + 1, x1, S => (if (25 : Int32) ≤ x1 then some (S.1 99 23, S) else if vin (((25 : Int32) * (S.1 99 23)) + x1) 250 then if vin x1 25 then q_X10_undo_27 n (x1 + 1) (sI S 110 x1.toNatClampNeg (S.1 113 (((25 : Int32) * (S.1 99 23)) + x1).toNatClampNeg)) else none else none)
def p_X10_undo (S : St) : Option (Int32 × St) :=
  (if ((sI S 99 0 (0 : Int32)).1 99 23) = 0 then some ((-2 : Int32), sI S 99 0 (0 : Int32)) else q_X10_undo_27 FU (0 : Int32) (sI (sI S 99 0 (0 : Int32)) 99 23 (((sI S 99 0 (0 : Int32)).1 99 23) - (1 : Int32))))
def q_X10_way_37 : Nat → Int32 → Int32 → Int32 → Int32 → St → Option (Int32 × St)
  | 0, _, _, _, _, _ => none
  | n + 1, x1, x2, x3, x4, S => (if (8 : Int32) ≤ x4 then some ((-9 : Int32), S) else (p_X10_has x3 x2 S).bind (fun (q46 : Int32 × St) => (if q46.1 = 0 then (p_X10_keys x1 q46.2).bind (fun (q59 : Int32 × St) => (p_X10_wider x3 q59.1 q59.2).bind (fun (q62 : Int32 × St) => q_X10_way_37 n x1 x2 q62.1 (x4 + 1) q62.2)) else some (x4, q46.2))))
def p_X10_way (x1 : Int32) (x2 : Int32) (S : St) : Option (Int32 × St) :=
  (p_X10_isBoy x1 (sI S 99 0 (0 : Int32))).bind (fun (q7 : Int32 × St) => (if q7.1 = 0 then some ((-1 : Int32), q7.2) else (p_X10_isPlace x2 q7.2).bind (fun (q15 : Int32 × St) => (if q15.1 = 0 then some ((-1 : Int32), q15.2) else if vin ((0 : Int32) + x1) 25 then q_X10_way_37 FU x1 x2 ((1 : Int32) <<< ((q15.2.1 110 ((0 : Int32) + x1).toNatClampNeg) &&& 31)) (0 : Int32) q15.2 else none))))
def q_X10_nines_4 : Nat → Int32 → Int32 → Int32 → St → Option (Int32 × St)
  | 0, _, _, _, _ => none
  | n + 1, x0, x1, x2, S => (if x0 ≤ x2 then some (x1, S) else q_X10_nines_4 n x0 (x1 * (9 : Int32)) (x2 + 1) S)
def p_X10_nines (x0 : Int32) (S : St) : Option (Int32 × St) :=
  q_X10_nines_4 FU x0 (1 : Int32) (0 : Int32) S
def p_X10_postIn (x1 : Int32) (x2 : Int32) (S : St) : Option (Int32 × St) :=
  if vin (2 : Int32) 8 then (p_X10_nines (((S.1 101 (2 : Int32).toNatClampNeg) - (1 : Int32)) - x2) S).bind (fun (q11 : Int32 × St) => if ¬ q11.1 = 0 then if ¬ (9 : Int32) = 0 then some ((x1 / q11.1) - (x1 / q11.1) / (9 : Int32) * (9 : Int32), q11.2) else none else none) else none
def q_X10_standing_7 : Nat → Int32 → Int32 → Int32 → Int32 → St → Option (Int32 × St)
  | 0, _, _, _, _, _ => none
  | n + 1, x1, x2, x3, x4, S => if vin (2 : Int32) 8 then (if (S.1 101 (2 : Int32).toNatClampNeg) ≤ x4 then some (x2, S) else (p_X10_postIn x1 x4 S).bind (fun (q22 : Int32 × St) => (if (8 : Int32) ≤ q22.1 then q_X10_standing_7 n x1 x2 x3 (x4 + 1) q22.2 else (p_X10_keys x4 q22.2).bind (fun (q37 : Int32 × St) => (p_X10_has q37.1 q22.1 q37.2).bind (fun (q42 : Int32 × St) => (if q42.1 = 0 then some ((-9 : Int32), q42.2) else (p_X10_has x3 q22.1 q42.2).bind (fun (q51 : Int32 × St) => (if q51.1 = 0 then q_X10_standing_7 n x1 (x2 + 1) (x3 ||| ((1 : Int32) <<< (q22.1 &&& 31))) (x4 + 1) q51.2 else some ((-9 : Int32), q51.2))))))))) else none
def p_X10_standing (x1 : Int32) (S : St) : Option (Int32 × St) :=
  q_X10_standing_7 FU x1 (0 : Int32) (0 : Int32) (0 : Int32) S
def q_X10_posts_61 (ag27 : Int32 → Int32 → Int32 → Int32 → St → Option (Int32 × St)) (x1 : Int32) (x3 : Int32) (x4 : Int32) (x5 : Int32) (y0 : Int32) (S : St) : Option (Int32 × St) :=
  (if x5 ≤ x3 then ag27 x1 y0 x3 (x4 + 1) S else ag27 x1 y0 x5 (x4 + 1) S)
def q_X10_posts_27 : Nat → Int32 → Int32 → Int32 → Int32 → St → Option (Int32 × St)
  | 0, _, _, _, _, _ => none
  | n + 1, x1, x2, x3, x4, S => if vin (2 : Int32) 8 then (p_X10_nines (S.1 101 (2 : Int32).toNatClampNeg) S).bind (fun (q35 : Int32 × St) => (if q35.1 ≤ x4 then (if x1 = (-1 : Int32) then some (x3, q35.2) else (p_X10_postIn x2 x1 q35.2).bind (fun (q91 : Int32 × St) => (if q91.1 = (8 : Int32) then some ((-9 : Int32), q91.2) else some (q91.1, q91.2)))) else (p_X10_standing x4 q35.2).bind (fun (q44 : Int32 × St) => (if q44.1 ≤ x3 then q_X10_posts_61 (q_X10_posts_27 n) x1 x3 x4 q44.1 x2 q44.2 else q_X10_posts_61 (q_X10_posts_27 n) x1 x3 x4 q44.1 x4 q44.2)))) else none
def p_X10_posts (x1 : Int32) (S : St) : Option (Int32 × St) :=
  (if x1 = (-1 : Int32) then q_X10_posts_27 FU x1 (0 : Int32) (-1 : Int32) (0 : Int32) (sI S 99 0 (0 : Int32)) else (p_X10_isBoy x1 (sI S 99 0 (0 : Int32))).bind (fun (q12 : Int32 × St) => (if q12.1 = 0 then some ((-1 : Int32), q12.2) else q_X10_posts_27 FU x1 (0 : Int32) (-1 : Int32) (0 : Int32) q12.2)))
def q_X10_tune_38 (ag27 : Int32 → Int32 → St → Option (Int32 × St)) : Nat → Int32 → Int32 → Int32 → Int32 → St → Option (Int32 × St)
  | 0, _, _, _, _, _ => none
  | n + 1, x1, x2, x3, x4, S => if vin (2 : Int32) 8 then (if (S.1 101 (2 : Int32).toNatClampNeg) ≤ x4 then (if x3 = x1 then some (x2, S) else ag27 x1 (x2 + 1) S) else (p_X10_sings x4 x2 S).bind (fun (q54 : Int32 × St) => (if q54.1 = 0 then q_X10_tune_38 ag27 n x1 x2 (x3 ||| (0 : Int32)) (x4 + 1) q54.2 else q_X10_tune_38 ag27 n x1 x2 (x3 ||| ((1 : Int32) <<< (x4 &&& 31))) (x4 + 1) q54.2))) else none
def q_X10_tune_27 : Nat → Int32 → Int32 → St → Option (Int32 × St)
  | 0, _, _, _ => none
  | n + 1, x1, x2, S => (if (40 : Int32) < x2 then some ((-9 : Int32), S) else q_X10_tune_38 (q_X10_tune_27 n) FU x1 x2 (0 : Int32) (0 : Int32) S)
def p_X10_tune (x1 : Int32) (S : St) : Option (Int32 × St) :=
  if vin (2 : Int32) 8 then (p_X10_in x1 (0 : Int32) (((1 : Int32) <<< (((sI S 99 0 (0 : Int32)).1 101 (2 : Int32).toNatClampNeg) &&& 31)) - (1 : Int32)) (sI S 99 0 (0 : Int32))).bind (fun (q17 : Int32 × St) => (if q17.1 = 0 then some ((-1 : Int32), q17.2) else q_X10_tune_27 FU x1 (0 : Int32) q17.2)) else none
def q_X10_thirds_102 (ag33 : Int32 → Int32 → Int32 → Int32 → St → Option (Int32 × St)) (ag47 : Int32 → Int32 → Int32 → Int32 → Int32 → St → Option (Int32 × St)) (x1 : Int32) (x2 : Int32) (x4 : Int32) (x5 : Int32) (y0 : Int32) (S : St) : Option (Int32 × St) :=
  if vin ((15 : Int32) + x4) 25 then (p_X10_sings x1 (S.1 110 ((15 : Int32) + x4).toNatClampNeg) S).bind (fun (q114 : Int32 × St) => (if q114.1 = 0 then ag47 x1 x2 (y0 + (0 : Int32)) x4 (x5 + 1) q114.2 else if vin ((15 : Int32) + x5) 25 then (p_X10_sings x2 (q114.2.1 110 ((15 : Int32) + x5).toNatClampNeg) q114.2).bind (fun (q132 : Int32 × St) => (if q132.1 = 0 then ag47 x1 x2 (y0 + (0 : Int32)) x4 (x5 + 1) q132.2 else ag47 x1 x2 (y0 + (1 : Int32)) x4 (x5 + 1) q132.2)) else none)) else none
def q_X10_thirds_47 (ag33 : Int32 → Int32 → Int32 → Int32 → St → Option (Int32 × St)) : Nat → Int32 → Int32 → Int32 → Int32 → Int32 → St → Option (Int32 × St)
  | 0, _, _, _, _, _, _ => none
  | n + 1, x1, x2, x3, x4, x5, S => if vin (1 : Int32) 8 then (if (S.1 101 (1 : Int32).toNatClampNeg) ≤ x5 then ag33 x1 x2 x3 (x4 + 1) S else if vin ((15 : Int32) + x4) 25 then if vin ((15 : Int32) + x5) 25 then (if x4 = x5 then q_X10_thirds_47 ag33 n x1 x2 (x3 + (0 : Int32)) x4 (x5 + 1) S else (if ((S.1 110 ((15 : Int32) + x4).toNatClampNeg) - (S.1 110 ((15 : Int32) + x5).toNatClampNeg)) = (4 : Int32) then q_X10_thirds_102 ag33 (q_X10_thirds_47 ag33 n) x1 x2 x4 x5 x3 S else (if ((S.1 110 ((15 : Int32) + x4).toNatClampNeg) - (S.1 110 ((15 : Int32) + x5).toNatClampNeg)) = (-4 : Int32) then q_X10_thirds_102 ag33 (q_X10_thirds_47 ag33 n) x1 x2 x4 x5 x3 S else q_X10_thirds_47 ag33 n x1 x2 (x3 + (0 : Int32)) x4 (x5 + 1) S))) else none else none) else none
def q_X10_thirds_33 : Nat → Int32 → Int32 → Int32 → Int32 → St → Option (Int32 × St)
  | 0, _, _, _, _, _ => none
  | n + 1, x1, x2, x3, x4, S => if vin (1 : Int32) 8 then (if (S.1 101 (1 : Int32).toNatClampNeg) ≤ x4 then some (x3, S) else q_X10_thirds_47 (q_X10_thirds_33 n) FU x1 x2 x3 x4 (0 : Int32) S) else none
def p_X10_thirds (x1 : Int32) (x2 : Int32) (S : St) : Option (Int32 × St) :=
  (p_X10_isBoy x1 (sI S 99 0 (0 : Int32))).bind (fun (q7 : Int32 × St) => (if q7.1 = 0 then some ((-1 : Int32), q7.2) else (p_X10_isBoy x2 q7.2).bind (fun (q15 : Int32 × St) => (if q15.1 = 0 then some ((-1 : Int32), q15.2) else (if x1 = x2 then some ((-1 : Int32), q15.2) else q_X10_thirds_33 FU x1 x2 (0 : Int32) (0 : Int32) q15.2)))))
def q_X10_power_4 : Nat → Int32 → Int32 → Int32 → Int32 → St → Option (Int32 × St)
  | 0, _, _, _, _, _ => none
  | n + 1, x0, x1, x2, x3, S => (if x1 ≤ x3 then some (x2, S) else q_X10_power_4 n x0 x1 (x2 * x0) (x3 + 1) S)
def p_X10_power (x0 : Int32) (x1 : Int32) (S : St) : Option (Int32 × St) :=
  q_X10_power_4 FU x0 x1 (1 : Int32) (0 : Int32) S
def q_X10_gcd_4 : Nat → Int32 → Int32 → St → Option (Int32 × St)
  | 0, _, _, _ => none
  | n + 1, x2, x3, S => (if x3 = 0 then some (x2, S) else if ¬ x3 = 0 then q_X10_gcd_4 n x3 (x2 - x2 / x3 * x3) S else none)
def p_X10_gcd (x0 : Int32) (x1 : Int32) (S : St) : Option (Int32 × St) :=
  q_X10_gcd_4 FU x0 x1 S
def q_X10_odds_93 : Nat → Int32 → Int32 → Int32 → Int32 → Int32 → Int32 → St → Option (Int32 × St)
  | 0, _, _, _, _, _, _, _ => none
  | n + 1, x1, x2, x3, x4, x5, x6, S => (if ((1 : Int32) <<< (x4 &&& 31)) ≤ x6 then (p_X10_power (10 : Int32) x4 S).bind (fun (q155 : Int32 × St) => (p_X10_gcd x5 q155.1 q155.2).bind (fun (q164 : Int32 × St) => (if x3 = 0 then if ¬ q164.1 = 0 then some (x5 / q164.1, q164.2) else none else if ¬ q164.1 = 0 then some (q155.1 / q164.1, q164.2) else none))) else (p_X10_ones x6 S).bind (fun (q106 : Int32 × St) => (if x2 < q106.1 then q_X10_odds_93 n x1 x2 x3 x4 (x5 + (0 : Int32)) (x6 + 1) q106.2 else (p_X10_ones x6 q106.2).bind (fun (q116 : Int32 × St) => (p_X10_power x1 q116.1 q116.2).bind (fun (q119 : Int32 × St) => (p_X10_ones x6 q119.2).bind (fun (q130 : Int32 × St) => (p_X10_power ((10 : Int32) - x1) (x4 - q130.1) q130.2).bind (fun (q134 : Int32 × St) => q_X10_odds_93 n x1 x2 x3 x4 (x5 + (q119.1 * q134.1)) (x6 + 1) q134.2)))))))
def q_X10_odds_41 : Nat → Int32 → Int32 → Int32 → Int32 → Int32 → St → Option (Int32 × St)
  | 0, _, _, _, _, _, _ => none
  | n + 1, x1, x2, x3, x4, x5, S => if vin (2 : Int32) 8 then (if (S.1 101 (2 : Int32).toNatClampNeg) ≤ x5 then q_X10_odds_93 FU x1 x2 x3 x4 (0 : Int32) (0 : Int32) S else if vin ((5 : Int32) + x5) 25 then if vin x5 10 then (if (S.1 108 x5.toNatClampNeg) ≤ (S.1 110 ((5 : Int32) + x5).toNatClampNeg) then q_X10_odds_41 n x1 x2 x3 (x4 + (0 : Int32)) (x5 + 1) S else q_X10_odds_41 n x1 x2 x3 (x4 + (1 : Int32)) (x5 + 1) S) else none else none) else none
def p_X10_odds (x1 : Int32) (x2 : Int32) (x3 : Int32) (S : St) : Option (Int32 × St) :=
  (p_X10_in x1 (0 : Int32) (10 : Int32) (sI S 99 0 (0 : Int32))).bind (fun (q9 : Int32 × St) => (if q9.1 = 0 then some ((-1 : Int32), q9.2) else (p_X10_in x2 (0 : Int32) (5 : Int32) q9.2).bind (fun (q18 : Int32 × St) => (if q18.1 = 0 then some ((-1 : Int32), q18.2) else (p_X10_in x3 (0 : Int32) (1 : Int32) q18.2).bind (fun (q27 : Int32 × St) => (if q27.1 = 0 then some ((-1 : Int32), q27.2) else q_X10_odds_41 FU x1 x2 x3 (0 : Int32) (0 : Int32) q27.2))))))
def p_X10_hears (x1 : Int32) (x2 : Int32) (S : St) : Option (Int32 × St) :=
  (p_X10_isDoor x1 (sI S 99 0 (0 : Int32))).bind (fun (q7 : Int32 × St) => (if q7.1 = 0 then some ((-1 : Int32), q7.2) else (p_X10_in x2 (0 : Int32) (1 : Int32) q7.2).bind (fun (q16 : Int32 × St) => (if q16.1 = 0 then some ((-1 : Int32), q16.2) else (if (q16.2.1 99 26) = (6 : Int32) then some ((-3 : Int32), q16.2) else if vin (q16.2.1 99 26) 6 then if vin ((sI q16.2 114 (q16.2.1 99 26).toNatClampNeg x1).1 99 26) 6 then some ((sI (sI (sI q16.2 114 (q16.2.1 99 26).toNatClampNeg x1) 115 ((sI q16.2 114 (q16.2.1 99 26).toNatClampNeg x1).1 99 26).toNatClampNeg x2) 99 26 (((sI (sI q16.2 114 (q16.2.1 99 26).toNatClampNeg x1) 115 ((sI q16.2 114 (q16.2.1 99 26).toNatClampNeg x1).1 99 26).toNatClampNeg x2).1 99 26) + (1 : Int32))).1 99 26, sI (sI (sI q16.2 114 (q16.2.1 99 26).toNatClampNeg x1) 115 ((sI q16.2 114 (q16.2.1 99 26).toNatClampNeg x1).1 99 26).toNatClampNeg x2) 99 26 (((sI (sI q16.2 114 (q16.2.1 99 26).toNatClampNeg x1) 115 ((sI q16.2 114 (q16.2.1 99 26).toNatClampNeg x1).1 99 26).toNatClampNeg x2).1 99 26) + (1 : Int32))) else none else none)))))
def p_X10_forget (S : St) : Option (Int32 × St) :=
  some ((sI S 99 0 (0 : Int32)).1 99 26, sI (sI S 99 0 (0 : Int32)) 99 26 (0 : Int32))
def q_X10_whoCan_19 (ag4 : Int32 → Int32 → St → Option (Int32 × St)) : Nat → Int32 → Int32 → Int32 → Int32 → St → Option (Int32 × St)
  | 0, _, _, _, _, _ => none
  | n + 1, x1, x2, x3, x4, S => (if (S.1 99 26) ≤ x4 then (if x3 = 0 then ag4 (x1 ||| (0 : Int32)) (x2 + 1) S else ag4 (x1 ||| ((1 : Int32) <<< (x2 &&& 31))) (x2 + 1) S) else (if x3 = 0 then q_X10_whoCan_19 ag4 n x1 x2 (0 : Int32) (x4 + 1) S else (p_X10_keys x2 S).bind (fun (q34 : Int32 × St) => if vin x4 6 then if vin x4 6 then (if ((q34.1 >>> ((q34.2.1 114 x4.toNatClampNeg) &&& 31)) &&& (1 : Int32)) = (q34.2.1 115 x4.toNatClampNeg) then q_X10_whoCan_19 ag4 n x1 x2 (1 : Int32) (x4 + 1) q34.2 else q_X10_whoCan_19 ag4 n x1 x2 (0 : Int32) (x4 + 1) q34.2) else none else none)))
def q_X10_whoCan_4 : Nat → Int32 → Int32 → St → Option (Int32 × St)
  | 0, _, _, _ => none
  | n + 1, x1, x2, S => if vin (2 : Int32) 8 then (if (S.1 101 (2 : Int32).toNatClampNeg) ≤ x2 then some (x1, S) else q_X10_whoCan_19 (q_X10_whoCan_4 n) FU x1 x2 (1 : Int32) (0 : Int32) S) else none
def p_X10_whoCan (S : St) : Option (Int32 × St) :=
  q_X10_whoCan_4 FU (0 : Int32) (0 : Int32) S
def p_X10_who (S : St) : Option (Int32 × St) :=
  (p_X10_whoCan (sI S 99 0 (0 : Int32))).bind (fun (q6 : Int32 × St) => some (q6.1, q6.2))
def q_X10_ask_87 (ag25 : Int32 → Int32 → Int32 → Int32 → Int32 → St → Option (Int32 × St)) (x1 : Int32) (x2 : Int32) (x4 : Int32) (x5 : Int32) (x7 : Int32) (y0 : Int32) (S : St) : Option (Int32 × St) :=
  (if x4 ≤ x7 then ag25 x1 x2 y0 x4 (x5 + 1) S else ag25 x1 x2 y0 x7 (x5 + 1) S)
def q_X10_ask_72 (ag25 : Int32 → Int32 → Int32 → Int32 → Int32 → St → Option (Int32 × St)) (x1 : Int32) (x2 : Int32) (x3 : Int32) (x4 : Int32) (x5 : Int32) (y0 : Int32) (S : St) : Option (Int32 × St) :=
  (if x4 ≤ y0 then q_X10_ask_87 ag25 x1 x2 x4 x5 y0 x3 S else q_X10_ask_87 ag25 x1 x2 x4 x5 y0 x5 S)
def q_X10_ask_25 : Nat → Int32 → Int32 → Int32 → Int32 → Int32 → St → Option (Int32 × St)
  | 0, _, _, _, _, _, _ => none
  | n + 1, x1, x2, x3, x4, x5, S => if vin (1 : Int32) 8 then (if (S.1 101 (1 : Int32).toNatClampNeg) ≤ x5 then some (x3, S) else (if x2 ≤ (1 : Int32) then some (x3, S) else (p_X10_openers x5 S).bind (fun (q45 : Int32 × St) => (p_X10_ones (x1 &&& q45.1) q45.2).bind (fun (q49 : Int32 × St) => (if q49.1 ≤ (x2 - q49.1) then q_X10_ask_72 (q_X10_ask_25 n) x1 x2 x3 x4 x5 (x2 - q49.1) q49.2 else q_X10_ask_72 (q_X10_ask_25 n) x1 x2 x3 x4 x5 q49.1 q49.2))))) else none
def p_X10_ask (S : St) : Option (Int32 × St) :=
  (p_X10_whoCan (sI S 99 0 (0 : Int32))).bind (fun (q6 : Int32 × St) => (p_X10_ones q6.1 q6.2).bind (fun (q11 : Int32 × St) => q_X10_ask_25 FU q6.1 q11.1 (-9 : Int32) (99 : Int32) (0 : Int32) q11.2))
def q_X10_rate_125 (x1 : Int32) (x2 : Int32) (x3 : Int32) (x4 : Int32) (x5 : Int32) (y0 : Int64) (y1 : Int64) (S : St) : Option (Int32 × St) :=
  (if x1 = 0 then some (x3, sL S 99 (y1 + y0)) else (if x1 = (1 : Int32) then some (x4, sL S 99 (y1 + y0)) else (if x1 = (2 : Int32) then some (x5, sL S 99 (y1 + y0)) else (if x1 = (3 : Int32) then some ((2 : Int32) * x4, sL S 99 (y1 + y0)) else (if x1 = (4 : Int32) then some (x5 + x2, sL S 99 (y1 + y0)) else if vin ((0 : Int32) + x2) 25 then some (x3 + ((sL S 99 (y1 + y0)).1 110 ((0 : Int32) + x2).toNatClampNeg), sL S 99 (y1 + y0)) else none)))))
def p_X10_rate (x1 : Int32) (x2 : Int32) (S : St) : Option (Int32 × St) :=
  (p_X10_in x1 (0 : Int32) (5 : Int32) (sI S 99 0 (0 : Int32))).bind (fun (q8 : Int32 × St) => (if q8.1 = 0 then some ((-1000000 : Int32), q8.2) else (p_X10_isBoy x2 q8.2).bind (fun (q16 : Int32 × St) => (if q16.1 = 0 then some ((-1000000 : Int32), q16.2) else if vin ((5 : Int32) + x2) 25 then if vin ((10 : Int32) + x2) 25 then (p_X10_highest x2 (q16.2.1 110 ((5 : Int32) + x2).toNatClampNeg) (q16.2.1 110 ((10 : Int32) + x2).toNatClampNeg) q16.2).bind (fun (q47 : Int32 × St) => (p_X10_keys x2 q47.2).bind (fun (q56 : Int32 × St) => (p_X10_ones q56.1 q56.2).bind (fun (q59 : Int32 × St) => (if x1 = 0 then q_X10_rate_125 x1 x2 (q16.2.1 110 ((5 : Int32) + x2).toNatClampNeg) ((q16.2.1 110 ((5 : Int32) + x2).toNatClampNeg) + q47.1) ((q16.2.1 110 ((5 : Int32) + x2).toNatClampNeg) - q59.1) (1 : Int64) (q59.2.2 99) q59.2 else (if x1 = (1 : Int32) then q_X10_rate_125 x1 x2 (q16.2.1 110 ((5 : Int32) + x2).toNatClampNeg) ((q16.2.1 110 ((5 : Int32) + x2).toNatClampNeg) + q47.1) ((q16.2.1 110 ((5 : Int32) + x2).toNatClampNeg) - q59.1) (11 : Int64) (q59.2.2 99) q59.2 else (if x1 = (2 : Int32) then q_X10_rate_125 x1 x2 (q16.2.1 110 ((5 : Int32) + x2).toNatClampNeg) ((q16.2.1 110 ((5 : Int32) + x2).toNatClampNeg) + q47.1) ((q16.2.1 110 ((5 : Int32) + x2).toNatClampNeg) - q59.1) (101 : Int64) (q59.2.2 99) q59.2 else (if x1 = (3 : Int32) then q_X10_rate_125 x1 x2 (q16.2.1 110 ((5 : Int32) + x2).toNatClampNeg) ((q16.2.1 110 ((5 : Int32) + x2).toNatClampNeg) + q47.1) ((q16.2.1 110 ((5 : Int32) + x2).toNatClampNeg) - q59.1) (1011 : Int64) (q59.2.2 99) q59.2 else (if x1 = (4 : Int32) then q_X10_rate_125 x1 x2 (q16.2.1 110 ((5 : Int32) + x2).toNatClampNeg) ((q16.2.1 110 ((5 : Int32) + x2).toNatClampNeg) + q47.1) ((q16.2.1 110 ((5 : Int32) + x2).toNatClampNeg) - q59.1) (10101 : Int64) (q59.2.2 99) q59.2 else q_X10_rate_125 x1 x2 (q16.2.1 110 ((5 : Int32) + x2).toNatClampNeg) ((q16.2.1 110 ((5 : Int32) + x2).toNatClampNeg) + q47.1) ((q16.2.1 110 ((5 : Int32) + x2).toNatClampNeg) - q59.1) (100001 : Int64) (q59.2.2 99) q59.2)))))))) else none else none))))
def q_X10_keep_18 : Nat → Int32 → Int32 → St → Option (Int32 × St)
  | 0, _, _, _ => none
  | n + 1, x1, x2, S => (if (25 : Int32) ≤ x2 then if vin x1 2 then if vin (24 : Int32) 25 then some ((sI S 112 x1.toNatClampNeg (1 : Int32)).1 110 (24 : Int32).toNatClampNeg, sI S 112 x1.toNatClampNeg (1 : Int32)) else none else none else if vin x2 25 then if vin (((25 : Int32) * x1) + x2) 50 then q_X10_keep_18 n x1 (x2 + 1) (sI S 111 (((25 : Int32) * x1) + x2).toNatClampNeg (S.1 110 x2.toNatClampNeg)) else none else none)
def p_X10_keep (x1 : Int32) (S : St) : Option (Int32 × St) :=
  (p_X10_in x1 (0 : Int32) (1 : Int32) (sI S 99 0 (0 : Int32))).bind (fun (q8 : Int32 × St) => (if q8.1 = 0 then some ((-1 : Int32), q8.2) else q_X10_keep_18 FU x1 (0 : Int32) q8.2))
def q_X10_back_30 : Nat → Int32 → Int32 → St → Option (Int32 × St)
  | 0, _, _, _ => none
  | n + 1, x1, x2, S => (if (25 : Int32) ≤ x2 then if vin (24 : Int32) 25 then some ((sI S 99 23 (0 : Int32)).1 110 (24 : Int32).toNatClampNeg, sI S 99 23 (0 : Int32)) else none else if vin (((25 : Int32) * x1) + x2) 50 then if vin x2 25 then q_X10_back_30 n x1 (x2 + 1) (sI S 110 x2.toNatClampNeg (S.1 111 (((25 : Int32) * x1) + x2).toNatClampNeg)) else none else none)
def p_X10_back (x1 : Int32) (S : St) : Option (Int32 × St) :=
  (p_X10_in x1 (0 : Int32) (1 : Int32) (sI S 99 0 (0 : Int32))).bind (fun (q8 : Int32 × St) => (if q8.1 = 0 then some ((-1 : Int32), q8.2) else if vin x1 2 then (if (q8.2.1 112 x1.toNatClampNeg) = 0 then some ((-2 : Int32), q8.2) else q_X10_back_30 FU x1 (0 : Int32) q8.2) else none))
def p_X10_count (x1 : Int32) (S : St) : Option (Int32 × St) :=
  (p_X10_in x1 (0 : Int32) (3 : Int32) (sI S 99 0 (0 : Int32))).bind (fun (q8 : Int32 × St) => (if q8.1 = 0 then (if x1 = (4 : Int32) then some (q8.2.1 99 26, q8.2) else (if x1 = (5 : Int32) then some (q8.2.1 99 3, q8.2) else some ((-1 : Int32), q8.2))) else if vin x1 8 then some (q8.2.1 101 x1.toNatClampNeg, q8.2) else none))
def p_X10_trace (S : St) : Option (Int64 × St) :=
  some ((sI S 99 0 (0 : Int32)).2 99, sI S 99 0 (0 : Int32))
