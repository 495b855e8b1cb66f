def f_X4_copy_b0 (k0 : Nat) (k1 : Nat) (w : Wd) : Option (Unit × Wd) :=
  bnd (wset w k0 0 (wget w k1 0)) (fun w_1 => bnd (wset w_1 k0 1 (wget w_1 k1 1)) (fun w_3 => bnd (wcpy w_3 (k1 + 1) (k0 + 1) 6) (fun w_5 => bnd (wcpy w_5 (k1 + 2) (k0 + 2) 6) (fun w_7 => bnd (wcpy w_7 (k1 + 3) (k0 + 3) 6) (fun w_9 => bnd (wcpy w_9 (k1 + 4) (k0 + 4) 6) (fun w_11 => some ((), w_11)))))))
def f_X4_copy (k0 : Nat) (k1 : Nat) (w : Wd) : Option (Unit × Wd) := f_X4_copy_b0 k0 k1 w
def f_X0_copyInto (x0 x1 : Option Nat) (w : Wd) : Option (Unit × Wd) := match x0 with
  | none => some ((), w)
  | some a => match x1 with
    | none => some ((), w)
    | some b => grd (decide (kindOf a = 4)) (grd (decide (kindOf b = 4)) (f_X4_copy a b w))
def f_X1_add_b0 (x1 : Int32) (w : Wd) : Option (Int32 × Wd) :=
  if (wget w 1 2) < 0 then (some ((0 : Int32), w)) else (if (wget w 1 2) < (120 : Int32) then (grd (inb (wget w 1 2) 120) (bnd (wset w 2 ((wget w 1 2).toNatClampNeg) x1) (fun w_4 => bnd (wset w_4 1 2 ((wget w_4 1 2) + (1 : Int32))) (fun w_6 => some ((1 : Int32), w_6))))) else (some ((0 : Int32), w)))
def f_X1_add (x1 : Int32) (w : Wd) : Option (Int32 × Wd) := f_X1_add_b0 x1 w
def f_X5_type_b0 (x1 : Int32) (w : Wd) : Option (Int32 × Wd) :=
  if x1 < 0 then (some ((-1 : Int32), w)) else (if x1 ≤ (255 : Int32) then (cal (f_X1_add x1 w) (fun r_4 w_3 => if r_4 = 0 then (some ((-3 : Int32), w_3)) else (some (wget w_3 1 2, w_3)))) else (some ((-1 : Int32), w)))
def f_X5_type (x1 : Int32) (w : Wd) : Option (Int32 × Wd) := f_X5_type_b0 x1 w
def f_X5_clear_b0 (w : Wd) : Option (Int32 × Wd) :=
  bnd (wget w 1 2) (fun x1_1 => bnd (wset w 1 2 (0 : Int32)) (fun w_3 => some (x1_1, w_3)))
def f_X5_clear (w : Wd) : Option (Int32 × Wd) := f_X5_clear_b0 w
def f_X2_setAsAtFirst_b0 (k0 : Nat) (w : Wd) : Option (Unit × Wd) :=
  bnd (wset w k0 0 (0 : Int32)) (fun w_1 => bnd (wset w_1 k0 1 (3 : Int32)) (fun w_3 => bnd (wset w_3 k0 2 (1 : Int32)) (fun w_5 => bnd (wset w_5 k0 3 (20 : Int32)) (fun w_7 => some ((), w_7)))))
def f_X2_setAsAtFirst (k0 : Nat) (w : Wd) : Option (Unit × Wd) := f_X2_setAsAtFirst_b0 k0 w
def f_X1_letterAt_b0 (x1 : Int32) (w : Wd) : Option (Int32 × Wd) :=
  if x1 < 0 then (some ((0 : Int32), w)) else (if (120 : Int32) ≤ x1 then (some ((0 : Int32), w)) else (if (wget w 1 2) ≤ x1 then (some ((0 : Int32), w)) else (grd (inb x1 120) (some (wget w 2 x1.toNatClampNeg, w)))))
def f_X1_letterAt (x1 : Int32) (w : Wd) : Option (Int32 × Wd) := f_X1_letterAt_b0 x1 w
def f_X1_isDigit_b0 (x0 : Int32) (w : Wd) : Option (Int32 × Wd) :=
  if x0 < (48 : Int32) then (some ((0 : Int32), w)) else (if (57 : Int32) < x0 then (some ((0 : Int32), w)) else (some ((1 : Int32), w)))
def f_X1_isDigit (x0 : Int32) (w : Wd) : Option (Int32 × Wd) := f_X1_isDigit_b0 x0 w
def f_X1_takeDigits_b101 (w : Wd) : Option (Unit × Wd) :=
  bnd (0 : Int32) (fun x1_1 => if (99 : Int32) < (wget w 1 6) then (bnd (wset w 1 5 (2 : Int32)) (fun w_4 => some ((), w_4))) else (if x1_1 = 0 then (bnd (wset w 1 5 (1 : Int32)) (fun w_7 => some ((), w_7))) else (bnd (wset w 1 5 (2 : Int32)) (fun w_9 => some ((), w_9)))))
def f_X1_takeDigits_b71 (w : Wd) : Option (Unit × Wd) :=
  cal (f_X1_letterAt (wget w 1 4) w) (fun r_2 w_1 => if r_2 = (48 : Int32) then (if ((wget w_1 1 3) - (wget w_1 1 4)) ≤ (1 : Int32) then (f_X1_takeDigits_b101 w_1) else (bnd (1 : Int32) (fun x1_6 => if (99 : Int32) < (wget w_1 1 6) then (bnd (wset w_1 1 5 (2 : Int32)) (fun w_9 => some ((), w_9))) else (if x1_6 = 0 then (bnd (wset w_1 1 5 (1 : Int32)) (fun w_12 => some ((), w_12))) else (bnd (wset w_1 1 5 (2 : Int32)) (fun w_14 => some ((), w_14))))))) else (f_X1_takeDigits_b101 w_1))
def f_X1_takeDigits_h7 (kh7 : (Int32 → Wd → Option (Unit × Wd))) (x1 : Int32) (w : Wd) : Option (Unit × Wd) :=
  if (120 : Int32) ≤ x1 then (f_X1_takeDigits_b71 w) else (cal (f_X1_letterAt (wget w 1 3) w) (fun r_3 w_2 => cal (f_X1_isDigit r_3 w_2) (fun r_6 w_5 => if r_6 = 0 then (f_X1_takeDigits_b71 w_5) else (cal (f_X1_letterAt (wget w_5 1 3) w_5) (fun r_10 w_9 => bnd (wset w_9 1 6 (imin (100 : Int32) ((((10 : Int32) * (wget w_5 1 6)) + r_10) - (48 : Int32)))) (fun w_12 => bnd (wset w_12 1 3 ((wget w_12 1 3) + (1 : Int32))) (fun w_14 => bnd (x1 + (1 : Int32)) (fun x1_16 => kh7 x1_16 w_14))))))))
def f_X1_takeDigits_l7 : Nat → Int32 → Wd → Option (Unit × Wd)
  | 0, _, _ => none
  | n + 1, x1, w => f_X1_takeDigits_h7 (f_X1_takeDigits_l7 n) x1 w
def f_X1_takeDigits_b0 (w : Wd) : Option (Unit × Wd) :=
  bnd (wset w 1 6 (0 : Int32)) (fun w_1 => bnd (0 : Int32) (fun x1_3 => f_X1_takeDigits_l7 300 x1_3 w_1))
def f_X1_takeDigits (w : Wd) : Option (Unit × Wd) := f_X1_takeDigits_b0 w
def f_X1_isSign_b30 (w : Wd) : Option (Int32 × Wd) :=
  some ((1 : Int32), w)
def f_X1_isSign_b0 (x0 : Int32) (w : Wd) : Option (Int32 × Wd) :=
  if x0 = (100 : Int32) then (f_X1_isSign_b30 w) else (if x0 = (104 : Int32) then (f_X1_isSign_b30 w) else (if x0 = (103 : Int32) then (f_X1_isSign_b30 w) else (if x0 = (114 : Int32) then (f_X1_isSign_b30 w) else (if x0 = (59 : Int32) then (f_X1_isSign_b30 w) else (some ((0 : Int32), w))))))
def f_X1_isSign (x0 : Int32) (w : Wd) : Option (Int32 × Wd) := f_X1_isSign_b0 x0 w
def f_X1_advance_b37 (w : Wd) : Option (Unit × Wd) :=
  bnd (wset w 1 4 (wget w 1 3)) (fun w_1 => cal (f_X1_letterAt (wget w_1 1 3) w_1) (fun r_4 w_3 => bnd r_4 (fun x1_6 => if (wget w_3 1 3) < (wget w_3 1 2) then (cal (f_X1_isDigit x1_6 w_3) (fun r_10 w_9 => if r_10 = 0 then (bnd (wset w_9 1 3 ((wget w_9 1 3) + (1 : Int32))) (fun w_13 => cal (f_X1_isSign x1_6 w_13) (fun r_16 w_15 => if r_16 = 0 then (bnd (wset w_15 1 5 (2 : Int32)) (fun w_19 => some ((), w_19))) else (bnd (wset w_15 1 5 x1_6) (fun w_21 => some ((), w_21)))))) else (cal (f_X1_takeDigits w_9) (fun r_24 w_23 => some ((), w_23))))) else (bnd (wset w_3 1 5 (0 : Int32)) (fun w_26 => some ((), w_26))))))
def f_X1_advance_h2 (kh2 : (Int32 → Wd → Option (Unit × Wd))) (x1 : Int32) (w : Wd) : Option (Unit × Wd) :=
  if (120 : Int32) ≤ x1 then (f_X1_advance_b37 w) else (cal (f_X1_letterAt (wget w 1 3) w) (fun r_3 w_2 => if r_3 = (32 : Int32) then (bnd (wset w_2 1 3 ((wget w_2 1 3) + (1 : Int32))) (fun w_6 => bnd (x1 + (1 : Int32)) (fun x1_8 => kh2 x1_8 w_6))) else (f_X1_advance_b37 w_2)))
def f_X1_advance_l2 : Nat → Int32 → Wd → Option (Unit × Wd)
  | 0, _, _ => none
  | n + 1, x1, w => f_X1_advance_h2 (f_X1_advance_l2 n) x1 w
def f_X1_advance_b0 (w : Wd) : Option (Unit × Wd) :=
  bnd (0 : Int32) (fun x1_1 => f_X1_advance_l2 300 x1_1 w)
def f_X1_advance (w : Wd) : Option (Unit × Wd) := f_X1_advance_b0 w
def f_X1_mayBegin_b0 (k2 : Nat) (x1 : Int32) (w : Wd) : Option (Int32 × Wd) :=
  if x1 = 100 then (if (6 : Int32) ≤ (wget w k2 0) then (some ((0 : Int32), w)) else (some ((1 : Int32), w))) else if x1 = 103 then (if (wget w 1 8) = 0 then (some ((1 : Int32), w)) else (some ((0 : Int32), w))) else if x1 = 104 then (if (wget w 1 7) = 0 then (some ((1 : Int32), w)) else (some ((0 : Int32), w))) else if x1 = 114 then (if (wget w 1 9) = 0 then (some ((1 : Int32), w)) else (some ((0 : Int32), w))) else (some ((0 : Int32), w))
def f_X1_mayBegin (k2 : Nat) (x1 : Int32) (w : Wd) : Option (Int32 × Wd) := f_X1_mayBegin_b0 k2 x1 w
def f_X1_leastOf_b0 (x0 : Int32) (x1 : Int32) (w : Wd) : Option (Int32 × Wd) :=
  if x0 = (114 : Int32) then (some ((9 : Int32), w)) else (if x0 = (100 : Int32) then (if x1 = (1 : Int32) then (some ((1 : Int32), w)) else (some ((0 : Int32), w))) else (some ((0 : Int32), w)))
def f_X1_leastOf (x0 : Int32) (x1 : Int32) (w : Wd) : Option (Int32 × Wd) := f_X1_leastOf_b0 x0 x1 w
def f_X1_greatestOf_b22 (x0 : Int32) (x1 : Int32) (w : Wd) : Option (Int32 × Wd) :=
  if x0 = (100 : Int32) then (if x1 = (2 : Int32) then (some ((3 : Int32), w)) else (some ((9 : Int32), w))) else (some ((9 : Int32), w))
def f_X1_greatestOf_b0 (x0 : Int32) (x1 : Int32) (w : Wd) : Option (Int32 × Wd) :=
  if x0 = (114 : Int32) then (some ((40 : Int32), w)) else (if x0 = (100 : Int32) then (if x1 = 0 then (some ((40 : Int32), w)) else (f_X1_greatestOf_b22 x0 x1 w)) else (f_X1_greatestOf_b22 x0 x1 w))
def f_X1_greatestOf (x0 : Int32) (x1 : Int32) (w : Wd) : Option (Int32 × Wd) := f_X1_greatestOf_b0 x0 x1 w
def f_X2_addDumpling_b0 (k0 : Nat) (w : Wd) : Option (Unit × Wd) :=
  if (wget w k0 0) < 0 then (some ((), w)) else (if (6 : Int32) ≤ (wget w k0 0) then (some ((), w)) else (if (4 : Int32) ≤ (4 : Int32) then (grd (inb (wget w k0 0) 6) (bnd (wset w (k0 + 1) ((wget w k0 0).toNatClampNeg) (wget w 3 0)) (fun w_5 => grd (inb (wget w_5 k0 0) 6) (bnd (wset w_5 (k0 + 2) ((wget w_5 k0 0).toNatClampNeg) (wget w_5 3 1)) (fun w_8 => grd (inb (wget w_8 k0 0) 6) (bnd (wset w_8 (k0 + 3) ((wget w_8 k0 0).toNatClampNeg) (wget w_8 3 2)) (fun w_11 => grd (inb (wget w_11 k0 0) 6) (bnd (wset w_11 (k0 + 4) ((wget w_11 k0 0).toNatClampNeg) (wget w_11 3 3)) (fun w_14 => bnd (wset w_14 k0 0 ((wget w_14 k0 0) + (1 : Int32))) (fun w_16 => some ((), w_16))))))))))) else (some ((), w))))
def f_X2_addDumpling (k0 : Nat) (w : Wd) : Option (Unit × Wd) := f_X2_addDumpling_b0 k0 w
def f_X1_tell_b0 (k2 : Nat) (x1 : Int32) (w : Wd) : Option (Unit × Wd) :=
  if x1 = (100 : Int32) then (cal (f_X2_addDumpling k2 w) (fun r_17 w_16 => some ((), w_16))) else (if x1 = (104 : Int32) then (bnd (wset w k2 1 (wget w 3 0)) (fun w_12 => bnd (wset w_12 1 7 (1 : Int32)) (fun w_14 => some ((), w_14)))) else (if x1 = (103 : Int32) then (bnd (wset w k2 2 (wget w 3 0)) (fun w_8 => bnd (wset w_8 1 8 (1 : Int32)) (fun w_10 => some ((), w_10)))) else (bnd (wset w k2 3 (wget w 3 0)) (fun w_4 => bnd (wset w_4 1 9 (1 : Int32)) (fun w_6 => some ((), w_6))))))
def f_X1_tell (k2 : Nat) (x1 : Int32) (w : Wd) : Option (Unit × Wd) := f_X1_tell_b0 k2 x1 w
def f_X1_readItem_h31 (k1 : Nat) (kh31 : (Int32 → Int32 → Int32 → Wd → Option (Int32 × Wd))) (x2 : Int32) (x3 : Int32) (x4 : Int32) (w : Wd) : Option (Int32 × Wd) :=
  if x3 ≤ x4 then (cal (f_X1_advance w) (fun r_3 w_2 => if (wget w_2 1 5) = (59 : Int32) then (cal (f_X1_tell k1 x2 w_2) (fun r_7 w_6 => some ((1 : Int32), w_6))) else (some ((0 : Int32), w_2)))) else (cal (f_X1_advance w) (fun r_10 w_9 => if (wget w_9 1 5) = (1 : Int32) then (cal (f_X1_leastOf x2 x4 w_9) (fun r_14 w_13 => if (wget w_9 1 6) < r_14 then (some ((0 : Int32), w_13)) else (cal (f_X1_greatestOf x2 x4 w_13) (fun r_18 w_17 => if (wget w_13 1 6) ≤ r_18 then (grd (inb x4 4) (bnd (wset w_17 3 x4.toNatClampNeg (wget w_17 1 6)) (fun w_22 => bnd (x4 + (1 : Int32)) (fun x4_24 => kh31 x2 x3 x4_24 w_22)))) else (some ((0 : Int32), w_17)))))) else (some ((0 : Int32), w_9))))
def f_X1_readItem_l31 (k1 : Nat) : Nat → Int32 → Int32 → Int32 → Wd → Option (Int32 × Wd)
  | 0, _, _, _, _ => none
  | n + 1, x2, x3, x4, w => f_X1_readItem_h31 k1 (f_X1_readItem_l31 k1 n) x2 x3 x4 w
def f_X1_readItem_b0 (k1 : Nat) (w : Wd) : Option (Int32 × Wd) :=
  bnd (wget w 1 5) (fun x2_1 => cal (f_X1_mayBegin k1 x2_1 w) (fun r_4 w_3 => if r_4 = 0 then (some ((0 : Int32), w_3)) else (if x2_1 = (100 : Int32) then (bnd (4 : Int32) (fun x3_12 => bnd (0 : Int32) (fun x4_14 => f_X1_readItem_l31 k1 300 x2_1 x3_12 x4_14 w_3))) else (bnd (1 : Int32) (fun x3_8 => bnd (0 : Int32) (fun x4_10 => f_X1_readItem_l31 k1 300 x2_1 x3_8 x4_10 w_3))))))
def f_X1_readItem (k1 : Nat) (w : Wd) : Option (Int32 × Wd) := f_X1_readItem_b0 k1 w
def f_X1_readInto_b74 (k1 : Nat) (x2 : Int32) (w : Wd) : Option (Int32 × Wd) :=
  some (x2, w)
def f_X1_readInto_h32 (k1 : Nat) (kh32 : (Int32 → Int32 → Wd → Option (Int32 × Wd))) (x2 : Int32) (x3 : Int32) (w : Wd) : Option (Int32 × Wd) :=
  if (120 : Int32) ≤ x3 then (f_X1_readInto_b74 k1 x2 w) else (if (wget w 1 5) = 0 then (f_X1_readInto_b74 k1 x2 w) else (cal (f_X1_readItem k1 w) (fun r_4 w_3 => if r_4 = 0 then (some ((-10 : Int32) - (wget w_3 1 4), w_3)) else (bnd (x2 + (1 : Int32)) (fun x2_7 => cal (f_X1_advance w_3) (fun r_10 w_9 => bnd (x3 + (1 : Int32)) (fun x3_12 => kh32 x2_7 x3_12 w_9)))))))
def f_X1_readInto_l32 (k1 : Nat) : Nat → Int32 → Int32 → Wd → Option (Int32 × Wd)
  | 0, _, _, _ => none
  | n + 1, x2, x3, w => f_X1_readInto_h32 k1 (f_X1_readInto_l32 k1 n) x2 x3 w
def f_X1_readInto_b0 (k1 : Nat) (w : Wd) : Option (Int32 × Wd) :=
  cal (f_X2_setAsAtFirst k1 w) (fun r_2 w_1 => bnd (wset w_1 1 7 (0 : Int32)) (fun w_4 => bnd (wset w_4 1 8 (0 : Int32)) (fun w_6 => bnd (wset w_6 1 9 (0 : Int32)) (fun w_8 => bnd (wset w_8 1 3 (0 : Int32)) (fun w_10 => bnd (0 : Int32) (fun x2_12 => cal (f_X1_advance w_10) (fun r_15 w_14 => bnd (0 : Int32) (fun x3_17 => f_X1_readInto_l32 k1 300 x2_12 x3_17 w_14))))))))
def f_X1_readInto (k1 : Nat) (w : Wd) : Option (Int32 × Wd) := f_X1_readInto_b0 k1 w
def f_X2_copy_b0 (k0 : Nat) (k1 : Nat) (w : Wd) : Option (Unit × Wd) :=
  bnd (wset w k0 0 (wget w k1 0)) (fun w_1 => bnd (wset w_1 k0 1 (wget w_1 k1 1)) (fun w_3 => bnd (wset w_3 k0 2 (wget w_3 k1 2)) (fun w_5 => bnd (wset w_5 k0 3 (wget w_5 k1 3)) (fun w_7 => bnd (wcpy w_7 (k1 + 1) (k0 + 1) 6) (fun w_9 => bnd (wcpy w_9 (k1 + 2) (k0 + 2) 6) (fun w_11 => bnd (wcpy w_11 (k1 + 3) (k0 + 3) 6) (fun w_13 => bnd (wcpy w_13 (k1 + 4) (k0 + 4) 6) (fun w_15 => some ((), w_15)))))))))
def f_X2_copy (k0 : Nat) (k1 : Nat) (w : Wd) : Option (Unit × Wd) := f_X2_copy_b0 k0 k1 w
def f_X4_begin_h15 (k0 : Nat) (k1 : Nat) (kh15 : (Int32 → Wd → Option (Unit × Wd))) (x2 : Int32) (w : Wd) : Option (Unit × Wd) :=
  if (6 : Int32) ≤ x2 then (some ((), w)) else (grd (inb x2 6) (bnd (wset w (k0 + 1) x2.toNatClampNeg (-9 : Int32)) (fun w_3 => grd (inb x2 6) (grd (inb x2 6) (bnd (wset w_3 (k0 + 2) x2.toNatClampNeg (wget w_3 (k1 + 2) x2.toNatClampNeg)) (fun w_7 => grd (inb x2 6) (bnd (wset w_7 (k0 + 3) x2.toNatClampNeg ((1 : Int32) <<< (x2 &&& 31))) (fun w_10 => grd (inb x2 6) (bnd (wset w_10 (k0 + 4) x2.toNatClampNeg (-9 : Int32)) (fun w_13 => bnd (x2 + (1 : Int32)) (fun x2_15 => kh15 x2_15 w_13)))))))))))
def f_X4_begin_l15 (k0 : Nat) (k1 : Nat) : Nat → Int32 → Wd → Option (Unit × Wd)
  | 0, _, _ => none
  | n + 1, x2, w => f_X4_begin_h15 k0 k1 (f_X4_begin_l15 k0 k1 n) x2 w
def f_X4_begin_b0 (k0 : Nat) (k1 : Nat) (w : Wd) : Option (Unit × Wd) :=
  bnd (wset w k0 0 (0 : Int32)) (fun w_1 => bnd (wset w_1 k0 1 (wget w_1 k1 1)) (fun w_3 => bnd (0 : Int32) (fun x2_5 => f_X4_begin_l15 k0 k1 300 x2_5 w_3)))
def f_X4_begin (k0 : Nat) (k1 : Nat) (w : Wd) : Option (Unit × Wd) := f_X4_begin_b0 k0 k1 w
def f_X5_pot_b0 (w : Wd) : Option (Int32 × Wd) :=
  cal (f_X1_readInto 9 w) (fun r_2 w_1 => bnd r_2 (fun x1_4 => if 0 ≤ x1_4 then (cal (f_X2_copy 4 9 w_1) (fun r_8 w_7 => cal (f_X4_begin 14 4 w_7) (fun r_11 w_10 => bnd (wset w_10 1 2 (0 : Int32)) (fun w_13 => bnd (wset w_13 24 2 (0 : Int32)) (fun w_15 => bnd (wset w_15 0 8 (0 : Int32)) (fun w_17 => bnd (wset w_17 86 3 (0 : Int32)) (fun w_19 => some (x1_4, w_19)))))))) else (some (x1_4, w_1))))
def f_X5_pot (w : Wd) : Option (Int32 × Wd) := f_X5_pot_b0 w
def f_X5_isTold_b0 (x1 : Int32) (w : Wd) : Option (Int32 × Wd) :=
  if x1 < 0 then (some ((0 : Int32), w)) else (if (6 : Int32) ≤ x1 then (some ((0 : Int32), w)) else (if (wget w 4 0) ≤ x1 then (some ((0 : Int32), w)) else (some ((1 : Int32), w))))
def f_X5_isTold (x1 : Int32) (w : Wd) : Option (Int32 × Wd) := f_X5_isTold_b0 x1 w
def f_X5_dumpling_b0 (x1 : Int32) (x2 : Int32) (w : Wd) : Option (Int32 × Wd) :=
  cal (f_X5_isTold x1 w) (fun r_2 w_1 => if r_2 = 0 then (some ((-1 : Int32), w_1)) else (if x2 = 0 then (grd (inb x1 6) (some (wget w_1 5 x1.toNatClampNeg, w_1))) else if x2 = 1 then (grd (inb x1 6) (some (wget w_1 16 x1.toNatClampNeg, w_1))) else if x2 = 2 then (grd (inb x1 6) (some (wget w_1 7 x1.toNatClampNeg, w_1))) else if x2 = 3 then (grd (inb x1 6) (some (wget w_1 8 x1.toNatClampNeg, w_1))) else if x2 = 4 then (grd (inb x1 6) (some (wget w_1 15 x1.toNatClampNeg, w_1))) else if x2 = 5 then (grd (inb x1 6) (some (wget w_1 17 x1.toNatClampNeg, w_1))) else if x2 = 6 then (grd (inb x1 6) (some (wget w_1 18 x1.toNatClampNeg, w_1))) else (some ((-1 : Int32), w_1))))
def f_X5_dumpling (x1 : Int32) (x2 : Int32) (w : Wd) : Option (Int32 × Wd) := f_X5_dumpling_b0 x1 x2 w
def f_X2_all_b0 (k0 : Nat) (w : Wd) : Option (Int32 × Wd) :=
  some (((1 : Int32) <<< ((wget w k0 0) &&& 31)) - (1 : Int32), w)
def f_X2_all (k0 : Nat) (w : Wd) : Option (Int32 × Wd) := f_X2_all_b0 k0 w
def f_X4_isDry_b0 (k0 : Nat) (x1 : Int32) (w : Wd) : Option (Int32 × Wd) :=
  grd (inb x1 6) (if (wget w (k0 + 1) x1.toNatClampNeg) = (-9 : Int32) then (some ((1 : Int32), w)) else (some ((0 : Int32), w)))
def f_X4_isDry (k0 : Nat) (x1 : Int32) (w : Wd) : Option (Int32 × Wd) := f_X4_isDry_b0 k0 x1 w
def f_X4_wetOnes_b24 (k0 : Nat) (kh4 : (Int32 → Int32 → Wd → Option (Int32 × Wd))) (x1 : Int32) (x2 : Int32) (w : Wd) : Option (Int32 × Wd) :=
  bnd (x2 + (1 : Int32)) (fun x2_1 => kh4 x1 x2_1 w)
def f_X4_wetOnes_h4 (k0 : Nat) (kh4 : (Int32 → Int32 → Wd → Option (Int32 × Wd))) (x1 : Int32) (x2 : Int32) (w : Wd) : Option (Int32 × Wd) :=
  if (6 : Int32) ≤ x2 then (some (x1, w)) else (cal (f_X4_isDry k0 x2 w) (fun r_3 w_2 => if r_3 = 0 then (bnd (x1 ||| ((1 : Int32) <<< (x2 &&& 31))) (fun x1_6 => f_X4_wetOnes_b24 k0 kh4 x1_6 x2 w_2)) else (f_X4_wetOnes_b24 k0 kh4 x1 x2 w_2)))
def f_X4_wetOnes_l4 (k0 : Nat) : Nat → Int32 → Int32 → Wd → Option (Int32 × Wd)
  | 0, _, _, _ => none
  | n + 1, x1, x2, w => f_X4_wetOnes_h4 k0 (f_X4_wetOnes_l4 k0 n) x1 x2 w
def f_X4_wetOnes_b0 (k0 : Nat) (w : Wd) : Option (Int32 × Wd) :=
  bnd (0 : Int32) (fun x1_1 => bnd (0 : Int32) (fun x2_3 => f_X4_wetOnes_l4 k0 300 x1_1 x2_3 w))
def f_X4_wetOnes (k0 : Nat) (w : Wd) : Option (Int32 × Wd) := f_X4_wetOnes_b0 k0 w
def f_X5_dryOnes_b0 (w : Wd) : Option (Int32 × Wd) :=
  cal (f_X2_all 4 w) (fun r_2 w_1 => cal (f_X4_wetOnes 14 w_1) (fun r_5 w_4 => some (r_2 &&& (r_5 ^^^ (-1 : Int32)), w_4)))
def f_X5_dryOnes (w : Wd) : Option (Int32 × Wd) := f_X5_dryOnes_b0 w
def f_X4_upOnes_b25 (k0 : Nat) (kh4 : (Int32 → Int32 → Wd → Option (Int32 × Wd))) (x1 : Int32) (x2 : Int32) (w : Wd) : Option (Int32 × Wd) :=
  bnd (x2 + (1 : Int32)) (fun x2_1 => kh4 x1 x2_1 w)
def f_X4_upOnes_h4 (k0 : Nat) (kh4 : (Int32 → Int32 → Wd → Option (Int32 × Wd))) (x1 : Int32) (x2 : Int32) (w : Wd) : Option (Int32 × Wd) :=
  if (6 : Int32) ≤ x2 then (some (x1, w)) else (grd (inb x2 6) (if (wget w (k0 + 1) x2.toNatClampNeg) = 0 then (bnd (x1 ||| ((1 : Int32) <<< (x2 &&& 31))) (fun x1_4 => f_X4_upOnes_b25 k0 kh4 x1_4 x2 w)) else (f_X4_upOnes_b25 k0 kh4 x1 x2 w)))
def f_X4_upOnes_l4 (k0 : Nat) : Nat → Int32 → Int32 → Wd → Option (Int32 × Wd)
  | 0, _, _, _ => none
  | n + 1, x1, x2, w => f_X4_upOnes_h4 k0 (f_X4_upOnes_l4 k0 n) x1 x2 w
def f_X4_upOnes_b0 (k0 : Nat) (w : Wd) : Option (Int32 × Wd) :=
  bnd (0 : Int32) (fun x1_1 => bnd (0 : Int32) (fun x2_3 => f_X4_upOnes_l4 k0 300 x1_1 x2_3 w))
def f_X4_upOnes (k0 : Nat) (w : Wd) : Option (Int32 × Wd) := f_X4_upOnes_b0 k0 w
def f_X4_hasRisen_b0 (k0 : Nat) (x1 : Int32) (w : Wd) : Option (Int32 × Wd) :=
  grd (inb x1 6) (if (wget w (k0 + 4) x1.toNatClampNeg) = (-9 : Int32) then (some ((0 : Int32), w)) else (some ((1 : Int32), w)))
def f_X4_hasRisen (k0 : Nat) (x1 : Int32) (w : Wd) : Option (Int32 × Wd) := f_X4_hasRisen_b0 k0 x1 w
def f_X4_risenOnes_b24 (k0 : Nat) (kh4 : (Int32 → Int32 → Wd → Option (Int32 × Wd))) (x1 : Int32) (x2 : Int32) (w : Wd) : Option (Int32 × Wd) :=
  bnd (x2 + (1 : Int32)) (fun x2_1 => kh4 x1 x2_1 w)
def f_X4_risenOnes_h4 (k0 : Nat) (kh4 : (Int32 → Int32 → Wd → Option (Int32 × Wd))) (x1 : Int32) (x2 : Int32) (w : Wd) : Option (Int32 × Wd) :=
  if (6 : Int32) ≤ x2 then (some (x1, w)) else (cal (f_X4_hasRisen k0 x2 w) (fun r_3 w_2 => if r_3 = 0 then (f_X4_risenOnes_b24 k0 kh4 x1 x2 w_2) else (bnd (x1 ||| ((1 : Int32) <<< (x2 &&& 31))) (fun x1_6 => f_X4_risenOnes_b24 k0 kh4 x1_6 x2 w_2))))
def f_X4_risenOnes_l4 (k0 : Nat) : Nat → Int32 → Int32 → Wd → Option (Int32 × Wd)
  | 0, _, _, _ => none
  | n + 1, x1, x2, w => f_X4_risenOnes_h4 k0 (f_X4_risenOnes_l4 k0 n) x1 x2 w
def f_X4_risenOnes_b0 (k0 : Nat) (w : Wd) : Option (Int32 × Wd) :=
  bnd (0 : Int32) (fun x1_1 => bnd (0 : Int32) (fun x2_3 => f_X4_risenOnes_l4 k0 300 x1_1 x2_3 w))
def f_X4_risenOnes (k0 : Nat) (w : Wd) : Option (Int32 × Wd) := f_X4_risenOnes_b0 k0 w
def f_J6_bitCount_0f7a4_b0 (x0 : Int32) (w : Wd) : Option (Int32 × Wd) :=
  bnd (x0 - (((x0.toUInt32 >>> ((1 : Int32).toUInt32 &&& Int32.toUInt32 31)).toInt32) &&& (1431655765 : Int32))) (fun x0_1 => bnd ((x0_1 &&& (858993459 : Int32)) + (((x0_1.toUInt32 >>> ((2 : Int32).toUInt32 &&& Int32.toUInt32 31)).toInt32) &&& (858993459 : Int32))) (fun x0_3 => bnd ((x0_3 + ((x0_3.toUInt32 >>> ((4 : Int32).toUInt32 &&& Int32.toUInt32 31)).toInt32)) &&& (252645135 : Int32)) (fun x0_5 => bnd (x0_5 + ((x0_5.toUInt32 >>> ((8 : Int32).toUInt32 &&& Int32.toUInt32 31)).toInt32)) (fun x0_7 => bnd (x0_7 + ((x0_7.toUInt32 >>> ((16 : Int32).toUInt32 &&& Int32.toUInt32 31)).toInt32)) (fun x0_9 => some (x0_9 &&& (63 : Int32), w))))))
def f_J6_bitCount_0f7a4 (x0 : Int32) (w : Wd) : Option (Int32 × Wd) := f_J6_bitCount_0f7a4_b0 x0 w
def f_X4_sizeOf_b27 (k0 : Nat) (kh4 : (Int32 → Int32 → Int32 → Wd → Option (Int32 × Wd))) (x1 : Int32) (x2 : Int32) (x3 : Int32) (w : Wd) : Option (Int32 × Wd) :=
  bnd (x3 + (1 : Int32)) (fun x3_1 => kh4 x1 x2 x3_1 w)
def f_X4_sizeOf_h4 (k0 : Nat) (kh4 : (Int32 → Int32 → Int32 → Wd → Option (Int32 × Wd))) (x1 : Int32) (x2 : Int32) (x3 : Int32) (w : Wd) : Option (Int32 × Wd) :=
  if (6 : Int32) ≤ x3 then (some (x2, w)) else (if ((x1 >>> (x3 &&& 31)) &&& (1 : Int32)) = 0 then (f_X4_sizeOf_b27 k0 kh4 x1 x2 x3 w) else (grd (inb x3 6) (bnd (x2 + (wget w (k0 + 2) x3.toNatClampNeg)) (fun x2_4 => f_X4_sizeOf_b27 k0 kh4 x1 x2_4 x3 w))))
def f_X4_sizeOf_l4 (k0 : Nat) : Nat → Int32 → Int32 → Int32 → Wd → Option (Int32 × Wd)
  | 0, _, _, _, _ => none
  | n + 1, x1, x2, x3, w => f_X4_sizeOf_h4 k0 (f_X4_sizeOf_l4 k0 n) x1 x2 x3 w
def f_X4_sizeOf_b0 (k0 : Nat) (x1 : Int32) (w : Wd) : Option (Int32 × Wd) :=
  bnd (0 : Int32) (fun x2_1 => bnd (0 : Int32) (fun x3_3 => f_X4_sizeOf_l4 k0 300 x1 x2_1 x3_3 w))
def f_X4_sizeOf (k0 : Nat) (x1 : Int32) (w : Wd) : Option (Int32 × Wd) := f_X4_sizeOf_b0 k0 x1 w
def f_X5_fewestPotsOf_b53 (kh5 : (Int32 → Int32 → Int32 → Wd → Option (Int32 × Wd))) (x1 : Int32) (x2 : Int32) (x3 : Int32) (w : Wd) : Option (Int32 × Wd) :=
  bnd (x3 + (1 : Int32)) (fun x3_1 => kh5 x1 x2 x3_1 w)
def f_X5_fewestPotsOf_h5 (kh5 : (Int32 → Int32 → Int32 → Wd → Option (Int32 × Wd))) (x1 : Int32) (x2 : Int32) (x3 : Int32) (w : Wd) : Option (Int32 × Wd) :=
  if x1 < x3 then (some (x2, w)) else (if (x3 &&& (x1 ^^^ (-1 : Int32))) = 0 then (cal (f_X4_sizeOf 14 x3 w) (fun r_4 w_3 => if (wget w_3 4 3) < r_4 then (f_X5_fewestPotsOf_b53 kh5 x1 x2 x3 w_3) else (grd (inb (x1 &&& (x3 ^^^ (-1 : Int32))) 64) (bnd (imin x2 ((1 : Int32) + (wget w_3 90 ((x1 &&& (x3 ^^^ (-1 : Int32))).toNatClampNeg)))) (fun x2_8 => f_X5_fewestPotsOf_b53 kh5 x1 x2_8 x3 w_3))))) else (f_X5_fewestPotsOf_b53 kh5 x1 x2 x3 w))
def f_X5_fewestPotsOf_l5 : Nat → Int32 → Int32 → Int32 → Wd → Option (Int32 × Wd)
  | 0, _, _, _, _ => none
  | n + 1, x1, x2, x3, w => f_X5_fewestPotsOf_h5 (f_X5_fewestPotsOf_l5 n) x1 x2 x3 w
def f_X5_fewestPotsOf_b0 (x1 : Int32) (w : Wd) : Option (Int32 × Wd) :=
  bnd (6 : Int32) (fun x2_1 => bnd (1 : Int32) (fun x3_3 => f_X5_fewestPotsOf_l5 300 x1 x2_1 x3_3 w))
def f_X5_fewestPotsOf (x1 : Int32) (w : Wd) : Option (Int32 × Wd) := f_X5_fewestPotsOf_b0 x1 w
def f_X5_fewestPots_b46 (kh10 : (Int32 → Int32 → Wd → Option (Int32 × Wd))) (x1 : Int32) (x2 : Int32) (w : Wd) : Option (Int32 × Wd) :=
  bnd (x2 + (1 : Int32)) (fun x2_1 => kh10 x1 x2_1 w)
def f_X5_fewestPots_b86 (x2 : Int32) (w : Wd) : Option (Int32 × Wd) :=
  some (x2, w)
def f_X5_fewestPots_h56 (kh56 : (Int32 → Int32 → Int32 → Wd → Option (Int32 × Wd))) (x1 : Int32) (x2 : Int32) (x3 : Int32) (w : Wd) : Option (Int32 × Wd) :=
  if (64 : Int32) ≤ x3 then (f_X5_fewestPots_b86 x2 w) else (if x1 < x3 then (f_X5_fewestPots_b86 x2 w) else (cal (f_X5_fewestPotsOf x3 w) (fun r_4 w_3 => bnd r_4 (fun x2_6 => grd (inb x3 64) (bnd (wset w_3 90 x3.toNatClampNeg x2_6) (fun w_9 => bnd (x3 + (1 : Int32)) (fun x3_11 => kh56 x1 x2_6 x3_11 w_9)))))))
def f_X5_fewestPots_l56 : Nat → Int32 → Int32 → Int32 → Wd → Option (Int32 × Wd)
  | 0, _, _, _, _ => none
  | n + 1, x1, x2, x3, w => f_X5_fewestPots_h56 (f_X5_fewestPots_l56 n) x1 x2 x3 w
def f_X5_fewestPots_h10 (kh10 : (Int32 → Int32 → Wd → Option (Int32 × Wd))) (x1 : Int32) (x2 : Int32) (w : Wd) : Option (Int32 × Wd) :=
  if (6 : Int32) ≤ x2 then (bnd (0 : Int32) (fun x2_2 => bnd (1 : Int32) (fun x3_4 => f_X5_fewestPots_l56 300 x1 x2_2 x3_4 w))) else (if ((x1 >>> (x2 &&& 31)) &&& (1 : Int32)) = 0 then (f_X5_fewestPots_b46 kh10 x1 x2 w) else (grd (inb x2 6) (if (wget w 16 x2.toNatClampNeg) ≤ (wget w 4 3) then (f_X5_fewestPots_b46 kh10 x1 x2 w) else (some ((-9 : Int32), w)))))
def f_X5_fewestPots_l10 : Nat → Int32 → Int32 → Wd → Option (Int32 × Wd)
  | 0, _, _, _ => none
  | n + 1, x1, x2, w => f_X5_fewestPots_h10 (f_X5_fewestPots_l10 n) x1 x2 w
def f_X5_fewestPots_b0 (w : Wd) : Option (Int32 × Wd) :=
  cal (f_X2_all 4 w) (fun r_2 w_1 => bnd r_2 (fun x1_4 => bnd (0 : Int32) (fun x2_6 => f_X5_fewestPots_l10 300 x1_4 x2_6 w_1)))
def f_X5_fewestPots (w : Wd) : Option (Int32 × Wd) := f_X5_fewestPots_b0 w
def f_X5_now_b0 (x1 : Int32) (w : Wd) : Option (Int32 × Wd) :=
  if x1 = 0 then (some (wget w 14 0, w)) else if x1 = 1 then (some (wget w 14 1, w)) else if x1 = 2 then (cal (f_X5_dryOnes w) (fun r_4 w_3 => some (r_4, w_3))) else if x1 = 3 then (cal (f_X4_upOnes 14 w) (fun r_8 w_7 => some (r_8, w_7))) else if x1 = 4 then (cal (f_X4_risenOnes 14 w) (fun r_12 w_11 => cal (f_J6_bitCount_0f7a4 r_12 w_11) (fun r_15 w_14 => some (r_15, w_14)))) else if x1 = 5 then (cal (f_X5_fewestPots w) (fun r_19 w_18 => some (r_19, w_18))) else if x1 = 6 then (some (wget w 24 2, w)) else (some ((-1 : Int32), w))
def f_X5_now (x1 : Int32) (w : Wd) : Option (Int32 × Wd) := f_X5_now_b0 x1 w
def f_X4_risenAheadOf_b68 (k0 : Nat) (kh4 : (Int32 → Int32 → Int32 → Wd → Option (Int32 × Wd))) (x1 : Int32) (x2 : Int32) (x3 : Int32) (w : Wd) : Option (Int32 × Wd) :=
  bnd (x3 + (1 : Int32)) (fun x3_1 => kh4 x1 x2 x3_1 w)
def f_X4_risenAheadOf_b45 (k0 : Nat) (kh4 : (Int32 → Int32 → Int32 → Wd → Option (Int32 × Wd))) (x1 : Int32) (x2 : Int32) (x3 : Int32) (w : Wd) : Option (Int32 × Wd) :=
  bnd (1 : Int32) (fun x4_1 => cal (f_X4_hasRisen k0 x3 w) (fun r_4 w_3 => if r_4 = 0 then (f_X4_risenAheadOf_b68 k0 kh4 x1 x2 x3 w_3) else (if x4_1 = 0 then (f_X4_risenAheadOf_b68 k0 kh4 x1 x2 x3 w_3) else (bnd (x2 + (1 : Int32)) (fun x2_8 => f_X4_risenAheadOf_b68 k0 kh4 x1 x2_8 x3 w_3)))))
def f_X4_risenAheadOf_b49 (k0 : Nat) (kh4 : (Int32 → Int32 → Int32 → Wd → Option (Int32 × Wd))) (x1 : Int32) (x2 : Int32) (x3 : Int32) (w : Wd) : Option (Int32 × Wd) :=
  bnd (0 : Int32) (fun x4_1 => cal (f_X4_hasRisen k0 x3 w) (fun r_4 w_3 => if r_4 = 0 then (f_X4_risenAheadOf_b68 k0 kh4 x1 x2 x3 w_3) else (if x4_1 = 0 then (f_X4_risenAheadOf_b68 k0 kh4 x1 x2 x3 w_3) else (bnd (x2 + (1 : Int32)) (fun x2_8 => f_X4_risenAheadOf_b68 k0 kh4 x1 x2_8 x3 w_3)))))
def f_X4_risenAheadOf_h4 (k0 : Nat) (kh4 : (Int32 → Int32 → Int32 → Wd → Option (Int32 × Wd))) (x1 : Int32) (x2 : Int32) (x3 : Int32) (w : Wd) : Option (Int32 × Wd) :=
  if (6 : Int32) ≤ x3 then (some (x2, w)) else (grd (inb x3 6) (grd (inb x1 6) (if (wget w (k0 + 4) x3.toNatClampNeg) < (wget w (k0 + 4) x1.toNatClampNeg) then (f_X4_risenAheadOf_b45 k0 kh4 x1 x2 x3 w) else (grd (inb x3 6) (grd (inb x1 6) (if (wget w (k0 + 4) x3.toNatClampNeg) = (wget w (k0 + 4) x1.toNatClampNeg) then (if x1 ≤ x3 then (f_X4_risenAheadOf_b49 k0 kh4 x1 x2 x3 w) else (f_X4_risenAheadOf_b45 k0 kh4 x1 x2 x3 w)) else (f_X4_risenAheadOf_b49 k0 kh4 x1 x2 x3 w)))))))
def f_X4_risenAheadOf_l4 (k0 : Nat) : Nat → Int32 → Int32 → Int32 → Wd → Option (Int32 × Wd)
  | 0, _, _, _, _ => none
  | n + 1, x1, x2, x3, w => f_X4_risenAheadOf_h4 k0 (f_X4_risenAheadOf_l4 k0 n) x1 x2 x3 w
def f_X4_risenAheadOf_b0 (k0 : Nat) (x1 : Int32) (w : Wd) : Option (Int32 × Wd) :=
  bnd (0 : Int32) (fun x2_1 => bnd (0 : Int32) (fun x3_3 => f_X4_risenAheadOf_l4 k0 300 x1 x2_1 x3_3 w))
def f_X4_risenAheadOf (k0 : Nat) (x1 : Int32) (w : Wd) : Option (Int32 × Wd) := f_X4_risenAheadOf_b0 k0 x1 w
def f_X5_order_b45 (kh14 : (Int32 → Int32 → Wd → Option (Int32 × Wd))) (x1 : Int32) (x2 : Int32) (w : Wd) : Option (Int32 × Wd) :=
  bnd (x2 + (1 : Int32)) (fun x2_1 => kh14 x1 x2_1 w)
def f_X5_order_h14 (kh14 : (Int32 → Int32 → Wd → Option (Int32 × Wd))) (x1 : Int32) (x2 : Int32) (w : Wd) : Option (Int32 × Wd) :=
  if (6 : Int32) ≤ x2 then (some ((-9 : Int32), w)) else (cal (f_X4_hasRisen 14 x2 w) (fun r_3 w_2 => if r_3 = 0 then (f_X5_order_b45 kh14 x1 x2 w_2) else (cal (f_X4_risenAheadOf 14 x2 w_2) (fun r_7 w_6 => if r_7 = x1 then (some (x2, w_6)) else (f_X5_order_b45 kh14 x1 x2 w_6)))))
def f_X5_order_l14 : Nat → Int32 → Int32 → Wd → Option (Int32 × Wd)
  | 0, _, _, _ => none
  | n + 1, x1, x2, w => f_X5_order_h14 (f_X5_order_l14 n) x1 x2 w
def f_X5_order_b0 (x1 : Int32) (w : Wd) : Option (Int32 × Wd) :=
  if x1 < 0 then (some ((-1 : Int32), w)) else (if x1 < (6 : Int32) then (bnd (0 : Int32) (fun x2_3 => f_X5_order_l14 300 x1 x2_3 w)) else (some ((-1 : Int32), w)))
def f_X5_order (x1 : Int32) (w : Wd) : Option (Int32 × Wd) := f_X5_order_b0 x1 w
def f_X0_place_b28 (w : Wd) : Option (Option Nat × Wd) :=
  some (none, w)
def f_X0_place_b0 (w : Wd) : Option (Option Nat × Wd) :=
  if (wget w 24 1) < 0 then (f_X0_place_b28 w) else (if (10 : Int32) ≤ (wget w 24 1) then (f_X0_place_b28 w) else (grd (inb (wget w 24 1) 10) (some (some (26 + 5 * (wget w 24 1).toNatClampNeg), w))))
def f_X0_place (w : Wd) : Option (Option Nat × Wd) := f_X0_place_b0 w
def f_X0_remember_b0 (k1 : Nat) (w : Wd) : Option (Unit × Wd) :=
  cal (f_X0_place w) (fun r_2 w_1 => cal (f_X0_copyInto r_2 (some k1) w_1) (fun r_5 w_4 => if (10 : Int32) ≤ ((wget w_4 24 1) + (1 : Int32)) then (bnd (wset w_4 24 1 (0 : Int32)) (fun w_8 => bnd (wset w_8 24 2 (imin (10 : Int32) ((wget w_8 24 2) + (1 : Int32)))) (fun w_10 => some ((), w_10)))) else (bnd (wset w_4 24 1 ((wget w_4 24 1) + (1 : Int32))) (fun w_12 => bnd (wset w_12 24 2 (imin (10 : Int32) ((wget w_12 24 2) + (1 : Int32)))) (fun w_14 => some ((), w_14))))))
def f_X0_remember (k1 : Nat) (w : Wd) : Option (Unit × Wd) := f_X0_remember_b0 k1 w
def f_X4_drop_b0 (k0 : Nat) (x1 : Int32) (w : Wd) : Option (Unit × Wd) :=
  grd (inb x1 6) (bnd (wset w (k0 + 1) x1.toNatClampNeg (10 : Int32)) (fun w_2 => some ((), w_2)))
def f_X4_drop (k0 : Nat) (x1 : Int32) (w : Wd) : Option (Unit × Wd) := f_X4_drop_b0 k0 x1 w
def f_X5_drops_b0 (x1 : Int32) (w : Wd) : Option (Int32 × Wd) :=
  cal (f_X5_isTold x1 w) (fun r_2 w_1 => if r_2 = 0 then (some ((-1 : Int32), w_1)) else (cal (f_X4_isDry 14 x1 w_1) (fun r_6 w_5 => if r_6 = 0 then (some ((-2 : Int32), w_5)) else (cal (f_X0_remember 14 w_5) (fun r_10 w_9 => cal (f_X4_drop 14 x1 w_9) (fun r_13 w_12 => cal (f_X4_wetOnes 14 w_12) (fun r_16 w_15 => cal (f_J6_bitCount_0f7a4 r_16 w_15) (fun r_19 w_18 => some (r_19, w_18)))))))))
def f_X5_drops (x1 : Int32) (w : Wd) : Option (Int32 × Wd) := f_X5_drops_b0 x1 w
def f_X4_swell_b40 (k0 : Nat) (k1 : Nat) (kh2 : (Int32 → Wd → Option (Unit × Wd))) (x2 : Int32) (w : Wd) : Option (Unit × Wd) :=
  bnd (x2 + (1 : Int32)) (fun x2_1 => kh2 x2_1 w)
def f_X4_swell_h2 (k0 : Nat) (k1 : Nat) (kh2 : (Int32 → Wd → Option (Unit × Wd))) (x2 : Int32) (w : Wd) : Option (Unit × Wd) :=
  if (6 : Int32) ≤ x2 then (some ((), w)) else (cal (f_X4_isDry k0 x2 w) (fun r_3 w_2 => if r_3 = 0 then (grd (inb x2 6) (grd (inb x2 6) (grd (inb x2 6) (bnd (wset w_2 (k0 + 2) x2.toNatClampNeg (imin (30 : Int32) ((wget w_2 (k0 + 2) x2.toNatClampNeg) + (wget w_2 (k1 + 3) x2.toNatClampNeg)))) (fun w_9 => f_X4_swell_b40 k0 k1 kh2 x2 w_9))))) else (f_X4_swell_b40 k0 k1 kh2 x2 w_2)))
def f_X4_swell_l2 (k0 : Nat) (k1 : Nat) : Nat → Int32 → Wd → Option (Unit × Wd)
  | 0, _, _ => none
  | n + 1, x2, w => f_X4_swell_h2 k0 k1 (f_X4_swell_l2 k0 k1 n) x2 w
def f_X4_swell_b0 (k0 : Nat) (k1 : Nat) (w : Wd) : Option (Unit × Wd) :=
  bnd (0 : Int32) (fun x2_1 => f_X4_swell_l2 k0 k1 300 x2_1 w)
def f_X4_swell (k0 : Nat) (k1 : Nat) (w : Wd) : Option (Unit × Wd) := f_X4_swell_b0 k0 k1 w
def f_X4_liftOf_b44 (k0 : Nat) (k2 : Nat) (kh5 : (Int32 → Int32 → Int32 → Wd → Option (Int32 × Wd))) (x1 : Int32) (x3 : Int32) (x4 : Int32) (w : Wd) : Option (Int32 × Wd) :=
  bnd (x4 + (1 : Int32)) (fun x4_1 => kh5 x1 x3 x4_1 w)
def f_X4_liftOf_h5 (k0 : Nat) (k2 : Nat) (kh5 : (Int32 → Int32 → Int32 → Wd → Option (Int32 × Wd))) (x1 : Int32) (x3 : Int32) (x4 : Int32) (w : Wd) : Option (Int32 × Wd) :=
  if (6 : Int32) ≤ x4 then (some (x3, w)) else (if ((x1 >>> (x4 &&& 31)) &&& (1 : Int32)) = 0 then (f_X4_liftOf_b44 k0 k2 kh5 x1 x3 x4 w) else (grd (inb x4 6) (grd (inb x4 6) (bnd (x3 + (((wget w (k0 + 2) x4.toNatClampNeg) + (wget w k0 1)) - (wget w (k2 + 1) x4.toNatClampNeg))) (fun x3_5 => f_X4_liftOf_b44 k0 k2 kh5 x1 x3_5 x4 w)))))
def f_X4_liftOf_l5 (k0 : Nat) (k2 : Nat) : Nat → Int32 → Int32 → Int32 → Wd → Option (Int32 × Wd)
  | 0, _, _, _, _ => none
  | n + 1, x1, x3, x4, w => f_X4_liftOf_h5 k0 k2 (f_X4_liftOf_l5 k0 k2 n) x1 x3 x4 w
def f_X4_liftOf_b0 (k0 : Nat) (k2 : Nat) (x1 : Int32) (w : Wd) : Option (Int32 × Wd) :=
  bnd (0 : Int32) (fun x3_1 => bnd (0 : Int32) (fun x4_3 => f_X4_liftOf_l5 k0 k2 300 x1 x3_1 x4_3 w))
def f_X4_liftOf (k0 : Nat) (k2 : Nat) (x1 : Int32) (w : Wd) : Option (Int32 × Wd) := f_X4_liftOf_b0 k0 k2 x1 w
def f_X5_moved_b0 (x0 : Int32) (x1 : Int32) (w : Wd) : Option (Int32 × Wd) :=
  if x1 ≤ 0 then (if 0 ≤ x1 then (some (x0, w)) else (some (imin (10 : Int32) (x0 + (1 : Int32)), w))) else (some (imax (0 : Int32) (x0 - (1 : Int32)), w))
def f_X5_moved (x0 : Int32) (x1 : Int32) (w : Wd) : Option (Int32 × Wd) := f_X5_moved_b0 x0 x1 w
def f_X4_moveLumps_b42 (k0 : Nat) (k1 : Nat) (kh2 : (Int32 → Wd → Option (Unit × Wd))) (x2 : Int32) (w : Wd) : Option (Unit × Wd) :=
  bnd (x2 + (1 : Int32)) (fun x2_1 => kh2 x2_1 w)
def f_X4_moveLumps_h2 (k0 : Nat) (k1 : Nat) (kh2 : (Int32 → Wd → Option (Unit × Wd))) (x2 : Int32) (w : Wd) : Option (Unit × Wd) :=
  if (6 : Int32) ≤ x2 then (some ((), w)) else (cal (f_X4_isDry k0 x2 w) (fun r_3 w_2 => if r_3 = 0 then (grd (inb x2 6) (grd (inb x2 6) (cal (f_X4_liftOf k0 k1 (wget w_2 (k0 + 3) x2.toNatClampNeg) w_2) (fun r_9 w_8 => cal (f_X5_moved (wget w_2 (k0 + 1) x2.toNatClampNeg) r_9 w_8) (fun r_12 w_11 => grd (inb x2 6) (bnd (wset w_11 (k0 + 1) x2.toNatClampNeg r_12) (fun w_15 => f_X4_moveLumps_b42 k0 k1 kh2 x2 w_15))))))) else (f_X4_moveLumps_b42 k0 k1 kh2 x2 w_2)))
def f_X4_moveLumps_l2 (k0 : Nat) (k1 : Nat) : Nat → Int32 → Wd → Option (Unit × Wd)
  | 0, _, _ => none
  | n + 1, x2, w => f_X4_moveLumps_h2 k0 k1 (f_X4_moveLumps_l2 k0 k1 n) x2 w
def f_X4_moveLumps_b0 (k0 : Nat) (k1 : Nat) (w : Wd) : Option (Unit × Wd) :=
  bnd (0 : Int32) (fun x2_1 => f_X4_moveLumps_l2 k0 k1 300 x2_1 w)
def f_X4_moveLumps (k0 : Nat) (k1 : Nat) (w : Wd) : Option (Unit × Wd) := f_X4_moveLumps_b0 k0 k1 w
def f_X4_canStick_b25 (k0 : Nat) (x1 : Int32) (x2 : Int32) (x3 : Int32) (w : Wd) : Option (Int32 × Wd) :=
  bnd (0 : Int32) (fun x4_1 => if x4_1 = 0 then (some ((0 : Int32), w)) else (grd (inb x2 6) (grd (inb x1 6) (if (wget w (k0 + 1) x2.toNatClampNeg) = (wget w (k0 + 1) x1.toNatClampNeg) then (grd (inb x1 6) (if (((wget w (k0 + 3) x1.toNatClampNeg) >>> (x2 &&& 31)) &&& (1 : Int32)) = 0 then (grd (inb x1 6) (grd (inb x2 6) (if x3 < (iabs ((wget w (k0 + 2) x1.toNatClampNeg) - (wget w (k0 + 2) x2.toNatClampNeg))) then (some ((0 : Int32), w)) else (some ((1 : Int32), w))))) else (some ((0 : Int32), w)))) else (some ((0 : Int32), w))))))
def f_X4_canStick_b0 (k0 : Nat) (x1 : Int32) (x2 : Int32) (x3 : Int32) (w : Wd) : Option (Int32 × Wd) :=
  grd (inb x1 6) (if (wget w (k0 + 1) x1.toNatClampNeg) < (1 : Int32) then (f_X4_canStick_b25 k0 x1 x2 x3 w) else (grd (inb x1 6) (if (10 : Int32) ≤ (wget w (k0 + 1) x1.toNatClampNeg) then (f_X4_canStick_b25 k0 x1 x2 x3 w) else (bnd (1 : Int32) (fun x4_5 => if x4_5 = 0 then (some ((0 : Int32), w)) else (grd (inb x2 6) (grd (inb x1 6) (if (wget w (k0 + 1) x2.toNatClampNeg) = (wget w (k0 + 1) x1.toNatClampNeg) then (grd (inb x1 6) (if (((wget w (k0 + 3) x1.toNatClampNeg) >>> (x2 &&& 31)) &&& (1 : Int32)) = 0 then (grd (inb x1 6) (grd (inb x2 6) (if x3 < (iabs ((wget w (k0 + 2) x1.toNatClampNeg) - (wget w (k0 + 2) x2.toNatClampNeg))) then (some ((0 : Int32), w)) else (some ((1 : Int32), w))))) else (some ((0 : Int32), w)))) else (some ((0 : Int32), w))))))))))
def f_X4_canStick (k0 : Nat) (x1 : Int32) (x2 : Int32) (x3 : Int32) (w : Wd) : Option (Int32 × Wd) := f_X4_canStick_b0 k0 x1 x2 x3 w
def f_X4_join_b23 (k0 : Nat) (kh2 : (Int32 → Int32 → Wd → Option (Unit × Wd))) (x1 : Int32) (x2 : Int32) (w : Wd) : Option (Unit × Wd) :=
  bnd (x2 + (1 : Int32)) (fun x2_1 => kh2 x1 x2_1 w)
def f_X4_join_h2 (k0 : Nat) (kh2 : (Int32 → Int32 → Wd → Option (Unit × Wd))) (x1 : Int32) (x2 : Int32) (w : Wd) : Option (Unit × Wd) :=
  if (6 : Int32) ≤ x2 then (some ((), w)) else (if ((x1 >>> (x2 &&& 31)) &&& (1 : Int32)) = 0 then (f_X4_join_b23 k0 kh2 x1 x2 w) else (grd (inb x2 6) (bnd (wset w (k0 + 3) x2.toNatClampNeg x1) (fun w_4 => f_X4_join_b23 k0 kh2 x1 x2 w_4))))
def f_X4_join_l2 (k0 : Nat) : Nat → Int32 → Int32 → Wd → Option (Unit × Wd)
  | 0, _, _, _ => none
  | n + 1, x1, x2, w => f_X4_join_h2 k0 (f_X4_join_l2 k0 n) x1 x2 w
def f_X4_join_b0 (k0 : Nat) (x1 : Int32) (w : Wd) : Option (Unit × Wd) :=
  bnd (0 : Int32) (fun x2_1 => f_X4_join_l2 k0 300 x1 x2_1 w)
def f_X4_join (k0 : Nat) (x1 : Int32) (w : Wd) : Option (Unit × Wd) := f_X4_join_b0 k0 x1 w
def f_X4_stick_b45 (k0 : Nat) (kh2 : (Int32 → Int32 → Wd → Option (Unit × Wd))) (kh12 : (Int32 → Int32 → Int32 → Wd → Option (Unit × Wd))) (x1 : Int32) (x2 : Int32) (x3 : Int32) (w : Wd) : Option (Unit × Wd) :=
  bnd (x3 + (1 : Int32)) (fun x3_1 => kh12 x1 x2 x3_1 w)
def f_X4_stick_h12 (k0 : Nat) (kh2 : (Int32 → Int32 → Wd → Option (Unit × Wd))) (kh12 : (Int32 → Int32 → Int32 → Wd → Option (Unit × Wd))) (x1 : Int32) (x2 : Int32) (x3 : Int32) (w : Wd) : Option (Unit × Wd) :=
  if (6 : Int32) ≤ x3 then (bnd (x2 + (1 : Int32)) (fun x2_2 => kh2 x1 x2_2 w)) else (cal (f_X4_canStick k0 x2 x3 x1 w) (fun r_5 w_4 => if r_5 = 0 then (f_X4_stick_b45 k0 kh2 kh12 x1 x2 x3 w_4) else (grd (inb x2 6) (grd (inb x3 6) (cal (f_X4_join k0 ((wget w_4 (k0 + 3) x2.toNatClampNeg) ||| (wget w_4 (k0 + 3) x3.toNatClampNeg)) w_4) (fun r_11 w_10 => f_X4_stick_b45 k0 kh2 kh12 x1 x2 x3 w_10))))))
def f_X4_stick_l12 (k0 : Nat) (kh2 : (Int32 → Int32 → Wd → Option (Unit × Wd))) : Nat → Int32 → Int32 → Int32 → Wd → Option (Unit × Wd)
  | 0, _, _, _, _ => none
  | n + 1, x1, x2, x3, w => f_X4_stick_h12 k0 kh2 (f_X4_stick_l12 k0 kh2 n) x1 x2 x3 w
def f_X4_stick_h2 (k0 : Nat) (kh2 : (Int32 → Int32 → Wd → Option (Unit × Wd))) (x1 : Int32) (x2 : Int32) (w : Wd) : Option (Unit × Wd) :=
  if (6 : Int32) ≤ x2 then (some ((), w)) else (bnd (x2 + (1 : Int32)) (fun x3_2 => f_X4_stick_l12 k0 kh2 300 x1 x2 x3_2 w))
def f_X4_stick_l2 (k0 : Nat) : Nat → Int32 → Int32 → Wd → Option (Unit × Wd)
  | 0, _, _, _ => none
  | n + 1, x1, x2, w => f_X4_stick_h2 k0 (f_X4_stick_l2 k0 n) x1 x2 w
def f_X4_stick_b0 (k0 : Nat) (x1 : Int32) (w : Wd) : Option (Unit × Wd) :=
  bnd (0 : Int32) (fun x2_1 => f_X4_stick_l2 k0 300 x1 x2_1 w)
def f_X4_stick (k0 : Nat) (x1 : Int32) (w : Wd) : Option (Unit × Wd) := f_X4_stick_b0 k0 x1 w
def f_X4_passMinute_b63 (k0 : Nat) (k1 : Nat) (kh30 : (Int32 → Wd → Option (Unit × Wd))) (x2 : Int32) (w : Wd) : Option (Unit × Wd) :=
  bnd (x2 + (1 : Int32)) (fun x2_1 => kh30 x2_1 w)
def f_X4_passMinute_h30 (k0 : Nat) (k1 : Nat) (kh30 : (Int32 → Wd → Option (Unit × Wd))) (x2 : Int32) (w : Wd) : Option (Unit × Wd) :=
  if (6 : Int32) ≤ x2 then (some ((), w)) else (grd (inb x2 6) (if (wget w (k0 + 1) x2.toNatClampNeg) = 0 then (cal (f_X4_hasRisen k0 x2 w) (fun r_5 w_4 => if r_5 = 0 then (grd (inb x2 6) (bnd (wset w_4 (k0 + 4) x2.toNatClampNeg (wget w_4 k0 0)) (fun w_9 => f_X4_passMinute_b63 k0 k1 kh30 x2 w_9))) else (f_X4_passMinute_b63 k0 k1 kh30 x2 w_4))) else (f_X4_passMinute_b63 k0 k1 kh30 x2 w)))
def f_X4_passMinute_l30 (k0 : Nat) (k1 : Nat) : Nat → Int32 → Wd → Option (Unit × Wd)
  | 0, _, _ => none
  | n + 1, x2, w => f_X4_passMinute_h30 k0 k1 (f_X4_passMinute_l30 k0 k1 n) x2 w
def f_X4_passMinute_b0 (k0 : Nat) (k1 : Nat) (w : Wd) : Option (Unit × Wd) :=
  bnd (wset w k0 0 ((wget w k0 0) + (1 : Int32))) (fun w_1 => cal (f_X4_swell k0 k1 w_1) (fun r_4 w_3 => cal (f_X4_moveLumps k0 k1 w_3) (fun r_7 w_6 => cal (f_X4_stick k0 (wget w_6 k1 2) w_6) (fun r_10 w_9 => bnd (0 : Int32) (fun x2_12 => f_X4_passMinute_l30 k0 k1 300 x2_12 w_9)))))
def f_X4_passMinute (k0 : Nat) (k1 : Nat) (w : Wd) : Option (Unit × Wd) := f_X4_passMinute_b0 k0 k1 w
def f_X5_minute_b0 (w : Wd) : Option (Int32 × Wd) :=
  if (wget w 14 0) < (99 : Int32) then (cal (f_X0_remember 14 w) (fun r_3 w_2 => cal (f_X4_passMinute 14 4 w_2) (fun r_6 w_5 => cal (f_X4_upOnes 14 w_5) (fun r_9 w_8 => cal (f_J6_bitCount_0f7a4 r_9 w_8) (fun r_12 w_11 => some (r_12, w_11)))))) else (some ((-2 : Int32), w))
def f_X5_minute (w : Wd) : Option (Int32 × Wd) := f_X5_minute_b0 w
def f_X5_heats_b0 (x1 : Int32) (w : Wd) : Option (Int32 × Wd) :=
  if x1 < 0 then (some ((-1 : Int32), w)) else (if x1 ≤ (9 : Int32) then (if (wget w 14 1) = x1 then (some ((-2 : Int32), w)) else (cal (f_X0_remember 14 w) (fun r_5 w_4 => bnd (wget w_4 14 1) (fun x2_7 => bnd (wset w_4 14 1 x1) (fun w_9 => some (x2_7, w_9)))))) else (some ((-1 : Int32), w)))
def f_X5_heats (x1 : Int32) (w : Wd) : Option (Int32 × Wd) := f_X5_heats_b0 x1 w
def f_X4_skewer_b32 (k0 : Nat) (kh9 : (Int32 → Int32 → Int32 → Wd → Option (Unit × Wd))) (x1 : Int32) (x2 : Int32) (x3 : Int32) (w : Wd) : Option (Unit × Wd) :=
  bnd (x3 + (1 : Int32)) (fun x3_1 => kh9 x1 x2 x3_1 w)
def f_X4_skewer_h9 (k0 : Nat) (kh9 : (Int32 → Int32 → Int32 → Wd → Option (Unit × Wd))) (x1 : Int32) (x2 : Int32) (x3 : Int32) (w : Wd) : Option (Unit × Wd) :=
  if (6 : Int32) ≤ x3 then (grd (inb x1 6) (grd (inb x1 6) (bnd (wset w (k0 + 2) x1.toNatClampNeg (imax (1 : Int32) ((wget w (k0 + 2) x1.toNatClampNeg) / (2 : Int32)))) (fun w_4 => some ((), w_4))))) else (if ((x2 >>> (x3 &&& 31)) &&& (1 : Int32)) = 0 then (f_X4_skewer_b32 k0 kh9 x1 x2 x3 w) else (grd (inb x3 6) (bnd (wset w (k0 + 3) x3.toNatClampNeg ((1 : Int32) <<< (x3 &&& 31))) (fun w_8 => f_X4_skewer_b32 k0 kh9 x1 x2 x3 w_8))))
def f_X4_skewer_l9 (k0 : Nat) : Nat → Int32 → Int32 → Int32 → Wd → Option (Unit × Wd)
  | 0, _, _, _, _ => none
  | n + 1, x1, x2, x3, w => f_X4_skewer_h9 k0 (f_X4_skewer_l9 k0 n) x1 x2 x3 w
def f_X4_skewer_b0 (k0 : Nat) (x1 : Int32) (w : Wd) : Option (Unit × Wd) :=
  grd (inb x1 6) (bnd (wget w (k0 + 3) x1.toNatClampNeg) (fun x2_2 => bnd (0 : Int32) (fun x3_4 => f_X4_skewer_l9 k0 300 x1 x2_2 x3_4 w)))
def f_X4_skewer (k0 : Nat) (x1 : Int32) (w : Wd) : Option (Unit × Wd) := f_X4_skewer_b0 k0 x1 w
def f_X5_skewers_b0 (x1 : Int32) (w : Wd) : Option (Int32 × Wd) :=
  cal (f_X5_isTold x1 w) (fun r_2 w_1 => if r_2 = 0 then (some ((-1 : Int32), w_1)) else (cal (f_X4_isDry 14 x1 w_1) (fun r_6 w_5 => if r_6 = 0 then (cal (f_X0_remember 14 w_5) (fun r_10 w_9 => cal (f_X4_skewer 14 x1 w_9) (fun r_13 w_12 => grd (inb x1 6) (some (wget w_12 16 x1.toNatClampNeg, w_12))))) else (some ((-2 : Int32), w_5)))))
def f_X5_skewers (x1 : Int32) (w : Wd) : Option (Int32 × Wd) := f_X5_skewers_b0 x1 w
def f_X4_dip_h2 (k0 : Nat) (kh2 : (Int32 → Int32 → Wd → Option (Unit × Wd))) (x1 : Int32) (x2 : Int32) (w : Wd) : Option (Unit × Wd) :=
  if (6 : Int32) ≤ x2 then (grd (inb x1 6) (bnd (wset w (k0 + 3) x1.toNatClampNeg ((1 : Int32) <<< (x1 &&& 31))) (fun w_3 => grd (inb x1 6) (bnd (wset w_3 (k0 + 1) x1.toNatClampNeg (-9 : Int32)) (fun w_6 => some ((), w_6)))))) else (grd (inb x2 6) (grd (inb x2 6) (bnd (wset w (k0 + 3) x2.toNatClampNeg ((wget w (k0 + 3) x2.toNatClampNeg) &&& (((1 : Int32) <<< (x1 &&& 31)) ^^^ (-1 : Int32)))) (fun w_10 => bnd (x2 + (1 : Int32)) (fun x2_12 => kh2 x1 x2_12 w_10)))))
def f_X4_dip_l2 (k0 : Nat) : Nat → Int32 → Int32 → Wd → Option (Unit × Wd)
  | 0, _, _, _ => none
  | n + 1, x1, x2, w => f_X4_dip_h2 k0 (f_X4_dip_l2 k0 n) x1 x2 w
def f_X4_dip_b0 (k0 : Nat) (x1 : Int32) (w : Wd) : Option (Unit × Wd) :=
  bnd (0 : Int32) (fun x2_1 => f_X4_dip_l2 k0 300 x1 x2_1 w)
def f_X4_dip (k0 : Nat) (x1 : Int32) (w : Wd) : Option (Unit × Wd) := f_X4_dip_b0 k0 x1 w
def f_X5_dips_b0 (x1 : Int32) (w : Wd) : Option (Int32 × Wd) :=
  cal (f_X5_isTold x1 w) (fun r_2 w_1 => if r_2 = 0 then (some ((-1 : Int32), w_1)) else (grd (inb x1 6) (if (wget w_1 15 x1.toNatClampNeg) = 0 then (cal (f_X0_remember 14 w_1) (fun r_8 w_7 => cal (f_X4_dip 14 x1 w_7) (fun r_11 w_10 => cal (f_X5_dryOnes w_10) (fun r_14 w_13 => cal (f_J6_bitCount_0f7a4 r_14 w_13) (fun r_17 w_16 => some (r_17, w_16)))))) else (some ((-2 : Int32), w_1)))))
def f_X5_dips (x1 : Int32) (w : Wd) : Option (Int32 × Wd) := f_X5_dips_b0 x1 w
def f_X0_recall_b0 (k1 : Nat) (w : Wd) : Option (Unit × Wd) :=
  if (wget w 24 1) ≤ 0 then (bnd (wset w 24 1 (9 : Int32)) (fun w_2 => bnd (wset w_2 24 2 (imax (0 : Int32) ((wget w_2 24 2) - (1 : Int32)))) (fun w_4 => cal (f_X0_place w_4) (fun r_7 w_6 => cal (f_X0_copyInto (some k1) r_7 w_6) (fun r_10 w_9 => some ((), w_9)))))) else (bnd (wset w 24 1 ((wget w 24 1) - (1 : Int32))) (fun w_12 => bnd (wset w_12 24 2 (imax (0 : Int32) ((wget w_12 24 2) - (1 : Int32)))) (fun w_14 => cal (f_X0_place w_14) (fun r_17 w_16 => cal (f_X0_copyInto (some k1) r_17 w_16) (fun r_20 w_19 => some ((), w_19))))))
def f_X0_recall (k1 : Nat) (w : Wd) : Option (Unit × Wd) := f_X0_recall_b0 k1 w
def f_X5_undo_b0 (w : Wd) : Option (Int32 × Wd) :=
  if (wget w 24 2) = 0 then (some ((-2 : Int32), w)) else (cal (f_X0_recall 14 w) (fun r_3 w_2 => some (wget w_2 24 2, w_2)))
def f_X5_undo (w : Wd) : Option (Int32 × Wd) := f_X5_undo_b0 w
def f_X5_deep_h33 (kh33 : (Int32 → Int32 → Int32 → Wd → Option (Int32 × Wd))) (x1 : Int32) (x2 : Int32) (x3 : Int32) (w : Wd) : Option (Int32 × Wd) :=
  if x2 ≤ x3 then (grd (inb x1 6) (some (wget w 20 x1.toNatClampNeg, w))) else (cal (f_X4_passMinute 19 4 w) (fun r_4 w_3 => bnd (x3 + (1 : Int32)) (fun x3_6 => kh33 x1 x2 x3_6 w_3)))
def f_X5_deep_l33 : Nat → Int32 → Int32 → Int32 → Wd → Option (Int32 × Wd)
  | 0, _, _, _, _ => none
  | n + 1, x1, x2, x3, w => f_X5_deep_h33 (f_X5_deep_l33 n) x1 x2 x3 w
def f_X5_deep_b0 (x1 : Int32) (x2 : Int32) (w : Wd) : Option (Int32 × Wd) :=
  cal (f_X5_isTold x1 w) (fun r_2 w_1 => if r_2 = 0 then (some ((-1 : Int32), w_1)) else (if x2 < 0 then (some ((-1 : Int32), w_1)) else (if x2 ≤ (40 : Int32) then (cal (f_X4_copy 19 14 w_1) (fun r_8 w_7 => bnd (0 : Int32) (fun x3_10 => f_X5_deep_l33 300 x1 x2 x3_10 w_7))) else (some ((-1 : Int32), w_1)))))
def f_X5_deep (x1 : Int32) (x2 : Int32) (w : Wd) : Option (Int32 × Wd) := f_X5_deep_b0 x1 x2 w
def f_X5_minutesTillUp_h22 (kh22 : (Int32 → Int32 → Int32 → Wd → Option (Int32 × Wd))) (x1 : Int32) (x2 : Int32) (x4 : Int32) (w : Wd) : Option (Int32 × Wd) :=
  if x2 < x4 then (some ((-9 : Int32), w)) else (grd (inb x1 6) (if (wget w 20 x1.toNatClampNeg) = 0 then (some (x4, w)) else (cal (f_X4_passMinute 19 4 w) (fun r_5 w_4 => bnd (x4 + (1 : Int32)) (fun x4_7 => kh22 x1 x2 x4_7 w_4)))))
def f_X5_minutesTillUp_l22 : Nat → Int32 → Int32 → Int32 → Wd → Option (Int32 × Wd)
  | 0, _, _, _, _ => none
  | n + 1, x1, x2, x4, w => f_X5_minutesTillUp_h22 (f_X5_minutesTillUp_l22 n) x1 x2 x4 w
def f_X5_minutesTillUp_b0 (x1 : Int32) (x2 : Int32) (x3 : Int32) (w : Wd) : Option (Int32 × Wd) :=
  cal (f_X4_copy 19 14 w) (fun r_2 w_1 => bnd (wset w_1 19 1 x3) (fun w_4 => bnd (0 : Int32) (fun x4_6 => f_X5_minutesTillUp_l22 300 x1 x2 x4_6 w_4)))
def f_X5_minutesTillUp (x1 : Int32) (x2 : Int32) (x3 : Int32) (w : Wd) : Option (Int32 × Wd) := f_X5_minutesTillUp_b0 x1 x2 x3 w
def f_X5_when_b0 (x1 : Int32) (w : Wd) : Option (Int32 × Wd) :=
  cal (f_X5_isTold x1 w) (fun r_2 w_1 => if r_2 = 0 then (some ((-1 : Int32), w_1)) else (cal (f_X4_isDry 14 x1 w_1) (fun r_6 w_5 => if r_6 = 0 then (cal (f_X5_minutesTillUp x1 (40 : Int32) (wget w_5 14 1) w_5) (fun r_10 w_9 => some (r_10, w_9))) else (some ((-2 : Int32), w_5)))))
def f_X5_when (x1 : Int32) (w : Wd) : Option (Int32 × Wd) := f_X5_when_b0 x1 w
def f_X5_warm_h37 (kh37 : (Int32 → Int32 → Int32 → Wd → Option (Int32 × Wd))) (x1 : Int32) (x2 : Int32) (x3 : Int32) (w : Wd) : Option (Int32 × Wd) :=
  if (9 : Int32) < x3 then (some ((-9 : Int32), w)) else (cal (f_X5_minutesTillUp x1 x2 x3 w) (fun r_3 w_2 => if r_3 = (-9 : Int32) then (bnd (x3 + (1 : Int32)) (fun x3_6 => kh37 x1 x2 x3_6 w_2)) else (some (x3, w_2))))
def f_X5_warm_l37 : Nat → Int32 → Int32 → Int32 → Wd → Option (Int32 × Wd)
  | 0, _, _, _, _ => none
  | n + 1, x1, x2, x3, w => f_X5_warm_h37 (f_X5_warm_l37 n) x1 x2 x3 w
def f_X5_warm_b0 (x1 : Int32) (x2 : Int32) (w : Wd) : Option (Int32 × Wd) :=
  cal (f_X5_isTold x1 w) (fun r_2 w_1 => if r_2 = 0 then (some ((-1 : Int32), w_1)) else (if x2 < (1 : Int32) then (some ((-1 : Int32), w_1)) else (if x2 ≤ (40 : Int32) then (cal (f_X4_isDry 14 x1 w_1) (fun r_8 w_7 => if r_8 = 0 then (bnd (0 : Int32) (fun x3_11 => f_X5_warm_l37 300 x1 x2 x3_11 w_7)) else (some ((-2 : Int32), w_7)))) else (some ((-1 : Int32), w_1)))))
def f_X5_warm (x1 : Int32) (x2 : Int32) (w : Wd) : Option (Int32 × Wd) := f_X5_warm_b0 x1 x2 w
def f_X5_isFewer_b17 (w : Wd) : Option (Int32 × Wd) :=
  some ((1 : Int32), w)
def f_X5_isFewer_b0 (x0 : Int32) (x1 : Int32) (w : Wd) : Option (Int32 × Wd) :=
  if x1 = (-9 : Int32) then (f_X5_isFewer_b17 w) else (cal (f_J6_bitCount_0f7a4 x0 w) (fun r_3 w_2 => cal (f_J6_bitCount_0f7a4 x1 w_2) (fun r_6 w_5 => if r_6 ≤ r_3 then (some ((0 : Int32), w_5)) else (f_X5_isFewer_b17 w_5))))
def f_X5_isFewer (x0 : Int32) (x1 : Int32) (w : Wd) : Option (Int32 × Wd) := f_X5_isFewer_b0 x0 x1 w
def f_X4_firstRisenNow_h2 (k0 : Nat) (kh2 : (Int32 → Wd → Option (Int32 × Wd))) (x1 : Int32) (w : Wd) : Option (Int32 × Wd) :=
  if (6 : Int32) ≤ x1 then (some ((-9 : Int32), w)) else (grd (inb x1 6) (if (wget w (k0 + 4) x1.toNatClampNeg) = (wget w k0 0) then (some (x1, w)) else (bnd (x1 + (1 : Int32)) (fun x1_4 => kh2 x1_4 w))))
def f_X4_firstRisenNow_l2 (k0 : Nat) : Nat → Int32 → Wd → Option (Int32 × Wd)
  | 0, _, _ => none
  | n + 1, x1, w => f_X4_firstRisenNow_h2 k0 (f_X4_firstRisenNow_l2 k0 n) x1 w
def f_X4_firstRisenNow_b0 (k0 : Nat) (w : Wd) : Option (Int32 × Wd) :=
  bnd (0 : Int32) (fun x1_1 => f_X4_firstRisenNow_l2 k0 300 x1_1 w)
def f_X4_firstRisenNow (k0 : Nat) (w : Wd) : Option (Int32 × Wd) := f_X4_firstRisenNow_b0 k0 w
def f_X5_risesFirst_b39 (kh14 : (Int32 → Int32 → Int32 → Int32 → Wd → Option (Int32 × Wd))) (x1 : Int32) (x2 : Int32) (x3 : Int32) (x4 : Int32) (w : Wd) : Option (Int32 × Wd) :=
  bnd (x4 + (1 : Int32)) (fun x4_1 => kh14 x1 x2 x3 x4_1 w)
def f_X5_risesFirst_h48 (kh48 : (Int32 → Int32 → Int32 → Wd → Option (Int32 × Wd))) (x1 : Int32) (x2 : Int32) (x4 : Int32) (w : Wd) : Option (Int32 × Wd) :=
  if x2 ≤ x4 then (some ((0 : Int32), w)) else (cal (f_X4_passMinute 19 4 w) (fun r_3 w_2 => cal (f_X4_firstRisenNow 19 w_2) (fun r_6 w_5 => bnd r_6 (fun x5_8 => if x5_8 = (-9 : Int32) then (bnd (x4 + (1 : Int32)) (fun x4_11 => kh48 x1 x2 x4_11 w_5)) else (if x5_8 = x1 then (some ((1 : Int32), w_5)) else (some ((0 : Int32), w_5)))))))
def f_X5_risesFirst_l48 : Nat → Int32 → Int32 → Int32 → Wd → Option (Int32 × Wd)
  | 0, _, _, _, _ => none
  | n + 1, x1, x2, x4, w => f_X5_risesFirst_h48 (f_X5_risesFirst_l48 n) x1 x2 x4 w
def f_X5_risesFirst_h14 (kh14 : (Int32 → Int32 → Int32 → Int32 → Wd → Option (Int32 × Wd))) (x1 : Int32) (x2 : Int32) (x3 : Int32) (x4 : Int32) (w : Wd) : Option (Int32 × Wd) :=
  if (6 : Int32) ≤ x4 then (bnd (0 : Int32) (fun x4_2 => f_X5_risesFirst_l48 300 x1 x2 x4_2 w)) else (if ((x3 >>> (x4 &&& 31)) &&& (1 : Int32)) = 0 then (f_X5_risesFirst_b39 kh14 x1 x2 x3 x4 w) else (cal (f_X4_drop 19 x4 w) (fun r_6 w_5 => f_X5_risesFirst_b39 kh14 x1 x2 x3 x4 w_5)))
def f_X5_risesFirst_l14 : Nat → Int32 → Int32 → Int32 → Int32 → Wd → Option (Int32 × Wd)
  | 0, _, _, _, _, _ => none
  | n + 1, x1, x2, x3, x4, w => f_X5_risesFirst_h14 (f_X5_risesFirst_l14 n) x1 x2 x3 x4 w
def f_X5_risesFirst_b0 (x1 : Int32) (x2 : Int32) (x3 : Int32) (w : Wd) : Option (Int32 × Wd) :=
  cal (f_X4_copy 19 14 w) (fun r_2 w_1 => bnd (0 : Int32) (fun x4_4 => f_X5_risesFirst_l14 300 x1 x2 x3 x4_4 w_1))
def f_X5_risesFirst (x1 : Int32) (x2 : Int32) (x3 : Int32) (w : Wd) : Option (Int32 × Wd) := f_X5_risesFirst_b0 x1 x2 x3 w
def f_X5_kept_b125 (kh67 : (Int32 → Int32 → Int32 → Int32 → Int32 → Int32 → Wd → Option (Int32 × Wd))) (x1 : Int32) (x2 : Int32) (x3 : Int32) (x4 : Int32) (x5 : Int32) (x6 : Int32) (w : Wd) : Option (Int32 × Wd) :=
  bnd (x6 + (1 : Int32)) (fun x6_1 => kh67 x1 x2 x3 x4 x5 x6_1 w)
def f_X5_kept_b98 (kh67 : (Int32 → Int32 → Int32 → Int32 → Int32 → Int32 → Wd → Option (Int32 × Wd))) (x1 : Int32) (x2 : Int32) (x3 : Int32) (x4 : Int32) (x5 : Int32) (x6 : Int32) (w : Wd) : Option (Int32 × Wd) :=
  bnd (0 : Int32) (fun x7_1 => if x7_1 = 0 then (f_X5_kept_b125 kh67 x1 x2 x3 x4 x5 x6 w) else (cal (f_X5_risesFirst x1 x2 (x3 &&& (x6 ^^^ (-1 : Int32))) w) (fun r_5 w_4 => if r_5 = 0 then (f_X5_kept_b125 kh67 x1 x2 x3 x4 x5 x6 w_4) else (bnd x6 (fun x5_8 => f_X5_kept_b125 kh67 x1 x2 x3 x4 x5_8 x6 w_4)))))
def f_X5_kept_h67 (kh67 : (Int32 → Int32 → Int32 → Int32 → Int32 → Int32 → Wd → Option (Int32 × Wd))) (x1 : Int32) (x2 : Int32) (x3 : Int32) (x4 : Int32) (x5 : Int32) (x6 : Int32) (w : Wd) : Option (Int32 × Wd) :=
  if (64 : Int32) ≤ x6 then (some (x5, w)) else (if (x6 &&& (x4 ^^^ (-1 : Int32))) = 0 then (cal (f_X5_isFewer x6 x5 w) (fun r_4 w_3 => if r_4 = 0 then (f_X5_kept_b98 kh67 x1 x2 x3 x4 x5 x6 w_3) else (bnd (1 : Int32) (fun x7_7 => if x7_7 = 0 then (f_X5_kept_b125 kh67 x1 x2 x3 x4 x5 x6 w_3) else (cal (f_X5_risesFirst x1 x2 (x3 &&& (x6 ^^^ (-1 : Int32))) w_3) (fun r_11 w_10 => if r_11 = 0 then (f_X5_kept_b125 kh67 x1 x2 x3 x4 x5 x6 w_10) else (bnd x6 (fun x5_14 => f_X5_kept_b125 kh67 x1 x2 x3 x4 x5_14 x6 w_10)))))))) else (f_X5_kept_b98 kh67 x1 x2 x3 x4 x5 x6 w))
def f_X5_kept_l67 : Nat → Int32 → Int32 → Int32 → Int32 → Int32 → Int32 → Wd → Option (Int32 × Wd)
  | 0, _, _, _, _, _, _, _ => none
  | n + 1, x1, x2, x3, x4, x5, x6, w => f_X5_kept_h67 (f_X5_kept_l67 n) x1 x2 x3 x4 x5 x6 w
def f_X5_kept_b0 (x1 : Int32) (x2 : Int32) (w : Wd) : Option (Int32 × Wd) :=
  cal (f_X5_isTold x1 w) (fun r_2 w_1 => if r_2 = 0 then (some ((-1 : Int32), w_1)) else (if x2 < (1 : Int32) then (some ((-1 : Int32), w_1)) else (if x2 ≤ (40 : Int32) then (cal (f_X4_isDry 14 x1 w_1) (fun r_8 w_7 => if r_8 = 0 then (some ((-2 : Int32), w_7)) else (cal (f_X4_hasRisen 14 x1 w_7) (fun r_12 w_11 => if r_12 = 0 then (cal (f_X5_dryOnes w_11) (fun r_16 w_15 => bnd r_16 (fun x3_18 => bnd (x3_18 &&& (((1 : Int32) <<< (x1 &&& 31)) ^^^ (-1 : Int32))) (fun x4_20 => bnd (-9 : Int32) (fun x5_22 => bnd (0 : Int32) (fun x6_24 => f_X5_kept_l67 300 x1 x2 x3_18 x4_20 x5_22 x6_24 w_15)))))) else (some ((-2 : Int32), w_11)))))) else (some ((-1 : Int32), w_1)))))
def f_X5_kept (x1 : Int32) (x2 : Int32) (w : Wd) : Option (Int32 × Wd) := f_X5_kept_b0 x1 x2 w
def f_X2_seatsOf_b27 (k0 : Nat) (kh4 : (Int32 → Int32 → Int32 → Wd → Option (Int32 × Wd))) (x1 : Int32) (x2 : Int32) (x3 : Int32) (w : Wd) : Option (Int32 × Wd) :=
  bnd (x3 + (1 : Int32)) (fun x3_1 => kh4 x1 x2 x3_1 w)
def f_X2_seatsOf_h4 (k0 : Nat) (kh4 : (Int32 → Int32 → Int32 → Wd → Option (Int32 × Wd))) (x1 : Int32) (x2 : Int32) (x3 : Int32) (w : Wd) : Option (Int32 × Wd) :=
  if (6 : Int32) ≤ x3 then (some (x2, w)) else (if ((x1 >>> (x3 &&& 31)) &&& (1 : Int32)) = 0 then (f_X2_seatsOf_b27 k0 kh4 x1 x2 x3 w) else (grd (inb x3 6) (bnd (x2 + (wget w (k0 + 4) x3.toNatClampNeg)) (fun x2_4 => f_X2_seatsOf_b27 k0 kh4 x1 x2_4 x3 w))))
def f_X2_seatsOf_l4 (k0 : Nat) : Nat → Int32 → Int32 → Int32 → Wd → Option (Int32 × Wd)
  | 0, _, _, _, _ => none
  | n + 1, x1, x2, x3, w => f_X2_seatsOf_h4 k0 (f_X2_seatsOf_l4 k0 n) x1 x2 x3 w
def f_X2_seatsOf_b0 (k0 : Nat) (x1 : Int32) (w : Wd) : Option (Int32 × Wd) :=
  bnd (0 : Int32) (fun x2_1 => bnd (0 : Int32) (fun x3_3 => f_X2_seatsOf_l4 k0 300 x1 x2_1 x3_3 w))
def f_X2_seatsOf (k0 : Nat) (x1 : Int32) (w : Wd) : Option (Int32 × Wd) := f_X2_seatsOf_b0 k0 x1 w
def f_X5_party_b58 (kh27 : (Int32 → Int32 → Int32 → Int32 → Wd → Option (Int32 × Wd))) (x1 : Int32) (x2 : Int32) (x3 : Int32) (x4 : Int32) (w : Wd) : Option (Int32 × Wd) :=
  bnd (x4 + (1 : Int32)) (fun x4_1 => kh27 x1 x2 x3 x4_1 w)
def f_X5_party_h27 (kh27 : (Int32 → Int32 → Int32 → Int32 → Wd → Option (Int32 × Wd))) (x1 : Int32) (x2 : Int32) (x3 : Int32) (x4 : Int32) (w : Wd) : Option (Int32 × Wd) :=
  if x2 < x4 then (some (x3, w)) else (cal (f_X5_isFewer x4 x3 w) (fun r_3 w_2 => if r_3 = 0 then (f_X5_party_b58 kh27 x1 x2 x3 x4 w_2) else (cal (f_X2_seatsOf 4 x4 w_2) (fun r_7 w_6 => if r_7 < x1 then (f_X5_party_b58 kh27 x1 x2 x3 x4 w_6) else (bnd x4 (fun x3_10 => f_X5_party_b58 kh27 x1 x2 x3_10 x4 w_6))))))
def f_X5_party_l27 : Nat → Int32 → Int32 → Int32 → Int32 → Wd → Option (Int32 × Wd)
  | 0, _, _, _, _, _ => none
  | n + 1, x1, x2, x3, x4, w => f_X5_party_h27 (f_X5_party_l27 n) x1 x2 x3 x4 w
def f_X5_party_b0 (x1 : Int32) (w : Wd) : Option (Int32 × Wd) :=
  if x1 < (1 : Int32) then (some ((-1 : Int32), w)) else (if x1 ≤ (54 : Int32) then (cal (f_X2_all 4 w) (fun r_4 w_3 => bnd r_4 (fun x2_6 => bnd (-9 : Int32) (fun x3_8 => bnd (0 : Int32) (fun x4_10 => f_X5_party_l27 300 x1 x2_6 x3_8 x4_10 w_3))))) else (some ((-1 : Int32), w)))
def f_X5_party (x1 : Int32) (w : Wd) : Option (Int32 × Wd) := f_X5_party_b0 x1 w
def f_X5_power_b90 (kh46 : (Int32 → Int32 → Int32 → Int32 → Int32 → Int32 → Wd → Option (Int32 × Wd))) (x1 : Int32) (x2 : Int32) (x3 : Int32) (x4 : Int32) (x5 : Int32) (x6 : Int32) (w : Wd) : Option (Int32 × Wd) :=
  bnd (x6 + (1 : Int32)) (fun x6_1 => kh46 x1 x2 x3 x4 x5 x6_1 w)
def f_X5_power_h46 (kh46 : (Int32 → Int32 → Int32 → Int32 → Int32 → Int32 → Wd → Option (Int32 × Wd))) (x1 : Int32) (x2 : Int32) (x3 : Int32) (x4 : Int32) (x5 : Int32) (x6 : Int32) (w : Wd) : Option (Int32 × Wd) :=
  if x3 < x6 then (some (x5, w)) else (cal (f_X2_seatsOf 4 x6 w) (fun r_3 w_2 => bnd r_3 (fun x7_5 => if ((x6 >>> (x1 &&& 31)) &&& (1 : Int32)) = 0 then (if x2 ≤ x7_5 then (f_X5_power_b90 kh46 x1 x2 x3 x4 x5 x6 w_2) else (if (x7_5 + x4) < x2 then (f_X5_power_b90 kh46 x1 x2 x3 x4 x5 x6 w_2) else (bnd (x5 + (1 : Int32)) (fun x5_10 => f_X5_power_b90 kh46 x1 x2 x3 x4 x5_10 x6 w_2)))) else (f_X5_power_b90 kh46 x1 x2 x3 x4 x5 x6 w_2))))
def f_X5_power_l46 : Nat → Int32 → Int32 → Int32 → Int32 → Int32 → Int32 → Wd → Option (Int32 × Wd)
  | 0, _, _, _, _, _, _, _ => none
  | n + 1, x1, x2, x3, x4, x5, x6, w => f_X5_power_h46 (f_X5_power_l46 n) x1 x2 x3 x4 x5 x6 w
def f_X5_power_b0 (x1 : Int32) (x2 : Int32) (w : Wd) : Option (Int32 × Wd) :=
  cal (f_X5_isTold x1 w) (fun r_2 w_1 => if r_2 = 0 then (some ((-1 : Int32), w_1)) else (if x2 < (1 : Int32) then (some ((-1 : Int32), w_1)) else (if x2 ≤ (54 : Int32) then (cal (f_X2_all 4 w_1) (fun r_8 w_7 => bnd r_8 (fun x3_10 => grd (inb x1 6) (bnd (wget w_7 8 x1.toNatClampNeg) (fun x4_13 => bnd (0 : Int32) (fun x5_15 => bnd (0 : Int32) (fun x6_17 => f_X5_power_l46 300 x1 x2 x3_10 x4_13 x5_15 x6_17 w_7))))))) else (some ((-1 : Int32), w_1)))))
def f_X5_power (x1 : Int32) (x2 : Int32) (w : Wd) : Option (Int32 × Wd) := f_X5_power_b0 x1 x2 w
def f_X5_raised_h4 (kh4 : (Int32 → Int32 → Int32 → Int32 → Wd → Option (Int32 × Wd))) (x0 : Int32) (x1 : Int32) (x2 : Int32) (x3 : Int32) (w : Wd) : Option (Int32 × Wd) :=
  if x1 ≤ x3 then (some (x2, w)) else (bnd (x2 * x0) (fun x2_2 => bnd (x3 + (1 : Int32)) (fun x3_4 => kh4 x0 x1 x2_2 x3_4 w)))
def f_X5_raised_l4 : Nat → Int32 → Int32 → Int32 → Int32 → Wd → Option (Int32 × Wd)
  | 0, _, _, _, _, _ => none
  | n + 1, x0, x1, x2, x3, w => f_X5_raised_h4 (f_X5_raised_l4 n) x0 x1 x2 x3 w
def f_X5_raised_b0 (x0 : Int32) (x1 : Int32) (w : Wd) : Option (Int32 × Wd) :=
  bnd (1 : Int32) (fun x2_1 => bnd (0 : Int32) (fun x3_3 => f_X5_raised_l4 300 x0 x1 x2_1 x3_3 w))
def f_X5_raised (x0 : Int32) (x1 : Int32) (w : Wd) : Option (Int32 × Wd) := f_X5_raised_b0 x0 x1 w
def f_X5_greatestCommon_b34 (x2 : Int32) (w : Wd) : Option (Int32 × Wd) :=
  some (x2, w)
def f_X5_greatestCommon_h7 (kh7 : (Int32 → Int32 → Int32 → Wd → Option (Int32 × Wd))) (x2 : Int32) (x3 : Int32) (x4 : Int32) (w : Wd) : Option (Int32 × Wd) :=
  if (64 : Int32) ≤ x4 then (f_X5_greatestCommon_b34 x2 w) else (if x3 = 0 then (f_X5_greatestCommon_b34 x2 w) else (grd (nz x3) (bnd (x2 - x2 / x3 * x3) (fun x5_4 => bnd x3 (fun x2_6 => bnd x5_4 (fun x3_8 => bnd (x4 + (1 : Int32)) (fun x4_10 => kh7 x2_6 x3_8 x4_10 w)))))))
def f_X5_greatestCommon_l7 : Nat → Int32 → Int32 → Int32 → Wd → Option (Int32 × Wd)
  | 0, _, _, _, _ => none
  | n + 1, x2, x3, x4, w => f_X5_greatestCommon_h7 (f_X5_greatestCommon_l7 n) x2 x3 x4 w
def f_X5_greatestCommon_b0 (x0 : Int32) (x1 : Int32) (w : Wd) : Option (Int32 × Wd) :=
  bnd x0 (fun x2_1 => bnd x1 (fun x3_3 => bnd (0 : Int32) (fun x4_5 => f_X5_greatestCommon_l7 300 x2_1 x3_3 x4_5 w)))
def f_X5_greatestCommon (x0 : Int32) (x1 : Int32) (w : Wd) : Option (Int32 × Wd) := f_X5_greatestCommon_b0 x0 x1 w
def f_X5_odds_b95 (kh49 : (Int32 → Int32 → Int32 → Int32 → Int32 → Int32 → Wd → Option (Int32 × Wd))) (x1 : Int32) (x2 : Int32) (x3 : Int32) (x4 : Int32) (x5 : Int32) (x6 : Int32) (w : Wd) : Option (Int32 × Wd) :=
  bnd (x6 + (1 : Int32)) (fun x6_1 => kh49 x1 x2 x3 x4 x5 x6_1 w)
def f_X5_odds_h49 (kh49 : (Int32 → Int32 → Int32 → Int32 → Int32 → Int32 → Wd → Option (Int32 × Wd))) (x1 : Int32) (x2 : Int32) (x3 : Int32) (x4 : Int32) (x5 : Int32) (x6 : Int32) (w : Wd) : Option (Int32 × Wd) :=
  if ((1 : Int32) <<< (x4 &&& 31)) ≤ x6 then (cal (f_X5_raised (10 : Int32) x4 w) (fun r_3 w_2 => bnd r_3 (fun x6_5 => cal (f_X5_greatestCommon x5 x6_5 w_2) (fun r_8 w_7 => bnd r_8 (fun x7_10 => if x3 = 0 then (bnd x5 (fun x8_17 => if x7_10 ≤ 0 then (some (x8_17, w_7)) else (grd (nz x7_10) (some (x8_17 / x7_10, w_7))))) else (bnd x6_5 (fun x8_13 => if x7_10 ≤ 0 then (some (x8_13, w_7)) else (grd (nz x7_10) (some (x8_13 / x7_10, w_7)))))))))) else (cal (f_J6_bitCount_0f7a4 x6 w) (fun r_22 w_21 => bnd r_22 (fun x7_24 => if x2 < x7_24 then (f_X5_odds_b95 kh49 x1 x2 x3 x4 x5 x6 w_21) else (cal (f_X5_raised x1 x7_24 w_21) (fun r_28 w_27 => cal (f_X5_raised ((10 : Int32) - x1) (x4 - x7_24) w_27) (fun r_31 w_30 => bnd (x5 + (r_28 * r_31)) (fun x5_33 => f_X5_odds_b95 kh49 x1 x2 x3 x4 x5_33 x6 w_30)))))))
def f_X5_odds_l49 : Nat → Int32 → Int32 → Int32 → Int32 → Int32 → Int32 → Wd → Option (Int32 × Wd)
  | 0, _, _, _, _, _, _, _ => none
  | n + 1, x1, x2, x3, x4, x5, x6, w => f_X5_odds_h49 (f_X5_odds_l49 n) x1 x2 x3 x4 x5 x6 w
def f_X5_odds_b0 (x1 : Int32) (x2 : Int32) (x3 : Int32) (w : Wd) : Option (Int32 × Wd) :=
  if x1 < 0 then (some ((-1 : Int32), w)) else (if (10 : Int32) < x1 then (some ((-1 : Int32), w)) else (if x2 < 0 then (some ((-1 : Int32), w)) else (if (6 : Int32) < x2 then (some ((-1 : Int32), w)) else (if x3 < 0 then (some ((-1 : Int32), w)) else (if x3 ≤ (1 : Int32) then (cal (f_X4_wetOnes 14 w) (fun r_8 w_7 => cal (f_J6_bitCount_0f7a4 r_8 w_7) (fun r_11 w_10 => bnd r_11 (fun x4_13 => bnd (0 : Int32) (fun x5_15 => bnd (0 : Int32) (fun x6_17 => f_X5_odds_l49 300 x1 x2 x3 x4_13 x5_15 x6_17 w_10)))))) else (some ((-1 : Int32), w)))))))
def f_X5_odds (x1 : Int32) (x2 : Int32) (x3 : Int32) (w : Wd) : Option (Int32 × Wd) := f_X5_odds_b0 x1 x2 x3 w
def f_X3_add_b0 (x1 : Int32) (x2 : Int32) (x3 : Int32) (w : Wd) : Option (Int32 × Wd) :=
  if (wget w 86 3) < 0 then (some ((0 : Int32), w)) else (if (wget w 86 3) < (6 : Int32) then (grd (inb (wget w 86 3) 6) (bnd (wset w 87 ((wget w 86 3).toNatClampNeg) x1) (fun w_4 => grd (inb (wget w_4 86 3) 6) (bnd (wset w_4 88 ((wget w_4 86 3).toNatClampNeg) x2) (fun w_7 => grd (inb (wget w_7 86 3) 6) (bnd (wset w_7 89 ((wget w_7 86 3).toNatClampNeg) x3) (fun w_10 => bnd (wset w_10 86 3 ((wget w_10 86 3) + (1 : Int32))) (fun w_12 => some ((1 : Int32), w_12))))))))) else (some ((0 : Int32), w)))
def f_X3_add (x1 : Int32) (x2 : Int32) (x3 : Int32) (w : Wd) : Option (Int32 × Wd) := f_X3_add_b0 x1 x2 x3 w
def f_X5_sees_b0 (x1 : Int32) (x2 : Int32) (x3 : Int32) (w : Wd) : Option (Int32 × Wd) :=
  cal (f_X5_isTold x1 w) (fun r_2 w_1 => if r_2 = 0 then (some ((-1 : Int32), w_1)) else (if x2 < (1 : Int32) then (some ((-1 : Int32), w_1)) else (if (20 : Int32) < x2 then (some ((-1 : Int32), w_1)) else (if x3 < 0 then (some ((-1 : Int32), w_1)) else (if x3 ≤ (10 : Int32) then (cal (f_X3_add x1 x2 x3 w_1) (fun r_10 w_9 => if r_10 = 0 then (some ((-3 : Int32), w_9)) else (some (wget w_9 86 3, w_9)))) else (some ((-1 : Int32), w_1)))))))
def f_X5_sees (x1 : Int32) (x2 : Int32) (x3 : Int32) (w : Wd) : Option (Int32 × Wd) := f_X5_sees_b0 x1 x2 x3 w
def f_X5_forget_b0 (w : Wd) : Option (Int32 × Wd) :=
  bnd (wget w 86 3) (fun x1_1 => bnd (wset w 86 3 (0 : Int32)) (fun w_3 => some (x1_1, w_3)))
def f_X5_forget (w : Wd) : Option (Int32 × Wd) := f_X5_forget_b0 w
def f_X5_depthAlone_h18 (kh18 : (Int32 → Int32 → Int32 → Int32 → Int32 → Int32 → Wd → Option (Int32 × Wd))) (x1 : Int32) (x2 : Int32) (x3 : Int32) (x4 : Int32) (x5 : Int32) (x6 : Int32) (w : Wd) : Option (Int32 × Wd) :=
  if x3 ≤ x6 then (some (x4, w)) else (grd (inb x1 6) (bnd (imin (30 : Int32) (x5 + (wget w 7 x1.toNatClampNeg))) (fun x5_3 => cal (f_X5_moved x4 ((x5_3 + (wget w 14 1)) - x2) w) (fun r_6 w_5 => bnd r_6 (fun x4_8 => bnd (x6 + (1 : Int32)) (fun x6_10 => kh18 x1 x2 x3 x4_8 x5_3 x6_10 w_5))))))
def f_X5_depthAlone_l18 : Nat → Int32 → Int32 → Int32 → Int32 → Int32 → Int32 → Wd → Option (Int32 × Wd)
  | 0, _, _, _, _, _, _, _ => none
  | n + 1, x1, x2, x3, x4, x5, x6, w => f_X5_depthAlone_h18 (f_X5_depthAlone_l18 n) x1 x2 x3 x4 x5 x6 w
def f_X5_depthAlone_b0 (x1 : Int32) (x2 : Int32) (x3 : Int32) (w : Wd) : Option (Int32 × Wd) :=
  bnd (10 : Int32) (fun x4_1 => grd (inb x1 6) (bnd (wget w 16 x1.toNatClampNeg) (fun x5_4 => bnd (0 : Int32) (fun x6_6 => f_X5_depthAlone_l18 300 x1 x2 x3 x4_1 x5_4 x6_6 w))))
def f_X5_depthAlone (x1 : Int32) (x2 : Int32) (x3 : Int32) (w : Wd) : Option (Int32 × Wd) := f_X5_depthAlone_b0 x1 x2 x3 w
def f_X5_fitsWhatIsSeen_b61 (kh2 : (Int32 → Int32 → Int32 → Wd → Option (Int32 × Wd))) (x1 : Int32) (x2 : Int32) (x3 : Int32) (w : Wd) : Option (Int32 × Wd) :=
  bnd (x3 + (1 : Int32)) (fun x3_1 => kh2 x1 x2 x3_1 w)
def f_X5_fitsWhatIsSeen_h2 (kh2 : (Int32 → Int32 → Int32 → Wd → Option (Int32 × Wd))) (x1 : Int32) (x2 : Int32) (x3 : Int32) (w : Wd) : Option (Int32 × Wd) :=
  if (6 : Int32) ≤ x3 then (some ((1 : Int32), w)) else (if (wget w 86 3) ≤ x3 then (some ((1 : Int32), w)) else (grd (inb x3 6) (if (wget w 87 x3.toNatClampNeg) = x1 then (grd (inb x3 6) (cal (f_X5_depthAlone x1 x2 (wget w 88 x3.toNatClampNeg) w) (fun r_7 w_6 => grd (inb x3 6) (if r_7 = (wget w_6 89 x3.toNatClampNeg) then (f_X5_fitsWhatIsSeen_b61 kh2 x1 x2 x3 w_6) else (some ((0 : Int32), w_6)))))) else (f_X5_fitsWhatIsSeen_b61 kh2 x1 x2 x3 w))))
def f_X5_fitsWhatIsSeen_l2 : Nat → Int32 → Int32 → Int32 → Wd → Option (Int32 × Wd)
  | 0, _, _, _, _ => none
  | n + 1, x1, x2, x3, w => f_X5_fitsWhatIsSeen_h2 (f_X5_fitsWhatIsSeen_l2 n) x1 x2 x3 w
def f_X5_fitsWhatIsSeen_b0 (x1 : Int32) (x2 : Int32) (w : Wd) : Option (Int32 × Wd) :=
  bnd (0 : Int32) (fun x3_1 => f_X5_fitsWhatIsSeen_l2 300 x1 x2 x3_1 w)
def f_X5_fitsWhatIsSeen (x1 : Int32) (x2 : Int32) (w : Wd) : Option (Int32 × Wd) := f_X5_fitsWhatIsSeen_b0 x1 x2 w
def f_X5_fittingWeights_b29 (kh5 : (Int32 → Int64 → Int32 → Wd → Option (Int64 × Wd))) (x1 : Int32) (x2 : Int64) (x4 : Int32) (w : Wd) : Option (Int64 × Wd) :=
  bnd (x4 + (1 : Int32)) (fun x4_1 => kh5 x1 x2 x4_1 w)
def f_X5_fittingWeights_h5 (kh5 : (Int32 → Int64 → Int32 → Wd → Option (Int64 × Wd))) (x1 : Int32) (x2 : Int64) (x4 : Int32) (w : Wd) : Option (Int64 × Wd) :=
  if (40 : Int32) < x4 then (some (x2, w)) else (cal (f_X5_fitsWhatIsSeen x1 x4 w) (fun r_3 w_2 => if r_3 = 0 then (f_X5_fittingWeights_b29 kh5 x1 x2 x4 w_2) else (bnd (x2 ||| ((1 : Int64) <<< (x4.toInt64 &&& 63))) (fun x2_6 => f_X5_fittingWeights_b29 kh5 x1 x2_6 x4 w_2))))
def f_X5_fittingWeights_l5 : Nat → Int32 → Int64 → Int32 → Wd → Option (Int64 × Wd)
  | 0, _, _, _, _ => none
  | n + 1, x1, x2, x4, w => f_X5_fittingWeights_h5 (f_X5_fittingWeights_l5 n) x1 x2 x4 w
def f_X5_fittingWeights_b0 (x1 : Int32) (w : Wd) : Option (Int64 × Wd) :=
  bnd (0 : Int64) (fun x2_1 => bnd (0 : Int32) (fun x4_3 => f_X5_fittingWeights_l5 300 x1 x2_1 x4_3 w))
def f_X5_fittingWeights (x1 : Int32) (w : Wd) : Option (Int64 × Wd) := f_X5_fittingWeights_b0 x1 w
def f_J13_bitCount_95d88_b0 (x0 : Int64) (w : Wd) : Option (Int32 × Wd) :=
  bnd (x0 - (((x0.toUInt64 >>> ((1 : Int32).toInt64.toUInt64 &&& Int64.toUInt64 63)).toInt64) &&& (6148914691236517205 : Int64))) (fun x0_1 => bnd ((x0_1 &&& (3689348814741910323 : Int64)) + (((x0_1.toUInt64 >>> ((2 : Int32).toInt64.toUInt64 &&& Int64.toUInt64 63)).toInt64) &&& (3689348814741910323 : Int64))) (fun x0_3 => bnd ((x0_3 + ((x0_3.toUInt64 >>> ((4 : Int32).toInt64.toUInt64 &&& Int64.toUInt64 63)).toInt64)) &&& (1085102592571150095 : Int64)) (fun x0_5 => bnd (x0_5 + ((x0_5.toUInt64 >>> ((8 : Int32).toInt64.toUInt64 &&& Int64.toUInt64 63)).toInt64)) (fun x0_7 => bnd (x0_7 + ((x0_7.toUInt64 >>> ((16 : Int32).toInt64.toUInt64 &&& Int64.toUInt64 63)).toInt64)) (fun x0_9 => bnd (x0_9 + ((x0_9.toUInt64 >>> ((32 : Int32).toInt64.toUInt64 &&& Int64.toUInt64 63)).toInt64)) (fun x0_11 => some (x0_11.toInt32 &&& (127 : Int32), w)))))))
def f_J13_bitCount_95d88 (x0 : Int64) (w : Wd) : Option (Int32 × Wd) := f_J13_bitCount_95d88_b0 x0 w
def f_X5_least_h2 (kh2 : (Int64 → Int32 → Wd → Option (Int32 × Wd))) (x0 : Int64) (x2 : Int32) (w : Wd) : Option (Int32 × Wd) :=
  if (40 : Int32) < x2 then (some ((-9 : Int32), w)) else (if (lg_cmp ((x0 >>> (x2.toInt64 &&& 63)) &&& (1 : Int64)) (0 : Int64)) = 0 then (bnd (x2 + (1 : Int32)) (fun x2_3 => kh2 x0 x2_3 w)) else (some (x2, w)))
def f_X5_least_l2 : Nat → Int64 → Int32 → Wd → Option (Int32 × Wd)
  | 0, _, _, _ => none
  | n + 1, x0, x2, w => f_X5_least_h2 (f_X5_least_l2 n) x0 x2 w
def f_X5_least_b0 (x0 : Int64) (w : Wd) : Option (Int32 × Wd) :=
  bnd (0 : Int32) (fun x2_1 => f_X5_least_l2 300 x0 x2_1 w)
def f_X5_least (x0 : Int64) (w : Wd) : Option (Int32 × Wd) := f_X5_least_b0 x0 w
def f_X5_greatest_h3 (kh3 : (Int64 → Int32 → Wd → Option (Int32 × Wd))) (x0 : Int64) (x2 : Int32) (w : Wd) : Option (Int32 × Wd) :=
  if x2 < 0 then (some ((-9 : Int32), w)) else (if (lg_cmp ((x0 >>> (x2.toInt64 &&& 63)) &&& (1 : Int64)) (0 : Int64)) = 0 then (bnd (x2 + (-1 : Int32)) (fun x2_3 => kh3 x0 x2_3 w)) else (some (x2, w)))
def f_X5_greatest_l3 : Nat → Int64 → Int32 → Wd → Option (Int32 × Wd)
  | 0, _, _, _ => none
  | n + 1, x0, x2, w => f_X5_greatest_h3 (f_X5_greatest_l3 n) x0 x2 w
def f_X5_greatest_b0 (x0 : Int64) (w : Wd) : Option (Int32 × Wd) :=
  bnd (40 : Int32) (fun x2_1 => f_X5_greatest_l3 300 x0 x2_1 w)
def f_X5_greatest (x0 : Int64) (w : Wd) : Option (Int32 × Wd) := f_X5_greatest_b0 x0 w
def f_X5_weights_b0 (x1 : Int32) (x2 : Int32) (w : Wd) : Option (Int32 × Wd) :=
  cal (f_X5_isTold x1 w) (fun r_2 w_1 => if r_2 = 0 then (some ((-1 : Int32), w_1)) else (if x2 < 0 then (some ((-1 : Int32), w_1)) else (if x2 ≤ (2 : Int32) then (cal (f_X5_fittingWeights x1 w_1) (fun r_8 w_7 => bnd r_8 (fun x3_10 => if x2 = 0 then (cal (f_J13_bitCount_95d88 x3_10 w_7) (fun r_21 w_20 => some (r_21, w_20))) else (if x2 = (1 : Int32) then (cal (f_X5_least x3_10 w_7) (fun r_18 w_17 => some (r_18, w_17))) else (cal (f_X5_greatest x3_10 w_7) (fun r_15 w_14 => some (r_15, w_14))))))) else (some ((-1 : Int32), w_1)))))
def f_X5_weights (x1 : Int32) (x2 : Int32) (w : Wd) : Option (Int32 × Wd) := f_X5_weights_b0 x1 x2 w
def f_X5_oneMoreAt_b0 (x1 : Int32) (w : Wd) : Option (Int32 × Wd) :=
  if x1 < 0 then (some ((0 : Int32), w)) else (if x1 ≤ (10 : Int32) then (grd (inb x1 11) (grd (inb x1 11) (bnd (wset w 91 x1.toNatClampNeg ((wget w 91 x1.toNatClampNeg) + (1 : Int32))) (fun w_5 => grd (inb x1 11) (some (wget w_5 91 x1.toNatClampNeg, w_5)))))) else (some ((0 : Int32), w)))
def f_X5_oneMoreAt (x1 : Int32) (w : Wd) : Option (Int32 × Wd) := f_X5_oneMoreAt_b0 x1 w
def f_X5_mostAlike_b67 (kh30 : (Int32 → Int32 → Int64 → Int32 → Int32 → Wd → Option (Int32 × Wd))) (x1 : Int32) (x2 : Int32) (x3 : Int64) (x5 : Int32) (x6 : Int32) (w : Wd) : Option (Int32 × Wd) :=
  bnd (x6 + (1 : Int32)) (fun x6_1 => kh30 x1 x2 x3 x5 x6_1 w)
def f_X5_mostAlike_h30 (kh30 : (Int32 → Int32 → Int64 → Int32 → Int32 → Wd → Option (Int32 × Wd))) (x1 : Int32) (x2 : Int32) (x3 : Int64) (x5 : Int32) (x6 : Int32) (w : Wd) : Option (Int32 × Wd) :=
  if (40 : Int32) < x6 then (some (x5, w)) else (if (lg_cmp ((x3 >>> (x6.toInt64 &&& 63)) &&& (1 : Int64)) (0 : Int64)) = 0 then (f_X5_mostAlike_b67 kh30 x1 x2 x3 x5 x6 w) else (cal (f_X5_depthAlone x1 x6 x2 w) (fun r_4 w_3 => cal (f_X5_oneMoreAt r_4 w_3) (fun r_7 w_6 => bnd (imax x5 r_7) (fun x5_9 => f_X5_mostAlike_b67 kh30 x1 x2 x3 x5_9 x6 w_6)))))
def f_X5_mostAlike_l30 : Nat → Int32 → Int32 → Int64 → Int32 → Int32 → Wd → Option (Int32 × Wd)
  | 0, _, _, _, _, _, _ => none
  | n + 1, x1, x2, x3, x5, x6, w => f_X5_mostAlike_h30 (f_X5_mostAlike_l30 n) x1 x2 x3 x5 x6 w
def f_X5_mostAlike_h3 (kh3 : (Int32 → Int32 → Int64 → Int32 → Wd → Option (Int32 × Wd))) (x1 : Int32) (x2 : Int32) (x3 : Int64) (x5 : Int32) (w : Wd) : Option (Int32 × Wd) :=
  if (10 : Int32) < x5 then (bnd (0 : Int32) (fun x5_2 => bnd (0 : Int32) (fun x6_4 => f_X5_mostAlike_l30 300 x1 x2 x3 x5_2 x6_4 w))) else (grd (inb x5 11) (bnd (wset w 91 x5.toNatClampNeg (0 : Int32)) (fun w_7 => bnd (x5 + (1 : Int32)) (fun x5_9 => kh3 x1 x2 x3 x5_9 w_7))))
def f_X5_mostAlike_l3 : Nat → Int32 → Int32 → Int64 → Int32 → Wd → Option (Int32 × Wd)
  | 0, _, _, _, _, _ => none
  | n + 1, x1, x2, x3, x5, w => f_X5_mostAlike_h3 (f_X5_mostAlike_l3 n) x1 x2 x3 x5 w
def f_X5_mostAlike_b0 (x1 : Int32) (x2 : Int32) (x3 : Int64) (w : Wd) : Option (Int32 × Wd) :=
  bnd (0 : Int32) (fun x5_1 => f_X5_mostAlike_l3 300 x1 x2 x3 x5_1 w)
def f_X5_mostAlike (x1 : Int32) (x2 : Int32) (x3 : Int64) (w : Wd) : Option (Int32 × Wd) := f_X5_mostAlike_b0 x1 x2 x3 w
def f_X5_look_b70 (kh38 : (Int32 → Int64 → Int32 → Int32 → Int32 → Wd → Option (Int32 × Wd))) (x1 : Int32) (x2 : Int64) (x4 : Int32) (x5 : Int32) (x6 : Int32) (w : Wd) : Option (Int32 × Wd) :=
  bnd (x6 + (1 : Int32)) (fun x6_1 => kh38 x1 x2 x4 x5 x6_1 w)
def f_X5_look_h38 (kh38 : (Int32 → Int64 → Int32 → Int32 → Int32 → Wd → Option (Int32 × Wd))) (x1 : Int32) (x2 : Int64) (x4 : Int32) (x5 : Int32) (x6 : Int32) (w : Wd) : Option (Int32 × Wd) :=
  if (20 : Int32) < x6 then (some (x4, w)) else (cal (f_X5_mostAlike x1 x6 x2 w) (fun r_3 w_2 => bnd r_3 (fun x7_5 => if x5 ≤ x7_5 then (f_X5_look_b70 kh38 x1 x2 x4 x5 x6 w_2) else (bnd x7_5 (fun x5_8 => bnd x6 (fun x4_10 => f_X5_look_b70 kh38 x1 x2 x4_10 x5_8 x6 w_2))))))
def f_X5_look_l38 : Nat → Int32 → Int64 → Int32 → Int32 → Int32 → Wd → Option (Int32 × Wd)
  | 0, _, _, _, _, _, _ => none
  | n + 1, x1, x2, x4, x5, x6, w => f_X5_look_h38 (f_X5_look_l38 n) x1 x2 x4 x5 x6 w
def f_X5_look_b0 (x1 : Int32) (w : Wd) : Option (Int32 × Wd) :=
  cal (f_X5_isTold x1 w) (fun r_2 w_1 => if r_2 = 0 then (some ((-1 : Int32), w_1)) else (cal (f_X5_fittingWeights x1 w_1) (fun r_6 w_5 => bnd r_6 (fun x2_8 => cal (f_J13_bitCount_95d88 x2_8 w_5) (fun r_11 w_10 => if (1 : Int32) < r_11 then (bnd (-9 : Int32) (fun x4_14 => bnd (42 : Int32) (fun x5_16 => bnd (1 : Int32) (fun x6_18 => f_X5_look_l38 300 x1 x2_8 x4_14 x5_16 x6_18 w_10)))) else (some ((-9 : Int32), w_10)))))))
def f_X5_look (x1 : Int32) (w : Wd) : Option (Int32 × Wd) := f_X5_look_b0 x1 w
def f_X5_dough_b0 (x1 : Int32) (w : Wd) : Option (Int32 × Wd) :=
  bnd (lset w 0 ((lget w 0) + (1 : Int64))) (fun w_1 => grd (inb x1 6) (some (wget w_1 16 x1.toNatClampNeg, w_1)))
def f_X5_dough (x1 : Int32) (w : Wd) : Option (Int32 × Wd) := f_X5_dough_b0 x1 w
def f_X5_suet_b0 (x1 : Int32) (w : Wd) : Option (Int32 × Wd) :=
  bnd (lset w 0 ((lget w 0) + (10 : Int64))) (fun w_1 => cal (f_X5_dough x1 w_1) (fun r_4 w_3 => grd (inb x1 6) (some (r_4 + (wget w_3 5 x1.toNatClampNeg), w_3))))
def f_X5_suet (x1 : Int32) (w : Wd) : Option (Int32 × Wd) := f_X5_suet_b0 x1 w
def f_X5_parsley_b0 (x1 : Int32) (w : Wd) : Option (Int32 × Wd) :=
  bnd (lset w 0 ((lget w 0) + (100 : Int64))) (fun w_1 => cal (f_X5_dough x1 w_1) (fun r_4 w_3 => grd (inb x1 6) (cal (f_J6_bitCount_0f7a4 (wget w_3 17 x1.toNatClampNeg) w_3) (fun r_8 w_7 => some (r_4 - r_8, w_7)))))
def f_X5_parsley (x1 : Int32) (w : Wd) : Option (Int32 × Wd) := f_X5_parsley_b0 x1 w
def f_X5_leader_b0 (x1 : Int32) (w : Wd) : Option (Int32 × Wd) :=
  bnd (lset w 0 ((lget w 0) + (1000 : Int64))) (fun w_1 => cal (f_X5_suet x1 w_1) (fun r_4 w_3 => some ((2 : Int32) * r_4, w_3)))
def f_X5_leader (x1 : Int32) (w : Wd) : Option (Int32 × Wd) := f_X5_leader_b0 x1 w
def f_X5_carrot_b0 (x1 : Int32) (w : Wd) : Option (Int32 × Wd) :=
  bnd (lset w 0 ((lget w 0) + (10000 : Int64))) (fun w_1 => cal (f_X5_parsley x1 w_1) (fun r_4 w_3 => some (r_4 + x1, w_3)))
def f_X5_carrot (x1 : Int32) (w : Wd) : Option (Int32 × Wd) := f_X5_carrot_b0 x1 w
def f_X5_bay_b0 (x1 : Int32) (w : Wd) : Option (Int32 × Wd) :=
  bnd (lset w 0 ((lget w 0) + (100000 : Int64))) (fun w_1 => cal (f_X5_dough x1 w_1) (fun r_4 w_3 => some (r_4 + (wget w_3 14 1), w_3)))
def f_X5_bay (x1 : Int32) (w : Wd) : Option (Int32 × Wd) := f_X5_bay_b0 x1 w
def f_X5_rate_b0 (x1 : Int32) (x2 : Int32) (w : Wd) : Option (Int32 × Wd) :=
  cal (f_X5_isTold x2 w) (fun r_2 w_1 => if r_2 = 0 then (some ((-1000000 : Int32), w_1)) else (if x1 = 0 then (cal (f_X5_dough x2 w_1) (fun r_6 w_5 => some (r_6, w_5))) else if x1 = 1 then (cal (f_X5_suet x2 w_1) (fun r_10 w_9 => some (r_10, w_9))) else if x1 = 2 then (cal (f_X5_parsley x2 w_1) (fun r_14 w_13 => some (r_14, w_13))) else if x1 = 3 then (cal (f_X5_leader x2 w_1) (fun r_18 w_17 => some (r_18, w_17))) else if x1 = 4 then (cal (f_X5_carrot x2 w_1) (fun r_22 w_21 => some (r_22, w_21))) else if x1 = 5 then (cal (f_X5_bay x2 w_1) (fun r_26 w_25 => some (r_26, w_25))) else (some ((-1000000 : Int32), w_1))))
def f_X5_rate (x1 : Int32) (x2 : Int32) (w : Wd) : Option (Int32 × Wd) := f_X5_rate_b0 x1 x2 w
def f_X5_imageOf_b0 (x1 : Int32) (w : Wd) : Option (Nat × Wd) :=
  if x1 = 0 then (some (76, w)) else (some (81, w))
def f_X5_imageOf (x1 : Int32) (w : Wd) : Option (Nat × Wd) := f_X5_imageOf_b0 x1 w
def f_X5_keep_b0 (x1 : Int32) (w : Wd) : Option (Int32 × Wd) :=
  if x1 < 0 then (some ((-1 : Int32), w)) else (if x1 ≤ (1 : Int32) then (cal (f_X5_imageOf x1 w) (fun r_4 w_3 => grd (decide (kindOf r_4 = 4)) (cal (f_X4_copy r_4 14 w_3) (fun r_8 w_7 => bnd (wset w_7 0 8 ((wget w_7 0 8) ||| ((1 : Int32) <<< (x1 &&& 31)))) (fun w_10 => some (wget w_10 14 0, w_10)))))) else (some ((-1 : Int32), w)))
def f_X5_keep (x1 : Int32) (w : Wd) : Option (Int32 × Wd) := f_X5_keep_b0 x1 w
def f_X5_back_b0 (x1 : Int32) (w : Wd) : Option (Int32 × Wd) :=
  if x1 < 0 then (some ((-1 : Int32), w)) else (if x1 ≤ (1 : Int32) then (if (((wget w 0 8) >>> (x1 &&& 31)) &&& (1 : Int32)) = 0 then (some ((-2 : Int32), w)) else (cal (f_X5_imageOf x1 w) (fun r_5 w_4 => grd (decide (kindOf r_5 = 4)) (cal (f_X4_copy 14 r_5 w_4) (fun r_9 w_8 => bnd (wset w_8 24 2 (0 : Int32)) (fun w_11 => some (wget w_11 14 0, w_11))))))) else (some ((-1 : Int32), w)))
def f_X5_back (x1 : Int32) (w : Wd) : Option (Int32 × Wd) := f_X5_back_b0 x1 w
def f_X5_count_b0 (x1 : Int32) (w : Wd) : Option (Int32 × Wd) :=
  if x1 = 0 then (some (wget w 4 0, w)) else if x1 = 1 then (some (wget w 4 1, w)) else if x1 = 2 then (some (wget w 4 2, w)) else if x1 = 3 then (some (wget w 4 3, w)) else if x1 = 4 then (some (wget w 86 3, w)) else if x1 = 5 then (some (wget w 1 2, w)) else (some ((-1 : Int32), w))
def f_X5_count (x1 : Int32) (w : Wd) : Option (Int32 × Wd) := f_X5_count_b0 x1 w
def f_X5_trace_b0 (w : Wd) : Option (Int64 × Wd) :=
  some (lget w 0, w)
def f_X5_trace (w : Wd) : Option (Int64 × Wd) := f_X5_trace_b0 w
def f_X6_in_b0 (x0 : Int32) (x1 : Int32) (x2 : Int32) (w : Wd) : Option (Int32 × Wd) :=
  if x0 < x1 then (some ((0 : Int32), w)) else (if x2 < x0 then (some ((0 : Int32), w)) else (some ((1 : Int32), w)))
def f_X6_in (x0 : Int32) (x1 : Int32) (x2 : Int32) (w : Wd) : Option (Int32 × Wd) := f_X6_in_b0 x0 x1 x2 w
def f_X6_has_b0 (x0 : Int32) (x1 : Int32) (w : Wd) : Option (Int32 × Wd) :=
  if ((x0 >>> (x1 &&& 31)) &&& (1 : Int32)) = (1 : Int32) then (some ((1 : Int32), w)) else (some ((0 : Int32), w))
def f_X6_has (x0 : Int32) (x1 : Int32) (w : Wd) : Option (Int32 × Wd) := f_X6_has_b0 x0 x1 w
def f_X6_bits_h4 (kh4 : (Int32 → Int32 → Int32 → Wd → Option (Int32 × Wd))) (x0 : Int32) (x1 : Int32) (x2 : Int32) (w : Wd) : Option (Int32 × Wd) :=
  if (6 : Int32) ≤ x2 then (some (x1, w)) else (bnd (x1 + ((x0 >>> (x2 &&& 31)) &&& (1 : Int32))) (fun x1_2 => bnd (x2 + (1 : Int32)) (fun x2_4 => kh4 x0 x1_2 x2_4 w)))
def f_X6_bits_l4 : Nat → Int32 → Int32 → Int32 → Wd → Option (Int32 × Wd)
  | 0, _, _, _, _ => none
  | n + 1, x0, x1, x2, w => f_X6_bits_h4 (f_X6_bits_l4 n) x0 x1 x2 w
def f_X6_bits_b0 (x0 : Int32) (w : Wd) : Option (Int32 × Wd) :=
  bnd (0 : Int32) (fun x1_1 => bnd (0 : Int32) (fun x2_3 => f_X6_bits_l4 300 x0 x1_1 x2_3 w))
def f_X6_bits (x0 : Int32) (w : Wd) : Option (Int32 × Wd) := f_X6_bits_b0 x0 w
def f_X6_isOne_b0 (x1 : Int32) (w : Wd) : Option (Int32 × Wd) :=
  cal (f_X6_in x1 (0 : Int32) ((wget w 92 0) - (1 : Int32)) w) (fun r_2 w_1 => grd (nb r_2) (some (r_2, w_1)))
def f_X6_isOne (x1 : Int32) (w : Wd) : Option (Int32 × Wd) := f_X6_isOne_b0 x1 w
def f_X6_copy_h3 (k0 : Nat) (k2 : Nat) (kh3 : (Int32 → Int32 → Int32 → Wd → Option (Unit × Wd))) (x1 : Int32) (x3 : Int32) (x4 : Int32) (w : Wd) : Option (Unit × Wd) :=
  if (26 : Int32) ≤ x4 then (some ((), w)) else (grd (inb (x3 + x4) (lenOf k2)) (grd (inb (x1 + x4) (lenOf k0)) (bnd (wset w k0 ((x1 + x4).toNatClampNeg) (wget w k2 ((x3 + x4).toNatClampNeg))) (fun w_4 => bnd (x4 + (1 : Int32)) (fun x4_6 => kh3 x1 x3 x4_6 w_4)))))
def f_X6_copy_l3 (k0 : Nat) (k2 : Nat) : Nat → Int32 → Int32 → Int32 → Wd → Option (Unit × Wd)
  | 0, _, _, _, _ => none
  | n + 1, x1, x3, x4, w => f_X6_copy_h3 k0 k2 (f_X6_copy_l3 k0 k2 n) x1 x3 x4 w
def f_X6_copy_b0 (k0 : Nat) (k2 : Nat) (x1 : Int32) (x3 : Int32) (w : Wd) : Option (Unit × Wd) :=
  bnd (0 : Int32) (fun x4_1 => f_X6_copy_l3 k0 k2 300 x1 x3 x4_1 w)
def f_X6_copy (k0 : Nat) (k2 : Nat) (x1 : Int32) (x3 : Int32) (w : Wd) : Option (Unit × Wd) := f_X6_copy_b0 k0 k2 x1 x3 w
def f_X6_type_b0 (x1 : Int32) (w : Wd) : Option (Int32 × Wd) :=
  cal (f_X6_in x1 (0 : Int32) (255 : Int32) w) (fun r_2 w_1 => if r_2 = 0 then (some ((-1 : Int32), w_1)) else (if (wget w_1 92 16) = (120 : Int32) then (some ((-3 : Int32), w_1)) else (grd (inb (wget w_1 92 16) 120) (bnd (wset w_1 101 ((wget w_1 92 16).toNatClampNeg) x1) (fun w_7 => bnd (wset w_7 92 16 ((wget w_7 92 16) + (1 : Int32))) (fun w_9 => some (wget w_9 92 16, w_9)))))))
def f_X6_type (x1 : Int32) (w : Wd) : Option (Int32 × Wd) := f_X6_type_b0 x1 w
def f_X6_clear_b0 (w : Wd) : Option (Int32 × Wd) :=
  bnd (wget w 92 16) (fun x1_1 => bnd (wset w 92 16 (0 : Int32)) (fun w_3 => some (x1_1, w_3)))
def f_X6_clear (w : Wd) : Option (Int32 × Wd) := f_X6_clear_b0 w
def f_X6_letterAt_b0 (x1 : Int32) (w : Wd) : Option (Int32 × Wd) :=
  if (wget w 92 16) ≤ x1 then (some ((-1 : Int32), w)) else (grd (inb x1 120) (some (wget w 101 x1.toNatClampNeg, w)))
def f_X6_letterAt (x1 : Int32) (w : Wd) : Option (Int32 × Wd) := f_X6_letterAt_b0 x1 w
def f_X6_isFigure_b0 (x0 : Int32) (w : Wd) : Option (Int32 × Wd) :=
  cal (f_X6_in x0 (48 : Int32) (57 : Int32) w) (fun r_2 w_1 => grd (nb r_2) (some (r_2, w_1)))
def f_X6_isFigure (x0 : Int32) (w : Wd) : Option (Int32 × Wd) := f_X6_isFigure_b0 x0 w
def f_X6_next_h67 (kh67 : (Int32 → Wd → Option (Unit × Wd))) (x1 : Int32) (w : Wd) : Option (Unit × Wd) :=
  cal (f_X6_letterAt (wget w 92 17) w) (fun r_2 w_1 => cal (f_X6_isFigure r_2 w_1) (fun r_5 w_4 => if r_5 = 0 then (if (99 : Int32) < (wget w_4 92 20) then (bnd (wset w_4 92 19 (4 : Int32)) (fun w_9 => some ((), w_9))) else (if x1 = (48 : Int32) then (if ((wget w_4 92 17) - (wget w_4 92 18)) ≤ (1 : Int32) then (bnd (wset w_4 92 19 (2 : Int32)) (fun w_15 => some ((), w_15))) else (bnd (wset w_4 92 19 (4 : Int32)) (fun w_17 => some ((), w_17)))) else (bnd (wset w_4 92 19 (2 : Int32)) (fun w_12 => some ((), w_12))))) else (if (wget w_4 92 20) ≤ (99 : Int32) then (cal (f_X6_letterAt (wget w_4 92 17) w_4) (fun r_21 w_20 => bnd (wset w_20 92 20 ((((10 : Int32) * (wget w_4 92 20)) + r_21) - (48 : Int32))) (fun w_23 => bnd (wset w_23 92 17 ((wget w_23 92 17) + (1 : Int32))) (fun w_25 => kh67 x1 w_25)))) else (bnd (wset w_4 92 20 (wget w_4 92 20)) (fun w_27 => bnd (wset w_27 92 17 ((wget w_27 92 17) + (1 : Int32))) (fun w_29 => kh67 x1 w_29))))))
def f_X6_next_l67 : Nat → Int32 → Wd → Option (Unit × Wd)
  | 0, _, _ => none
  | n + 1, x1, w => f_X6_next_h67 (f_X6_next_l67 n) x1 w
def f_X6_next_h0 (kh0 : (Wd → Option (Unit × Wd))) (w : Wd) : Option (Unit × Wd) :=
  cal (f_X6_letterAt (wget w 92 17) w) (fun r_2 w_1 => if r_2 = (32 : Int32) then (bnd (wset w_1 92 17 ((wget w_1 92 17) + (1 : Int32))) (fun w_62 => kh0 w_62)) else (bnd (wset w_1 92 18 (wget w_1 92 17)) (fun w_5 => cal (f_X6_letterAt (wget w_5 92 17) w_5) (fun r_8 w_7 => bnd r_8 (fun x1_10 => bnd (wset w_7 92 20 (0 : Int32)) (fun w_12 => if 0 ≤ x1_10 then (cal (f_X6_isFigure x1_10 w_12) (fun r_16 w_15 => if r_16 = 0 then (if x1_10 = (100 : Int32) then (bnd (wset w_15 92 19 (1 : Int32)) (fun w_20 => bnd (wset w_20 92 20 x1_10) (fun w_22 => bnd (wset w_22 92 17 ((wget w_22 92 17) + (1 : Int32))) (fun w_24 => some ((), w_24))))) else (if x1_10 = (104 : Int32) then (bnd (wset w_15 92 19 (1 : Int32)) (fun w_27 => bnd (wset w_27 92 20 x1_10) (fun w_29 => bnd (wset w_29 92 17 ((wget w_29 92 17) + (1 : Int32))) (fun w_31 => some ((), w_31))))) else (if x1_10 = (103 : Int32) then (bnd (wset w_15 92 19 (1 : Int32)) (fun w_34 => bnd (wset w_34 92 20 x1_10) (fun w_36 => bnd (wset w_36 92 17 ((wget w_36 92 17) + (1 : Int32))) (fun w_38 => some ((), w_38))))) else (if x1_10 = (114 : Int32) then (bnd (wset w_15 92 19 (1 : Int32)) (fun w_54 => bnd (wset w_54 92 20 x1_10) (fun w_56 => bnd (wset w_56 92 17 ((wget w_56 92 17) + (1 : Int32))) (fun w_58 => some ((), w_58))))) else (if x1_10 = (59 : Int32) then (bnd (wset w_15 92 19 (3 : Int32)) (fun w_48 => bnd (wset w_48 92 20 x1_10) (fun w_50 => bnd (wset w_50 92 17 ((wget w_50 92 17) + (1 : Int32))) (fun w_52 => some ((), w_52))))) else (bnd (wset w_15 92 19 (4 : Int32)) (fun w_42 => bnd (wset w_42 92 20 x1_10) (fun w_44 => bnd (wset w_44 92 17 ((wget w_44 92 17) + (1 : Int32))) (fun w_46 => some ((), w_46)))))))))) else (f_X6_next_l67 300 x1_10 w_15))) else (bnd (wset w_12 92 19 (0 : Int32)) (fun w_60 => some ((), w_60)))))))))
def f_X6_next_l0 : Nat → Wd → Option (Unit × Wd)
  | 0, _ => none
  | n + 1, w => f_X6_next_h0 (f_X6_next_l0 n) w
def f_X6_next (w : Wd) : Option (Unit × Wd) := f_X6_next_l0 300 w
def f_X6_takesNumber_b60 (x3 : Int32) (x4 : Int32) (w : Wd) : Option (Int32 × Wd) :=
  if x3 = 0 then (some ((0 : Int32), w)) else (some (x4, w))
def f_X6_takesNumber_b31 (w : Wd) : Option (Int32 × Wd) :=
  bnd (0 : Int32) (fun x3_1 => if x3_1 = 0 then (bnd (wset w 92 21 (1 : Int32)) (fun w_12 => bnd (wget w_12 92 20) (fun x4_14 => if x3_1 = 0 then (f_X6_takesNumber_b60 x3_1 x4_14 w_12) else (cal (f_X6_next w_12) (fun r_18 w_17 => f_X6_takesNumber_b60 x3_1 x4_14 w_17))))) else (bnd (wset w 92 21 (0 : Int32)) (fun w_4 => bnd (wget w_4 92 20) (fun x4_6 => if x3_1 = 0 then (f_X6_takesNumber_b60 x3_1 x4_6 w_4) else (cal (f_X6_next w_4) (fun r_10 w_9 => f_X6_takesNumber_b60 x3_1 x4_6 w_9))))))
def f_X6_takesNumber_b0 (x1 : Int32) (x2 : Int32) (w : Wd) : Option (Int32 × Wd) :=
  if (wget w 92 21) = 0 then (if (wget w 92 19) = (2 : Int32) then (cal (f_X6_in (wget w 92 20) x1 x2 w) (fun r_4 w_3 => if r_4 = 0 then (f_X6_takesNumber_b31 w_3) else (bnd (1 : Int32) (fun x3_7 => if x3_7 = 0 then (bnd (wset w_3 92 21 (1 : Int32)) (fun w_18 => bnd (wget w_18 92 20) (fun x4_20 => if x3_7 = 0 then (f_X6_takesNumber_b60 x3_7 x4_20 w_18) else (cal (f_X6_next w_18) (fun r_24 w_23 => f_X6_takesNumber_b60 x3_7 x4_20 w_23))))) else (bnd (wset w_3 92 21 (0 : Int32)) (fun w_10 => bnd (wget w_10 92 20) (fun x4_12 => if x3_7 = 0 then (f_X6_takesNumber_b60 x3_7 x4_12 w_10) else (cal (f_X6_next w_10) (fun r_16 w_15 => f_X6_takesNumber_b60 x3_7 x4_12 w_15))))))))) else (f_X6_takesNumber_b31 w)) else (f_X6_takesNumber_b31 w)
def f_X6_takesNumber (x1 : Int32) (x2 : Int32) (w : Wd) : Option (Int32 × Wd) := f_X6_takesNumber_b0 x1 x2 w
def f_X6_mayBegin_b0 (x1 : Int32) (w : Wd) : Option (Int32 × Wd) :=
  if x1 = 100 then (if (6 : Int32) ≤ (wget w 92 23) then (some ((0 : Int32), w)) else (some ((1 : Int32), w))) else if x1 = 101 then (if 0 ≤ (wget w 92 27) then (some ((0 : Int32), w)) else (some ((1 : Int32), w))) else if x1 = 102 then (if 0 ≤ (wget w 92 27) then (some ((0 : Int32), w)) else (some ((1 : Int32), w))) else if x1 = 103 then (if 0 ≤ (wget w 92 26) then (some ((0 : Int32), w)) else (some ((1 : Int32), w))) else if x1 = 104 then (if 0 ≤ (wget w 92 25) then (some ((0 : Int32), w)) else (some ((1 : Int32), w))) else (if 0 ≤ (wget w 92 27) then (some ((0 : Int32), w)) else (some ((1 : Int32), w)))
def f_X6_mayBegin (x1 : Int32) (w : Wd) : Option (Int32 × Wd) := f_X6_mayBegin_b0 x1 w
def f_X6_readBody_b0 (x1 : Int32) (w : Wd) : Option (Unit × Wd) :=
  if x1 = 100 then (cal (f_X6_takesNumber (0 : Int32) (40 : Int32) w) (fun r_2 w_1 => grd (inb ((4 : Int32) * (wget w 92 23)) 24) (bnd (wset w_1 102 (((4 : Int32) * (wget w 92 23)).toNatClampNeg) r_2) (fun w_5 => cal (f_X6_takesNumber (1 : Int32) (9 : Int32) w_5) (fun r_8 w_7 => grd (inb (((4 : Int32) * (wget w_5 92 23)) + (1 : Int32)) 24) (bnd (wset w_7 102 ((((4 : Int32) * (wget w_5 92 23)) + (1 : Int32)).toNatClampNeg) r_8) (fun w_11 => cal (f_X6_takesNumber (0 : Int32) (3 : Int32) w_11) (fun r_14 w_13 => grd (inb (((4 : Int32) * (wget w_11 92 23)) + (2 : Int32)) 24) (bnd (wset w_13 102 ((((4 : Int32) * (wget w_11 92 23)) + (2 : Int32)).toNatClampNeg) r_14) (fun w_17 => cal (f_X6_takesNumber (0 : Int32) (9 : Int32) w_17) (fun r_20 w_19 => grd (inb (((4 : Int32) * (wget w_17 92 23)) + (3 : Int32)) 24) (bnd (wset w_19 102 ((((4 : Int32) * (wget w_17 92 23)) + (3 : Int32)).toNatClampNeg) r_20) (fun w_23 => bnd (wset w_23 92 23 ((wget w_23 92 23) + (1 : Int32))) (fun w_25 => some ((), w_25))))))))))))))) else if x1 = 101 then (cal (f_X6_takesNumber (9 : Int32) (40 : Int32) w) (fun r_29 w_28 => bnd (wset w_28 92 27 r_29) (fun w_31 => some ((), w_31)))) else if x1 = 102 then (cal (f_X6_takesNumber (9 : Int32) (40 : Int32) w) (fun r_35 w_34 => bnd (wset w_34 92 27 r_35) (fun w_37 => some ((), w_37)))) else if x1 = 103 then (cal (f_X6_takesNumber (0 : Int32) (9 : Int32) w) (fun r_41 w_40 => bnd (wset w_40 92 26 r_41) (fun w_43 => some ((), w_43)))) else if x1 = 104 then (cal (f_X6_takesNumber (0 : Int32) (9 : Int32) w) (fun r_47 w_46 => bnd (wset w_46 92 25 r_47) (fun w_49 => some ((), w_49)))) else (cal (f_X6_takesNumber (9 : Int32) (40 : Int32) w) (fun r_53 w_52 => bnd (wset w_52 92 27 r_53) (fun w_55 => some ((), w_55))))
def f_X6_readBody (x1 : Int32) (w : Wd) : Option (Unit × Wd) := f_X6_readBody_b0 x1 w
def f_X6_readItem_b21 (w : Wd) : Option (Unit × Wd) :=
  bnd (wset w 92 21 (1 : Int32)) (fun w_1 => some ((), w_1))
def f_X6_readItem_b0 (w : Wd) : Option (Unit × Wd) :=
  bnd (wget w 92 20) (fun x1_1 => if (wget w 92 19) = (1 : Int32) then (cal (f_X6_mayBegin x1_1 w) (fun r_5 w_4 => if r_5 = 0 then (f_X6_readItem_b21 w_4) else (cal (f_X6_next w_4) (fun r_9 w_8 => cal (f_X6_readBody x1_1 w_8) (fun r_12 w_11 => if (wget w_11 92 21) = 0 then (if (wget w_11 92 19) = (3 : Int32) then (bnd (wset w_11 92 21 (0 : Int32)) (fun w_22 => if (wget w_22 92 21) = 0 then (cal (f_X6_next w_22) (fun r_26 w_25 => some ((), w_25))) else (some ((), w_22)))) else (bnd (wset w_11 92 21 (1 : Int32)) (fun w_28 => if (wget w_28 92 21) = 0 then (cal (f_X6_next w_28) (fun r_32 w_31 => some ((), w_31))) else (some ((), w_28))))) else (bnd (wset w_11 92 21 (1 : Int32)) (fun w_15 => if (wget w_15 92 21) = 0 then (cal (f_X6_next w_15) (fun r_19 w_18 => some ((), w_18))) else (some ((), w_15))))))))) else (f_X6_readItem_b21 w))
def f_X6_readItem (w : Wd) : Option (Unit × Wd) := f_X6_readItem_b0 w
def f_X6_settles_h85 (kh85 : (Int32 → Wd → Option (Unit × Wd))) (x1 : Int32) (w : Wd) : Option (Unit × Wd) :=
  if (6 : Int32) ≤ x1 then (bnd (wset w 92 9 (0 : Int32)) (fun w_2 => bnd (wset w_2 92 12 (0 : Int32)) (fun w_4 => bnd (wset w_4 99 0 (0 : Int32)) (fun w_6 => bnd (wset w_6 99 1 (0 : Int32)) (fun w_8 => bnd (wset w_8 92 16 (0 : Int32)) (fun w_10 => some ((), w_10))))))) else (grd (inb ((4 : Int32) * x1) 24) (grd (inb x1 6) (bnd (wset w 93 x1.toNatClampNeg (wget w 102 (((4 : Int32) * x1).toNatClampNeg))) (fun w_14 => grd (inb (((4 : Int32) * x1) + (2 : Int32)) 24) (grd (inb x1 6) (bnd (wset w_14 94 x1.toNatClampNeg (wget w_14 102 ((((4 : Int32) * x1) + (2 : Int32)).toNatClampNeg))) (fun w_18 => grd (inb (((4 : Int32) * x1) + (3 : Int32)) 24) (grd (inb x1 6) (bnd (wset w_18 95 x1.toNatClampNeg (wget w_18 102 ((((4 : Int32) * x1) + (3 : Int32)).toNatClampNeg))) (fun w_22 => grd (inb ((2 : Int32) + x1) 26) (bnd (wset w_22 96 (((2 : Int32) + x1).toNatClampNeg) (-9 : Int32)) (fun w_25 => grd (inb (((4 : Int32) * x1) + (1 : Int32)) 24) (grd (inb ((8 : Int32) + x1) 26) (bnd (wset w_25 96 (((8 : Int32) + x1).toNatClampNeg) (wget w_25 102 ((((4 : Int32) * x1) + (1 : Int32)).toNatClampNeg))) (fun w_29 => grd (inb ((14 : Int32) + x1) 26) (bnd (wset w_29 96 (((14 : Int32) + x1).toNatClampNeg) ((1 : Int32) <<< (x1 &&& 31))) (fun w_32 => grd (inb ((20 : Int32) + x1) 26) (bnd (wset w_32 96 (((20 : Int32) + x1).toNatClampNeg) (-9 : Int32)) (fun w_35 => bnd (x1 + (1 : Int32)) (fun x1_37 => kh85 x1_37 w_35))))))))))))))))))))
def f_X6_settles_l85 : Nat → Int32 → Wd → Option (Unit × Wd)
  | 0, _, _ => none
  | n + 1, x1, w => f_X6_settles_h85 (f_X6_settles_l85 n) x1 w
def f_X6_settles_b0 (w : Wd) : Option (Unit × Wd) :=
  bnd (wset w 92 0 (wget w 92 23)) (fun w_1 => if 0 ≤ (wget w_1 92 25) then (bnd (wset w_1 92 4 (wget w_1 92 25)) (fun w_4 => if 0 ≤ (wget w_4 92 26) then (bnd (wset w_4 92 5 (wget w_4 92 26)) (fun w_7 => if 0 ≤ (wget w_7 92 27) then (bnd (wset w_7 92 6 (wget w_7 92 27)) (fun w_10 => bnd (wset w_10 96 0 (0 : Int32)) (fun w_12 => bnd (wset w_12 96 1 (wget w_12 92 4)) (fun w_14 => bnd (0 : Int32) (fun x1_16 => f_X6_settles_l85 300 x1_16 w_14))))) else (bnd (wset w_7 92 6 (20 : Int32)) (fun w_18 => bnd (wset w_18 96 0 (0 : Int32)) (fun w_20 => bnd (wset w_20 96 1 (wget w_20 92 4)) (fun w_22 => bnd (0 : Int32) (fun x1_24 => f_X6_settles_l85 300 x1_24 w_22))))))) else (bnd (wset w_4 92 5 (1 : Int32)) (fun w_26 => if 0 ≤ (wget w_26 92 27) then (bnd (wset w_26 92 6 (wget w_26 92 27)) (fun w_29 => bnd (wset w_29 96 0 (0 : Int32)) (fun w_31 => bnd (wset w_31 96 1 (wget w_31 92 4)) (fun w_33 => bnd (0 : Int32) (fun x1_35 => f_X6_settles_l85 300 x1_35 w_33))))) else (bnd (wset w_26 92 6 (20 : Int32)) (fun w_37 => bnd (wset w_37 96 0 (0 : Int32)) (fun w_39 => bnd (wset w_39 96 1 (wget w_39 92 4)) (fun w_41 => bnd (0 : Int32) (fun x1_43 => f_X6_settles_l85 300 x1_43 w_41))))))))) else (bnd (wset w_1 92 4 (3 : Int32)) (fun w_45 => if 0 ≤ (wget w_45 92 26) then (bnd (wset w_45 92 5 (wget w_45 92 26)) (fun w_48 => if 0 ≤ (wget w_48 92 27) then (bnd (wset w_48 92 6 (wget w_48 92 27)) (fun w_51 => bnd (wset w_51 96 0 (0 : Int32)) (fun w_53 => bnd (wset w_53 96 1 (wget w_53 92 4)) (fun w_55 => bnd (0 : Int32) (fun x1_57 => f_X6_settles_l85 300 x1_57 w_55))))) else (bnd (wset w_48 92 6 (20 : Int32)) (fun w_59 => bnd (wset w_59 96 0 (0 : Int32)) (fun w_61 => bnd (wset w_61 96 1 (wget w_61 92 4)) (fun w_63 => bnd (0 : Int32) (fun x1_65 => f_X6_settles_l85 300 x1_65 w_63))))))) else (bnd (wset w_45 92 5 (1 : Int32)) (fun w_67 => if 0 ≤ (wget w_67 92 27) then (bnd (wset w_67 92 6 (wget w_67 92 27)) (fun w_70 => bnd (wset w_70 96 0 (0 : Int32)) (fun w_72 => bnd (wset w_72 96 1 (wget w_72 92 4)) (fun w_74 => bnd (0 : Int32) (fun x1_76 => f_X6_settles_l85 300 x1_76 w_74))))) else (bnd (wset w_67 92 6 (20 : Int32)) (fun w_78 => bnd (wset w_78 96 0 (0 : Int32)) (fun w_80 => bnd (wset w_80 96 1 (wget w_80 92 4)) (fun w_82 => bnd (0 : Int32) (fun x1_84 => f_X6_settles_l85 300 x1_84 w_82))))))))))
def f_X6_settles (w : Wd) : Option (Unit × Wd) := f_X6_settles_b0 w
def f_X6_pot_b70 (w : Wd) : Option (Int32 × Wd) :=
  if (wget w 92 21) = 0 then (cal (f_X6_settles w) (fun r_3 w_2 => some (wget w_2 92 22, w_2))) else (some ((-10 : Int32) - (wget w 92 18), w))
def f_X6_pot_h39 (kh39 : (Wd → Option (Int32 × Wd))) (w : Wd) : Option (Int32 × Wd) :=
  if (wget w 92 19) = 0 then (f_X6_pot_b70 w) else (if (wget w 92 21) = 0 then (cal (f_X6_readItem w) (fun r_4 w_3 => bnd (wset w_3 92 22 ((wget w_3 92 22) + (1 : Int32))) (fun w_6 => kh39 w_6))) else (f_X6_pot_b70 w))
def f_X6_pot_l39 : Nat → Wd → Option (Int32 × Wd)
  | 0, _ => none
  | n + 1, w => f_X6_pot_h39 (f_X6_pot_l39 n) w
def f_X6_pot_b0 (w : Wd) : Option (Int32 × Wd) :=
  bnd (wset w 92 17 (0 : Int32)) (fun w_1 => bnd (wset w_1 92 21 (0 : Int32)) (fun w_3 => bnd (wset w_3 92 22 (0 : Int32)) (fun w_5 => bnd (wset w_5 92 23 (0 : Int32)) (fun w_7 => bnd (wset w_7 92 25 (-1 : Int32)) (fun w_9 => bnd (wset w_9 92 26 (-1 : Int32)) (fun w_11 => bnd (wset w_11 92 27 (-1 : Int32)) (fun w_13 => cal (f_X6_next w_13) (fun r_16 w_15 => f_X6_pot_l39 300 w_15))))))))
def f_X6_pot (w : Wd) : Option (Int32 × Wd) := f_X6_pot_b0 w
def f_X6_asItIs_b0 (w : Wd) : Option (Unit × Wd) :=
  cal (f_X6_copy 103 96 (0 : Int32) (0 : Int32) w) (fun r_2 w_1 => some ((), w_1))
def f_X6_asItIs (w : Wd) : Option (Unit × Wd) := f_X6_asItIs_b0 w
def f_X6_swell_h2 (kh2 : (Int32 → Wd → Option (Unit × Wd))) (x1 : Int32) (w : Wd) : Option (Unit × Wd) :=
  if (wget w 92 0) ≤ x1 then (some ((), w)) else (grd (inb ((8 : Int32) + x1) 26) (grd (inb x1 6) (bnd ((wget w 103 (((8 : Int32) + x1).toNatClampNeg)) + (wget w 94 x1.toNatClampNeg)) (fun x2_4 => grd (inb ((2 : Int32) + x1) 26) (if (wget w 103 (((2 : Int32) + x1).toNatClampNeg)) = (-9 : Int32) then (grd (inb ((8 : Int32) + x1) 26) (grd (inb ((8 : Int32) + x1) 26) (bnd (wset w 103 (((8 : Int32) + x1).toNatClampNeg) (wget w 103 (((8 : Int32) + x1).toNatClampNeg))) (fun w_21 => bnd (x1 + (1 : Int32)) (fun x1_23 => kh2 x1_23 w_21))))) else (if x2_4 ≤ (30 : Int32) then (grd (inb ((8 : Int32) + x1) 26) (bnd (wset w 103 (((8 : Int32) + x1).toNatClampNeg) x2_4) (fun w_10 => bnd (x1 + (1 : Int32)) (fun x1_12 => kh2 x1_12 w_10)))) else (grd (inb ((8 : Int32) + x1) 26) (bnd (wset w 103 (((8 : Int32) + x1).toNatClampNeg) (30 : Int32)) (fun w_15 => bnd (x1 + (1 : Int32)) (fun x1_17 => kh2 x1_17 w_15))))))))))
def f_X6_swell_l2 : Nat → Int32 → Wd → Option (Unit × Wd)
  | 0, _, _ => none
  | n + 1, x1, w => f_X6_swell_h2 (f_X6_swell_l2 n) x1 w
def f_X6_swell_b0 (w : Wd) : Option (Unit × Wd) :=
  bnd (0 : Int32) (fun x1_1 => f_X6_swell_l2 300 x1_1 w)
def f_X6_swell (w : Wd) : Option (Unit × Wd) := f_X6_swell_b0 w
def f_X6_lift_h4 (kh4 : (Int32 → Int32 → Int32 → Wd → Option (Int32 × Wd))) (x1 : Int32) (x2 : Int32) (x3 : Int32) (w : Wd) : Option (Int32 × Wd) :=
  if (wget w 92 0) ≤ x3 then (some (x2, w)) else (cal (f_X6_has x1 x3 w) (fun r_3 w_2 => if r_3 = 0 then (bnd (x2 + (0 : Int32)) (fun x2_6 => bnd (x3 + (1 : Int32)) (fun x3_8 => kh4 x1 x2_6 x3_8 w_2))) else (grd (inb ((8 : Int32) + x3) 26) (grd (inb x3 6) (bnd (x2 + (((wget w_2 103 (((8 : Int32) + x3).toNatClampNeg)) + (wget w_2 103 1)) - (wget w_2 93 x3.toNatClampNeg))) (fun x2_12 => bnd (x3 + (1 : Int32)) (fun x3_14 => kh4 x1 x2_12 x3_14 w_2)))))))
def f_X6_lift_l4 : Nat → Int32 → Int32 → Int32 → Wd → Option (Int32 × Wd)
  | 0, _, _, _, _ => none
  | n + 1, x1, x2, x3, w => f_X6_lift_h4 (f_X6_lift_l4 n) x1 x2 x3 w
def f_X6_lift_b0 (x1 : Int32) (w : Wd) : Option (Int32 × Wd) :=
  bnd (0 : Int32) (fun x2_1 => bnd (0 : Int32) (fun x3_3 => f_X6_lift_l4 300 x1 x2_1 x3_3 w))
def f_X6_lift (x1 : Int32) (w : Wd) : Option (Int32 × Wd) := f_X6_lift_b0 x1 w
def f_X6_floats_b92 (kh2 : (Int32 → Wd → Option (Unit × Wd))) (x1 : Int32) (w : Wd) : Option (Unit × Wd) :=
  bnd (x1 + (1 : Int32)) (fun x1_1 => kh2 x1_1 w)
def f_X6_floats_h2 (kh2 : (Int32 → Wd → Option (Unit × Wd))) (x1 : Int32) (w : Wd) : Option (Unit × Wd) :=
  if (wget w 92 0) ≤ x1 then (some ((), w)) else (grd (inb ((14 : Int32) + x1) 26) (cal (f_X6_lift (wget w 103 (((14 : Int32) + x1).toNatClampNeg)) w) (fun r_4 w_3 => bnd r_4 (fun x2_6 => grd (inb ((2 : Int32) + x1) 26) (if (wget w_3 103 (((2 : Int32) + x1).toNatClampNeg)) = (-9 : Int32) then (f_X6_floats_b92 kh2 x1 w_3) else (grd (inb ((2 : Int32) + x1) 26) (if x2_6 ≤ 0 then (if 0 ≤ x2_6 then (bnd ((wget w_3 103 (((2 : Int32) + x1).toNatClampNeg)) - (0 : Int32)) (fun x3_13 => if 0 ≤ x3_13 then (if x3_13 ≤ (10 : Int32) then (grd (inb ((2 : Int32) + x1) 26) (bnd (wset w_3 103 (((2 : Int32) + x1).toNatClampNeg) x3_13) (fun w_18 => f_X6_floats_b92 kh2 x1 w_18))) else (grd (inb ((2 : Int32) + x1) 26) (bnd (wset w_3 103 (((2 : Int32) + x1).toNatClampNeg) (10 : Int32)) (fun w_21 => f_X6_floats_b92 kh2 x1 w_21)))) else (grd (inb ((2 : Int32) + x1) 26) (bnd (wset w_3 103 (((2 : Int32) + x1).toNatClampNeg) (0 : Int32)) (fun w_24 => f_X6_floats_b92 kh2 x1 w_24))))) else (bnd ((wget w_3 103 (((2 : Int32) + x1).toNatClampNeg)) - (-1 : Int32)) (fun x3_26 => if 0 ≤ x3_26 then (if x3_26 ≤ (10 : Int32) then (grd (inb ((2 : Int32) + x1) 26) (bnd (wset w_3 103 (((2 : Int32) + x1).toNatClampNeg) x3_26) (fun w_31 => f_X6_floats_b92 kh2 x1 w_31))) else (grd (inb ((2 : Int32) + x1) 26) (bnd (wset w_3 103 (((2 : Int32) + x1).toNatClampNeg) (10 : Int32)) (fun w_34 => f_X6_floats_b92 kh2 x1 w_34)))) else (grd (inb ((2 : Int32) + x1) 26) (bnd (wset w_3 103 (((2 : Int32) + x1).toNatClampNeg) (0 : Int32)) (fun w_37 => f_X6_floats_b92 kh2 x1 w_37)))))) else (bnd ((wget w_3 103 (((2 : Int32) + x1).toNatClampNeg)) - (1 : Int32)) (fun x3_39 => if 0 ≤ x3_39 then (if x3_39 ≤ (10 : Int32) then (grd (inb ((2 : Int32) + x1) 26) (bnd (wset w_3 103 (((2 : Int32) + x1).toNatClampNeg) x3_39) (fun w_44 => f_X6_floats_b92 kh2 x1 w_44))) else (grd (inb ((2 : Int32) + x1) 26) (bnd (wset w_3 103 (((2 : Int32) + x1).toNatClampNeg) (10 : Int32)) (fun w_47 => f_X6_floats_b92 kh2 x1 w_47)))) else (grd (inb ((2 : Int32) + x1) 26) (bnd (wset w_3 103 (((2 : Int32) + x1).toNatClampNeg) (0 : Int32)) (fun w_50 => f_X6_floats_b92 kh2 x1 w_50))))))))))))
def f_X6_floats_l2 : Nat → Int32 → Wd → Option (Unit × Wd)
  | 0, _, _ => none
  | n + 1, x1, w => f_X6_floats_h2 (f_X6_floats_l2 n) x1 w
def f_X6_floats_b0 (w : Wd) : Option (Unit × Wd) :=
  bnd (0 : Int32) (fun x1_1 => f_X6_floats_l2 300 x1_1 w)
def f_X6_floats (w : Wd) : Option (Unit × Wd) := f_X6_floats_b0 w
def f_X6_lays_h2 (kh2 : (Int32 → Int32 → Wd → Option (Unit × Wd))) (x1 : Int32) (x2 : Int32) (w : Wd) : Option (Unit × Wd) :=
  if (wget w 92 0) ≤ x2 then (some ((), w)) else (cal (f_X6_has x1 x2 w) (fun r_3 w_2 => if r_3 = 0 then (grd (inb ((14 : Int32) + x2) 26) (grd (inb ((14 : Int32) + x2) 26) (bnd (wset w_2 103 (((14 : Int32) + x2).toNatClampNeg) (wget w_2 103 (((14 : Int32) + x2).toNatClampNeg))) (fun w_8 => bnd (x2 + (1 : Int32)) (fun x2_10 => kh2 x1 x2_10 w_8))))) else (grd (inb ((14 : Int32) + x2) 26) (bnd (wset w_2 103 (((14 : Int32) + x2).toNatClampNeg) x1) (fun w_13 => bnd (x2 + (1 : Int32)) (fun x2_15 => kh2 x1 x2_15 w_13))))))
def f_X6_lays_l2 : Nat → Int32 → Int32 → Wd → Option (Unit × Wd)
  | 0, _, _, _ => none
  | n + 1, x1, x2, w => f_X6_lays_h2 (f_X6_lays_l2 n) x1 x2 w
def f_X6_lays_b0 (x1 : Int32) (w : Wd) : Option (Unit × Wd) :=
  bnd (0 : Int32) (fun x2_1 => f_X6_lays_l2 300 x1 x2_1 w)
def f_X6_lays (x1 : Int32) (w : Wd) : Option (Unit × Wd) := f_X6_lays_b0 x1 w
def f_X6_stick_b145 (kh2 : (Int32 → Wd → Option (Unit × Wd))) (kh14 : (Int32 → Int32 → Wd → Option (Unit × Wd))) (x1 : Int32) (x2 : Int32) (w : Wd) : Option (Unit × Wd) :=
  bnd (x2 + (1 : Int32)) (fun x2_1 => kh14 x1 x2_1 w)
def f_X6_stick_b114 (kh2 : (Int32 → Wd → Option (Unit × Wd))) (kh14 : (Int32 → Int32 → Wd → Option (Unit × Wd))) (x1 : Int32) (x2 : Int32) (w : Wd) : Option (Unit × Wd) :=
  bnd (0 : Int32) (fun x4_1 => if x4_1 = 0 then (f_X6_stick_b145 kh2 kh14 x1 x2 w) else (grd (inb ((14 : Int32) + x1) 26) (grd (inb ((14 : Int32) + x2) 26) (cal (f_X6_lays ((wget w 103 (((14 : Int32) + x1).toNatClampNeg)) ||| (wget w 103 (((14 : Int32) + x2).toNatClampNeg))) w) (fun r_7 w_6 => f_X6_stick_b145 kh2 kh14 x1 x2 w_6)))))
def f_X6_stick_h14 (kh2 : (Int32 → Wd → Option (Unit × Wd))) (kh14 : (Int32 → Int32 → Wd → Option (Unit × Wd))) (x1 : Int32) (x2 : Int32) (w : Wd) : Option (Unit × Wd) :=
  if (wget w 92 0) ≤ x2 then (bnd (x1 + (1 : Int32)) (fun x1_2 => kh2 x1_2 w)) else (grd (inb ((8 : Int32) + x1) 26) (grd (inb ((8 : Int32) + x2) 26) (bnd ((wget w 103 (((8 : Int32) + x1).toNatClampNeg)) - (wget w 103 (((8 : Int32) + x2).toNatClampNeg))) (fun x3_6 => grd (inb ((2 : Int32) + x1) 26) (grd (inb ((2 : Int32) + x2) 26) (if (wget w 103 (((2 : Int32) + x1).toNatClampNeg)) = (wget w 103 (((2 : Int32) + x2).toNatClampNeg)) then (grd (inb ((2 : Int32) + x1) 26) (cal (f_X6_in (wget w 103 (((2 : Int32) + x1).toNatClampNeg)) (1 : Int32) (9 : Int32) w) (fun r_13 w_12 => if r_13 = 0 then (f_X6_stick_b114 kh2 kh14 x1 x2 w_12) else (cal (f_X6_in x3_6 (-(wget w_12 92 5)) (wget w_12 92 5) w_12) (fun r_17 w_16 => if r_17 = 0 then (f_X6_stick_b114 kh2 kh14 x1 x2 w_16) else (grd (inb ((14 : Int32) + x1) 26) (cal (f_X6_has (wget w_16 103 (((14 : Int32) + x1).toNatClampNeg)) x2 w_16) (fun r_22 w_21 => if r_22 = 0 then (bnd (1 : Int32) (fun x4_25 => if x4_25 = 0 then (f_X6_stick_b145 kh2 kh14 x1 x2 w_21) else (grd (inb ((14 : Int32) + x1) 26) (grd (inb ((14 : Int32) + x2) 26) (cal (f_X6_lays ((wget w_21 103 (((14 : Int32) + x1).toNatClampNeg)) ||| (wget w_21 103 (((14 : Int32) + x2).toNatClampNeg))) w_21) (fun r_31 w_30 => f_X6_stick_b145 kh2 kh14 x1 x2 w_30)))))) else (f_X6_stick_b114 kh2 kh14 x1 x2 w_21))))))))) else (f_X6_stick_b114 kh2 kh14 x1 x2 w)))))))
def f_X6_stick_l14 (kh2 : (Int32 → Wd → Option (Unit × Wd))) : Nat → Int32 → Int32 → Wd → Option (Unit × Wd)
  | 0, _, _, _ => none
  | n + 1, x1, x2, w => f_X6_stick_h14 kh2 (f_X6_stick_l14 kh2 n) x1 x2 w
def f_X6_stick_h2 (kh2 : (Int32 → Wd → Option (Unit × Wd))) (x1 : Int32) (w : Wd) : Option (Unit × Wd) :=
  if (wget w 92 0) ≤ x1 then (some ((), w)) else (bnd (x1 + (1 : Int32)) (fun x2_2 => f_X6_stick_l14 kh2 300 x1 x2_2 w))
def f_X6_stick_l2 : Nat → Int32 → Wd → Option (Unit × Wd)
  | 0, _, _ => none
  | n + 1, x1, w => f_X6_stick_h2 (f_X6_stick_l2 n) x1 w
def f_X6_stick_b0 (w : Wd) : Option (Unit × Wd) :=
  bnd (0 : Int32) (fun x1_1 => f_X6_stick_l2 300 x1_1 w)
def f_X6_stick (w : Wd) : Option (Unit × Wd) := f_X6_stick_b0 w
def f_X6_goesBy_h24 (kh24 : (Int32 → Wd → Option (Unit × Wd))) (x1 : Int32) (w : Wd) : Option (Unit × Wd) :=
  if (wget w 92 0) ≤ x1 then (some ((), w)) else (grd (inb ((2 : Int32) + x1) 26) (if (wget w 103 (((2 : Int32) + x1).toNatClampNeg)) = 0 then (grd (inb ((20 : Int32) + x1) 26) (if (wget w 103 (((20 : Int32) + x1).toNatClampNeg)) = (-9 : Int32) then (grd (inb ((20 : Int32) + x1) 26) (bnd (wset w 103 (((20 : Int32) + x1).toNatClampNeg) (wget w 103 0)) (fun w_19 => bnd (x1 + (1 : Int32)) (fun x1_21 => kh24 x1_21 w_19)))) else (grd (inb ((20 : Int32) + x1) 26) (grd (inb ((20 : Int32) + x1) 26) (bnd (wset w 103 (((20 : Int32) + x1).toNatClampNeg) (wget w 103 (((20 : Int32) + x1).toNatClampNeg))) (fun w_14 => bnd (x1 + (1 : Int32)) (fun x1_16 => kh24 x1_16 w_14))))))) else (grd (inb ((20 : Int32) + x1) 26) (grd (inb ((20 : Int32) + x1) 26) (bnd (wset w 103 (((20 : Int32) + x1).toNatClampNeg) (wget w 103 (((20 : Int32) + x1).toNatClampNeg))) (fun w_6 => bnd (x1 + (1 : Int32)) (fun x1_8 => kh24 x1_8 w_6)))))))
def f_X6_goesBy_l24 : Nat → Int32 → Wd → Option (Unit × Wd)
  | 0, _, _ => none
  | n + 1, x1, w => f_X6_goesBy_h24 (f_X6_goesBy_l24 n) x1 w
def f_X6_goesBy_b0 (w : Wd) : Option (Unit × Wd) :=
  bnd (wset w 103 0 ((wget w 103 0) + (1 : Int32))) (fun w_1 => cal (f_X6_swell w_1) (fun r_4 w_3 => cal (f_X6_floats w_3) (fun r_7 w_6 => cal (f_X6_stick w_6) (fun r_10 w_9 => bnd (0 : Int32) (fun x1_12 => f_X6_goesBy_l24 300 x1_12 w_9)))))
def f_X6_goesBy (w : Wd) : Option (Unit × Wd) := f_X6_goesBy_b0 w
def f_X6_atDepth_h4 (kh4 : (Int32 → Int32 → Int32 → Wd → Option (Int32 × Wd))) (x1 : Int32) (x2 : Int32) (x3 : Int32) (w : Wd) : Option (Int32 × Wd) :=
  if (wget w 92 0) ≤ x3 then (some (x2, w)) else (grd (inb ((2 : Int32) + x3) 26) (if (wget w 103 (((2 : Int32) + x3).toNatClampNeg)) = x1 then (bnd (x2 ||| ((1 : Int32) <<< (x3 &&& 31))) (fun x2_8 => bnd (x3 + (1 : Int32)) (fun x3_10 => kh4 x1 x2_8 x3_10 w))) else (bnd (x2 ||| (0 : Int32)) (fun x2_4 => bnd (x3 + (1 : Int32)) (fun x3_6 => kh4 x1 x2_4 x3_6 w)))))
def f_X6_atDepth_l4 : Nat → Int32 → Int32 → Int32 → Wd → Option (Int32 × Wd)
  | 0, _, _, _, _ => none
  | n + 1, x1, x2, x3, w => f_X6_atDepth_h4 (f_X6_atDepth_l4 n) x1 x2 x3 w
def f_X6_atDepth_b0 (x1 : Int32) (w : Wd) : Option (Int32 × Wd) :=
  bnd (0 : Int32) (fun x2_1 => bnd (0 : Int32) (fun x3_3 => f_X6_atDepth_l4 300 x1 x2_1 x3_3 w))
def f_X6_atDepth (x1 : Int32) (w : Wd) : Option (Int32 × Wd) := f_X6_atDepth_b0 x1 w
def f_X6_dry_b0 (w : Wd) : Option (Int32 × Wd) :=
  cal (f_X6_asItIs w) (fun r_2 w_1 => cal (f_X6_atDepth (-9 : Int32) w_1) (fun r_5 w_4 => some (r_5, w_4)))
def f_X6_dry (w : Wd) : Option (Int32 × Wd) := f_X6_dry_b0 w
def f_X6_dumpling_b0 (x1 : Int32) (x2 : Int32) (w : Wd) : Option (Int32 × Wd) :=
  cal (f_X6_isOne x1 w) (fun r_2 w_1 => if r_2 = 0 then (some ((-1 : Int32), w_1)) else (if x2 = 0 then (grd (inb x1 6) (some (wget w_1 93 x1.toNatClampNeg, w_1))) else if x2 = 1 then (grd (inb ((8 : Int32) + x1) 26) (some (wget w_1 96 (((8 : Int32) + x1).toNatClampNeg), w_1))) else if x2 = 2 then (grd (inb x1 6) (some (wget w_1 94 x1.toNatClampNeg, w_1))) else if x2 = 3 then (grd (inb x1 6) (some (wget w_1 95 x1.toNatClampNeg, w_1))) else if x2 = 4 then (grd (inb ((2 : Int32) + x1) 26) (some (wget w_1 96 (((2 : Int32) + x1).toNatClampNeg), w_1))) else if x2 = 5 then (grd (inb ((14 : Int32) + x1) 26) (some (wget w_1 96 (((14 : Int32) + x1).toNatClampNeg), w_1))) else if x2 = 6 then (grd (inb ((20 : Int32) + x1) 26) (some (wget w_1 96 (((20 : Int32) + x1).toNatClampNeg), w_1))) else (some ((-1 : Int32), w_1))))
def f_X6_dumpling (x1 : Int32) (x2 : Int32) (w : Wd) : Option (Int32 × Wd) := f_X6_dumpling_b0 x1 x2 w
def f_X6_risenMany_h4 (kh4 : (Int32 → Int32 → Wd → Option (Int32 × Wd))) (x1 : Int32) (x2 : Int32) (w : Wd) : Option (Int32 × Wd) :=
  if (wget w 92 0) ≤ x2 then (some (x1, w)) else (grd (inb ((20 : Int32) + x2) 26) (if (wget w 96 (((20 : Int32) + x2).toNatClampNeg)) = (-9 : Int32) then (bnd (x1 + (0 : Int32)) (fun x1_8 => bnd (x2 + (1 : Int32)) (fun x2_10 => kh4 x1_8 x2_10 w))) else (bnd (x1 + (1 : Int32)) (fun x1_4 => bnd (x2 + (1 : Int32)) (fun x2_6 => kh4 x1_4 x2_6 w)))))
def f_X6_risenMany_l4 : Nat → Int32 → Int32 → Wd → Option (Int32 × Wd)
  | 0, _, _, _ => none
  | n + 1, x1, x2, w => f_X6_risenMany_h4 (f_X6_risenMany_l4 n) x1 x2 w
def f_X6_risenMany_b0 (w : Wd) : Option (Int32 × Wd) :=
  bnd (0 : Int32) (fun x1_1 => bnd (0 : Int32) (fun x2_3 => f_X6_risenMany_l4 300 x1_1 x2_3 w))
def f_X6_risenMany (w : Wd) : Option (Int32 × Wd) := f_X6_risenMany_b0 w
def f_X6_sizeOf_h4 (kh4 : (Int32 → Int32 → Int32 → Wd → Option (Int32 × Wd))) (x1 : Int32) (x2 : Int32) (x3 : Int32) (w : Wd) : Option (Int32 × Wd) :=
  if (wget w 92 0) ≤ x3 then (some (x2, w)) else (cal (f_X6_has x1 x3 w) (fun r_3 w_2 => if r_3 = 0 then (bnd (x2 + (0 : Int32)) (fun x2_6 => bnd (x3 + (1 : Int32)) (fun x3_8 => kh4 x1 x2_6 x3_8 w_2))) else (grd (inb ((8 : Int32) + x3) 26) (bnd (x2 + (wget w_2 96 (((8 : Int32) + x3).toNatClampNeg))) (fun x2_11 => bnd (x3 + (1 : Int32)) (fun x3_13 => kh4 x1 x2_11 x3_13 w_2))))))
def f_X6_sizeOf_l4 : Nat → Int32 → Int32 → Int32 → Wd → Option (Int32 × Wd)
  | 0, _, _, _, _ => none
  | n + 1, x1, x2, x3, w => f_X6_sizeOf_h4 (f_X6_sizeOf_l4 n) x1 x2 x3 w
def f_X6_sizeOf_b0 (x1 : Int32) (w : Wd) : Option (Int32 × Wd) :=
  bnd (0 : Int32) (fun x2_1 => bnd (0 : Int32) (fun x3_3 => f_X6_sizeOf_l4 300 x1 x2_1 x3_3 w))
def f_X6_sizeOf (x1 : Int32) (w : Wd) : Option (Int32 × Wd) := f_X6_sizeOf_b0 x1 w
def f_X6_pots_b72 (kh18 : (Int32 → Int32 → Wd → Option (Int32 × Wd))) (kh33 : (Int32 → Int32 → Int32 → Wd → Option (Int32 × Wd))) (x1 : Int32) (x2 : Int32) (x3 : Int32) (w : Wd) : Option (Int32 × Wd) :=
  bnd (0 : Int32) (fun x4_1 => if x4_1 = 0 then (grd (inb x2 64) (grd (inb x2 64) (bnd (wset w 104 x2.toNatClampNeg (wget w 104 x2.toNatClampNeg)) (fun w_6 => bnd ((x3 - (1 : Int32)) &&& x2) (fun x3_8 => kh33 x1 x2 x3_8 w_6))))) else (grd (inb (x2 - x3) 64) (grd (inb x2 64) (bnd (wset w 104 x2.toNatClampNeg ((wget w 104 ((x2 - x3).toNatClampNeg)) + (1 : Int32))) (fun w_12 => bnd ((x3 - (1 : Int32)) &&& x2) (fun x3_14 => kh33 x1 x2 x3_14 w_12))))))
def f_X6_pots_h33 (kh18 : (Int32 → Int32 → Wd → Option (Int32 × Wd))) (kh33 : (Int32 → Int32 → Int32 → Wd → Option (Int32 × Wd))) (x1 : Int32) (x2 : Int32) (x3 : Int32) (w : Wd) : Option (Int32 × Wd) :=
  if x3 ≤ 0 then (bnd (x2 + (1 : Int32)) (fun x2_2 => kh18 x1 x2_2 w)) else (cal (f_X6_sizeOf x3 w) (fun r_5 w_4 => if (wget w_4 92 6) < r_5 then (f_X6_pots_b72 kh18 kh33 x1 x2 x3 w_4) else (grd (inb (x2 - x3) 64) (grd (inb x2 64) (if (wget w_4 104 x2.toNatClampNeg) ≤ ((wget w_4 104 ((x2 - x3).toNatClampNeg)) + (1 : Int32)) then (f_X6_pots_b72 kh18 kh33 x1 x2 x3 w_4) else (bnd (1 : Int32) (fun x4_11 => if x4_11 = 0 then (grd (inb x2 64) (grd (inb x2 64) (bnd (wset w_4 104 x2.toNatClampNeg (wget w_4 104 x2.toNatClampNeg)) (fun w_16 => bnd ((x3 - (1 : Int32)) &&& x2) (fun x3_18 => kh33 x1 x2 x3_18 w_16))))) else (grd (inb (x2 - x3) 64) (grd (inb x2 64) (bnd (wset w_4 104 x2.toNatClampNeg ((wget w_4 104 ((x2 - x3).toNatClampNeg)) + (1 : Int32))) (fun w_22 => bnd ((x3 - (1 : Int32)) &&& x2) (fun x3_24 => kh33 x1 x2 x3_24 w_22))))))))))))
def f_X6_pots_l33 (kh18 : (Int32 → Int32 → Wd → Option (Int32 × Wd))) : Nat → Int32 → Int32 → Int32 → Wd → Option (Int32 × Wd)
  | 0, _, _, _, _ => none
  | n + 1, x1, x2, x3, w => f_X6_pots_h33 kh18 (f_X6_pots_l33 kh18 n) x1 x2 x3 w
def f_X6_pots_h18 (kh18 : (Int32 → Int32 → Wd → Option (Int32 × Wd))) (x1 : Int32) (x2 : Int32) (w : Wd) : Option (Int32 × Wd) :=
  if x1 < x2 then (grd (inb x1 64) (if (wget w 104 x1.toNatClampNeg) = (99 : Int32) then (some ((-9 : Int32), w)) else (grd (inb x1 64) (some (wget w 104 x1.toNatClampNeg, w))))) else (grd (inb x2 64) (bnd (wset w 104 x2.toNatClampNeg (99 : Int32)) (fun w_6 => bnd x2 (fun x3_8 => f_X6_pots_l33 kh18 300 x1 x2 x3_8 w_6))))
def f_X6_pots_l18 : Nat → Int32 → Int32 → Wd → Option (Int32 × Wd)
  | 0, _, _, _ => none
  | n + 1, x1, x2, w => f_X6_pots_h18 (f_X6_pots_l18 n) x1 x2 w
def f_X6_pots_b0 (w : Wd) : Option (Int32 × Wd) :=
  bnd (((1 : Int32) <<< ((wget w 92 0) &&& 31)) - (1 : Int32)) (fun x1_1 => bnd (wset w 104 0 (0 : Int32)) (fun w_3 => bnd (1 : Int32) (fun x2_5 => f_X6_pots_l18 300 x1_1 x2_5 w_3)))
def f_X6_pots (w : Wd) : Option (Int32 × Wd) := f_X6_pots_b0 w
def f_X6_now_b0 (x1 : Int32) (w : Wd) : Option (Int32 × Wd) :=
  cal (f_X6_asItIs w) (fun r_2 w_1 => if x1 = 0 then (grd (inb x1 26) (some (wget w_1 96 x1.toNatClampNeg, w_1))) else if x1 = 1 then (grd (inb x1 26) (some (wget w_1 96 x1.toNatClampNeg, w_1))) else if x1 = 2 then (cal (f_X6_atDepth (-9 : Int32) w_1) (fun r_9 w_8 => some (r_9, w_8))) else if x1 = 3 then (cal (f_X6_atDepth (0 : Int32) w_1) (fun r_13 w_12 => some (r_13, w_12))) else if x1 = 4 then (cal (f_X6_risenMany w_1) (fun r_17 w_16 => some (r_17, w_16))) else if x1 = 5 then (cal (f_X6_pots w_1) (fun r_21 w_20 => some (r_21, w_20))) else if x1 = 6 then (some (wget w_1 92 9, w_1)) else (some ((-1 : Int32), w_1)))
def f_X6_now (x1 : Int32) (w : Wd) : Option (Int32 × Wd) := f_X6_now_b0 x1 w
def f_X6_order_b57 (kh15 : (Int32 → Int32 → Wd → Option (Int32 × Wd))) (kh24 : (Int32 → Int32 → Int32 → Wd → Option (Int32 × Wd))) (x2 : Int32) (x3 : Int32) (x4 : Int32) (w : Wd) : Option (Int32 × Wd) :=
  bnd (x4 + (1 : Int32)) (fun x4_1 => kh24 x2 x3 x4_1 w)
def f_X6_order_h24 (kh15 : (Int32 → Int32 → Wd → Option (Int32 × Wd))) (kh24 : (Int32 → Int32 → Int32 → Wd → Option (Int32 × Wd))) (x2 : Int32) (x3 : Int32) (x4 : Int32) (w : Wd) : Option (Int32 × Wd) :=
  if (wget w 92 0) ≤ x4 then (bnd (x3 + (1 : Int32)) (fun x3_2 => kh15 x2 x3_2 w)) else (grd (inb ((20 : Int32) + x4) 26) (if (wget w 96 (((20 : Int32) + x4).toNatClampNeg)) = x3 then (if x2 = 0 then (some (x4, w)) else (bnd (x2 + (-1 : Int32)) (fun x2_7 => f_X6_order_b57 kh15 kh24 x2_7 x3 x4 w))) else (f_X6_order_b57 kh15 kh24 x2 x3 x4 w)))
def f_X6_order_l24 (kh15 : (Int32 → Int32 → Wd → Option (Int32 × Wd))) : Nat → Int32 → Int32 → Int32 → Wd → Option (Int32 × Wd)
  | 0, _, _, _, _ => none
  | n + 1, x2, x3, x4, w => f_X6_order_h24 kh15 (f_X6_order_l24 kh15 n) x2 x3 x4 w
def f_X6_order_h15 (kh15 : (Int32 → Int32 → Wd → Option (Int32 × Wd))) (x2 : Int32) (x3 : Int32) (w : Wd) : Option (Int32 × Wd) :=
  if (99 : Int32) < x3 then (some ((-9 : Int32), w)) else (bnd (0 : Int32) (fun x4_2 => f_X6_order_l24 kh15 300 x2 x3 x4_2 w))
def f_X6_order_l15 : Nat → Int32 → Int32 → Wd → Option (Int32 × Wd)
  | 0, _, _, _ => none
  | n + 1, x2, x3, w => f_X6_order_h15 (f_X6_order_l15 n) x2 x3 w
def f_X6_order_b0 (x1 : Int32) (w : Wd) : Option (Int32 × Wd) :=
  cal (f_X6_in x1 (0 : Int32) (5 : Int32) w) (fun r_2 w_1 => if r_2 = 0 then (some ((-1 : Int32), w_1)) else (bnd x1 (fun x2_5 => bnd (1 : Int32) (fun x3_7 => f_X6_order_l15 300 x2_5 x3_7 w_1))))
def f_X6_order (x1 : Int32) (w : Wd) : Option (Int32 × Wd) := f_X6_order_b0 x1 w
def f_X6_remembers_b49 (w : Wd) : Option (Unit × Wd) :=
  cal (f_X6_copy 97 96 ((26 : Int32) * (wget w 92 9)) (0 : Int32) w) (fun r_2 w_1 => bnd (wset w_1 92 9 ((wget w_1 92 9) + (1 : Int32))) (fun w_4 => some ((), w_4)))
def f_X6_remembers_h11 (kh11 : (Int32 → Wd → Option (Unit × Wd))) (x1 : Int32) (w : Wd) : Option (Unit × Wd) :=
  if (234 : Int32) ≤ x1 then (bnd (wset w 92 9 ((wget w 92 9) - (1 : Int32))) (fun w_2 => f_X6_remembers_b49 w_2)) else (grd (inb (x1 + (26 : Int32)) 260) (grd (inb x1 260) (bnd (wset w 97 x1.toNatClampNeg (wget w 97 ((x1 + (26 : Int32)).toNatClampNeg))) (fun w_6 => bnd (x1 + (1 : Int32)) (fun x1_8 => kh11 x1_8 w_6)))))
def f_X6_remembers_l11 : Nat → Int32 → Wd → Option (Unit × Wd)
  | 0, _, _ => none
  | n + 1, x1, w => f_X6_remembers_h11 (f_X6_remembers_l11 n) x1 w
def f_X6_remembers_b0 (w : Wd) : Option (Unit × Wd) :=
  if (wget w 92 9) = (10 : Int32) then (bnd (0 : Int32) (fun x1_2 => f_X6_remembers_l11 300 x1_2 w)) else (f_X6_remembers_b49 w)
def f_X6_remembers (w : Wd) : Option (Unit × Wd) := f_X6_remembers_b0 w
def f_X6_drops_b0 (x1 : Int32) (w : Wd) : Option (Int32 × Wd) :=
  cal (f_X6_isOne x1 w) (fun r_2 w_1 => if r_2 = 0 then (some ((-1 : Int32), w_1)) else (grd (inb ((2 : Int32) + x1) 26) (if (wget w_1 96 (((2 : Int32) + x1).toNatClampNeg)) = (-9 : Int32) then (cal (f_X6_remembers w_1) (fun r_8 w_7 => grd (inb ((2 : Int32) + x1) 26) (bnd (wset w_7 96 (((2 : Int32) + x1).toNatClampNeg) (10 : Int32)) (fun w_11 => cal (f_X6_dry w_11) (fun r_14 w_13 => cal (f_X6_bits r_14 w_13) (fun r_17 w_16 => some ((wget w_11 92 0) - r_17, w_16))))))) else (some ((-2 : Int32), w_1)))))
def f_X6_drops (x1 : Int32) (w : Wd) : Option (Int32 × Wd) := f_X6_drops_b0 x1 w
def f_X6_minute_b0 (w : Wd) : Option (Int32 × Wd) :=
  if (wget w 96 0) = (99 : Int32) then (some ((-2 : Int32), w)) else (cal (f_X6_remembers w) (fun r_3 w_2 => cal (f_X6_asItIs w_2) (fun r_6 w_5 => cal (f_X6_goesBy w_5) (fun r_9 w_8 => cal (f_X6_copy 96 103 (0 : Int32) (0 : Int32) w_8) (fun r_12 w_11 => cal (f_X6_atDepth (0 : Int32) w_11) (fun r_15 w_14 => cal (f_X6_bits r_15 w_14) (fun r_18 w_17 => some (r_18, w_17))))))))
def f_X6_minute (w : Wd) : Option (Int32 × Wd) := f_X6_minute_b0 w
def f_X6_heats_b0 (x1 : Int32) (w : Wd) : Option (Int32 × Wd) :=
  cal (f_X6_in x1 (0 : Int32) (9 : Int32) w) (fun r_2 w_1 => if r_2 = 0 then (some ((-1 : Int32), w_1)) else (bnd (wget w_1 96 1) (fun x2_5 => if x2_5 = x1 then (some ((-2 : Int32), w_1)) else (cal (f_X6_remembers w_1) (fun r_9 w_8 => bnd (wset w_8 96 1 x1) (fun w_11 => some (x2_5, w_11)))))))
def f_X6_heats (x1 : Int32) (w : Wd) : Option (Int32 × Wd) := f_X6_heats_b0 x1 w
def f_X6_skewers_h42 (kh42 : (Int32 → Int32 → Int32 → Wd → Option (Int32 × Wd))) (x1 : Int32) (x2 : Int32) (x3 : Int32) (w : Wd) : Option (Int32 × Wd) :=
  if (wget w 92 0) ≤ x3 then (grd (inb ((8 : Int32) + x1) 26) (if (4 : Int32) ≤ (wget w 96 (((8 : Int32) + x1).toNatClampNeg)) then (grd (inb ((8 : Int32) + x1) 26) (grd (inb ((8 : Int32) + x1) 26) (bnd (wset w 96 (((8 : Int32) + x1).toNatClampNeg) ((wget w 96 (((8 : Int32) + x1).toNatClampNeg)) / (2 : Int32))) (fun w_6 => grd (inb ((8 : Int32) + x1) 26) (some (wget w_6 96 (((8 : Int32) + x1).toNatClampNeg), w_6)))))) else (grd (inb ((8 : Int32) + x1) 26) (bnd (wset w 96 (((8 : Int32) + x1).toNatClampNeg) (1 : Int32)) (fun w_10 => grd (inb ((8 : Int32) + x1) 26) (some (wget w_10 96 (((8 : Int32) + x1).toNatClampNeg), w_10))))))) else (cal (f_X6_has x2 x3 w) (fun r_14 w_13 => if r_14 = 0 then (grd (inb ((14 : Int32) + x3) 26) (grd (inb ((14 : Int32) + x3) 26) (bnd (wset w_13 96 (((14 : Int32) + x3).toNatClampNeg) (wget w_13 96 (((14 : Int32) + x3).toNatClampNeg))) (fun w_19 => bnd (x3 + (1 : Int32)) (fun x3_21 => kh42 x1 x2 x3_21 w_19))))) else (grd (inb ((14 : Int32) + x3) 26) (bnd (wset w_13 96 (((14 : Int32) + x3).toNatClampNeg) ((1 : Int32) <<< (x3 &&& 31))) (fun w_24 => bnd (x3 + (1 : Int32)) (fun x3_26 => kh42 x1 x2 x3_26 w_24))))))
def f_X6_skewers_l42 : Nat → Int32 → Int32 → Int32 → Wd → Option (Int32 × Wd)
  | 0, _, _, _, _ => none
  | n + 1, x1, x2, x3, w => f_X6_skewers_h42 (f_X6_skewers_l42 n) x1 x2 x3 w
def f_X6_skewers_b0 (x1 : Int32) (w : Wd) : Option (Int32 × Wd) :=
  cal (f_X6_isOne x1 w) (fun r_2 w_1 => if r_2 = 0 then (some ((-1 : Int32), w_1)) else (grd (inb ((2 : Int32) + x1) 26) (if (wget w_1 96 (((2 : Int32) + x1).toNatClampNeg)) = (-9 : Int32) then (some ((-2 : Int32), w_1)) else (cal (f_X6_remembers w_1) (fun r_8 w_7 => grd (inb ((14 : Int32) + x1) 26) (bnd (wget w_7 96 (((14 : Int32) + x1).toNatClampNeg)) (fun x2_11 => bnd (0 : Int32) (fun x3_13 => f_X6_skewers_l42 300 x1 x2_11 x3_13 w_7))))))))
def f_X6_skewers (x1 : Int32) (w : Wd) : Option (Int32 × Wd) := f_X6_skewers_b0 x1 w
def f_X6_dips_h30 (kh30 : (Int32 → Int32 → Wd → Option (Int32 × Wd))) (x1 : Int32) (x2 : Int32) (w : Wd) : Option (Int32 × Wd) :=
  if (wget w 92 0) ≤ x2 then (grd (inb ((14 : Int32) + x1) 26) (bnd (wset w 96 (((14 : Int32) + x1).toNatClampNeg) ((1 : Int32) <<< (x1 &&& 31))) (fun w_3 => grd (inb ((2 : Int32) + x1) 26) (bnd (wset w_3 96 (((2 : Int32) + x1).toNatClampNeg) (-9 : Int32)) (fun w_6 => cal (f_X6_dry w_6) (fun r_9 w_8 => cal (f_X6_bits r_9 w_8) (fun r_12 w_11 => some (r_12, w_11)))))))) else (grd (inb ((14 : Int32) + x2) 26) (grd (inb ((14 : Int32) + x2) 26) (bnd (wset w 96 (((14 : Int32) + x2).toNatClampNeg) ((wget w 96 (((14 : Int32) + x2).toNatClampNeg)) &&& (((1 : Int32) <<< (x1 &&& 31)) ^^^ (-1 : Int32)))) (fun w_16 => bnd (x2 + (1 : Int32)) (fun x2_18 => kh30 x1 x2_18 w_16)))))
def f_X6_dips_l30 : Nat → Int32 → Int32 → Wd → Option (Int32 × Wd)
  | 0, _, _, _ => none
  | n + 1, x1, x2, w => f_X6_dips_h30 (f_X6_dips_l30 n) x1 x2 w
def f_X6_dips_b0 (x1 : Int32) (w : Wd) : Option (Int32 × Wd) :=
  cal (f_X6_isOne x1 w) (fun r_2 w_1 => if r_2 = 0 then (some ((-1 : Int32), w_1)) else (grd (inb ((2 : Int32) + x1) 26) (if (wget w_1 96 (((2 : Int32) + x1).toNatClampNeg)) = 0 then (cal (f_X6_remembers w_1) (fun r_8 w_7 => bnd (0 : Int32) (fun x2_10 => f_X6_dips_l30 300 x1 x2_10 w_7))) else (some ((-2 : Int32), w_1)))))
def f_X6_dips (x1 : Int32) (w : Wd) : Option (Int32 × Wd) := f_X6_dips_b0 x1 w
def f_X6_undo_b0 (w : Wd) : Option (Int32 × Wd) :=
  if (wget w 92 9) = 0 then (some ((-2 : Int32), w)) else (bnd (wset w 92 9 ((wget w 92 9) - (1 : Int32))) (fun w_2 => cal (f_X6_copy 96 97 (0 : Int32) ((26 : Int32) * (wget w_2 92 9)) w_2) (fun r_5 w_4 => some (wget w_4 92 9, w_4))))
def f_X6_undo (w : Wd) : Option (Int32 × Wd) := f_X6_undo_b0 w
def f_X6_deep_h26 (kh26 : (Int32 → Int32 → Int32 → Wd → Option (Int32 × Wd))) (x1 : Int32) (x2 : Int32) (x3 : Int32) (w : Wd) : Option (Int32 × Wd) :=
  if x2 ≤ x3 then (grd (inb ((2 : Int32) + x1) 26) (some (wget w 103 (((2 : Int32) + x1).toNatClampNeg), w))) else (cal (f_X6_goesBy w) (fun r_4 w_3 => bnd (x3 + (1 : Int32)) (fun x3_6 => kh26 x1 x2 x3_6 w_3)))
def f_X6_deep_l26 : Nat → Int32 → Int32 → Int32 → Wd → Option (Int32 × Wd)
  | 0, _, _, _, _ => none
  | n + 1, x1, x2, x3, w => f_X6_deep_h26 (f_X6_deep_l26 n) x1 x2 x3 w
def f_X6_deep_b0 (x1 : Int32) (x2 : Int32) (w : Wd) : Option (Int32 × Wd) :=
  cal (f_X6_isOne x1 w) (fun r_2 w_1 => if r_2 = 0 then (some ((-1 : Int32), w_1)) else (cal (f_X6_in x2 (0 : Int32) (40 : Int32) w_1) (fun r_6 w_5 => if r_6 = 0 then (some ((-1 : Int32), w_5)) else (cal (f_X6_asItIs w_5) (fun r_10 w_9 => bnd (0 : Int32) (fun x3_12 => f_X6_deep_l26 300 x1 x2 x3_12 w_9))))))
def f_X6_deep (x1 : Int32) (x2 : Int32) (w : Wd) : Option (Int32 × Wd) := f_X6_deep_b0 x1 x2 w
def f_X6_topped_h2 (kh2 : (Int32 → Int32 → Int32 → Wd → Option (Int32 × Wd))) (x1 : Int32) (x2 : Int32) (x3 : Int32) (w : Wd) : Option (Int32 × Wd) :=
  if x2 < x3 then (some ((-9 : Int32), w)) else (grd (inb ((2 : Int32) + x1) 26) (if (wget w 103 (((2 : Int32) + x1).toNatClampNeg)) = 0 then (some (x3, w)) else (cal (f_X6_goesBy w) (fun r_5 w_4 => bnd (x3 + (1 : Int32)) (fun x3_7 => kh2 x1 x2 x3_7 w_4)))))
def f_X6_topped_l2 : Nat → Int32 → Int32 → Int32 → Wd → Option (Int32 × Wd)
  | 0, _, _, _, _ => none
  | n + 1, x1, x2, x3, w => f_X6_topped_h2 (f_X6_topped_l2 n) x1 x2 x3 w
def f_X6_topped_b0 (x1 : Int32) (x2 : Int32) (w : Wd) : Option (Int32 × Wd) :=
  bnd (0 : Int32) (fun x3_1 => f_X6_topped_l2 300 x1 x2 x3_1 w)
def f_X6_topped (x1 : Int32) (x2 : Int32) (w : Wd) : Option (Int32 × Wd) := f_X6_topped_b0 x1 x2 w
def f_X6_when_b0 (x1 : Int32) (w : Wd) : Option (Int32 × Wd) :=
  cal (f_X6_isOne x1 w) (fun r_2 w_1 => if r_2 = 0 then (some ((-1 : Int32), w_1)) else (grd (inb ((2 : Int32) + x1) 26) (if (wget w_1 96 (((2 : Int32) + x1).toNatClampNeg)) = (-9 : Int32) then (some ((-2 : Int32), w_1)) else (cal (f_X6_asItIs w_1) (fun r_8 w_7 => cal (f_X6_topped x1 (40 : Int32) w_7) (fun r_11 w_10 => some (r_11, w_10)))))))
def f_X6_when (x1 : Int32) (w : Wd) : Option (Int32 × Wd) := f_X6_when_b0 x1 w
def f_X6_warm_h38 (kh38 : (Int32 → Int32 → Int32 → Wd → Option (Int32 × Wd))) (x1 : Int32) (x2 : Int32) (x3 : Int32) (w : Wd) : Option (Int32 × Wd) :=
  if (9 : Int32) < x3 then (some ((-9 : Int32), w)) else (cal (f_X6_asItIs w) (fun r_3 w_2 => bnd (wset w_2 103 1 x3) (fun w_5 => cal (f_X6_topped x1 x2 w_5) (fun r_8 w_7 => if r_8 = (-9 : Int32) then (bnd (x3 + (1 : Int32)) (fun x3_11 => kh38 x1 x2 x3_11 w_7)) else (some (x3, w_7))))))
def f_X6_warm_l38 : Nat → Int32 → Int32 → Int32 → Wd → Option (Int32 × Wd)
  | 0, _, _, _, _ => none
  | n + 1, x1, x2, x3, w => f_X6_warm_h38 (f_X6_warm_l38 n) x1 x2 x3 w
def f_X6_warm_b0 (x1 : Int32) (x2 : Int32) (w : Wd) : Option (Int32 × Wd) :=
  cal (f_X6_isOne x1 w) (fun r_2 w_1 => if r_2 = 0 then (some ((-1 : Int32), w_1)) else (cal (f_X6_in x2 (1 : Int32) (40 : Int32) w_1) (fun r_6 w_5 => if r_6 = 0 then (some ((-1 : Int32), w_5)) else (grd (inb ((2 : Int32) + x1) 26) (if (wget w_5 96 (((2 : Int32) + x1).toNatClampNeg)) = (-9 : Int32) then (some ((-2 : Int32), w_5)) else (bnd (0 : Int32) (fun x3_11 => f_X6_warm_l38 300 x1 x2 x3_11 w_5)))))))
def f_X6_warm (x1 : Int32) (x2 : Int32) (w : Wd) : Option (Int32 × Wd) := f_X6_warm_b0 x1 x2 w
def f_X6_isFirst_b107 (kh49 : (Int32 → Int32 → Int32 → Int32 → Wd → Option (Int32 × Wd))) (kh62 : (Int32 → Int32 → Int32 → Int32 → Int32 → Wd → Option (Int32 × Wd))) (x1 : Int32) (x2 : Int32) (x3 : Int32) (x4 : Int32) (x5 : Int32) (w : Wd) : Option (Int32 × Wd) :=
  bnd (x5 + (1 : Int32)) (fun x5_1 => kh62 x1 x2 x3 x4 x5_1 w)
def f_X6_isFirst_h62 (kh49 : (Int32 → Int32 → Int32 → Int32 → Wd → Option (Int32 × Wd))) (kh62 : (Int32 → Int32 → Int32 → Int32 → Int32 → Wd → Option (Int32 × Wd))) (x1 : Int32) (x2 : Int32) (x3 : Int32) (x4 : Int32) (x5 : Int32) (w : Wd) : Option (Int32 × Wd) :=
  if (wget w 92 0) ≤ x5 then (bnd (x4 + (1 : Int32)) (fun x4_2 => kh49 x1 x2 x3 x4_2 w)) else (grd (inb ((20 : Int32) + x5) 26) (if (wget w 103 (((20 : Int32) + x5).toNatClampNeg)) = (-9 : Int32) then (f_X6_isFirst_b107 kh49 kh62 x1 x2 x3 x4 x5 w) else (cal (f_X6_has x3 x5 w) (fun r_7 w_6 => if r_7 = 0 then (if x5 = x1 then (some ((1 : Int32), w_6)) else (some ((0 : Int32), w_6))) else (f_X6_isFirst_b107 kh49 kh62 x1 x2 x3 x4 x5 w_6)))))
def f_X6_isFirst_l62 (kh49 : (Int32 → Int32 → Int32 → Int32 → Wd → Option (Int32 × Wd))) : Nat → Int32 → Int32 → Int32 → Int32 → Int32 → Wd → Option (Int32 × Wd)
  | 0, _, _, _, _, _, _ => none
  | n + 1, x1, x2, x3, x4, x5, w => f_X6_isFirst_h62 kh49 (f_X6_isFirst_l62 kh49 n) x1 x2 x3 x4 x5 w
def f_X6_isFirst_h49 (kh49 : (Int32 → Int32 → Int32 → Int32 → Wd → Option (Int32 × Wd))) (x1 : Int32) (x2 : Int32) (x3 : Int32) (x4 : Int32) (w : Wd) : Option (Int32 × Wd) :=
  if x2 ≤ x4 then (some ((0 : Int32), w)) else (cal (f_X6_goesBy w) (fun r_3 w_2 => bnd (0 : Int32) (fun x5_5 => f_X6_isFirst_l62 kh49 300 x1 x2 x3 x4 x5_5 w_2)))
def f_X6_isFirst_l49 : Nat → Int32 → Int32 → Int32 → Int32 → Wd → Option (Int32 × Wd)
  | 0, _, _, _, _, _ => none
  | n + 1, x1, x2, x3, x4, w => f_X6_isFirst_h49 (f_X6_isFirst_l49 n) x1 x2 x3 x4 w
def f_X6_isFirst_h5 (kh5 : (Int32 → Int32 → Int32 → Int32 → Wd → Option (Int32 × Wd))) (x1 : Int32) (x2 : Int32) (x3 : Int32) (x4 : Int32) (w : Wd) : Option (Int32 × Wd) :=
  if (wget w 92 0) ≤ x4 then (bnd (0 : Int32) (fun x4_2 => f_X6_isFirst_l49 300 x1 x2 x3 x4_2 w)) else (grd (inb ((20 : Int32) + x4) 26) (if (wget w 103 (((20 : Int32) + x4).toNatClampNeg)) = (-9 : Int32) then (bnd (x3 ||| (0 : Int32)) (fun x3_10 => bnd (x4 + (1 : Int32)) (fun x4_12 => kh5 x1 x2 x3_10 x4_12 w))) else (bnd (x3 ||| ((1 : Int32) <<< (x4 &&& 31))) (fun x3_6 => bnd (x4 + (1 : Int32)) (fun x4_8 => kh5 x1 x2 x3_6 x4_8 w)))))
def f_X6_isFirst_l5 : Nat → Int32 → Int32 → Int32 → Int32 → Wd → Option (Int32 × Wd)
  | 0, _, _, _, _, _ => none
  | n + 1, x1, x2, x3, x4, w => f_X6_isFirst_h5 (f_X6_isFirst_l5 n) x1 x2 x3 x4 w
def f_X6_isFirst_b0 (x1 : Int32) (x2 : Int32) (w : Wd) : Option (Int32 × Wd) :=
  bnd (0 : Int32) (fun x3_1 => bnd (0 : Int32) (fun x4_3 => f_X6_isFirst_l5 300 x1 x2 x3_1 x4_3 w))
def f_X6_isFirst (x1 : Int32) (x2 : Int32) (w : Wd) : Option (Int32 × Wd) := f_X6_isFirst_b0 x1 x2 w
def f_X6_kept_b193 (kh68 : (Int32 → Int32 → Int32 → Int32 → Int32 → Wd → Option (Int32 × Wd))) (x1 : Int32) (x2 : Int32) (x3 : Int32) (x4 : Int32) (x5 : Int32) (w : Wd) : Option (Int32 × Wd) :=
  bnd (x5 + (1 : Int32)) (fun x5_1 => kh68 x1 x2 x3 x4 x5_1 w)
def f_X6_kept_h113 (kh68 : (Int32 → Int32 → Int32 → Int32 → Int32 → Wd → Option (Int32 × Wd))) (kh113 : (Int32 → Int32 → Int32 → Int32 → Int32 → Int32 → Wd → Option (Int32 × Wd))) (x1 : Int32) (x2 : Int32) (x3 : Int32) (x4 : Int32) (x5 : Int32) (x6 : Int32) (w : Wd) : Option (Int32 × Wd) :=
  if (wget w 92 0) ≤ x6 then (cal (f_X6_isFirst x1 x2 w) (fun r_3 w_2 => if r_3 = 0 then (bnd x4 (fun x4_6 => f_X6_kept_b193 kh68 x1 x2 x3 x4_6 x5 w_2)) else (bnd x5 (fun x4_8 => f_X6_kept_b193 kh68 x1 x2 x3 x4_8 x5 w_2)))) else (grd (inb ((2 : Int32) + x6) 26) (if (wget w 103 (((2 : Int32) + x6).toNatClampNeg)) = (-9 : Int32) then (cal (f_X6_has x5 x6 w) (fun r_19 w_18 => if r_19 = 0 then (grd (inb ((2 : Int32) + x6) 26) (bnd (wset w_18 103 (((2 : Int32) + x6).toNatClampNeg) (10 : Int32)) (fun w_29 => bnd (x6 + (1 : Int32)) (fun x6_31 => kh113 x1 x2 x3 x4 x5 x6_31 w_29)))) else (grd (inb ((2 : Int32) + x6) 26) (grd (inb ((2 : Int32) + x6) 26) (bnd (wset w_18 103 (((2 : Int32) + x6).toNatClampNeg) (wget w_18 103 (((2 : Int32) + x6).toNatClampNeg))) (fun w_24 => bnd (x6 + (1 : Int32)) (fun x6_26 => kh113 x1 x2 x3 x4 x5 x6_26 w_24))))))) else (grd (inb ((2 : Int32) + x6) 26) (grd (inb ((2 : Int32) + x6) 26) (bnd (wset w 103 (((2 : Int32) + x6).toNatClampNeg) (wget w 103 (((2 : Int32) + x6).toNatClampNeg))) (fun w_14 => bnd (x6 + (1 : Int32)) (fun x6_16 => kh113 x1 x2 x3 x4 x5 x6_16 w_14)))))))
def f_X6_kept_l113 (kh68 : (Int32 → Int32 → Int32 → Int32 → Int32 → Wd → Option (Int32 × Wd))) : Nat → Int32 → Int32 → Int32 → Int32 → Int32 → Int32 → Wd → Option (Int32 × Wd)
  | 0, _, _, _, _, _, _, _ => none
  | n + 1, x1, x2, x3, x4, x5, x6, w => f_X6_kept_h113 kh68 (f_X6_kept_l113 kh68 n) x1 x2 x3 x4 x5 x6 w
def f_X6_kept_b106 (kh68 : (Int32 → Int32 → Int32 → Int32 → Int32 → Wd → Option (Int32 × Wd))) (x1 : Int32) (x2 : Int32) (x3 : Int32) (x4 : Int32) (x5 : Int32) (w : Wd) : Option (Int32 × Wd) :=
  cal (f_X6_asItIs w) (fun r_2 w_1 => bnd (0 : Int32) (fun x6_4 => f_X6_kept_l113 kh68 300 x1 x2 x3 x4 x5 x6_4 w_1))
def f_X6_kept_h68 (kh68 : (Int32 → Int32 → Int32 → Int32 → Int32 → Wd → Option (Int32 × Wd))) (x1 : Int32) (x2 : Int32) (x3 : Int32) (x4 : Int32) (x5 : Int32) (w : Wd) : Option (Int32 × Wd) :=
  if ((1 : Int32) <<< ((wget w 92 0) &&& 31)) ≤ x5 then (some (x4, w)) else (if (x5 &&& (x3 ^^^ (-1 : Int32))) = 0 then (if x4 < 0 then (f_X6_kept_b106 kh68 x1 x2 x3 x4 x5 w) else (cal (f_X6_bits x5 w) (fun r_5 w_4 => cal (f_X6_bits x4 w_4) (fun r_8 w_7 => if r_8 ≤ r_5 then (f_X6_kept_b193 kh68 x1 x2 x3 x4 x5 w_7) else (f_X6_kept_b106 kh68 x1 x2 x3 x4 x5 w_7))))) else (f_X6_kept_b193 kh68 x1 x2 x3 x4 x5 w))
def f_X6_kept_l68 : Nat → Int32 → Int32 → Int32 → Int32 → Int32 → Wd → Option (Int32 × Wd)
  | 0, _, _, _, _, _, _ => none
  | n + 1, x1, x2, x3, x4, x5, w => f_X6_kept_h68 (f_X6_kept_l68 n) x1 x2 x3 x4 x5 w
def f_X6_kept_b0 (x1 : Int32) (x2 : Int32) (w : Wd) : Option (Int32 × Wd) :=
  cal (f_X6_isOne x1 w) (fun r_2 w_1 => if r_2 = 0 then (some ((-1 : Int32), w_1)) else (cal (f_X6_in x2 (1 : Int32) (40 : Int32) w_1) (fun r_6 w_5 => if r_6 = 0 then (some ((-1 : Int32), w_5)) else (grd (inb ((2 : Int32) + x1) 26) (if (wget w_5 96 (((2 : Int32) + x1).toNatClampNeg)) = (-9 : Int32) then (grd (inb ((20 : Int32) + x1) 26) (if (wget w_5 96 (((20 : Int32) + x1).toNatClampNeg)) = (-9 : Int32) then (cal (f_X6_dry w_5) (fun r_14 w_13 => bnd (r_14 &&& (((1 : Int32) <<< (x1 &&& 31)) ^^^ (-1 : Int32))) (fun x3_16 => bnd (-9 : Int32) (fun x4_18 => bnd (0 : Int32) (fun x5_20 => f_X6_kept_l68 300 x1 x2 x3_16 x4_18 x5_20 w_13))))) else (some ((-2 : Int32), w_5)))) else (some ((-2 : Int32), w_5)))))))
def f_X6_kept (x1 : Int32) (x2 : Int32) (w : Wd) : Option (Int32 × Wd) := f_X6_kept_b0 x1 x2 w
def f_X6_seatsOf_h4 (kh4 : (Int32 → Int32 → Int32 → Wd → Option (Int32 × Wd))) (x1 : Int32) (x2 : Int32) (x3 : Int32) (w : Wd) : Option (Int32 × Wd) :=
  if (wget w 92 0) ≤ x3 then (some (x2, w)) else (cal (f_X6_has x1 x3 w) (fun r_3 w_2 => if r_3 = 0 then (bnd (x2 + (0 : Int32)) (fun x2_6 => bnd (x3 + (1 : Int32)) (fun x3_8 => kh4 x1 x2_6 x3_8 w_2))) else (grd (inb x3 6) (bnd (x2 + (wget w_2 95 x3.toNatClampNeg)) (fun x2_11 => bnd (x3 + (1 : Int32)) (fun x3_13 => kh4 x1 x2_11 x3_13 w_2))))))
def f_X6_seatsOf_l4 : Nat → Int32 → Int32 → Int32 → Wd → Option (Int32 × Wd)
  | 0, _, _, _, _ => none
  | n + 1, x1, x2, x3, w => f_X6_seatsOf_h4 (f_X6_seatsOf_l4 n) x1 x2 x3 w
def f_X6_seatsOf_b0 (x1 : Int32) (w : Wd) : Option (Int32 × Wd) :=
  bnd (0 : Int32) (fun x2_1 => bnd (0 : Int32) (fun x3_3 => f_X6_seatsOf_l4 300 x1 x2_1 x3_3 w))
def f_X6_seatsOf (x1 : Int32) (w : Wd) : Option (Int32 × Wd) := f_X6_seatsOf_b0 x1 w
def f_X6_party_b51 (kh17 : (Int32 → Int32 → Int32 → Wd → Option (Int32 × Wd))) (x1 : Int32) (x3 : Int32) (w : Wd) : Option (Int32 × Wd) :=
  bnd x3 (fun x2_1 => bnd (x3 + (1 : Int32)) (fun x3_3 => kh17 x1 x2_1 x3_3 w))
def f_X6_party_b55 (kh17 : (Int32 → Int32 → Int32 → Wd → Option (Int32 × Wd))) (x1 : Int32) (x2 : Int32) (x3 : Int32) (w : Wd) : Option (Int32 × Wd) :=
  bnd x2 (fun x2_1 => bnd (x3 + (1 : Int32)) (fun x3_3 => kh17 x1 x2_1 x3_3 w))
def f_X6_party_h17 (kh17 : (Int32 → Int32 → Int32 → Wd → Option (Int32 × Wd))) (x1 : Int32) (x2 : Int32) (x3 : Int32) (w : Wd) : Option (Int32 × Wd) :=
  if ((1 : Int32) <<< ((wget w 92 0) &&& 31)) ≤ x3 then (some (x2, w)) else (cal (f_X6_seatsOf x3 w) (fun r_3 w_2 => if r_3 < x1 then (f_X6_party_b55 kh17 x1 x2 x3 w_2) else (if x2 < 0 then (f_X6_party_b51 kh17 x1 x3 w_2) else (cal (f_X6_bits x3 w_2) (fun r_8 w_7 => cal (f_X6_bits x2 w_7) (fun r_11 w_10 => if r_11 ≤ r_8 then (f_X6_party_b55 kh17 x1 x2 x3 w_10) else (f_X6_party_b51 kh17 x1 x3 w_10)))))))
def f_X6_party_l17 : Nat → Int32 → Int32 → Int32 → Wd → Option (Int32 × Wd)
  | 0, _, _, _, _ => none
  | n + 1, x1, x2, x3, w => f_X6_party_h17 (f_X6_party_l17 n) x1 x2 x3 w
def f_X6_party_b0 (x1 : Int32) (w : Wd) : Option (Int32 × Wd) :=
  cal (f_X6_in x1 (1 : Int32) (54 : Int32) w) (fun r_2 w_1 => if r_2 = 0 then (some ((-1 : Int32), w_1)) else (bnd (-9 : Int32) (fun x2_5 => bnd (0 : Int32) (fun x3_7 => f_X6_party_l17 300 x1 x2_5 x3_7 w_1))))
def f_X6_party (x1 : Int32) (w : Wd) : Option (Int32 × Wd) := f_X6_party_b0 x1 w
def f_X6_power_h25 (kh25 : (Int32 → Int32 → Int32 → Int32 → Wd → Option (Int32 × Wd))) (x1 : Int32) (x2 : Int32) (x3 : Int32) (x4 : Int32) (w : Wd) : Option (Int32 × Wd) :=
  if ((1 : Int32) <<< ((wget w 92 0) &&& 31)) ≤ x4 then (some (x3, w)) else (cal (f_X6_has x4 x1 w) (fun r_3 w_2 => if r_3 = 0 then (cal (f_X6_seatsOf x4 w_2) (fun r_11 w_10 => if x2 ≤ r_11 then (bnd (x3 + (0 : Int32)) (fun x3_14 => bnd (x4 + (1 : Int32)) (fun x4_16 => kh25 x1 x2 x3_14 x4_16 w_10))) else (cal (f_X6_seatsOf x4 w_10) (fun r_19 w_18 => grd (inb x1 6) (if (r_19 + (wget w_18 95 x1.toNatClampNeg)) < x2 then (bnd (x3 + (0 : Int32)) (fun x3_23 => bnd (x4 + (1 : Int32)) (fun x4_25 => kh25 x1 x2 x3_23 x4_25 w_18))) else (bnd (x3 + (1 : Int32)) (fun x3_27 => bnd (x4 + (1 : Int32)) (fun x4_29 => kh25 x1 x2 x3_27 x4_29 w_18)))))))) else (bnd (x3 + (0 : Int32)) (fun x3_6 => bnd (x4 + (1 : Int32)) (fun x4_8 => kh25 x1 x2 x3_6 x4_8 w_2)))))
def f_X6_power_l25 : Nat → Int32 → Int32 → Int32 → Int32 → Wd → Option (Int32 × Wd)
  | 0, _, _, _, _, _ => none
  | n + 1, x1, x2, x3, x4, w => f_X6_power_h25 (f_X6_power_l25 n) x1 x2 x3 x4 w
def f_X6_power_b0 (x1 : Int32) (x2 : Int32) (w : Wd) : Option (Int32 × Wd) :=
  cal (f_X6_isOne x1 w) (fun r_2 w_1 => if r_2 = 0 then (some ((-1 : Int32), w_1)) else (cal (f_X6_in x2 (1 : Int32) (54 : Int32) w_1) (fun r_6 w_5 => if r_6 = 0 then (some ((-1 : Int32), w_5)) else (bnd (0 : Int32) (fun x3_9 => bnd (0 : Int32) (fun x4_11 => f_X6_power_l25 300 x1 x2 x3_9 x4_11 w_5))))))
def f_X6_power (x1 : Int32) (x2 : Int32) (w : Wd) : Option (Int32 × Wd) := f_X6_power_b0 x1 x2 w
def f_X6_lowest_h5 (kh5 : (Int32 → Int32 → Int32 → Int32 → Int32 → Wd → Option (Int32 × Wd))) (x0 : Int32) (x1 : Int32) (x2 : Int32) (x3 : Int32) (x4 : Int32) (w : Wd) : Option (Int32 × Wd) :=
  if x4 ≤ 0 then (if x2 = 0 then (grd (nz x3) (some (x0 / x3, w))) else (grd (nz x3) (some (x1 / x3, w)))) else (grd (nz x4) (bnd (x3 - x3 / x4 * x4) (fun x5_6 => bnd x4 (fun x3_8 => bnd x5_6 (fun x4_10 => kh5 x0 x1 x2 x3_8 x4_10 w)))))
def f_X6_lowest_l5 : Nat → Int32 → Int32 → Int32 → Int32 → Int32 → Wd → Option (Int32 × Wd)
  | 0, _, _, _, _, _, _ => none
  | n + 1, x0, x1, x2, x3, x4, w => f_X6_lowest_h5 (f_X6_lowest_l5 n) x0 x1 x2 x3 x4 w
def f_X6_lowest_b0 (x0 : Int32) (x1 : Int32) (x2 : Int32) (w : Wd) : Option (Int32 × Wd) :=
  bnd x0 (fun x3_1 => bnd x1 (fun x4_3 => f_X6_lowest_l5 300 x0 x1 x2 x3_1 x4_3 w))
def f_X6_lowest (x0 : Int32) (x1 : Int32) (x2 : Int32) (w : Wd) : Option (Int32 × Wd) := f_X6_lowest_b0 x0 x1 x2 w
def f_X6_odds_h92 (kh77 : (Int32 → Int32 → Int32 → Int32 → Int32 → Int32 → Int32 → Wd → Option (Int32 × Wd))) (kh92 : (Int32 → Int32 → Int32 → Int32 → Int32 → Int32 → Int32 → Int32 → Int32 → Wd → Option (Int32 × Wd))) (x1 : Int32) (x2 : Int32) (x3 : Int32) (x4 : Int32) (x5 : Int32) (x6 : Int32) (x7 : Int32) (x8 : Int32) (x9 : Int32) (w : Wd) : Option (Int32 × Wd) :=
  if x4 ≤ x9 then (cal (f_X6_bits x7 w) (fun r_3 w_2 => if x2 < r_3 then (bnd (x5 + (0 : Int32)) (fun x5_6 => bnd (x7 + (1 : Int32)) (fun x7_8 => kh77 x1 x2 x3 x4 x5_6 x6 x7_8 w_2))) else (bnd (x5 + x8) (fun x5_10 => bnd (x7 + (1 : Int32)) (fun x7_12 => kh77 x1 x2 x3 x4 x5_10 x6 x7_12 w_2))))) else (cal (f_X6_has x7 x9 w) (fun r_15 w_14 => if r_15 = 0 then (bnd (x8 * ((10 : Int32) - x1)) (fun x8_18 => bnd (x9 + (1 : Int32)) (fun x9_20 => kh92 x1 x2 x3 x4 x5 x6 x7 x8_18 x9_20 w_14))) else (bnd (x8 * x1) (fun x8_22 => bnd (x9 + (1 : Int32)) (fun x9_24 => kh92 x1 x2 x3 x4 x5 x6 x7 x8_22 x9_24 w_14)))))
def f_X6_odds_l92 (kh77 : (Int32 → Int32 → Int32 → Int32 → Int32 → Int32 → Int32 → Wd → Option (Int32 × Wd))) : Nat → Int32 → Int32 → Int32 → Int32 → Int32 → Int32 → Int32 → Int32 → Int32 → Wd → Option (Int32 × Wd)
  | 0, _, _, _, _, _, _, _, _, _, _ => none
  | n + 1, x1, x2, x3, x4, x5, x6, x7, x8, x9, w => f_X6_odds_h92 kh77 (f_X6_odds_l92 kh77 n) x1 x2 x3 x4 x5 x6 x7 x8 x9 w
def f_X6_odds_h77 (kh77 : (Int32 → Int32 → Int32 → Int32 → Int32 → Int32 → Int32 → Wd → Option (Int32 × Wd))) (x1 : Int32) (x2 : Int32) (x3 : Int32) (x4 : Int32) (x5 : Int32) (x6 : Int32) (x7 : Int32) (w : Wd) : Option (Int32 × Wd) :=
  if ((1 : Int32) <<< (x4 &&& 31)) ≤ x7 then (cal (f_X6_lowest x5 x6 x3 w) (fun r_3 w_2 => some (r_3, w_2))) else (bnd (1 : Int32) (fun x8_5 => bnd (0 : Int32) (fun x9_7 => f_X6_odds_l92 kh77 300 x1 x2 x3 x4 x5 x6 x7 x8_5 x9_7 w)))
def f_X6_odds_l77 : Nat → Int32 → Int32 → Int32 → Int32 → Int32 → Int32 → Int32 → Wd → Option (Int32 × Wd)
  | 0, _, _, _, _, _, _, _, _ => none
  | n + 1, x1, x2, x3, x4, x5, x6, x7, w => f_X6_odds_h77 (f_X6_odds_l77 n) x1 x2 x3 x4 x5 x6 x7 w
def f_X6_odds_h54 (kh54 : (Int32 → Int32 → Int32 → Int32 → Int32 → Int32 → Int32 → Wd → Option (Int32 × Wd))) (x1 : Int32) (x2 : Int32) (x3 : Int32) (x4 : Int32) (x5 : Int32) (x6 : Int32) (x7 : Int32) (w : Wd) : Option (Int32 × Wd) :=
  if x4 ≤ x7 then (bnd (0 : Int32) (fun x7_2 => f_X6_odds_l77 300 x1 x2 x3 x4 x5 x6 x7_2 w)) else (bnd (x6 * (10 : Int32)) (fun x6_4 => bnd (x7 + (1 : Int32)) (fun x7_6 => kh54 x1 x2 x3 x4 x5 x6_4 x7_6 w)))
def f_X6_odds_l54 : Nat → Int32 → Int32 → Int32 → Int32 → Int32 → Int32 → Int32 → Wd → Option (Int32 × Wd)
  | 0, _, _, _, _, _, _, _, _ => none
  | n + 1, x1, x2, x3, x4, x5, x6, x7, w => f_X6_odds_h54 (f_X6_odds_l54 n) x1 x2 x3 x4 x5 x6 x7 w
def f_X6_odds_b0 (x1 : Int32) (x2 : Int32) (x3 : Int32) (w : Wd) : Option (Int32 × Wd) :=
  cal (f_X6_in x1 (0 : Int32) (10 : Int32) w) (fun r_2 w_1 => if r_2 = 0 then (some ((-1 : Int32), w_1)) else (cal (f_X6_in x2 (0 : Int32) (6 : Int32) w_1) (fun r_6 w_5 => if r_6 = 0 then (some ((-1 : Int32), w_5)) else (cal (f_X6_in x3 (0 : Int32) (1 : Int32) w_5) (fun r_10 w_9 => if r_10 = 0 then (some ((-1 : Int32), w_9)) else (cal (f_X6_dry w_9) (fun r_14 w_13 => cal (f_X6_bits r_14 w_13) (fun r_17 w_16 => bnd ((wget w_9 92 0) - r_17) (fun x4_19 => bnd (0 : Int32) (fun x5_21 => bnd (1 : Int32) (fun x6_23 => bnd (0 : Int32) (fun x7_25 => f_X6_odds_l54 300 x1 x2 x3 x4_19 x5_21 x6_23 x7_25 w_16))))))))))))
def f_X6_odds (x1 : Int32) (x2 : Int32) (x3 : Int32) (w : Wd) : Option (Int32 × Wd) := f_X6_odds_b0 x1 x2 x3 w
def f_X6_sees_b0 (x1 : Int32) (x2 : Int32) (x3 : Int32) (w : Wd) : Option (Int32 × Wd) :=
  cal (f_X6_isOne x1 w) (fun r_2 w_1 => if r_2 = 0 then (some ((-1 : Int32), w_1)) else (cal (f_X6_in x2 (1 : Int32) (20 : Int32) w_1) (fun r_6 w_5 => if r_6 = 0 then (some ((-1 : Int32), w_5)) else (cal (f_X6_in x3 (0 : Int32) (10 : Int32) w_5) (fun r_10 w_9 => if r_10 = 0 then (some ((-1 : Int32), w_9)) else (if (wget w_9 92 12) = (6 : Int32) then (some ((-3 : Int32), w_9)) else (grd (inb ((3 : Int32) * (wget w_9 92 12)) 18) (bnd (wset w_9 100 (((3 : Int32) * (wget w_9 92 12)).toNatClampNeg) x1) (fun w_15 => grd (inb (((3 : Int32) * (wget w_15 92 12)) + (1 : Int32)) 18) (bnd (wset w_15 100 ((((3 : Int32) * (wget w_15 92 12)) + (1 : Int32)).toNatClampNeg) x2) (fun w_18 => grd (inb (((3 : Int32) * (wget w_18 92 12)) + (2 : Int32)) 18) (bnd (wset w_18 100 ((((3 : Int32) * (wget w_18 92 12)) + (2 : Int32)).toNatClampNeg) x3) (fun w_21 => bnd (wset w_21 92 12 ((wget w_21 92 12) + (1 : Int32))) (fun w_23 => some (wget w_23 92 12, w_23)))))))))))))))
def f_X6_sees (x1 : Int32) (x2 : Int32) (x3 : Int32) (w : Wd) : Option (Int32 × Wd) := f_X6_sees_b0 x1 x2 x3 w
def f_X6_forget_b0 (w : Wd) : Option (Int32 × Wd) :=
  bnd (wget w 92 12) (fun x1_1 => bnd (wset w 92 12 (0 : Int32)) (fun w_3 => some (x1_1, w_3)))
def f_X6_forget (w : Wd) : Option (Int32 × Wd) := f_X6_forget_b0 w
def f_X6_deepAlone_h18 (kh18 : (Int32 → Int32 → Int32 → Int32 → Int32 → Int32 → Wd → Option (Int32 × Wd))) (x1 : Int32) (x2 : Int32) (x3 : Int32) (x4 : Int32) (x5 : Int32) (x6 : Int32) (w : Wd) : Option (Int32 × Wd) :=
  if x3 ≤ x6 then (some (x5, w)) else (grd (inb x1 6) (if (x4 + (wget w 94 x1.toNatClampNeg)) ≤ (30 : Int32) then (grd (inb x1 6) (bnd (x4 + (wget w 94 x1.toNatClampNeg)) (fun x4_5 => bnd ((x4_5 + (wget w 96 1)) - x2) (fun x7_7 => if x7_7 ≤ 0 then (if 0 ≤ x7_7 then (bnd (x5 - (0 : Int32)) (fun x5_11 => if 0 ≤ x5_11 then (if x5_11 ≤ (10 : Int32) then (bnd x5_11 (fun x5_15 => bnd (x6 + (1 : Int32)) (fun x6_17 => kh18 x1 x2 x3 x4_5 x5_15 x6_17 w))) else (bnd (10 : Int32) (fun x5_19 => bnd (x6 + (1 : Int32)) (fun x6_21 => kh18 x1 x2 x3 x4_5 x5_19 x6_21 w)))) else (bnd (0 : Int32) (fun x5_23 => bnd (x6 + (1 : Int32)) (fun x6_25 => kh18 x1 x2 x3 x4_5 x5_23 x6_25 w))))) else (bnd (x5 - (-1 : Int32)) (fun x5_27 => if 0 ≤ x5_27 then (if x5_27 ≤ (10 : Int32) then (bnd x5_27 (fun x5_31 => bnd (x6 + (1 : Int32)) (fun x6_33 => kh18 x1 x2 x3 x4_5 x5_31 x6_33 w))) else (bnd (10 : Int32) (fun x5_35 => bnd (x6 + (1 : Int32)) (fun x6_37 => kh18 x1 x2 x3 x4_5 x5_35 x6_37 w)))) else (bnd (0 : Int32) (fun x5_39 => bnd (x6 + (1 : Int32)) (fun x6_41 => kh18 x1 x2 x3 x4_5 x5_39 x6_41 w)))))) else (bnd (x5 - (1 : Int32)) (fun x5_43 => if 0 ≤ x5_43 then (if x5_43 ≤ (10 : Int32) then (bnd x5_43 (fun x5_47 => bnd (x6 + (1 : Int32)) (fun x6_49 => kh18 x1 x2 x3 x4_5 x5_47 x6_49 w))) else (bnd (10 : Int32) (fun x5_51 => bnd (x6 + (1 : Int32)) (fun x6_53 => kh18 x1 x2 x3 x4_5 x5_51 x6_53 w)))) else (bnd (0 : Int32) (fun x5_55 => bnd (x6 + (1 : Int32)) (fun x6_57 => kh18 x1 x2 x3 x4_5 x5_55 x6_57 w))))))))) else (bnd (30 : Int32) (fun x4_59 => bnd ((x4_59 + (wget w 96 1)) - x2) (fun x7_61 => if x7_61 ≤ 0 then (if 0 ≤ x7_61 then (bnd (x5 - (0 : Int32)) (fun x5_65 => if 0 ≤ x5_65 then (if x5_65 ≤ (10 : Int32) then (bnd x5_65 (fun x5_69 => bnd (x6 + (1 : Int32)) (fun x6_71 => kh18 x1 x2 x3 x4_59 x5_69 x6_71 w))) else (bnd (10 : Int32) (fun x5_73 => bnd (x6 + (1 : Int32)) (fun x6_75 => kh18 x1 x2 x3 x4_59 x5_73 x6_75 w)))) else (bnd (0 : Int32) (fun x5_77 => bnd (x6 + (1 : Int32)) (fun x6_79 => kh18 x1 x2 x3 x4_59 x5_77 x6_79 w))))) else (bnd (x5 - (-1 : Int32)) (fun x5_81 => if 0 ≤ x5_81 then (if x5_81 ≤ (10 : Int32) then (bnd x5_81 (fun x5_85 => bnd (x6 + (1 : Int32)) (fun x6_87 => kh18 x1 x2 x3 x4_59 x5_85 x6_87 w))) else (bnd (10 : Int32) (fun x5_89 => bnd (x6 + (1 : Int32)) (fun x6_91 => kh18 x1 x2 x3 x4_59 x5_89 x6_91 w)))) else (bnd (0 : Int32) (fun x5_93 => bnd (x6 + (1 : Int32)) (fun x6_95 => kh18 x1 x2 x3 x4_59 x5_93 x6_95 w)))))) else (bnd (x5 - (1 : Int32)) (fun x5_97 => if 0 ≤ x5_97 then (if x5_97 ≤ (10 : Int32) then (bnd x5_97 (fun x5_101 => bnd (x6 + (1 : Int32)) (fun x6_103 => kh18 x1 x2 x3 x4_59 x5_101 x6_103 w))) else (bnd (10 : Int32) (fun x5_105 => bnd (x6 + (1 : Int32)) (fun x6_107 => kh18 x1 x2 x3 x4_59 x5_105 x6_107 w)))) else (bnd (0 : Int32) (fun x5_109 => bnd (x6 + (1 : Int32)) (fun x6_111 => kh18 x1 x2 x3 x4_59 x5_109 x6_111 w))))))))))
def f_X6_deepAlone_l18 : Nat → Int32 → Int32 → Int32 → Int32 → Int32 → Int32 → Wd → Option (Int32 × Wd)
  | 0, _, _, _, _, _, _, _ => none
  | n + 1, x1, x2, x3, x4, x5, x6, w => f_X6_deepAlone_h18 (f_X6_deepAlone_l18 n) x1 x2 x3 x4 x5 x6 w
def f_X6_deepAlone_b0 (x1 : Int32) (x2 : Int32) (x3 : Int32) (w : Wd) : Option (Int32 × Wd) :=
  grd (inb ((8 : Int32) + x1) 26) (bnd (wget w 96 (((8 : Int32) + x1).toNatClampNeg)) (fun x4_2 => bnd (10 : Int32) (fun x5_4 => bnd (0 : Int32) (fun x6_6 => f_X6_deepAlone_l18 300 x1 x2 x3 x4_2 x5_4 x6_6 w))))
def f_X6_deepAlone (x1 : Int32) (x2 : Int32) (x3 : Int32) (w : Wd) : Option (Int32 × Wd) := f_X6_deepAlone_b0 x1 x2 x3 w
def f_X6_isSo_b62 (kh5 : (Int32 → Int32 → Int32 → Int32 → Wd → Option (Int32 × Wd))) (x1 : Int32) (x2 : Int32) (x4 : Int32) (w : Wd) : Option (Int32 × Wd) :=
  bnd (1 : Int32) (fun x3_1 => bnd (x4 + (1 : Int32)) (fun x4_3 => kh5 x1 x2 x3_1 x4_3 w))
def f_X6_isSo_b66 (kh5 : (Int32 → Int32 → Int32 → Int32 → Wd → Option (Int32 × Wd))) (x1 : Int32) (x2 : Int32) (x4 : Int32) (w : Wd) : Option (Int32 × Wd) :=
  bnd (0 : Int32) (fun x3_1 => bnd (x4 + (1 : Int32)) (fun x4_3 => kh5 x1 x2 x3_1 x4_3 w))
def f_X6_isSo_h5 (kh5 : (Int32 → Int32 → Int32 → Int32 → Wd → Option (Int32 × Wd))) (x1 : Int32) (x2 : Int32) (x3 : Int32) (x4 : Int32) (w : Wd) : Option (Int32 × Wd) :=
  if (wget w 92 12) ≤ x4 then (grd (nb x3) (some (x3, w))) else (if x3 = 0 then (f_X6_isSo_b66 kh5 x1 x2 x4 w) else (grd (inb ((3 : Int32) * x4) 18) (if (wget w 100 (((3 : Int32) * x4).toNatClampNeg)) = x1 then (grd (inb (((3 : Int32) * x4) + (1 : Int32)) 18) (cal (f_X6_deepAlone x1 x2 (wget w 100 ((((3 : Int32) * x4) + (1 : Int32)).toNatClampNeg)) w) (fun r_8 w_7 => grd (inb (((3 : Int32) * x4) + (2 : Int32)) 18) (if r_8 = (wget w_7 100 ((((3 : Int32) * x4) + (2 : Int32)).toNatClampNeg)) then (f_X6_isSo_b62 kh5 x1 x2 x4 w_7) else (f_X6_isSo_b66 kh5 x1 x2 x4 w_7))))) else (f_X6_isSo_b62 kh5 x1 x2 x4 w))))
def f_X6_isSo_l5 : Nat → Int32 → Int32 → Int32 → Int32 → Wd → Option (Int32 × Wd)
  | 0, _, _, _, _, _ => none
  | n + 1, x1, x2, x3, x4, w => f_X6_isSo_h5 (f_X6_isSo_l5 n) x1 x2 x3 x4 w
def f_X6_isSo_b0 (x1 : Int32) (x2 : Int32) (w : Wd) : Option (Int32 × Wd) :=
  bnd (1 : Int32) (fun x3_1 => bnd (0 : Int32) (fun x4_3 => f_X6_isSo_l5 300 x1 x2 x3_1 x4_3 w))
def f_X6_isSo (x1 : Int32) (x2 : Int32) (w : Wd) : Option (Int32 × Wd) := f_X6_isSo_b0 x1 x2 w
def f_X6_weights_b69 (kh32 : (Int32 → Int32 → Int32 → Int32 → Int32 → Int32 → Wd → Option (Int32 × Wd))) (x1 : Int32) (x2 : Int32) (x3 : Int32) (x4 : Int32) (x5 : Int32) (x6 : Int32) (w : Wd) : Option (Int32 × Wd) :=
  bnd (x6 + (1 : Int32)) (fun x6_1 => kh32 x1 x2 x3 x4 x5 x6_1 w)
def f_X6_weights_h32 (kh32 : (Int32 → Int32 → Int32 → Int32 → Int32 → Int32 → Wd → Option (Int32 × Wd))) (x1 : Int32) (x2 : Int32) (x3 : Int32) (x4 : Int32) (x5 : Int32) (x6 : Int32) (w : Wd) : Option (Int32 × Wd) :=
  if (40 : Int32) < x6 then (if x2 = 0 then (some (x3, w)) else (if x2 = (1 : Int32) then (some (x4, w)) else (some (x5, w)))) else (cal (f_X6_isSo x1 x6 w) (fun r_5 w_4 => if r_5 = 0 then (f_X6_weights_b69 kh32 x1 x2 x3 x4 x5 x6 w_4) else (if x3 = 0 then (bnd x6 (fun x4_15 => bnd x6 (fun x5_17 => bnd (x3 + (1 : Int32)) (fun x3_19 => f_X6_weights_b69 kh32 x1 x2 x3_19 x4_15 x5_17 x6 w_4)))) else (bnd x4 (fun x4_9 => bnd x6 (fun x5_11 => bnd (x3 + (1 : Int32)) (fun x3_13 => f_X6_weights_b69 kh32 x1 x2 x3_13 x4_9 x5_11 x6 w_4)))))))
def f_X6_weights_l32 : Nat → Int32 → Int32 → Int32 → Int32 → Int32 → Int32 → Wd → Option (Int32 × Wd)
  | 0, _, _, _, _, _, _, _ => none
  | n + 1, x1, x2, x3, x4, x5, x6, w => f_X6_weights_h32 (f_X6_weights_l32 n) x1 x2 x3 x4 x5 x6 w
def f_X6_weights_b0 (x1 : Int32) (x2 : Int32) (w : Wd) : Option (Int32 × Wd) :=
  cal (f_X6_isOne x1 w) (fun r_2 w_1 => if r_2 = 0 then (some ((-1 : Int32), w_1)) else (cal (f_X6_in x2 (0 : Int32) (2 : Int32) w_1) (fun r_6 w_5 => if r_6 = 0 then (some ((-1 : Int32), w_5)) else (bnd (0 : Int32) (fun x3_9 => bnd (-9 : Int32) (fun x4_11 => bnd (-9 : Int32) (fun x5_13 => bnd (0 : Int32) (fun x6_15 => f_X6_weights_l32 300 x1 x2 x3_9 x4_11 x5_13 x6_15 w_5))))))))
def f_X6_weights (x1 : Int32) (x2 : Int32) (w : Wd) : Option (Int32 × Wd) := f_X6_weights_b0 x1 x2 w
def f_X6_greatestPart_h26 (kh26 : (Int32 → Int32 → Int32 → Int32 → Wd → Option (Int32 × Wd))) (x1 : Int32) (x2 : Int32) (x3 : Int32) (x4 : Int32) (w : Wd) : Option (Int32 × Wd) :=
  if (40 : Int32) < x4 then (some (x3, w)) else (cal (f_X6_deepAlone x1 x4 x2 w) (fun r_3 w_2 => bnd r_3 (fun x5_5 => grd (inb x5_5 11) (cal (f_X6_isSo x1 x4 w_2) (fun r_9 w_8 => if r_9 = 0 then (grd (inb x5_5 11) (bnd (wset w_8 105 x5_5.toNatClampNeg ((wget w_2 105 x5_5.toNatClampNeg) + (0 : Int32))) (fun w_13 => grd (inb x5_5 11) (if (wget w_13 105 x5_5.toNatClampNeg) ≤ x3 then (bnd x3 (fun x3_17 => bnd (x4 + (1 : Int32)) (fun x4_19 => kh26 x1 x2 x3_17 x4_19 w_13))) else (grd (inb x5_5 11) (bnd (wget w_13 105 x5_5.toNatClampNeg) (fun x3_22 => bnd (x4 + (1 : Int32)) (fun x4_24 => kh26 x1 x2 x3_22 x4_24 w_13)))))))) else (grd (inb x5_5 11) (bnd (wset w_8 105 x5_5.toNatClampNeg ((wget w_2 105 x5_5.toNatClampNeg) + (1 : Int32))) (fun w_27 => grd (inb x5_5 11) (if (wget w_27 105 x5_5.toNatClampNeg) ≤ x3 then (bnd x3 (fun x3_31 => bnd (x4 + (1 : Int32)) (fun x4_33 => kh26 x1 x2 x3_31 x4_33 w_27))) else (grd (inb x5_5 11) (bnd (wget w_27 105 x5_5.toNatClampNeg) (fun x3_36 => bnd (x4 + (1 : Int32)) (fun x4_38 => kh26 x1 x2 x3_36 x4_38 w_27)))))))))))))
def f_X6_greatestPart_l26 : Nat → Int32 → Int32 → Int32 → Int32 → Wd → Option (Int32 × Wd)
  | 0, _, _, _, _, _ => none
  | n + 1, x1, x2, x3, x4, w => f_X6_greatestPart_h26 (f_X6_greatestPart_l26 n) x1 x2 x3 x4 w
def f_X6_greatestPart_h2 (kh2 : (Int32 → Int32 → Int32 → Wd → Option (Int32 × Wd))) (x1 : Int32) (x2 : Int32) (x3 : Int32) (w : Wd) : Option (Int32 × Wd) :=
  if (10 : Int32) < x3 then (bnd (0 : Int32) (fun x3_2 => bnd (0 : Int32) (fun x4_4 => f_X6_greatestPart_l26 300 x1 x2 x3_2 x4_4 w))) else (grd (inb x3 11) (bnd (wset w 105 x3.toNatClampNeg (0 : Int32)) (fun w_7 => bnd (x3 + (1 : Int32)) (fun x3_9 => kh2 x1 x2 x3_9 w_7))))
def f_X6_greatestPart_l2 : Nat → Int32 → Int32 → Int32 → Wd → Option (Int32 × Wd)
  | 0, _, _, _, _ => none
  | n + 1, x1, x2, x3, w => f_X6_greatestPart_h2 (f_X6_greatestPart_l2 n) x1 x2 x3 w
def f_X6_greatestPart_b0 (x1 : Int32) (x2 : Int32) (w : Wd) : Option (Int32 × Wd) :=
  bnd (0 : Int32) (fun x3_1 => f_X6_greatestPart_l2 300 x1 x2 x3_1 w)
def f_X6_greatestPart (x1 : Int32) (x2 : Int32) (w : Wd) : Option (Int32 × Wd) := f_X6_greatestPart_b0 x1 x2 w
def f_X6_look_b57 (kh31 : (Int32 → Int32 → Int32 → Int32 → Wd → Option (Int32 × Wd))) (x1 : Int32) (x2 : Int32) (x3 : Int32) (x4 : Int32) (x5 : Int32) (w : Wd) : Option (Int32 × Wd) :=
  bnd (1 : Int32) (fun x6_1 => if x6_1 = 0 then (bnd x2 (fun x2_4 => if x6_1 = 0 then (bnd x3 (fun x3_7 => bnd (x4 + (1 : Int32)) (fun x4_9 => kh31 x1 x2_4 x3_7 x4_9 w))) else (bnd x5 (fun x3_11 => bnd (x4 + (1 : Int32)) (fun x4_13 => kh31 x1 x2_4 x3_11 x4_13 w))))) else (bnd x4 (fun x2_15 => if x6_1 = 0 then (bnd x3 (fun x3_18 => bnd (x4 + (1 : Int32)) (fun x4_20 => kh31 x1 x2_15 x3_18 x4_20 w))) else (bnd x5 (fun x3_22 => bnd (x4 + (1 : Int32)) (fun x4_24 => kh31 x1 x2_15 x3_22 x4_24 w))))))
def f_X6_look_h31 (kh31 : (Int32 → Int32 → Int32 → Int32 → Wd → Option (Int32 × Wd))) (x1 : Int32) (x2 : Int32) (x3 : Int32) (x4 : Int32) (w : Wd) : Option (Int32 × Wd) :=
  if (20 : Int32) < x4 then (some (x2, w)) else (cal (f_X6_greatestPart x1 x4 w) (fun r_3 w_2 => bnd r_3 (fun x5_5 => if x2 < 0 then (f_X6_look_b57 kh31 x1 x2 x3 x4 x5_5 w_2) else (if x3 ≤ x5_5 then (bnd (0 : Int32) (fun x6_9 => if x6_9 = 0 then (bnd x2 (fun x2_12 => if x6_9 = 0 then (bnd x3 (fun x3_15 => bnd (x4 + (1 : Int32)) (fun x4_17 => kh31 x1 x2_12 x3_15 x4_17 w_2))) else (bnd x5_5 (fun x3_19 => bnd (x4 + (1 : Int32)) (fun x4_21 => kh31 x1 x2_12 x3_19 x4_21 w_2))))) else (bnd x4 (fun x2_23 => if x6_9 = 0 then (bnd x3 (fun x3_26 => bnd (x4 + (1 : Int32)) (fun x4_28 => kh31 x1 x2_23 x3_26 x4_28 w_2))) else (bnd x5_5 (fun x3_30 => bnd (x4 + (1 : Int32)) (fun x4_32 => kh31 x1 x2_23 x3_30 x4_32 w_2))))))) else (f_X6_look_b57 kh31 x1 x2 x3 x4 x5_5 w_2)))))
def f_X6_look_l31 : Nat → Int32 → Int32 → Int32 → Int32 → Wd → Option (Int32 × Wd)
  | 0, _, _, _, _, _ => none
  | n + 1, x1, x2, x3, x4, w => f_X6_look_h31 (f_X6_look_l31 n) x1 x2 x3 x4 w
def f_X6_look_b0 (x1 : Int32) (w : Wd) : Option (Int32 × Wd) :=
  cal (f_X6_isOne x1 w) (fun r_2 w_1 => if r_2 = 0 then (some ((-1 : Int32), w_1)) else (cal (f_X6_weights x1 (0 : Int32) w_1) (fun r_6 w_5 => if (2 : Int32) ≤ r_6 then (bnd (-9 : Int32) (fun x2_9 => bnd (0 : Int32) (fun x3_11 => bnd (1 : Int32) (fun x4_13 => f_X6_look_l31 300 x1 x2_9 x3_11 x4_13 w_5)))) else (some ((-9 : Int32), w_5)))))
def f_X6_look (x1 : Int32) (w : Wd) : Option (Int32 × Wd) := f_X6_look_b0 x1 w
def f_X6_rate_b17 (w : Wd) : Option (Int32 × Wd) :=
  some ((-1000000 : Int32), w)
def f_X6_rate_b0 (x1 : Int32) (x2 : Int32) (w : Wd) : Option (Int32 × Wd) :=
  cal (f_X6_in x1 (0 : Int32) (5 : Int32) w) (fun r_2 w_1 => if r_2 = 0 then (f_X6_rate_b17 w_1) else (cal (f_X6_isOne x2 w_1) (fun r_6 w_5 => if r_6 = 0 then (f_X6_rate_b17 w_5) else (grd (inb ((8 : Int32) + x2) 26) (bnd (wget w_5 96 (((8 : Int32) + x2).toNatClampNeg)) (fun x3_10 => grd (inb x2 6) (bnd (x3_10 + (wget w_5 93 x2.toNatClampNeg)) (fun x4_13 => grd (inb ((14 : Int32) + x2) 26) (cal (f_X6_bits (wget w_5 96 (((14 : Int32) + x2).toNatClampNeg)) w_5) (fun r_17 w_16 => bnd (x3_10 - r_17) (fun x5_19 => if x1 = 1 then (bnd (lset w_16 92 ((lget w_16 92) + (11 : Int64))) (fun w_21 => some (x4_13, w_21))) else if x1 = 2 then (bnd (lset w_16 92 ((lget w_16 92) + (101 : Int64))) (fun w_24 => some (x5_19, w_24))) else if x1 = 3 then (bnd (lset w_16 92 ((lget w_16 92) + (1011 : Int64))) (fun w_27 => some ((2 : Int32) * x4_13, w_27))) else if x1 = 4 then (bnd (lset w_16 92 ((lget w_16 92) + (10101 : Int64))) (fun w_30 => some (x5_19 + x2, w_30))) else if x1 = 5 then (bnd (lset w_16 92 ((lget w_16 92) + (100001 : Int64))) (fun w_33 => some (x3_10 + (wget w_33 96 1), w_33))) else (bnd (lset w_16 92 ((lget w_16 92) + (1 : Int64))) (fun w_36 => some (x3_10, w_36))))))))))))))
def f_X6_rate (x1 : Int32) (x2 : Int32) (w : Wd) : Option (Int32 × Wd) := f_X6_rate_b0 x1 x2 w
def f_X6_keep_b0 (x1 : Int32) (w : Wd) : Option (Int32 × Wd) :=
  cal (f_X6_in x1 (0 : Int32) (1 : Int32) w) (fun r_2 w_1 => if r_2 = 0 then (some ((-1 : Int32), w_1)) else (cal (f_X6_copy 98 96 ((26 : Int32) * x1) (0 : Int32) w_1) (fun r_6 w_5 => grd (inb x1 2) (bnd (wset w_5 99 x1.toNatClampNeg (1 : Int32)) (fun w_9 => some (wget w_9 96 0, w_9))))))
def f_X6_keep (x1 : Int32) (w : Wd) : Option (Int32 × Wd) := f_X6_keep_b0 x1 w
def f_X6_back_b0 (x1 : Int32) (w : Wd) : Option (Int32 × Wd) :=
  cal (f_X6_in x1 (0 : Int32) (1 : Int32) w) (fun r_2 w_1 => if r_2 = 0 then (some ((-1 : Int32), w_1)) else (grd (inb x1 2) (if (wget w_1 99 x1.toNatClampNeg) = 0 then (some ((-2 : Int32), w_1)) else (cal (f_X6_copy 96 98 (0 : Int32) ((26 : Int32) * x1) w_1) (fun r_8 w_7 => bnd (wset w_7 92 9 (0 : Int32)) (fun w_10 => some (wget w_10 96 0, w_10)))))))
def f_X6_back (x1 : Int32) (w : Wd) : Option (Int32 × Wd) := f_X6_back_b0 x1 w
def f_X6_count_b0 (x1 : Int32) (w : Wd) : Option (Int32 × Wd) :=
  if x1 = 0 then (some (wget w 92 0, w)) else if x1 = 1 then (some (wget w 92 4, w)) else if x1 = 2 then (some (wget w 92 5, w)) else if x1 = 3 then (some (wget w 92 6, w)) else if x1 = 4 then (some (wget w 92 12, w)) else if x1 = 5 then (some (wget w 92 16, w)) else (some ((-1 : Int32), w))
def f_X6_count (x1 : Int32) (w : Wd) : Option (Int32 × Wd) := f_X6_count_b0 x1 w
def f_X6_trace_b0 (w : Wd) : Option (Int64 × Wd) :=
  some (lget w 92, w)
def f_X6_trace (w : Wd) : Option (Int64 × Wd) := f_X6_trace_b0 w
