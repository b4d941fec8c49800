def sIdx (c : Int32) : Int32 := match (([43, 45, 42, 60, 61, 40, 41, 123, 125, 44, 59] : List Int32).findIdx? (fun x => x == c)) with
  | some k => Int32.ofNat k
  | none => -1
def f_X_isAllowed (a0 : Int32)  : Option Int32 :=
(if a0 < 32 then
some 0
else
(if 126 < a0 then
some 0
else
some 1))
def f_Te_add (a1 : Int32) (d : DS) : Option DS :=
(if 240 ≤ (d.2 3) then
some d
else
if inb (d.2 3) 240 then
some ((va_up d.1 2 (upd (d.1 2) (d.2 3).toNatClampNeg (vp_nar .char a1))), (va_up d.2 3 ((d.2 3) + 1))) else none)
def f_X_type (a1 : Int32) (k : DS) (d : DS) (b : DS) : Option (Int32 × DS × DS × DS) :=
(f_X_isAllowed a1).bind fun q1 =>
(if q1 = 0 then
some (0, k, d, b)
else
(if (d.2 3) < 240 then
(f_Te_add a1 d).bind fun q4 =>
some (1, k, (q4.1, (va_up q4.2 2 0)), b)
else
some (0, k, d, b)))
def BX_lettersIn_4 (k4 : Int32 × Int32 × Int32 → Option Int32) (x : Int32 × Int32 × Int32) : Option Int32 :=
(if x.2.2 ≤ 0 then
some x.2.1
else
k4 (x.1, x.2.1 + 1, x.2.2 >>> (5 &&& 31)))
def f_X_lettersIn (a0 : Int32)  : Option Int32 :=
lpN (BX_lettersIn_4) 100000 (a0, 0, a0)
def BTe_addName_2 (k2 : Int32 × Int32 × DS → Option DS) (x : Int32 × Int32 × DS) : Option DS :=
(if x.2.1 ≤ 0 then
some x.2.2
else
bindv (((96 + (x.2.1 &&& 31)).toUInt32 % 65536).toInt32) fun v2 =>
(f_Te_add v2 x.2.2).bind fun q3 =>
k2 (x.1, x.2.1 >>> (5 &&& 31), q3))
def f_Te_addName (a1 : Int32) (d : DS) : Option DS :=
lpN (BTe_addName_2) 100000 (a1, a1, d)
def f_X_word (a1 : Int32) (k : DS) (d : DS) (b : DS) : Option (Int32 × DS × DS × DS) :=
(if a1 < 0 then
some (0, k, d, b)
else
(if 7 ≤ a1 then
some (0, k, d, b)
else
if inb a1 7 then
(f_X_lettersIn (tabW a1.toNatClampNeg)).bind fun q4 =>
(if (((d.2 3) + q4) + 1) ≤ 240 then
if inb a1 7 then
(f_Te_addName (tabW a1.toNatClampNeg) d).bind fun q7 =>
(f_Te_add 32 q7).bind fun q8 =>
some (1, k, (q8.1, (va_up q8.2 2 0)), b) else none
else
some (0, k, d, b)) else none))
def BTe_putBefore_5 (k5 : Int32 × Int32 × Int32 × DS → Option DS) (x : Int32 × Int32 × Int32 × DS) : Option DS :=
(if x.2.2.1 ≤ x.1 then
if inb x.1 240 then
some ((va_up x.2.2.2.1 2 (upd (x.2.2.2.1 2) x.1.toNatClampNeg (vp_nar .char x.2.1))), (va_up x.2.2.2.2 3 ((x.2.2.2.2 3) + 1))) else none
else
if inb (x.2.2.1 - 1) 240 then
if inb x.2.2.1 240 then
k5 (x.1, x.2.1, x.2.2.1 - 1, ((va_up x.2.2.2.1 2 (upd (x.2.2.2.1 2) x.2.2.1.toNatClampNeg (vp_nar .char (x.2.2.2.1 2 (x.2.2.1 - 1).toNatClampNeg)))), x.2.2.2.2)) else none else none)
def f_Te_putBefore (a1 : Int32) (a2 : Int32) (d : DS) : Option DS :=
lpN (BTe_putBefore_5) 100000 (a1, a2, d.2 3, d)
def f_X_insert (a1 : Int32) (a2 : Int32) (k : DS) (d : DS) (b : DS) : Option (Nat × DS × DS × DS) :=
(f_X_isAllowed a2).bind fun q1 =>
(if q1 = 0 then
some (1, k, d, b)
else
(if a1 < 0 then
some (2, k, d, b)
else
(if a1 ≤ (d.2 3) then
(if (d.2 3) < 240 then
(f_Te_putBefore a1 a2 d).bind fun q6 =>
some (0, k, (q6.1, (va_up q6.2 2 0)), b)
else
some (3, k, d, b))
else
some (2, k, d, b))))
def BTe_takeOut_4 (k4 : Int32 × Int32 × Int32 × DS → Option DS) (x : Int32 × Int32 × Int32 × DS) : Option DS :=
(if (x.2.2.2.2 3) ≤ x.2.2.1 then
some (x.2.2.2.1, (va_up x.2.2.2.2 3 ((x.2.2.2.2 3) - x.2.1)))
else
if inb x.2.2.1 240 then
if inb (x.2.2.1 - x.2.1) 240 then
k4 (x.1, x.2.1, x.2.2.1 + 1, ((va_up x.2.2.2.1 2 (upd (x.2.2.2.1 2) (x.2.2.1 - x.2.1).toNatClampNeg (vp_nar .char (x.2.2.2.1 2 x.2.2.1.toNatClampNeg)))), x.2.2.2.2)) else none else none)
def f_Te_takeOut (a1 : Int32) (a2 : Int32) (d : DS) : Option DS :=
lpN (BTe_takeOut_4) 100000 (a1, a2, a1 + a2, d)
def f_X_remove (a1 : Int32) (a2 : Int32) (k : DS) (d : DS) (b : DS) : Option (Nat × DS × DS × DS) :=
(if 0 ≤ a2 then
(if a1 < 0 then
some (2, k, d, b)
else
(if a2 ≤ ((d.2 3) - a1) then
(f_Te_takeOut a1 a2 d).bind fun q4 =>
some (0, k, (q4.1, (va_up q4.2 2 0)), b)
else
some (2, k, d, b)))
else
some (1, k, d, b))
def f_X_length  (k : DS) (d : DS) (b : DS) : Option (Int32 × DS × DS × DS) :=
some (d.2 3, k, d, b)
def f_X_letter (a1 : Int32) (k : DS) (d : DS) (b : DS) : Option (Nat × Int32 × DS × DS × DS) :=
(if a1 < 0 then
some (2, 0, k, d, b)
else
(if a1 < (d.2 3) then
if inb a1 240 then
if isc (d.1 2 a1.toNatClampNeg) then
some (0, d.1 2 a1.toNatClampNeg, k, d, b) else none else none
else
some (2, 0, k, d, b)))
def f_Dr_brokenPlace (a1 : Int32) (d : DS) : Option (Int32 × DS) :=
(if a1 ≤ (d.2 7) then
if inb (a1 - 1) 240 then
some (d.1 7 (a1 - 1).toNatClampNeg, d) else none
else
if inb (d.2 7) 240 then
some (d.1 6 (d.2 7).toNatClampNeg, d) else none)
def f_Dr_addFault (a1 : Int32) (a2 : Int32) (d : DS) : Option DS :=
(if 244 ≤ (d.2 1) then
some d
else
if inb (d.2 1) 244 then
some ((va_up d.1 29 (upd (d.1 29) (d.2 1).toNatClampNeg (a1 + (8 * a2)))), (va_up d.2 1 ((d.2 1) + 1))) else none)
def BFn_find_2 (k2 : Int32 × Int32 × DS → Option (Int32 × DS)) (x : Int32 × Int32 × DS) : Option (Int32 × DS) :=
(if (x.2.2.2 5) ≤ x.2.1 then
some ((-1), x.2.2)
else
if inb x.2.1 4 then
if inb (x.2.2.1 9 x.2.1.toNatClampNeg) 240 then
bindv (x.2.2.1 5 (x.2.2.1 9 x.2.1.toNatClampNeg).toNatClampNeg) fun v4 =>
(if v4 = x.1 then
some (x.2.1, x.2.2)
else
k2 (x.1, x.2.1 + 1, x.2.2)) else none else none)
def f_Fn_find (a1 : Int32) (d : DS) : Option (Int32 × DS) :=
lpN (BFn_find_2) 100000 (a1, 0, d)
def f_Fn_isFirst (a1 : Int32) (d : DS) : Option (Int32 × DS) :=
if inb a1 240 then
(f_Fn_find (d.1 5 a1.toNatClampNeg) d).bind fun q2 =>
(if q2.1 = (-1) then
some (0, q2.2)
else
if inb q2.1 4 then
(if (q2.2.1 9 q2.1.toNatClampNeg) = a1 then
some (1, q2.2)
else
some (0, q2.2)) else none) else none
def f_Na_bindCall (a1 : Int32) (d : DS) : Option DS :=
if inb a1 240 then
(f_Fn_find (d.1 5 a1.toNatClampNeg) d).bind fun q2 =>
(if q2.1 = (-1) then
if inb a1 240 then
some ((va_up q2.2.1 15 (upd (q2.2.1 15) a1.toNatClampNeg 4)), q2.2.2) else none
else
if inb q2.1 4 then
if inb a1 240 then
if inb a1 240 then
if inb q2.1 4 then
(if (q2.2.1 19 a1.toNatClampNeg) = (q2.2.1 10 q2.1.toNatClampNeg) then
some ((va_up q2.2.1 14 (upd (q2.2.1 14) a1.toNatClampNeg (q2.2.1 9 q2.1.toNatClampNeg))), q2.2.2)
else
if inb a1 240 then
some ((va_up (va_up q2.2.1 14 (upd (q2.2.1 14) a1.toNatClampNeg (q2.2.1 9 q2.1.toNatClampNeg))) 15 (upd (q2.2.1 15) a1.toNatClampNeg 5)), q2.2.2) else none) else none else none else none else none) else none
def f_Na_bindOr (a1 : Int32) (a2 : Int32) (a3 : Int32) (d : DS) : Option DS :=
if inb a1 240 then
(if a2 = (-1) then
if inb a1 240 then
some ((va_up (va_up d.1 14 (upd (d.1 14) a1.toNatClampNeg a2)) 15 (upd (d.1 15) a1.toNatClampNeg a3)), d.2) else none
else
some ((va_up d.1 14 (upd (d.1 14) a1.toNatClampNeg a2)), d.2)) else none
def f_Na_declares (a1 : Int32) (a2 : Int32) (d : DS) : Option (Int32 × DS) :=
if inb a1 240 then
(if (d.1 13 a1.toNatClampNeg) = 2 then
if inb a1 240 then
(if (d.1 14 a1.toNatClampNeg) = a1 then
if inb a1 240 then
(if (d.1 5 a1.toNatClampNeg) = a2 then
some (1, d)
else
some (0, d)) else none
else
some (0, d)) else none
else
if inb a1 240 then
(if (d.1 13 a1.toNatClampNeg) = 3 then
if inb a1 240 then
(if (d.1 14 a1.toNatClampNeg) = a1 then
if inb a1 240 then
(if (d.1 5 a1.toNatClampNeg) = a2 then
some (1, d)
else
some (0, d)) else none
else
some (0, d)) else none
else
some (0, d)) else none) else none
def BNa_isDeclaredBefore_2 (k2 : Int32 × Int32 × Int32 × DS → Option (Int32 × DS)) (x : Int32 × Int32 × Int32 × DS) : Option (Int32 × DS) :=
(if x.1 ≤ x.2.2.1 then
some (0, x.2.2.2)
else
if inb x.1 240 then
(f_Na_declares x.2.2.1 (x.2.2.2.1 5 x.1.toNatClampNeg) x.2.2.2).bind fun q3 =>
(if q3.1 = 0 then
k2 (x.1, x.2.1, x.2.2.1 + 1, q3.2)
else
if inb x.2.2.1 240 then
if inb x.1 240 then
(if (q3.2.1 16 x.2.2.1.toNatClampNeg) = (q3.2.1 16 x.1.toNatClampNeg) then
some (1, q3.2)
else
k2 (x.1, x.2.1, x.2.2.1 + 1, q3.2)) else none else none) else none)
def f_Na_isDeclaredBefore (a1 : Int32) (a2 : Int32) (d : DS) : Option (Int32 × DS) :=
lpN (BNa_isDeclaredBefore_2) 100000 (a1, a2, a2, d)
def BNa_meaning_4 (k4 : Int32 × Int32 × Int32 × DS → Option (Int32 × DS)) (x : Int32 × Int32 × Int32 × DS) : Option (Int32 × DS) :=
(if x.2.2.1 < 0 then
some ((-1), x.2.2.2)
else
if inb x.2.2.1 240 then
(if (x.2.2.2.1 13 x.2.2.1.toNatClampNeg) = 1 then
some ((-1), x.2.2.2)
else
(f_Na_declares x.2.2.1 x.2.1 x.2.2.2).bind fun q4 =>
(if q4.1 = 0 then
k4 (x.1, x.2.1, x.2.2.1 - 1, q4.2)
else
if inb x.2.2.1 240 then
(if x.1 < (q4.2.1 17 x.2.2.1.toNatClampNeg) then
k4 (x.1, x.2.1, x.2.2.1 - 1, q4.2)
else
if inb x.2.2.1 240 then
if inb (q4.2.1 16 x.2.2.1.toNatClampNeg) 240 then
bindv (q4.2.1 18 (q4.2.1 16 x.2.2.1.toNatClampNeg).toNatClampNeg) fun v10 =>
(if v10 ≤ x.1 then
k4 (x.1, x.2.1, x.2.2.1 - 1, q4.2)
else
some (x.2.2.1, q4.2)) else none else none) else none)) else none)
def f_Na_meaning (a1 : Int32) (a2 : Int32) (d : DS) : Option (Int32 × DS) :=
lpN (BNa_meaning_4) 100000 (a1, a2, a1 - 1, d)
def BNa_bind_2 (k2 : Int32 × Int32 × Int32 × DS → Option DS) (x : Int32 × Int32 × Int32 × DS) : Option DS :=
(if x.2.1 ≤ x.2.2.1 then
some x.2.2.2
else
if inb x.2.2.1 240 then
(if (x.2.2.2.1 13 x.2.2.1.toNatClampNeg) = 1 then
(f_Fn_isFirst x.2.2.1 x.2.2.2).bind fun q4 =>
(if q4.1 = 0 then
(f_Na_bindOr x.2.2.1 (-1) 6 q4.2).bind fun q6 =>
k2 (x.1, x.2.1, x.2.2.1 + 1, q6)
else
(f_Na_bindOr x.2.2.1 x.2.2.1 6 q4.2).bind fun q7 =>
k2 (x.1, x.2.1, x.2.2.1 + 1, q7))
else
(if (x.2.2.2.1 13 x.2.2.1.toNatClampNeg) = 2 then
(f_Na_isDeclaredBefore x.2.2.1 x.1 x.2.2.2).bind fun q9 =>
(if q9.1 = 0 then
(f_Na_bindOr x.2.2.1 x.2.2.1 2 q9.2).bind fun q11 =>
k2 (x.1, x.2.1, x.2.2.1 + 1, q11)
else
(f_Na_bindOr x.2.2.1 (-1) 2 q9.2).bind fun q12 =>
k2 (x.1, x.2.1, x.2.2.1 + 1, q12))
else
(if (x.2.2.2.1 13 x.2.2.1.toNatClampNeg) = 3 then
(f_Na_isDeclaredBefore x.2.2.1 x.1 x.2.2.2).bind fun q14 =>
(if q14.1 = 0 then
(f_Na_bindOr x.2.2.1 x.2.2.1 2 q14.2).bind fun q16 =>
k2 (x.1, x.2.1, x.2.2.1 + 1, q16)
else
(f_Na_bindOr x.2.2.1 (-1) 2 q14.2).bind fun q17 =>
k2 (x.1, x.2.1, x.2.2.1 + 1, q17))
else
(if (x.2.2.2.1 13 x.2.2.1.toNatClampNeg) = 4 then
if inb x.2.2.1 240 then
(f_Na_meaning x.2.2.1 (x.2.2.2.1 5 x.2.2.1.toNatClampNeg) x.2.2.2).bind fun q20 =>
(f_Na_bindOr x.2.2.1 q20.1 3 q20.2).bind fun q21 =>
k2 (x.1, x.2.1, x.2.2.1 + 1, q21) else none
else
(if (x.2.2.2.1 13 x.2.2.1.toNatClampNeg) = 5 then
if inb x.2.2.1 240 then
(f_Na_meaning x.2.2.1 (x.2.2.2.1 5 x.2.2.1.toNatClampNeg) x.2.2.2).bind fun q24 =>
(f_Na_bindOr x.2.2.1 q24.1 3 q24.2).bind fun q25 =>
k2 (x.1, x.2.1, x.2.2.1 + 1, q25) else none
else
(if (x.2.2.2.1 13 x.2.2.1.toNatClampNeg) = 6 then
(f_Na_bindCall x.2.2.1 x.2.2.2).bind fun q27 =>
k2 (x.1, x.2.1, x.2.2.1 + 1, q27)
else
k2 (x.1, x.2.1, x.2.2.1 + 1, x.2.2.2))))))) else none)
def f_Na_bind (a1 : Int32) (a2 : Int32) (d : DS) : Option DS :=
lpN (BNa_bind_2) 100000 (a1, a2, a1, d)
def BDr_judgePart_50 (k50 : Int32 × Int32 × DS → Option DS) (x : Int32 × Int32 × DS) : Option DS :=
if inb (x.1 + 1) 5 then
(if (x.2.2.1 27 (x.1 + 1).toNatClampNeg) ≤ x.2.1 then
some x.2.2
else
if inb x.2.1 240 then
(if (x.2.2.1 15 x.2.1.toNatClampNeg) = (-1) then
k50 (x.1, x.2.1 + 1, x.2.2)
else
if inb x.2.1 240 then
if inb x.2.1 240 then
(f_Dr_addFault (x.2.2.1 15 x.2.1.toNatClampNeg) (x.2.2.1 6 x.2.1.toNatClampNeg) x.2.2).bind fun q13 =>
k50 (x.1, x.2.1 + 1, q13) else none else none) else none) else none
def f_Dr_judgePart (a1 : Int32) (d : DS) : Option DS :=
if inb a1 4 then
(if (d.1 28 a1.toNatClampNeg) = (-1) then
if inb a1 5 then
if inb (a1 + 1) 5 then
(f_Na_bind (d.1 27 a1.toNatClampNeg) (d.1 27 (a1 + 1).toNatClampNeg) d).bind fun q5 =>
if inb a1 5 then
lpN (BDr_judgePart_50) 100000 (a1, q5.1 27 a1.toNatClampNeg, q5) else none else none else none
else
if inb a1 4 then
(f_Dr_addFault 1 (d.1 28 a1.toNatClampNeg) d).bind fun q15 =>
some q15 else none) else none
def f_To_isFn (a1 : Int32) (d : DS) : Option (Int32 × DS) :=
if inb a1 240 then
(if (d.1 4 a1.toNatClampNeg) = 1 then
if inb a1 240 then
(if (d.1 5 a1.toNatClampNeg) = 0 then
some (1, d)
else
some (0, d)) else none
else
some (0, d)) else none
def BDr_splitParts_7 (k7 : Int32 × DS → Option DS) (x : Int32 × DS) : Option DS :=
(if (x.2.2 4) ≤ x.1 then
if inb (x.2.2 0) 5 then
some ((va_up x.2.1 27 (upd (x.2.1 27) (x.2.2 0).toNatClampNeg (x.2.2 4))), x.2.2) else none
else
(if x.1 = 0 then
(if 4 ≤ (x.2.2 0) then
k7 (x.1 + 1, x.2)
else
if inb (x.2.2 0) 5 then
k7 (x.1 + 1, ((va_up x.2.1 27 (upd (x.2.1 27) (x.2.2 0).toNatClampNeg x.1)), (va_up x.2.2 0 ((x.2.2 0) + 1)))) else none)
else
(f_To_isFn x.1 x.2).bind fun q6 =>
(if q6.1 = 0 then
k7 (x.1 + 1, q6.2)
else
(if 4 ≤ (q6.2.2 0) then
k7 (x.1 + 1, q6.2)
else
if inb (q6.2.2 0) 5 then
k7 (x.1 + 1, ((va_up q6.2.1 27 (upd (q6.2.1 27) (q6.2.2 0).toNatClampNeg x.1)), (va_up q6.2.2 0 ((q6.2.2 0) + 1)))) else none))))
def f_Dr_splitParts  (d : DS) : Option DS :=
lpN (BDr_splitParts_7) 100000 (0, (d.1, (va_up d.2 0 0)))
def f_Cd_add (a1 : Int32) (a2 : Int32) (d : DS) : Option DS :=
(if 240 ≤ (d.2 6) then
some d
else
if inb (d.2 6) 240 then
if inb (d.2 6) 240 then
some ((va_up (va_up d.1 21 (upd (d.1 21) (d.2 6).toNatClampNeg a1)) 22 (upd (d.1 22) (d.2 6).toNatClampNeg a2)), (va_up d.2 6 ((d.2 6) + 1))) else none else none)
def f_Fn_add (a1 : Int32) (a2 : Int32) (a3 : Int32) (d : DS) : Option DS :=
(if 4 ≤ (d.2 5) then
some d
else
if inb (d.2 5) 4 then
if inb (d.2 5) 4 then
if inb (d.2 5) 4 then
some ((va_up (va_up (va_up d.1 9 (upd (d.1 9) (d.2 5).toNatClampNeg a1)) 10 (upd (d.1 10) (d.2 5).toNatClampNeg a2)) 11 (upd (d.1 11) (d.2 5).toNatClampNeg a3)), (va_up d.2 5 ((d.2 5) + 1))) else none else none else none)
def f_Gr_takeSign (a1 : Int32) (d : DS) : Option (Int32 × DS) :=
(if (d.2 8) ≤ (d.2 7) then
some (0, d)
else
if inb (d.2 7) 240 then
(if (d.1 4 (d.2 7).toNatClampNeg) = 4 then
if inb (d.2 7) 240 then
(if (d.1 5 (d.2 7).toNatClampNeg) = a1 then
some (1, (d.1, (va_up d.2 7 ((d.2 7) + 1))))
else
some (0, d)) else none
else
some (0, d)) else none)
def f_Gr_openBlock (a1 : Int32) (a2 : Int32) (d : DS) : Option (Int32 × DS) :=
(if 4 ≤ (d.2 9) then
some (0, d)
else
(f_Gr_takeSign 123 d).bind fun q2 =>
(if q2.1 = 0 then
some (0, q2.2)
else
if inb (q2.2.2 9) 4 then
if inb (q2.2.2 9) 4 then
if inb (q2.2.2 9) 4 then
(if a1 = 0 then
(if a2 = (-1) then
some (1, ((va_up (va_up (va_up q2.2.1 24 (upd (q2.2.1 24) (q2.2.2 9).toNatClampNeg ((q2.2.2 7) - 1))) 26 (upd (q2.2.1 26) (q2.2.2 9).toNatClampNeg a2)) 25 (upd (q2.2.1 25) (q2.2.2 9).toNatClampNeg (-1))), (va_up q2.2.2 9 ((q2.2.2 9) + 1))))
else
(f_Cd_add 5 0 ((va_up (va_up (va_up q2.2.1 24 (upd (q2.2.1 24) (q2.2.2 9).toNatClampNeg ((q2.2.2 7) - 1))) 26 (upd (q2.2.1 26) (q2.2.2 9).toNatClampNeg a2)) 25 (upd (q2.2.1 25) (q2.2.2 9).toNatClampNeg (-1))), q2.2.2)).bind fun q9 =>
some (1, (q9.1, (va_up q9.2 9 ((q9.2 9) + 1)))))
else
if inb (q2.2.2 9) 4 then
(f_Cd_add 4 0 ((va_up (va_up (va_up (va_up q2.2.1 24 (upd (q2.2.1 24) (q2.2.2 9).toNatClampNeg ((q2.2.2 7) - 1))) 26 (upd (q2.2.1 26) (q2.2.2 9).toNatClampNeg a2)) 25 (upd (q2.2.1 25) (q2.2.2 9).toNatClampNeg (-1))) 25 (upd (upd (q2.2.1 25) (q2.2.2 9).toNatClampNeg (-1)) (q2.2.2 9).toNatClampNeg (q2.2.2 6))), q2.2.2)).bind fun q11 =>
(if a2 = (-1) then
some (1, (q11.1, (va_up q11.2 9 ((q11.2 9) + 1))))
else
(f_Cd_add 5 0 q11).bind fun q13 =>
some (1, (q13.1, (va_up q13.2 9 ((q13.2 9) + 1))))) else none) else none else none else none))
def f_Gr_takeName (a1 : Int32) (d : DS) : Option (Int32 × DS) :=
(if (d.2 8) ≤ (d.2 7) then
some (0, d)
else
if inb (d.2 7) 240 then
(if (d.1 4 (d.2 7).toNatClampNeg) = 2 then
if inb (d.2 7) 240 then
some (1, ((va_up d.1 13 (upd (d.1 13) (d.2 7).toNatClampNeg a1)), (va_up d.2 7 ((d.2 7) + 1)))) else none
else
some (0, d)) else none)
def BGr_readParameters_42 (k42 : Int32 × Int32 × DS → Option (Int32 × DS)) (x : Int32 × Int32 × DS) : Option (Int32 × DS) :=
(if 240 < x.2.1 then
some ((-1), x.2.2)
else
(f_Gr_takeName 2 x.2.2).bind fun q7 =>
(if q7.1 = 0 then
some ((-1), q7.2)
else
if inb (x.2.2.2 7) 240 then
if inb (x.2.2.2 7) 240 then
(f_Gr_takeSign 41 ((va_up (va_up q7.2.1 16 (upd (q7.2.1 16) (x.2.2.2 7).toNatClampNeg x.1)) 17 (upd (q7.2.1 17) (x.2.2.2 7).toNatClampNeg (q7.2.2 7))), q7.2.2)).bind fun q11 =>
(if q11.1 = 0 then
(f_Gr_takeSign 44 q11.2).bind fun q13 =>
(if q13.1 = 0 then
some ((-1), q13.2)
else
k42 (x.1, x.2.1 + 1, q13.2))
else
some (x.2.1, q11.2)) else none else none))
def f_Gr_readParameters  (d : DS) : Option (Int32 × DS) :=
(f_Gr_takeSign 40 d).bind fun q1 =>
(if q1.1 = 0 then
some ((-1), q1.2)
else
if inb (d.2 7) 240 then
(f_Gr_takeSign 41 ((va_up q1.2.1 18 (upd (q1.2.1 18) (d.2 7).toNatClampNeg (q1.2.2 8))), q1.2.2)).bind fun q4 =>
(if q4.1 = 0 then
lpN (BGr_readParameters_42) 100000 (d.2 7, 1, q4.2)
else
some (0, q4.2)) else none)
def f_Cd_aimHere (a1 : Int32) (d : DS) : Option DS :=
(if a1 < 0 then
some d
else
(if (d.2 6) ≤ a1 then
some d
else
if inb a1 240 then
some ((va_up d.1 22 (upd (d.1 22) a1.toNatClampNeg (d.2 6))), d.2) else none))
def f_Gr_closeBlock  (d : DS) : Option DS :=
if inb ((d.2 9) - 1) 4 then
if inb (d.1 24 ((d.2 9) - 1).toNatClampNeg) 240 then
if inb ((d.2 9) - 1) 4 then
(if (d.1 26 ((d.2 9) - 1).toNatClampNeg) = (-1) then
if inb ((d.2 9) - 1) 4 then
(f_Cd_aimHere (d.1 25 ((d.2 9) - 1).toNatClampNeg) ((va_up d.1 18 (upd (d.1 18) (d.1 24 ((d.2 9) - 1).toNatClampNeg).toNatClampNeg ((d.2 7) - 1))), (va_up d.2 9 ((d.2 9) - 1)))).bind fun q6 =>
some q6 else none
else
if inb ((d.2 9) - 1) 4 then
(f_Cd_add 6 (d.1 26 ((d.2 9) - 1).toNatClampNeg) ((va_up d.1 18 (upd (d.1 18) (d.1 24 ((d.2 9) - 1).toNatClampNeg).toNatClampNeg ((d.2 7) - 1))), (va_up d.2 9 ((d.2 9) - 1)))).bind fun q8 =>
if inb (q8.2 9) 4 then
(f_Cd_aimHere (q8.1 25 (q8.2 9).toNatClampNeg) q8).bind fun q10 =>
some q10 else none else none) else none else none else none
def BGr_readCall_31 (E : Int32 × DS → Option (Int32 × DS)) (k31 : Int32 × Int32 × Int32 × Int32 × DS → Option (Int32 × DS)) (x : Int32 × Int32 × Int32 × Int32 × DS) : Option (Int32 × DS) :=
(if 240 < x.2.2.2.1 then
(f_Cd_add 3 x.1 x.2.2.2.2).bind fun q5 =>
if isb x.2.2.1 then
some (x.2.2.1, q5) else none
else
(if x.2.2.1 = 0 then
(E (x.2.1, x.2.2.2.2)).bind fun q10 =>
(if q10.1 = 0 then
some (0, q10.2)
else
if inb x.1 240 then
(f_Gr_takeSign 41 ((va_up q10.2.1 19 (upd (q10.2.1 19) x.1.toNatClampNeg x.2.2.2.1)), q10.2.2)).bind fun q13 =>
(if q13.1 = 0 then
(f_Gr_takeSign 44 q13.2).bind fun q15 =>
(if q15.1 = 0 then
some (0, q15.2)
else
k31 (x.1, x.2.1, q13.1, x.2.2.2.1 + 1, q15.2))
else
k31 (x.1, x.2.1, q13.1, x.2.2.2.1 + 1, q13.2)) else none)
else
(f_Cd_add 3 x.1 x.2.2.2.2).bind fun q8 =>
if isb x.2.2.1 then
some (x.2.2.1, q8) else none))
def f_Gr_readCall (E : Int32 × DS → Option (Int32 × DS)) (a1 : Int32) (a2 : Int32) (d : DS) : Option (Int32 × DS) :=
if inb a1 240 then
if inb a1 240 then
(f_Gr_takeSign 41 ((va_up (va_up d.1 13 (upd (d.1 13) a1.toNatClampNeg 6)) 19 (upd (d.1 19) a1.toNatClampNeg 0)), d.2)).bind fun q3 =>
lpN (BGr_readCall_31 E) 100000 (a1, a2, q3.1, 1, q3.2) else none else none
def f_Gr_readFactor (E : Int32 × DS → Option (Int32 × DS)) (a1 : Int32) (d : DS) : Option (Int32 × DS) :=
(if (d.2 8) ≤ (d.2 7) then
(f_Gr_takeName 4 d).bind fun q2 =>
(if 4 ≤ a1 then
(if q2.1 = 0 then
if isb q2.1 then
some (q2.1, q2.2) else none
else
(f_Cd_add 1 (d.2 7) q2.2).bind fun q6 =>
if isb q2.1 then
some (q2.1, q6) else none)
else
(f_Gr_takeSign 40 q2.2).bind fun q8 =>
(if q8.1 = 0 then
(if q2.1 = 0 then
if isb q2.1 then
some (q2.1, q8.2) else none
else
(f_Cd_add 1 (d.2 7) q8.2).bind fun q12 =>
if isb q2.1 then
some (q2.1, q12) else none)
else
(if q2.1 = 0 then
(E (a1 + 1, q8.2)).bind fun q15 =>
(if q15.1 = 0 then
some (0, q15.2)
else
(f_Gr_takeSign 41 q15.2).bind fun q17 =>
(if q17.1 = 0 then
some (0, q17.2)
else
some (1, q17.2)))
else
(f_Gr_readCall E (d.2 7) (a1 + 1) q8.2).bind fun q19 =>
if isb q19.1 then
some (q19.1, q19.2) else none)))
else
if inb (d.2 7) 240 then
(if (d.1 4 (d.2 7).toNatClampNeg) = 3 then
if inb (d.2 7) 240 then
(f_Cd_add 0 (d.1 5 (d.2 7).toNatClampNeg) (d.1, (va_up d.2 7 ((d.2 7) + 1)))).bind fun q43 =>
some (1, q43) else none
else
(f_Gr_takeName 4 d).bind fun q23 =>
(if 4 ≤ a1 then
(if q23.1 = 0 then
if isb q23.1 then
some (q23.1, q23.2) else none
else
(f_Cd_add 1 (d.2 7) q23.2).bind fun q27 =>
if isb q23.1 then
some (q23.1, q27) else none)
else
(f_Gr_takeSign 40 q23.2).bind fun q29 =>
(if q29.1 = 0 then
(if q23.1 = 0 then
if isb q23.1 then
some (q23.1, q29.2) else none
else
(f_Cd_add 1 (d.2 7) q29.2).bind fun q33 =>
if isb q23.1 then
some (q23.1, q33) else none)
else
(if q23.1 = 0 then
(E (a1 + 1, q29.2)).bind fun q36 =>
(if q36.1 = 0 then
some (0, q36.2)
else
(f_Gr_takeSign 41 q36.2).bind fun q38 =>
(if q38.1 = 0 then
some (0, q38.2)
else
some (1, q38.2)))
else
(f_Gr_readCall E (d.2 7) (a1 + 1) q29.2).bind fun q40 =>
if isb q40.1 then
some (q40.1, q40.2) else none)))) else none)
def BGr_readTerm_12 (E : Int32 × DS → Option (Int32 × DS)) (k12 : Int32 × Int32 × DS → Option (Int32 × DS)) (x : Int32 × Int32 × DS) : Option (Int32 × DS) :=
(if 240 ≤ x.2.1 then
some (1, x.2.2)
else
(f_Gr_takeSign 42 x.2.2).bind fun q4 =>
(if q4.1 = 0 then
some (1, q4.2)
else
(f_Gr_readFactor E x.1 q4.2).bind fun q6 =>
(if q6.1 = 0 then
some (0, q6.2)
else
(f_Cd_add 42 0 q6.2).bind fun q8 =>
k12 (x.1, x.2.1 + 1, q8))))
def f_Gr_readTerm (E : Int32 × DS → Option (Int32 × DS)) (a1 : Int32) (d : DS) : Option (Int32 × DS) :=
(f_Gr_readFactor E a1 d).bind fun q1 =>
(if q1.1 = 0 then
some (0, q1.2)
else
lpN (BGr_readTerm_12 E) 100000 (a1, 0, q1.2))
def BGr_readSum_12 (E : Int32 × DS → Option (Int32 × DS)) (k12 : Int32 × Int32 × DS → Option (Int32 × DS)) (x : Int32 × Int32 × DS) : Option (Int32 × DS) :=
(if 240 ≤ x.2.1 then
some (1, x.2.2)
else
(f_Gr_takeSign 43 x.2.2).bind fun q4 =>
(if q4.1 = 0 then
(f_Gr_takeSign 45 q4.2).bind fun q6 =>
(if q6.1 = 0 then
some (1, q6.2)
else
(f_Gr_readTerm E x.1 q6.2).bind fun q8 =>
(if q8.1 = 0 then
some (0, q8.2)
else
(f_Cd_add 45 0 q8.2).bind fun q10 =>
k12 (x.1, x.2.1 + 1, q10)))
else
(f_Gr_readTerm E x.1 q4.2).bind fun q11 =>
(if q11.1 = 0 then
some (0, q11.2)
else
(f_Cd_add 43 0 q11.2).bind fun q13 =>
k12 (x.1, x.2.1 + 1, q13))))
def f_Gr_readSum (E : Int32 × DS → Option (Int32 × DS)) (a1 : Int32) (d : DS) : Option (Int32 × DS) :=
(f_Gr_readTerm E a1 d).bind fun q1 =>
(if q1.1 = 0 then
some (0, q1.2)
else
lpN (BGr_readSum_12 E) 100000 (a1, 0, q1.2))
def f_Gr_readExpression (E : Int32 × DS → Option (Int32 × DS)) (a1 : Int32) (d : DS) : Option (Int32 × DS) :=
(f_Gr_readSum E a1 d).bind fun q1 =>
(if q1.1 = 0 then
some (0, q1.2)
else
(f_Gr_takeSign 60 q1.2).bind fun q3 =>
(if q3.1 = 0 then
some (1, q3.2)
else
(f_Gr_readSum E a1 q3.2).bind fun q5 =>
(if q5.1 = 0 then
some (0, q5.2)
else
(f_Cd_add 60 0 q5.2).bind fun q7 =>
some (1, q7))))
def Elv : Nat → Int32 × DS → Option (Int32 × DS)
  | 0, _ => none
  | n + 1, x => f_Gr_readExpression (Elv n) x.1 x.2
def E (x : Int32 × DS) : Option (Int32 × DS) := Elv 6 x
def f_Gr_readStore (a1 : Int32) (d : DS) : Option (Int32 × DS) :=
(f_Gr_takeName a1 d).bind fun q1 =>
(if q1.1 = 0 then
some (0, q1.2)
else
(f_Gr_takeSign 61 q1.2).bind fun q3 =>
(if q3.1 = 0 then
some (0, q3.2)
else
(E (0, q3.2)).bind fun q5 =>
(if q5.1 = 0 then
some (0, q5.2)
else
(f_Gr_takeSign 59 q5.2).bind fun q7 =>
(if q7.1 = 0 then
some (0, q7.2)
else
(if a1 = 3 then
(if (q7.2.2 9) ≤ 0 then
(f_Cd_add 2 (d.2 7) q7.2).bind fun q12 =>
some (1, q12)
else
if inb ((q7.2.2 9) - 1) 4 then
if inb (d.2 7) 240 then
if inb (d.2 7) 240 then
(f_Cd_add 2 (d.2 7) ((va_up (va_up q7.2.1 16 (upd (q7.2.1 16) (d.2 7).toNatClampNeg (q7.2.1 24 ((q7.2.2 9) - 1).toNatClampNeg))) 17 (upd (q7.2.1 17) (d.2 7).toNatClampNeg (q7.2.2 7))), q7.2.2)).bind fun q16 =>
some (1, q16) else none else none else none)
else
(f_Cd_add 2 (d.2 7) q7.2).bind fun q10 =>
some (1, q10))))))
def f_Gr_readUse (a1 : Int32) (d : DS) : Option (Int32 × DS) :=
(E (0, d)).bind fun q1 =>
(if q1.1 = 0 then
some (0, q1.2)
else
(f_Gr_takeSign 59 q1.2).bind fun q3 =>
(if q3.1 = 0 then
some (0, q3.2)
else
(f_Cd_add a1 0 q3.2).bind fun q5 =>
some (1, q5)))
def f_Gr_readStatement  (d : DS) : Option (Int32 × DS) :=
(f_Gr_takeSign 125 d).bind fun q1 =>
(if q1.1 = 0 then
(if (q1.2.2 7) < (q1.2.2 8) then
if inb (q1.2.2 7) 240 then
(if (q1.2.1 4 (q1.2.2 7).toNatClampNeg) = 2 then
(f_Gr_readStore 5 q1.2).bind fun q31 =>
if isb q31.1 then
some (q31.1, q31.2) else none
else
if inb (q1.2.2 7) 240 then
(if (q1.2.1 4 (q1.2.2 7).toNatClampNeg) = 1 then
(f_To_isFn (q1.2.2 7) q1.2).bind fun q8 =>
(if q8.1 = 0 then
if inb (q8.2.2 7) 240 then
(if (q8.2.1 5 (q8.2.2 7).toNatClampNeg) = 1 then
(f_Gr_readStore 3 (q8.2.1, (va_up q8.2.2 7 ((q8.2.2 7) + 1)))).bind fun q12 =>
if isb q12.1 then
some (q12.1, q12.2) else none
else
(if (q8.2.1 5 (q8.2.2 7).toNatClampNeg) = 2 then
(E (0, (q8.2.1, (va_up q8.2.2 7 ((q8.2.2 7) + 1))))).bind fun q15 =>
(if q15.1 = 0 then
some (0, q15.2)
else
(f_Gr_openBlock 1 (-1) q15.2).bind fun q17 =>
(if q17.1 = 0 then
some (0, q17.2)
else
some (1, q17.2)))
else
(if (q8.2.1 5 (q8.2.2 7).toNatClampNeg) = 3 then
(E (0, (q8.2.1, (va_up q8.2.2 7 ((q8.2.2 7) + 1))))).bind fun q20 =>
(if q20.1 = 0 then
some (0, q20.2)
else
(f_Gr_openBlock 1 (q8.2.2 6) q20.2).bind fun q22 =>
(if q22.1 = 0 then
some (0, q22.2)
else
some (1, q22.2)))
else
(if (q8.2.1 5 (q8.2.2 7).toNatClampNeg) = 4 then
(f_Gr_readUse 7 (q8.2.1, (va_up q8.2.2 7 ((q8.2.2 7) + 1)))).bind fun q27 =>
if isb q27.1 then
some (q27.1, q27.2) else none
else
(f_Gr_readUse 8 (q8.2.1, (va_up q8.2.2 7 ((q8.2.2 7) + 1)))).bind fun q25 =>
if isb q25.1 then
some (q25.1, q25.2) else none)))) else none
else
some (0, q8.2))
else
(f_Gr_openBlock 0 (-1) q1.2).bind fun q29 =>
if isb q29.1 then
some (q29.1, q29.2) else none) else none) else none
else
some (0, q1.2))
else
(f_Gr_closeBlock q1.2).bind fun q33 =>
some (1, q33))
def BGr_readFunction_82 (k82 : Int32 × Int32 × Int32 × Int32 × Int32 × DS → Option (Int32 × DS)) (x : Int32 × Int32 × Int32 × Int32 × Int32 × DS) : Option (Int32 × DS) :=
(if 240 ≤ x.2.2.2.2.1 then
(if 0 < (x.2.2.2.2.2.2 9) then
some (0, x.2.2.2.2.2)
else
(if (x.2.2.2.2.2.2 8) ≤ (x.2.2.2.2.2.2 7) then
(f_Cd_add 0 0 x.2.2.2.2.2).bind fun q12 =>
(f_Cd_add 8 0 q12).bind fun q13 =>
(f_Fn_add (x.1 + 1) x.2.2.2.1 x.2.2.1 q13).bind fun q14 =>
some (1, q14)
else
some (0, x.2.2.2.2.2)))
else
(if (x.2.2.2.2.2.2 9) ≤ 0 then
(if 0 < (x.2.2.2.2.2.2 9) then
some (0, x.2.2.2.2.2)
else
(if (x.2.2.2.2.2.2 8) ≤ (x.2.2.2.2.2.2 7) then
(f_Cd_add 0 0 x.2.2.2.2.2).bind fun q18 =>
(f_Cd_add 8 0 q18).bind fun q19 =>
(f_Fn_add (x.1 + 1) x.2.2.2.1 x.2.2.1 q19).bind fun q20 =>
some (1, q20)
else
some (0, x.2.2.2.2.2)))
else
(f_Gr_readStatement x.2.2.2.2.2).bind fun q21 =>
(if q21.1 = 0 then
some (0, q21.2)
else
k82 (x.1, x.2.1, x.2.2.1, x.2.2.2.1, x.2.2.2.2.1 + 1, q21.2))))
def f_Gr_readFunction (a1 : Int32) (a2 : Int32) (d : DS) : Option (Int32 × DS) :=
(f_To_isFn a1 (d.1, (va_up (va_up (va_up d.2 7 a1) 8 a2) 9 0))).bind fun q1 =>
(if q1.1 = 0 then
some (0, q1.2)
else
(f_Gr_takeName 1 (q1.2.1, (va_up q1.2.2 7 ((q1.2.2 7) + 1)))).bind fun q3 =>
(if q3.1 = 0 then
some (0, q3.2)
else
(f_Gr_readParameters q3.2).bind fun q5 =>
(if q5.1 = (-1) then
some (0, q5.2)
else
(f_Gr_openBlock 0 (-1) q5.2).bind fun q7 =>
(if q7.1 = 0 then
some (0, q7.2)
else
lpN (BGr_readFunction_82) 100000 (a1, a2, d.2 6, q5.1, 0, q7.2)))))
def BNa_clear_2 (k2 : Int32 × DS → Option DS) (x : Int32 × DS) : Option DS :=
(if (x.2.2 4) ≤ x.1 then
some x.2
else
if inb x.1 240 then
if inb x.1 240 then
if inb x.1 240 then
k2 (x.1 + 1, ((va_up (va_up (va_up x.2.1 13 (upd (x.2.1 13) x.1.toNatClampNeg 0)) 14 (upd (x.2.1 14) x.1.toNatClampNeg (-1))) 15 (upd (x.2.1 15) x.1.toNatClampNeg (-1))), x.2.2)) else none else none else none)
def f_Na_clear  (d : DS) : Option DS :=
lpN (BNa_clear_2) 100000 (0, d)
def f_To_begin (a1 : Int32) (a2 : Int32) (a3 : Int32) (d : DS) : Option DS :=
if inb (d.2 4) 240 then
if inb (d.2 4) 240 then
if inb (d.2 4) 240 then
if inb (d.2 4) 240 then
(if a2 = 2 then
if inb (d.2 4) 240 then
some ((va_up (va_up (va_up (va_up (va_up d.1 4 (upd (d.1 4) (d.2 4).toNatClampNeg a2)) 6 (upd (d.1 6) (d.2 4).toNatClampNeg a1)) 7 (upd (d.1 7) (d.2 4).toNatClampNeg (a1 + 1))) 5 (upd (d.1 5) (d.2 4).toNatClampNeg a3)) 5 (upd (upd (d.1 5) (d.2 4).toNatClampNeg a3) (d.2 4).toNatClampNeg ((a3 - 97) + 1))), (va_up d.2 4 ((d.2 4) + 1))) else none
else
(if a2 = 3 then
if inb (d.2 4) 240 then
some ((va_up (va_up (va_up (va_up (va_up d.1 4 (upd (d.1 4) (d.2 4).toNatClampNeg a2)) 6 (upd (d.1 6) (d.2 4).toNatClampNeg a1)) 7 (upd (d.1 7) (d.2 4).toNatClampNeg (a1 + 1))) 5 (upd (d.1 5) (d.2 4).toNatClampNeg a3)) 5 (upd (upd (d.1 5) (d.2 4).toNatClampNeg a3) (d.2 4).toNatClampNeg (a3 - 48))), (va_up d.2 4 ((d.2 4) + 1))) else none
else
some ((va_up (va_up (va_up (va_up d.1 4 (upd (d.1 4) (d.2 4).toNatClampNeg a2)) 6 (upd (d.1 6) (d.2 4).toNatClampNeg a1)) 7 (upd (d.1 7) (d.2 4).toNatClampNeg (a1 + 1))) 5 (upd (d.1 5) (d.2 4).toNatClampNeg a3)), (va_up d.2 4 ((d.2 4) + 1))))) else none else none else none else none
def f_To_groupOf (a0 : Int32)  : Option Int32 :=
(if a0 = 32 then
some 0
else
(if a0 < 97 then
(if a0 < 48 then
none
else
(if 57 < a0 then
none
else
some 3))
else
(if 122 < a0 then
(if a0 < 48 then
none
else
(if 57 < a0 then
none
else
some 3))
else
some 2)))
def f_To_lengthen (a1 : Int32) (d : DS) : Option DS :=
if inb ((d.2 4) - 1) 240 then
if inb ((d.2 4) - 1) 240 then
bindv ((d.1 7 ((d.2 4) - 1).toNatClampNeg) - (d.1 6 ((d.2 4) - 1).toNatClampNeg)) fun v3 =>
if inb ((d.2 4) - 1) 240 then
(if (d.1 4 ((d.2 4) - 1).toNatClampNeg) = 3 then
if inb ((d.2 4) - 1) 240 then
bindv (((d.1 5 ((d.2 4) - 1).toNatClampNeg) * 10) + a1) fun v15 =>
if inb ((d.2 4) - 1) 240 then
if inb ((d.2 4) - 1) 240 then
if inb ((d.2 4) - 1) 240 then
some ((va_up (va_up d.1 5 (upd (d.1 5) ((d.2 4) - 1).toNatClampNeg (v15 - 48))) 7 (upd (d.1 7) ((d.2 4) - 1).toNatClampNeg ((d.1 7 ((d.2 4) - 1).toNatClampNeg) + 1))), d.2) else none else none else none else none
else
(if 6 ≤ v3 then
if inb ((d.2 4) - 1) 240 then
if inb ((d.2 4) - 1) 240 then
some ((va_up d.1 7 (upd (d.1 7) ((d.2 4) - 1).toNatClampNeg ((d.1 7 ((d.2 4) - 1).toNatClampNeg) + 1))), d.2) else none else none
else
if inb ((d.2 4) - 1) 240 then
bindv ((d.1 5 ((d.2 4) - 1).toNatClampNeg) ||| (((a1 - 97) + 1) <<< ((5 * v3) &&& 31))) fun v10 =>
if inb ((d.2 4) - 1) 240 then
if inb ((d.2 4) - 1) 240 then
if inb ((d.2 4) - 1) 240 then
some ((va_up (va_up d.1 5 (upd (d.1 5) ((d.2 4) - 1).toNatClampNeg v10)) 7 (upd (d.1 7) ((d.2 4) - 1).toNatClampNeg ((d.1 7 ((d.2 4) - 1).toNatClampNeg) + 1))), d.2) else none else none else none else none)) else none else none else none
def BX_keyword_2 (k2 : Int32 × Int32 → Option Int32) (x : Int32 × Int32) : Option Int32 :=
(if 6 ≤ x.2 then
some (-1)
else
if inb x.2 7 then
(if (tabW x.2.toNatClampNeg) = x.1 then
some x.2
else
k2 (x.1, x.2 + 1)) else none)
def f_X_keyword (a0 : Int32)  : Option Int32 :=
lpN (BX_keyword_2) 100000 (a0, 0)
def f_To_settleKind (a1 : Int32) (d : DS) : Option DS :=
if inb a1 240 then
if inb a1 240 then
bindv ((d.1 7 a1.toNatClampNeg) - (d.1 6 a1.toNatClampNeg)) fun v3 =>
if inb a1 240 then
(if (d.1 4 a1.toNatClampNeg) = 3 then
(if 4 < v3 then
if inb a1 240 then
some ((va_up d.1 4 (upd (d.1 4) a1.toNatClampNeg 5)), d.2) else none
else
if inb a1 240 then
(if (d.1 4 a1.toNatClampNeg) = 2 then
(if v3 ≤ 6 then
if inb a1 240 then
(if (d.1 4 a1.toNatClampNeg) = 2 then
if inb a1 240 then
(f_X_keyword (d.1 5 a1.toNatClampNeg)).bind fun q45 =>
(if q45 = (-1) then
some d
else
if inb a1 240 then
if inb a1 240 then
(f_X_keyword (d.1 5 a1.toNatClampNeg)).bind fun q49 =>
if inb a1 240 then
some ((va_up (va_up d.1 4 (upd (d.1 4) a1.toNatClampNeg 1)) 5 (upd (d.1 5) a1.toNatClampNeg q49)), d.2) else none else none else none) else none
else
some d) else none
else
if inb a1 240 then
some ((va_up d.1 4 (upd (d.1 4) a1.toNatClampNeg 5)), d.2) else none)
else
if inb a1 240 then
(if (d.1 4 a1.toNatClampNeg) = 2 then
if inb a1 240 then
(f_X_keyword (d.1 5 a1.toNatClampNeg)).bind fun q35 =>
(if q35 = (-1) then
some d
else
if inb a1 240 then
if inb a1 240 then
(f_X_keyword (d.1 5 a1.toNatClampNeg)).bind fun q39 =>
if inb a1 240 then
some ((va_up (va_up d.1 4 (upd (d.1 4) a1.toNatClampNeg 1)) 5 (upd (d.1 5) a1.toNatClampNeg q39)), d.2) else none else none else none) else none
else
some d) else none) else none)
else
if inb a1 240 then
(if (d.1 4 a1.toNatClampNeg) = 2 then
(if v3 ≤ 6 then
if inb a1 240 then
(if (d.1 4 a1.toNatClampNeg) = 2 then
if inb a1 240 then
(f_X_keyword (d.1 5 a1.toNatClampNeg)).bind fun q21 =>
(if q21 = (-1) then
some d
else
if inb a1 240 then
if inb a1 240 then
(f_X_keyword (d.1 5 a1.toNatClampNeg)).bind fun q25 =>
if inb a1 240 then
some ((va_up (va_up d.1 4 (upd (d.1 4) a1.toNatClampNeg 1)) 5 (upd (d.1 5) a1.toNatClampNeg q25)), d.2) else none else none else none) else none
else
some d) else none
else
if inb a1 240 then
some ((va_up d.1 4 (upd (d.1 4) a1.toNatClampNeg 5)), d.2) else none)
else
if inb a1 240 then
(if (d.1 4 a1.toNatClampNeg) = 2 then
if inb a1 240 then
(f_X_keyword (d.1 5 a1.toNatClampNeg)).bind fun q11 =>
(if q11 = (-1) then
some d
else
if inb a1 240 then
if inb a1 240 then
(f_X_keyword (d.1 5 a1.toNatClampNeg)).bind fun q15 =>
if inb a1 240 then
some ((va_up (va_up d.1 4 (upd (d.1 4) a1.toNatClampNeg 1)) 5 (upd (d.1 5) a1.toNatClampNeg q15)), d.2) else none else none else none) else none
else
some d) else none) else none) else none else none else none
def BTo_readFrom_84 (k84 : Int32 × Int32 × DS → Option DS) (x : Int32 × Int32 × DS) : Option DS :=
(if (x.2.2.2 4) ≤ x.2.1 then
some x.2.2
else
(f_To_settleKind x.2.1 x.2.2).bind fun q3 =>
k84 (x.1, x.2.1 + 1, q3))
def BTo_readFrom_9 (k9 : Int32 × Int32 × DS → Option DS) (x : Int32 × Int32 × DS) : Option DS :=
(if (x.2.2.2 3) ≤ x.2.1 then
lpN (BTo_readFrom_84) 100000 (x.1, 0, x.2.2)
else
if inb x.2.1 240 then
(f_To_groupOf (x.2.2.1 2 x.2.1.toNatClampNeg)).bind fun q5 =>
(if q5 = x.1 then
(if q5 = 2 then
(f_To_lengthen (x.2.2.1 2 x.2.1.toNatClampNeg) x.2.2).bind fun q10 =>
k9 (q5, x.2.1 + 1, q10)
else
(if q5 = 3 then
(f_To_lengthen (x.2.2.1 2 x.2.1.toNatClampNeg) x.2.2).bind fun q14 =>
k9 (q5, x.2.1 + 1, q14)
else
(if q5 = 0 then
k9 (q5, x.2.1 + 1, x.2.2)
else
(f_To_begin x.2.1 q5 (x.2.2.1 2 x.2.1.toNatClampNeg) x.2.2).bind fun q13 =>
k9 (q5, x.2.1 + 1, q13))))
else
(if q5 = 0 then
k9 (q5, x.2.1 + 1, x.2.2)
else
(f_To_begin x.2.1 q5 (x.2.2.1 2 x.2.1.toNatClampNeg) x.2.2).bind fun q8 =>
k9 (q5, x.2.1 + 1, q8))) else none)
def f_To_readFrom  (d : DS) : Option DS :=
lpN (BTo_readFrom_9) 100000 (0, 0, (d.1, (va_up d.2 4 0)))
def BDr_refresh_122 (k122 : Int32 × DS → Option DS) (x : Int32 × DS) : Option DS :=
(if (x.2.2 0) ≤ x.1 then
some x.2
else
(f_Dr_judgePart x.1 x.2).bind fun q7 =>
k122 (x.1 + 1, q7))
def BDr_refresh_53 (k53 : Int32 × DS → Option DS) (x : Int32 × DS) : Option DS :=
(if (x.2.2 0) ≤ x.1 then
lpN (BDr_refresh_122) 100000 (0, (x.2.1, (va_up x.2.2 1 0)))
else
if inb x.1 5 then
if inb (x.1 + 1) 5 then
(f_Gr_readFunction (x.2.1 27 x.1.toNatClampNeg) (x.2.1 27 (x.1 + 1).toNatClampNeg) x.2).bind fun q10 =>
(if q10.1 = 0 then
if inb (x.1 + 1) 5 then
(f_Dr_brokenPlace (q10.2.1 27 (x.1 + 1).toNatClampNeg) q10.2).bind fun q13 =>
if inb x.1 4 then
k53 (x.1 + 1, ((va_up q13.2.1 28 (upd (q13.2.1 28) x.1.toNatClampNeg q13.1)), q13.2.2)) else none else none
else
if inb x.1 4 then
k53 (x.1 + 1, ((va_up q10.2.1 28 (upd (q10.2.1 28) x.1.toNatClampNeg (-1))), q10.2.2)) else none) else none else none)
def f_Dr_refresh  (d : DS) : Option DS :=
(if (d.2 2) = 0 then
(f_To_readFrom (d.1, (va_up d.2 2 1))).bind fun q2 =>
(f_Na_clear q2).bind fun q3 =>
(f_Dr_splitParts (q3.1, (va_up (va_up q3.2 5 0) 6 0))).bind fun q4 =>
lpN (BDr_refresh_53) 100000 (0, q4)
else
some d)
def f_X_tokens  (k : DS) (d : DS) (b : DS) : Option (Int32 × DS × DS × DS) :=
(f_Dr_refresh d).bind fun q1 =>
some (q1.2 4, k, q1, b)
def f_X_token (a1 : Int32) (a2 : Int32) (k : DS) (d : DS) (b : DS) : Option (Nat × Int32 × DS × DS × DS) :=
(if a2 < 0 then
some (1, 0, k, d, b)
else
(if a2 ≤ 3 then
(f_Dr_refresh d).bind fun q3 =>
(if a1 < 0 then
some (4, 0, k, q3, b)
else
(if a1 < (q3.2 4) then
(if a2 = 0 then
if inb a1 240 then
some (0, q3.1 4 a1.toNatClampNeg, k, q3, b) else none
else
(if a2 = 1 then
if inb a1 240 then
some (0, q3.1 6 a1.toNatClampNeg, k, q3, b) else none
else
(if a2 = 2 then
if inb a1 240 then
some (0, q3.1 7 a1.toNatClampNeg, k, q3, b) else none
else
if inb a1 240 then
some (0, q3.1 14 a1.toNatClampNeg, k, q3, b) else none)))
else
some (4, 0, k, q3, b)))
else
some (1, 0, k, d, b)))
def f_X_faults  (k : DS) (d : DS) (b : DS) : Option (Int32 × DS × DS × DS) :=
(f_Dr_refresh d).bind fun q1 =>
some (q1.2 1, k, q1, b)
def f_X_fault (a1 : Int32) (k : DS) (d : DS) (b : DS) : Option (Nat × Int32 × DS × DS × DS) :=
(f_Dr_refresh d).bind fun q1 =>
(if a1 < 0 then
some (4, 0, k, q1, b)
else
(if a1 < (q1.2 1) then
if inb a1 244 then
some (0, q1.1 29 a1.toNatClampNeg, k, q1, b) else none
else
some (4, 0, k, q1, b)))
def BTo_at_2 (k2 : Int32 × Int32 × DS → Option (Int32 × DS)) (x : Int32 × Int32 × DS) : Option (Int32 × DS) :=
(if (x.2.2.2 4) ≤ x.2.1 then
some ((-1), x.2.2)
else
if inb x.2.1 240 then
(if x.1 < (x.2.2.1 6 x.2.1.toNatClampNeg) then
k2 (x.1, x.2.1 + 1, x.2.2)
else
if inb x.2.1 240 then
(if (x.2.2.1 7 x.2.1.toNatClampNeg) ≤ x.1 then
k2 (x.1, x.2.1 + 1, x.2.2)
else
some (x.2.1, x.2.2)) else none) else none)
def f_To_at (a1 : Int32) (d : DS) : Option (Int32 × DS) :=
lpN (BTo_at_2) 100000 (a1, 0, d)
def f_Dr_declarationAt (a1 : Int32) (d : DS) : Option (Int32 × DS) :=
(f_To_at a1 d).bind fun q1 =>
(if q1.1 = (-1) then
some ((-1), q1.2)
else
if inb q1.1 240 then
some (q1.2.1 14 q1.1.toNatClampNeg, q1.2) else none)
def BX_reference_39 (k39 : Int32 × Int32 × Int32 × Int32 × Int32 × DS × DS × DS → Option (Nat × Int32 × DS × DS × DS)) (x : Int32 × Int32 × Int32 × Int32 × Int32 × DS × DS × DS) : Option (Nat × Int32 × DS × DS × DS) :=
(if (x.2.2.2.2.2.2.1.2 4) ≤ x.2.2.2.2.1 then
some (0, (-1), x.2.2.2.2.2.1, x.2.2.2.2.2.2.1, x.2.2.2.2.2.2.2)
else
if inb x.2.2.2.2.1 240 then
bindv (x.2.2.2.2.2.2.1.1 14 x.2.2.2.2.1.toNatClampNeg) fun v7 =>
(if v7 = x.2.2.1 then
(if x.2.2.2.1 = x.2.1 then
if inb x.2.2.2.2.1 240 then
bindv (x.2.2.2.2.2.2.1.1 6 x.2.2.2.2.1.toNatClampNeg) fun v11 =>
some (0, v11, x.2.2.2.2.2.1, x.2.2.2.2.2.2.1, x.2.2.2.2.2.2.2) else none
else
k39 (x.1, x.2.1, x.2.2.1, x.2.2.2.1 + 1, x.2.2.2.2.1 + 1, x.2.2.2.2.2.1, x.2.2.2.2.2.2.1, x.2.2.2.2.2.2.2))
else
k39 (x.1, x.2.1, x.2.2.1, x.2.2.2.1, x.2.2.2.2.1 + 1, x.2.2.2.2.2.1, x.2.2.2.2.2.2.1, x.2.2.2.2.2.2.2)) else none)
def f_X_reference (a1 : Int32) (a2 : Int32) (k : DS) (d : DS) (b : DS) : Option (Nat × Int32 × DS × DS × DS) :=
(f_Dr_refresh d).bind fun q1 =>
(f_Dr_declarationAt a1 q1).bind fun q2 =>
(if q2.1 = (-1) then
some (4, 0, k, q2.2, b)
else
(if 0 ≤ a2 then
lpN (BX_reference_39) 100000 (a1, a2, q2.1, 0, 0, k, q2.2, b)
else
some (4, 0, k, q2.2, b)))
def BX_isName_19 (k19 : Int64 × Int32 → Option Int32) (x : Int64 × Int32) : Option Int32 :=
(if x.2 ≤ 0 then
(f_X_keyword x.1.toInt32).bind fun q4 =>
(if q4 = (-1) then
some 1
else
some 0)
else
(if (x.2 &&& 31) < 1 then
some 0
else
(if (x.2 &&& 31) ≤ 26 then
k19 (x.1, x.2 >>> (5 &&& 31))
else
some 0)))
def f_X_isName (a0 : Int64)  : Option Int32 :=
(if (lg_cmp a0 0) ≤ 0 then
some 0
else
(if (lg_cmp a0 1073741824) < 0 then
lpN (BX_isName_19) 100000 (a0, a0.toInt32)
else
some 0))
def BTe_addPiece_3 (k3 : Int32 × Int32 × Int32 × DS × DS → Option (DS × DS)) (x : Int32 × Int32 × Int32 × DS × DS) : Option (DS × DS) :=
(if x.2.1 ≤ x.2.2.1 then
some (x.2.2.2.1, x.2.2.2.2)
else
if inb x.2.2.1 240 then
(f_Te_add (x.2.2.2.2.1 2 x.2.2.1.toNatClampNeg) x.2.2.2.1).bind fun q3 =>
k3 (x.1, x.2.1, x.2.2.1 + 1, q3, x.2.2.2.2) else none)
def f_Te_addPiece (a2 : Int32) (a3 : Int32) (d : DS) (b : DS) : Option (DS × DS) :=
lpN (BTe_addPiece_3) 100000 (a2, a3, a2, d, b)
def BDr_copyRenamed_19 (k19 : Int32 × Int32 × Int32 × Int32 × DS × DS → Option (DS × DS)) (x : Int32 × Int32 × Int32 × Int32 × DS × DS) : Option (DS × DS) :=
(if (x.2.2.2.2.2.2 4) ≤ x.2.2.2.1 then
(f_Te_addPiece x.2.2.1 (x.2.2.2.2.2.2 3) x.2.2.2.2.1 x.2.2.2.2.2).bind fun q2 =>
some (q2.1, q2.2)
else
if inb x.2.2.2.1 240 then
(if (x.2.2.2.2.2.1 14 x.2.2.2.1.toNatClampNeg) = x.1 then
if inb x.2.2.2.1 240 then
(f_Te_addPiece x.2.2.1 (x.2.2.2.2.2.1 6 x.2.2.2.1.toNatClampNeg) x.2.2.2.2.1 x.2.2.2.2.2).bind fun q6 =>
(f_Te_addName x.2.1 q6.1).bind fun q7 =>
if inb x.2.2.2.1 240 then
k19 (x.1, x.2.1, q6.2.1 7 x.2.2.2.1.toNatClampNeg, x.2.2.2.1 + 1, q7, q6.2) else none else none
else
k19 (x.1, x.2.1, x.2.2.1, x.2.2.2.1 + 1, x.2.2.2.2.1, x.2.2.2.2.2)) else none)
def f_Dr_copyRenamed (a2 : Int32) (a3 : Int32) (d : DS) (b : DS) : Option (DS × DS) :=
lpN (BDr_copyRenamed_19) 100000 (a2, a3, 0, 0, (d.1, (va_up (va_up d.2 2 0) 3 0)), b)
def BDr_meansTheSameAs_2 (k2 : Int32 × DS × DS → Option (Int32 × DS × DS)) (x : Int32 × DS × DS) : Option (Int32 × DS × DS) :=
(if (x.2.1.2 4) ≤ x.1 then
(f_Fn_find (tabW 6) x.2.1).bind fun q3 =>
(f_Fn_find (tabW 6) x.2.2).bind fun q5 =>
(if q3.1 = q5.1 then
some (1, q3.2, q5.2)
else
some (0, q3.2, q5.2))
else
if inb x.1 240 then
if inb x.1 240 then
(if (x.2.1.1 14 x.1.toNatClampNeg) = (x.2.2.1 14 x.1.toNatClampNeg) then
k2 (x.1 + 1, x.2.1, x.2.2)
else
some (0, x.2.1, x.2.2)) else none else none)
def f_Dr_meansTheSameAs  (d : DS) (b : DS) : Option (Int32 × DS × DS) :=
lpN (BDr_meansTheSameAs_2) 100000 (0, d, b)
def BDr_referencesOf_4 (k4 : Int32 × Int32 × Int32 × DS → Option (Int32 × DS)) (x : Int32 × Int32 × Int32 × DS) : Option (Int32 × DS) :=
(if (x.2.2.2.2 4) ≤ x.2.2.1 then
some (x.2.1, x.2.2.2)
else
if inb x.2.2.1 240 then
(if (x.2.2.2.1 14 x.2.2.1.toNatClampNeg) = x.1 then
k4 (x.1, x.2.1 + 1, x.2.2.1 + 1, x.2.2.2)
else
k4 (x.1, x.2.1, x.2.2.1 + 1, x.2.2.2)) else none)
def f_Dr_referencesOf (a1 : Int32) (d : DS) : Option (Int32 × DS) :=
lpN (BDr_referencesOf_4) 100000 (a1, 0, 0, d)
def f_X_rename (a1 : Int32) (a2 : Int64) (k : DS) (d : DS) (b : DS) : Option (Nat × Int32 × DS × DS × DS) :=
(f_X_isName a2).bind fun q1 =>
(if q1 = 0 then
some (1, 0, k, d, b)
else
(f_Dr_refresh d).bind fun q3 =>
(if (q3.2 1) ≤ 0 then
(f_Dr_declarationAt a1 q3).bind fun q5 =>
(if q5.1 = (-1) then
some (4, 0, k, q5.2, b)
else
(f_Dr_referencesOf q5.1 q5.2).bind fun q7 =>
(f_X_lettersIn a2.toInt32).bind fun q8 =>
if inb q5.1 240 then
(f_X_lettersIn (q7.2.1 5 q5.1.toNatClampNeg)).bind fun q10 =>
(if ((q7.2.2 3) + (q7.1 * (q8 - q10))) ≤ 240 then
(f_Dr_copyRenamed q5.1 a2.toInt32 b q7.2).bind fun q12 =>
(f_Dr_refresh q12.1).bind fun q13 =>
(if 0 < (q13.2 1) then
some (5, 0, k, q12.2, q13)
else
(f_Dr_meansTheSameAs q13 q12.2).bind fun q15 =>
(if q15.1 = 0 then
some (5, 0, k, q15.2.2, q15.2.1)
else
some (0, q7.1, k, q15.2.1, q15.2.2)))
else
some (3, 0, k, q7.2, b)) else none)
else
some (3, 0, k, q3, b)))
def f_Na_firstOfExpression (a1 : Int32) (d : DS) : Option (Int32 × DS) :=
some (a1 + 2, d)
def f_Na_semicolonOf (a1 : Int32) (d : DS) : Option (Int32 × DS) :=
if inb a1 240 then
some ((d.1 17 a1.toNatClampNeg) - 1, d) else none
def BDr_copyInlined_90 (k90 : Int32 × Int32 × Int32 × Int32 × Int32 × Int32 × DS × DS → Option (DS × DS)) (x : Int32 × Int32 × Int32 × Int32 × Int32 × Int32 × DS × DS) : Option (DS × DS) :=
(if (x.2.2.2.2.2.2.2.2 4) ≤ x.2.2.2.2.2.1 then
(f_Te_addPiece x.2.2.2.2.1 (x.2.2.2.2.2.2.2.2 3) x.2.2.2.2.2.2.1 x.2.2.2.2.2.2.2).bind fun q9 =>
some (q9.1, q9.2)
else
if inb x.2.2.2.2.2.1 240 then
bindv (x.2.2.2.2.2.2.2.1 14 x.2.2.2.2.2.1.toNatClampNeg) fun v11 =>
(if v11 = x.1 then
if inb x.2.2.2.2.2.1 240 then
bindv (x.2.2.2.2.2.2.2.1 6 x.2.2.2.2.2.1.toNatClampNeg) fun v14 =>
(f_Te_addPiece x.2.2.2.2.1 v14 x.2.2.2.2.2.2.1 x.2.2.2.2.2.2.2).bind fun q15 =>
(f_Te_add 40 q15.1).bind fun q16 =>
(f_Te_addPiece x.2.2.1 x.2.2.2.1 q16 q15.2).bind fun q17 =>
(f_Te_add 41 q17.1).bind fun q18 =>
if inb x.2.2.2.2.2.1 240 then
k90 (x.1, x.2.1, x.2.2.1, x.2.2.2.1, q17.2.1 7 x.2.2.2.2.2.1.toNatClampNeg, x.2.2.2.2.2.1 + 1, q18, q17.2) else none else none
else
k90 (x.1, x.2.1, x.2.2.1, x.2.2.2.1, x.2.2.2.2.1, x.2.2.2.2.2.1 + 1, x.2.2.2.2.2.2.1, x.2.2.2.2.2.2.2)) else none)
def f_Dr_copyInlined (a2 : Int32) (d : DS) (b : DS) : Option (DS × DS) :=
(f_Na_semicolonOf a2 b).bind fun q1 =>
(f_Na_firstOfExpression a2 q1.2).bind fun q2 =>
if inb q2.1 240 then
if inb (q1.1 - 1) 240 then
if inb (a2 - 1) 240 then
(f_Te_addPiece 0 (q2.2.1 6 (a2 - 1).toNatClampNeg) (d.1, (va_up (va_up d.2 2 0) 3 0)) q2.2).bind fun q6 =>
if inb q1.1 240 then
lpN (BDr_copyInlined_90) 100000 (a2, q1.1, q2.2.1 6 q2.1.toNatClampNeg, q2.2.1 7 (q1.1 - 1).toNatClampNeg, q6.2.1 7 q1.1.toNatClampNeg, q1.1, q6.1, q6.2) else none else none else none else none
def f_Dr_sizeInlined (a1 : Int32) (a2 : Int32) (d : DS) : Option (Int32 × DS) :=
(f_Na_semicolonOf a1 d).bind fun q1 =>
if inb q1.1 240 then
if inb (a1 - 1) 240 then
bindv ((q1.2.1 7 q1.1.toNatClampNeg) - (q1.2.1 6 (a1 - 1).toNatClampNeg)) fun v4 =>
if inb (q1.1 - 1) 240 then
(f_Na_firstOfExpression a1 q1.2).bind fun q6 =>
if inb q6.1 240 then
bindv ((q1.2.1 7 (q1.1 - 1).toNatClampNeg) - (q6.2.1 6 q6.1.toNatClampNeg)) fun v8 =>
if inb a1 240 then
if inb a1 240 then
bindv ((q6.2.1 7 a1.toNatClampNeg) - (q6.2.1 6 a1.toNatClampNeg)) fun v11 =>
bindv (((q6.2.2 3) - v4) + (a2 * ((v8 + 2) - v11))) fun v12 =>
some (v12, q6.2) else none else none else none else none else none else none
def BNa_hasCall_6 (k6 : Int32 × Int32 × DS → Option (Int32 × DS)) (x : Int32 × Int32 × DS) : Option (Int32 × DS) :=
(f_Na_semicolonOf x.1 x.2.2).bind fun q2 =>
(if q2.1 ≤ x.2.1 then
some (0, q2.2)
else
if inb x.2.1 240 then
(if (q2.2.1 13 x.2.1.toNatClampNeg) = 6 then
some (1, q2.2)
else
k6 (x.1, x.2.1 + 1, q2.2)) else none)
def f_Na_hasCall (a1 : Int32) (d : DS) : Option (Int32 × DS) :=
(f_Na_firstOfExpression a1 d).bind fun q1 =>
lpN (BNa_hasCall_6) 100000 (a1, q1.1, q1.2)
def BNa_standsOn_6 (k6 : Int32 × Int32 × Int32 × DS → Option (Int32 × DS)) (x : Int32 × Int32 × Int32 × DS) : Option (Int32 × DS) :=
(f_Na_semicolonOf x.1 x.2.2.2).bind fun q2 =>
(if q2.1 ≤ x.2.2.1 then
some (0, q2.2)
else
if inb x.2.2.1 240 then
(if (q2.2.1 14 x.2.2.1.toNatClampNeg) = x.2.1 then
some (1, q2.2)
else
k6 (x.1, x.2.1, x.2.2.1 + 1, q2.2)) else none)
def f_Na_standsOn (a1 : Int32) (a2 : Int32) (d : DS) : Option (Int32 × DS) :=
(f_Na_firstOfExpression a1 d).bind fun q1 =>
lpN (BNa_standsOn_6) 100000 (a1, a2, q1.1, q1.2)
def BNa_isOvertaken_7 (k7 : Int32 × Int32 × DS → Option (Int32 × DS)) (x : Int32 × Int32 × DS) : Option (Int32 × DS) :=
if inb x.1 240 then
if inb (x.2.2.1 16 x.1.toNatClampNeg) 240 then
bindv (x.2.2.1 18 (x.2.2.1 16 x.1.toNatClampNeg).toNatClampNeg) fun v4 =>
(if v4 ≤ x.2.1 then
some (0, x.2.2)
else
if inb x.2.1 240 then
(if (x.2.2.1 13 x.2.1.toNatClampNeg) = 5 then
if inb x.2.1 240 then
(if (x.2.2.1 14 x.2.1.toNatClampNeg) = x.1 then
some (1, x.2.2)
else
if inb x.2.1 240 then
(f_Na_standsOn x.1 (x.2.2.1 14 x.2.1.toNatClampNeg) x.2.2).bind fun q11 =>
(if q11.1 = 0 then
k7 (x.1, x.2.1 + 1, q11.2)
else
some (1, q11.2)) else none) else none
else
k7 (x.1, x.2.1 + 1, x.2.2)) else none) else none else none
def f_Na_isOvertaken (a1 : Int32) (d : DS) : Option (Int32 × DS) :=
if inb a1 240 then
lpN (BNa_isOvertaken_7) 100000 (a1, d.1 17 a1.toNatClampNeg, d) else none
def BNa_keepsMeaningAt_6 (k6 : Int32 × Int32 × Int32 × DS → Option (Int32 × DS)) (x : Int32 × Int32 × Int32 × DS) : Option (Int32 × DS) :=
(f_Na_semicolonOf x.1 x.2.2.2).bind fun q2 =>
(if q2.1 ≤ x.2.2.1 then
some (1, q2.2)
else
if inb x.2.2.1 240 then
(if (q2.2.1 13 x.2.2.1.toNatClampNeg) = 4 then
if inb x.2.2.1 240 then
(f_Na_meaning x.2.1 (q2.2.1 5 x.2.2.1.toNatClampNeg) q2.2).bind fun q7 =>
if inb x.2.2.1 240 then
(if q7.1 = (q7.2.1 14 x.2.2.1.toNatClampNeg) then
k6 (x.1, x.2.1, x.2.2.1 + 1, q7.2)
else
some (0, q7.2)) else none else none
else
k6 (x.1, x.2.1, x.2.2.1 + 1, q2.2)) else none)
def f_Na_keepsMeaningAt (a1 : Int32) (a2 : Int32) (d : DS) : Option (Int32 × DS) :=
(f_Na_firstOfExpression a1 d).bind fun q1 =>
lpN (BNa_keepsMeaningAt_6) 100000 (a1, a2, q1.1, q1.2)
def BNa_losesMeaning_7 (k7 : Int32 × Int32 × DS → Option (Int32 × DS)) (x : Int32 × Int32 × DS) : Option (Int32 × DS) :=
if inb x.1 240 then
if inb (x.2.2.1 16 x.1.toNatClampNeg) 240 then
bindv (x.2.2.1 18 (x.2.2.1 16 x.1.toNatClampNeg).toNatClampNeg) fun v4 =>
(if v4 ≤ x.2.1 then
some (0, x.2.2)
else
if inb x.2.1 240 then
(if (x.2.2.1 14 x.2.1.toNatClampNeg) = x.1 then
(f_Na_keepsMeaningAt x.1 x.2.1 x.2.2).bind fun q8 =>
(if q8.1 = 0 then
some (1, q8.2)
else
k7 (x.1, x.2.1 + 1, q8.2))
else
k7 (x.1, x.2.1 + 1, x.2.2)) else none) else none else none
def f_Na_losesMeaning (a1 : Int32) (d : DS) : Option (Int32 × DS) :=
if inb a1 240 then
lpN (BNa_losesMeaning_7) 100000 (a1, d.1 17 a1.toNatClampNeg, d) else none
def f_X_inline (a1 : Int32) (k : DS) (d : DS) (b : DS) : Option (Nat × Int32 × DS × DS × DS) :=
(f_Dr_refresh d).bind fun q1 =>
(if (q1.2 1) ≤ 0 then
(f_Dr_declarationAt a1 q1).bind fun q3 =>
(if q3.1 = (-1) then
some (4, 0, k, q3.2, b)
else
if inb q3.1 240 then
(if (q3.2.1 13 q3.1.toNatClampNeg) = 3 then
(f_Na_hasCall q3.1 q3.2).bind fun q7 =>
(if q7.1 = 0 then
(f_Na_isOvertaken q3.1 q7.2).bind fun q9 =>
(if q9.1 = 0 then
(f_Na_losesMeaning q3.1 q9.2).bind fun q11 =>
(if q11.1 = 0 then
(f_Dr_referencesOf q3.1 q11.2).bind fun q13 =>
(f_Dr_sizeInlined q3.1 (q13.1 - 1) q13.2).bind fun q14 =>
(if q14.1 ≤ 240 then
(f_Dr_copyInlined q3.1 b q14.2).bind fun q16 =>
(f_Dr_refresh q16.1).bind fun q17 =>
(if (q17.2 1) ≤ 0 then
some (0, q13.1 - 1, k, q17, q16.2)
else
some (5, 0, k, q16.2, q17))
else
some (3, 0, k, q14.2, b))
else
some (5, 0, k, q11.2, b))
else
some (5, 0, k, q9.2, b))
else
some (5, 0, k, q7.2, b))
else
some (4, 0, k, q3.2, b)) else none)
else
some (3, 0, k, q1, b))
def f_Ma_countOne  (k : DS) : Option DS :=
(if (k.2 4) < 300 then
some (k.1, (va_up k.2 4 ((k.2 4) + 1)))
else
some (k.1, (va_up k.2 6 1)))
def f_Ma_pop  (k : DS) : Option (Int32 × DS) :=
(if (k.2 2) = 0 then
some (0, k)
else
if inb ((k.2 2) - 1) 960 then
some (k.1 3 ((k.2 2) - 1).toNatClampNeg, (k.1, (va_up k.2 2 ((k.2 2) - 1)))) else none)
def f_Ma_slot (a1 : Int32) (k : DS) : Option (Int32 × DS) :=
some ((((k.2 3) - 1) * 240) + a1, k)
def BMa_begin_60 (k60 : Int32 × Int32 × DS × DS → Option (DS × DS)) (x : Int32 × Int32 × DS × DS) : Option (DS × DS) :=
(if x.2.1 < 0 then
if inb x.1 4 then
some ((x.2.2.1.1, (va_up x.2.2.1.2 5 (x.2.2.2.1 11 x.1.toNatClampNeg))), x.2.2.2) else none
else
if inb x.1 4 then
bindv (((x.2.2.2.1 9 x.1.toNatClampNeg) + 2) + (2 * x.2.1)) fun v9 =>
(f_Ma_slot v9 x.2.2.1).bind fun q10 =>
(f_Ma_pop q10.2).bind fun q11 =>
if inb q10.1 1920 then
k60 (x.1, x.2.1 - 1, ((va_up q11.2.1 2 (upd (q11.2.1 2) q10.1.toNatClampNeg q11.1)), q11.2.2), x.2.2.2) else none else none)
def f_Ma_begin (a2 : Int32) (k : DS) (d : DS) : Option (DS × DS) :=
(if (k.2 3) < 8 then
(f_Ma_countOne k).bind fun q2 =>
(if (q2.2 6) = (-1) then
if inb (q2.2 3) 8 then
if inb a2 4 then
lpN (BMa_begin_60) 100000 (a2, (d.1 10 a2.toNatClampNeg) - 1, ((va_up q2.1 4 (upd (q2.1 4) (q2.2 3).toNatClampNeg (q2.2 5))), (va_up q2.2 3 ((q2.2 3) + 1))), d) else none else none
else
some (q2, d))
else
some ((k.1, (va_up k.2 6 2)), d))
def f_Ma_push (a1 : Int32) (k : DS) : Option DS :=
(if 960 ≤ (k.2 2) then
some k
else
if inb (k.2 2) 960 then
some ((va_up k.1 3 (upd (k.1 3) (k.2 2).toNatClampNeg a1)), (va_up k.2 2 ((k.2 2) + 1))) else none)
def f_Ma_combine (a1 : Int32) (k : DS) : Option DS :=
(f_Ma_pop k).bind fun q1 =>
(f_Ma_pop q1.2).bind fun q2 =>
(if a1 = 42 then
(f_Ma_push (q2.1 * q1.1) q2.2).bind fun q4 =>
some q4
else
(if a1 = 43 then
(f_Ma_push (q2.1 + q1.1) q2.2).bind fun q6 =>
some q6
else
(if a1 = 44 then
(if q1.1 ≤ q2.1 then
(f_Ma_push 0 q2.2).bind fun q9 =>
some q9
else
(f_Ma_push 1 q2.2).bind fun q10 =>
some q10)
else
(if a1 = 45 then
(f_Ma_push (q2.1 - q1.1) q2.2).bind fun q12 =>
some q12
else
(if q1.1 ≤ q2.1 then
(f_Ma_push 0 q2.2).bind fun q14 =>
some q14
else
(f_Ma_push 1 q2.2).bind fun q15 =>
some q15)))))
def f_Ma_end (a1 : Int32) (k : DS) : Option DS :=
(if ((k.2 3) - 1) = 0 then
some (k.1, (va_up (va_up (va_up k.2 3 ((k.2 3) - 1)) 1 a1) 6 0))
else
if inb ((k.2 3) - 1) 8 then
(f_Ma_push a1 (k.1, (va_up (va_up k.2 3 ((k.2 3) - 1)) 5 (k.1 4 ((k.2 3) - 1).toNatClampNeg)))).bind fun q3 =>
some q3 else none)
def f_Ma_keep (a1 : Int32) (k : DS) : Option DS :=
(if 32 ≤ (k.2 0) then
some (k.1, (va_up k.2 0 ((k.2 0) + 1)))
else
if inb (k.2 0) 32 then
some ((va_up k.1 1 (upd (k.1 1) (k.2 0).toNatClampNeg a1)), (va_up k.2 0 ((k.2 0) + 1))) else none)
def f_Ma_advance (a2 : Int32) (a3 : Int32) (k : DS) (d : DS) : Option (DS × DS) :=
(if a2 = 0 then
(f_Ma_push a3 (k.1, (va_up k.2 5 ((k.2 5) + 1)))).bind fun q2 =>
some (q2, d)
else
(if a2 = 1 then
if inb a3 240 then
(f_Ma_slot (d.1 14 a3.toNatClampNeg) (k.1, (va_up k.2 5 ((k.2 5) + 1)))).bind fun q5 =>
if inb q5.1 1920 then
(f_Ma_push (q5.2.1 2 q5.1.toNatClampNeg) q5.2).bind fun q7 =>
some (q7, d) else none else none
else
(if a2 = 2 then
if inb a3 240 then
(f_Ma_slot (d.1 14 a3.toNatClampNeg) (k.1, (va_up k.2 5 ((k.2 5) + 1)))).bind fun q10 =>
(f_Ma_pop q10.2).bind fun q11 =>
if inb q10.1 1920 then
some (((va_up q11.2.1 2 (upd (q11.2.1 2) q10.1.toNatClampNeg q11.1)), q11.2.2), d) else none else none
else
(if a2 = 3 then
if inb a3 240 then
(f_Fn_find (d.1 5 a3.toNatClampNeg) d).bind fun q15 =>
(f_Ma_begin q15.1 (k.1, (va_up k.2 5 ((k.2 5) + 1))) q15.2).bind fun q16 =>
some (q16.1, q16.2) else none
else
(if a2 = 4 then
(f_Ma_pop (k.1, (va_up k.2 5 ((k.2 5) + 1)))).bind fun q18 =>
(if q18.1 = 0 then
some ((q18.2.1, (va_up q18.2.2 5 a3)), d)
else
some (q18.2, d))
else
(if a2 = 5 then
(f_Ma_countOne (k.1, (va_up k.2 5 ((k.2 5) + 1)))).bind fun q21 =>
some (q21, d)
else
(if a2 = 6 then
some ((k.1, (va_up (va_up k.2 5 ((k.2 5) + 1)) 5 a3)), d)
else
(if a2 = 7 then
(f_Ma_pop (k.1, (va_up k.2 5 ((k.2 5) + 1)))).bind fun q24 =>
(f_Ma_keep q24.1 q24.2).bind fun q25 =>
some (q25, d)
else
(if a2 = 8 then
(f_Ma_pop (k.1, (va_up k.2 5 ((k.2 5) + 1)))).bind fun q27 =>
(f_Ma_end q27.1 q27.2).bind fun q28 =>
some (q28, d)
else
(f_Ma_combine a2 (k.1, (va_up k.2 5 ((k.2 5) + 1)))).bind fun q29 =>
some (q29, d))))))))))
def BMa_perform_79 (k79 : Int32 × Int32 × Int32 × DS × DS → Option (Int32 × DS × DS)) (x : Int32 × Int32 × Int32 × DS × DS) : Option (Int32 × DS × DS) :=
(if 1000000 ≤ x.2.2.1 then
some (x.2.2.2.1.2 6, x.2.2.2.1, x.2.2.2.2)
else
(if (x.2.2.2.1.2 6) = (-1) then
(if (x.2.2.2.2.2 6) ≤ (x.2.2.2.1.2 5) then
some (x.2.2.2.1.2 6, x.2.2.2.1, x.2.2.2.2)
else
if inb (x.2.2.2.1.2 5) 240 then
bindv (x.2.2.2.2.1 21 (x.2.2.2.1.2 5).toNatClampNeg) fun v8 =>
if inb (x.2.2.2.1.2 5) 240 then
bindv (x.2.2.2.2.1 22 (x.2.2.2.1.2 5).toNatClampNeg) fun v10 =>
(f_Ma_advance v8 v10 x.2.2.2.1 x.2.2.2.2).bind fun q11 =>
k79 (x.1, x.2.1, x.2.2.1 + 1, q11.1, q11.2) else none else none)
else
some (x.2.2.2.1.2 6, x.2.2.2.1, x.2.2.2.2)))
def BMa_perform_33 (k33 : Int32 × Int32 × Int32 × DS × DS → Option (Int32 × DS × DS)) (x : Int32 × Int32 × Int32 × DS × DS) : Option (Int32 × DS × DS) :=
if inb x.1 4 then
(if (x.2.2.2.2.1 10 x.1.toNatClampNeg) ≤ x.2.2.1 then
(f_Ma_begin x.1 x.2.2.2.1 x.2.2.2.2).bind fun q3 =>
lpN (BMa_perform_79) 100000 (x.1, x.2.1, 0, q3.1, q3.2)
else
(if x.2.2.1 = 0 then
(f_Ma_push x.2.1 x.2.2.2.1).bind fun q14 =>
k33 (x.1, x.2.1, x.2.2.1 + 1, q14, x.2.2.2.2)
else
(f_Ma_push 0 x.2.2.2.1).bind fun q13 =>
k33 (x.1, x.2.1, x.2.2.1 + 1, q13, x.2.2.2.2))) else none
def f_Ma_perform (a2 : Int32) (a3 : Int32) (k : DS) (d : DS) : Option (Int32 × DS × DS) :=
lpN (BMa_perform_33) 100000 (a2, a3, 0, (k.1, (va_up (va_up (va_up (va_up (va_up (va_up k.2 0 0) 1 0) 2 0) 3 0) 4 0) 6 (-1))), d)
def f_X_run (a1 : Int32) (k : DS) (d : DS) (b : DS) : Option (Nat × Int32 × DS × DS × DS) :=
(f_Dr_refresh d).bind fun q1 =>
(if (q1.2 1) ≤ 0 then
(f_Fn_find (tabW 6) q1).bind fun q4 =>
(if q4.1 = (-1) then
some (4, 0, k, q4.2, b)
else
(f_Ma_perform q4.1 a1 k q4.2).bind fun q6 =>
some (0, q6.1, q6.2.1, q6.2.2, b))
else
some (3, 0, k, q1, b))
def f_X_output (a1 : Int32) (k : DS) (d : DS) (b : DS) : Option (Nat × Int32 × DS × DS × DS) :=
(if a1 = (-1) then
some (0, k.2 0, k, d, b)
else
(if a1 = (-2) then
some (0, k.2 1, k, d, b)
else
(if a1 < 0 then
some (4, 0, k, d, b)
else
(if (k.2 0) ≤ a1 then
some (4, 0, k, d, b)
else
(if a1 < 32 then
if inb a1 32 then
some (0, k.1 1 a1.toNatClampNeg, k, d, b) else none
else
some (4, 0, k, d, b))))))
def f_Mo_thrown  (r : RS) : Option (Int32 × RS) :=
some (r.2.1 0, r)
def f_Mo_fails (a1 : Int32) (r : RS) : Option (Int32 × RS) :=
some (0, (r.1, (va_up r.2.1 0 a1), r.2.2))
def f_Mo_isChar (a0 : Int32)  : Option Int32 :=
(if a0 < 32 then
some 0
else
(if 126 < a0 then
some 0
else
some 1))
def f_Mo_isLetter (a0 : Int32)  : Option Int32 :=
(if a0 < 97 then
some 0
else
(if 122 < a0 then
some 0
else
some 1))
def f_Mo_isDigit (a0 : Int32)  : Option Int32 :=
(if a0 < 48 then
some 0
else
(if 57 < a0 then
some 0
else
some 1))
def f_Mo_type (a1 : Int32) (r : RS) : Option (Int32 × RS) :=
(f_Mo_isChar a1).bind fun q1 =>
(if q1 = 0 then
some (0, (r.1, (va_up r.2.1 0 0), r.2.2))
else
(if (r.2.1 1) = 240 then
some (0, (r.1, (va_up r.2.1 0 0), r.2.2))
else
if inb (r.2.1 1) 240 then
some (1, ((va_up r.1 2 (upd (r.1 2) (r.2.1 1).toNatClampNeg a1)), (va_up (va_up r.2.1 0 0) 1 ((r.2.1 1) + 1)), r.2.2)) else none))
def BMo_letters_2 (k2 : Int64 × Int32 → Option Int32) (x : Int64 × Int32) : Option Int32 :=
(if 13 ≤ x.2 then
some x.2
else
bindv (lg_cmp (x.1 >>> ((5 * x.2).toInt64 &&& 63)) 0) fun v2 =>
(if v2 = 0 then
some x.2
else
k2 (x.1, x.2 + 1)))
def f_Mo_letters (a0 : Int64)  : Option Int32 :=
lpN (BMo_letters_2) 100000 (a0, 0)
def BMo_word_62 (k62 : Int32 × Int64 × Int32 × Int32 × RS → Option (Int32 × RS)) (x : Int32 × Int64 × Int32 × Int32 × RS) : Option (Int32 × RS) :=
(if x.2.2.1 ≤ x.2.2.2.1 then
if inb ((x.2.2.2.2.2.1 1) + x.2.2.1) 240 then
some (1, ((va_up x.2.2.2.2.1 2 (upd (x.2.2.2.2.1 2) ((x.2.2.2.2.2.1 1) + x.2.2.1).toNatClampNeg 32)), (va_up x.2.2.2.2.2.1 1 ((x.2.2.2.2.2.1 1) + (x.2.2.1 + 1))), x.2.2.2.2.2.2)) else none
else
bindv (x.2.1 >>> ((5 * x.2.2.2.1).toInt64 &&& 63)) fun v9 =>
if inb ((x.2.2.2.2.2.1 1) + x.2.2.2.1) 240 then
k62 (x.1, x.2.1, x.2.2.1, x.2.2.2.1 + 1, ((va_up x.2.2.2.2.1 2 (upd (x.2.2.2.2.1 2) ((x.2.2.2.2.2.1 1) + x.2.2.2.1).toNatClampNeg (96 + ((v9 &&& 31).toInt32)))), x.2.2.2.2.2.1, x.2.2.2.2.2.2)) else none)
def f_Mo_word (a1 : Int32) (r : RS) : Option (Int32 × RS) :=
(if a1 < 0 then
some (0, (r.1, (va_up r.2.1 0 0), r.2.2))
else
(if a1 ≤ 6 then
(if a1 = 6 then
(f_Mo_letters 468013).bind fun q11 =>
(if (((r.2.1 1) + q11) + 1) ≤ 240 then
lpN (BMo_word_62) 100000 (a1, 468013, q11, 0, (r.1, (va_up r.2.1 0 0), r.2.2))
else
some (0, (r.1, (va_up r.2.1 0 0), r.2.2)))
else
if inb a1 6 then
(f_Mo_letters (r.2.2 1 a1.toNatClampNeg)).bind fun q5 =>
(if (((r.2.1 1) + q5) + 1) ≤ 240 then
lpN (BMo_word_62) 100000 (a1, r.2.2 1 a1.toNatClampNeg, q5, 0, (r.1, (va_up r.2.1 0 0), r.2.2))
else
some (0, (r.1, (va_up r.2.1 0 0), r.2.2))) else none)
else
some (0, (r.1, (va_up r.2.1 0 0), r.2.2))))
def BMo_insert_59 (k59 : Int32 × Int32 × Int32 × RS → Option RS) (x : Int32 × Int32 × Int32 × RS) : Option RS :=
(if x.2.2.1 ≤ x.1 then
if inb x.1 240 then
some ((va_up x.2.2.2.1 2 (upd (x.2.2.2.1 2) x.1.toNatClampNeg x.2.1)), (va_up x.2.2.2.2.1 1 ((x.2.2.2.2.1 1) + 1)), x.2.2.2.2.2) else none
else
if inb (x.2.2.1 - 1) 240 then
if inb x.2.2.1 240 then
k59 (x.1, x.2.1, x.2.2.1 - 1, ((va_up x.2.2.2.1 2 (upd (x.2.2.2.1 2) x.2.2.1.toNatClampNeg (x.2.2.2.1 2 (x.2.2.1 - 1).toNatClampNeg))), x.2.2.2.2.1, x.2.2.2.2.2)) else none else none)
def f_Mo_insert (a1 : Int32) (a2 : Int32) (r : RS) : Option RS :=
(f_Mo_isChar a2).bind fun q1 =>
(if q1 = 0 then
some (r.1, (va_up r.2.1 0 1), r.2.2)
else
(if a1 < 0 then
some (r.1, (va_up r.2.1 0 2), r.2.2)
else
(if a1 ≤ (r.2.1 1) then
(if (r.2.1 1) = 240 then
some (r.1, (va_up r.2.1 0 3), r.2.2)
else
lpN (BMo_insert_59) 100000 (a1, a2, r.2.1 1, (r.1, (va_up r.2.1 0 0), r.2.2)))
else
some (r.1, (va_up r.2.1 0 2), r.2.2))))
def BMo_remove_45 (k45 : Int32 × Int32 × Int32 × RS → Option RS) (x : Int32 × Int32 × Int32 × RS) : Option RS :=
(if (x.2.2.2.2.1 1) ≤ (x.2.2.1 + x.2.1) then
some (x.2.2.2.1, (va_up x.2.2.2.2.1 1 ((x.2.2.2.2.1 1) - x.2.1)), x.2.2.2.2.2)
else
if inb (x.2.2.1 + x.2.1) 240 then
bindv (x.2.2.2.1 2 (x.2.2.1 + x.2.1).toNatClampNeg) fun v7 =>
if inb x.2.2.1 240 then
k45 (x.1, x.2.1, x.2.2.1 + 1, ((va_up x.2.2.2.1 2 (upd (x.2.2.2.1 2) x.2.2.1.toNatClampNeg v7)), x.2.2.2.2.1, x.2.2.2.2.2)) else none else none)
def f_Mo_remove (a1 : Int32) (a2 : Int32) (r : RS) : Option RS :=
(if 0 ≤ a2 then
(if a1 < 0 then
some (r.1, (va_up r.2.1 0 2), r.2.2)
else
bindv (lg_cmp (a1.toInt64 + a2.toInt64) ((r.2.1 1).toInt64)) fun v3 =>
(if v3 ≤ 0 then
lpN (BMo_remove_45) 100000 (a1, a2, a1, (r.1, (va_up r.2.1 0 0), r.2.2))
else
some (r.1, (va_up r.2.1 0 2), r.2.2)))
else
some (r.1, (va_up r.2.1 0 1), r.2.2))
def f_Mo_length  (r : RS) : Option (Int32 × RS) :=
some (r.2.1 1, (r.1, (va_up r.2.1 0 0), r.2.2))
def f_Mo_letter (a1 : Int32) (r : RS) : Option (Int32 × RS) :=
(if a1 < 0 then
some (32, (r.1, (va_up r.2.1 0 1), r.2.2))
else
(if a1 < (r.2.1 1) then
if inb a1 240 then
bindv (((r.1 2 a1.toNatClampNeg).toUInt32 % 65536).toInt32) fun v4 =>
if isc v4 then
some (v4, (r.1, (va_up r.2.1 0 0), r.2.2)) else none else none
else
some (32, (r.1, (va_up r.2.1 0 1), r.2.2))))
def f_Mo_isSign (a0 : Int32)  : Option Int32 :=
(if a0 = 43 then
some 1
else
(if a0 = 45 then
some 1
else
(if a0 = 42 then
some 1
else
(if a0 = 60 then
some 1
else
(if a0 = 61 then
some 1
else
(if a0 = 40 then
some 1
else
(if a0 = 41 then
some 1
else
(if a0 = 123 then
some 1
else
(if a0 = 125 then
some 1
else
(if a0 = 44 then
some 1
else
(if a0 = 59 then
some 1
else
some 0)))))))))))
def BMo_behindRun_2 (k2 : Int32 × Int32 × Int32 × RS → Option (Int32 × RS)) (x : Int32 × Int32 × Int32 × RS) : Option (Int32 × RS) :=
(if (x.2.2.2.2.1 1) ≤ x.2.2.1 then
some (x.2.2.1, x.2.2.2)
else
(if x.2.1 = 0 then
if inb x.2.2.1 240 then
(f_Mo_isDigit (x.2.2.2.1 2 x.2.2.1.toNatClampNeg)).bind fun q4 =>
(if q4 = 0 then
some (x.2.2.1, x.2.2.2)
else
k2 (x.1, x.2.1, x.2.2.1 + 1, x.2.2.2)) else none
else
if inb x.2.2.1 240 then
(f_Mo_isLetter (x.2.2.2.1 2 x.2.2.1.toNatClampNeg)).bind fun q7 =>
(if q7 = 0 then
some (x.2.2.1, x.2.2.2)
else
k2 (x.1, x.2.1, x.2.2.1 + 1, x.2.2.2)) else none))
def f_Mo_behindRun (a1 : Int32) (a2 : Int32) (r : RS) : Option (Int32 × RS) :=
lpN (BMo_behindRun_2) 100000 (a1, a2, a1, r)
def BMo_keyword_2 (k2 : Int64 × Int32 × RS → Option (Int32 × RS)) (x : Int64 × Int32 × RS) : Option (Int32 × RS) :=
(if 6 ≤ x.2.1 then
some ((-1), x.2.2)
else
if inb x.2.1 6 then
bindv (lg_cmp (x.2.2.2.2 1 x.2.1.toNatClampNeg) x.1) fun v3 =>
(if v3 = 0 then
some (x.2.1, x.2.2)
else
k2 (x.1, x.2.1 + 1, x.2.2)) else none)
def f_Mo_keyword (a1 : Int64) (r : RS) : Option (Int32 × RS) :=
lpN (BMo_keyword_2) 100000 (a1, 0, r)
def BMo_makeToken_218 (k218 : Int32 × Int32 × Int32 × Int32 × Int32 × RS → Option RS) (x : Int32 × Int32 × Int32 × Int32 × Int32 × RS) : Option RS :=
(if x.2.1 ≤ x.2.2.2.2.1 then
some x.2.2.2.2.2
else
(if 4 < (x.2.1 - x.1) then
some x.2.2.2.2.2
else
if inb x.2.2.1 240 then
bindv (10 * (x.2.2.2.2.2.2.2 8 x.2.2.1.toNatClampNeg)) fun v23 =>
if inb x.2.2.2.2.1 240 then
bindv (x.2.2.2.2.2.1 2 x.2.2.2.2.1.toNatClampNeg) fun v25 =>
if inb x.2.2.1 240 then
k218 (x.1, x.2.1, x.2.2.1, x.2.2.2.1, x.2.2.2.2.1 + 1, (x.2.2.2.2.2.1, x.2.2.2.2.2.2.1, (va_up x.2.2.2.2.2.2.2 8 (vp_updL (x.2.2.2.2.2.2.2 8) x.2.2.1.toNatClampNeg ((v23 + v25.toInt64) - 48))))) else none else none else none))
def BMo_makeToken_105 (k105 : Int32 × Int32 × Int32 × Int32 × Int32 × Int32 × RS → Option RS) (x : Int32 × Int32 × Int32 × Int32 × Int32 × Int32 × RS) : Option RS :=
(if x.2.1 ≤ x.2.2.2.2.2.1 then
(if x.2.2.2.2.1 = 0 then
if inb x.2.2.1 240 then
some ((va_up x.2.2.2.2.2.2.1 5 (upd (x.2.2.2.2.2.2.1 5) x.2.2.1.toNatClampNeg 5)), x.2.2.2.2.2.2.2.1, x.2.2.2.2.2.2.2.2) else none
else
if inb x.2.2.1 240 then
bindv (x.2.2.2.2.2.2.2.2 8 x.2.2.1.toNatClampNeg) fun v32 =>
(f_Mo_keyword v32 x.2.2.2.2.2.2).bind fun q33 =>
(if q33.1 < 0 then
if inb x.2.2.1 240 then
some ((va_up q33.2.1 5 (upd (q33.2.1 5) x.2.2.1.toNatClampNeg 2)), q33.2.2.1, q33.2.2.2) else none
else
if inb x.2.2.1 240 then
some ((va_up q33.2.1 5 (upd (q33.2.1 5) x.2.2.1.toNatClampNeg 1)), q33.2.2.1, q33.2.2.2) else none) else none)
else
(if x.2.2.2.2.1 = 0 then
(if x.2.2.2.2.1 = 0 then
if inb x.2.2.1 240 then
some ((va_up x.2.2.2.2.2.2.1 5 (upd (x.2.2.2.2.2.2.1 5) x.2.2.1.toNatClampNeg 5)), x.2.2.2.2.2.2.2.1, x.2.2.2.2.2.2.2.2) else none
else
if inb x.2.2.1 240 then
bindv (x.2.2.2.2.2.2.2.2 8 x.2.2.1.toNatClampNeg) fun v41 =>
(f_Mo_keyword v41 x.2.2.2.2.2.2).bind fun q42 =>
(if q42.1 < 0 then
if inb x.2.2.1 240 then
some ((va_up q42.2.1 5 (upd (q42.2.1 5) x.2.2.1.toNatClampNeg 2)), q42.2.2.1, q42.2.2.2) else none
else
if inb x.2.2.1 240 then
some ((va_up q42.2.1 5 (upd (q42.2.1 5) x.2.2.1.toNatClampNeg 1)), q42.2.2.1, q42.2.2.2) else none) else none)
else
if inb x.2.2.1 240 then
bindv (x.2.2.2.2.2.2.2.2 8 x.2.2.1.toNatClampNeg) fun v48 =>
if inb x.2.2.2.2.2.1 240 then
bindv (x.2.2.2.2.2.2.1 2 x.2.2.2.2.2.1.toNatClampNeg) fun v50 =>
bindv (((v50 - 96).toInt64) <<< ((5 * (x.2.2.2.2.2.1 - x.1)).toInt64 &&& 63)) fun v51 =>
if inb x.2.2.1 240 then
k105 (x.1, x.2.1, x.2.2.1, x.2.2.2.1, x.2.2.2.2.1, x.2.2.2.2.2.1 + 1, (x.2.2.2.2.2.2.1, x.2.2.2.2.2.2.2.1, (va_up x.2.2.2.2.2.2.2.2 8 (vp_updL (x.2.2.2.2.2.2.2.2 8) x.2.2.1.toNatClampNeg (v48 ||| v51))))) else none else none else none))
def f_Mo_makeToken (a1 : Int32) (a2 : Int32) (r : RS) : Option RS :=
if inb (r.2.1 3) 240 then
if inb (r.2.1 3) 240 then
if inb (r.2.1 3) 240 then
if inb (r.2.1 3) 240 then
if inb (r.2.1 3) 240 then
if inb (r.2.1 3) 240 then
if inb (r.2.1 3) 240 then
if inb (r.2.1 3) 240 then
if inb a1 240 then
(f_Mo_isLetter (r.1 2 a1.toNatClampNeg)).bind fun q10 =>
(if q10 = 0 then
(f_Mo_isDigit (r.1 2 a1.toNatClampNeg)).bind fun q12 =>
(if q12 = 0 then
(f_Mo_isSign (r.1 2 a1.toNatClampNeg)).bind fun q14 =>
(if q14 = 0 then
if inb (r.2.1 3) 240 then
some ((va_up (va_up (va_up (va_up (va_up (va_up (va_up (va_up r.1 6 (upd (r.1 6) (r.2.1 3).toNatClampNeg a1)) 7 (upd (r.1 7) (r.2.1 3).toNatClampNeg a2)) 9 (upd (r.1 9) (r.2.1 3).toNatClampNeg 0)) 10 (upd (r.1 10) (r.2.1 3).toNatClampNeg (-1))) 12 (upd (r.1 12) (r.2.1 3).toNatClampNeg 0)) 14 (upd (r.1 14) (r.2.1 3).toNatClampNeg 0)) 15 (upd (r.1 15) (r.2.1 3).toNatClampNeg 0)) 5 (upd (r.1 5) (r.2.1 3).toNatClampNeg 5)), (va_up r.2.1 3 ((r.2.1 3) + 1)), (va_up r.2.2 8 (vp_updL (r.2.2 8) (r.2.1 3).toNatClampNeg 0))) else none
else
if inb (r.2.1 3) 240 then
some ((va_up (va_up (va_up (va_up (va_up (va_up (va_up (va_up r.1 6 (upd (r.1 6) (r.2.1 3).toNatClampNeg a1)) 7 (upd (r.1 7) (r.2.1 3).toNatClampNeg a2)) 9 (upd (r.1 9) (r.2.1 3).toNatClampNeg 0)) 10 (upd (r.1 10) (r.2.1 3).toNatClampNeg (-1))) 12 (upd (r.1 12) (r.2.1 3).toNatClampNeg 0)) 14 (upd (r.1 14) (r.2.1 3).toNatClampNeg 0)) 15 (upd (r.1 15) (r.2.1 3).toNatClampNeg 0)) 5 (upd (r.1 5) (r.2.1 3).toNatClampNeg 4)), (va_up r.2.1 3 ((r.2.1 3) + 1)), (va_up r.2.2 8 (vp_updL (r.2.2 8) (r.2.1 3).toNatClampNeg 0))) else none)
else
(if 4 < (a2 - a1) then
if inb (r.2.1 3) 240 then
lpN (BMo_makeToken_218) 100000 (a1, a2, r.2.1 3, r.1 2 a1.toNatClampNeg, a1, ((va_up (va_up (va_up (va_up (va_up (va_up (va_up (va_up r.1 6 (upd (r.1 6) (r.2.1 3).toNatClampNeg a1)) 7 (upd (r.1 7) (r.2.1 3).toNatClampNeg a2)) 9 (upd (r.1 9) (r.2.1 3).toNatClampNeg 0)) 10 (upd (r.1 10) (r.2.1 3).toNatClampNeg (-1))) 12 (upd (r.1 12) (r.2.1 3).toNatClampNeg 0)) 14 (upd (r.1 14) (r.2.1 3).toNatClampNeg 0)) 15 (upd (r.1 15) (r.2.1 3).toNatClampNeg 0)) 5 (upd (r.1 5) (r.2.1 3).toNatClampNeg 5)), (va_up r.2.1 3 ((r.2.1 3) + 1)), (va_up r.2.2 8 (vp_updL (r.2.2 8) (r.2.1 3).toNatClampNeg 0)))) else none
else
if inb (r.2.1 3) 240 then
lpN (BMo_makeToken_218) 100000 (a1, a2, r.2.1 3, r.1 2 a1.toNatClampNeg, a1, ((va_up (va_up (va_up (va_up (va_up (va_up (va_up (va_up r.1 6 (upd (r.1 6) (r.2.1 3).toNatClampNeg a1)) 7 (upd (r.1 7) (r.2.1 3).toNatClampNeg a2)) 9 (upd (r.1 9) (r.2.1 3).toNatClampNeg 0)) 10 (upd (r.1 10) (r.2.1 3).toNatClampNeg (-1))) 12 (upd (r.1 12) (r.2.1 3).toNatClampNeg 0)) 14 (upd (r.1 14) (r.2.1 3).toNatClampNeg 0)) 15 (upd (r.1 15) (r.2.1 3).toNatClampNeg 0)) 5 (upd (r.1 5) (r.2.1 3).toNatClampNeg 3)), (va_up r.2.1 3 ((r.2.1 3) + 1)), (va_up r.2.2 8 (vp_updL (r.2.2 8) (r.2.1 3).toNatClampNeg 0)))) else none))
else
(if 6 < (a2 - a1) then
lpN (BMo_makeToken_105) 100000 (a1, a2, r.2.1 3, r.1 2 a1.toNatClampNeg, 0, a1, ((va_up (va_up (va_up (va_up (va_up (va_up (va_up r.1 6 (upd (r.1 6) (r.2.1 3).toNatClampNeg a1)) 7 (upd (r.1 7) (r.2.1 3).toNatClampNeg a2)) 9 (upd (r.1 9) (r.2.1 3).toNatClampNeg 0)) 10 (upd (r.1 10) (r.2.1 3).toNatClampNeg (-1))) 12 (upd (r.1 12) (r.2.1 3).toNatClampNeg 0)) 14 (upd (r.1 14) (r.2.1 3).toNatClampNeg 0)) 15 (upd (r.1 15) (r.2.1 3).toNatClampNeg 0)), (va_up r.2.1 3 ((r.2.1 3) + 1)), (va_up r.2.2 8 (vp_updL (r.2.2 8) (r.2.1 3).toNatClampNeg 0))))
else
lpN (BMo_makeToken_105) 100000 (a1, a2, r.2.1 3, r.1 2 a1.toNatClampNeg, 1, a1, ((va_up (va_up (va_up (va_up (va_up (va_up (va_up r.1 6 (upd (r.1 6) (r.2.1 3).toNatClampNeg a1)) 7 (upd (r.1 7) (r.2.1 3).toNatClampNeg a2)) 9 (upd (r.1 9) (r.2.1 3).toNatClampNeg 0)) 10 (upd (r.1 10) (r.2.1 3).toNatClampNeg (-1))) 12 (upd (r.1 12) (r.2.1 3).toNatClampNeg 0)) 14 (upd (r.1 14) (r.2.1 3).toNatClampNeg 0)) 15 (upd (r.1 15) (r.2.1 3).toNatClampNeg 0)), (va_up r.2.1 3 ((r.2.1 3) + 1)), (va_up r.2.2 8 (vp_updL (r.2.2 8) (r.2.1 3).toNatClampNeg 0)))))) else none else none else none else none else none else none else none else none else none
def BMo_scan_7 (k7 : Int32 × RS → Option RS) (x : Int32 × RS) : Option RS :=
(if (x.2.2.1 1) ≤ x.1 then
some x.2
else
if inb x.1 240 then
(if (x.2.1 2 x.1.toNatClampNeg) = 32 then
k7 (x.1 + 1, x.2)
else
(f_Mo_isLetter (x.2.1 2 x.1.toNatClampNeg)).bind fun q4 =>
(if q4 = 0 then
(f_Mo_isDigit (x.2.1 2 x.1.toNatClampNeg)).bind fun q6 =>
(if q6 = 0 then
(f_Mo_makeToken x.1 (x.1 + 1) x.2).bind fun q8 =>
k7 (x.1 + 1, q8)
else
(f_Mo_behindRun x.1 0 x.2).bind fun q9 =>
(f_Mo_makeToken x.1 q9.1 q9.2).bind fun q10 =>
k7 (q9.1, q10))
else
(f_Mo_behindRun x.1 1 x.2).bind fun q11 =>
(f_Mo_makeToken x.1 q11.1 q11.2).bind fun q12 =>
k7 (q11.1, q12))) else none)
def f_Mo_scan  (r : RS) : Option RS :=
lpN (BMo_scan_7) 100000 (0, (r.1, (va_up r.2.1 3 0), r.2.2))
def f_Mo_is (a1 : Int32) (a2 : Int32) (r : RS) : Option (Int32 × RS) :=
if inb a1 240 then
(if (r.1 5 a1.toNatClampNeg) = 4 then
if inb a1 240 then
if inb (r.1 6 a1.toNatClampNeg) 240 then
bindv (r.1 2 (r.1 6 a1.toNatClampNeg).toNatClampNeg) fun v5 =>
(if v5 = a2 then
some (1, r)
else
some (0, r)) else none else none
else
some (0, r)) else none
def f_Mo_isFn (a1 : Int32) (r : RS) : Option (Int32 × RS) :=
if inb a1 240 then
(if (r.1 5 a1.toNatClampNeg) = 1 then
if inb a1 240 then
(f_Mo_keyword (r.2.2 8 a1.toNatClampNeg) r).bind fun q4 =>
(if q4.1 = 0 then
some (1, q4.2)
else
some (0, q4.2)) else none
else
some (0, r)) else none
def f_Mo_goesTo (a1 : Int32) (r : RS) : Option (Int32 × RS) :=
some (1, (r.1, (va_up r.2.1 6 a1), r.2.2))
def f_Mo_openBlock (a1 : Int32) (r : RS) : Option (Int32 × RS) :=
(if (r.2.1 7) = 4 then
some (0, r)
else
if inb (r.2.1 7) 5 then
(f_Mo_goesTo 6 ((va_up r.1 21 (upd (r.1 21) (r.2.1 7).toNatClampNeg a1)), (va_up r.2.1 7 ((r.2.1 7) + 1)), r.2.2)).bind fun q3 =>
if isb q3.1 then
some (q3.1, q3.2) else none else none)
def BMo_closeBlock_22 (k22 : Int32 × Int32 × Int32 × RS → Option (Int32 × RS)) (x : Int32 × Int32 × Int32 × RS) : Option (Int32 × RS) :=
(if x.1 ≤ x.2.2.1 then
(if (x.2.2.2.2.1 7) = 0 then
(f_Mo_goesTo 13 x.2.2.2).bind fun q6 =>
if isb q6.1 then
some (q6.1, q6.2) else none
else
(f_Mo_goesTo 6 x.2.2.2).bind fun q4 =>
if isb q4.1 then
some (q4.1, q4.2) else none)
else
if inb x.2.2.1 240 then
(if (x.2.2.2.1 9 x.2.2.1.toNatClampNeg) = 3 then
if inb x.2.2.1 240 then
(if (x.2.2.2.1 13 x.2.2.1.toNatClampNeg) = x.2.1 then
if inb x.2.2.1 240 then
k22 (x.1, x.2.1, x.2.2.1 + 1, ((va_up x.2.2.2.1 15 (upd (x.2.2.2.1 15) x.2.2.1.toNatClampNeg x.1)), x.2.2.2.2.1, x.2.2.2.2.2)) else none
else
k22 (x.1, x.2.1, x.2.2.1 + 1, x.2.2.2)) else none
else
k22 (x.1, x.2.1, x.2.2.1 + 1, x.2.2.2)) else none)
def f_Mo_closeBlock (a1 : Int32) (r : RS) : Option (Int32 × RS) :=
if inb ((r.2.1 7) - 1) 5 then
lpN (BMo_closeBlock_22) 100000 (a1, r.1 21 ((r.2.1 7) - 1).toNatClampNeg, r.1 21 ((r.2.1 7) - 1).toNatClampNeg, (r.1, (va_up r.2.1 7 ((r.2.1 7) - 1)), r.2.2)) else none
def f_Mo_expression (a1 : Int32) (r : RS) : Option (Int32 × RS) :=
(f_Mo_goesTo 9 ((va_up r.1 23 (upd (r.1 23) 0 (vp_nar .boolean 0))), (va_up (va_up r.2.1 9 a1) 8 0), r.2.2)).bind fun q2 =>
if isb q2.1 then
some (q2.1, q2.2) else none
def f_Mo_openFrame (a1 : Int32) (r : RS) : Option (Int32 × RS) :=
(if (r.2.1 8) = 4 then
some (0, r)
else
if inb ((r.2.1 8) + 1) 5 then
if inb ((r.2.1 8) + 1) 5 then
(if 0 ≤ a1 then
(f_Mo_goesTo 10 ((va_up (va_up r.1 22 (upd (r.1 22) ((r.2.1 8) + 1).toNatClampNeg a1)) 23 (upd (r.1 23) ((r.2.1 8) + 1).toNatClampNeg (vp_nar .boolean 0))), (va_up r.2.1 8 ((r.2.1 8) + 1)), r.2.2)).bind fun q5 =>
if isb q5.1 then
some (q5.1, q5.2) else none
else
(f_Mo_goesTo 9 ((va_up (va_up r.1 22 (upd (r.1 22) ((r.2.1 8) + 1).toNatClampNeg a1)) 23 (upd (r.1 23) ((r.2.1 8) + 1).toNatClampNeg (vp_nar .boolean 0))), (va_up r.2.1 8 ((r.2.1 8) + 1)), r.2.2)).bind fun q7 =>
if isb q7.1 then
some (q7.1, q7.2) else none) else none else none)
def f_Mo_head (a1 : Int32) (a2 : Int32) (r : RS) : Option (Int32 × RS) :=
if inb a1 240 then
(if (r.1 5 a1.toNatClampNeg) = 2 then
(if (r.2.1 6) = 0 then
if inb a1 240 then
(f_Mo_goesTo 1 ((va_up r.1 9 (upd (r.1 9) a1.toNatClampNeg 1)), r.2.1, r.2.2)).bind fun q81 =>
(if q81.1 = 0 then
some (0, q81.2)
else
some (1, q81.2)) else none
else
(if (r.2.1 6) = 1 then
(f_Mo_is a1 40 r).bind fun q76 =>
(if q76.1 = 0 then
some (0, q76.2)
else
(f_Mo_goesTo 2 q76.2).bind fun q78 =>
(if q78.1 = 0 then
some (0, q78.2)
else
some (1, q78.2)))
else
(if (r.2.1 6) = 5 then
(f_Mo_is a1 123 r).bind fun q72 =>
(if q72.1 = 0 then
some (0, q72.2)
else
(f_Mo_openBlock a1 q72.2).bind fun q74 =>
(if q74.1 = 0 then
some (0, q74.2)
else
some (1, q74.2)))
else
(if (r.2.1 6) = 4 then
(if (r.2.1 6) = 3 then
(f_Mo_is a1 44 r).bind fun q52 =>
(if q52.1 = 0 then
some (0, q52.2)
else
(f_Mo_goesTo 4 q52.2).bind fun q54 =>
(if q54.1 = 0 then
some (0, q54.2)
else
some (1, q54.2)))
else
if inb a1 240 then
if inb a2 122 then
if inb a1 240 then
if inb a2 122 then
if inb a2 122 then
(f_Mo_goesTo 3 ((va_up (va_up (va_up r.1 9 (upd (r.1 9) a1.toNatClampNeg 2)) 13 (upd (r.1 13) a1.toNatClampNeg (r.1 16 a2.toNatClampNeg))) 19 (upd (r.1 19) a2.toNatClampNeg ((r.1 19 a2.toNatClampNeg) + 1))), r.2.1, r.2.2)).bind fun q50 =>
(if q50.1 = 0 then
some (0, q50.2)
else
some (1, q50.2)) else none else none else none else none else none)
else
(f_Mo_is a1 41 r).bind fun q56 =>
(if q56.1 = 0 then
(if (q56.2.2.1 6) = 3 then
(f_Mo_is a1 44 q56.2).bind fun q66 =>
(if q66.1 = 0 then
some (0, q66.2)
else
(f_Mo_goesTo 4 q66.2).bind fun q68 =>
(if q68.1 = 0 then
some (0, q68.2)
else
some (1, q68.2)))
else
if inb a1 240 then
if inb a2 122 then
if inb a1 240 then
if inb a2 122 then
if inb a2 122 then
(f_Mo_goesTo 3 ((va_up (va_up (va_up q56.2.1 9 (upd (q56.2.1 9) a1.toNatClampNeg 2)) 13 (upd (q56.2.1 13) a1.toNatClampNeg (q56.2.1 16 a2.toNatClampNeg))) 19 (upd (q56.2.1 19) a2.toNatClampNeg ((q56.2.1 19 a2.toNatClampNeg) + 1))), q56.2.2.1, q56.2.2.2)).bind fun q64 =>
(if q64.1 = 0 then
some (0, q64.2)
else
some (1, q64.2)) else none else none else none else none else none)
else
(f_Mo_goesTo 5 q56.2).bind fun q70 =>
if isb q70.1 then
some (q70.1, q70.2) else none)))))
else
(if (r.2.1 6) = 0 then
if inb a1 240 then
some (0, ((va_up r.1 9 (upd (r.1 9) a1.toNatClampNeg 1)), r.2.1, r.2.2)) else none
else
(if (r.2.1 6) = 1 then
(f_Mo_is a1 40 r).bind fun q35 =>
(if q35.1 = 0 then
some (0, q35.2)
else
(f_Mo_goesTo 2 q35.2).bind fun q37 =>
(if q37.1 = 0 then
some (0, q37.2)
else
some (1, q37.2)))
else
(if (r.2.1 6) = 5 then
(f_Mo_is a1 123 r).bind fun q31 =>
(if q31.1 = 0 then
some (0, q31.2)
else
(f_Mo_openBlock a1 q31.2).bind fun q33 =>
(if q33.1 = 0 then
some (0, q33.2)
else
some (1, q33.2)))
else
(if (r.2.1 6) = 4 then
(if (r.2.1 6) = 3 then
(f_Mo_is a1 44 r).bind fun q13 =>
(if q13.1 = 0 then
some (0, q13.2)
else
(f_Mo_goesTo 4 q13.2).bind fun q15 =>
(if q15.1 = 0 then
some (0, q15.2)
else
some (1, q15.2)))
else
if inb a1 240 then
if inb a2 122 then
if inb a1 240 then
if inb a2 122 then
if inb a2 122 then
some (0, ((va_up (va_up (va_up r.1 9 (upd (r.1 9) a1.toNatClampNeg 2)) 13 (upd (r.1 13) a1.toNatClampNeg (r.1 16 a2.toNatClampNeg))) 19 (upd (r.1 19) a2.toNatClampNeg ((r.1 19 a2.toNatClampNeg) + 1))), r.2.1, r.2.2)) else none else none else none else none else none)
else
(f_Mo_is a1 41 r).bind fun q17 =>
(if q17.1 = 0 then
(if (q17.2.2.1 6) = 3 then
(f_Mo_is a1 44 q17.2).bind fun q25 =>
(if q25.1 = 0 then
some (0, q25.2)
else
(f_Mo_goesTo 4 q25.2).bind fun q27 =>
(if q27.1 = 0 then
some (0, q27.2)
else
some (1, q27.2)))
else
if inb a1 240 then
if inb a2 122 then
if inb a1 240 then
if inb a2 122 then
if inb a2 122 then
some (0, ((va_up (va_up (va_up q17.2.1 9 (upd (q17.2.1 9) a1.toNatClampNeg 2)) 13 (upd (q17.2.1 13) a1.toNatClampNeg (q17.2.1 16 a2.toNatClampNeg))) 19 (upd (q17.2.1 19) a2.toNatClampNeg ((q17.2.1 19 a2.toNatClampNeg) + 1))), q17.2.2.1, q17.2.2.2)) else none else none else none else none else none)
else
(f_Mo_goesTo 5 q17.2).bind fun q29 =>
if isb q29.1 then
some (q29.1, q29.2) else none)))))) else none
def f_Mo_statement (a1 : Int32) (r : RS) : Option (Int32 × RS) :=
(f_Mo_is a1 123 (r.1, (va_up r.2.1 10 (-1)), r.2.2)).bind fun q1 =>
(if q1.1 = 0 then
(f_Mo_is a1 125 q1.2).bind fun q3 =>
(if q3.1 = 0 then
if inb a1 240 then
(if (q3.2.1 5 a1.toNatClampNeg) = 2 then
if inb a1 240 then
(f_Mo_goesTo 8 ((va_up q3.2.1 9 (upd (q3.2.1 9) a1.toNatClampNeg 4)), q3.2.2.1, q3.2.2.2)).bind fun q27 =>
if isb q27.1 then
some (q27.1, q27.2) else none else none
else
if inb a1 240 then
(if (q3.2.1 5 a1.toNatClampNeg) = 1 then
if inb a1 240 then
(f_Mo_keyword (q3.2.2.2 8 a1.toNatClampNeg) q3.2).bind fun q10 =>
(if q10.1 = 1 then
(f_Mo_goesTo 7 q10.2).bind fun q24 =>
if isb q24.1 then
some (q24.1, q24.2) else none
else
(if q10.1 = 4 then
(f_Mo_expression 59 q10.2).bind fun q13 =>
if isb q13.1 then
some (q13.1, q13.2) else none
else
(if q10.1 = 5 then
(f_Mo_expression 59 q10.2).bind fun q22 =>
if isb q22.1 then
some (q22.1, q22.2) else none
else
(if q10.1 = 2 then
(f_Mo_expression 123 q10.2).bind fun q17 =>
(if q17.1 = 0 then
some (0, q17.2)
else
some (1, q17.2))
else
(if q10.1 = 3 then
(f_Mo_expression 123 q10.2).bind fun q20 =>
(if q20.1 = 0 then
some (0, q20.2)
else
some (1, q20.2))
else
some (0, q10.2)))))) else none
else
some (0, q3.2)) else none) else none
else
(f_Mo_closeBlock a1 q3.2).bind fun q29 =>
if isb q29.1 then
some (q29.1, q29.2) else none)
else
(f_Mo_openBlock a1 q1.2).bind fun q31 =>
if isb q31.1 then
some (q31.1, q31.2) else none)
def f_Mo_closeFrame  (r : RS) : Option (Int32 × RS) :=
(f_Mo_goesTo 11 (r.1, (va_up r.2.1 8 ((r.2.1 8) - 1)), r.2.2)).bind fun q1 =>
if isb q1.1 then
some (q1.1, q1.2) else none
def f_Mo_operand (a1 : Int32) (r : RS) : Option (Int32 × RS) :=
(if (r.2.1 6) = 10 then
(f_Mo_is a1 41 r).bind fun q31 =>
(if q31.1 = 0 then
(if (q31.2.2.1 6) = 10 then
if inb (q31.2.2.1 8) 5 then
if inb (q31.2.1 22 (q31.2.2.1 8).toNatClampNeg) 240 then
if inb a1 240 then
(if (q31.2.1 5 a1.toNatClampNeg) = 3 then
(f_Mo_goesTo 11 ((va_up q31.2.1 12 (upd (q31.2.1 12) (q31.2.1 22 (q31.2.2.1 8).toNatClampNeg).toNatClampNeg 1)), q31.2.2.1, q31.2.2.2)).bind fun q60 =>
if isb q60.1 then
some (q60.1, q60.2) else none
else
if inb a1 240 then
(if (q31.2.1 5 a1.toNatClampNeg) = 2 then
if inb a1 240 then
(f_Mo_goesTo 12 ((va_up (va_up q31.2.1 12 (upd (q31.2.1 12) (q31.2.1 22 (q31.2.2.1 8).toNatClampNeg).toNatClampNeg 1)) 9 (upd (q31.2.1 9) a1.toNatClampNeg 5)), q31.2.2.1, q31.2.2.2)).bind fun q58 =>
if isb q58.1 then
some (q58.1, q58.2) else none else none
else
(f_Mo_is a1 40 ((va_up q31.2.1 12 (upd (q31.2.1 12) (q31.2.1 22 (q31.2.2.1 8).toNatClampNeg).toNatClampNeg 1)), q31.2.2.1, q31.2.2.2)).bind fun q53 =>
(if q53.1 = 0 then
some (0, q53.2)
else
(f_Mo_openFrame (-1) q53.2).bind fun q55 =>
(if q55.1 = 0 then
some (0, q55.2)
else
some (1, q55.2)))) else none) else none else none else none
else
if inb a1 240 then
(if (q31.2.1 5 a1.toNatClampNeg) = 3 then
(f_Mo_goesTo 11 q31.2).bind fun q45 =>
if isb q45.1 then
some (q45.1, q45.2) else none
else
if inb a1 240 then
(if (q31.2.1 5 a1.toNatClampNeg) = 2 then
if inb a1 240 then
(f_Mo_goesTo 12 ((va_up q31.2.1 9 (upd (q31.2.1 9) a1.toNatClampNeg 5)), q31.2.2.1, q31.2.2.2)).bind fun q43 =>
if isb q43.1 then
some (q43.1, q43.2) else none else none
else
(f_Mo_is a1 40 q31.2).bind fun q38 =>
(if q38.1 = 0 then
some (0, q38.2)
else
(f_Mo_openFrame (-1) q38.2).bind fun q40 =>
(if q40.1 = 0 then
some (0, q40.2)
else
some (1, q40.2)))) else none) else none)
else
(f_Mo_closeFrame q31.2).bind fun q62 =>
if isb q62.1 then
some (q62.1, q62.2) else none)
else
(if (r.2.1 6) = 10 then
if inb (r.2.1 8) 5 then
if inb (r.1 22 (r.2.1 8).toNatClampNeg) 240 then
if inb a1 240 then
(if (r.1 5 a1.toNatClampNeg) = 3 then
(f_Mo_goesTo 11 ((va_up r.1 12 (upd (r.1 12) (r.1 22 (r.2.1 8).toNatClampNeg).toNatClampNeg 1)), r.2.1, r.2.2)).bind fun q29 =>
if isb q29.1 then
some (q29.1, q29.2) else none
else
if inb a1 240 then
(if (r.1 5 a1.toNatClampNeg) = 2 then
if inb a1 240 then
(f_Mo_goesTo 12 ((va_up (va_up r.1 12 (upd (r.1 12) (r.1 22 (r.2.1 8).toNatClampNeg).toNatClampNeg 1)) 9 (upd (r.1 9) a1.toNatClampNeg 5)), r.2.1, r.2.2)).bind fun q27 =>
if isb q27.1 then
some (q27.1, q27.2) else none else none
else
(f_Mo_is a1 40 ((va_up r.1 12 (upd (r.1 12) (r.1 22 (r.2.1 8).toNatClampNeg).toNatClampNeg 1)), r.2.1, r.2.2)).bind fun q22 =>
(if q22.1 = 0 then
some (0, q22.2)
else
(f_Mo_openFrame (-1) q22.2).bind fun q24 =>
(if q24.1 = 0 then
some (0, q24.2)
else
some (1, q24.2)))) else none) else none else none else none
else
if inb a1 240 then
(if (r.1 5 a1.toNatClampNeg) = 3 then
(f_Mo_goesTo 11 r).bind fun q14 =>
if isb q14.1 then
some (q14.1, q14.2) else none
else
if inb a1 240 then
(if (r.1 5 a1.toNatClampNeg) = 2 then
if inb a1 240 then
(f_Mo_goesTo 12 ((va_up r.1 9 (upd (r.1 9) a1.toNatClampNeg 5)), r.2.1, r.2.2)).bind fun q12 =>
if isb q12.1 then
some (q12.1, q12.2) else none else none
else
(f_Mo_is a1 40 r).bind fun q7 =>
(if q7.1 = 0 then
some (0, q7.2)
else
(f_Mo_openFrame (-1) q7.2).bind fun q9 =>
(if q9.1 = 0 then
some (0, q9.2)
else
some (1, q9.2)))) else none) else none))
def f_Mo_operator (a1 : Int32) (r : RS) : Option (Int32 × RS) :=
(f_Mo_is a1 43 r).bind fun q1 =>
(if q1.1 = 0 then
(f_Mo_is a1 45 q1.2).bind fun q5 =>
(if q5.1 = 0 then
(f_Mo_is a1 42 q5.2).bind fun q9 =>
(if q9.1 = 0 then
(f_Mo_is a1 60 q9.2).bind fun q11 =>
(if q11.1 = 0 then
(if (q11.2.2.1 8) ≤ 0 then
(f_Mo_is a1 (q11.2.2.1 9) q11.2).bind fun q14 =>
(if q14.1 = 0 then
some (0, q14.2)
else
(if (q14.2.2.1 9) = 123 then
(f_Mo_openBlock a1 q14.2).bind fun q23 =>
if isb q23.1 then
some (q23.1, q23.2) else none
else
(if (q14.2.2.1 10) < 0 then
(f_Mo_goesTo 6 q14.2).bind fun q18 =>
if isb q18.1 then
some (q18.1, q18.2) else none
else
if inb (q14.2.2.1 10) 240 then
(f_Mo_goesTo 6 ((va_up q14.2.1 14 (upd (q14.2.1 14) (q14.2.2.1 10).toNatClampNeg (a1 + 1))), q14.2.2.1, q14.2.2.2)).bind fun q21 =>
if isb q21.1 then
some (q21.1, q21.2) else none else none)))
else
(f_Mo_is a1 41 q11.2).bind fun q25 =>
(if q25.1 = 0 then
(f_Mo_is a1 44 q25.2).bind fun q27 =>
(if q27.1 = 0 then
some (0, q27.2)
else
if inb (q27.2.2.1 8) 5 then
(if 0 ≤ (q27.2.1 22 (q27.2.2.1 8).toNatClampNeg) then
if inb (q27.2.2.1 8) 5 then
if inb (q27.2.1 22 (q27.2.2.1 8).toNatClampNeg) 240 then
bindv (q27.2.1 12 (q27.2.1 22 (q27.2.2.1 8).toNatClampNeg).toNatClampNeg) fun v33 =>
if inb (q27.2.1 22 (q27.2.2.1 8).toNatClampNeg) 240 then
if inb (q27.2.2.1 8) 5 then
(f_Mo_goesTo 9 ((va_up (va_up q27.2.1 12 (upd (q27.2.1 12) (q27.2.1 22 (q27.2.2.1 8).toNatClampNeg).toNatClampNeg (v33 + 1))) 23 (upd (q27.2.1 23) (q27.2.2.1 8).toNatClampNeg (vp_nar .boolean 0))), q27.2.2.1, q27.2.2.2)).bind fun q36 =>
if isb q36.1 then
some (q36.1, q36.2) else none else none else none else none else none
else
some (0, q27.2)) else none)
else
(f_Mo_closeFrame q25.2).bind fun q38 =>
if isb q38.1 then
some (q38.1, q38.2) else none))
else
if inb (q11.2.2.1 8) 5 then
(if (q11.2.1 23 (q11.2.2.1 8).toNatClampNeg) = 0 then
if inb (q11.2.2.1 8) 5 then
(f_Mo_goesTo 9 ((va_up q11.2.1 23 (upd (q11.2.1 23) (q11.2.2.1 8).toNatClampNeg (vp_nar .boolean 1))), q11.2.2.1, q11.2.2.2)).bind fun q44 =>
(if q44.1 = 0 then
some (0, q44.2)
else
some (1, q44.2)) else none
else
if inb (q11.2.2.1 8) 5 then
some (0, ((va_up q11.2.1 23 (upd (q11.2.1 23) (q11.2.2.1 8).toNatClampNeg (vp_nar .boolean 1))), q11.2.2.1, q11.2.2.2)) else none) else none)
else
(f_Mo_goesTo 9 q9.2).bind fun q46 =>
if isb q46.1 then
some (q46.1, q46.2) else none)
else
(f_Mo_goesTo 9 q5.2).bind fun q7 =>
if isb q7.1 then
some (q7.1, q7.2) else none)
else
(f_Mo_goesTo 9 q1.2).bind fun q3 =>
if isb q3.1 then
some (q3.1, q3.2) else none)
def f_Mo_step (a1 : Int32) (a2 : Int32) (r : RS) : Option (Int32 × RS) :=
(if 5 < (r.2.1 6) then
(if (r.2.1 6) = 6 then
(f_Mo_statement a1 r).bind fun q34 =>
if isb q34.1 then
some (q34.1, q34.2) else none
else
(if (r.2.1 6) = 7 then
if inb a1 240 then
if inb ((r.2.1 7) - 1) 5 then
if inb a1 240 then
if inb a1 240 then
(if (r.1 5 a1.toNatClampNeg) = 2 then
(f_Mo_goesTo 8 ((va_up (va_up r.1 9 (upd (r.1 9) a1.toNatClampNeg 3)) 13 (upd (r.1 13) a1.toNatClampNeg (r.1 21 ((r.2.1 7) - 1).toNatClampNeg))), (va_up r.2.1 10 a1), r.2.2)).bind fun q32 =>
(if q32.1 = 0 then
some (0, q32.2)
else
some (1, q32.2))
else
some (0, ((va_up (va_up r.1 9 (upd (r.1 9) a1.toNatClampNeg 3)) 13 (upd (r.1 13) a1.toNatClampNeg (r.1 21 ((r.2.1 7) - 1).toNatClampNeg))), (va_up r.2.1 10 a1), r.2.2))) else none else none else none else none
else
(if (r.2.1 6) = 8 then
(f_Mo_is a1 61 r).bind fun q23 =>
(if q23.1 = 0 then
some (0, q23.2)
else
(f_Mo_expression 59 q23.2).bind fun q25 =>
(if q25.1 = 0 then
some (0, q25.2)
else
some (1, q25.2)))
else
(if (r.2.1 6) = 9 then
(f_Mo_operand a1 r).bind fun q6 =>
if isb q6.1 then
some (q6.1, q6.2) else none
else
(if (r.2.1 6) = 10 then
(f_Mo_operand a1 r).bind fun q21 =>
if isb q21.1 then
some (q21.1, q21.2) else none
else
(if (r.2.1 6) = 12 then
(f_Mo_is a1 40 r).bind fun q13 =>
(if q13.1 = 0 then
(if (q13.2.2.1 6) = 13 then
some (0, q13.2)
else
(f_Mo_operator a1 q13.2).bind fun q16 =>
(if q16.1 = 0 then
some (0, q16.2)
else
some (1, q16.2)))
else
if inb (a1 - 1) 240 then
(f_Mo_openFrame (a1 - 1) ((va_up q13.2.1 9 (upd (q13.2.1 9) (a1 - 1).toNatClampNeg 6)), q13.2.2.1, q13.2.2.2)).bind fun q19 =>
if isb q19.1 then
some (q19.1, q19.2) else none else none)
else
(if (r.2.1 6) = 13 then
some (0, r)
else
(f_Mo_operator a1 r).bind fun q11 =>
(if q11.1 = 0 then
some (0, q11.2)
else
some (1, q11.2)))))))))
else
(f_Mo_head a1 a2 r).bind fun q36 =>
if isb q36.1 then
some (q36.1, q36.2) else none)
def BMo_readPart_150 (k150 : Int32 × Int32 × Int32 × RS → Option RS) (x : Int32 × Int32 × Int32 × RS) : Option RS :=
(if x.2.1 ≤ x.2.2.1 then
some x.2.2.2
else
if inb x.1 122 then
(if (x.2.2.2.1 18 x.1.toNatClampNeg) < 0 then
if inb x.2.2.1 240 then
(if (x.2.2.2.1 9 x.2.2.1.toNatClampNeg) = 2 then
if inb x.1 122 then
if inb x.2.2.1 240 then
if inb x.2.2.1 240 then
k150 (x.1, x.2.1, x.2.2.1 + 1, ((va_up (va_up x.2.2.2.1 14 (upd (x.2.2.2.1 14) x.2.2.1.toNatClampNeg (x.2.2.2.1 16 x.1.toNatClampNeg))) 15 (upd (x.2.2.2.1 15) x.2.2.1.toNatClampNeg x.2.1)), x.2.2.2.2.1, x.2.2.2.2.2)) else none else none else none
else
k150 (x.1, x.2.1, x.2.2.1 + 1, x.2.2.2)) else none
else
if inb x.2.2.1 240 then
if inb x.2.2.1 240 then
bindv ((upd (x.2.2.2.1 9) x.2.2.1.toNatClampNeg 0) x.2.2.1.toNatClampNeg) fun v22 =>
(if v22 = 2 then
if inb x.1 122 then
if inb x.2.2.1 240 then
if inb x.2.2.1 240 then
k150 (x.1, x.2.1, x.2.2.1 + 1, ((va_up (va_up (va_up x.2.2.2.1 9 (upd (x.2.2.2.1 9) x.2.2.1.toNatClampNeg 0)) 14 (upd (x.2.2.2.1 14) x.2.2.1.toNatClampNeg (x.2.2.2.1 16 x.1.toNatClampNeg))) 15 (upd (x.2.2.2.1 15) x.2.2.1.toNatClampNeg x.2.1)), x.2.2.2.2.1, x.2.2.2.2.2)) else none else none else none
else
k150 (x.1, x.2.1, x.2.2.1 + 1, ((va_up x.2.2.2.1 9 (upd (x.2.2.2.1 9) x.2.2.1.toNatClampNeg 0)), x.2.2.2.2.1, x.2.2.2.2.2))) else none else none) else none)
def BMo_readPart_70 (k70 : Int32 × Int32 × Int32 × RS → Option RS) (x : Int32 × Int32 × Int32 × RS) : Option RS :=
(if x.2.1 ≤ x.2.2.1 then
if inb x.1 122 then
(if 0 ≤ (x.2.2.2.1 18 x.1.toNatClampNeg) then
if inb x.1 122 then
lpN (BMo_readPart_150) 100000 (x.1, x.2.1, x.2.2.2.1 16 x.1.toNatClampNeg, x.2.2.2) else none
else
(if (x.2.2.2.2.1 6) = 13 then
if inb x.1 122 then
lpN (BMo_readPart_150) 100000 (x.1, x.2.1, x.2.2.2.1 16 x.1.toNatClampNeg, x.2.2.2) else none
else
if inb (x.2.1 - 1) 240 then
if inb x.1 122 then
if inb x.1 122 then
lpN (BMo_readPart_150) 100000 (x.1, x.2.1, x.2.2.2.1 16 x.1.toNatClampNeg, ((va_up x.2.2.2.1 18 (upd (x.2.2.2.1 18) x.1.toNatClampNeg (x.2.2.2.1 7 (x.2.1 - 1).toNatClampNeg))), x.2.2.2.2.1, x.2.2.2.2.2)) else none else none else none)) else none
else
if inb x.1 122 then
(if 0 ≤ (x.2.2.2.1 18 x.1.toNatClampNeg) then
if inb x.1 122 then
(if 0 ≤ (x.2.2.2.1 18 x.1.toNatClampNeg) then
if inb x.1 122 then
lpN (BMo_readPart_150) 100000 (x.1, x.2.1, x.2.2.2.1 16 x.1.toNatClampNeg, x.2.2.2) else none
else
(if (x.2.2.2.2.1 6) = 13 then
if inb x.1 122 then
lpN (BMo_readPart_150) 100000 (x.1, x.2.1, x.2.2.2.1 16 x.1.toNatClampNeg, x.2.2.2) else none
else
if inb (x.2.1 - 1) 240 then
if inb x.1 122 then
if inb x.1 122 then
lpN (BMo_readPart_150) 100000 (x.1, x.2.1, x.2.2.2.1 16 x.1.toNatClampNeg, ((va_up x.2.2.2.1 18 (upd (x.2.2.2.1 18) x.1.toNatClampNeg (x.2.2.2.1 7 (x.2.1 - 1).toNatClampNeg))), x.2.2.2.2.1, x.2.2.2.2.2)) else none else none else none)) else none
else
(f_Mo_step x.2.2.1 x.1 x.2.2.2).bind fun q42 =>
(if q42.1 = 0 then
if inb x.2.2.1 240 then
if inb x.1 122 then
k70 (x.1, x.2.1, x.2.2.1 + 1, ((va_up q42.2.1 18 (upd (q42.2.1 18) x.1.toNatClampNeg (q42.2.1 6 x.2.2.1.toNatClampNeg))), q42.2.2.1, q42.2.2.2)) else none else none
else
k70 (x.1, x.2.1, x.2.2.1 + 1, q42.2))) else none)
def f_Mo_readPart (a1 : Int32) (r : RS) : Option RS :=
if inb a1 122 then
if inb a1 122 then
if inb a1 122 then
if inb a1 122 then
(f_Mo_isFn (r.1 16 a1.toNatClampNeg) ((va_up (va_up r.1 18 (upd (r.1 18) a1.toNatClampNeg (-1))) 19 (upd (r.1 19) a1.toNatClampNeg 0)), (va_up (va_up r.2.1 6 0) 7 0), r.2.2)).bind fun q5 =>
(if q5.1 = 0 then
if inb a1 122 then
if inb (q5.2.1 16 a1.toNatClampNeg) 240 then
bindv (q5.2.1 6 (q5.2.1 16 a1.toNatClampNeg).toNatClampNeg) fun v48 =>
if inb a1 122 then
if inb a1 122 then
lpN (BMo_readPart_70) 100000 (a1, r.1 17 a1.toNatClampNeg, (q5.2.1 16 a1.toNatClampNeg) + 1, ((va_up q5.2.1 18 (upd (q5.2.1 18) a1.toNatClampNeg v48)), q5.2.2.1, q5.2.2.2)) else none else none else none else none
else
if inb a1 122 then
lpN (BMo_readPart_70) 100000 (a1, r.1 17 a1.toNatClampNeg, (q5.2.1 16 a1.toNatClampNeg) + 1, q5.2) else none) else none else none else none else none
def BMo_note_13 (k13 : Int32 × Int32 × Int32 × Int32 × RS → Option RS) (x : Int32 × Int32 × Int32 × Int32 × RS) : Option RS :=
(if x.2.2.2.1 ≤ 0 then
if inb x.2.2.2.1 400 then
some ((va_up x.2.2.2.2.1 20 (upd (x.2.2.2.2.1 20) x.2.2.2.1.toNatClampNeg x.2.2.1)), (va_up x.2.2.2.2.2.1 5 ((x.2.2.2.2.2.1 5) + 1)), x.2.2.2.2.2.2) else none
else
if inb (x.2.2.2.1 - 1) 400 then
bindv (x.2.2.2.2.1 20 (x.2.2.2.1 - 1).toNatClampNeg) fun v4 =>
(if v4 ≤ x.2.2.1 then
if inb x.2.2.2.1 400 then
some ((va_up x.2.2.2.2.1 20 (upd (x.2.2.2.2.1 20) x.2.2.2.1.toNatClampNeg x.2.2.1)), (va_up x.2.2.2.2.2.1 5 ((x.2.2.2.2.2.1 5) + 1)), x.2.2.2.2.2.2) else none
else
if inb (x.2.2.2.1 - 1) 400 then
bindv (x.2.2.2.2.1 20 (x.2.2.2.1 - 1).toNatClampNeg) fun v8 =>
if inb x.2.2.2.1 400 then
k13 (x.1, x.2.1, x.2.2.1, x.2.2.2.1 - 1, ((va_up x.2.2.2.2.1 20 (upd (x.2.2.2.2.1 20) x.2.2.2.1.toNatClampNeg v8)), x.2.2.2.2.2.1, x.2.2.2.2.2.2)) else none else none) else none)
def f_Mo_note (a1 : Int32) (a2 : Int32) (r : RS) : Option RS :=
lpN (BMo_note_13) 100000 (a1, a2, a1 + (8 * a2), r.2.1 5, r)
def BMo_isRepeated_4 (k4 : Int32 × Int32 × Int32 × RS → Option (Int32 × RS)) (x : Int32 × Int32 × Int32 × RS) : Option (Int32 × RS) :=
(if x.1 ≤ x.2.2.1 then
if isb x.2.1 then
some (x.2.1, x.2.2.2) else none
else
if inb x.1 240 then
(if (x.2.2.2.1 9 x.1.toNatClampNeg) = 1 then
if inb x.2.2.1 240 then
(if (x.2.2.2.1 9 x.2.2.1.toNatClampNeg) = 1 then
(if x.2.1 = 0 then
if inb x.2.2.1 240 then
if inb x.1 240 then
bindv (lg_cmp (x.2.2.2.2.2 8 x.2.2.1.toNatClampNeg) (x.2.2.2.2.2 8 x.1.toNatClampNeg)) fun v34 =>
(if v34 = 0 then
k4 (x.1, 1, x.2.2.1 + 1, x.2.2.2)
else
k4 (x.1, 0, x.2.2.1 + 1, x.2.2.2)) else none else none
else
k4 (x.1, 1, x.2.2.1 + 1, x.2.2.2))
else
(if x.2.1 = 0 then
k4 (x.1, 0, x.2.2.1 + 1, x.2.2.2)
else
k4 (x.1, 1, x.2.2.1 + 1, x.2.2.2))) else none
else
if inb x.2.2.1 240 then
(if (x.2.2.2.1 9 x.2.2.1.toNatClampNeg) = 2 then
if inb x.2.2.1 240 then
if inb x.1 240 then
(if (x.2.2.2.1 13 x.2.2.1.toNatClampNeg) = (x.2.2.2.1 13 x.1.toNatClampNeg) then
(if x.2.1 = 0 then
if inb x.2.2.1 240 then
if inb x.1 240 then
bindv (lg_cmp (x.2.2.2.2.2 8 x.2.2.1.toNatClampNeg) (x.2.2.2.2.2 8 x.1.toNatClampNeg)) fun v14 =>
(if v14 = 0 then
k4 (x.1, 1, x.2.2.1 + 1, x.2.2.2)
else
k4 (x.1, 0, x.2.2.1 + 1, x.2.2.2)) else none else none
else
k4 (x.1, 1, x.2.2.1 + 1, x.2.2.2))
else
(if x.2.1 = 0 then
k4 (x.1, 0, x.2.2.1 + 1, x.2.2.2)
else
k4 (x.1, 1, x.2.2.1 + 1, x.2.2.2))) else none else none
else
if inb x.2.2.1 240 then
(if (x.2.2.2.1 9 x.2.2.1.toNatClampNeg) = 3 then
if inb x.2.2.1 240 then
if inb x.1 240 then
(if (x.2.2.2.1 13 x.2.2.1.toNatClampNeg) = (x.2.2.2.1 13 x.1.toNatClampNeg) then
(if x.2.1 = 0 then
if inb x.2.2.1 240 then
if inb x.1 240 then
bindv (lg_cmp (x.2.2.2.2.2 8 x.2.2.1.toNatClampNeg) (x.2.2.2.2.2 8 x.1.toNatClampNeg)) fun v26 =>
(if v26 = 0 then
k4 (x.1, 1, x.2.2.1 + 1, x.2.2.2)
else
k4 (x.1, 0, x.2.2.1 + 1, x.2.2.2)) else none else none
else
k4 (x.1, 1, x.2.2.1 + 1, x.2.2.2))
else
(if x.2.1 = 0 then
k4 (x.1, 0, x.2.2.1 + 1, x.2.2.2)
else
k4 (x.1, 1, x.2.2.1 + 1, x.2.2.2))) else none else none
else
(if x.2.1 = 0 then
k4 (x.1, 0, x.2.2.1 + 1, x.2.2.2)
else
k4 (x.1, 1, x.2.2.1 + 1, x.2.2.2))) else none) else none) else none)
def f_Mo_isRepeated (a1 : Int32) (r : RS) : Option (Int32 × RS) :=
lpN (BMo_isRepeated_4) 100000 (a1, 0, 0, r)
def BMo_meaning_6 (k6 : Int64 × Int32 × Int32 × Int32 × RS → Option (Int32 × RS)) (x : Int64 × Int32 × Int32 × Int32 × RS) : Option (Int32 × RS) :=
(if (x.2.2.2.2.2.1 3) ≤ x.2.2.2.1 then
some (x.2.2.1, x.2.2.2.2)
else
if inb x.2.2.2.1 240 then
(if (x.2.2.2.2.1 9 x.2.2.2.1.toNatClampNeg) = 2 then
if inb x.2.2.2.1 240 then
(if (x.2.2.2.2.1 10 x.2.2.2.1.toNatClampNeg) = x.2.2.2.1 then
if inb x.2.2.2.1 240 then
bindv (lg_cmp (x.2.2.2.2.2.2 8 x.2.2.2.1.toNatClampNeg) x.1) fun v7 =>
(if v7 = 0 then
if inb x.2.2.2.1 240 then
(if x.2.1 < (x.2.2.2.2.1 14 x.2.2.2.1.toNatClampNeg) then
k6 (x.1, x.2.1, x.2.2.1, x.2.2.2.1 + 1, x.2.2.2.2)
else
if inb x.2.2.2.1 240 then
(if (x.2.2.2.2.1 15 x.2.2.2.1.toNatClampNeg) ≤ x.2.1 then
k6 (x.1, x.2.1, x.2.2.1, x.2.2.2.1 + 1, x.2.2.2.2)
else
(if x.2.2.1 < 0 then
k6 (x.1, x.2.1, x.2.2.2.1, x.2.2.2.1 + 1, x.2.2.2.2)
else
if inb x.2.2.2.1 240 then
if inb x.2.2.1 240 then
(if (x.2.2.2.2.1 14 x.2.2.2.1.toNatClampNeg) < (x.2.2.2.2.1 14 x.2.2.1.toNatClampNeg) then
k6 (x.1, x.2.1, x.2.2.1, x.2.2.2.1 + 1, x.2.2.2.2)
else
k6 (x.1, x.2.1, x.2.2.2.1, x.2.2.2.1 + 1, x.2.2.2.2)) else none else none)) else none) else none
else
k6 (x.1, x.2.1, x.2.2.1, x.2.2.2.1 + 1, x.2.2.2.2)) else none
else
k6 (x.1, x.2.1, x.2.2.1, x.2.2.2.1 + 1, x.2.2.2.2)) else none
else
if inb x.2.2.2.1 240 then
(if (x.2.2.2.2.1 9 x.2.2.2.1.toNatClampNeg) = 3 then
if inb x.2.2.2.1 240 then
(if (x.2.2.2.2.1 10 x.2.2.2.1.toNatClampNeg) = x.2.2.2.1 then
if inb x.2.2.2.1 240 then
bindv (lg_cmp (x.2.2.2.2.2.2 8 x.2.2.2.1.toNatClampNeg) x.1) fun v22 =>
(if v22 = 0 then
if inb x.2.2.2.1 240 then
(if x.2.1 < (x.2.2.2.2.1 14 x.2.2.2.1.toNatClampNeg) then
k6 (x.1, x.2.1, x.2.2.1, x.2.2.2.1 + 1, x.2.2.2.2)
else
if inb x.2.2.2.1 240 then
(if (x.2.2.2.2.1 15 x.2.2.2.1.toNatClampNeg) ≤ x.2.1 then
k6 (x.1, x.2.1, x.2.2.1, x.2.2.2.1 + 1, x.2.2.2.2)
else
(if x.2.2.1 < 0 then
k6 (x.1, x.2.1, x.2.2.2.1, x.2.2.2.1 + 1, x.2.2.2.2)
else
if inb x.2.2.2.1 240 then
if inb x.2.2.1 240 then
(if (x.2.2.2.2.1 14 x.2.2.2.1.toNatClampNeg) < (x.2.2.2.2.1 14 x.2.2.1.toNatClampNeg) then
k6 (x.1, x.2.1, x.2.2.1, x.2.2.2.1 + 1, x.2.2.2.2)
else
k6 (x.1, x.2.1, x.2.2.2.1, x.2.2.2.1 + 1, x.2.2.2.2)) else none else none)) else none) else none
else
k6 (x.1, x.2.1, x.2.2.1, x.2.2.2.1 + 1, x.2.2.2.2)) else none
else
k6 (x.1, x.2.1, x.2.2.1, x.2.2.2.1 + 1, x.2.2.2.2)) else none
else
k6 (x.1, x.2.1, x.2.2.1, x.2.2.2.1 + 1, x.2.2.2.2)) else none) else none)
def f_Mo_meaning (a1 : Int64) (a3 : Int32) (r : RS) : Option (Int32 × RS) :=
lpN (BMo_meaning_6) 100000 (a1, a3, (-1), 0, r)
def BMo_functionNamed_2 (k2 : Int64 × Int32 × RS → Option (Int32 × RS)) (x : Int64 × Int32 × RS) : Option (Int32 × RS) :=
(if (x.2.2.2.1 3) ≤ x.2.1 then
some ((-1), x.2.2)
else
if inb x.2.1 240 then
(if (x.2.2.1 9 x.2.1.toNatClampNeg) = 1 then
if inb x.2.1 240 then
bindv (lg_cmp (x.2.2.2.2 8 x.2.1.toNatClampNeg) x.1) fun v5 =>
(if v5 = 0 then
some (x.2.1, x.2.2)
else
k2 (x.1, x.2.1 + 1, x.2.2)) else none
else
k2 (x.1, x.2.1 + 1, x.2.2)) else none)
def f_Mo_functionNamed (a1 : Int64) (r : RS) : Option (Int32 × RS) :=
lpN (BMo_functionNamed_2) 100000 (a1, 0, r)
def BMo_partOf_2 (k2 : Int32 × Int32 × RS → Option (Int32 × RS)) (x : Int32 × Int32 × RS) : Option (Int32 × RS) :=
(if (x.2.2.2.1 4) ≤ x.2.1 then
some (x.2.1, x.2.2)
else
if inb x.2.1 122 then
(if x.1 < (x.2.2.1 17 x.2.1.toNatClampNeg) then
some (x.2.1, x.2.2)
else
k2 (x.1, x.2.1 + 1, x.2.2)) else none)
def f_Mo_partOf (a1 : Int32) (r : RS) : Option (Int32 × RS) :=
lpN (BMo_partOf_2) 100000 (a1, 0, r)
def BMo_bind_82 (k82 : Int32 × RS → Option RS) (x : Int32 × RS) : Option RS :=
(if (x.2.2.1 3) ≤ x.1 then
some x.2
else
if inb x.1 240 then
(if (x.2.1 9 x.1.toNatClampNeg) = 4 then
if inb x.1 240 then
(f_Mo_meaning (x.2.2.2 8 x.1.toNatClampNeg) x.1 x.2).bind fun q6 =>
if inb x.1 240 then
if inb x.1 240 then
bindv ((upd (q6.2.1 10) x.1.toNatClampNeg q6.1) x.1.toNatClampNeg) fun v9 =>
(if 0 ≤ v9 then
k82 (x.1 + 1, ((va_up q6.2.1 10 (upd (q6.2.1 10) x.1.toNatClampNeg q6.1)), q6.2.2.1, q6.2.2.2))
else
if inb x.1 240 then
(f_Mo_note 3 (q6.2.1 6 x.1.toNatClampNeg) ((va_up q6.2.1 10 (upd (q6.2.1 10) x.1.toNatClampNeg q6.1)), q6.2.2.1, q6.2.2.2)).bind fun q12 =>
k82 (x.1 + 1, q12) else none) else none else none else none
else
if inb x.1 240 then
(if (x.2.1 9 x.1.toNatClampNeg) = 5 then
if inb x.1 240 then
(f_Mo_meaning (x.2.2.2 8 x.1.toNatClampNeg) x.1 x.2).bind fun q34 =>
if inb x.1 240 then
if inb x.1 240 then
bindv ((upd (q34.2.1 10) x.1.toNatClampNeg q34.1) x.1.toNatClampNeg) fun v37 =>
(if 0 ≤ v37 then
k82 (x.1 + 1, ((va_up q34.2.1 10 (upd (q34.2.1 10) x.1.toNatClampNeg q34.1)), q34.2.2.1, q34.2.2.2))
else
if inb x.1 240 then
(f_Mo_note 3 (q34.2.1 6 x.1.toNatClampNeg) ((va_up q34.2.1 10 (upd (q34.2.1 10) x.1.toNatClampNeg q34.1)), q34.2.2.1, q34.2.2.2)).bind fun q40 =>
k82 (x.1 + 1, q40) else none) else none else none else none
else
if inb x.1 240 then
(if (x.2.1 9 x.1.toNatClampNeg) = 6 then
if inb x.1 240 then
(f_Mo_functionNamed (x.2.2.2 8 x.1.toNatClampNeg) x.2).bind fun q18 =>
if inb x.1 240 then
if inb x.1 240 then
bindv ((upd (q18.2.1 10) x.1.toNatClampNeg q18.1) x.1.toNatClampNeg) fun v21 =>
(if 0 ≤ v21 then
if inb x.1 240 then
bindv ((upd (q18.2.1 10) x.1.toNatClampNeg q18.1) x.1.toNatClampNeg) fun v24 =>
(f_Mo_partOf v24 ((va_up q18.2.1 10 (upd (q18.2.1 10) x.1.toNatClampNeg q18.1)), q18.2.2.1, q18.2.2.2)).bind fun q25 =>
if inb q25.1 122 then
if inb x.1 240 then
(if (q25.2.1 19 q25.1.toNatClampNeg) = (q25.2.1 12 x.1.toNatClampNeg) then
k82 (x.1 + 1, q25.2)
else
if inb x.1 240 then
(f_Mo_note 5 (q25.2.1 6 x.1.toNatClampNeg) q25.2).bind fun q30 =>
k82 (x.1 + 1, q30) else none) else none else none else none
else
if inb x.1 240 then
(f_Mo_note 4 (q18.2.1 6 x.1.toNatClampNeg) ((va_up q18.2.1 10 (upd (q18.2.1 10) x.1.toNatClampNeg q18.1)), q18.2.2.1, q18.2.2.2)).bind fun q32 =>
k82 (x.1 + 1, q32) else none) else none else none else none
else
k82 (x.1 + 1, x.2)) else none) else none) else none)
def BMo_bind_2 (k2 : Int32 × RS → Option RS) (x : Int32 × RS) : Option RS :=
(if (x.2.2.1 3) ≤ x.1 then
lpN (BMo_bind_82) 100000 (0, x.2)
else
if inb x.1 240 then
(if (x.2.1 9 x.1.toNatClampNeg) < 1 then
k2 (x.1 + 1, x.2)
else
if inb x.1 240 then
(if 3 < (x.2.1 9 x.1.toNatClampNeg) then
k2 (x.1 + 1, x.2)
else
(f_Mo_isRepeated x.1 x.2).bind fun q45 =>
(if q45.1 = 0 then
if inb x.1 240 then
k2 (x.1 + 1, ((va_up q45.2.1 10 (upd (q45.2.1 10) x.1.toNatClampNeg x.1)), q45.2.2.1, q45.2.2.2)) else none
else
if inb x.1 240 then
(if (q45.2.1 9 x.1.toNatClampNeg) = 1 then
if inb x.1 240 then
(f_Mo_note 6 (q45.2.1 6 x.1.toNatClampNeg) q45.2).bind fun q52 =>
k2 (x.1 + 1, q52) else none
else
if inb x.1 240 then
(f_Mo_note 2 (q45.2.1 6 x.1.toNatClampNeg) q45.2).bind fun q50 =>
k2 (x.1 + 1, q50) else none) else none)) else none) else none)
def f_Mo_bind  (r : RS) : Option RS :=
lpN (BMo_bind_2) 100000 (0, r)
def BMo_analyse_86 (k86 : Int32 × RS → Option RS) (x : Int32 × RS) : Option RS :=
(if (x.2.2.1 4) ≤ x.1 then
(f_Mo_bind x.2).bind fun q4 =>
some q4
else
(f_Mo_readPart x.1 x.2).bind fun q5 =>
if inb x.1 122 then
(if (q5.1 18 x.1.toNatClampNeg) < 0 then
k86 (x.1 + 1, q5)
else
if inb x.1 122 then
(f_Mo_note 1 (q5.1 18 x.1.toNatClampNeg) q5).bind fun q9 =>
k86 (x.1 + 1, q9) else none) else none)
def BMo_analyse_16 (k16 : Int32 × RS → Option RS) (x : Int32 × RS) : Option RS :=
(if (x.2.2.1 3) ≤ x.1 then
lpN (BMo_analyse_86) 100000 (0, x.2)
else
(if x.1 = 0 then
if inb (x.2.2.1 4) 122 then
if inb (((x.2.2.1 4) + 1) - 1) 122 then
k16 (x.1 + 1, ((va_up (va_up x.2.1 16 (upd (x.2.1 16) (x.2.2.1 4).toNatClampNeg x.1)) 17 (upd (x.2.1 17) (((x.2.2.1 4) + 1) - 1).toNatClampNeg (x.1 + 1))), (va_up x.2.2.1 4 ((x.2.2.1 4) + 1)), x.2.2.2)) else none else none
else
(f_Mo_isFn x.1 x.2).bind fun q13 =>
(if q13.1 = 0 then
if inb ((q13.2.2.1 4) - 1) 122 then
k16 (x.1 + 1, ((va_up q13.2.1 17 (upd (q13.2.1 17) ((q13.2.2.1 4) - 1).toNatClampNeg (x.1 + 1))), q13.2.2.1, q13.2.2.2)) else none
else
(if 4 ≤ (q13.2.2.1 4) then
if inb ((q13.2.2.1 4) - 1) 122 then
k16 (x.1 + 1, ((va_up q13.2.1 17 (upd (q13.2.1 17) ((q13.2.2.1 4) - 1).toNatClampNeg (x.1 + 1))), q13.2.2.1, q13.2.2.2)) else none
else
if inb (q13.2.2.1 4) 122 then
if inb (((q13.2.2.1 4) + 1) - 1) 122 then
k16 (x.1 + 1, ((va_up (va_up q13.2.1 16 (upd (q13.2.1 16) (q13.2.2.1 4).toNatClampNeg x.1)) 17 (upd (q13.2.1 17) (((q13.2.2.1 4) + 1) - 1).toNatClampNeg (x.1 + 1))), (va_up q13.2.2.1 4 ((q13.2.2.1 4) + 1)), q13.2.2.2)) else none else none))))
def f_Mo_analyse  (r : RS) : Option RS :=
(f_Mo_scan r).bind fun q1 =>
lpN (BMo_analyse_16) 100000 (0, (q1.1, (va_up (va_up q1.2.1 4 0) 5 0), q1.2.2))
def f_Mo_tokens  (r : RS) : Option (Int32 × RS) :=
(f_Mo_analyse (r.1, (va_up r.2.1 0 0), r.2.2)).bind fun q1 =>
some (q1.2.1 3, q1)
def f_Mo_token (a1 : Int32) (a2 : Int32) (r : RS) : Option (Int32 × RS) :=
(if a2 < 0 then
(f_Mo_fails 1 (r.1, (va_up r.2.1 0 0), r.2.2)).bind fun q2 =>
some (q2.1, q2.2)
else
(if a2 ≤ 3 then
(f_Mo_analyse (r.1, (va_up r.2.1 0 0), r.2.2)).bind fun q4 =>
(if a1 < 0 then
(f_Mo_fails 2 q4).bind fun q6 =>
some (q6.1, q6.2)
else
(if a1 < (q4.2.1 3) then
(if a2 = 0 then
if inb a1 240 then
some (q4.1 5 a1.toNatClampNeg, q4) else none
else
(if a2 = 1 then
if inb a1 240 then
some (q4.1 6 a1.toNatClampNeg, q4) else none
else
(if a2 = 2 then
if inb a1 240 then
some (q4.1 7 a1.toNatClampNeg, q4) else none
else
if inb a1 240 then
some (q4.1 10 a1.toNatClampNeg, q4) else none)))
else
(f_Mo_fails 2 q4).bind fun q15 =>
some (q15.1, q15.2)))
else
(f_Mo_fails 1 (r.1, (va_up r.2.1 0 0), r.2.2)).bind fun q16 =>
some (q16.1, q16.2)))
def f_Mo_faults  (r : RS) : Option (Int32 × RS) :=
(f_Mo_analyse (r.1, (va_up r.2.1 0 0), r.2.2)).bind fun q1 =>
some (q1.2.1 5, q1)
def f_Mo_fault (a1 : Int32) (r : RS) : Option (Int32 × RS) :=
(f_Mo_analyse (r.1, (va_up r.2.1 0 0), r.2.2)).bind fun q1 =>
(if a1 < 0 then
(f_Mo_fails 1 q1).bind fun q3 =>
some (q3.1, q3.2)
else
(if a1 < (q1.2.1 5) then
if inb a1 400 then
some (q1.1 20 a1.toNatClampNeg, q1) else none
else
(f_Mo_fails 1 q1).bind fun q6 =>
some (q6.1, q6.2)))
def BMo_boundAt_2 (k2 : Int32 × Int32 × RS → Option (Int32 × RS)) (x : Int32 × Int32 × RS) : Option (Int32 × RS) :=
(if (x.2.2.2.1 3) ≤ x.2.1 then
some ((-1), x.2.2)
else
if inb x.2.1 240 then
(if x.1 < (x.2.2.1 6 x.2.1.toNatClampNeg) then
k2 (x.1, x.2.1 + 1, x.2.2)
else
if inb x.2.1 240 then
(if (x.2.2.1 7 x.2.1.toNatClampNeg) ≤ x.1 then
k2 (x.1, x.2.1 + 1, x.2.2)
else
if inb x.2.1 240 then
some (x.2.2.1 10 x.2.1.toNatClampNeg, x.2.2) else none) else none) else none)
def f_Mo_boundAt (a1 : Int32) (r : RS) : Option (Int32 × RS) :=
lpN (BMo_boundAt_2) 100000 (a1, 0, r)
def BMo_reference_35 (k35 : Int32 × Int32 × Int32 × Int32 × Int32 × RS → Option (Int32 × RS)) (x : Int32 × Int32 × Int32 × Int32 × Int32 × RS) : Option (Int32 × RS) :=
(if (x.2.2.2.2.2.2.1 3) ≤ x.2.2.2.2.1 then
some ((-1), x.2.2.2.2.2)
else
if inb x.2.2.2.2.1 240 then
bindv (x.2.2.2.2.2.1 10 x.2.2.2.2.1.toNatClampNeg) fun v8 =>
(if v8 = x.2.2.1 then
(if x.2.2.2.1 = x.2.1 then
if inb x.2.2.2.2.1 240 then
bindv (x.2.2.2.2.2.1 6 x.2.2.2.2.1.toNatClampNeg) fun v12 =>
some (v12, x.2.2.2.2.2) else none
else
k35 (x.1, x.2.1, x.2.2.1, x.2.2.2.1 + 1, x.2.2.2.2.1 + 1, x.2.2.2.2.2))
else
k35 (x.1, x.2.1, x.2.2.1, x.2.2.2.1, x.2.2.2.2.1 + 1, x.2.2.2.2.2)) else none)
def f_Mo_reference (a1 : Int32) (a2 : Int32) (r : RS) : Option (Int32 × RS) :=
(f_Mo_analyse (r.1, (va_up r.2.1 0 0), r.2.2)).bind fun q1 =>
(f_Mo_boundAt a1 q1).bind fun q2 =>
(if q2.1 < 0 then
(f_Mo_fails 1 q2.2).bind fun q4 =>
some (q4.1, q4.2)
else
(if 0 ≤ a2 then
lpN (BMo_reference_35) 100000 (a1, a2, q2.1, 0, 0, q2.2)
else
(f_Mo_fails 1 q2.2).bind fun q13 =>
some (q13.1, q13.2)))
def BMo_keep_38 (k38 : Int32 × RS → Option RS) (x : Int32 × RS) : Option RS :=
(if (x.2.2.1 3) ≤ x.1 then
some x.2
else
if inb x.1 240 then
if inb x.1 240 then
k38 (x.1 + 1, ((va_up x.2.1 11 (upd (x.2.1 11) x.1.toNatClampNeg (x.2.1 10 x.1.toNatClampNeg))), x.2.2.1, x.2.2.2)) else none else none)
def BMo_keep_2 (k2 : Int32 × RS → Option RS) (x : Int32 × RS) : Option RS :=
(if (x.2.2.1 1) ≤ x.1 then
lpN (BMo_keep_38) 100000 (0, (x.2.1, (va_up x.2.2.1 2 (x.2.2.1 1)), x.2.2.2))
else
if inb x.1 240 then
if inb x.1 240 then
k2 (x.1 + 1, ((va_up x.2.1 3 (upd (x.2.1 3) x.1.toNatClampNeg (x.2.1 2 x.1.toNatClampNeg))), x.2.2.1, x.2.2.2)) else none else none)
def f_Mo_keep  (r : RS) : Option RS :=
lpN (BMo_keep_2) 100000 (0, r)
def BMo_takeBack_2 (k2 : Int32 × Int32 × RS → Option (Int32 × RS)) (x : Int32 × Int32 × RS) : Option (Int32 × RS) :=
(if (x.2.2.2.1 2) ≤ x.2.1 then
(f_Mo_fails x.1 (x.2.2.1, (va_up x.2.2.2.1 1 (x.2.2.2.1 2)), x.2.2.2.2)).bind fun q2 =>
some (q2.1, q2.2)
else
if inb x.2.1 240 then
if inb x.2.1 240 then
k2 (x.1, x.2.1 + 1, ((va_up x.2.2.1 2 (upd (x.2.2.1 2) x.2.1.toNatClampNeg (x.2.2.1 3 x.2.1.toNatClampNeg))), x.2.2.2.1, x.2.2.2.2)) else none else none)
def f_Mo_takeBack (a1 : Int32) (r : RS) : Option (Int32 × RS) :=
lpN (BMo_takeBack_2) 100000 (a1, 0, r)
def BMo_becomeFresh_2 (k2 : Int32 × Int32 × RS → Option RS) (x : Int32 × Int32 × RS) : Option RS :=
(if x.1 ≤ x.2.1 then
some (x.2.2.1, (va_up x.2.2.2.1 1 x.1), x.2.2.2.2)
else
if inb x.2.1 240 then
if inb x.2.1 240 then
k2 (x.1, x.2.1 + 1, ((va_up x.2.2.1 2 (upd (x.2.2.1 2) x.2.1.toNatClampNeg (x.2.2.1 4 x.2.1.toNatClampNeg))), x.2.2.2.1, x.2.2.2.2)) else none else none)
def f_Mo_becomeFresh (a1 : Int32) (r : RS) : Option RS :=
lpN (BMo_becomeFresh_2) 100000 (a1, 0, r)
def BMo_isWord_31 (k31 : Int64 × Int32 × Int32 × Int32 → Option Int32) (x : Int64 × Int32 × Int32 × Int32) : Option Int32 :=
(if x.2.1 ≤ x.2.2.2 then
if isb x.2.2.1 then
some x.2.2.1 else none
else
(if x.2.2.1 = 0 then
if isb x.2.2.1 then
some x.2.2.1 else none
else
bindv ((x.1 >>> ((5 * x.2.2.2).toInt64 &&& 63)) &&& 31) fun v7 =>
(if (lg_cmp v7 1) < 0 then
k31 (x.1, x.2.1, 0, x.2.2.2 + 1)
else
bindv ((x.1 >>> ((5 * x.2.2.2).toInt64 &&& 63)) &&& 31) fun v9 =>
(if 0 < (lg_cmp v9 26) then
k31 (x.1, x.2.1, 0, x.2.2.2 + 1)
else
k31 (x.1, x.2.1, 1, x.2.2.2 + 1)))))
def f_Mo_isWord (a0 : Int64)  : Option Int32 :=
(f_Mo_letters a0).bind fun q1 =>
(if q1 < 1 then
lpN (BMo_isWord_31) 100000 (a0, q1, 0, 0)
else
(if 6 < q1 then
lpN (BMo_isWord_31) 100000 (a0, q1, 0, 0)
else
(if (lg_cmp a0 0) ≤ 0 then
lpN (BMo_isWord_31) 100000 (a0, q1, 0, 0)
else
lpN (BMo_isWord_31) 100000 (a0, q1, 1, 0))))
def BMo_spell_80 (k9 : Int32 × Int64 × Int32 × Int32 × Int32 × Int32 × RS → Option RS) (k18 : Int32 × Int64 × Int32 × Int32 × Int32 × Int32 × RS → Option RS) (k80 : Int32 × Int64 × Int32 × Int32 × Int32 × Int32 × Int32 × RS → Option RS) (x : Int32 × Int64 × Int32 × Int32 × Int32 × Int32 × Int32 × RS) : Option RS :=
(if x.2.2.1 ≤ x.2.2.2.2.2.2.1 then
if inb x.2.2.2.2.1 240 then
bindv (x.2.2.2.2.2.2.2.1 7 x.2.2.2.2.1.toNatClampNeg) fun v22 =>
k9 (x.1, x.2.1, x.2.2.1, x.2.2.2.1 + x.2.2.1, x.2.2.2.2.1, v22, x.2.2.2.2.2.2.2) else none
else
bindv (x.2.1 >>> ((5 * x.2.2.2.2.2.2.1).toInt64 &&& 63)) fun v23 =>
if inb (x.2.2.2.1 + x.2.2.2.2.2.2.1) 240 then
k80 (x.1, x.2.1, x.2.2.1, x.2.2.2.1, x.2.2.2.2.1, x.2.2.2.2.2.1, x.2.2.2.2.2.2.1 + 1, ((va_up x.2.2.2.2.2.2.2.1 4 (upd (x.2.2.2.2.2.2.2.1 4) (x.2.2.2.1 + x.2.2.2.2.2.2.1).toNatClampNeg (96 + ((v23 &&& 31).toInt32)))), x.2.2.2.2.2.2.2.2.1, x.2.2.2.2.2.2.2.2.2)) else none)
def BMo_spell_18 (k9 : Int32 × Int64 × Int32 × Int32 × Int32 × Int32 × RS → Option RS) (k18 : Int32 × Int64 × Int32 × Int32 × Int32 × Int32 × RS → Option RS) (x : Int32 × Int64 × Int32 × Int32 × Int32 × Int32 × RS) : Option RS :=
(if (x.2.2.2.2.2.2.2.1 3) ≤ x.2.2.2.2.1 then
(if (x.2.2.2.2.2.2.2.1 3) ≤ x.2.2.2.2.1 then
if inb x.2.2.2.2.2.1 240 then
bindv (x.2.2.2.2.2.2.1 2 x.2.2.2.2.2.1.toNatClampNeg) fun v6 =>
if inb x.2.2.2.1 240 then
k9 (x.1, x.2.1, x.2.2.1, x.2.2.2.1 + 1, x.2.2.2.2.1, x.2.2.2.2.2.1 + 1, ((va_up x.2.2.2.2.2.2.1 4 (upd (x.2.2.2.2.2.2.1 4) x.2.2.2.1.toNatClampNeg v6)), x.2.2.2.2.2.2.2.1, x.2.2.2.2.2.2.2.2)) else none else none
else
if inb x.2.2.2.2.1 240 then
bindv (x.2.2.2.2.2.2.1 6 x.2.2.2.2.1.toNatClampNeg) fun v9 =>
(if v9 = x.2.2.2.2.2.1 then
if inb x.2.2.2.2.1 240 then
bindv (x.2.2.2.2.2.2.1 10 x.2.2.2.2.1.toNatClampNeg) fun v15 =>
(if v15 = x.1 then
lpN (BMo_spell_80 k9 k18) 100000 (x.1, x.2.1, x.2.2.1, x.2.2.2.1, x.2.2.2.2.1, x.2.2.2.2.2.1, 0, x.2.2.2.2.2.2)
else
if inb x.2.2.2.2.2.1 240 then
bindv (x.2.2.2.2.2.2.1 2 x.2.2.2.2.2.1.toNatClampNeg) fun v18 =>
if inb x.2.2.2.1 240 then
k9 (x.1, x.2.1, x.2.2.1, x.2.2.2.1 + 1, x.2.2.2.2.1, x.2.2.2.2.2.1 + 1, ((va_up x.2.2.2.2.2.2.1 4 (upd (x.2.2.2.2.2.2.1 4) x.2.2.2.1.toNatClampNeg v18)), x.2.2.2.2.2.2.2.1, x.2.2.2.2.2.2.2.2)) else none else none) else none
else
if inb x.2.2.2.2.2.1 240 then
bindv (x.2.2.2.2.2.2.1 2 x.2.2.2.2.2.1.toNatClampNeg) fun v12 =>
if inb x.2.2.2.1 240 then
k9 (x.1, x.2.1, x.2.2.1, x.2.2.2.1 + 1, x.2.2.2.2.1, x.2.2.2.2.2.1 + 1, ((va_up x.2.2.2.2.2.2.1 4 (upd (x.2.2.2.2.2.2.1 4) x.2.2.2.1.toNatClampNeg v12)), x.2.2.2.2.2.2.2.1, x.2.2.2.2.2.2.2.2)) else none else none) else none)
else
if inb x.2.2.2.2.1 240 then
bindv (x.2.2.2.2.2.2.1 7 x.2.2.2.2.1.toNatClampNeg) fun v26 =>
(if x.2.2.2.2.2.1 < v26 then
(if (x.2.2.2.2.2.2.2.1 3) ≤ x.2.2.2.2.1 then
if inb x.2.2.2.2.2.1 240 then
bindv (x.2.2.2.2.2.2.1 2 x.2.2.2.2.2.1.toNatClampNeg) fun v30 =>
if inb x.2.2.2.1 240 then
k9 (x.1, x.2.1, x.2.2.1, x.2.2.2.1 + 1, x.2.2.2.2.1, x.2.2.2.2.2.1 + 1, ((va_up x.2.2.2.2.2.2.1 4 (upd (x.2.2.2.2.2.2.1 4) x.2.2.2.1.toNatClampNeg v30)), x.2.2.2.2.2.2.2.1, x.2.2.2.2.2.2.2.2)) else none else none
else
if inb x.2.2.2.2.1 240 then
bindv (x.2.2.2.2.2.2.1 6 x.2.2.2.2.1.toNatClampNeg) fun v33 =>
(if v33 = x.2.2.2.2.2.1 then
if inb x.2.2.2.2.1 240 then
bindv (x.2.2.2.2.2.2.1 10 x.2.2.2.2.1.toNatClampNeg) fun v39 =>
(if v39 = x.1 then
lpN (BMo_spell_80 k9 k18) 100000 (x.1, x.2.1, x.2.2.1, x.2.2.2.1, x.2.2.2.2.1, x.2.2.2.2.2.1, 0, x.2.2.2.2.2.2)
else
if inb x.2.2.2.2.2.1 240 then
bindv (x.2.2.2.2.2.2.1 2 x.2.2.2.2.2.1.toNatClampNeg) fun v42 =>
if inb x.2.2.2.1 240 then
k9 (x.1, x.2.1, x.2.2.1, x.2.2.2.1 + 1, x.2.2.2.2.1, x.2.2.2.2.2.1 + 1, ((va_up x.2.2.2.2.2.2.1 4 (upd (x.2.2.2.2.2.2.1 4) x.2.2.2.1.toNatClampNeg v42)), x.2.2.2.2.2.2.2.1, x.2.2.2.2.2.2.2.2)) else none else none) else none
else
if inb x.2.2.2.2.2.1 240 then
bindv (x.2.2.2.2.2.2.1 2 x.2.2.2.2.2.1.toNatClampNeg) fun v36 =>
if inb x.2.2.2.1 240 then
k9 (x.1, x.2.1, x.2.2.1, x.2.2.2.1 + 1, x.2.2.2.2.1, x.2.2.2.2.2.1 + 1, ((va_up x.2.2.2.2.2.2.1 4 (upd (x.2.2.2.2.2.2.1 4) x.2.2.2.1.toNatClampNeg v36)), x.2.2.2.2.2.2.2.1, x.2.2.2.2.2.2.2.2)) else none else none) else none)
else
k18 (x.1, x.2.1, x.2.2.1, x.2.2.2.1, x.2.2.2.2.1 + 1, x.2.2.2.2.2.1, x.2.2.2.2.2.2)) else none)
def BMo_spell_9 (k9 : Int32 × Int64 × Int32 × Int32 × Int32 × Int32 × RS → Option RS) (x : Int32 × Int64 × Int32 × Int32 × Int32 × Int32 × RS) : Option RS :=
(if (x.2.2.2.2.2.2.2.1 1) ≤ x.2.2.2.2.2.1 then
(f_Mo_becomeFresh x.2.2.2.1 x.2.2.2.2.2.2).bind fun q2 =>
some q2
else
lpN (BMo_spell_18 k9) 100000 (x.1, x.2.1, x.2.2.1, x.2.2.2.1, x.2.2.2.2.1, x.2.2.2.2.2.1, x.2.2.2.2.2.2))
def f_Mo_spell (a1 : Int32) (a2 : Int64) (a4 : Int32) (r : RS) : Option RS :=
lpN (BMo_spell_9) 100000 (a1, a2, a4, 0, 0, 0, r)
def BMo_rename_216 (k216 : Int32 × Int64 × Int32 × Int32 × Int32 × Int32 × Int32 × Int32 × Int32 × Int32 × RS → Option (Int32 × RS)) (x : Int32 × Int64 × Int32 × Int32 × Int32 × Int32 × Int32 × Int32 × Int32 × Int32 × RS) : Option (Int32 × RS) :=
(if x.2.2.2.2.2.2.2.1 ≤ x.2.2.2.2.2.2.2.2.2.1 then
(if x.2.2.2.2.2.2.2.2.1 = 0 then
(f_Mo_takeBack 4 x.2.2.2.2.2.2.2.2.2.2).bind fun q20 =>
some (q20.1, q20.2)
else
some (x.2.2.2.2.1, x.2.2.2.2.2.2.2.2.2.2))
else
(if x.2.2.2.2.2.2.2.2.1 = 0 then
(if x.2.2.2.2.2.2.2.2.1 = 0 then
(f_Mo_takeBack 4 x.2.2.2.2.2.2.2.2.2.2).bind fun q23 =>
some (q23.1, q23.2)
else
some (x.2.2.2.2.1, x.2.2.2.2.2.2.2.2.2.2))
else
if inb x.2.2.2.2.2.2.2.2.2.1 240 then
bindv (x.2.2.2.2.2.2.2.2.2.2.1 10 x.2.2.2.2.2.2.2.2.2.1.toNatClampNeg) fun v25 =>
if inb x.2.2.2.2.2.2.2.2.2.1 240 then
bindv (x.2.2.2.2.2.2.2.2.2.2.1 11 x.2.2.2.2.2.2.2.2.2.1.toNatClampNeg) fun v27 =>
(if v25 = v27 then
k216 (x.1, x.2.1, x.2.2.1, x.2.2.2.1, x.2.2.2.2.1, x.2.2.2.2.2.1, x.2.2.2.2.2.2.1, x.2.2.2.2.2.2.2.1, 1, x.2.2.2.2.2.2.2.2.2.1 + 1, x.2.2.2.2.2.2.2.2.2.2)
else
k216 (x.1, x.2.1, x.2.2.1, x.2.2.2.1, x.2.2.2.2.1, x.2.2.2.2.2.1, x.2.2.2.2.2.2.1, x.2.2.2.2.2.2.2.1, 0, x.2.2.2.2.2.2.2.2.2.1 + 1, x.2.2.2.2.2.2.2.2.2.2)) else none else none))
def BMo_rename_79 (k79 : Int32 × Int64 × Int32 × Int32 × Int32 × Int32 × Int32 × RS → Option (Int32 × RS)) (x : Int32 × Int64 × Int32 × Int32 × Int32 × Int32 × Int32 × RS) : Option (Int32 × RS) :=
(if (x.2.2.2.2.2.2.2.2.1 3) ≤ x.2.2.2.2.2.2.1 then
(if x.2.2.2.2.2.1 ≤ 240 then
(f_Mo_keep x.2.2.2.2.2.2.2).bind fun q13 =>
(f_Mo_functionNamed 468013 q13).bind fun q14 =>
(f_Mo_spell x.2.2.1 x.2.1 x.2.2.2.1 q14.2).bind fun q15 =>
(f_Mo_analyse q15).bind fun q16 =>
(if (q16.2.1 5) = 0 then
(if (q16.2.1 3) = (q14.2.2.1 3) then
(f_Mo_functionNamed 468013 q16).bind fun q30 =>
(if q30.1 = q14.1 then
lpN (BMo_rename_216) 100000 (x.1, x.2.1, x.2.2.1, x.2.2.2.1, x.2.2.2.2.1, x.2.2.2.2.2.1, q14.1, q14.2.2.1 3, 1, 0, q30.2)
else
lpN (BMo_rename_216) 100000 (x.1, x.2.1, x.2.2.1, x.2.2.2.1, x.2.2.2.2.1, x.2.2.2.2.2.1, q14.1, q14.2.2.1 3, 0, 0, q30.2))
else
lpN (BMo_rename_216) 100000 (x.1, x.2.1, x.2.2.1, x.2.2.2.1, x.2.2.2.2.1, x.2.2.2.2.2.1, q14.1, q14.2.2.1 3, 0, 0, q16))
else
lpN (BMo_rename_216) 100000 (x.1, x.2.1, x.2.2.1, x.2.2.2.1, x.2.2.2.2.1, x.2.2.2.2.2.1, q14.1, q14.2.2.1 3, 0, 0, q16))
else
(f_Mo_fails 2 x.2.2.2.2.2.2.2).bind fun q32 =>
some (q32.1, q32.2))
else
if inb x.2.2.2.2.2.2.1 240 then
bindv (x.2.2.2.2.2.2.2.1 10 x.2.2.2.2.2.2.1.toNatClampNeg) fun v34 =>
(if v34 = x.2.2.1 then
if inb x.2.2.2.2.2.2.1 240 then
bindv (x.2.2.2.2.2.2.2.1 7 x.2.2.2.2.2.2.1.toNatClampNeg) fun v37 =>
if inb x.2.2.2.2.2.2.1 240 then
bindv (x.2.2.2.2.2.2.2.1 6 x.2.2.2.2.2.2.1.toNatClampNeg) fun v39 =>
bindv (x.2.2.2.2.2.1 + (x.2.2.2.1 - (v37 - v39))) fun v40 =>
k79 (x.1, x.2.1, x.2.2.1, x.2.2.2.1, x.2.2.2.2.1 + 1, v40, x.2.2.2.2.2.2.1 + 1, x.2.2.2.2.2.2.2) else none else none
else
k79 (x.1, x.2.1, x.2.2.1, x.2.2.2.1, x.2.2.2.2.1, x.2.2.2.2.2.1, x.2.2.2.2.2.2.1 + 1, x.2.2.2.2.2.2.2)) else none)
def f_Mo_rename (a1 : Int32) (a2 : Int64) (r : RS) : Option (Int32 × RS) :=
(f_Mo_isWord a2).bind fun q1 =>
(if q1 = 0 then
(f_Mo_fails 1 (r.1, (va_up r.2.1 0 0), r.2.2)).bind fun q3 =>
some (q3.1, q3.2)
else
(f_Mo_keyword a2 (r.1, (va_up r.2.1 0 0), r.2.2)).bind fun q4 =>
(if q4.1 < 0 then
(f_Mo_analyse q4.2).bind fun q6 =>
(if (q6.2.1 5) ≤ 0 then
(f_Mo_boundAt a1 q6).bind fun q8 =>
(if 0 ≤ q8.1 then
(f_Mo_letters a2).bind fun q10 =>
lpN (BMo_rename_79) 100000 (a1, a2, q8.1, q10, 0, q8.2.2.1 1, 0, q8.2)
else
(f_Mo_fails 3 q8.2).bind fun q41 =>
some (q41.1, q41.2))
else
(f_Mo_fails 2 q6).bind fun q42 =>
some (q42.1, q42.2))
else
(f_Mo_fails 1 q4.2).bind fun q43 =>
some (q43.1, q43.2)))
def BMo_isHeld_173 (k173 : Int32 × Int32 × Int32 × Int32 × Int32 × RS → Option (Int32 × RS)) (x : Int32 × Int32 × Int32 × Int32 × Int32 × RS) : Option (Int32 × RS) :=
if inb x.1 240 then
(if (x.2.2.2.2.2.1 15 x.1.toNatClampNeg) ≤ x.2.2.2.2.1 then
if isb x.2.2.2.1 then
some (x.2.2.2.1, x.2.2.2.2.2) else none
else
(if x.2.2.2.1 = 0 then
if inb x.2.2.2.2.1 240 then
bindv (x.2.2.2.2.2.1 9 x.2.2.2.2.1.toNatClampNeg) fun v7 =>
(if v7 = 4 then
if inb x.2.2.2.2.1 240 then
bindv (x.2.2.2.2.2.1 10 x.2.2.2.2.1.toNatClampNeg) fun v10 =>
(if v10 = x.1 then
k173 (x.1, x.2.1, x.2.2.1, 1, x.2.2.2.2.1 + 1, x.2.2.2.2.2)
else
k173 (x.1, x.2.1, x.2.2.1, 0, x.2.2.2.2.1 + 1, x.2.2.2.2.2)) else none
else
k173 (x.1, x.2.1, x.2.2.1, 0, x.2.2.2.2.1 + 1, x.2.2.2.2.2)) else none
else
k173 (x.1, x.2.1, x.2.2.1, 1, x.2.2.2.2.1 + 1, x.2.2.2.2.2))) else none
def BMo_isHeld_39 (k6 : Int32 × Int32 × Int32 × Int32 × Int32 × RS → Option (Int32 × RS)) (k39 : Int32 × Int32 × Int32 × Int32 × Int32 × Int32 × RS → Option (Int32 × RS)) (x : Int32 × Int32 × Int32 × Int32 × Int32 × Int32 × RS) : Option (Int32 × RS) :=
if inb x.1 240 then
(if (x.2.2.2.2.2.2.1 15 x.1.toNatClampNeg) ≤ x.2.2.2.2.2.1 then
k6 (x.1, x.2.1, x.2.2.1, x.2.2.2.1, x.2.2.2.2.1 + 1, x.2.2.2.2.2.2)
else
if inb x.2.2.2.2.1 240 then
bindv (x.2.2.2.2.2.2.1 9 x.2.2.2.2.1.toNatClampNeg) fun v16 =>
(if v16 = 5 then
(if x.2.2.2.1 = 0 then
if inb x.2.2.2.2.2.1 240 then
bindv (x.2.2.2.2.2.2.1 9 x.2.2.2.2.2.1.toNatClampNeg) fun v20 =>
(if v20 = 4 then
if inb x.2.2.2.2.2.1 240 then
bindv (x.2.2.2.2.2.2.1 10 x.2.2.2.2.2.1.toNatClampNeg) fun v34 =>
if inb x.2.2.2.2.1 240 then
bindv (x.2.2.2.2.2.2.1 10 x.2.2.2.2.1.toNatClampNeg) fun v36 =>
(if v34 = v36 then
k39 (x.1, x.2.1, x.2.2.1, 1, x.2.2.2.2.1, x.2.2.2.2.2.1 + 1, x.2.2.2.2.2.2)
else
if inb x.2.2.2.2.2.1 240 then
bindv (x.2.2.2.2.2.2.1 9 x.2.2.2.2.2.1.toNatClampNeg) fun v39 =>
(if v39 = 5 then
if inb x.2.2.2.2.2.1 240 then
bindv (x.2.2.2.2.2.2.1 10 x.2.2.2.2.2.1.toNatClampNeg) fun v42 =>
(if v42 = x.1 then
if inb x.2.2.2.2.1 240 then
bindv (x.2.2.2.2.2.2.2.2 8 x.2.2.2.2.1.toNatClampNeg) fun v45 =>
(f_Mo_meaning v45 x.2.2.2.2.2.1 x.2.2.2.2.2.2).bind fun q46 =>
if inb x.2.2.2.2.1 240 then
(if q46.1 = (q46.2.1 10 x.2.2.2.2.1.toNatClampNeg) then
k39 (x.1, x.2.1, x.2.2.1, 0, x.2.2.2.2.1, x.2.2.2.2.2.1 + 1, q46.2)
else
k39 (x.1, x.2.1, x.2.2.1, 1, x.2.2.2.2.1, x.2.2.2.2.2.1 + 1, q46.2)) else none else none
else
k39 (x.1, x.2.1, x.2.2.1, 0, x.2.2.2.2.1, x.2.2.2.2.2.1 + 1, x.2.2.2.2.2.2)) else none
else
k39 (x.1, x.2.1, x.2.2.1, 0, x.2.2.2.2.1, x.2.2.2.2.2.1 + 1, x.2.2.2.2.2.2)) else none) else none else none
else
if inb x.2.2.2.2.2.1 240 then
bindv (x.2.2.2.2.2.2.1 9 x.2.2.2.2.2.1.toNatClampNeg) fun v23 =>
(if v23 = 5 then
if inb x.2.2.2.2.2.1 240 then
bindv (x.2.2.2.2.2.2.1 10 x.2.2.2.2.2.1.toNatClampNeg) fun v26 =>
(if v26 = x.1 then
if inb x.2.2.2.2.1 240 then
bindv (x.2.2.2.2.2.2.2.2 8 x.2.2.2.2.1.toNatClampNeg) fun v29 =>
(f_Mo_meaning v29 x.2.2.2.2.2.1 x.2.2.2.2.2.2).bind fun q30 =>
if inb x.2.2.2.2.1 240 then
(if q30.1 = (q30.2.1 10 x.2.2.2.2.1.toNatClampNeg) then
k39 (x.1, x.2.1, x.2.2.1, 0, x.2.2.2.2.1, x.2.2.2.2.2.1 + 1, q30.2)
else
k39 (x.1, x.2.1, x.2.2.1, 1, x.2.2.2.2.1, x.2.2.2.2.2.1 + 1, q30.2)) else none else none
else
k39 (x.1, x.2.1, x.2.2.1, 0, x.2.2.2.2.1, x.2.2.2.2.2.1 + 1, x.2.2.2.2.2.2)) else none
else
k39 (x.1, x.2.1, x.2.2.1, 0, x.2.2.2.2.1, x.2.2.2.2.2.1 + 1, x.2.2.2.2.2.2)) else none) else none
else
k39 (x.1, x.2.1, x.2.2.1, 1, x.2.2.2.2.1, x.2.2.2.2.2.1 + 1, x.2.2.2.2.2.2))
else
k6 (x.1, x.2.1, x.2.2.1, x.2.2.2.1, x.2.2.2.2.1 + 1, x.2.2.2.2.2.2)) else none) else none
def BMo_isHeld_6 (k6 : Int32 × Int32 × Int32 × Int32 × Int32 × RS → Option (Int32 × RS)) (x : Int32 × Int32 × Int32 × Int32 × Int32 × RS) : Option (Int32 × RS) :=
(if x.2.2.1 ≤ x.2.2.2.2.1 then
lpN (BMo_isHeld_173) 100000 (x.1, x.2.1, x.2.2.1, x.2.2.2.1, x.2.2.1, x.2.2.2.2.2)
else
(if x.2.2.2.1 = 0 then
if inb x.2.2.2.2.1 240 then
bindv (x.2.2.2.2.2.1 9 x.2.2.2.2.1.toNatClampNeg) fun v50 =>
(if v50 = 6 then
lpN (BMo_isHeld_39 k6) 100000 (x.1, x.2.1, x.2.2.1, 1, x.2.2.2.2.1, x.2.2.1, x.2.2.2.2.2)
else
lpN (BMo_isHeld_39 k6) 100000 (x.1, x.2.1, x.2.2.1, 0, x.2.2.2.2.1, x.2.2.1, x.2.2.2.2.2)) else none
else
lpN (BMo_isHeld_39 k6) 100000 (x.1, x.2.1, x.2.2.1, 1, x.2.2.2.2.1, x.2.2.1, x.2.2.2.2.2)))
def f_Mo_isHeld (a1 : Int32) (a2 : Int32) (a3 : Int32) (r : RS) : Option (Int32 × RS) :=
lpN (BMo_isHeld_6) 100000 (a1, a2, a3, 0, a2, r)
def BMo_unfold_139 (k9 : Int32 × Int32 × Int32 × Int32 × Int32 × Int32 × RS → Option RS) (k18 : Int32 × Int32 × Int32 × Int32 × Int32 × Int32 × RS → Option RS) (k139 : Int32 × Int32 × Int32 × Int32 × Int32 × Int32 × Int32 × RS → Option RS) (x : Int32 × Int32 × Int32 × Int32 × Int32 × Int32 × Int32 × RS) : Option RS :=
if inb (x.2.2.1 - 1) 240 then
bindv (x.2.2.2.2.2.2.2.1 7 (x.2.2.1 - 1).toNatClampNeg) fun v30 =>
(if v30 ≤ x.2.2.2.2.2.2.1 then
if inb x.2.2.2.1 240 then
if inb x.2.2.2.2.1 240 then
bindv (x.2.2.2.2.2.2.2.1 7 x.2.2.2.2.1.toNatClampNeg) fun v34 =>
k9 (x.1, x.2.1, x.2.2.1, x.2.2.2.1 + 1, x.2.2.2.2.1, v34, ((va_up x.2.2.2.2.2.2.2.1 4 (upd (x.2.2.2.2.2.2.2.1 4) x.2.2.2.1.toNatClampNeg 41)), x.2.2.2.2.2.2.2.2.1, x.2.2.2.2.2.2.2.2.2)) else none else none
else
if inb x.2.2.2.2.2.2.1 240 then
bindv (x.2.2.2.2.2.2.2.1 2 x.2.2.2.2.2.2.1.toNatClampNeg) fun v36 =>
if inb x.2.2.2.1 240 then
k139 (x.1, x.2.1, x.2.2.1, x.2.2.2.1 + 1, x.2.2.2.2.1, x.2.2.2.2.2.1, x.2.2.2.2.2.2.1 + 1, ((va_up x.2.2.2.2.2.2.2.1 4 (upd (x.2.2.2.2.2.2.2.1 4) x.2.2.2.1.toNatClampNeg v36)), x.2.2.2.2.2.2.2.2.1, x.2.2.2.2.2.2.2.2.2)) else none else none) else none
def BMo_unfold_18 (k9 : Int32 × Int32 × Int32 × Int32 × Int32 × Int32 × RS → Option RS) (k18 : Int32 × Int32 × Int32 × Int32 × Int32 × Int32 × RS → Option RS) (x : Int32 × Int32 × Int32 × Int32 × Int32 × Int32 × RS) : Option RS :=
(if (x.2.2.2.2.2.2.2.1 3) ≤ x.2.2.2.2.1 then
(if x.2.2.2.2.1 = (x.1 - 1) then
if inb x.2.2.2.2.1 240 then
bindv (x.2.2.2.2.2.2.1 6 x.2.2.2.2.1.toNatClampNeg) fun v39 =>
(if x.2.2.2.2.2.1 = v39 then
if inb x.2.2.1 240 then
k9 (x.1, x.2.1, x.2.2.1, x.2.2.2.1, x.2.2.2.2.1, x.2.2.2.2.2.2.1 7 x.2.2.1.toNatClampNeg, x.2.2.2.2.2.2) else none
else
(if (x.2.2.2.2.2.2.2.1 3) ≤ x.2.2.2.2.1 then
if inb x.2.2.2.2.2.1 240 then
bindv (x.2.2.2.2.2.2.1 2 x.2.2.2.2.2.1.toNatClampNeg) fun v43 =>
if inb x.2.2.2.1 240 then
k9 (x.1, x.2.1, x.2.2.1, x.2.2.2.1 + 1, x.2.2.2.2.1, x.2.2.2.2.2.1 + 1, ((va_up x.2.2.2.2.2.2.1 4 (upd (x.2.2.2.2.2.2.1 4) x.2.2.2.1.toNatClampNeg v43)), x.2.2.2.2.2.2.2.1, x.2.2.2.2.2.2.2.2)) else none else none
else
if inb x.2.2.2.2.1 240 then
bindv (x.2.2.2.2.2.2.1 6 x.2.2.2.2.1.toNatClampNeg) fun v46 =>
(if x.2.2.2.2.2.1 = v46 then
if inb x.2.2.2.2.1 240 then
bindv (x.2.2.2.2.2.2.1 9 x.2.2.2.2.1.toNatClampNeg) fun v52 =>
(if v52 = 5 then
if inb x.2.2.2.2.1 240 then
bindv (x.2.2.2.2.2.2.1 10 x.2.2.2.2.1.toNatClampNeg) fun v58 =>
(if v58 = x.1 then
if inb x.2.2.2.1 240 then
if inb x.2.1 240 then
lpN (BMo_unfold_139 k9 k18) 100000 (x.1, x.2.1, x.2.2.1, x.2.2.2.1 + 1, x.2.2.2.2.1, x.2.2.2.2.2.1, x.2.2.2.2.2.2.1 6 x.2.1.toNatClampNeg, ((va_up x.2.2.2.2.2.2.1 4 (upd (x.2.2.2.2.2.2.1 4) x.2.2.2.1.toNatClampNeg 40)), x.2.2.2.2.2.2.2.1, x.2.2.2.2.2.2.2.2)) else none else none
else
if inb x.2.2.2.2.2.1 240 then
bindv (x.2.2.2.2.2.2.1 2 x.2.2.2.2.2.1.toNatClampNeg) fun v61 =>
if inb x.2.2.2.1 240 then
k9 (x.1, x.2.1, x.2.2.1, x.2.2.2.1 + 1, x.2.2.2.2.1, x.2.2.2.2.2.1 + 1, ((va_up x.2.2.2.2.2.2.1 4 (upd (x.2.2.2.2.2.2.1 4) x.2.2.2.1.toNatClampNeg v61)), x.2.2.2.2.2.2.2.1, x.2.2.2.2.2.2.2.2)) else none else none) else none
else
if inb x.2.2.2.2.2.1 240 then
bindv (x.2.2.2.2.2.2.1 2 x.2.2.2.2.2.1.toNatClampNeg) fun v55 =>
if inb x.2.2.2.1 240 then
k9 (x.1, x.2.1, x.2.2.1, x.2.2.2.1 + 1, x.2.2.2.2.1, x.2.2.2.2.2.1 + 1, ((va_up x.2.2.2.2.2.2.1 4 (upd (x.2.2.2.2.2.2.1 4) x.2.2.2.1.toNatClampNeg v55)), x.2.2.2.2.2.2.2.1, x.2.2.2.2.2.2.2.2)) else none else none) else none
else
if inb x.2.2.2.2.2.1 240 then
bindv (x.2.2.2.2.2.2.1 2 x.2.2.2.2.2.1.toNatClampNeg) fun v49 =>
if inb x.2.2.2.1 240 then
k9 (x.1, x.2.1, x.2.2.1, x.2.2.2.1 + 1, x.2.2.2.2.1, x.2.2.2.2.2.1 + 1, ((va_up x.2.2.2.2.2.2.1 4 (upd (x.2.2.2.2.2.2.1 4) x.2.2.2.1.toNatClampNeg v49)), x.2.2.2.2.2.2.2.1, x.2.2.2.2.2.2.2.2)) else none else none) else none)) else none
else
(if (x.2.2.2.2.2.2.2.1 3) ≤ x.2.2.2.2.1 then
if inb x.2.2.2.2.2.1 240 then
bindv (x.2.2.2.2.2.2.1 2 x.2.2.2.2.2.1.toNatClampNeg) fun v7 =>
if inb x.2.2.2.1 240 then
k9 (x.1, x.2.1, x.2.2.1, x.2.2.2.1 + 1, x.2.2.2.2.1, x.2.2.2.2.2.1 + 1, ((va_up x.2.2.2.2.2.2.1 4 (upd (x.2.2.2.2.2.2.1 4) x.2.2.2.1.toNatClampNeg v7)), x.2.2.2.2.2.2.2.1, x.2.2.2.2.2.2.2.2)) else none else none
else
if inb x.2.2.2.2.1 240 then
bindv (x.2.2.2.2.2.2.1 6 x.2.2.2.2.1.toNatClampNeg) fun v10 =>
(if x.2.2.2.2.2.1 = v10 then
if inb x.2.2.2.2.1 240 then
bindv (x.2.2.2.2.2.2.1 9 x.2.2.2.2.1.toNatClampNeg) fun v16 =>
(if v16 = 5 then
if inb x.2.2.2.2.1 240 then
bindv (x.2.2.2.2.2.2.1 10 x.2.2.2.2.1.toNatClampNeg) fun v22 =>
(if v22 = x.1 then
if inb x.2.2.2.1 240 then
if inb x.2.1 240 then
lpN (BMo_unfold_139 k9 k18) 100000 (x.1, x.2.1, x.2.2.1, x.2.2.2.1 + 1, x.2.2.2.2.1, x.2.2.2.2.2.1, x.2.2.2.2.2.2.1 6 x.2.1.toNatClampNeg, ((va_up x.2.2.2.2.2.2.1 4 (upd (x.2.2.2.2.2.2.1 4) x.2.2.2.1.toNatClampNeg 40)), x.2.2.2.2.2.2.2.1, x.2.2.2.2.2.2.2.2)) else none else none
else
if inb x.2.2.2.2.2.1 240 then
bindv (x.2.2.2.2.2.2.1 2 x.2.2.2.2.2.1.toNatClampNeg) fun v25 =>
if inb x.2.2.2.1 240 then
k9 (x.1, x.2.1, x.2.2.1, x.2.2.2.1 + 1, x.2.2.2.2.1, x.2.2.2.2.2.1 + 1, ((va_up x.2.2.2.2.2.2.1 4 (upd (x.2.2.2.2.2.2.1 4) x.2.2.2.1.toNatClampNeg v25)), x.2.2.2.2.2.2.2.1, x.2.2.2.2.2.2.2.2)) else none else none) else none
else
if inb x.2.2.2.2.2.1 240 then
bindv (x.2.2.2.2.2.2.1 2 x.2.2.2.2.2.1.toNatClampNeg) fun v19 =>
if inb x.2.2.2.1 240 then
k9 (x.1, x.2.1, x.2.2.1, x.2.2.2.1 + 1, x.2.2.2.2.1, x.2.2.2.2.2.1 + 1, ((va_up x.2.2.2.2.2.2.1 4 (upd (x.2.2.2.2.2.2.1 4) x.2.2.2.1.toNatClampNeg v19)), x.2.2.2.2.2.2.2.1, x.2.2.2.2.2.2.2.2)) else none else none) else none
else
if inb x.2.2.2.2.2.1 240 then
bindv (x.2.2.2.2.2.2.1 2 x.2.2.2.2.2.1.toNatClampNeg) fun v13 =>
if inb x.2.2.2.1 240 then
k9 (x.1, x.2.1, x.2.2.1, x.2.2.2.1 + 1, x.2.2.2.2.1, x.2.2.2.2.2.1 + 1, ((va_up x.2.2.2.2.2.2.1 4 (upd (x.2.2.2.2.2.2.1 4) x.2.2.2.1.toNatClampNeg v13)), x.2.2.2.2.2.2.2.1, x.2.2.2.2.2.2.2.2)) else none else none) else none))
else
if inb x.2.2.2.2.1 240 then
bindv (x.2.2.2.2.2.2.1 7 x.2.2.2.2.1.toNatClampNeg) fun v67 =>
(if x.2.2.2.2.2.1 < v67 then
(if x.2.2.2.2.1 = (x.1 - 1) then
if inb x.2.2.2.2.1 240 then
bindv (x.2.2.2.2.2.2.1 6 x.2.2.2.2.1.toNatClampNeg) fun v95 =>
(if x.2.2.2.2.2.1 = v95 then
if inb x.2.2.1 240 then
k9 (x.1, x.2.1, x.2.2.1, x.2.2.2.1, x.2.2.2.2.1, x.2.2.2.2.2.2.1 7 x.2.2.1.toNatClampNeg, x.2.2.2.2.2.2) else none
else
(if (x.2.2.2.2.2.2.2.1 3) ≤ x.2.2.2.2.1 then
if inb x.2.2.2.2.2.1 240 then
bindv (x.2.2.2.2.2.2.1 2 x.2.2.2.2.2.1.toNatClampNeg) fun v99 =>
if inb x.2.2.2.1 240 then
k9 (x.1, x.2.1, x.2.2.1, x.2.2.2.1 + 1, x.2.2.2.2.1, x.2.2.2.2.2.1 + 1, ((va_up x.2.2.2.2.2.2.1 4 (upd (x.2.2.2.2.2.2.1 4) x.2.2.2.1.toNatClampNeg v99)), x.2.2.2.2.2.2.2.1, x.2.2.2.2.2.2.2.2)) else none else none
else
if inb x.2.2.2.2.1 240 then
bindv (x.2.2.2.2.2.2.1 6 x.2.2.2.2.1.toNatClampNeg) fun v102 =>
(if x.2.2.2.2.2.1 = v102 then
if inb x.2.2.2.2.1 240 then
bindv (x.2.2.2.2.2.2.1 9 x.2.2.2.2.1.toNatClampNeg) fun v108 =>
(if v108 = 5 then
if inb x.2.2.2.2.1 240 then
bindv (x.2.2.2.2.2.2.1 10 x.2.2.2.2.1.toNatClampNeg) fun v114 =>
(if v114 = x.1 then
if inb x.2.2.2.1 240 then
if inb x.2.1 240 then
lpN (BMo_unfold_139 k9 k18) 100000 (x.1, x.2.1, x.2.2.1, x.2.2.2.1 + 1, x.2.2.2.2.1, x.2.2.2.2.2.1, x.2.2.2.2.2.2.1 6 x.2.1.toNatClampNeg, ((va_up x.2.2.2.2.2.2.1 4 (upd (x.2.2.2.2.2.2.1 4) x.2.2.2.1.toNatClampNeg 40)), x.2.2.2.2.2.2.2.1, x.2.2.2.2.2.2.2.2)) else none else none
else
if inb x.2.2.2.2.2.1 240 then
bindv (x.2.2.2.2.2.2.1 2 x.2.2.2.2.2.1.toNatClampNeg) fun v117 =>
if inb x.2.2.2.1 240 then
k9 (x.1, x.2.1, x.2.2.1, x.2.2.2.1 + 1, x.2.2.2.2.1, x.2.2.2.2.2.1 + 1, ((va_up x.2.2.2.2.2.2.1 4 (upd (x.2.2.2.2.2.2.1 4) x.2.2.2.1.toNatClampNeg v117)), x.2.2.2.2.2.2.2.1, x.2.2.2.2.2.2.2.2)) else none else none) else none
else
if inb x.2.2.2.2.2.1 240 then
bindv (x.2.2.2.2.2.2.1 2 x.2.2.2.2.2.1.toNatClampNeg) fun v111 =>
if inb x.2.2.2.1 240 then
k9 (x.1, x.2.1, x.2.2.1, x.2.2.2.1 + 1, x.2.2.2.2.1, x.2.2.2.2.2.1 + 1, ((va_up x.2.2.2.2.2.2.1 4 (upd (x.2.2.2.2.2.2.1 4) x.2.2.2.1.toNatClampNeg v111)), x.2.2.2.2.2.2.2.1, x.2.2.2.2.2.2.2.2)) else none else none) else none
else
if inb x.2.2.2.2.2.1 240 then
bindv (x.2.2.2.2.2.2.1 2 x.2.2.2.2.2.1.toNatClampNeg) fun v105 =>
if inb x.2.2.2.1 240 then
k9 (x.1, x.2.1, x.2.2.1, x.2.2.2.1 + 1, x.2.2.2.2.1, x.2.2.2.2.2.1 + 1, ((va_up x.2.2.2.2.2.2.1 4 (upd (x.2.2.2.2.2.2.1 4) x.2.2.2.1.toNatClampNeg v105)), x.2.2.2.2.2.2.2.1, x.2.2.2.2.2.2.2.2)) else none else none) else none)) else none
else
(if (x.2.2.2.2.2.2.2.1 3) ≤ x.2.2.2.2.1 then
if inb x.2.2.2.2.2.1 240 then
bindv (x.2.2.2.2.2.2.1 2 x.2.2.2.2.2.1.toNatClampNeg) fun v72 =>
if inb x.2.2.2.1 240 then
k9 (x.1, x.2.1, x.2.2.1, x.2.2.2.1 + 1, x.2.2.2.2.1, x.2.2.2.2.2.1 + 1, ((va_up x.2.2.2.2.2.2.1 4 (upd (x.2.2.2.2.2.2.1 4) x.2.2.2.1.toNatClampNeg v72)), x.2.2.2.2.2.2.2.1, x.2.2.2.2.2.2.2.2)) else none else none
else
if inb x.2.2.2.2.1 240 then
bindv (x.2.2.2.2.2.2.1 6 x.2.2.2.2.1.toNatClampNeg) fun v75 =>
(if x.2.2.2.2.2.1 = v75 then
if inb x.2.2.2.2.1 240 then
bindv (x.2.2.2.2.2.2.1 9 x.2.2.2.2.1.toNatClampNeg) fun v81 =>
(if v81 = 5 then
if inb x.2.2.2.2.1 240 then
bindv (x.2.2.2.2.2.2.1 10 x.2.2.2.2.1.toNatClampNeg) fun v87 =>
(if v87 = x.1 then
if inb x.2.2.2.1 240 then
if inb x.2.1 240 then
lpN (BMo_unfold_139 k9 k18) 100000 (x.1, x.2.1, x.2.2.1, x.2.2.2.1 + 1, x.2.2.2.2.1, x.2.2.2.2.2.1, x.2.2.2.2.2.2.1 6 x.2.1.toNatClampNeg, ((va_up x.2.2.2.2.2.2.1 4 (upd (x.2.2.2.2.2.2.1 4) x.2.2.2.1.toNatClampNeg 40)), x.2.2.2.2.2.2.2.1, x.2.2.2.2.2.2.2.2)) else none else none
else
if inb x.2.2.2.2.2.1 240 then
bindv (x.2.2.2.2.2.2.1 2 x.2.2.2.2.2.1.toNatClampNeg) fun v90 =>
if inb x.2.2.2.1 240 then
k9 (x.1, x.2.1, x.2.2.1, x.2.2.2.1 + 1, x.2.2.2.2.1, x.2.2.2.2.2.1 + 1, ((va_up x.2.2.2.2.2.2.1 4 (upd (x.2.2.2.2.2.2.1 4) x.2.2.2.1.toNatClampNeg v90)), x.2.2.2.2.2.2.2.1, x.2.2.2.2.2.2.2.2)) else none else none) else none
else
if inb x.2.2.2.2.2.1 240 then
bindv (x.2.2.2.2.2.2.1 2 x.2.2.2.2.2.1.toNatClampNeg) fun v84 =>
if inb x.2.2.2.1 240 then
k9 (x.1, x.2.1, x.2.2.1, x.2.2.2.1 + 1, x.2.2.2.2.1, x.2.2.2.2.2.1 + 1, ((va_up x.2.2.2.2.2.2.1 4 (upd (x.2.2.2.2.2.2.1 4) x.2.2.2.1.toNatClampNeg v84)), x.2.2.2.2.2.2.2.1, x.2.2.2.2.2.2.2.2)) else none else none) else none
else
if inb x.2.2.2.2.2.1 240 then
bindv (x.2.2.2.2.2.2.1 2 x.2.2.2.2.2.1.toNatClampNeg) fun v78 =>
if inb x.2.2.2.1 240 then
k9 (x.1, x.2.1, x.2.2.1, x.2.2.2.1 + 1, x.2.2.2.2.1, x.2.2.2.2.2.1 + 1, ((va_up x.2.2.2.2.2.2.1 4 (upd (x.2.2.2.2.2.2.1 4) x.2.2.2.1.toNatClampNeg v78)), x.2.2.2.2.2.2.2.1, x.2.2.2.2.2.2.2.2)) else none else none) else none))
else
k18 (x.1, x.2.1, x.2.2.1, x.2.2.2.1, x.2.2.2.2.1 + 1, x.2.2.2.2.2.1, x.2.2.2.2.2.2)) else none)
def BMo_unfold_9 (k9 : Int32 × Int32 × Int32 × Int32 × Int32 × Int32 × RS → Option RS) (x : Int32 × Int32 × Int32 × Int32 × Int32 × Int32 × RS) : Option RS :=
(if (x.2.2.2.2.2.2.2.1 1) ≤ x.2.2.2.2.2.1 then
(f_Mo_becomeFresh x.2.2.2.1 x.2.2.2.2.2.2).bind fun q2 =>
some q2
else
lpN (BMo_unfold_18 k9) 100000 (x.1, x.2.1, x.2.2.1, x.2.2.2.1, x.2.2.2.2.1, x.2.2.2.2.2.1, x.2.2.2.2.2.2))
def f_Mo_unfold (a1 : Int32) (a2 : Int32) (a3 : Int32) (r : RS) : Option RS :=
lpN (BMo_unfold_9) 100000 (a1, a2, a3, 0, 0, 0, r)
def BMo_inline_126 (k126 : Int32 × Int32 × Int32 × Int32 × Int32 × Int32 × Int32 × Int32 × RS → Option (Int32 × RS)) (x : Int32 × Int32 × Int32 × Int32 × Int32 × Int32 × Int32 × Int32 × RS) : Option (Int32 × RS) :=
(if (x.2.2.2.2.2.2.2.2.2.1 3) ≤ x.2.2.2.2.2.2.2.1 then
(if x.2.2.2.2.2.1 ≤ 240 then
(f_Mo_keep x.2.2.2.2.2.2.2.2).bind fun q21 =>
(f_Mo_unfold x.2.1 x.2.2.1 x.2.2.2.1 q21).bind fun q22 =>
(f_Mo_analyse q22).bind fun q23 =>
(if (q23.2.1 5) = 0 then
some (x.2.2.2.2.1, q23)
else
(f_Mo_takeBack 3 q23).bind fun q25 =>
some (q25.1, q25.2))
else
(f_Mo_fails 1 x.2.2.2.2.2.2.2.2).bind fun q26 =>
some (q26.1, q26.2))
else
if inb x.2.2.2.2.2.2.2.1 240 then
bindv (x.2.2.2.2.2.2.2.2.1 9 x.2.2.2.2.2.2.2.1.toNatClampNeg) fun v28 =>
(if v28 = 5 then
if inb x.2.2.2.2.2.2.2.1 240 then
bindv (x.2.2.2.2.2.2.2.2.1 10 x.2.2.2.2.2.2.2.1.toNatClampNeg) fun v31 =>
(if v31 = x.2.1 then
if inb x.2.2.2.2.2.2.2.1 240 then
bindv (x.2.2.2.2.2.2.2.2.1 7 x.2.2.2.2.2.2.2.1.toNatClampNeg) fun v34 =>
if inb x.2.2.2.2.2.2.2.1 240 then
bindv (x.2.2.2.2.2.2.2.2.1 6 x.2.2.2.2.2.2.2.1.toNatClampNeg) fun v36 =>
bindv (x.2.2.2.2.2.1 + ((x.2.2.2.2.2.2.1 + 2) - (v34 - v36))) fun v37 =>
k126 (x.1, x.2.1, x.2.2.1, x.2.2.2.1, x.2.2.2.2.1 + 1, v37, x.2.2.2.2.2.2.1, x.2.2.2.2.2.2.2.1 + 1, x.2.2.2.2.2.2.2.2) else none else none
else
k126 (x.1, x.2.1, x.2.2.1, x.2.2.2.1, x.2.2.2.2.1, x.2.2.2.2.2.1, x.2.2.2.2.2.2.1, x.2.2.2.2.2.2.2.1 + 1, x.2.2.2.2.2.2.2.2)) else none
else
k126 (x.1, x.2.1, x.2.2.1, x.2.2.2.1, x.2.2.2.2.1, x.2.2.2.2.2.1, x.2.2.2.2.2.2.1, x.2.2.2.2.2.2.2.1 + 1, x.2.2.2.2.2.2.2.2)) else none)
def f_Mo_inline (a1 : Int32) (r : RS) : Option (Int32 × RS) :=
(f_Mo_analyse (r.1, (va_up r.2.1 0 0), r.2.2)).bind fun q1 =>
(if (q1.2.1 5) ≤ 0 then
(f_Mo_boundAt a1 q1).bind fun q3 =>
(if q3.1 < 0 then
(f_Mo_fails 2 q3.2).bind fun q5 =>
some (q5.1, q5.2)
else
if inb q3.1 240 then
(if (q3.2.1 9 q3.1.toNatClampNeg) = 3 then
if inb q3.1 240 then
(f_Mo_isHeld q3.1 (q3.1 + 2) ((q3.2.1 14 q3.1.toNatClampNeg) - 1) q3.2).bind fun q9 =>
(if q9.1 = 0 then
if inb ((q3.2.1 14 q3.1.toNatClampNeg) - 1) 240 then
bindv (q9.2.1 7 ((q3.2.1 14 q3.1.toNatClampNeg) - 1).toNatClampNeg) fun v12 =>
if inb (q3.1 - 1) 240 then
bindv (v12 - (q9.2.1 6 (q3.1 - 1).toNatClampNeg)) fun v14 =>
if inb (((q3.2.1 14 q3.1.toNatClampNeg) - 1) - 1) 240 then
bindv (q9.2.1 7 (((q3.2.1 14 q3.1.toNatClampNeg) - 1) - 1).toNatClampNeg) fun v16 =>
if inb (q3.1 + 2) 240 then
bindv (v16 - (q9.2.1 6 (q3.1 + 2).toNatClampNeg)) fun v18 =>
lpN (BMo_inline_126) 100000 (a1, q3.1, q3.1 + 2, (q3.2.1 14 q3.1.toNatClampNeg) - 1, 0, (q9.2.2.1 1) - v14, v18, 0, q9.2) else none else none else none else none
else
(f_Mo_fails 3 q9.2).bind fun q38 =>
some (q38.1, q38.2)) else none
else
(f_Mo_fails 2 q3.2).bind fun q39 =>
some (q39.1, q39.2)) else none)
else
(f_Mo_fails 1 q1).bind fun q40 =>
some (q40.1, q40.2))
def f_Mo_emit (a1 : Int32) (a2 : Int32) (r : RS) : Option RS :=
if inb (r.2.1 11) 700 then
if inb (r.2.1 11) 700 then
some ((va_up (va_up r.1 24 (upd (r.1 24) (r.2.1 11).toNatClampNeg a1)) 25 (upd (r.1 25) (r.2.1 11).toNatClampNeg a2)), (va_up r.2.1 11 ((r.2.1 11) + 1)), r.2.2) else none else none
def f_Mo_rank (a0 : Int32)  : Option Int32 :=
(if a0 = 42 then
some 3
else
(if a0 = 43 then
some 2
else
(if a0 = 45 then
some 2
else
(if a0 = 60 then
some 1
else
some 0))))
def BMo_settle_0 (k0 : Int32 × RS → Option RS) (x : Int32 × RS) : Option RS :=
(if (x.2.2.1 12) ≤ 0 then
some x.2
else
if inb ((x.2.2.1 12) - 1) 64 then
bindv (x.2.1 28 ((x.2.2.1 12) - 1).toNatClampNeg) fun v3 =>
(f_Mo_rank v3).bind fun q4 =>
(if q4 < x.1 then
some x.2
else
if inb ((x.2.2.1 12) - 1) 64 then
bindv (x.2.1 28 ((x.2.2.1 12) - 1).toNatClampNeg) fun v7 =>
(f_Mo_emit (100 + v7) 0 (x.2.1, (va_up x.2.2.1 12 ((x.2.2.1 12) - 1)), x.2.2.2)).bind fun q8 =>
k0 (x.1, q8) else none) else none)
def f_Mo_settle (a1 : Int32) (r : RS) : Option RS :=
lpN (BMo_settle_0) 100000 (a1, r)
def f_Mo_queue (a1 : Int32) (a2 : Int32) (r : RS) : Option RS :=
if inb (r.2.1 12) 64 then
if inb (r.2.1 12) 64 then
some ((va_up (va_up r.1 28 (upd (r.1 28) (r.2.1 12).toNatClampNeg a1)) 29 (upd (r.1 29) (r.2.1 12).toNatClampNeg a2)), (va_up r.2.1 12 ((r.2.1 12) + 1)), r.2.2) else none else none
def BMo_compile_9 (k9 : Int32 × Int32 × Int32 × RS → Option (Int32 × RS)) (x : Int32 × Int32 × Int32 × RS) : Option (Int32 × RS) :=
(if x.2.2.1 = 0 then
some (x.2.1, x.2.2.2)
else
if inb x.2.1 240 then
if inb (x.2.2.2.1 6 x.2.1.toNatClampNeg) 240 then
bindv (x.2.2.2.1 2 (x.2.2.2.1 6 x.2.1.toNatClampNeg).toNatClampNeg) fun v4 =>
if inb x.2.1 240 then
(if (x.2.2.2.1 5 x.2.1.toNatClampNeg) = 3 then
if inb x.2.1 240 then
bindv ((x.2.2.2.2.2 8 x.2.1.toNatClampNeg).toInt32) fun v44 =>
(f_Mo_emit 0 v44 x.2.2.2).bind fun q45 =>
(if x.2.2.1 = 0 then
k9 (x.1, x.2.1, x.2.2.1, q45)
else
k9 (x.1, x.2.1 + 1, x.2.2.1, q45)) else none
else
if inb x.2.1 240 then
(if (x.2.2.2.1 9 x.2.1.toNatClampNeg) = 5 then
if inb x.2.1 240 then
if inb (x.2.2.2.1 10 x.2.1.toNatClampNeg) 240 then
bindv (x.2.2.2.1 27 (x.2.2.2.1 10 x.2.1.toNatClampNeg).toNatClampNeg) fun v40 =>
(f_Mo_emit 1 v40 x.2.2.2).bind fun q41 =>
(if x.2.2.1 = 0 then
k9 (x.1, x.2.1, x.2.2.1, q41)
else
k9 (x.1, x.2.1 + 1, x.2.2.1, q41)) else none else none
else
if inb x.2.1 240 then
(if (x.2.2.2.1 9 x.2.1.toNatClampNeg) = 6 then
if inb x.2.1 240 then
(f_Mo_partOf (x.2.2.2.1 10 x.2.1.toNatClampNeg) x.2.2.2).bind fun q35 =>
(f_Mo_queue 40 q35.1 q35.2).bind fun q36 =>
(if x.2.2.1 = 0 then
k9 (x.1, x.2.1 + 1, x.2.2.1, q36)
else
k9 (x.1, (x.2.1 + 1) + 1, x.2.2.1, q36)) else none
else
(if v4 = 40 then
(f_Mo_queue 40 (-1) x.2.2.2).bind fun q32 =>
(if x.2.2.1 = 0 then
k9 (x.1, x.2.1, x.2.2.1, q32)
else
k9 (x.1, x.2.1 + 1, x.2.2.1, q32))
else
(if v4 = 44 then
(f_Mo_settle 1 x.2.2.2).bind fun q30 =>
(if x.2.2.1 = 0 then
k9 (x.1, x.2.1, x.2.2.1, q30)
else
k9 (x.1, x.2.1 + 1, x.2.2.1, q30))
else
(if v4 = 41 then
(f_Mo_settle 1 x.2.2.2).bind fun q21 =>
if inb ((q21.2.1 12) - 1) 64 then
bindv (q21.1 29 ((q21.2.1 12) - 1).toNatClampNeg) fun v23 =>
(if v23 < 0 then
(if x.2.2.1 = 0 then
k9 (x.1, x.2.1, x.2.2.1, (q21.1, (va_up q21.2.1 12 ((q21.2.1 12) - 1)), q21.2.2))
else
k9 (x.1, x.2.1 + 1, x.2.2.1, (q21.1, (va_up q21.2.1 12 ((q21.2.1 12) - 1)), q21.2.2)))
else
if inb ((q21.2.1 12) - 1) 64 then
bindv (q21.1 29 ((q21.2.1 12) - 1).toNatClampNeg) fun v27 =>
(f_Mo_emit 7 v27 (q21.1, (va_up q21.2.1 12 ((q21.2.1 12) - 1)), q21.2.2)).bind fun q28 =>
(if x.2.2.1 = 0 then
k9 (x.1, x.2.1, x.2.2.1, q28)
else
k9 (x.1, x.2.1 + 1, x.2.2.1, q28)) else none) else none
else
(f_Mo_rank v4).bind fun q14 =>
(if q14 ≤ 0 then
(f_Mo_settle 1 x.2.2.2).bind fun q16 =>
k9 (x.1, x.2.1, 0, q16)
else
(f_Mo_rank v4).bind fun q17 =>
(f_Mo_settle q17 x.2.2.2).bind fun q18 =>
(f_Mo_queue v4 (-1) q18).bind fun q19 =>
(if x.2.2.1 = 0 then
k9 (x.1, x.2.1, x.2.2.1, q19)
else
k9 (x.1, x.2.1 + 1, x.2.2.1, q19))))))) else none) else none) else none else none else none)
def f_Mo_compile (a1 : Int32) (r : RS) : Option (Int32 × RS) :=
lpN (BMo_compile_9) 100000 (a1, a1, 1, (r.1, (va_up r.2.1 12 0), r.2.2))
def BMo_function_91 (k91 : Int32 × Int32 × Int32 × Int32 × RS → Option RS) (x : Int32 × Int32 × Int32 × Int32 × RS) : Option RS :=
if inb x.1 122 then
(if (x.2.2.2.2.1 17 x.1.toNatClampNeg) ≤ x.2.2.1 then
(f_Mo_emit 0 0 x.2.2.2.2).bind fun q10 =>
(f_Mo_emit 4 0 q10).bind fun q11 =>
some q11
else
if inb x.2.2.1 240 then
(if (x.2.2.2.2.1 5 x.2.2.1.toNatClampNeg) = 1 then
if inb x.2.2.1 240 then
(f_Mo_keyword (x.2.2.2.2.2.2 8 x.2.2.1.toNatClampNeg) x.2.2.2.2).bind fun q37 =>
(f_Mo_is x.2.2.1 123 q37.2).bind fun q38 =>
(if q38.1 = 0 then
(f_Mo_is x.2.2.1 125 q38.2).bind fun q40 =>
(if q40.1 = 0 then
(if q37.1 = 2 then
if inb x.2.2.2.1 6 then
(f_Mo_compile (x.2.2.1 + 1) ((va_up q40.2.1 32 (upd (q40.2.1 32) x.2.2.2.1.toNatClampNeg (q40.2.2.1 11))), q40.2.2.1, q40.2.2.2)).bind fun q44 =>
if inb x.2.2.2.1 6 then
(f_Mo_emit 5 0 ((va_up q44.2.1 31 (upd (q44.2.1 31) x.2.2.2.1.toNatClampNeg (q44.2.2.1 11))), q44.2.2.1, q44.2.2.2)).bind fun q46 =>
(if q37.1 = 3 then
(f_Mo_emit 8 0 q46).bind fun q49 =>
if inb x.2.2.2.1 6 then
k91 (x.1, x.2.1, q44.1 + 1, x.2.2.2.1 + 1, ((va_up q49.1 30 (upd (q49.1 30) x.2.2.2.1.toNatClampNeg q37.1)), q49.2.1, q49.2.2)) else none
else
if inb x.2.2.2.1 6 then
k91 (x.1, x.2.1, q44.1 + 1, x.2.2.2.1 + 1, ((va_up q46.1 30 (upd (q46.1 30) x.2.2.2.1.toNatClampNeg q37.1)), q46.2.1, q46.2.2)) else none) else none else none
else
(if q37.1 = 3 then
if inb x.2.2.2.1 6 then
(f_Mo_compile (x.2.2.1 + 1) ((va_up q40.2.1 32 (upd (q40.2.1 32) x.2.2.2.1.toNatClampNeg (q40.2.2.1 11))), q40.2.2.1, q40.2.2.2)).bind fun q74 =>
if inb x.2.2.2.1 6 then
(f_Mo_emit 5 0 ((va_up q74.2.1 31 (upd (q74.2.1 31) x.2.2.2.1.toNatClampNeg (q74.2.2.1 11))), q74.2.2.1, q74.2.2.2)).bind fun q76 =>
(if q37.1 = 3 then
(f_Mo_emit 8 0 q76).bind fun q79 =>
if inb x.2.2.2.1 6 then
k91 (x.1, x.2.1, q74.1 + 1, x.2.2.2.1 + 1, ((va_up q79.1 30 (upd (q79.1 30) x.2.2.2.1.toNatClampNeg q37.1)), q79.2.1, q79.2.2)) else none
else
if inb x.2.2.2.1 6 then
k91 (x.1, x.2.1, q74.1 + 1, x.2.2.2.1 + 1, ((va_up q76.1 30 (upd (q76.1 30) x.2.2.2.1.toNatClampNeg q37.1)), q76.2.1, q76.2.2)) else none) else none else none
else
(if q37.1 = 4 then
(f_Mo_compile (x.2.2.1 + 1) q40.2).bind fun q53 =>
(if q37.1 = 4 then
(f_Mo_emit 3 0 q53.2).bind fun q56 =>
k91 (x.1, x.2.1, q53.1 + 1, x.2.2.2.1, q56)
else
(f_Mo_emit 4 0 q53.2).bind fun q55 =>
k91 (x.1, x.2.1, q53.1 + 1, x.2.2.2.1, q55))
else
(if q37.1 = 5 then
(f_Mo_compile (x.2.2.1 + 1) q40.2).bind fun q69 =>
(if q37.1 = 4 then
(f_Mo_emit 3 0 q69.2).bind fun q72 =>
k91 (x.1, x.2.1, q69.1 + 1, x.2.2.2.1, q72)
else
(f_Mo_emit 4 0 q69.2).bind fun q71 =>
k91 (x.1, x.2.1, q69.1 + 1, x.2.2.2.1, q71))
else
(if q37.1 = 1 then
(f_Mo_compile ((x.2.2.1 + 1) + 2) q40.2).bind fun q64 =>
if inb (x.2.2.1 + 1) 240 then
if inb (q64.2.1 10 (x.2.2.1 + 1).toNatClampNeg) 240 then
bindv (q64.2.1 27 (q64.2.1 10 (x.2.2.1 + 1).toNatClampNeg).toNatClampNeg) fun v67 =>
(f_Mo_emit 2 v67 q64.2).bind fun q68 =>
k91 (x.1, x.2.1, q64.1 + 1, x.2.2.2.1, q68) else none else none
else
(f_Mo_compile (x.2.2.1 + 2) q40.2).bind fun q59 =>
if inb x.2.2.1 240 then
if inb (q59.2.1 10 x.2.2.1.toNatClampNeg) 240 then
bindv (q59.2.1 27 (q59.2.1 10 x.2.2.1.toNatClampNeg).toNatClampNeg) fun v62 =>
(f_Mo_emit 2 v62 q59.2).bind fun q63 =>
k91 (x.1, x.2.1, q59.1 + 1, x.2.2.2.1, q63) else none else none)))))
else
if inb (x.2.2.2.1 - 1) 6 then
(if (q40.2.1 30 (x.2.2.2.1 - 1).toNatClampNeg) = 3 then
if inb (x.2.2.2.1 - 1) 6 then
(f_Mo_emit 6 (q40.2.1 32 (x.2.2.2.1 - 1).toNatClampNeg) q40.2).bind fun q88 =>
if inb (x.2.2.2.1 - 1) 6 then
(if (q88.1 30 (x.2.2.2.1 - 1).toNatClampNeg) = 0 then
k91 (x.1, x.2.1, x.2.2.1 + 1, x.2.2.2.1 - 1, q88)
else
if inb (x.2.2.2.1 - 1) 6 then
if inb (q88.1 31 (x.2.2.2.1 - 1).toNatClampNeg) 700 then
k91 (x.1, x.2.1, x.2.2.1 + 1, x.2.2.2.1 - 1, ((va_up q88.1 25 (upd (q88.1 25) (q88.1 31 (x.2.2.2.1 - 1).toNatClampNeg).toNatClampNeg (q88.2.1 11))), q88.2.1, q88.2.2)) else none else none) else none else none
else
if inb (x.2.2.2.1 - 1) 6 then
(if (q40.2.1 30 (x.2.2.2.1 - 1).toNatClampNeg) = 0 then
k91 (x.1, x.2.1, x.2.2.1 + 1, x.2.2.2.1 - 1, q40.2)
else
if inb (x.2.2.2.1 - 1) 6 then
if inb (q40.2.1 31 (x.2.2.2.1 - 1).toNatClampNeg) 700 then
k91 (x.1, x.2.1, x.2.2.1 + 1, x.2.2.2.1 - 1, ((va_up q40.2.1 25 (upd (q40.2.1 25) (q40.2.1 31 (x.2.2.2.1 - 1).toNatClampNeg).toNatClampNeg (q40.2.2.1 11))), q40.2.2.1, q40.2.2.2)) else none else none) else none) else none)
else
if inb x.2.2.2.1 6 then
k91 (x.1, x.2.1, x.2.2.1 + 1, x.2.2.2.1 + 1, ((va_up q38.2.1 30 (upd (q38.2.1 30) x.2.2.2.1.toNatClampNeg 0)), q38.2.2.1, q38.2.2.2)) else none) else none
else
(f_Mo_is x.2.2.1 123 x.2.2.2.2).bind fun q14 =>
(if q14.1 = 0 then
(f_Mo_is x.2.2.1 125 q14.2).bind fun q16 =>
(if q16.1 = 0 then
(f_Mo_compile (x.2.2.1 + 2) q16.2).bind fun q18 =>
if inb x.2.2.1 240 then
if inb (q18.2.1 10 x.2.2.1.toNatClampNeg) 240 then
bindv (q18.2.1 27 (q18.2.1 10 x.2.2.1.toNatClampNeg).toNatClampNeg) fun v21 =>
(f_Mo_emit 2 v21 q18.2).bind fun q22 =>
k91 (x.1, x.2.1, q18.1 + 1, x.2.2.2.1, q22) else none else none
else
if inb (x.2.2.2.1 - 1) 6 then
(if (q16.2.1 30 (x.2.2.2.1 - 1).toNatClampNeg) = 3 then
if inb (x.2.2.2.1 - 1) 6 then
(f_Mo_emit 6 (q16.2.1 32 (x.2.2.2.1 - 1).toNatClampNeg) q16.2).bind fun q30 =>
if inb (x.2.2.2.1 - 1) 6 then
(if (q30.1 30 (x.2.2.2.1 - 1).toNatClampNeg) = 0 then
k91 (x.1, x.2.1, x.2.2.1 + 1, x.2.2.2.1 - 1, q30)
else
if inb (x.2.2.2.1 - 1) 6 then
if inb (q30.1 31 (x.2.2.2.1 - 1).toNatClampNeg) 700 then
k91 (x.1, x.2.1, x.2.2.1 + 1, x.2.2.2.1 - 1, ((va_up q30.1 25 (upd (q30.1 25) (q30.1 31 (x.2.2.2.1 - 1).toNatClampNeg).toNatClampNeg (q30.2.1 11))), q30.2.1, q30.2.2)) else none else none) else none else none
else
if inb (x.2.2.2.1 - 1) 6 then
(if (q16.2.1 30 (x.2.2.2.1 - 1).toNatClampNeg) = 0 then
k91 (x.1, x.2.1, x.2.2.1 + 1, x.2.2.2.1 - 1, q16.2)
else
if inb (x.2.2.2.1 - 1) 6 then
if inb (q16.2.1 31 (x.2.2.2.1 - 1).toNatClampNeg) 700 then
k91 (x.1, x.2.1, x.2.2.1 + 1, x.2.2.2.1 - 1, ((va_up q16.2.1 25 (upd (q16.2.1 25) (q16.2.1 31 (x.2.2.2.1 - 1).toNatClampNeg).toNatClampNeg (q16.2.2.1 11))), q16.2.2.1, q16.2.2.2)) else none else none) else none) else none)
else
if inb x.2.2.2.1 6 then
k91 (x.1, x.2.1, x.2.2.1 + 1, x.2.2.2.1 + 1, ((va_up q14.2.1 30 (upd (q14.2.1 30) x.2.2.2.1.toNatClampNeg 0)), q14.2.2.1, q14.2.2.2)) else none)) else none) else none
def BMo_function_72 (k72 : Int32 × Int32 × Int32 × RS → Option RS) (x : Int32 × Int32 × Int32 × RS) : Option RS :=
(f_Mo_is x.2.2.1 123 x.2.2.2).bind fun q6 =>
(if q6.1 = 0 then
k72 (x.1, x.2.1, x.2.2.1 + 1, q6.2)
else
lpN (BMo_function_91) 100000 (x.1, x.2.1, x.2.2.1, 0, q6.2))
def BMo_function_19 (k19 : Int32 × Int32 × Int32 × RS → Option RS) (x : Int32 × Int32 × Int32 × RS) : Option RS :=
if inb x.1 122 then
(if (x.2.2.2.1 17 x.1.toNatClampNeg) ≤ x.2.2.1 then
if inb x.1 122 then
lpN (BMo_function_72) 100000 (x.1, x.2.1, x.2.2.2.1 16 x.1.toNatClampNeg, x.2.2.2) else none
else
if inb x.2.2.1 240 then
(if (x.2.2.2.1 9 x.2.2.1.toNatClampNeg) = 2 then
if inb x.2.2.1 240 then
k19 (x.1, x.2.1 + 1, x.2.2.1 + 1, ((va_up x.2.2.2.1 27 (upd (x.2.2.2.1 27) x.2.2.1.toNatClampNeg x.2.1)), x.2.2.2.2.1, x.2.2.2.2.2)) else none
else
if inb x.2.2.1 240 then
(if (x.2.2.2.1 9 x.2.2.1.toNatClampNeg) = 3 then
if inb x.2.2.1 240 then
k19 (x.1, x.2.1 + 1, x.2.2.1 + 1, ((va_up x.2.2.2.1 27 (upd (x.2.2.2.1 27) x.2.2.1.toNatClampNeg x.2.1)), x.2.2.2.2.1, x.2.2.2.2.2)) else none
else
k19 (x.1, x.2.1, x.2.2.1 + 1, x.2.2.2)) else none) else none) else none
def f_Mo_function (a1 : Int32) (r : RS) : Option RS :=
if inb a1 122 then
if inb a1 122 then
lpN (BMo_function_19) 100000 (a1, 0, r.1 16 a1.toNatClampNeg, ((va_up r.1 26 (upd (r.1 26) a1.toNatClampNeg (r.2.1 11))), r.2.1, r.2.2)) else none else none
def f_Mo_pop  (r : RS) : Option (Int32 × RS) :=
if inb ((r.2.1 13) - 1) 2000 then
some (r.1 35 ((r.2.1 13) - 1).toNatClampNeg, (r.1, (va_up r.2.1 13 ((r.2.1 13) - 1)), r.2.2)) else none
def f_Mo_push (a1 : Int32) (r : RS) : Option RS :=
if inb (r.2.1 13) 2000 then
some ((va_up r.1 35 (upd (r.1 35) (r.2.1 13).toNatClampNeg a1)), (va_up r.2.1 13 ((r.2.1 13) + 1)), r.2.2) else none
def f_Mo_counts (a1 : Int32) (r : RS) : Option (Int32 × RS) :=
(if a1 = 0 then
(if (r.2.1 15) = 300 then
some (1, r)
else
some (0, (r.1, (va_up r.2.1 15 ((r.2.1 15) + 1)), r.2.2)))
else
(if (r.2.1 14) = 8 then
some (2, r)
else
(if (r.2.1 15) = 300 then
some (1, r)
else
some (0, (r.1, (va_up r.2.1 15 ((r.2.1 15) + 1)), r.2.2)))))
def f_Mo_reckon (a1 : Int32) (r : RS) : Option RS :=
(f_Mo_pop r).bind fun q1 =>
(f_Mo_pop q1.2).bind fun q2 =>
(if a1 = 43 then
(f_Mo_push (q2.1 + q1.1) q2.2).bind fun q11 =>
some q11
else
(if a1 = 45 then
(f_Mo_push (q2.1 - q1.1) q2.2).bind fun q10 =>
some q10
else
(if a1 = 42 then
(f_Mo_push (q2.1 * q1.1) q2.2).bind fun q9 =>
some q9
else
(if q1.1 ≤ q2.1 then
(f_Mo_push 0 q2.2).bind fun q7 =>
some q7
else
(f_Mo_push 1 q2.2).bind fun q8 =>
some q8))))
def BMo_uncounted_19 (k19 : Int32 × Int32 × Int32 × RS → Option (Int32 × RS)) (x : Int32 × Int32 × Int32 × RS) : Option (Int32 × RS) :=
(if x.2.2.1 < 0 then
if inb x.1 122 then
some (x.2.2.2.1 26 x.1.toNatClampNeg, (x.2.2.2.1, (va_up x.2.2.2.2.1 14 ((x.2.2.2.2.1 14) + 1)), x.2.2.2.2.2)) else none
else
(f_Mo_pop x.2.2.2).bind fun q5 =>
if inb ((96 * (x.2.2.2.2.1 14)) + x.2.2.1) 768 then
k19 (x.1, x.2.1, x.2.2.1 - 1, ((va_up q5.2.1 33 (upd (q5.2.1 33) ((96 * (x.2.2.2.2.1 14)) + x.2.2.1).toNatClampNeg q5.1)), q5.2.2.1, q5.2.2.2)) else none)
def f_Mo_uncounted (a1 : Int32) (a2 : Int32) (r : RS) : Option (Int32 × RS) :=
if inb (r.2.1 14) 9 then
if inb a1 122 then
lpN (BMo_uncounted_19) 100000 (a1, a2, (r.1 19 a1.toNatClampNeg) - 1, ((va_up r.1 34 (upd (r.1 34) (r.2.1 14).toNatClampNeg a2)), r.2.1, r.2.2)) else none else none
def f_Mo_enter (a1 : Int32) (a2 : Int32) (r : RS) : Option (Int32 × RS) :=
(f_Mo_uncounted a1 a2 (r.1, (va_up r.2.1 15 1), r.2.2)).bind fun q1 =>
some (q1.1, q1.2)
def BMo_execute_74 (k74 : Int32 × Int32 × Int32 × RS → Option (Int32 × RS)) (x : Int32 × Int32 × Int32 × RS) : Option (Int32 × RS) :=
(if x.2.2.1 < 0 then
(f_Mo_pop x.2.2.2).bind fun q8 =>
some (0, (q8.2.1, (va_up q8.2.2.1 17 q8.1), q8.2.2.2))
else
if inb x.2.2.1 700 then
if inb x.2.2.1 700 then
(if (x.2.2.2.1 24 x.2.2.1.toNatClampNeg) < 100 then
(if (x.2.2.2.1 24 x.2.2.1.toNatClampNeg) = 0 then
(f_Mo_push (x.2.2.2.1 25 x.2.2.1.toNatClampNeg) x.2.2.2).bind fun q41 =>
k74 (x.1, x.2.1, x.2.2.1 + 1, q41)
else
(if (x.2.2.2.1 24 x.2.2.1.toNatClampNeg) = 1 then
bindv ((96 * ((x.2.2.2.2.1 14) - 1)) + (x.2.2.2.1 25 x.2.2.1.toNatClampNeg)) fun v38 =>
if inb v38 768 then
(f_Mo_push (x.2.2.2.1 33 v38.toNatClampNeg) x.2.2.2).bind fun q40 =>
k74 (x.1, x.2.1, x.2.2.1 + 1, q40) else none
else
(if (x.2.2.2.1 24 x.2.2.1.toNatClampNeg) = 2 then
bindv ((96 * ((x.2.2.2.2.1 14) - 1)) + (x.2.2.2.1 25 x.2.2.1.toNatClampNeg)) fun v35 =>
(f_Mo_pop x.2.2.2).bind fun q36 =>
if inb v35 768 then
k74 (x.1, x.2.1, x.2.2.1 + 1, ((va_up q36.2.1 33 (upd (q36.2.1 33) v35.toNatClampNeg q36.1)), q36.2.2.1, q36.2.2.2)) else none
else
(if (x.2.2.2.1 24 x.2.2.1.toNatClampNeg) = 3 then
(f_Mo_pop x.2.2.2).bind fun q32 =>
(if 32 ≤ (q32.2.2.1 16) then
k74 (x.1, x.2.1, x.2.2.1 + 1, (q32.2.1, (va_up q32.2.2.1 16 ((q32.2.2.1 16) + 1)), q32.2.2.2))
else
if inb (q32.2.2.1 16) 32 then
k74 (x.1, x.2.1, x.2.2.1 + 1, ((va_up q32.2.1 36 (upd (q32.2.1 36) (q32.2.2.1 16).toNatClampNeg q32.1)), (va_up q32.2.2.1 16 ((q32.2.2.1 16) + 1)), q32.2.2.2)) else none)
else
(if (x.2.2.2.1 24 x.2.2.1.toNatClampNeg) = 4 then
if inb ((x.2.2.2.2.1 14) - 1) 9 then
bindv (x.2.2.2.1 34 ((x.2.2.2.2.1 14) - 1).toNatClampNeg) fun v31 =>
k74 (x.1, x.2.1, v31, (x.2.2.2.1, (va_up x.2.2.2.2.1 14 ((x.2.2.2.2.1 14) - 1)), x.2.2.2.2.2)) else none
else
(if (x.2.2.2.1 24 x.2.2.1.toNatClampNeg) = 6 then
k74 (x.1, x.2.1, x.2.2.2.1 25 x.2.2.1.toNatClampNeg, x.2.2.2)
else
(if (x.2.2.2.1 24 x.2.2.1.toNatClampNeg) = 5 then
(f_Mo_pop x.2.2.2).bind fun q28 =>
(if q28.1 = 0 then
k74 (x.1, x.2.1, x.2.2.2.1 25 x.2.2.1.toNatClampNeg, q28.2)
else
k74 (x.1, x.2.1, x.2.2.1 + 1, q28.2))
else
(if (x.2.2.2.1 24 x.2.2.1.toNatClampNeg) = 7 then
(f_Mo_counts 1 x.2.2.2).bind fun q24 =>
(if q24.1 ≤ 0 then
(if (x.2.2.2.1 24 x.2.2.1.toNatClampNeg) = 7 then
(f_Mo_uncounted (x.2.2.2.1 25 x.2.2.1.toNatClampNeg) (x.2.2.1 + 1) q24.2).bind fun q27 =>
k74 (x.1, x.2.1, q27.1, q27.2)
else
k74 (x.1, x.2.1, x.2.2.1 + 1, q24.2))
else
some (q24.1, q24.2))
else
(f_Mo_counts 0 x.2.2.2).bind fun q20 =>
(if q20.1 ≤ 0 then
(if (x.2.2.2.1 24 x.2.2.1.toNatClampNeg) = 7 then
(f_Mo_uncounted (x.2.2.2.1 25 x.2.2.1.toNatClampNeg) (x.2.2.1 + 1) q20.2).bind fun q23 =>
k74 (x.1, x.2.1, q23.1, q23.2)
else
k74 (x.1, x.2.1, x.2.2.1 + 1, q20.2))
else
some (q20.1, q20.2))))))))))
else
bindv ((x.2.2.2.1 24 x.2.2.1.toNatClampNeg) - 100) fun v42 =>
(f_Mo_reckon v42 x.2.2.2).bind fun q43 =>
k74 (x.1, x.2.1, x.2.2.1 + 1, q43)) else none else none)
def BMo_execute_32 (k32 : Int32 × Int32 × Int32 × RS → Option (Int32 × RS)) (x : Int32 × Int32 × Int32 × RS) : Option (Int32 × RS) :=
if inb x.1 122 then
(if (x.2.2.2.1 19 x.1.toNatClampNeg) ≤ x.2.2.1 then
if inb x.1 122 then
(if (x.2.2.2.1 19 x.1.toNatClampNeg) = 0 then
(f_Mo_enter x.1 (-1) (x.2.2.2.1, (va_up x.2.2.2.2.1 13 0), x.2.2.2.2.2)).bind fun q44 =>
lpN (BMo_execute_74) 100000 (x.1, x.2.1, q44.1, q44.2)
else
(f_Mo_enter x.1 (-1) x.2.2.2).bind fun q6 =>
lpN (BMo_execute_74) 100000 (x.1, x.2.1, q6.1, q6.2)) else none
else
(f_Mo_push 0 x.2.2.2).bind fun q45 =>
k32 (x.1, x.2.1, x.2.2.1 + 1, q45)) else none
def f_Mo_execute (a1 : Int32) (a2 : Int32) (r : RS) : Option (Int32 × RS) :=
(f_Mo_push a2 (r.1, (va_up (va_up (va_up (va_up (va_up r.2.1 14 0) 13 0) 15 0) 16 0) 17 0), r.2.2)).bind fun q1 =>
lpN (BMo_execute_32) 100000 (a1, a2, 1, q1)
def BMo_run_47 (k47 : Int32 × Int32 × Int32 × RS → Option (Int32 × RS)) (x : Int32 × Int32 × Int32 × RS) : Option (Int32 × RS) :=
(if (x.2.2.2.2.1 4) ≤ x.2.2.1 then
(f_Mo_partOf x.2.1 x.2.2.2).bind fun q6 =>
(f_Mo_execute q6.1 x.1 q6.2).bind fun q7 =>
some (q7.1, q7.2)
else
(f_Mo_function x.2.2.1 x.2.2.2).bind fun q8 =>
k47 (x.1, x.2.1, x.2.2.1 + 1, q8))
def f_Mo_run (a1 : Int32) (r : RS) : Option (Int32 × RS) :=
(f_Mo_analyse (r.1, (va_up r.2.1 0 0), r.2.2)).bind fun q1 =>
(if (q1.2.1 5) ≤ 0 then
(f_Mo_functionNamed 468013 q1).bind fun q3 =>
(if 0 ≤ q3.1 then
lpN (BMo_run_47) 100000 (a1, q3.1, 0, (q3.2.1, (va_up q3.2.2.1 11 0), q3.2.2.2))
else
(f_Mo_fails 2 q3.2).bind fun q9 =>
some (q9.1, q9.2))
else
(f_Mo_fails 1 q1).bind fun q10 =>
some (q10.1, q10.2))
def f_Mo_output (a1 : Int32) (r : RS) : Option (Int32 × RS) :=
(if a1 = (-1) then
some (r.2.1 16, (r.1, (va_up r.2.1 0 0), r.2.2))
else
(if a1 = (-2) then
some (r.2.1 17, (r.1, (va_up r.2.1 0 0), r.2.2))
else
(if a1 < 0 then
(f_Mo_fails 1 (r.1, (va_up r.2.1 0 0), r.2.2)).bind fun q4 =>
some (q4.1, q4.2)
else
(if (r.2.1 16) ≤ a1 then
(f_Mo_fails 1 (r.1, (va_up r.2.1 0 0), r.2.2)).bind fun q6 =>
some (q6.1, q6.2)
else
(if a1 < 32 then
if inb a1 32 then
some (r.1 36 a1.toNatClampNeg, (r.1, (va_up r.2.1 0 0), r.2.2)) else none
else
(f_Mo_fails 1 (r.1, (va_up r.2.1 0 0), r.2.2)).bind fun q9 =>
some (q9.1, q9.2))))))
def f_La_insert (a1 : Int32) (a2 : Int32) (k : DS) (d : DS) (b : DS) : Option (Int32 × DS × DS × DS) :=
(f_X_insert a1 a2 k d b).bind fun q1 =>
(if q1.1 = 0 then
some (0, q1.2.1, q1.2.2.1, q1.2.2.2)
else
(if q1.1 = 1 then
some (1, q1.2.1, q1.2.2.1, q1.2.2.2)
else
(if q1.1 = 2 then
some (2, q1.2.1, q1.2.2.1, q1.2.2.2)
else
(if q1.1 = 3 then
some (3, q1.2.1, q1.2.2.1, q1.2.2.2)
else
none))))
def f_La_remove (a1 : Int32) (a2 : Int32) (k : DS) (d : DS) (b : DS) : Option (Int32 × DS × DS × DS) :=
(f_X_remove a1 a2 k d b).bind fun q1 =>
(if q1.1 = 0 then
some (0, q1.2.1, q1.2.2.1, q1.2.2.2)
else
(if q1.1 = 1 then
some (1, q1.2.1, q1.2.2.1, q1.2.2.2)
else
(if q1.1 = 2 then
some (2, q1.2.1, q1.2.2.1, q1.2.2.2)
else
none)))
def f_La_letter (a1 : Int32) (k : DS) (d : DS) (b : DS) (o : OS) : Option (Int32 × DS × DS × DS × OS) :=
(f_X_letter a1 k d b).bind fun q1 =>
(if q1.1 = 0 then
some (0, q1.2.2.1, q1.2.2.2.1, q1.2.2.2.2, vp_updL o 0 q1.2.1.toInt64)
else
(if q1.1 = 2 then
some (1, q1.2.2.1, q1.2.2.2.1, q1.2.2.2.2, o)
else
none))
def f_La_token (a1 : Int32) (a2 : Int32) (k : DS) (d : DS) (b : DS) (o : OS) : Option (Int32 × DS × DS × DS × OS) :=
(f_X_token a1 a2 k d b).bind fun q1 =>
(if q1.1 = 0 then
some (0, q1.2.2.1, q1.2.2.2.1, q1.2.2.2.2, vp_updL o 0 q1.2.1.toInt64)
else
(if q1.1 = 1 then
some (1, q1.2.2.1, q1.2.2.2.1, q1.2.2.2.2, o)
else
(if q1.1 = 4 then
some (2, q1.2.2.1, q1.2.2.2.1, q1.2.2.2.2, o)
else
none)))
def f_La_fault (a1 : Int32) (k : DS) (d : DS) (b : DS) (o : OS) : Option (Int32 × DS × DS × DS × OS) :=
(f_X_fault a1 k d b).bind fun q1 =>
(if q1.1 = 0 then
some (0, q1.2.2.1, q1.2.2.2.1, q1.2.2.2.2, vp_updL o 0 q1.2.1.toInt64)
else
(if q1.1 = 4 then
some (1, q1.2.2.1, q1.2.2.2.1, q1.2.2.2.2, o)
else
none))
def f_La_reference (a1 : Int32) (a2 : Int32) (k : DS) (d : DS) (b : DS) (o : OS) : Option (Int32 × DS × DS × DS × OS) :=
(f_X_reference a1 a2 k d b).bind fun q1 =>
(if q1.1 = 0 then
some (0, q1.2.2.1, q1.2.2.2.1, q1.2.2.2.2, vp_updL o 0 q1.2.1.toInt64)
else
(if q1.1 = 4 then
some (1, q1.2.2.1, q1.2.2.2.1, q1.2.2.2.2, o)
else
none))
def f_La_rename (a1 : Int32) (a2 : Int64) (k : DS) (d : DS) (b : DS) (o : OS) : Option (Int32 × DS × DS × DS × OS) :=
(f_X_rename a1 a2 k d b).bind fun q1 =>
(if q1.1 = 0 then
some (0, q1.2.2.1, q1.2.2.2.1, q1.2.2.2.2, vp_updL o 0 q1.2.1.toInt64)
else
(if q1.1 = 1 then
some (1, q1.2.2.1, q1.2.2.2.1, q1.2.2.2.2, o)
else
(if q1.1 = 3 then
some (2, q1.2.2.1, q1.2.2.2.1, q1.2.2.2.2, o)
else
(if q1.1 = 4 then
some (3, q1.2.2.1, q1.2.2.2.1, q1.2.2.2.2, o)
else
(if q1.1 = 5 then
some (4, q1.2.2.1, q1.2.2.2.1, q1.2.2.2.2, o)
else
none)))))
def f_La_inline (a1 : Int32) (k : DS) (d : DS) (b : DS) (o : OS) : Option (Int32 × DS × DS × DS × OS) :=
(f_X_inline a1 k d b).bind fun q1 =>
(if q1.1 = 0 then
some (0, q1.2.2.1, q1.2.2.2.1, q1.2.2.2.2, vp_updL o 0 q1.2.1.toInt64)
else
(if q1.1 = 3 then
some (1, q1.2.2.1, q1.2.2.2.1, q1.2.2.2.2, o)
else
(if q1.1 = 4 then
some (2, q1.2.2.1, q1.2.2.2.1, q1.2.2.2.2, o)
else
(if q1.1 = 5 then
some (3, q1.2.2.1, q1.2.2.2.1, q1.2.2.2.2, o)
else
none))))
def f_La_run (a1 : Int32) (k : DS) (d : DS) (b : DS) (o : OS) : Option (Int32 × DS × DS × DS × OS) :=
(f_X_run a1 k d b).bind fun q1 =>
(if q1.1 = 0 then
some (0, q1.2.2.1, q1.2.2.2.1, q1.2.2.2.2, vp_updL o 0 q1.2.1.toInt64)
else
(if q1.1 = 3 then
some (1, q1.2.2.1, q1.2.2.2.1, q1.2.2.2.2, o)
else
(if q1.1 = 4 then
some (2, q1.2.2.1, q1.2.2.2.1, q1.2.2.2.2, o)
else
none)))
def f_La_output (a1 : Int32) (k : DS) (d : DS) (b : DS) (o : OS) : Option (Int32 × DS × DS × DS × OS) :=
(f_X_output a1 k d b).bind fun q1 =>
(if q1.1 = 0 then
some (0, q1.2.2.1, q1.2.2.2.1, q1.2.2.2.2, vp_updL o 0 q1.2.1.toInt64)
else
(if q1.1 = 4 then
some (1, q1.2.2.1, q1.2.2.2.1, q1.2.2.2.2, o)
else
none))
