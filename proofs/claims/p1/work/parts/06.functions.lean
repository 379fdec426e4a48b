/-! the members of the JDK that the class's texts call, over its nine words (a word is its place t < 9) -/
def f_J0_length_8abf5 (N : Nat) (t : Nat) (mem : zMem) : Option (Int32 × zMem) := some (Int32.ofNat (jsLen.getD t 0), mem)
def f_J0_charAt_5068e (N : Nat) (t : Nat) (mem : zMem) (i : Int32) : Option (Int32 × zMem) := zgd (zin i (jsLen.getD t 0)) (some ((jsByt.getD t []).getD i.toNatClampNeg 0, mem))
def f_X0_addSeen (N : Nat) (mem : zMem) (a1 : Int32) (a2 : Int32) (a3 : Int32) : Option (Int32 × zMem) :=
    (if (mem 36 7) < (6 : Int32) then
    zgd (zin (mem 36 7) 6) (zlet (wr mem 37 (mem 36 7).toNatClampNeg a1) (fun mem3 =>
    zgd (zin (mem3 36 7) 6) (zlet (wr mem3 38 (mem3 36 7).toNatClampNeg a2) (fun mem5 =>
    zgd (zin (mem5 36 7) 6) (zlet (wr mem5 39 (mem5 36 7).toNatClampNeg a3) (fun mem7 =>
    zlet (wr mem7 36 7 ((mem7 36 7) + (1 : Int32))) (fun mem8 =>
    some ((1 : Int32), mem8))))))))
    else
    some ((0 : Int32), mem))
def f_X0_addHeard (N : Nat) (mem : zMem) (a1 : Int32) (a2 : Int32) (a3 : Int32) (a4 : Int32) : Option (Int32 × zMem) :=
    (if (mem 36 8) < (6 : Int32) then
    zgd (zin (mem 36 8) 6) (zlet (wr mem 40 (mem 36 8).toNatClampNeg a1) (fun mem11 =>
    zgd (zin (mem11 36 8) 6) (zlet (wr mem11 41 (mem11 36 8).toNatClampNeg a2) (fun mem13 =>
    zgd (zin (mem13 36 8) 6) (zlet (wr mem13 43 (mem13 36 8).toNatClampNeg (vp_nar .boolean a3)) (fun mem15 =>
    zgd (zin (mem15 36 8) 6) (zlet (wr mem15 42 (mem15 36 8).toNatClampNeg a4) (fun mem17 =>
    zlet (wr mem17 36 8 ((mem17 36 8) + (1 : Int32))) (fun mem18 =>
    some ((1 : Int32), mem18))))))))))
    else
    some ((0 : Int32), mem))
def f_X0_clear (N : Nat) (mem : zMem) : Option (Unit × zMem) :=
    zlet (wr mem 36 7 (0 : Int32)) (fun mem19 =>
    zlet (wr mem19 36 8 (0 : Int32)) (fun mem20 =>
    some ((), mem20)))
def f_X1_beginAsAtFirst (N : Nat) (mem : zMem) : Option (Unit × zMem) :=
    zlet (wr mem 6 4 (0 : Int32)) (fun mem21 =>
    zlet (wr mem21 6 5 (0 : Int32)) (fun mem22 =>
    zlet (wr mem22 6 6 (0 : Int32)) (fun mem23 =>
    zlet (wr mem23 6 7 (1 : Int32)) (fun mem24 =>
    zlet (wr mem24 6 8 (0 : Int32)) (fun mem25 =>
    some ((), mem25))))))
def f_X1_addPart (N : Nat) (mem : zMem) (a1 : Int32) (a2 : Int32) (a3 : Int32) : Option (Unit × zMem) :=
    (if (8 : Int32) ≤ (mem 6 4) then
    some ((), mem)
    else
    zgd (zin (mem 6 4) 8) (zlet (wr mem 7 (mem 6 4).toNatClampNeg a1) (fun mem28 =>
    zgd (zin (mem28 6 4) 8) (zlet (wr mem28 8 (mem28 6 4).toNatClampNeg a2) (fun mem30 =>
    zgd (zin (mem30 6 4) 8) (zlet (wr mem30 9 (mem30 6 4).toNatClampNeg a3) (fun mem32 =>
    zlet (wr mem32 6 4 ((mem32 6 4) + (1 : Int32))) (fun mem33 =>
    some ((), mem33)))))))))
def f_X1_addSoul (N : Nat) (mem : zMem) (a1 : Int32) : Option (Unit × zMem) :=
    (if (6 : Int32) ≤ (mem 6 5) then
    some ((), mem)
    else
    zgd (zin (mem 6 5) 6) (zlet (wr mem 10 (mem 6 5).toNatClampNeg a1) (fun mem36 =>
    zlet (wr mem36 6 5 ((mem36 6 5) + (1 : Int32))) (fun mem37 =>
    some ((), mem37)))))
def f_X1_tell (N : Nat) (mem : zMem) (a1 : Int32) (a2 : Int32) (a3 : Int32) : Option (Unit × zMem) :=
    (if a1 = 0 then
    zb (f_X1_beginAsAtFirst N mem) (fun _ mem39 =>
    some ((), mem39))
    else
(if a1 = 1 then
    zb (f_X1_addPart N mem (0 : Int32) a2 a3) (fun _ mem41 =>
    some ((), mem41))
    else
(if a1 = 2 then
    zb (f_X1_addPart N mem (1 : Int32) a2 a3) (fun _ mem43 =>
    some ((), mem43))
    else
(if a1 = 3 then
    zb (f_X1_addPart N mem (2 : Int32) a2 a3) (fun _ mem45 =>
    some ((), mem45))
    else
(if a1 = 4 then
    zb (f_X1_addPart N mem (3 : Int32) a2 a3) (fun _ mem47 =>
    some ((), mem47))
    else
(if a1 = 5 then
    zb (f_X1_addSoul N mem a2) (fun _ mem49 =>
    some ((), mem49))
    else
(if a1 = 6 then
    zlet (wr mem 6 6 a2) (fun mem51 =>
    some ((), mem51))
    else
(if a1 = 7 then
    zlet (wr mem 6 7 a2) (fun mem53 =>
    some ((), mem53))
    else
(if a1 = 8 then
    zlet (wr mem 6 8 a2) (fun mem55 =>
    some ((), mem55))
    else
    some ((), mem))))))))))
def f_X4_isIn (N : Nat) (mem : zMem) (a1 : Int32) (a2 : Int32) : Option (Int32 × zMem) :=
    (if ((a2 >>> (a1 &&& 31)) &&& (1 : Int32)) = (1 : Int32) then
    some ((1 : Int32), mem)
    else
    some ((0 : Int32), mem))
def f_X4_ouncesOf (N : Nat) (mem : zMem) (a1 : Int32) (a2 : Int32) (a3 : Int32) : Option (Int32 × zMem) :=
    (if a1 = 1 then
    some ((a2 + a3), mem)
    else
(if a1 = 2 then
    some ((a2 / (2 : Int32)), mem)
    else
(if a1 = 3 then
    some ((0 : Int32), mem)
    else
    some (a2, mem))))
def f_X1_ouncesOfSet_5 (N : Nat) : Nat → zMem → Int32 → Int32 → Int32 → Int32 → Option (Int32 × zMem)
  | 0, _, _, _, _, _ => none
  | n + 1, mem, x1, x2, x3, x4 =>
    (if (mem 6 4) ≤ x4 then
    some (x3, mem)
    else
    zb (f_X4_isIn N mem x4 x1) (fun r61 mem61 =>
    (if r61 = 0 then
    f_X1_ouncesOfSet_5 N n mem61 x1 x2 x3 (x4 + 1)
    else
    zgd (zin x4 8) (zgd (zin x4 8) (zb (f_X4_ouncesOf N mem61 (mem61 7 x4.toNatClampNeg) (mem61 8 x4.toNatClampNeg) x2) (fun r65 mem65 =>
    f_X1_ouncesOfSet_5 N n mem65 x1 x2 (x3 + r65) (x4 + 1)))))))
def f_X1_ouncesOfSet (N : Nat) (mem : zMem) (a1 : Int32) (a2 : Int32) : Option (Int32 × zMem) :=
    f_X1_ouncesOfSet_5 N N mem a1 a2 (0 : Int32) (0 : Int32)
def f_X1_minutesOf_4 (N : Nat) : Nat → zMem → Int32 → Int32 → Int32 → Option (Int32 × zMem)
  | 0, _, _, _, _ => none
  | n + 1, mem, x1, x2, x3 =>
    (if (mem 6 4) ≤ x3 then
    some (x2, mem)
    else
    zb (f_X4_isIn N mem x3 x1) (fun r67 mem67 =>
    (if r67 = 0 then
    f_X1_minutesOf_4 N n mem67 x1 x2 (x3 + 1)
    else
    zgd (zin x3 8) (f_X1_minutesOf_4 N n mem67 x1 (x2 + (mem67 9 x3.toNatClampNeg)) (x3 + 1)))))
def f_X1_minutesOf (N : Nat) (mem : zMem) (a1 : Int32) : Option (Int32 × zMem) :=
    f_X1_minutesOf_4 N N mem a1 (0 : Int32) (0 : Int32)
def f_X2_add (N : Nat) (mem : zMem) (a1 : Int32) : Option (Int32 × zMem) :=
    (if (mem 1 4) < (160 : Int32) then
    zgd (zin (mem 1 4) 160) (zlet (wr mem 2 (mem 1 4).toNatClampNeg a1) (fun mem72 =>
    zlet (wr mem72 1 4 ((mem72 1 4) + (1 : Int32))) (fun mem73 =>
    some ((1 : Int32), mem73))))
    else
    some ((0 : Int32), mem))
def f_X4_isWithin (N : Nat) (mem : zMem) (a1 : Int32) (a2 : Int32) (a3 : Int32) : Option (Int32 × zMem) :=
    (if a1 < a2 then
    some ((0 : Int32), mem)
    else
    (if a3 < a1 then
    some ((0 : Int32), mem)
    else
    some ((1 : Int32), mem)))
def f_X2_endOfRow_3 (N : Nat) : Nat → zMem → Int32 → Int32 → Int32 → Option (Int32 × zMem)
  | 0, _, _, _, _ => none
  | n + 1, mem, x2, x3, x4 =>
    (if (mem 1 4) ≤ x4 then
    some (x4, mem)
    else
    zgd (zin x4 160) (zb (f_X4_isWithin N mem (mem 2 x4.toNatClampNeg) x2 x3) (fun r78 mem78 =>
    (if r78 = 0 then
    some (x4, mem78)
    else
    f_X2_endOfRow_3 N n mem78 x2 x3 (x4 + 1)))))
def f_X2_endOfRow (N : Nat) (mem : zMem) (a1 : Int32) (a2 : Int32) (a3 : Int32) : Option (Int32 × zMem) :=
    f_X2_endOfRow_3 N N mem a2 a3 a1
def f_X2_nextToken_59 (N : Nat) (mem : zMem) : Option (Unit × zMem) :=
    (if (mem 1 7) = (mem 1 6) then
    (if (mem 1 4) ≤ (mem 1 6) then
    some ((), mem)
    else
    zlet (wr mem 1 7 ((mem 1 7) + (1 : Int32))) (fun mem82 =>
    some ((), mem82)))
    else
    some ((), mem))
def f_X2_nextToken (N : Nat) (mem : zMem) : Option (Unit × zMem) :=
    zb (f_X2_endOfRow N mem (mem 1 7) (32 : Int32) (32 : Int32)) (fun r83 mem83 =>
    zlet (wr mem83 1 6 r83) (fun mem84 =>
    zb (f_X2_endOfRow N mem84 (mem84 1 6) (97 : Int32) (122 : Int32)) (fun r85 mem85 =>
    zlet (wr mem85 1 7 r85) (fun mem86 =>
    (if (mem86 1 7) = (mem86 1 6) then
    zb (f_X2_endOfRow N mem86 (mem86 1 6) (48 : Int32) (57 : Int32)) (fun r88 mem88 =>
    zlet (wr mem88 1 7 r88) (fun mem89 =>
    f_X2_nextToken_59 N mem89))
    else
    f_X2_nextToken_59 N mem86)))))
def f_X2_nameOf (N : Nat) (mem : zMem) (a1 : Int32) : Option (Nat × zMem) :=
    (if a1 = 0 then
    some (0, mem)
    else
(if a1 = 1 then
    some (1, mem)
    else
(if a1 = 2 then
    some (2, mem)
    else
(if a1 = 3 then
    some (3, mem)
    else
(if a1 = 4 then
    some (4, mem)
    else
(if a1 = 5 then
    some (5, mem)
    else
(if a1 = 6 then
    some (6, mem)
    else
(if a1 = 7 then
    some (7, mem)
    else
    some (8, mem)))))))))
def f_X2_tokenIs_20 (N : Nat) (t : Nat) : Nat → zMem → Int32 → Option (Int32 × zMem)
  | 0, _, _ => none
  | n + 1, mem, x2 =>
    zb (f_J0_length_8abf5 N t mem) (fun r98 mem98 =>
    (if r98 ≤ x2 then
    some ((1 : Int32), mem98)
    else
    zgd (zin ((mem98 1 6) + x2) 160) (zb (f_J0_charAt_5068e N t mem98 x2) (fun r101 mem101 =>
    (if (mem98 2 ((mem98 1 6) + x2).toNatClampNeg) = r101 then
    f_X2_tokenIs_20 N t n mem101 (x2 + 1)
    else
    some ((0 : Int32), mem101))))))
def f_X2_tokenIs (N : Nat) (t : Nat) (mem : zMem) : Option (Int32 × zMem) :=
    zb (f_J0_length_8abf5 N t mem) (fun r103 mem103 =>
    (if r103 = ((mem103 1 7) - (mem103 1 6)) then
    f_X2_tokenIs_20 N t N mem103 (0 : Int32)
    else
    some ((0 : Int32), mem103)))
def f_X2_tokenWord_2 (N : Nat) : Nat → zMem → Int32 → Option (Int32 × zMem)
  | 0, _, _ => none
  | n + 1, mem, x1 =>
    (if (8 : Int32) < x1 then
    some ((-1 : Int32), mem)
    else
    zb (f_X2_nameOf N mem x1) (fun r106 mem106 =>
    zb (f_X2_tokenIs N r106 mem106) (fun r107 mem107 =>
    (if r107 = 0 then
    f_X2_tokenWord_2 N n mem107 (x1 + 1)
    else
    some (x1, mem107)))))
def f_X2_tokenWord (N : Nat) (mem : zMem) : Option (Int32 × zMem) :=
    f_X2_tokenWord_2 N N mem (0 : Int32)
def f_X2_isOfPart (N : Nat) (mem : zMem) (a1 : Int32) : Option (Int32 × zMem) :=
    zb (f_X4_isWithin N mem a1 (1 : Int32) (4 : Int32)) (fun r109 mem109 =>
    zgd (zbo r109) (some (r109, mem109)))
def f_X2_countPartsAndSouls (N : Nat) (mem : zMem) (a1 : Int32) : Option (Unit × zMem) :=
    (if a1 = 0 then
    zlet (wr mem 1 8 (0 : Int32)) (fun mem117 =>
    zlet (wr mem117 1 9 (0 : Int32)) (fun mem118 =>
    some ((), mem118)))
    else
    (if a1 = (5 : Int32) then
    zlet (wr mem 1 9 ((mem 1 9) + (1 : Int32))) (fun mem116 =>
    some ((), mem116))
    else
    zb (f_X2_isOfPart N mem a1) (fun r113 mem113 =>
    (if r113 = 0 then
    some ((), mem113)
    else
    zlet (wr mem113 1 8 ((mem113 1 8) + (1 : Int32))) (fun mem115 =>
    some ((), mem115))))))
def f_X2_tokenNumber_48 (N : Nat) : Nat → zMem → Int32 → Int32 → Option (Int32 × zMem)
  | 0, _, _, _ => none
  | n + 1, mem, x2, x3 =>
    (if (mem 1 7) ≤ x3 then
    some (x2, mem)
    else
    zgd (zin x3 160) (f_X2_tokenNumber_48 N n mem (((x2 * (10 : Int32)) + (mem 2 x3.toNatClampNeg)) - (48 : Int32)) (x3 + 1)))
def f_X2_tokenNumber (N : Nat) (mem : zMem) : Option (Int32 × zMem) :=
    (if ((mem 1 7) - (mem 1 6)) < (1 : Int32) then
    some ((-1 : Int32), mem)
    else
    (if (2 : Int32) < ((mem 1 7) - (mem 1 6)) then
    some ((-1 : Int32), mem)
    else
    zgd (zin (mem 1 6) 160) (zb (f_X4_isWithin N mem (mem 2 (mem 1 6).toNatClampNeg) (48 : Int32) (57 : Int32)) (fun r124 mem124 =>
    (if r124 = 0 then
    some ((-1 : Int32), mem124)
    else
    f_X2_tokenNumber_48 N N mem124 (0 : Int32) (mem124 1 6))))))
def f_X2_mostFirst (N : Nat) (mem : zMem) (a1 : Int32) : Option (Int32 × zMem) :=
    (if a1 = 5 then
    some ((40 : Int32), mem)
    else
(if a1 = 6 then
    some ((9 : Int32), mem)
    else
(if a1 = 7 then
    some ((5 : Int32), mem)
    else
(if a1 = 8 then
    some ((9 : Int32), mem)
    else
    some ((20 : Int32), mem)))))
def f_X2_readClause (N : Nat) (mem : zMem) (a1 : Int32) : Option (Int32 × zMem) :=
    zb (f_X2_nextToken N mem) (fun _ mem130 =>
    zb (f_X2_tokenWord N mem130) (fun r131 mem131 =>
    zgd (zin a1 14) (zlet (wr mem131 3 a1.toNatClampNeg r131) (fun mem133 =>
    zgd (zin a1 14) (zlet (wr mem133 4 a1.toNatClampNeg (0 : Int32)) (fun mem135 =>
    zgd (zin a1 14) (zlet (wr mem135 5 a1.toNatClampNeg (0 : Int32)) (fun mem137 =>
    (if r131 = (-1 : Int32) then
    some ((0 : Int32), mem137)
    else
    zb (f_X2_countPartsAndSouls N mem137 r131) (fun _ mem139 =>
    (if (8 : Int32) < (mem139 1 8) then
    some ((0 : Int32), mem139)
    else
    (if (mem139 1 9) ≤ (6 : Int32) then
    (if r131 = 0 then
    some ((1 : Int32), mem139)
    else
    zb (f_X2_nextToken N mem139) (fun _ mem143 =>
    zb (f_X2_tokenNumber N mem143) (fun r144 mem144 =>
    zgd (zin a1 14) (zlet (wr mem144 4 a1.toNatClampNeg r144) (fun mem146 =>
    zgd (zin a1 14) (zb (f_X2_mostFirst N mem146 r131) (fun r148 mem148 =>
    zb (f_X4_isWithin N mem148 (mem146 4 a1.toNatClampNeg) (0 : Int32) r148) (fun r149 mem149 =>
    (if r149 = 0 then
    some ((0 : Int32), mem149)
    else
    zb (f_X2_isOfPart N mem149 r131) (fun r151 mem151 =>
    (if r151 = 0 then
    some ((1 : Int32), mem151)
    else
    zb (f_X2_nextToken N mem151) (fun _ mem153 =>
    zb (f_X2_tokenNumber N mem153) (fun r154 mem154 =>
    zgd (zin a1 14) (zlet (wr mem154 5 a1.toNatClampNeg r154) (fun mem156 =>
    zgd (zin a1 14) (zb (f_X4_isWithin N mem156 (mem156 5 a1.toNatClampNeg) (1 : Int32) (30 : Int32)) (fun r158 mem158 =>
    zgd (zbo r158) (some (r158, mem158)))))))))))))))))))
    else
    some ((0 : Int32), mem139)))))))))))))
def f_X2_firstFault_22 (N : Nat) : Nat → zMem → Int32 → Option (Int32 × zMem)
  | 0, _, _ => none
  | n + 1, mem, x3 =>
    (if (14 : Int32) ≤ x3 then
    some ((mem 1 6), mem)
    else
    zb (f_X2_readClause N mem x3) (fun r161 mem161 =>
    (if r161 = 0 then
    some ((mem161 1 6), mem161)
    else
    zlet (wr mem161 1 5 (x3 + (1 : Int32))) (fun mem163 =>
    zb (f_X2_nextToken N mem163) (fun _ mem164 =>
    (if (mem164 1 6) < (mem164 1 4) then
    zgd (zin (mem164 1 6) 160) ((if (mem164 2 (mem164 1 6).toNatClampNeg) = (59 : Int32) then
    f_X2_firstFault_22 N n mem164 (x3 + 1)
    else
    some ((mem164 1 6), mem164)))
    else
    some ((-1 : Int32), mem164)))))))
def f_X2_firstFault (N : Nat) (mem : zMem) (a1 : Int32) (a2 : Int32) : Option (Int32 × zMem) :=
    zlet (wr mem 1 8 a1) (fun mem168 =>
    zlet (wr mem168 1 9 a2) (fun mem169 =>
    zlet (wr mem169 1 7 (0 : Int32)) (fun mem170 =>
    zlet (wr mem170 1 5 (0 : Int32)) (fun mem171 =>
    f_X2_firstFault_22 N N mem171 (0 : Int32)))))
def f_X3_beginAsTold (N : Nat) (w : Nat) (mem : zMem) : Option (Unit × zMem) :=
    zlet (cpy6 mem 10 (w + 1)) (fun mem172 =>
    zlet (wr mem172 w 1 (0 : Int32)) (fun mem173 =>
    zlet (wr mem173 w 2 (0 : Int32)) (fun mem174 =>
    zlet (wr mem174 w 3 (mem174 6 8)) (fun mem175 =>
    zlet (wr mem175 w 4 (0 : Int32)) (fun mem176 =>
    zlet (wr mem176 w 5 (0 : Int32)) (fun mem177 =>
    zlet (wr mem177 w 6 (0 : Int32)) (fun mem178 =>
    some ((), mem178))))))))
def f_X3_end_2 (N : Nat) (w : Nat) : Nat → zMem → Int32 → Int32 → Option (Unit × zMem)
  | 0, _, _, _ => none
  | n + 1, mem, x1, x2 =>
    (if (6 : Int32) ≤ x2 then
    zlet (wr mem w 1 (0 : Int32)) (fun mem180 =>
    zlet (wr mem180 w 2 (0 : Int32)) (fun mem181 =>
    zlet (wr mem181 w 4 ((mem181 w 4) + (1 : Int32))) (fun mem182 =>
    (if x1 = 0 then
    zlet (wr mem182 w 6 ((mem182 w 6) + (0 : Int32))) (fun mem184 =>
    some ((), mem184))
    else
    zlet (wr mem182 w 6 ((mem182 w 6) + (1 : Int32))) (fun mem185 =>
    some ((), mem185))))))
    else
    (if x1 = 0 then
    zgd (zin x2 6) (zgd (zin x2 6) (zlet (wr mem (w + 1) x2.toNatClampNeg ((mem (w + 1) x2.toNatClampNeg) / (2 : Int32))) (fun mem189 =>
    f_X3_end_2 N w n mem189 x1 (x2 + 1))))
    else
    zgd (zin x2 6) (zlet (wr mem (w + 1) x2.toNatClampNeg (0 : Int32)) (fun mem191 =>
    f_X3_end_2 N w n mem191 x1 (x2 + 1)))))
def f_X3_end (N : Nat) (w : Nat) (mem : zMem) (a1 : Int32) : Option (Unit × zMem) :=
    f_X3_end_2 N w N mem a1 (0 : Int32)
def f_X3_becomeLike (N : Nat) (w : Nat) (o : Nat) (mem : zMem) : Option (Unit × zMem) :=
    zlet (cpy6 mem (o + 1) (w + 1)) (fun mem192 =>
    zlet (wr mem192 w 1 (mem192 o 1)) (fun mem193 =>
    zlet (wr mem193 w 2 (mem193 o 2)) (fun mem194 =>
    zlet (wr mem194 w 3 (mem194 o 3)) (fun mem195 =>
    zlet (wr mem195 w 4 (mem195 o 4)) (fun mem196 =>
    zlet (wr mem196 w 5 (mem196 o 5)) (fun mem197 =>
    zlet (wr mem197 w 6 (mem197 o 6)) (fun mem198 =>
    some ((), mem198))))))))
def f_X4_write (N : Nat) (mem : zMem) (a1 : Int32) : Option (Int32 × zMem) :=
    zb (f_X4_isWithin N mem a1 (0 : Int32) (255 : Int32)) (fun r199 mem199 =>
    (if r199 = 0 then
    some ((-3 : Int32), mem199)
    else
    zb (f_X2_add N mem199 a1) (fun r201 mem201 =>
    (if r201 = 0 then
    some ((-5 : Int32), mem201)
    else
    some ((mem201 1 4), mem201)))))
def f_X4_erase (N : Nat) (mem : zMem) : Option (Int32 × zMem) :=
    zlet (wr mem 1 4 (0 : Int32)) (fun mem203 =>
    some ((mem 1 4), mem203))
def f_X4_fault (N : Nat) (mem : zMem) : Option (Int32 × zMem) :=
    zb (f_X2_firstFault N mem (mem 6 4) (mem 6 5)) (fun r204 mem204 =>
    some (r204, mem204))
def f_X4_beginAnew_20 (N : Nat) : Nat → zMem → Int32 → Option (Unit × zMem)
  | 0, _, _ => none
  | n + 1, mem, x1 =>
    (if (2 : Int32) ≤ x1 then
    zlet (wr mem 0 7 (0 : Int32)) (fun mem206 =>
    some ((), mem206))
    else
    zgd (zin x1 2) (zlet (wr mem 35 x1.toNatClampNeg (vp_nar .boolean (0 : Int32))) (fun mem208 =>
    f_X4_beginAnew_20 N n mem208 (x1 + 1))))
def f_X4_beginAnew (N : Nat) (mem : zMem) : Option (Unit × zMem) :=
    zb (f_X3_beginAsTold N 11 mem) (fun _ mem209 =>
    zb (f_X0_clear N mem209) (fun _ mem210 =>
    f_X4_beginAnew_20 N N mem210 (0 : Int32)))
def f_X4_kirk_38 (N : Nat) : Nat → zMem → Int32 → Int32 → Option (Int32 × zMem)
  | 0, _, _, _ => none
  | n + 1, mem, x1, x2 =>
    (if x1 ≤ x2 then
    zlet (wr mem 1 4 (0 : Int32)) (fun mem212 =>
    zb (f_X4_beginAnew N mem212) (fun _ mem213 =>
    some (x1, mem213)))
    else
    zgd (zin x2 14) (zgd (zin x2 14) (zgd (zin x2 14) (zb (f_X1_tell N mem (mem 3 x2.toNatClampNeg) (mem 4 x2.toNatClampNeg) (mem 5 x2.toNatClampNeg)) (fun _ mem217 =>
    f_X4_kirk_38 N n mem217 x1 (x2 + 1))))))
def f_X4_kirk (N : Nat) (mem : zMem) : Option (Int32 × zMem) :=
    zb (f_X2_firstFault N mem (mem 6 4) (mem 6 5)) (fun r218 mem218 =>
    (if r218 = (-1 : Int32) then
    f_X4_kirk_38 N N mem218 (mem218 1 5) (0 : Int32)
    else
    some ((-4 : Int32), mem218)))
def f_X4_isPart (N : Nat) (mem : zMem) (a1 : Int32) : Option (Int32 × zMem) :=
    (if a1 < 0 then
    some ((0 : Int32), mem)
    else
    (if (mem 6 4) ≤ a1 then
    some ((0 : Int32), mem)
    else
    some ((1 : Int32), mem)))
def f_X4_part (N : Nat) (mem : zMem) (a1 : Int32) (a2 : Int32) : Option (Int32 × zMem) :=
    zb (f_X4_isPart N mem a1) (fun r222 mem222 =>
    (if r222 = 0 then
    some ((-2 : Int32), mem222)
    else
    (if a2 = 0 then
    zgd (zin a1 8) (some ((mem222 7 a1.toNatClampNeg), mem222))
    else
(if a2 = 1 then
    zgd (zin a1 8) (some ((mem222 8 a1.toNatClampNeg), mem222))
    else
(if a2 = 2 then
    zgd (zin a1 8) (some ((mem222 9 a1.toNatClampNeg), mem222))
    else
(if a2 = 3 then
    zgd (zin a1 8) (zgd (zin a1 8) (zb (f_X4_ouncesOf N mem222 (mem222 7 a1.toNatClampNeg) (mem222 8 a1.toNatClampNeg) (mem222 11 3)) (fun r233 mem233 =>
    some (r233, mem233))))
    else
(if a2 = 4 then
    zb (f_X4_isIn N mem222 a1 (mem222 11 1)) (fun r235 mem235 =>
    (if r235 = 0 then
    some ((0 : Int32), mem235)
    else
    some ((1 : Int32), mem235)))
    else
    some ((-3 : Int32), mem222))))))))
def f_X4_isSoul (N : Nat) (mem : zMem) (a1 : Int32) : Option (Int32 × zMem) :=
    (if a1 < 0 then
    some ((0 : Int32), mem)
    else
    (if (mem 6 5) ≤ a1 then
    some ((0 : Int32), mem)
    else
    some ((1 : Int32), mem)))
def f_X4_sins (N : Nat) (mem : zMem) (a1 : Int32) : Option (Int32 × zMem) :=
    zb (f_X4_isSoul N mem a1) (fun r239 mem239 =>
    (if r239 = 0 then
    some ((-2 : Int32), mem239)
    else
    zgd (zin a1 6) (some ((mem239 12 a1.toNatClampNeg), mem239))))
def f_X4_isTakenAs_25 (N : Nat) (mem : zMem) (x0 : Int32) (x1 : Int32) (x2 : Int32) (s0 : Int32) : Option (Int32 × zMem) :=
    (if x2 = 0 then
    (if s0 = 0 then
    (if x1 = (x0 + (1 : Int32)) then
    some ((1 : Int32), mem)
    else
    some ((0 : Int32), mem))
    else
    some ((1 : Int32), mem))
    else
    some ((1 : Int32), mem))
def f_X4_isTakenAs_24 (N : Nat) (mem : zMem) (x0 : Int32) (x1 : Int32) (x2 : Int32) : Option (Int32 × zMem) :=
    f_X4_isTakenAs_25 N mem x0 x1 x2 (0 : Int32)
def f_X4_isTakenAs_9 (N : Nat) (mem : zMem) (x0 : Int32) (x1 : Int32) (s0 : Int32) : Option (Int32 × zMem) :=
    (if x1 = (1 : Int32) then
    (if x0 = (3 : Int32) then
    f_X4_isTakenAs_24 N mem x0 x1 s0
    else
    f_X4_isTakenAs_25 N mem x0 x1 s0 (1 : Int32))
    else
    f_X4_isTakenAs_24 N mem x0 x1 s0)
def f_X4_isTakenAs (N : Nat) (mem : zMem) (a1 : Int32) (a2 : Int32) : Option (Int32 × zMem) :=
    (if a2 = 0 then
    f_X4_isTakenAs_9 N mem a1 a2 (1 : Int32)
    else
    f_X4_isTakenAs_9 N mem a1 a2 (0 : Int32))
def f_X4_as (N : Nat) (mem : zMem) (a1 : Int32) (a2 : Int32) : Option (Int32 × zMem) :=
    zb (f_X4_isPart N mem a1) (fun r248 mem248 =>
    (if r248 = 0 then
    some ((-2 : Int32), mem248)
    else
    zb (f_X4_isWithin N mem248 a2 (0 : Int32) (4 : Int32)) (fun r250 mem250 =>
    (if r250 = 0 then
    some ((-3 : Int32), mem250)
    else
    zgd (zin a1 8) (zb (f_X4_isTakenAs N mem250 (mem250 7 a1.toNatClampNeg) a2) (fun r253 mem253 =>
    (if r253 = 0 then
    some ((-4 : Int32), mem253)
    else
    zgd (zin a1 8) (zgd (zin a1 8) (zb (f_X4_ouncesOf N mem253 (mem253 7 a1.toNatClampNeg) (mem253 8 a1.toNatClampNeg) (9 : Int32)) (fun r257 mem257 =>
    some (r257, mem257)))))))))))
def f_X4_sermonOf (N : Nat) (mem : zMem) (a1 : Int32) : Option (Int32 × zMem) :=
    zb (f_X1_ouncesOfSet N mem a1 (mem 11 3)) (fun r258 mem258 =>
    some ((r258 + (mem258 6 6)), mem258))
def f_J9_max_7cf53 (N : Nat) (mem : zMem) (a1 : Int32) (a2 : Int32) : Option (Int32 × zMem) :=
    (if a1 < a2 then
    some (a2, mem)
    else
    some (a1, mem))
def f_X4_leadWithout_11 (N : Nat) : Nat → zMem → Int32 → Int32 → Int32 → Option (Int32 × zMem)
  | 0, _, _, _, _ => none
  | n + 1, mem, x1, x2, x3 =>
    (if (mem 6 5) ≤ x3 then
    zb (f_J9_max_7cf53 N mem x2 (0 : Int32)) (fun r261 mem261 =>
    some (r261, mem261))
    else
    zb (f_X4_isIn N mem x3 x1) (fun r262 mem262 =>
    (if r262 = 0 then
    zgd (zin x3 6) (f_X4_leadWithout_11 N n mem262 x1 (x2 + (mem262 12 x3.toNatClampNeg)) (x3 + 1))
    else
    f_X4_leadWithout_11 N n mem262 x1 x2 (x3 + 1))))
def f_X4_leadWithout (N : Nat) (mem : zMem) (a1 : Int32) : Option (Int32 × zMem) :=
    f_X4_leadWithout_11 N N mem a1 (-(mem 11 2)) (0 : Int32)
def f_X4_leadNow (N : Nat) (mem : zMem) : Option (Int32 × zMem) :=
    zb (f_X4_leadWithout N mem (0 : Int32)) (fun r265 mem265 =>
    some (r265, mem265))
def f_J9_abs_0f7a4 (N : Nat) (mem : zMem) (a1 : Int32) : Option (Int32 × zMem) :=
    (if 0 ≤ a1 then
    some (a1, mem)
    else
    some ((-a1), mem))
def f_X4_hangsLevel (N : Nat) (mem : zMem) (a1 : Int32) (a2 : Int32) : Option (Int32 × zMem) :=
    zb (f_J9_abs_0f7a4 N mem (a1 - a2)) (fun r267 mem267 =>
    (if (mem267 6 7) < r267 then
    some ((0 : Int32), mem267)
    else
    some ((1 : Int32), mem267)))
def f_X4_hangsLevelNow (N : Nat) (mem : zMem) : Option (Int32 × zMem) :=
    zb (f_X4_sermonOf N mem (mem 11 1)) (fun r269 mem269 =>
    zb (f_X4_leadNow N mem269) (fun r270 mem270 =>
    zb (f_X4_hangsLevel N mem270 r269 r270) (fun r271 mem271 =>
    zgd (zbo r271) (some (r271, mem271)))))
def f_J9_min_7cf53 (N : Nat) (mem : zMem) (a1 : Int32) (a2 : Int32) : Option (Int32 × zMem) :=
    (if a2 < a1 then
    some (a2, mem)
    else
    some (a1, mem))
def f_X4_rememberWeek (N : Nat) (mem : zMem) : Option (Unit × zMem) :=
    zgd (zin (mem 0 8) 8) (zb (f_X3_becomeLike N (14 + 2 * (mem 0 8).toNatClampNeg) 11 mem) (fun _ mem275 =>
    zlet (wr mem275 0 8 (((mem275 0 8) + (1 : Int32)) - ((mem275 0 8) + (1 : Int32)) / (8 : Int32) * (8 : Int32))) (fun mem276 =>
    zb (f_J9_min_7cf53 N mem276 ((mem276 0 7) + (1 : Int32)) (8 : Int32)) (fun r277 mem277 =>
    zlet (wr mem277 0 7 r277) (fun mem278 =>
    some ((), mem278))))))
def f_X4_preach (N : Nat) (mem : zMem) (a1 : Int32) : Option (Int32 × zMem) :=
    zb (f_X4_isPart N mem a1) (fun r279 mem279 =>
    (if r279 = 0 then
    some ((-2 : Int32), mem279)
    else
    zb (f_X4_isIn N mem279 a1 (mem279 11 1)) (fun r281 mem281 =>
    (if r281 = 0 then
    zb (f_X4_hangsLevelNow N mem281) (fun r283 mem283 =>
    (if r283 = 0 then
    zb (f_X4_rememberWeek N mem283) (fun _ mem285 =>
    zlet (wr mem285 11 1 ((mem285 11 1) ||| ((1 : Int32) <<< (a1 &&& 31)))) (fun mem286 =>
    zgd (zin a1 8) (zlet (wr mem286 11 5 ((mem286 11 5) + (mem286 9 a1.toNatClampNeg))) (fun mem288 =>
    zb (f_X4_sermonOf N mem288 (mem288 11 1)) (fun r289 mem289 =>
    zb (f_X4_leadNow N mem289) (fun r290 mem290 =>
    some (((r289 - r290) + (9999 : Int32)), mem290)))))))
    else
    some ((-4 : Int32), mem283)))
    else
    some ((-4 : Int32), mem281)))))
def f_X4_sin (N : Nat) (mem : zMem) (a1 : Int32) (a2 : Int32) : Option (Int32 × zMem) :=
    zb (f_X4_isSoul N mem a1) (fun r291 mem291 =>
    (if r291 = 0 then
    some ((-2 : Int32), mem291)
    else
    zb (f_X4_isWithin N mem291 a2 (1 : Int32) (20 : Int32)) (fun r293 mem293 =>
    (if r293 = 0 then
    some ((-3 : Int32), mem293)
    else
    zb (f_X4_rememberWeek N mem293) (fun _ mem295 =>
    zgd (zin a1 6) (zb (f_J9_min_7cf53 N mem295 ((mem295 12 a1.toNatClampNeg) + a2) (99 : Int32)) (fun r297 mem297 =>
    zgd (zin a1 6) (zlet (wr mem297 12 a1.toNatClampNeg r297) (fun mem299 =>
    zgd (zin a1 6) (some ((mem299 12 a1.toNatClampNeg), mem299)))))))))))
def f_X4_ballast (N : Nat) (mem : zMem) (a1 : Int32) : Option (Int32 × zMem) :=
    zb (f_X4_isWithin N mem a1 (1 : Int32) (20 : Int32)) (fun r301 mem301 =>
    (if r301 = 0 then
    some ((-3 : Int32), mem301)
    else
    zb (f_X4_rememberWeek N mem301) (fun _ mem303 =>
    zb (f_J9_min_7cf53 N mem303 ((mem303 11 2) + a1) (99 : Int32)) (fun r304 mem304 =>
    zlet (wr mem304 11 2 r304) (fun mem305 =>
    some ((mem305 11 2), mem305))))))
def f_X4_rain (N : Nat) (mem : zMem) (a1 : Int32) : Option (Int32 × zMem) :=
    zb (f_X4_isWithin N mem a1 (0 : Int32) (9 : Int32)) (fun r306 mem306 =>
    (if r306 = 0 then
    some ((-3 : Int32), mem306)
    else
    zb (f_X4_rememberWeek N mem306) (fun _ mem308 =>
    zlet (wr mem308 11 3 a1) (fun mem309 =>
    some ((mem308 11 3), mem309)))))
def f_X4_sunday (N : Nat) (mem : zMem) : Option (Int32 × zMem) :=
    (if (mem 11 4) < (999 : Int32) then
    zb (f_X4_hangsLevelNow N mem) (fun r311 mem311 =>
    zb (f_X4_rememberWeek N mem311) (fun _ mem312 =>
    zb (f_X3_end N 11 mem312 r311) (fun _ mem313 =>
    (if r311 = 0 then
    some ((0 : Int32), mem313)
    else
    some ((1 : Int32), mem313)))))
    else
    some ((-5 : Int32), mem))
def f_X4_undo (N : Nat) (mem : zMem) : Option (Int32 × zMem) :=
    (if 0 < (mem 0 7) then
    zlet (wr mem 0 7 ((mem 0 7) - (1 : Int32))) (fun mem316 =>
    zlet (wr mem316 0 8 ((((mem316 0 8) + (8 : Int32)) - (1 : Int32)) - (((mem316 0 8) + (8 : Int32)) - (1 : Int32)) / (8 : Int32) * (8 : Int32))) (fun mem317 =>
    zgd (zin (mem317 0 8) 8) (zb (f_X3_becomeLike N 11 (14 + 2 * (mem317 0 8).toNatClampNeg) mem317) (fun _ mem319 =>
    some ((mem319 0 7), mem319)))))
    else
    some ((-4 : Int32), mem))
def f_X4_keep (N : Nat) (mem : zMem) (a1 : Int32) : Option (Int32 × zMem) :=
    zb (f_X4_isWithin N mem a1 (0 : Int32) (1 : Int32)) (fun r320 mem320 =>
    (if r320 = 0 then
    some ((-2 : Int32), mem320)
    else
    zgd (zin a1 2) (zb (f_X3_becomeLike N (31 + 2 * a1.toNatClampNeg) 11 mem320) (fun _ mem323 =>
    zgd (zin a1 2) (zlet (wr mem323 35 a1.toNatClampNeg (vp_nar .boolean (1 : Int32))) (fun mem325 =>
    some ((mem325 11 4), mem325)))))))
def f_X4_back (N : Nat) (mem : zMem) (a1 : Int32) : Option (Int32 × zMem) :=
    zb (f_X4_isWithin N mem a1 (0 : Int32) (1 : Int32)) (fun r326 mem326 =>
    (if r326 = 0 then
    some ((-2 : Int32), mem326)
    else
    zgd (zin a1 2) ((if (mem326 35 a1.toNatClampNeg) = 0 then
    some ((-4 : Int32), mem326)
    else
    zgd (zin a1 2) (zb (f_X3_becomeLike N 11 (31 + 2 * a1.toNatClampNeg) mem326) (fun _ mem331 =>
    zlet (wr mem331 0 7 (0 : Int32)) (fun mem332 =>
    some ((mem332 11 4), mem332))))))))
def f_X4_stops_33 (N : Nat) : Nat → zMem → Int32 → Int32 → Int32 → Int32 → Option (Int32 × zMem)
  | 0, _, _, _, _, _ => none
  | n + 1, mem, x1, x2, x3, x4 =>
    (if (mem 6 4) ≤ x4 then
    some ((-1 : Int32), mem)
    else
    zb (f_X4_isIn N mem x4 (mem 11 1)) (fun r334 mem334 =>
    (if r334 = 0 then
    zb (f_X4_sermonOf N mem334 (x2 ||| ((1 : Int32) <<< (x4 &&& 31)))) (fun r336 mem336 =>
    zb (f_X4_hangsLevel N mem336 r336 x1) (fun r337 mem337 =>
    (if r337 = 0 then
    f_X4_stops_33 N n mem337 x1 (x2 ||| ((1 : Int32) <<< (x4 &&& 31))) (x3 + 1) (x4 + 1)
    else
    some ((x3 + 1), mem337))))
    else
    f_X4_stops_33 N n mem334 x1 x2 x3 (x4 + 1))))
def f_X4_stops (N : Nat) (mem : zMem) : Option (Int32 × zMem) :=
    zb (f_X4_leadNow N mem) (fun r339 mem339 =>
    zb (f_X4_sermonOf N mem339 (mem339 11 1)) (fun r340 mem340 =>
    zb (f_X4_hangsLevel N mem340 r340 r339) (fun r341 mem341 =>
    (if r341 = 0 then
    f_X4_stops_33 N N mem341 r339 (mem339 11 1) (0 : Int32) (0 : Int32)
    else
    some ((0 : Int32), mem341)))))
def f_X4_levels (N : Nat) (mem : zMem) (a1 : Int32) (a2 : Int32) : Option (Int32 × zMem) :=
    (if (a1 &&& (mem 11 1)) = 0 then
    zb (f_X4_sermonOf N mem ((mem 11 1) ||| a1)) (fun r344 mem344 =>
    zb (f_X4_hangsLevel N mem344 r344 a2) (fun r345 mem345 =>
    (if r345 = 0 then
    some ((0 : Int32), mem345)
    else
    some ((1 : Int32), mem345))))
    else
    some ((0 : Int32), mem))
def f_J6_bitCount_0f7a4 (N : Nat) (mem : zMem) (a1 : Int32) : Option (Int32 × zMem) :=
    some (((((((((a1 - ((a1.toUInt32 >>> ((1 : Int32).toUInt32 &&& Int32.toUInt32 31)).toInt32 &&& (1431655765 : Int32))) &&& (858993459 : Int32)) + (((a1 - ((a1.toUInt32 >>> ((1 : Int32).toUInt32 &&& Int32.toUInt32 31)).toInt32 &&& (1431655765 : Int32))).toUInt32 >>> ((2 : Int32).toUInt32 &&& Int32.toUInt32 31)).toInt32 &&& (858993459 : Int32))) + ((((a1 - ((a1.toUInt32 >>> ((1 : Int32).toUInt32 &&& Int32.toUInt32 31)).toInt32 &&& (1431655765 : Int32))) &&& (858993459 : Int32)) + (((a1 - ((a1.toUInt32 >>> ((1 : Int32).toUInt32 &&& Int32.toUInt32 31)).toInt32 &&& (1431655765 : Int32))).toUInt32 >>> ((2 : Int32).toUInt32 &&& Int32.toUInt32 31)).toInt32 &&& (858993459 : Int32))).toUInt32 >>> ((4 : Int32).toUInt32 &&& Int32.toUInt32 31)).toInt32) &&& (252645135 : Int32)) + ((((((a1 - ((a1.toUInt32 >>> ((1 : Int32).toUInt32 &&& Int32.toUInt32 31)).toInt32 &&& (1431655765 : Int32))) &&& (858993459 : Int32)) + (((a1 - ((a1.toUInt32 >>> ((1 : Int32).toUInt32 &&& Int32.toUInt32 31)).toInt32 &&& (1431655765 : Int32))).toUInt32 >>> ((2 : Int32).toUInt32 &&& Int32.toUInt32 31)).toInt32 &&& (858993459 : Int32))) + ((((a1 - ((a1.toUInt32 >>> ((1 : Int32).toUInt32 &&& Int32.toUInt32 31)).toInt32 &&& (1431655765 : Int32))) &&& (858993459 : Int32)) + (((a1 - ((a1.toUInt32 >>> ((1 : Int32).toUInt32 &&& Int32.toUInt32 31)).toInt32 &&& (1431655765 : Int32))).toUInt32 >>> ((2 : Int32).toUInt32 &&& Int32.toUInt32 31)).toInt32 &&& (858993459 : Int32))).toUInt32 >>> ((4 : Int32).toUInt32 &&& Int32.toUInt32 31)).toInt32) &&& (252645135 : Int32)).toUInt32 >>> ((8 : Int32).toUInt32 &&& Int32.toUInt32 31)).toInt32) + (((((((a1 - ((a1.toUInt32 >>> ((1 : Int32).toUInt32 &&& Int32.toUInt32 31)).toInt32 &&& (1431655765 : Int32))) &&& (858993459 : Int32)) + (((a1 - ((a1.toUInt32 >>> ((1 : Int32).toUInt32 &&& Int32.toUInt32 31)).toInt32 &&& (1431655765 : Int32))).toUInt32 >>> ((2 : Int32).toUInt32 &&& Int32.toUInt32 31)).toInt32 &&& (858993459 : Int32))) + ((((a1 - ((a1.toUInt32 >>> ((1 : Int32).toUInt32 &&& Int32.toUInt32 31)).toInt32 &&& (1431655765 : Int32))) &&& (858993459 : Int32)) + (((a1 - ((a1.toUInt32 >>> ((1 : Int32).toUInt32 &&& Int32.toUInt32 31)).toInt32 &&& (1431655765 : Int32))).toUInt32 >>> ((2 : Int32).toUInt32 &&& Int32.toUInt32 31)).toInt32 &&& (858993459 : Int32))).toUInt32 >>> ((4 : Int32).toUInt32 &&& Int32.toUInt32 31)).toInt32) &&& (252645135 : Int32)) + ((((((a1 - ((a1.toUInt32 >>> ((1 : Int32).toUInt32 &&& Int32.toUInt32 31)).toInt32 &&& (1431655765 : Int32))) &&& (858993459 : Int32)) + (((a1 - ((a1.toUInt32 >>> ((1 : Int32).toUInt32 &&& Int32.toUInt32 31)).toInt32 &&& (1431655765 : Int32))).toUInt32 >>> ((2 : Int32).toUInt32 &&& Int32.toUInt32 31)).toInt32 &&& (858993459 : Int32))) + ((((a1 - ((a1.toUInt32 >>> ((1 : Int32).toUInt32 &&& Int32.toUInt32 31)).toInt32 &&& (1431655765 : Int32))) &&& (858993459 : Int32)) + (((a1 - ((a1.toUInt32 >>> ((1 : Int32).toUInt32 &&& Int32.toUInt32 31)).toInt32 &&& (1431655765 : Int32))).toUInt32 >>> ((2 : Int32).toUInt32 &&& Int32.toUInt32 31)).toInt32 &&& (858993459 : Int32))).toUInt32 >>> ((4 : Int32).toUInt32 &&& Int32.toUInt32 31)).toInt32) &&& (252645135 : Int32)).toUInt32 >>> ((8 : Int32).toUInt32 &&& Int32.toUInt32 31)).toInt32).toUInt32 >>> ((16 : Int32).toUInt32 &&& Int32.toUInt32 31)).toInt32) &&& (63 : Int32)), mem)
def f_X4_isSooner (N : Nat) (mem : zMem) (a1 : Int32) (a2 : Int32) : Option (Int32 × zMem) :=
    zb (f_X1_minutesOf N mem a1) (fun r347 mem347 =>
    zb (f_X1_minutesOf N mem347 a2) (fun r348 mem348 =>
    (if r347 = r348 then
    zb (f_J6_bitCount_0f7a4 N mem348 a1) (fun r350 mem350 =>
    zb (f_J6_bitCount_0f7a4 N mem350 a2) (fun r351 mem351 =>
    (if r351 ≤ r350 then
    some ((0 : Int32), mem351)
    else
    some ((1 : Int32), mem351))))
    else
    (if r348 ≤ r347 then
    some ((0 : Int32), mem348)
    else
    some ((1 : Int32), mem348)))))
def f_X4_soonestSet_9 (N : Nat) : Nat → zMem → Int32 → Int32 → Int32 → Option (Int32 × zMem)
  | 0, _, _, _, _ => none
  | n + 1, mem, x1, x2, x3 =>
    (if ((1 : Int32) <<< ((mem 6 4) &&& 31)) ≤ x3 then
    some (x2, mem)
    else
    zb (f_X4_levels N mem x3 x1) (fun r355 mem355 =>
    (if r355 = 0 then
    f_X4_soonestSet_9 N n mem355 x1 x2 (x3 + 1)
    else
    (if x2 = (-1 : Int32) then
    f_X4_soonestSet_9 N n mem355 x1 x3 (x3 + 1)
    else
    zb (f_X4_isSooner N mem355 x3 x2) (fun r358 mem358 =>
    (if r358 = 0 then
    f_X4_soonestSet_9 N n mem358 x1 x2 (x3 + 1)
    else
    f_X4_soonestSet_9 N n mem358 x1 x3 (x3 + 1)))))))
def f_X4_soonestSet (N : Nat) (mem : zMem) : Option (Int32 × zMem) :=
    zb (f_X4_leadNow N mem) (fun r360 mem360 =>
    f_X4_soonestSet_9 N N mem360 r360 (-1 : Int32) (0 : Int32))
def f_X4_soonest (N : Nat) (mem : zMem) (a1 : Int32) : Option (Int32 × zMem) :=
    zb (f_X4_isWithin N mem a1 (0 : Int32) (1 : Int32)) (fun r361 mem361 =>
    (if r361 = 0 then
    some ((-3 : Int32), mem361)
    else
    zb (f_X4_soonestSet N mem361) (fun r363 mem363 =>
    (if r363 = (-1 : Int32) then
    some ((-1 : Int32), mem363)
    else
    (if a1 = 0 then
    some (r363, mem363)
    else
    zb (f_X1_minutesOf N mem363 r363) (fun r366 mem366 =>
    some (r366, mem366)))))))
def f_X4_never_15 (N : Nat) : Nat → zMem → Int32 → Int32 → Option (Int32 × zMem)
  | 0, _, _, _ => none
  | n + 1, mem, x1, x2 =>
    (if ((1 : Int32) <<< ((mem 6 4) &&& 31)) ≤ x2 then
    some ((1 : Int32), mem)
    else
    zb (f_X4_levels N mem x2 x1) (fun r368 mem368 =>
    (if r368 = 0 then
    f_X4_never_15 N n mem368 x1 (x2 + 1)
    else
    some ((0 : Int32), mem368))))
def f_X4_never (N : Nat) (mem : zMem) (a1 : Int32) : Option (Int32 × zMem) :=
    zb (f_X4_isWithin N mem a1 (0 : Int32) (99 : Int32)) (fun r370 mem370 =>
    (if r370 = 0 then
    some ((-3 : Int32), mem370)
    else
    f_X4_never_15 N N mem370 a1 (0 : Int32)))
def f_X4_isSet (N : Nat) (mem : zMem) (a1 : Int32) : Option (Int32 × zMem) :=
    (if a1 < 0 then
    some ((0 : Int32), mem)
    else
    (if ((1 : Int32) <<< ((mem 6 4) &&& 31)) ≤ a1 then
    some ((0 : Int32), mem)
    else
    some ((1 : Int32), mem)))
def f_X4_seen (N : Nat) (mem : zMem) (a1 : Int32) (a2 : Int32) (a3 : Int32) : Option (Int32 × zMem) :=
    zb (f_X4_isSet N mem a1) (fun r374 mem374 =>
    (if r374 = 0 then
    some ((-2 : Int32), mem374)
    else
    zb (f_X4_isWithin N mem374 a2 (0 : Int32) (9 : Int32)) (fun r376 mem376 =>
    (if r376 = 0 then
    some ((-3 : Int32), mem376)
    else
    zb (f_X4_isWithin N mem376 a3 (0 : Int32) (255 : Int32)) (fun r378 mem378 =>
    (if r378 = 0 then
    some ((-3 : Int32), mem378)
    else
    zb (f_X0_addSeen N mem378 a1 a2 a3) (fun r380 mem380 =>
    (if r380 = 0 then
    some ((-5 : Int32), mem380)
    else
    some ((mem380 36 7), mem380)))))))))
def f_X4_heard_49 (N : Nat) (mem : zMem) (s1 : Int32) (s2 : Int32) (s3 : Int32) : Option (Int32 × zMem) :=
    zb (f_X0_addHeard N mem s1 s2 s3 (mem 11 3)) (fun r382 mem382 =>
    (if r382 = 0 then
    some ((-5 : Int32), mem382)
    else
    some ((mem382 36 8), mem382)))
def f_X4_heard (N : Nat) (mem : zMem) (a1 : Int32) (a2 : Int32) (a3 : Int32) : Option (Int32 × zMem) :=
    zb (f_X4_isSet N mem a1) (fun r384 mem384 =>
    (if r384 = 0 then
    some ((-2 : Int32), mem384)
    else
    zb (f_X4_isWithin N mem384 a2 (0 : Int32) (99 : Int32)) (fun r386 mem386 =>
    (if r386 = 0 then
    some ((-3 : Int32), mem386)
    else
    zb (f_X4_isWithin N mem386 a3 (0 : Int32) (1 : Int32)) (fun r388 mem388 =>
    (if r388 = 0 then
    some ((-3 : Int32), mem388)
    else
    (if a3 = (1 : Int32) then
    f_X4_heard_49 N mem388 a1 a2 (1 : Int32)
    else
    f_X4_heard_49 N mem388 a1 a2 (0 : Int32))))))))
def f_X4_forget (N : Nat) (mem : zMem) : Option (Int32 × zMem) :=
    zb (f_X0_clear N mem) (fun _ mem391 =>
    some (((mem 36 7) + (mem 36 8)), mem391))
def f_X4_fitsAllSeen_2 (N : Nat) : Nat → zMem → Int32 → Int32 → Int32 → Option (Int32 × zMem)
  | 0, _, _, _, _ => none
  | n + 1, mem, x1, x2, x3 =>
    (if (mem 36 7) ≤ x3 then
    some ((1 : Int32), mem)
    else
    zgd (zin x3 6) (zgd (zin x3 6) (zb (f_X1_ouncesOfSet N mem ((mem 37 x3.toNatClampNeg) &&& (((1 : Int32) <<< (x1 &&& 31)) ^^^ (-1 : Int32))) (mem 38 x3.toNatClampNeg)) (fun r395 mem395 =>
    zb (f_X4_isIn N mem395 x1 (mem 37 x3.toNatClampNeg)) (fun r396 mem396 =>
    (if r396 = 0 then
    zgd (zin x3 6) ((if r395 = (mem396 39 x3.toNatClampNeg) then
    f_X4_fitsAllSeen_2 N n mem396 x1 x2 (x3 + 1)
    else
    some ((0 : Int32), mem396)))
    else
    zgd (zin x1 8) (zb (f_X4_ouncesOf N mem396 (mem396 7 x1.toNatClampNeg) x2 (mem 38 x3.toNatClampNeg)) (fun r401 mem401 =>
    zgd (zin x3 6) ((if (r395 + r401) = (mem401 39 x3.toNatClampNeg) then
    f_X4_fitsAllSeen_2 N n mem401 x1 x2 (x3 + 1)
    else
    some ((0 : Int32), mem401)))))))))))
def f_X4_fitsAllSeen (N : Nat) (mem : zMem) (a1 : Int32) (a2 : Int32) : Option (Int32 × zMem) :=
    f_X4_fitsAllSeen_2 N N mem a1 a2 (0 : Int32)
def f_X4_weights_15 (N : Nat) : Nat → zMem → Int32 → Int32 → Int32 → Option (Int32 × zMem)
  | 0, _, _, _, _ => none
  | n + 1, mem, x1, x2, x3 =>
    (if (20 : Int32) < x3 then
    some (x2, mem)
    else
    zb (f_X4_fitsAllSeen N mem x1 x3) (fun r405 mem405 =>
    (if r405 = 0 then
    f_X4_weights_15 N n mem405 x1 x2 (x3 + 1)
    else
    f_X4_weights_15 N n mem405 x1 (x2 ||| ((1 : Int32) <<< (x3 &&& 31))) (x3 + 1))))
def f_X4_weights (N : Nat) (mem : zMem) (a1 : Int32) : Option (Int32 × zMem) :=
    zb (f_X4_isPart N mem a1) (fun r407 mem407 =>
    (if r407 = 0 then
    some ((-2 : Int32), mem407)
    else
    f_X4_weights_15 N N mem407 a1 (0 : Int32) (0 : Int32)))
def f_X4_fitsAllHeard_2 (N : Nat) : Nat → zMem → Int32 → Int32 → Option (Int32 × zMem)
  | 0, _, _, _ => none
  | n + 1, mem, x1, x2 =>
    (if (mem 36 8) ≤ x2 then
    some ((1 : Int32), mem)
    else
    zgd (zin x2 6) (zgd (zin x2 6) (zb (f_X1_ouncesOfSet N mem (mem 40 x2.toNatClampNeg) (mem 42 x2.toNatClampNeg)) (fun r412 mem412 =>
    zgd (zin x2 6) (zb (f_X4_hangsLevel N mem412 (r412 + x1) (mem412 41 x2.toNatClampNeg)) (fun r414 mem414 =>
    zgd (zin x2 6) ((if r414 = (mem414 43 x2.toNatClampNeg) then
    f_X4_fitsAllHeard_2 N n mem414 x1 (x2 + 1)
    else
    some ((0 : Int32), mem414)))))))))
def f_X4_fitsAllHeard (N : Nat) (mem : zMem) (a1 : Int32) : Option (Int32 × zMem) :=
    f_X4_fitsAllHeard_2 N N mem a1 (0 : Int32)
def f_X4_thumbs_4 (N : Nat) : Nat → zMem → Int32 → Int32 → Option (Int32 × zMem)
  | 0, _, _, _ => none
  | n + 1, mem, x1, x2 =>
    (if (9 : Int32) < x2 then
    some (x1, mem)
    else
    zb (f_X4_fitsAllHeard N mem x2) (fun r418 mem418 =>
    (if r418 = 0 then
    f_X4_thumbs_4 N n mem418 x1 (x2 + 1)
    else
    f_X4_thumbs_4 N n mem418 (x1 ||| ((1 : Int32) <<< (x2 &&& 31))) (x2 + 1))))
def f_X4_thumbs (N : Nat) (mem : zMem) : Option (Int32 × zMem) :=
    f_X4_thumbs_4 N N mem (0 : Int32) (0 : Int32)
def f_X4_waysOfConfessing_5 (N : Nat) : Nat → zMem → Int32 → Int32 → Int32 → Int32 → Option (Int32 × zMem)
  | 0, _, _, _, _, _ => none
  | n + 1, mem, x1, x2, x3, x4 =>
    (if (mem 6 5) ≤ x4 then
    some (x3, mem)
    else
    zb (f_X4_isIn N mem x4 x1) (fun r421 mem421 =>
    (if r421 = 0 then
    f_X4_waysOfConfessing_5 N n mem421 x1 x2 (x3 * ((10 : Int32) - x2)) (x4 + 1)
    else
    f_X4_waysOfConfessing_5 N n mem421 x1 x2 (x3 * x2) (x4 + 1))))
def f_X4_waysOfConfessing (N : Nat) (mem : zMem) (a1 : Int32) (a2 : Int32) : Option (Int32 × zMem) :=
    f_X4_waysOfConfessing_5 N N mem a1 a2 (1 : Int32) (0 : Int32)
def f_X4_greatestDivisor_7 (N : Nat) : Nat → zMem → Int32 → Int32 → Int32 → Option (Int32 × zMem)
  | 0, _, _, _, _ => none
  | n + 1, mem, x2, x3, x4 =>
    (if (64 : Int32) ≤ x4 then
    some (x2, mem)
    else
    (if x3 = 0 then
    some (x2, mem)
    else
    zgd (znz x3) (f_X4_greatestDivisor_7 N n mem x3 (x2 - x2 / x3 * x3) (x4 + 1))))
def f_X4_greatestDivisor (N : Nat) (mem : zMem) (a1 : Int32) (a2 : Int32) : Option (Int32 × zMem) :=
    f_X4_greatestDivisor_7 N N mem a1 a2 (0 : Int32)
def f_X4_confessed_43 (N : Nat) : Nat → zMem → Int32 → Int32 → Int32 → Int32 → Int32 → Int32 → Option (Int32 × zMem)
  | 0, _, _, _, _, _, _, _ => none
  | n + 1, mem, x1, x2, x3, x4, x5, x6 =>
    (if ((1 : Int32) <<< ((mem 6 5) &&& 31)) ≤ x6 then
    zb (f_X4_greatestDivisor N mem x4 x5) (fun r427 mem427 =>
    zb (f_J9_max_7cf53 N mem427 r427 (1 : Int32)) (fun r428 mem428 =>
    (if x2 = 0 then
    zgd (znz r428) (some ((x4 / r428), mem428))
    else
    zgd (znz r428) (some ((x5 / r428), mem428)))))
    else
    zb (f_X4_waysOfConfessing N mem x6 x1) (fun r432 mem432 =>
    zb (f_X4_leadWithout N mem432 x6) (fun r433 mem433 =>
    zb (f_X4_hangsLevel N mem433 x3 r433) (fun r434 mem434 =>
    (if r434 = 0 then
    f_X4_confessed_43 N n mem434 x1 x2 x3 x4 (x5 + r432) (x6 + 1)
    else
    f_X4_confessed_43 N n mem434 x1 x2 x3 (x4 + r432) (x5 + r432) (x6 + 1))))))
def f_X4_confessed (N : Nat) (mem : zMem) (a1 : Int32) (a2 : Int32) : Option (Int32 × zMem) :=
    zb (f_X4_isWithin N mem a1 (0 : Int32) (10 : Int32)) (fun r436 mem436 =>
    (if r436 = 0 then
    some ((-3 : Int32), mem436)
    else
    zb (f_X4_isWithin N mem436 a2 (0 : Int32) (1 : Int32)) (fun r438 mem438 =>
    (if r438 = 0 then
    some ((-3 : Int32), mem438)
    else
    zb (f_X4_sermonOf N mem438 (mem438 11 1)) (fun r440 mem440 =>
    f_X4_confessed_43 N N mem440 a1 a2 r440 (0 : Int32) (0 : Int32) (0 : Int32))))))
def f_X4_count (N : Nat) (mem : zMem) (a1 : Int32) : Option (Int32 × zMem) :=
    (if a1 = 0 then
    some ((mem 6 4), mem)
    else
(if a1 = 1 then
    some ((mem 6 5), mem)
    else
(if a1 = 2 then
    some ((mem 11 4), mem)
    else
(if a1 = 3 then
    zb (f_X4_sermonOf N mem (mem 11 1)) (fun r445 mem445 =>
    some (r445, mem445))
    else
(if a1 = 4 then
    zb (f_X4_leadNow N mem) (fun r447 mem447 =>
    some (r447, mem447))
    else
(if a1 = 5 then
    zb (f_X4_hangsLevelNow N mem) (fun r449 mem449 =>
    (if r449 = 0 then
    some ((0 : Int32), mem449)
    else
    some ((1 : Int32), mem449)))
    else
(if a1 = 6 then
    some ((mem 11 1), mem)
    else
(if a1 = 7 then
    some ((mem 11 5), mem)
    else
(if a1 = 8 then
    some ((mem 11 6), mem)
    else
(if a1 = 9 then
    some ((mem 11 2), mem)
    else
(if a1 = 10 then
    some ((mem 11 3), mem)
    else
(if a1 = 11 then
    some ((mem 36 7), mem)
    else
(if a1 = 12 then
    some ((mem 36 8), mem)
    else
(if a1 = 13 then
    some ((mem 0 7), mem)
    else
(if a1 = 14 then
    some ((mem 1 4), mem)
    else
    some ((-3 : Int32), mem))))))))))))))))
def f_X5_in (N : Nat) (mem : zMem) (a1 : Int32) (a2 : Int32) (a3 : Int32) : Option (Int32 × zMem) :=
    (if a1 < a2 then
    some ((0 : Int32), mem)
    else
    (if a3 < a1 then
    some ((0 : Int32), mem)
    else
    some ((1 : Int32), mem)))
def f_X5_isPart (N : Nat) (mem : zMem) (a1 : Int32) : Option (Int32 × zMem) :=
    zb (f_X5_in N mem a1 (0 : Int32) ((mem 46 (0 : Int32).toNatClampNeg) - (1 : Int32))) (fun r462 mem462 =>
    zgd (zbo r462) (some (r462, mem462)))
def f_X5_isSet (N : Nat) (mem : zMem) (a1 : Int32) : Option (Int32 × zMem) :=
    zb (f_X5_in N mem a1 (0 : Int32) (((1 : Int32) <<< ((mem 46 (0 : Int32).toNatClampNeg) &&& 31)) - (1 : Int32))) (fun r464 mem464 =>
    zgd (zbo r464) (some (r464, mem464)))
def f_X5_write (N : Nat) (mem : zMem) (a1 : Int32) : Option (Int32 × zMem) :=
    zb (f_X5_in N mem a1 (0 : Int32) (255 : Int32)) (fun r466 mem466 =>
    (if r466 = 0 then
    some ((-3 : Int32), mem466)
    else
    (if (mem466 44 1) = (160 : Int32) then
    some ((-5 : Int32), mem466)
    else
    zgd (zin (mem466 44 1) 160) (zlet (wr mem466 45 (mem466 44 1).toNatClampNeg a1) (fun mem470 =>
    zlet (wr mem470 44 1 ((mem470 44 1) + (1 : Int32))) (fun mem471 =>
    some ((mem471 44 1), mem471)))))))
def f_X5_erase (N : Nat) (mem : zMem) : Option (Int32 × zMem) :=
    zlet (wr mem 44 1 (0 : Int32)) (fun mem472 =>
    some ((mem 44 1), mem472))
def f_X5_letterAt (N : Nat) (mem : zMem) (a1 : Int32) : Option (Int32 × zMem) :=
    (if (mem 44 1) ≤ a1 then
    some ((-1 : Int32), mem)
    else
    zgd (zin a1 160) (some ((mem 45 a1.toNatClampNeg), mem)))
def f_X5_isLetter (N : Nat) (mem : zMem) (a1 : Int32) : Option (Int32 × zMem) :=
    zb (f_X5_in N mem a1 (97 : Int32) (122 : Int32)) (fun r475 mem475 =>
    zgd (zbo r475) (some (r475, mem475)))
def f_X5_isDigit (N : Nat) (mem : zMem) (a1 : Int32) : Option (Int32 × zMem) :=
    zb (f_X5_in N mem a1 (48 : Int32) (57 : Int32)) (fun r477 mem477 =>
    zgd (zbo r477) (some (r477, mem477)))
def f_X5_token_195 (N : Nat) (mem : zMem) : Option (Unit × zMem) :=
    (if (mem 44 14) = (3 : Int32) then
    zlet (wr mem 44 13 ((mem 44 13) + (1 : Int32))) (fun mem481 =>
    some ((), mem481))
    else
    zlet (wr mem 44 13 ((mem 44 13) + (0 : Int32))) (fun mem480 =>
    some ((), mem480)))
def f_X5_token_118 (N : Nat) : Nat → zMem → Option (Unit × zMem)
  | 0, _ => none
  | n + 1, mem =>
    (if (mem 44 14) = (2 : Int32) then
    zb (f_X5_letterAt N mem (mem 44 13)) (fun r483 mem483 =>
    zb (f_X5_isDigit N mem483 r483) (fun r484 mem484 =>
    (if r484 = 0 then
    f_X5_token_195 N mem484
    else
    (if (2 : Int32) ≤ ((mem484 44 13) - (mem484 44 15)) then
    zlet (wr mem484 44 16 (100 : Int32)) (fun mem487 =>
    zlet (wr mem487 44 13 ((mem487 44 13) + (1 : Int32))) (fun mem488 =>
    f_X5_token_118 N n mem488))
    else
    zgd (zin (mem484 44 13) 160) (zlet (wr mem484 44 16 ((((10 : Int32) * (mem484 44 16)) + (mem484 45 (mem484 44 13).toNatClampNeg)) - (48 : Int32))) (fun mem490 =>
    zlet (wr mem490 44 13 ((mem490 44 13) + (1 : Int32))) (fun mem491 =>
    f_X5_token_118 N n mem491)))))))
    else
    f_X5_token_195 N mem)
def f_X5_token_83 (N : Nat) : Nat → zMem → Option (Unit × zMem)
  | 0, _ => none
  | n + 1, mem =>
    (if (mem 44 14) = (1 : Int32) then
    zb (f_X5_letterAt N mem (mem 44 13)) (fun r493 mem493 =>
    zb (f_X5_isLetter N mem493 r493) (fun r494 mem494 =>
    (if r494 = 0 then
    f_X5_token_118 N N mem494
    else
    zlet (wr mem494 44 13 ((mem494 44 13) + (1 : Int32))) (fun mem496 =>
    f_X5_token_83 N n mem496))))
    else
    f_X5_token_118 N N mem)
def f_X5_token_75 (N : Nat) (mem : zMem) (s1 : Int32) : Option (Unit × zMem) :=
    zlet (wr mem 44 14 s1) (fun mem497 =>
    zlet (wr mem497 44 16 (0 : Int32)) (fun mem498 =>
    f_X5_token_83 N N mem498))
def f_X5_token_0 (N : Nat) : Nat → zMem → Option (Unit × zMem)
  | 0, _ => none
  | n + 1, mem =>
    zb (f_X5_letterAt N mem (mem 44 13)) (fun r499 mem499 =>
    (if r499 = (32 : Int32) then
    zlet (wr mem499 44 13 ((mem499 44 13) + (1 : Int32))) (fun mem508 =>
    f_X5_token_0 N n mem508)
    else
    zlet (wr mem499 44 15 (mem499 44 13)) (fun mem501 =>
    zb (f_X5_letterAt N mem501 (mem501 44 13)) (fun r502 mem502 =>
    (if 0 ≤ r502 then
    zb (f_X5_isLetter N mem502 r502) (fun r504 mem504 =>
    (if r504 = 0 then
    zb (f_X5_isDigit N mem504 r502) (fun r506 mem506 =>
    (if r506 = 0 then
    f_X5_token_75 N mem506 (3 : Int32)
    else
    f_X5_token_75 N mem506 (2 : Int32)))
    else
    f_X5_token_75 N mem504 (1 : Int32)))
    else
    f_X5_token_75 N mem502 (0 : Int32))))))
def f_X5_token (N : Nat) (mem : zMem) : Option (Unit × zMem) :=
    f_X5_token_0 N N mem
def f_X5_isWord_32 (N : Nat) : Nat → zMem → Int32 → Int32 → Int32 → Int32 → Int32 → Int32 → Int32 → Option (Int32 × zMem)
  | 0, _, _, _, _, _, _, _, _ => none
  | n + 1, mem, x1, x2, x3, x4, x5, x6, x7 =>
    (if (5 : Int32) ≤ x7 then
    zgd (zbo x6) (some (x6, mem))
    else
    (if x6 = 0 then
    zgd (zbo x6) (some (x6, mem))
    else
    (if x7 = 0 then
    (if (mem 44 13) ≤ ((mem 44 15) + x7) then
    (if x1 = 0 then
    f_X5_isWord_32 N n mem x1 x2 x3 x4 x5 (1 : Int32) (x7 + 1)
    else
    f_X5_isWord_32 N n mem x1 x2 x3 x4 x5 (0 : Int32) (x7 + 1))
    else
    zgd (zin ((mem 44 15) + x7) 160) ((if (mem 45 ((mem 44 15) + x7).toNatClampNeg) = x1 then
    f_X5_isWord_32 N n mem x1 x2 x3 x4 x5 (1 : Int32) (x7 + 1)
    else
    f_X5_isWord_32 N n mem x1 x2 x3 x4 x5 (0 : Int32) (x7 + 1))))
    else
    (if x7 = (1 : Int32) then
    (if (mem 44 13) ≤ ((mem 44 15) + x7) then
    (if x2 = 0 then
    f_X5_isWord_32 N n mem x1 x2 x3 x4 x5 (1 : Int32) (x7 + 1)
    else
    f_X5_isWord_32 N n mem x1 x2 x3 x4 x5 (0 : Int32) (x7 + 1))
    else
    zgd (zin ((mem 44 15) + x7) 160) ((if (mem 45 ((mem 44 15) + x7).toNatClampNeg) = x2 then
    f_X5_isWord_32 N n mem x1 x2 x3 x4 x5 (1 : Int32) (x7 + 1)
    else
    f_X5_isWord_32 N n mem x1 x2 x3 x4 x5 (0 : Int32) (x7 + 1))))
    else
    (if x7 = (2 : Int32) then
    (if (mem 44 13) ≤ ((mem 44 15) + x7) then
    (if x3 = 0 then
    f_X5_isWord_32 N n mem x1 x2 x3 x4 x5 (1 : Int32) (x7 + 1)
    else
    f_X5_isWord_32 N n mem x1 x2 x3 x4 x5 (0 : Int32) (x7 + 1))
    else
    zgd (zin ((mem 44 15) + x7) 160) ((if (mem 45 ((mem 44 15) + x7).toNatClampNeg) = x3 then
    f_X5_isWord_32 N n mem x1 x2 x3 x4 x5 (1 : Int32) (x7 + 1)
    else
    f_X5_isWord_32 N n mem x1 x2 x3 x4 x5 (0 : Int32) (x7 + 1))))
    else
    (if x7 = (3 : Int32) then
    (if (mem 44 13) ≤ ((mem 44 15) + x7) then
    (if x4 = 0 then
    f_X5_isWord_32 N n mem x1 x2 x3 x4 x5 (1 : Int32) (x7 + 1)
    else
    f_X5_isWord_32 N n mem x1 x2 x3 x4 x5 (0 : Int32) (x7 + 1))
    else
    zgd (zin ((mem 44 15) + x7) 160) ((if (mem 45 ((mem 44 15) + x7).toNatClampNeg) = x4 then
    f_X5_isWord_32 N n mem x1 x2 x3 x4 x5 (1 : Int32) (x7 + 1)
    else
    f_X5_isWord_32 N n mem x1 x2 x3 x4 x5 (0 : Int32) (x7 + 1))))
    else
    (if (mem 44 13) ≤ ((mem 44 15) + x7) then
    (if x5 = 0 then
    f_X5_isWord_32 N n mem x1 x2 x3 x4 x5 (1 : Int32) (x7 + 1)
    else
    f_X5_isWord_32 N n mem x1 x2 x3 x4 x5 (0 : Int32) (x7 + 1))
    else
    zgd (zin ((mem 44 15) + x7) 160) ((if (mem 45 ((mem 44 15) + x7).toNatClampNeg) = x5 then
    f_X5_isWord_32 N n mem x1 x2 x3 x4 x5 (1 : Int32) (x7 + 1)
    else
    f_X5_isWord_32 N n mem x1 x2 x3 x4 x5 (0 : Int32) (x7 + 1))))))))))
def f_X5_isWord_27 (N : Nat) (mem : zMem) (x1 : Int32) (x2 : Int32) (x3 : Int32) (x4 : Int32) (x5 : Int32) (s0 : Int32) : Option (Int32 × zMem) :=
    f_X5_isWord_32 N N mem x1 x2 x3 x4 x5 s0 (0 : Int32)
def f_X5_isWord_26 (N : Nat) (mem : zMem) (x1 : Int32) (x2 : Int32) (x3 : Int32) (x4 : Int32) (x5 : Int32) : Option (Int32 × zMem) :=
    f_X5_isWord_27 N mem x1 x2 x3 x4 x5 (0 : Int32)
def f_X5_isWord (N : Nat) (mem : zMem) (a1 : Int32) (a2 : Int32) (a3 : Int32) (a4 : Int32) (a5 : Int32) : Option (Int32 × zMem) :=
    (if (mem 44 14) = (1 : Int32) then
    (if (6 : Int32) ≤ ((mem 44 13) - (mem 44 15)) then
    f_X5_isWord_26 N mem a1 a2 a3 a4 a5
    else
    f_X5_isWord_27 N mem a1 a2 a3 a4 a5 (1 : Int32))
    else
    f_X5_isWord_26 N mem a1 a2 a3 a4 a5)
def f_X5_number (N : Nat) (mem : zMem) (a1 : Int32) (a2 : Int32) (a3 : Int32) : Option (Int32 × zMem) :=
    zb (f_X5_token N mem) (fun _ mem539 =>
    zgd (zin a1 35) (zlet (wr mem539 47 a1.toNatClampNeg (mem539 44 16)) (fun mem541 =>
    (if (mem541 44 14) = (2 : Int32) then
    zb (f_X5_in N mem541 (mem541 44 16) a2 a3) (fun r543 mem543 =>
    (if r543 = 0 then
    some ((0 : Int32), mem543)
    else
    some ((1 : Int32), mem543)))
    else
    some ((0 : Int32), mem541)))))
def f_X5_forgets_2 (N : Nat) : Nat → zMem → Int32 → Option (Unit × zMem)
  | 0, _, _ => none
  | n + 1, mem, x1 =>
    (if (35 : Int32) ≤ x1 then
    zlet (wr mem 47 (3 : Int32).toNatClampNeg (1 : Int32)) (fun mem546 =>
    some ((), mem546))
    else
    zgd (zin x1 35) (zlet (wr mem 47 x1.toNatClampNeg (0 : Int32)) (fun mem548 =>
    f_X5_forgets_2 N n mem548 (x1 + 1))))
def f_X5_forgets (N : Nat) (mem : zMem) : Option (Unit × zMem) :=
    f_X5_forgets_2 N N mem (0 : Int32)
def f_X5_readsPart (N : Nat) (mem : zMem) (a1 : Int32) : Option (Int32 × zMem) :=
    (if (mem 47 (0 : Int32).toNatClampNeg) = (8 : Int32) then
    some ((0 : Int32), mem)
    else
    zb (f_X5_number N mem ((13 : Int32) + (mem 47 (0 : Int32).toNatClampNeg)) (0 : Int32) (20 : Int32)) (fun r550 mem550 =>
    (if r550 = 0 then
    some ((0 : Int32), mem550)
    else
    zb (f_X5_number N mem550 ((21 : Int32) + (mem 47 (0 : Int32).toNatClampNeg)) (1 : Int32) (30 : Int32)) (fun r552 mem552 =>
    (if r552 = 0 then
    some ((0 : Int32), mem552)
    else
    zgd (zin ((5 : Int32) + (mem 47 (0 : Int32).toNatClampNeg)) 35) (zlet (wr mem552 47 ((5 : Int32) + (mem 47 (0 : Int32).toNatClampNeg)).toNatClampNeg a1) (fun mem555 =>
    zlet (wr mem555 47 (0 : Int32).toNatClampNeg ((mem555 47 (0 : Int32).toNatClampNeg) + (1 : Int32))) (fun mem556 =>
    some ((1 : Int32), mem556)))))))))
def f_X5_readsSoul (N : Nat) (mem : zMem) : Option (Int32 × zMem) :=
    (if (mem 47 (1 : Int32).toNatClampNeg) = (6 : Int32) then
    some ((0 : Int32), mem)
    else
    zb (f_X5_number N mem ((29 : Int32) + (mem 47 (1 : Int32).toNatClampNeg)) (0 : Int32) (40 : Int32)) (fun r558 mem558 =>
    (if r558 = 0 then
    some ((0 : Int32), mem558)
    else
    zlet (wr mem558 47 (1 : Int32).toNatClampNeg ((mem558 47 (1 : Int32).toNatClampNeg) + (1 : Int32))) (fun mem560 =>
    some ((1 : Int32), mem560)))))
def f_X5_readsClause (N : Nat) (mem : zMem) : Option (Int32 × zMem) :=
    zb (f_X5_isWord N mem (107 : Int32) (105 : Int32) (114 : Int32) (107 : Int32) (0 : Int32)) (fun r561 mem561 =>
    (if r561 = 0 then
    zb (f_X5_isWord N mem561 (119 : Int32) (111 : Int32) (114 : Int32) (100 : Int32) (0 : Int32)) (fun r563 mem563 =>
    (if r563 = 0 then
    zb (f_X5_isWord N mem563 (103 : Int32) (114 : Int32) (101 : Int32) (101 : Int32) (107 : Int32)) (fun r565 mem565 =>
    (if r565 = 0 then
    zb (f_X5_isWord N mem565 (113 : Int32) (117 : Int32) (111 : Int32) (116 : Int32) (101 : Int32)) (fun r567 mem567 =>
    (if r567 = 0 then
    zb (f_X5_isWord N mem567 (112 : Int32) (115 : Int32) (97 : Int32) (108 : Int32) (109 : Int32)) (fun r569 mem569 =>
    (if r569 = 0 then
    zb (f_X5_isWord N mem569 (115 : Int32) (111 : Int32) (117 : Int32) (108 : Int32) (0 : Int32)) (fun r571 mem571 =>
    (if r571 = 0 then
    zb (f_X5_isWord N mem571 (116 : Int32) (104 : Int32) (117 : Int32) (109 : Int32) (98 : Int32)) (fun r573 mem573 =>
    (if r573 = 0 then
    zb (f_X5_isWord N mem573 (98 : Int32) (101 : Int32) (97 : Int32) (109 : Int32) (0 : Int32)) (fun r575 mem575 =>
    (if r575 = 0 then
    zb (f_X5_isWord N mem575 (119 : Int32) (101 : Int32) (116 : Int32) (0 : Int32) (0 : Int32)) (fun r577 mem577 =>
    (if r577 = 0 then
    some ((0 : Int32), mem577)
    else
    zb (f_X5_number N mem577 (4 : Int32) (0 : Int32) (9 : Int32)) (fun r579 mem579 =>
    (if r579 = 0 then
    some ((0 : Int32), mem579)
    else
    some ((1 : Int32), mem579)))))
    else
    zb (f_X5_number N mem575 (3 : Int32) (0 : Int32) (5 : Int32)) (fun r581 mem581 =>
    zgd (zbo r581) (some (r581, mem581)))))
    else
    zb (f_X5_number N mem573 (2 : Int32) (0 : Int32) (9 : Int32)) (fun r583 mem583 =>
    zgd (zbo r583) (some (r583, mem583)))))
    else
    zb (f_X5_readsSoul N mem571) (fun r585 mem585 =>
    zgd (zbo r585) (some (r585, mem585)))))
    else
    zb (f_X5_readsPart N mem569 (3 : Int32)) (fun r587 mem587 =>
    zgd (zbo r587) (some (r587, mem587)))))
    else
    zb (f_X5_readsPart N mem567 (2 : Int32)) (fun r589 mem589 =>
    zgd (zbo r589) (some (r589, mem589)))))
    else
    zb (f_X5_readsPart N mem565 (1 : Int32)) (fun r591 mem591 =>
    zgd (zbo r591) (some (r591, mem591)))))
    else
    zb (f_X5_readsPart N mem563 (0 : Int32)) (fun r593 mem593 =>
    zgd (zbo r593) (some (r593, mem593)))))
    else
    zb (f_X5_forgets N mem561) (fun _ mem595 =>
    some ((1 : Int32), mem595))))
def f_X5_reads_35 (N : Nat) : Nat → zMem → Int32 → Int32 → Option (Int32 × zMem)
  | 0, _, _, _ => none
  | n + 1, mem, x1, x2 =>
    (if x2 = 0 then
    some (x1, mem)
    else
    zb (f_X5_token N mem) (fun _ mem597 =>
    zb (f_X5_readsClause N mem597) (fun r598 mem598 =>
    (if r598 = 0 then
    some ((-1 : Int32), mem598)
    else
    zb (f_X5_token N mem598) (fun _ mem600 =>
    (if (mem600 44 14) = 0 then
    (if (0 : Int32) = 0 then
    f_X5_reads_35 N n mem600 (x1 + 1) (0 : Int32)
    else
    (if (mem600 44 14) = (3 : Int32) then
    zgd (zin (mem600 44 15) 160) ((if (mem600 45 (mem600 44 15).toNatClampNeg) = (59 : Int32) then
    (if (x1 + 1) = (14 : Int32) then
    some ((-1 : Int32), mem600)
    else
    f_X5_reads_35 N n mem600 (x1 + 1) (0 : Int32))
    else
    some ((-1 : Int32), mem600)))
    else
    some ((-1 : Int32), mem600)))
    else
    (if (1 : Int32) = 0 then
    f_X5_reads_35 N n mem600 (x1 + 1) (1 : Int32)
    else
    (if (mem600 44 14) = (3 : Int32) then
    zgd (zin (mem600 44 15) 160) ((if (mem600 45 (mem600 44 15).toNatClampNeg) = (59 : Int32) then
    (if (x1 + 1) = (14 : Int32) then
    some ((-1 : Int32), mem600)
    else
    f_X5_reads_35 N n mem600 (x1 + 1) (1 : Int32))
    else
    some ((-1 : Int32), mem600)))
    else
    some ((-1 : Int32), mem600)))))))))
def f_X5_reads_2 (N : Nat) : Nat → zMem → Int32 → Option (Int32 × zMem)
  | 0, _, _ => none
  | n + 1, mem, x1 =>
    (if (35 : Int32) ≤ x1 then
    zlet (wr mem 44 13 (0 : Int32)) (fun mem613 =>
    f_X5_reads_35 N N mem613 (0 : Int32) (1 : Int32))
    else
    zgd (zin x1 35) (zgd (zin x1 35) (zlet (wr mem 47 x1.toNatClampNeg (mem 46 x1.toNatClampNeg)) (fun mem616 =>
    f_X5_reads_2 N n mem616 (x1 + 1)))))
def f_X5_reads (N : Nat) (mem : zMem) : Option (Int32 × zMem) :=
    f_X5_reads_2 N N mem (0 : Int32)
def f_X5_lays_2 (N : Nat) : Nat → zMem → Int32 → Option (Unit × zMem)
  | 0, _, _ => none
  | n + 1, mem, x1 =>
    (if (12 : Int32) ≤ x1 then
    zlet (wr mem 48 (6 : Int32).toNatClampNeg (mem 46 (4 : Int32).toNatClampNeg)) (fun mem618 =>
    zlet (wr mem618 44 6 (0 : Int32)) (fun mem619 =>
    zlet (wr mem619 44 10 (0 : Int32)) (fun mem620 =>
    zlet (wr mem620 44 12 (0 : Int32)) (fun mem621 =>
    zlet (wr mem621 51 (0 : Int32).toNatClampNeg (vp_nar .boolean (0 : Int32))) (fun mem622 =>
    zlet (wr mem622 51 (1 : Int32).toNatClampNeg (vp_nar .boolean (0 : Int32))) (fun mem623 =>
    some ((), mem623)))))))
    else
    (if (6 : Int32) ≤ x1 then
    zgd (zin x1 12) (zlet (wr mem 48 x1.toNatClampNeg (0 : Int32)) (fun mem626 =>
    f_X5_lays_2 N n mem626 (x1 + 1)))
    else
    zgd (zin ((29 : Int32) + x1) 35) (zgd (zin x1 12) (zlet (wr mem 48 x1.toNatClampNeg (mem 46 ((29 : Int32) + x1).toNatClampNeg)) (fun mem629 =>
    f_X5_lays_2 N n mem629 (x1 + 1))))))
def f_X5_lays (N : Nat) (mem : zMem) : Option (Unit × zMem) :=
    f_X5_lays_2 N N mem (0 : Int32)
def f_X5_fault (N : Nat) (mem : zMem) : Option (Int32 × zMem) :=
    zb (f_X5_reads N mem) (fun r630 mem630 =>
    (if r630 = (-1 : Int32) then
    some ((mem630 44 15), mem630)
    else
    some ((-1 : Int32), mem630)))
def f_X5_kirk_15 (N : Nat) : Nat → zMem → Int32 → Int32 → Option (Int32 × zMem)
  | 0, _, _, _ => none
  | n + 1, mem, x1, x2 =>
    (if (35 : Int32) ≤ x2 then
    zb (f_X5_lays N mem) (fun _ mem633 =>
    zlet (wr mem633 44 1 (0 : Int32)) (fun mem634 =>
    some (x1, mem634)))
    else
    zgd (zin x2 35) (zgd (zin x2 35) (zlet (wr mem 46 x2.toNatClampNeg (mem 47 x2.toNatClampNeg)) (fun mem637 =>
    f_X5_kirk_15 N n mem637 x1 (x2 + 1)))))
def f_X5_kirk (N : Nat) (mem : zMem) : Option (Int32 × zMem) :=
    zb (f_X5_reads N mem) (fun r638 mem638 =>
    (if r638 = (-1 : Int32) then
    some ((-4 : Int32), mem638)
    else
    f_X5_kirk_15 N N mem638 r638 (0 : Int32)))
def f_X5_weighs (N : Nat) (mem : zMem) (a1 : Int32) (a2 : Int32) (a3 : Int32) : Option (Int32 × zMem) :=
    (if a1 = (3 : Int32) then
    some ((0 : Int32), mem)
    else
    (if a1 = (2 : Int32) then
    some ((a2 / (2 : Int32)), mem)
    else
    (if a1 = (1 : Int32) then
    some ((a2 + a3), mem)
    else
    some (a2, mem))))
def f_X5_ounces (N : Nat) (mem : zMem) (a1 : Int32) (a2 : Int32) : Option (Int32 × zMem) :=
    zgd (zin ((5 : Int32) + a1) 35) (zgd (zin ((13 : Int32) + a1) 35) (zb (f_X5_weighs N mem (mem 46 ((5 : Int32) + a1).toNatClampNeg) (mem 46 ((13 : Int32) + a1).toNatClampNeg) a2) (fun r645 mem645 =>
    some (r645, mem645))))
def f_X5_ouncesOf_5 (N : Nat) : Nat → zMem → Int32 → Int32 → Int32 → Int32 → Option (Int32 × zMem)
  | 0, _, _, _, _, _ => none
  | n + 1, mem, x1, x2, x3, x4 =>
    (if (mem 46 (0 : Int32).toNatClampNeg) ≤ x4 then
    some (x3, mem)
    else
    (if ((x1 >>> (x4 &&& 31)) &&& (1 : Int32)) = (1 : Int32) then
    zb (f_X5_ounces N mem x4 x2) (fun r648 mem648 =>
    f_X5_ouncesOf_5 N n mem648 x1 x2 (x3 + r648) (x4 + 1))
    else
    f_X5_ouncesOf_5 N n mem x1 x2 (x3 + (0 : Int32)) (x4 + 1)))
def f_X5_ouncesOf (N : Nat) (mem : zMem) (a1 : Int32) (a2 : Int32) : Option (Int32 × zMem) :=
    f_X5_ouncesOf_5 N N mem a1 a2 (0 : Int32) (0 : Int32)
def f_X5_sermon (N : Nat) (mem : zMem) : Option (Int32 × zMem) :=
    zb (f_X5_ouncesOf N mem (mem 48 (7 : Int32).toNatClampNeg) (mem 48 (6 : Int32).toNatClampNeg)) (fun r649 mem649 =>
    some (((mem 46 (2 : Int32).toNatClampNeg) + r649), mem649))
def f_X5_lead_4 (N : Nat) : Nat → zMem → Int32 → Int32 → Option (Int32 × zMem)
  | 0, _, _, _ => none
  | n + 1, mem, x1, x2 =>
    (if (mem 46 (1 : Int32).toNatClampNeg) ≤ x2 then
    (if x1 ≤ (mem 48 (8 : Int32).toNatClampNeg) then
    some ((0 : Int32), mem)
    else
    some ((x1 - (mem 48 (8 : Int32).toNatClampNeg)), mem))
    else
    zgd (zin x2 12) (f_X5_lead_4 N n mem (x1 + (mem 48 x2.toNatClampNeg)) (x2 + 1)))
def f_X5_lead (N : Nat) (mem : zMem) : Option (Int32 × zMem) :=
    f_X5_lead_4 N N mem (0 : Int32) (0 : Int32)
def f_X5_hangs (N : Nat) (mem : zMem) (a1 : Int32) (a2 : Int32) : Option (Int32 × zMem) :=
    zb (f_X5_in N mem (a1 - a2) (-(mem 46 (3 : Int32).toNatClampNeg)) (mem 46 (3 : Int32).toNatClampNeg)) (fun r653 mem653 =>
    zgd (zbo r653) (some (r653, mem653)))
def f_X5_isLevel (N : Nat) (mem : zMem) : Option (Int32 × zMem) :=
    zb (f_X5_sermon N mem) (fun r655 mem655 =>
    zb (f_X5_lead N mem655) (fun r656 mem656 =>
    zb (f_X5_hangs N mem656 r655 r656) (fun r657 mem657 =>
    zgd (zbo r657) (some (r657, mem657)))))
def f_X5_part (N : Nat) (mem : zMem) (a1 : Int32) (a2 : Int32) : Option (Int32 × zMem) :=
    zb (f_X5_isPart N mem a1) (fun r659 mem659 =>
    (if r659 = 0 then
    some ((-2 : Int32), mem659)
    else
    (if a2 = 0 then
    zgd (zin ((5 : Int32) + a1) 35) (some ((mem659 46 ((5 : Int32) + a1).toNatClampNeg), mem659))
    else
(if a2 = 1 then
    zgd (zin ((13 : Int32) + a1) 35) (some ((mem659 46 ((13 : Int32) + a1).toNatClampNeg), mem659))
    else
(if a2 = 2 then
    zgd (zin ((21 : Int32) + a1) 35) (some ((mem659 46 ((21 : Int32) + a1).toNatClampNeg), mem659))
    else
(if a2 = 3 then
    zb (f_X5_ounces N mem659 a1 (mem659 48 (6 : Int32).toNatClampNeg)) (fun r668 mem668 =>
    some (r668, mem668))
    else
(if a2 = 4 then
    some ((((mem659 48 (7 : Int32).toNatClampNeg) >>> (a1 &&& 31)) &&& (1 : Int32)), mem659)
    else
    some ((-3 : Int32), mem659))))))))
def f_X5_sins (N : Nat) (mem : zMem) (a1 : Int32) : Option (Int32 × zMem) :=
    zb (f_X5_in N mem a1 (0 : Int32) ((mem 46 (1 : Int32).toNatClampNeg) - (1 : Int32))) (fun r670 mem670 =>
    (if r670 = 0 then
    some ((-2 : Int32), mem670)
    else
    zgd (zin a1 12) (some ((mem670 48 a1.toNatClampNeg), mem670))))
def f_X5_as_58 (N : Nat) (mem : zMem) (x1 : Int32) (s0 : Int32) : Option (Int32 × zMem) :=
    (if s0 = 0 then
    some ((-4 : Int32), mem)
    else
    zb (f_X5_ounces N mem x1 (9 : Int32)) (fun r674 mem674 =>
    some (r674, mem674)))
def f_X5_as_57 (N : Nat) (mem : zMem) (x1 : Int32) : Option (Int32 × zMem) :=
    f_X5_as_58 N mem x1 (0 : Int32)
def f_X5_as_53 (N : Nat) (mem : zMem) (x1 : Int32) : Option (Int32 × zMem) :=
    f_X5_as_58 N mem x1 (1 : Int32)
def f_X5_as (N : Nat) (mem : zMem) (a1 : Int32) (a2 : Int32) : Option (Int32 × zMem) :=
    zb (f_X5_isPart N mem a1) (fun r675 mem675 =>
    (if r675 = 0 then
    some ((-2 : Int32), mem675)
    else
    zb (f_X5_in N mem675 a2 (0 : Int32) (4 : Int32)) (fun r677 mem677 =>
    (if r677 = 0 then
    some ((-3 : Int32), mem677)
    else
    zgd (zin ((5 : Int32) + a1) 35) ((if a2 = 0 then
    f_X5_as_53 N mem677 a1
    else
    (if a2 = ((mem677 46 ((5 : Int32) + a1).toNatClampNeg) + (1 : Int32)) then
    f_X5_as_53 N mem677 a1
    else
    (if a2 = (1 : Int32) then
    (if (3 : Int32) ≤ (mem677 46 ((5 : Int32) + a1).toNatClampNeg) then
    f_X5_as_57 N mem677 a1
    else
    f_X5_as_53 N mem677 a1)
    else
    f_X5_as_57 N mem677 a1))))))))
def f_X5_keeps_50 (N : Nat) : Nat → zMem → Int32 → Option (Unit × zMem)
  | 0, _, _ => none
  | n + 1, mem, x1 =>
    (if (12 : Int32) ≤ x1 then
    zlet (wr mem 44 6 ((mem 44 6) + (1 : Int32))) (fun mem685 =>
    some ((), mem685))
    else
    zgd (zin x1 12) (zgd (zin (((12 : Int32) * (mem 44 6)) + x1) 96) (zlet (wr mem 49 (((12 : Int32) * (mem 44 6)) + x1).toNatClampNeg (mem 48 x1.toNatClampNeg)) (fun mem688 =>
    f_X5_keeps_50 N n mem688 (x1 + 1)))))
def f_X5_keeps_48 (N : Nat) (mem : zMem) : Option (Unit × zMem) :=
    f_X5_keeps_50 N N mem (0 : Int32)
def f_X5_keeps_11 (N : Nat) : Nat → zMem → Int32 → Option (Unit × zMem)
  | 0, _, _ => none
  | n + 1, mem, x1 =>
    (if (84 : Int32) ≤ x1 then
    zlet (wr mem 44 6 ((mem 44 6) - (1 : Int32))) (fun mem690 =>
    f_X5_keeps_48 N mem690)
    else
    zgd (zin (x1 + (12 : Int32)) 96) (zgd (zin x1 96) (zlet (wr mem 49 x1.toNatClampNeg (mem 49 (x1 + (12 : Int32)).toNatClampNeg)) (fun mem693 =>
    f_X5_keeps_11 N n mem693 (x1 + 1)))))
def f_X5_keeps (N : Nat) (mem : zMem) : Option (Unit × zMem) :=
    (if (mem 44 6) = (8 : Int32) then
    f_X5_keeps_11 N N mem (0 : Int32)
    else
    f_X5_keeps_48 N mem)
def f_X5_preach (N : Nat) (mem : zMem) (a1 : Int32) : Option (Int32 × zMem) :=
    zb (f_X5_isPart N mem a1) (fun r695 mem695 =>
    (if r695 = 0 then
    some ((-2 : Int32), mem695)
    else
    (if (((mem695 48 (7 : Int32).toNatClampNeg) >>> (a1 &&& 31)) &&& (1 : Int32)) = (1 : Int32) then
    some ((-4 : Int32), mem695)
    else
    zb (f_X5_isLevel N mem695) (fun r698 mem698 =>
    (if r698 = 0 then
    zb (f_X5_keeps N mem698) (fun _ mem700 =>
    zlet (wr mem700 48 (7 : Int32).toNatClampNeg ((mem700 48 (7 : Int32).toNatClampNeg) ||| ((1 : Int32) <<< (a1 &&& 31)))) (fun mem701 =>
    zgd (zin ((21 : Int32) + a1) 35) (zlet (wr mem701 48 (10 : Int32).toNatClampNeg ((mem701 48 (10 : Int32).toNatClampNeg) + (mem701 46 ((21 : Int32) + a1).toNatClampNeg))) (fun mem703 =>
    zb (f_X5_sermon N mem703) (fun r704 mem704 =>
    zb (f_X5_lead N mem704) (fun r705 mem705 =>
    some ((((9999 : Int32) + r704) - r705), mem705)))))))
    else
    some ((-4 : Int32), mem698))))))
def f_X5_sin (N : Nat) (mem : zMem) (a1 : Int32) (a2 : Int32) : Option (Int32 × zMem) :=
    zb (f_X5_in N mem a1 (0 : Int32) ((mem 46 (1 : Int32).toNatClampNeg) - (1 : Int32))) (fun r706 mem706 =>
    (if r706 = 0 then
    some ((-2 : Int32), mem706)
    else
    zb (f_X5_in N mem706 a2 (1 : Int32) (20 : Int32)) (fun r708 mem708 =>
    (if r708 = 0 then
    some ((-3 : Int32), mem708)
    else
    zb (f_X5_keeps N mem708) (fun _ mem710 =>
    zgd (zin a1 12) ((if ((mem710 48 a1.toNatClampNeg) + a2) ≤ (99 : Int32) then
    zgd (zin a1 12) (zgd (zin a1 12) (zlet (wr mem710 48 a1.toNatClampNeg ((mem710 48 a1.toNatClampNeg) + a2)) (fun mem715 =>
    zgd (zin a1 12) (some ((mem715 48 a1.toNatClampNeg), mem715)))))
    else
    zgd (zin a1 12) (zlet (wr mem710 48 a1.toNatClampNeg (99 : Int32)) (fun mem718 =>
    zgd (zin a1 12) (some ((mem718 48 a1.toNatClampNeg), mem718)))))))))))
def f_X5_ballast (N : Nat) (mem : zMem) (a1 : Int32) : Option (Int32 × zMem) :=
    zb (f_X5_in N mem a1 (1 : Int32) (20 : Int32)) (fun r720 mem720 =>
    (if r720 = 0 then
    some ((-3 : Int32), mem720)
    else
    zb (f_X5_keeps N mem720) (fun _ mem722 =>
    (if ((mem722 48 (8 : Int32).toNatClampNeg) + a1) ≤ (99 : Int32) then
    zlet (wr mem722 48 (8 : Int32).toNatClampNeg ((mem722 48 (8 : Int32).toNatClampNeg) + a1)) (fun mem724 =>
    some ((mem724 48 (8 : Int32).toNatClampNeg), mem724))
    else
    zlet (wr mem722 48 (8 : Int32).toNatClampNeg (99 : Int32)) (fun mem725 =>
    some ((mem725 48 (8 : Int32).toNatClampNeg), mem725))))))
def f_X5_rain (N : Nat) (mem : zMem) (a1 : Int32) : Option (Int32 × zMem) :=
    zb (f_X5_in N mem a1 (0 : Int32) (9 : Int32)) (fun r726 mem726 =>
    (if r726 = 0 then
    some ((-3 : Int32), mem726)
    else
    zb (f_X5_keeps N mem726) (fun _ mem728 =>
    zlet (wr mem728 48 (6 : Int32).toNatClampNeg a1) (fun mem729 =>
    some ((mem728 48 (6 : Int32).toNatClampNeg), mem729)))))
def f_X5_sunday_105 (N : Nat) (mem : zMem) (x1 : Int32) (s1 : Int32) (s2 : Int32) (s3 : Int32) : Option (Int32 × zMem) :=
    zgd (zin s1 12) (zlet (wr mem 48 s1.toNatClampNeg (s2 + s3)) (fun mem731 =>
    (if x1 = 0 then
    some ((0 : Int32), mem731)
    else
    some ((1 : Int32), mem731))))
def f_X5_sunday_27 (N : Nat) : Nat → zMem → Int32 → Int32 → Option (Int32 × zMem)
  | 0, _, _, _ => none
  | n + 1, mem, x1, x2 =>
    (if (6 : Int32) ≤ x2 then
    zlet (wr mem 48 (8 : Int32).toNatClampNeg (0 : Int32)) (fun mem734 =>
    zlet (wr mem734 48 (7 : Int32).toNatClampNeg (0 : Int32)) (fun mem735 =>
    zlet (wr mem735 48 (9 : Int32).toNatClampNeg ((mem735 48 (9 : Int32).toNatClampNeg) + (1 : Int32))) (fun mem736 =>
    (if x1 = 0 then
    f_X5_sunday_105 N mem736 x1 (11 : Int32) (mem736 48 (11 : Int32).toNatClampNeg) (0 : Int32)
    else
    f_X5_sunday_105 N mem736 x1 (11 : Int32) (mem736 48 (11 : Int32).toNatClampNeg) (1 : Int32)))))
    else
    (if x1 = 0 then
    zgd (zin x2 12) (zgd (zin x2 12) (zlet (wr mem 48 x2.toNatClampNeg ((mem 48 x2.toNatClampNeg) / (2 : Int32))) (fun mem741 =>
    f_X5_sunday_27 N n mem741 x1 (x2 + 1))))
    else
    zgd (zin x2 12) (zlet (wr mem 48 x2.toNatClampNeg (0 : Int32)) (fun mem743 =>
    f_X5_sunday_27 N n mem743 x1 (x2 + 1)))))
def f_X5_sunday (N : Nat) (mem : zMem) : Option (Int32 × zMem) :=
    (if (mem 48 (9 : Int32).toNatClampNeg) = (999 : Int32) then
    some ((-5 : Int32), mem)
    else
    zb (f_X5_keeps N mem) (fun _ mem745 =>
    zb (f_X5_isLevel N mem745) (fun r746 mem746 =>
    f_X5_sunday_27 N N mem746 r746 (0 : Int32))))
def f_X5_undo_22 (N : Nat) : Nat → zMem → Int32 → Option (Int32 × zMem)
  | 0, _, _ => none
  | n + 1, mem, x1 =>
    (if (12 : Int32) ≤ x1 then
    some ((mem 44 6), mem)
    else
    zgd (zin (((12 : Int32) * (mem 44 6)) + x1) 96) (zgd (zin x1 12) (zlet (wr mem 48 x1.toNatClampNeg (mem 49 (((12 : Int32) * (mem 44 6)) + x1).toNatClampNeg)) (fun mem750 =>
    f_X5_undo_22 N n mem750 (x1 + 1)))))
def f_X5_undo (N : Nat) (mem : zMem) : Option (Int32 × zMem) :=
    (if (mem 44 6) = 0 then
    some ((-4 : Int32), mem)
    else
    zlet (wr mem 44 6 ((mem 44 6) - (1 : Int32))) (fun mem752 =>
    f_X5_undo_22 N N mem752 (0 : Int32)))
def f_X5_keep_14 (N : Nat) : Nat → zMem → Int32 → Int32 → Option (Int32 × zMem)
  | 0, _, _, _ => none
  | n + 1, mem, x1, x2 =>
    (if (12 : Int32) ≤ x2 then
    zgd (zin x1 2) (zlet (wr mem 51 x1.toNatClampNeg (vp_nar .boolean (1 : Int32))) (fun mem755 =>
    some ((mem755 48 (9 : Int32).toNatClampNeg), mem755)))
    else
    zgd (zin x2 12) (zgd (zin (((12 : Int32) * x1) + x2) 24) (zlet (wr mem 50 (((12 : Int32) * x1) + x2).toNatClampNeg (mem 48 x2.toNatClampNeg)) (fun mem758 =>
    f_X5_keep_14 N n mem758 x1 (x2 + 1)))))
def f_X5_keep (N : Nat) (mem : zMem) (a1 : Int32) : Option (Int32 × zMem) :=
    zb (f_X5_in N mem a1 (0 : Int32) (1 : Int32)) (fun r759 mem759 =>
    (if r759 = 0 then
    some ((-2 : Int32), mem759)
    else
    f_X5_keep_14 N N mem759 a1 (0 : Int32)))
def f_X5_back_26 (N : Nat) : Nat → zMem → Int32 → Int32 → Option (Int32 × zMem)
  | 0, _, _, _ => none
  | n + 1, mem, x1, x2 =>
    (if (12 : Int32) ≤ x2 then
    zlet (wr mem 44 6 (0 : Int32)) (fun mem762 =>
    some ((mem762 48 (9 : Int32).toNatClampNeg), mem762))
    else
    zgd (zin (((12 : Int32) * x1) + x2) 24) (zgd (zin x2 12) (zlet (wr mem 48 x2.toNatClampNeg (mem 50 (((12 : Int32) * x1) + x2).toNatClampNeg)) (fun mem765 =>
    f_X5_back_26 N n mem765 x1 (x2 + 1)))))
def f_X5_back (N : Nat) (mem : zMem) (a1 : Int32) : Option (Int32 × zMem) :=
    zb (f_X5_in N mem a1 (0 : Int32) (1 : Int32)) (fun r766 mem766 =>
    (if r766 = 0 then
    some ((-2 : Int32), mem766)
    else
    zgd (zin a1 2) ((if (mem766 51 a1.toNatClampNeg) = 0 then
    some ((-4 : Int32), mem766)
    else
    f_X5_back_26 N N mem766 a1 (0 : Int32)))))
def f_X5_stops_9 (N : Nat) : Nat → zMem → Int32 → Int32 → Int32 → Option (Int32 × zMem)
  | 0, _, _, _, _ => none
  | n + 1, mem, x1, x2, x3 =>
    (if (mem 46 (0 : Int32).toNatClampNeg) ≤ x3 then
    zb (f_X5_lead N mem) (fun r771 mem771 =>
    zb (f_X5_hangs N mem771 x1 r771) (fun r772 mem772 =>
    (if r772 = 0 then
    some ((-1 : Int32), mem772)
    else
    some (x2, mem772))))
    else
    zb (f_X5_lead N mem) (fun r774 mem774 =>
    zb (f_X5_hangs N mem774 x1 r774) (fun r775 mem775 =>
    (if r775 = 0 then
    (if (((mem775 48 (7 : Int32).toNatClampNeg) >>> (x3 &&& 31)) &&& (1 : Int32)) = 0 then
    zb (f_X5_ounces N mem775 x3 (mem775 48 (6 : Int32).toNatClampNeg)) (fun r778 mem778 =>
    f_X5_stops_9 N n mem778 (x1 + r778) (x2 + 1) (x3 + 1))
    else
    f_X5_stops_9 N n mem775 x1 x2 (x3 + 1))
    else
    some (x2, mem775)))))
def f_X5_stops (N : Nat) (mem : zMem) : Option (Int32 × zMem) :=
    zb (f_X5_sermon N mem) (fun r779 mem779 =>
    f_X5_stops_9 N N mem779 r779 (0 : Int32) (0 : Int32))
def f_X5_minutesOf_4 (N : Nat) : Nat → zMem → Int32 → Int32 → Int32 → Option (Int32 × zMem)
  | 0, _, _, _, _ => none
  | n + 1, mem, x1, x2, x3 =>
    (if (mem 46 (0 : Int32).toNatClampNeg) ≤ x3 then
    some (x2, mem)
    else
    (if ((x1 >>> (x3 &&& 31)) &&& (1 : Int32)) = (1 : Int32) then
    zgd (zin ((21 : Int32) + x3) 35) (f_X5_minutesOf_4 N n mem x1 (x2 + (mem 46 ((21 : Int32) + x3).toNatClampNeg)) (x3 + 1))
    else
    f_X5_minutesOf_4 N n mem x1 (x2 + (0 : Int32)) (x3 + 1)))
def f_X5_minutesOf (N : Nat) (mem : zMem) (a1 : Int32) : Option (Int32 × zMem) :=
    f_X5_minutesOf_4 N N mem a1 (0 : Int32) (0 : Int32)
def f_X5_ones_4 (N : Nat) : Nat → zMem → Int32 → Int32 → Int32 → Option (Int32 × zMem)
  | 0, _, _, _, _ => none
  | n + 1, mem, x0, x1, x2 =>
    (if (8 : Int32) ≤ x2 then
    some (x1, mem)
    else
    f_X5_ones_4 N n mem x0 (x1 + ((x0 >>> (x2 &&& 31)) &&& (1 : Int32))) (x2 + 1))
def f_X5_ones (N : Nat) (mem : zMem) (a1 : Int32) : Option (Int32 × zMem) :=
    f_X5_ones_4 N N mem a1 (0 : Int32) (0 : Int32)
def f_X5_would (N : Nat) (mem : zMem) (a1 : Int32) (a2 : Int32) : Option (Int32 × zMem) :=
    (if (a1 &&& (mem 48 (7 : Int32).toNatClampNeg)) = 0 then
    zb (f_X5_sermon N mem) (fun r785 mem785 =>
    zb (f_X5_ouncesOf N mem785 a1 (mem785 48 (6 : Int32).toNatClampNeg)) (fun r786 mem786 =>
    zb (f_X5_hangs N mem786 (r785 + r786) a2) (fun r787 mem787 =>
    (if r787 = 0 then
    some ((0 : Int32), mem787)
    else
    some ((1 : Int32), mem787)))))
    else
    some ((0 : Int32), mem))
def f_X5_soonest_22 (N : Nat) : Nat → zMem → Int32 → Int32 → Int32 → Int32 → Option (Int32 × zMem)
  | 0, _, _, _, _, _ => none
  | n + 1, mem, x1, x2, x3, x4 =>
    (if ((1 : Int32) <<< ((mem 46 (0 : Int32).toNatClampNeg) &&& 31)) ≤ x4 then
    (if x1 = 0 then
    some (x2, mem)
    else
    (if x2 = (-1 : Int32) then
    some (x2, mem)
    else
    zb (f_X5_minutesOf N mem x2) (fun r792 mem792 =>
    some (r792, mem792))))
    else
    zb (f_X5_would N mem x4 x3) (fun r793 mem793 =>
    (if r793 = 0 then
    f_X5_soonest_22 N n mem793 x1 x2 x3 (x4 + 1)
    else
    (if x2 = (-1 : Int32) then
    (if (-1 : Int32) < 0 then
    f_X5_soonest_22 N n mem793 x1 x4 x3 (x4 + 1)
    else
    (if (-1 : Int32) = 0 then
    zb (f_X5_ones N mem793 x4) (fun r805 mem805 =>
    zb (f_X5_ones N mem805 x2) (fun r806 mem806 =>
    (if r806 ≤ r805 then
    f_X5_soonest_22 N n mem806 x1 x2 x3 (x4 + 1)
    else
    f_X5_soonest_22 N n mem806 x1 x4 x3 (x4 + 1))))
    else
    f_X5_soonest_22 N n mem793 x1 x2 x3 (x4 + 1)))
    else
    zb (f_X5_minutesOf N mem793 x4) (fun r796 mem796 =>
    zb (f_X5_minutesOf N mem796 x2) (fun r797 mem797 =>
    (if (r796 - r797) < 0 then
    f_X5_soonest_22 N n mem797 x1 x4 x3 (x4 + 1)
    else
    (if (r796 - r797) = 0 then
    zb (f_X5_ones N mem797 x4) (fun r800 mem800 =>
    zb (f_X5_ones N mem800 x2) (fun r801 mem801 =>
    (if r801 ≤ r800 then
    f_X5_soonest_22 N n mem801 x1 x2 x3 (x4 + 1)
    else
    f_X5_soonest_22 N n mem801 x1 x4 x3 (x4 + 1))))
    else
    f_X5_soonest_22 N n mem797 x1 x2 x3 (x4 + 1)))))))))
def f_X5_soonest (N : Nat) (mem : zMem) (a1 : Int32) : Option (Int32 × zMem) :=
    zb (f_X5_in N mem a1 (0 : Int32) (1 : Int32)) (fun r808 mem808 =>
    (if r808 = 0 then
    some ((-3 : Int32), mem808)
    else
    zb (f_X5_lead N mem808) (fun r810 mem810 =>
    f_X5_soonest_22 N N mem810 a1 (-1 : Int32) r810 (0 : Int32))))
def f_X5_never_17 (N : Nat) : Nat → zMem → Int32 → Int32 → Int32 → Option (Int32 × zMem)
  | 0, _, _, _, _ => none
  | n + 1, mem, x1, x2, x3 =>
    (if ((1 : Int32) <<< ((mem 46 (0 : Int32).toNatClampNeg) &&& 31)) ≤ x3 then
    (if x2 = 0 then
    some ((1 : Int32), mem)
    else
    some ((0 : Int32), mem))
    else
    (if x2 = 0 then
    zb (f_X5_would N mem x3 x1) (fun r814 mem814 =>
    (if r814 = 0 then
    f_X5_never_17 N n mem814 x1 (0 : Int32) (x3 + 1)
    else
    f_X5_never_17 N n mem814 x1 (1 : Int32) (x3 + 1)))
    else
    f_X5_never_17 N n mem x1 (1 : Int32) (x3 + 1)))
def f_X5_never (N : Nat) (mem : zMem) (a1 : Int32) : Option (Int32 × zMem) :=
    zb (f_X5_in N mem a1 (0 : Int32) (99 : Int32)) (fun r816 mem816 =>
    (if r816 = 0 then
    some ((-3 : Int32), mem816)
    else
    f_X5_never_17 N N mem816 a1 (0 : Int32) (0 : Int32)))
def f_X5_seen (N : Nat) (mem : zMem) (a1 : Int32) (a2 : Int32) (a3 : Int32) : Option (Int32 × zMem) :=
    zb (f_X5_isSet N mem a1) (fun r818 mem818 =>
    (if r818 = 0 then
    some ((-2 : Int32), mem818)
    else
    zb (f_X5_in N mem818 a2 (0 : Int32) (9 : Int32)) (fun r820 mem820 =>
    (if r820 = 0 then
    some ((-3 : Int32), mem820)
    else
    zb (f_X5_in N mem820 a3 (0 : Int32) (255 : Int32)) (fun r822 mem822 =>
    (if r822 = 0 then
    some ((-3 : Int32), mem822)
    else
    (if (mem822 44 10) = (6 : Int32) then
    some ((-5 : Int32), mem822)
    else
    zgd (zin ((3 : Int32) * (mem822 44 10)) 18) (zlet (wr mem822 52 ((3 : Int32) * (mem822 44 10)).toNatClampNeg a1) (fun mem826 =>
    zgd (zin (((3 : Int32) * (mem826 44 10)) + (1 : Int32)) 18) (zlet (wr mem826 52 (((3 : Int32) * (mem826 44 10)) + (1 : Int32)).toNatClampNeg a2) (fun mem828 =>
    zgd (zin (((3 : Int32) * (mem828 44 10)) + (2 : Int32)) 18) (zlet (wr mem828 52 (((3 : Int32) * (mem828 44 10)) + (2 : Int32)).toNatClampNeg a3) (fun mem830 =>
    zlet (wr mem830 44 10 ((mem830 44 10) + (1 : Int32))) (fun mem831 =>
    some ((mem831 44 10), mem831)))))))))))))))
def f_X5_heard (N : Nat) (mem : zMem) (a1 : Int32) (a2 : Int32) (a3 : Int32) : Option (Int32 × zMem) :=
    zb (f_X5_isSet N mem a1) (fun r832 mem832 =>
    (if r832 = 0 then
    some ((-2 : Int32), mem832)
    else
    zb (f_X5_in N mem832 a2 (0 : Int32) (99 : Int32)) (fun r834 mem834 =>
    (if r834 = 0 then
    some ((-3 : Int32), mem834)
    else
    zb (f_X5_in N mem834 a3 (0 : Int32) (1 : Int32)) (fun r836 mem836 =>
    (if r836 = 0 then
    some ((-3 : Int32), mem836)
    else
    (if (mem836 44 12) = (6 : Int32) then
    some ((-5 : Int32), mem836)
    else
    zgd (zin ((3 : Int32) * (mem836 44 12)) 18) (zlet (wr mem836 53 ((3 : Int32) * (mem836 44 12)).toNatClampNeg a1) (fun mem840 =>
    zgd (zin (((3 : Int32) * (mem840 44 12)) + (1 : Int32)) 18) (zlet (wr mem840 53 (((3 : Int32) * (mem840 44 12)) + (1 : Int32)).toNatClampNeg a2) (fun mem842 =>
    zgd (zin (((3 : Int32) * (mem842 44 12)) + (2 : Int32)) 18) (zlet (wr mem842 53 (((3 : Int32) * (mem842 44 12)) + (2 : Int32)).toNatClampNeg a3) (fun mem844 =>
    zlet (wr mem844 44 12 ((mem844 44 12) + (1 : Int32))) (fun mem845 =>
    some ((mem845 44 12), mem845)))))))))))))))
def f_X5_forget (N : Nat) (mem : zMem) : Option (Int32 × zMem) :=
    zlet (wr mem 44 10 (0 : Int32)) (fun mem846 =>
    zlet (wr mem846 44 12 (0 : Int32)) (fun mem847 =>
    some (((mem 44 10) + (mem 44 12)), mem847)))
def f_X5_weights_27 (k : zMem → Int32 → Int32 → Int32 → Int32 → Option (Int32 × zMem)) (N : Nat) : Nat → zMem → Int32 → Int32 → Int32 → Int32 → Int32 → Option (Int32 × zMem)
  | 0, _, _, _, _, _, _ => none
  | n + 1, mem, x1, x2, x3, x4, x5 =>
    (if (mem 44 10) ≤ x5 then
    k mem x1 x2 x3 x4
    else
    zgd (zin ((3 : Int32) * x5) 18) (zgd (zin (((3 : Int32) * x5) + (1 : Int32)) 18) (zb (f_X5_ouncesOf N mem ((mem 52 ((3 : Int32) * x5).toNatClampNeg) &&& (((1 : Int32) <<< (x1 &&& 31)) ^^^ (-1 : Int32))) (mem 52 (((3 : Int32) * x5) + (1 : Int32)).toNatClampNeg)) (fun r851 mem851 =>
    (if (((mem 52 ((3 : Int32) * x5).toNatClampNeg) >>> (x1 &&& 31)) &&& (1 : Int32)) = (1 : Int32) then
    zgd (zin ((5 : Int32) + x1) 35) (zb (f_X5_weighs N mem851 (mem851 46 ((5 : Int32) + x1).toNatClampNeg) x3 (mem 52 (((3 : Int32) * x5) + (1 : Int32)).toNatClampNeg)) (fun r857 mem857 =>
    (if x4 = 0 then
    f_X5_weights_27 k N n mem857 x1 x2 x3 (0 : Int32) (x5 + 1)
    else
    zgd (zin (((3 : Int32) * x5) + (2 : Int32)) 18) ((if (r851 + r857) = (mem857 52 (((3 : Int32) * x5) + (2 : Int32)).toNatClampNeg) then
    f_X5_weights_27 k N n mem857 x1 x2 x3 (1 : Int32) (x5 + 1)
    else
    f_X5_weights_27 k N n mem857 x1 x2 x3 (0 : Int32) (x5 + 1))))))
    else
    (if x4 = 0 then
    f_X5_weights_27 k N n mem851 x1 x2 x3 (0 : Int32) (x5 + 1)
    else
    zgd (zin (((3 : Int32) * x5) + (2 : Int32)) 18) ((if (r851 + (0 : Int32)) = (mem851 52 (((3 : Int32) * x5) + (2 : Int32)).toNatClampNeg) then
    f_X5_weights_27 k N n mem851 x1 x2 x3 (1 : Int32) (x5 + 1)
    else
    f_X5_weights_27 k N n mem851 x1 x2 x3 (0 : Int32) (x5 + 1)))))))))
def f_X5_weights_15 (N : Nat) : Nat → zMem → Int32 → Int32 → Int32 → Option (Int32 × zMem)
  | 0, _, _, _, _ => none
  | n + 1, mem, x1, x2, x3 =>
    (if (21 : Int32) ≤ x3 then
    some (x2, mem)
    else
    f_X5_weights_27 (fun mem_862 x1_862 x2_862 x3_862 x4_862 =>
    (if x4_862 = 0 then
    f_X5_weights_15 N n mem_862 x1_862 (x2_862 ||| (0 : Int32)) (x3_862 + 1)
    else
    f_X5_weights_15 N n mem_862 x1_862 (x2_862 ||| ((1 : Int32) <<< (x3_862 &&& 31))) (x3_862 + 1))) N N mem x1 x2 x3 (1 : Int32) (0 : Int32))
def f_X5_weights (N : Nat) (mem : zMem) (a1 : Int32) : Option (Int32 × zMem) :=
    zb (f_X5_isPart N mem a1) (fun r864 mem864 =>
    (if r864 = 0 then
    some ((-2 : Int32), mem864)
    else
    f_X5_weights_15 N N mem864 a1 (0 : Int32) (0 : Int32)))
def f_X5_thumbs_15 (k : zMem → Int32 → Int32 → Int32 → Option (Int32 × zMem)) (N : Nat) : Nat → zMem → Int32 → Int32 → Int32 → Int32 → Option (Int32 × zMem)
  | 0, _, _, _, _, _ => none
  | n + 1, mem, x1, x2, x3, x4 =>
    (if (mem 44 12) ≤ x4 then
    k mem x1 x2 x3
    else
    zgd (zin ((3 : Int32) * x4) 18) (zb (f_X5_ouncesOf N mem (mem 53 ((3 : Int32) * x4).toNatClampNeg) (mem 48 (6 : Int32).toNatClampNeg)) (fun r868 mem868 =>
    (if x3 = 0 then
    f_X5_thumbs_15 k N n mem868 x1 x2 (0 : Int32) (x4 + 1)
    else
    zgd (zin (((3 : Int32) * x4) + (1 : Int32)) 18) (zb (f_X5_hangs N mem868 (x2 + r868) (mem868 53 (((3 : Int32) * x4) + (1 : Int32)).toNatClampNeg)) (fun r871 mem871 =>
    zgd (zin (((3 : Int32) * x4) + (2 : Int32)) 18) ((if (mem871 53 (((3 : Int32) * x4) + (2 : Int32)).toNatClampNeg) = (1 : Int32) then
    (if r871 = (1 : Int32) then
    f_X5_thumbs_15 k N n mem871 x1 x2 (1 : Int32) (x4 + 1)
    else
    f_X5_thumbs_15 k N n mem871 x1 x2 (0 : Int32) (x4 + 1))
    else
    (if r871 = (0 : Int32) then
    f_X5_thumbs_15 k N n mem871 x1 x2 (1 : Int32) (x4 + 1)
    else
    f_X5_thumbs_15 k N n mem871 x1 x2 (0 : Int32) (x4 + 1))))))))))
def f_X5_thumbs_4 (N : Nat) : Nat → zMem → Int32 → Int32 → Option (Int32 × zMem)
  | 0, _, _, _ => none
  | n + 1, mem, x1, x2 =>
    (if (10 : Int32) ≤ x2 then
    some (x1, mem)
    else
    f_X5_thumbs_15 (fun mem_877 x1_877 x2_877 x3_877 =>
    (if x3_877 = 0 then
    f_X5_thumbs_4 N n mem_877 (x1_877 ||| (0 : Int32)) (x2_877 + 1)
    else
    f_X5_thumbs_4 N n mem_877 (x1_877 ||| ((1 : Int32) <<< (x2_877 &&& 31))) (x2_877 + 1))) N N mem x1 x2 (1 : Int32) (0 : Int32))
def f_X5_thumbs (N : Nat) (mem : zMem) : Option (Int32 × zMem) :=
    f_X5_thumbs_4 N N mem (0 : Int32) (0 : Int32)
def f_X5_confessed_212 (N : Nat) : Nat → zMem → Int32 → Int32 → Int32 → Int32 → Int32 → Option (Int32 × zMem)
  | 0, _, _, _, _, _, _ => none
  | n + 1, mem, x2, x3, x4, x5, x6 =>
    (if x6 ≤ 0 then
    (if x2 = 0 then
    zgd (znz x5) (some ((x3 / x5), mem))
    else
    zgd (znz x5) (some ((x4 / x5), mem)))
    else
    zgd (znz x6) (f_X5_confessed_212 N n mem x2 x3 x4 x6 (x5 - x5 / x6 * x6)))
def f_X5_confessed_79 (k : zMem → Int32 → Int32 → Int32 → Int32 → Int32 → Int32 → Int32 → Option (Int32 × zMem)) (N : Nat) : Nat → zMem → Int32 → Int32 → Int32 → Int32 → Int32 → Int32 → Int32 → Int32 → Option (Int32 × zMem)
  | 0, _, _, _, _, _, _, _, _, _ => none
  | n + 1, mem, x1, x2, x3, x4, x5, x6, x7, x8 =>
    (if (mem 46 (1 : Int32).toNatClampNeg) ≤ x8 then
    k mem x1 x2 x3 x4 x5 x6 x7
    else
    (if ((x5 >>> (x8 &&& 31)) &&& (1 : Int32)) = (1 : Int32) then
    (if (1 : Int32) = 0 then
    (if (1 : Int32) = 0 then
    zgd (zin x8 12) (f_X5_confessed_79 k N n mem x1 x2 x3 x4 x5 (x6 * ((10 : Int32) - x1)) (x7 + (mem 48 x8.toNatClampNeg)) (x8 + 1))
    else
    f_X5_confessed_79 k N n mem x1 x2 x3 x4 x5 (x6 * ((10 : Int32) - x1)) (x7 + (0 : Int32)) (x8 + 1))
    else
    (if (1 : Int32) = 0 then
    zgd (zin x8 12) (f_X5_confessed_79 k N n mem x1 x2 x3 x4 x5 (x6 * x1) (x7 + (mem 48 x8.toNatClampNeg)) (x8 + 1))
    else
    f_X5_confessed_79 k N n mem x1 x2 x3 x4 x5 (x6 * x1) (x7 + (0 : Int32)) (x8 + 1)))
    else
    (if (0 : Int32) = 0 then
    (if (0 : Int32) = 0 then
    zgd (zin x8 12) (f_X5_confessed_79 k N n mem x1 x2 x3 x4 x5 (x6 * ((10 : Int32) - x1)) (x7 + (mem 48 x8.toNatClampNeg)) (x8 + 1))
    else
    f_X5_confessed_79 k N n mem x1 x2 x3 x4 x5 (x6 * ((10 : Int32) - x1)) (x7 + (0 : Int32)) (x8 + 1))
    else
    (if (0 : Int32) = 0 then
    zgd (zin x8 12) (f_X5_confessed_79 k N n mem x1 x2 x3 x4 x5 (x6 * x1) (x7 + (mem 48 x8.toNatClampNeg)) (x8 + 1))
    else
    f_X5_confessed_79 k N n mem x1 x2 x3 x4 x5 (x6 * x1) (x7 + (0 : Int32)) (x8 + 1)))))
def f_X5_confessed_57 (N : Nat) : Nat → zMem → Int32 → Int32 → Int32 → Int32 → Int32 → Option (Int32 × zMem)
  | 0, _, _, _, _, _, _ => none
  | n + 1, mem, x1, x2, x3, x4, x5 =>
    (if ((1 : Int32) <<< ((mem 46 (1 : Int32).toNatClampNeg) &&& 31)) ≤ x5 then
    f_X5_confessed_212 N N mem x2 x3 x4 x3 x4
    else
    f_X5_confessed_79 (fun mem_897 x1_897 x2_897 x3_897 x4_897 x5_897 x6_897 x7_897 =>
    zb (f_X5_sermon N mem_897) (fun r898 mem898 =>
    (if x7_897 ≤ (mem898 48 (8 : Int32).toNatClampNeg) then
    zb (f_X5_hangs N mem898 r898 (0 : Int32)) (fun r900 mem900 =>
    (if r900 = 0 then
    f_X5_confessed_57 N n mem900 x1_897 x2_897 (x3_897 + (0 : Int32)) x4_897 (x5_897 + 1)
    else
    f_X5_confessed_57 N n mem900 x1_897 x2_897 (x3_897 + x6_897) x4_897 (x5_897 + 1)))
    else
    zb (f_X5_hangs N mem898 r898 (x7_897 - (mem898 48 (8 : Int32).toNatClampNeg))) (fun r902 mem902 =>
    (if r902 = 0 then
    f_X5_confessed_57 N n mem902 x1_897 x2_897 (x3_897 + (0 : Int32)) x4_897 (x5_897 + 1)
    else
    f_X5_confessed_57 N n mem902 x1_897 x2_897 (x3_897 + x6_897) x4_897 (x5_897 + 1)))))) N N mem x1 x2 x3 x4 x5 (1 : Int32) (0 : Int32) (0 : Int32))
def f_X5_confessed_30 (N : Nat) : Nat → zMem → Int32 → Int32 → Int32 → Int32 → Int32 → Option (Int32 × zMem)
  | 0, _, _, _, _, _, _ => none
  | n + 1, mem, x1, x2, x3, x4, x5 =>
    (if (mem 46 (1 : Int32).toNatClampNeg) ≤ x5 then
    f_X5_confessed_57 N N mem x1 x2 x3 x4 (0 : Int32)
    else
    f_X5_confessed_30 N n mem x1 x2 x3 (x4 * (10 : Int32)) (x5 + 1))
def f_X5_confessed (N : Nat) (mem : zMem) (a1 : Int32) (a2 : Int32) : Option (Int32 × zMem) :=
    zb (f_X5_in N mem a1 (0 : Int32) (10 : Int32)) (fun r905 mem905 =>
    (if r905 = 0 then
    some ((-3 : Int32), mem905)
    else
    zb (f_X5_in N mem905 a2 (0 : Int32) (1 : Int32)) (fun r907 mem907 =>
    (if r907 = 0 then
    some ((-3 : Int32), mem907)
    else
    f_X5_confessed_30 N N mem907 a1 a2 (0 : Int32) (1 : Int32) (0 : Int32)))))
def f_X5_count (N : Nat) (mem : zMem) (a1 : Int32) : Option (Int32 × zMem) :=
    (if a1 = 0 then
    some ((mem 46 (0 : Int32).toNatClampNeg), mem)
    else
(if a1 = 1 then
    some ((mem 46 (1 : Int32).toNatClampNeg), mem)
    else
(if a1 = 2 then
    some ((mem 48 (9 : Int32).toNatClampNeg), mem)
    else
(if a1 = 3 then
    zb (f_X5_sermon N mem) (fun r913 mem913 =>
    some (r913, mem913))
    else
(if a1 = 4 then
    zb (f_X5_lead N mem) (fun r915 mem915 =>
    some (r915, mem915))
    else
(if a1 = 5 then
    zb (f_X5_isLevel N mem) (fun r917 mem917 =>
    (if r917 = 0 then
    some ((0 : Int32), mem917)
    else
    some ((1 : Int32), mem917)))
    else
(if a1 = 6 then
    some ((mem 48 (7 : Int32).toNatClampNeg), mem)
    else
(if a1 = 7 then
    some ((mem 48 (10 : Int32).toNatClampNeg), mem)
    else
(if a1 = 8 then
    some ((mem 48 (11 : Int32).toNatClampNeg), mem)
    else
(if a1 = 9 then
    some ((mem 48 (8 : Int32).toNatClampNeg), mem)
    else
(if a1 = 10 then
    some ((mem 48 (6 : Int32).toNatClampNeg), mem)
    else
(if a1 = 11 then
    some ((mem 44 10), mem)
    else
(if a1 = 12 then
    some ((mem 44 12), mem)
    else
(if a1 = 13 then
    some ((mem 44 6), mem)
    else
(if a1 = 14 then
    some ((mem 44 1), mem)
    else
    some ((-3 : Int32), mem))))))))))))))))
