/-! the members of the JDK that the class's texts call, over its nine words (a word is its place t < 9) -/
def f_J0_length_8abf5 (N : Nat) (t : Nat) (mem : zMem) : Option (Int32 × zMem) := some (Int32.ofNat (jsLen.getD t 0), mem)
def f_J0_charAt_5068e (N : Nat) (t : Nat) (mem : zMem) (i : Int32) : Option (Int32 × zMem) := zgd (zin i (jsLen.getD t 0)) (some ((jsByt.getD t []).getD i.toNatClampNeg 0, mem))
def f_X0_addSeen (N : Nat) (mem : zMem) (a1 : Int32) (a2 : Int32) (a3 : Int32) : Option (Int32 × zMem) :=
    (if (mem 36 7) < (6 : Int32) then
    zgd (zin (mem 36 7) 6) (zlet (wr mem 37 (mem 36 7).toNatClampNeg a1) (fun mem3 =>
    zgd (zin (mem3 36 7) 6) (zlet (wr mem3 38 (mem3 36 7).toNatClampNeg a2) (fun mem5 =>
    zgd (zin (mem5 36 7) 6) (zlet (wr mem5 39 (mem5 36 7).toNatClampNeg a3) (fun mem7 =>
    zlet (wr mem7 36 7 ((mem7 36 7) + (1 : Int32))) (fun mem8 =>
    some ((1 : Int32), mem8))))))))
    else
    some ((0 : Int32), mem))
def f_X0_addHeard (N : Nat) (mem : zMem) (a1 : Int32) (a2 : Int32) (a3 : Int32) (a4 : Int32) : Option (Int32 × zMem) :=
    (if (mem 36 8) < (6 : Int32) then
    zgd (zin (mem 36 8) 6) (zlet (wr mem 40 (mem 36 8).toNatClampNeg a1) (fun mem11 =>
    zgd (zin (mem11 36 8) 6) (zlet (wr mem11 41 (mem11 36 8).toNatClampNeg a2) (fun mem13 =>
    zgd (zin (mem13 36 8) 6) (zlet (wr mem13 43 (mem13 36 8).toNatClampNeg (vp_nar .boolean a3)) (fun mem15 =>
    zgd (zin (mem15 36 8) 6) (zlet (wr mem15 42 (mem15 36 8).toNatClampNeg a4) (fun mem17 =>
    zlet (wr mem17 36 8 ((mem17 36 8) + (1 : Int32))) (fun mem18 =>
    some ((1 : Int32), mem18))))))))))
    else
    some ((0 : Int32), mem))
def f_X0_clear (N : Nat) (mem : zMem) : Option (Unit × zMem) :=
    zlet (wr mem 36 7 (0 : Int32)) (fun mem19 =>
    zlet (wr mem19 36 8 (0 : Int32)) (fun mem20 =>
    some ((), mem20)))
def f_X1_beginAsAtFirst (N : Nat) (mem : zMem) : Option (Unit × zMem) :=
    zlet (wr mem 6 4 (0 : Int32)) (fun mem21 =>
    zlet (wr mem21 6 5 (0 : Int32)) (fun mem22 =>
    zlet (wr mem22 6 6 (0 : Int32)) (fun mem23 =>
    zlet (wr mem23 6 7 (1 : Int32)) (fun mem24 =>
    zlet (wr mem24 6 8 (0 : Int32)) (fun mem25 =>
    some ((), mem25))))))
def f_X1_addPart (N : Nat) (mem : zMem) (a1 : Int32) (a2 : Int32) (a3 : Int32) : Option (Unit × zMem) :=
    (if (8 : Int32) ≤ (mem 6 4) then
    some ((), mem)
    else
    zgd (zin (mem 6 4) 8) (zlet (wr mem 7 (mem 6 4).toNatClampNeg a1) (fun mem28 =>
    zgd (zin (mem28 6 4) 8) (zlet (wr mem28 8 (mem28 6 4).toNatClampNeg a2) (fun mem30 =>
    zgd (zin (mem30 6 4) 8) (zlet (wr mem30 9 (mem30 6 4).toNatClampNeg a3) (fun mem32 =>
    zlet (wr mem32 6 4 ((mem32 6 4) + (1 : Int32))) (fun mem33 =>
    some ((), mem33)))))))))
def f_X1_addSoul (N : Nat) (mem : zMem) (a1 : Int32) : Option (Unit × zMem) :=
    (if (6 : Int32) ≤ (mem 6 5) then
    some ((), mem)
    else
    zgd (zin (mem 6 5) 6) (zlet (wr mem 10 (mem 6 5).toNatClampNeg a1) (fun mem36 =>
    zlet (wr mem36 6 5 ((mem36 6 5) + (1 : Int32))) (fun mem37 =>
    some ((), mem37)))))
def f_X1_tell (N : Nat) (mem : zMem) (a1 : Int32) (a2 : Int32) (a3 : Int32) : Option (Unit × zMem) :=
    (if a1 = 0 then
    zb (f_X1_beginAsAtFirst N mem) (fun _ mem39 =>
    some ((), mem39))
    else
(if a1 = 1 then
    zb (f_X1_addPart N mem (0 : Int32) a2 a3) (fun _ mem41 =>
    some ((), mem41))
    else
(if a1 = 2 then
    zb (f_X1_addPart N mem (1 : Int32) a2 a3) (fun _ mem43 =>
    some ((), mem43))
    else
(if a1 = 3 then
    zb (f_X1_addPart N mem (2 : Int32) a2 a3) (fun _ mem45 =>
    some ((), mem45))
    else
(if a1 = 4 then
    zb (f_X1_addPart N mem (3 : Int32) a2 a3) (fun _ mem47 =>
    some ((), mem47))
    else
(if a1 = 5 then
    zb (f_X1_addSoul N mem a2) (fun _ mem49 =>
    some ((), mem49))
    else
(if a1 = 6 then
    zlet (wr mem 6 6 a2) (fun mem51 =>
    some ((), mem51))
    else
(if a1 = 7 then
    zlet (wr mem 6 7 a2) (fun mem53 =>
    some ((), mem53))
    else
(if a1 = 8 then
    zlet (wr mem 6 8 a2) (fun mem55 =>
    some ((), mem55))
    else
    some ((), mem))))))))))
def f_X4_isIn (N : Nat) (mem : zMem) (a1 : Int32) (a2 : Int32) : Option (Int32 × zMem) :=
    (if ((a2 >>> (a1 &&& 31)) &&& (1 : Int32)) = (1 : Int32) then
    some ((1 : Int32), mem)
    else
    some ((0 : Int32), mem))
def f_X4_ouncesOf (N : Nat) (mem : zMem) (a1 : Int32) (a2 : Int32) (a3 : Int32) : Option (Int32 × zMem) :=
    (if a1 = 1 then
    some ((a2 + a3), mem)
    else
(if a1 = 2 then
    some ((a2 / (2 : Int32)), mem)
    else
(if a1 = 3 then
    some ((0 : Int32), mem)
    else
    some (a2, mem))))
def f_X1_ouncesOfSet_5 (N : Nat) : Nat → zMem → Int32 → Int32 → Int32 → Int32 → Option (Int32 × zMem)
  | 0, _, _, _, _, _ => none
  | n + 1, mem, x1, x2, x3, x4 =>
    (if (mem 6 4) ≤ x4 then
    some (x3, mem)
    else
    zb (f_X4_isIn N mem x4 x1) (fun r61 mem61 =>
    (if r61 = 0 then
    f_X1_ouncesOfSet_5 N n mem61 x1 x2 x3 (x4 + 1)
    else
    zgd (zin x4 8) (zgd (zin x4 8) (zb (f_X4_ouncesOf N mem61 (mem61 7 x4.toNatClampNeg) (mem61 8 x4.toNatClampNeg) x2) (fun r65 mem65 =>
    f_X1_ouncesOfSet_5 N n mem65 x1 x2 (x3 + r65) (x4 + 1)))))))
def f_X1_ouncesOfSet (N : Nat) (mem : zMem) (a1 : Int32) (a2 : Int32) : Option (Int32 × zMem) :=
    f_X1_ouncesOfSet_5 N N mem a1 a2 (0 : Int32) (0 : Int32)
def f_X1_minutesOf_4 (N : Nat) : Nat → zMem → Int32 → Int32 → Int32 → Option (Int32 × zMem)
  | 0, _, _, _, _ => none
  | n + 1, mem, x1, x2, x3 =>
    (if (mem 6 4) ≤ x3 then
    some (x2, mem)
    else
    zb (f_X4_isIn N mem x3 x1) (fun r67 mem67 =>
    (if r67 = 0 then
    f_X1_minutesOf_4 N n mem67 x1 x2 (x3 + 1)
    else
    zgd (zin x3 8) (f_X1_minutesOf_4 N n mem67 x1 (x2 + (mem67 9 x3.toNatClampNeg)) (x3 + 1)))))
def f_X1_minutesOf (N : Nat) (mem : zMem) (a1 : Int32) : Option (Int32 × zMem) :=
    f_X1_minutesOf_4 N N mem a1 (0 : Int32) (0 : Int32)
def f_X2_add (N : Nat) (mem : zMem) (a1 : Int32) : Option (Int32 × zMem) :=
    (if (mem 1 4) < (160 : Int32) then
    zgd (zin (mem 1 4) 160) (zlet (wr mem 2 (mem 1 4).toNatClampNeg a1) (fun mem72 =>
    zlet (wr mem72 1 4 ((mem72 1 4) + (1 : Int32))) (fun mem73 =>
    some ((1 : Int32), mem73))))
    else
    some ((0 : Int32), mem))
def f_X4_isWithin (N : Nat) (mem : zMem) (a1 : Int32) (a2 : Int32) (a3 : Int32) : Option (Int32 × zMem) :=
    (if a1 < a2 then
    some ((0 : Int32), mem)
    else
    (if a3 < a1 then
    some ((0 : Int32), mem)
    else
    some ((1 : Int32), mem)))
def f_X2_endOfRow_3 (N : Nat) : Nat → zMem → Int32 → Int32 → Int32 → Option (Int32 × zMem)
  | 0, _, _, _, _ => none
  | n + 1, mem, x2, x3, x4 =>
    (if (mem 1 4) ≤ x4 then
    some (x4, mem)
    else
    zgd (zin x4 160) (zb (f_X4_isWithin N mem (mem 2 x4.toNatClampNeg) x2 x3) (fun r78 mem78 =>
    (if r78 = 0 then
    some (x4, mem78)
    else
    f_X2_endOfRow_3 N n mem78 x2 x3 (x4 + 1)))))
def f_X2_endOfRow (N : Nat) (mem : zMem) (a1 : Int32) (a2 : Int32) (a3 : Int32) : Option (Int32 × zMem) :=
    f_X2_endOfRow_3 N N mem a2 a3 a1
def f_X2_nextToken_59 (N : Nat) (mem : zMem) : Option (Unit × zMem) :=
    (if (mem 1 7) = (mem 1 6) then
    (if (mem 1 4) ≤ (mem 1 6) then
    some ((), mem)
    else
    zlet (wr mem 1 7 ((mem 1 7) + (1 : Int32))) (fun mem82 =>
    some ((), mem82)))
    else
    some ((), mem))
def f_X2_nextToken (N : Nat) (mem : zMem) : Option (Unit × zMem) :=
    zb (f_X2_endOfRow N mem (mem 1 7) (32 : Int32) (32 : Int32)) (fun r83 mem83 =>
    zlet (wr mem83 1 6 r83) (fun mem84 =>
    zb (f_X2_endOfRow N mem84 (mem84 1 6) (97 : Int32) (122 : Int32)) (fun r85 mem85 =>
    zlet (wr mem85 1 7 r85) (fun mem86 =>
    (if (mem86 1 7) = (mem86 1 6) then
    zb (f_X2_endOfRow N mem86 (mem86 1 6) (48 : Int32) (57 : Int32)) (fun r88 mem88 =>
    zlet (wr mem88 1 7 r88) (fun mem89 =>
    f_X2_nextToken_59 N mem89))
    else
    f_X2_nextToken_59 N mem86)))))
def f_X2_nameOf (N : Nat) (mem : zMem) (a1 : Int32) : Option (Nat × zMem) :=
    (if a1 = 0 then
    some (0, mem)
    else
(if a1 = 1 then
    some (1, mem)
    else
(if a1 = 2 then
    some (2, mem)
    else
(if a1 = 3 then
    some (3, mem)
    else
(if a1 = 4 then
    some (4, mem)
    else
(if a1 = 5 then
    some (5, mem)
    else
(if a1 = 6 then
    some (6, mem)
    else
(if a1 = 7 then
    some (7, mem)
    else
    some (8, mem)))))))))
def f_X2_tokenIs_20 (N : Nat) (t : Nat) : Nat → zMem → Int32 → Option (Int32 × zMem)
  | 0, _, _ => none
  | n + 1, mem, x2 =>
    zb (f_J0_length_8abf5 N t mem) (fun r98 mem98 =>
    (if r98 ≤ x2 then
    some ((1 : Int32), mem98)
    else
    zgd (zin ((mem98 1 6) + x2) 160) (zb (f_J0_charAt_5068e N t mem98 x2) (fun r101 mem101 =>
    (if (mem98 2 ((mem98 1 6) + x2).toNatClampNeg) = r101 then
    f_X2_tokenIs_20 N t n mem101 (x2 + 1)
    else
    some ((0 : Int32), mem101))))))
def f_X2_tokenIs (N : Nat) (t : Nat) (mem : zMem) : Option (Int32 × zMem) :=
    zb (f_J0_length_8abf5 N t mem) (fun r103 mem103 =>
    (if r103 = ((mem103 1 7) - (mem103 1 6)) then
    f_X2_tokenIs_20 N t N mem103 (0 : Int32)
    else
    some ((0 : Int32), mem103)))
def f_X2_tokenWord_2 (N : Nat) : Nat → zMem → Int32 → Option (Int32 × zMem)
  | 0, _, _ => none
  | n + 1, mem, x1 =>
    (if (8 : Int32) < x1 then
    some ((-1 : Int32), mem)
    else
    zb (f_X2_nameOf N mem x1) (fun r106 mem106 =>
    zb (f_X2_tokenIs N r106 mem106) (fun r107 mem107 =>
    (if r107 = 0 then
    f_X2_tokenWord_2 N n mem107 (x1 + 1)
    else
    some (x1, mem107)))))
def f_X2_tokenWord (N : Nat) (mem : zMem) : Option (Int32 × zMem) :=
    f_X2_tokenWord_2 N N mem (0 : Int32)
def f_X2_isOfPart (N : Nat) (mem : zMem) (a1 : Int32) : Option (Int32 × zMem) :=
    zb (f_X4_isWithin N mem a1 (1 : Int32) (4 : Int32)) (fun r109 mem109 =>
    zgd (zbo r109) (some (r109, mem109)))
def f_X2_countPartsAndSouls (N : Nat) (mem : zMem) (a1 : Int32) : Option (Unit × zMem) :=
    (if a1 = 0 then
    zlet (wr mem 1 8 (0 : Int32)) (fun mem117 =>
    zlet (wr mem117 1 9 (0 : Int32)) (fun mem118 =>
    some ((), mem118)))
    else
    (if a1 = (5 : Int32) then
    zlet (wr mem 1 9 ((mem 1 9) + (1 : Int32))) (fun mem116 =>
    some ((), mem116))
    else
    zb (f_X2_isOfPart N mem a1) (fun r113 mem113 =>
    (if r113 = 0 then
    some ((), mem113)
    else
    zlet (wr mem113 1 8 ((mem113 1 8) + (1 : Int32))) (fun mem115 =>
    some ((), mem115))))))
def f_X2_tokenNumber_48 (N : Nat) : Nat → zMem → Int32 → Int32 → Option (Int32 × zMem)
  | 0, _, _, _ => none
  | n + 1, mem, x2, x3 =>
    (if (mem 1 7) ≤ x3 then
    some (x2, mem)
    else
    zgd (zin x3 160) (f_X2_tokenNumber_48 N n mem (((x2 * (10 : Int32)) + (mem 2 x3.toNatClampNeg)) - (48 : Int32)) (x3 + 1)))
def f_X2_tokenNumber (N : Nat) (mem : zMem) : Option (Int32 × zMem) :=
    (if ((mem 1 7) - (mem 1 6)) < (1 : Int32) then
    some ((-1 : Int32), mem)
    else
    (if (2 : Int32) < ((mem 1 7) - (mem 1 6)) then
    some ((-1 : Int32), mem)
    else
    zgd (zin (mem 1 6) 160) (zb (f_X4_isWithin N mem (mem 2 (mem 1 6).toNatClampNeg) (48 : Int32) (57 : Int32)) (fun r124 mem124 =>
    (if r124 = 0 then
    some ((-1 : Int32), mem124)
    else
    f_X2_tokenNumber_48 N N mem124 (0 : Int32) (mem124 1 6))))))
def f_X2_mostFirst (N : Nat) (mem : zMem) (a1 : Int32) : Option (Int32 × zMem) :=
    (if a1 = 5 then
    some ((40 : Int32), mem)
    else
(if a1 = 6 then
    some ((9 : Int32), mem)
    else
(if a1 = 7 then
    some ((5 : Int32), mem)
    else
(if a1 = 8 then
    some ((9 : Int32), mem)
    else
    some ((20 : Int32), mem)))))
def f_X2_readClause (N : Nat) (mem : zMem) (a1 : Int32) : Option (Int32 × zMem) :=
    zb (f_X2_nextToken N mem) (fun _ mem130 =>
    zb (f_X2_tokenWord N mem130) (fun r131 mem131 =>
    zgd (zin a1 14) (zlet (wr mem131 3 a1.toNatClampNeg r131) (fun mem133 =>
    zgd (zin a1 14) (zlet (wr mem133 4 a1.toNatClampNeg (0 : Int32)) (fun mem135 =>
    zgd (zin a1 14) (zlet (wr mem135 5 a1.toNatClampNeg (0 : Int32)) (fun mem137 =>
    (if r131 = (-1 : Int32) then
    some ((0 : Int32), mem137)
    else
    zb (f_X2_countPartsAndSouls N mem137 r131) (fun _ mem139 =>
    (if (8 : Int32) < (mem139 1 8) then
    some ((0 : Int32), mem139)
    else
    (if (mem139 1 9) ≤ (6 : Int32) then
    (if r131 = 0 then
    some ((1 : Int32), mem139)
    else
    zb (f_X2_nextToken N mem139) (fun _ mem143 =>
    zb (f_X2_tokenNumber N mem143) (fun r144 mem144 =>
    zgd (zin a1 14) (zlet (wr mem144 4 a1.toNatClampNeg r144) (fun mem146 =>
    zgd (zin a1 14) (zb (f_X2_mostFirst N mem146 r131) (fun r148 mem148 =>
    zb (f_X4_isWithin N mem148 (mem146 4 a1.toNatClampNeg) (0 : Int32) r148) (fun r149 mem149 =>
    (if r149 = 0 then
    some ((0 : Int32), mem149)
    else
    zb (f_X2_isOfPart N mem149 r131) (fun r151 mem151 =>
    (if r151 = 0 then
    some ((1 : Int32), mem151)
    else
    zb (f_X2_nextToken N mem151) (fun _ mem153 =>
    zb (f_X2_tokenNumber N mem153) (fun r154 mem154 =>
    zgd (zin a1 14) (zlet (wr mem154 5 a1.toNatClampNeg r154) (fun mem156 =>
    zgd (zin a1 14) (zb (f_X4_isWithin N mem156 (mem156 5 a1.toNatClampNeg) (1 : Int32) (30 : Int32)) (fun r158 mem158 =>
    zgd (zbo r158) (some (r158, mem158)))))))))))))))))))
    else
    some ((0 : Int32), mem139)))))))))))))
def f_X2_firstFault_22 (N : Nat) : Nat → zMem → Int32 → Option (Int32 × zMem)
  | 0, _, _ => none
  | n + 1, mem, x3 =>
    (if (14 : Int32) ≤ x3 then
    some ((mem 1 6), mem)
    else
    zb (f_X2_readClause N mem x3) (fun r161 mem161 =>
    (if r161 = 0 then
    some ((mem161 1 6), mem161)
    else
    zlet (wr mem161 1 5 (x3 + (1 : Int32))) (fun mem163 =>
    zb (f_X2_nextToken N mem163) (fun _ mem164 =>
    (if (mem164 1 6) < (mem164 1 4) then
    zgd (zin (mem164 1 6) 160) ((if (mem164 2 (mem164 1 6).toNatClampNeg) = (59 : Int32) then
    f_X2_firstFault_22 N n mem164 (x3 + 1)
    else
    some ((mem164 1 6), mem164)))
    else
    some ((-1 : Int32), mem164)))))))
def f_X2_firstFault (N : Nat) (mem : zMem) (a1 : Int32) (a2 : Int32) : Option (Int32 × zMem) :=
    zlet (wr mem 1 8 a1) (fun mem168 =>
    zlet (wr mem168 1 9 a2) (fun mem169 =>
    zlet (wr mem169 1 7 (0 : Int32)) (fun mem170 =>
    zlet (wr mem170 1 5 (0 : Int32)) (fun mem171 =>
    f_X2_firstFault_22 N N mem171 (0 : Int32)))))
def f_X3_beginAsTold (N : Nat) (w : Nat) (mem : zMem) : Option (Unit × zMem) :=
    zlet (cpy6 mem 10 (w + 1)) (fun mem172 =>
    zlet (wr mem172 w 1 (0 : Int32)) (fun mem173 =>
    zlet (wr mem173 w 2 (0 : Int32)) (fun mem174 =>
    zlet (wr mem174 w 3 (mem174 6 8)) (fun mem175 =>
    zlet (wr mem175 w 4 (0 : Int32)) (fun mem176 =>
    zlet (wr mem176 w 5 (0 : Int32)) (fun mem177 =>
    zlet (wr mem177 w 6 (0 : Int32)) (fun mem178 =>
    some ((), mem178))))))))
def f_X3_end_2 (N : Nat) (w : Nat) : Nat → zMem → Int32 → Int32 → Option (Unit × zMem)
  | 0, _, _, _ => none
  | n + 1, mem, x1, x2 =>
    (if (6 : Int32) ≤ x2 then
    zlet (wr mem w 1 (0 : Int32)) (fun mem180 =>
    zlet (wr mem180 w 2 (0 : Int32)) (fun mem181 =>
    zlet (wr mem181 w 4 ((mem181 w 4) + (1 : Int32))) (fun mem182 =>
    (if x1 = 0 then
    zlet (wr mem182 w 6 ((mem182 w 6) + (0 : Int32))) (fun mem184 =>
    some ((), mem184))
    else
    zlet (wr mem182 w 6 ((mem182 w 6) + (1 : Int32))) (fun mem185 =>
    some ((), mem185))))))
    else
    (if x1 = 0 then
    zgd (zin x2 6) (zgd (zin x2 6) (zlet (wr mem (w + 1) x2.toNatClampNeg ((mem (w + 1) x2.toNatClampNeg) / (2 : Int32))) (fun mem189 =>
    f_X3_end_2 N w n mem189 x1 (x2 + 1))))
    else
    zgd (zin x2 6) (zlet (wr mem (w + 1) x2.toNatClampNeg (0 : Int32)) (fun mem191 =>
    f_X3_end_2 N w n mem191 x1 (x2 + 1)))))
def f_X3_end (N : Nat) (w : Nat) (mem : zMem) (a1 : Int32) : Option (Unit × zMem) :=
    f_X3_end_2 N w N mem a1 (0 : Int32)
def f_X3_becomeLike (N : Nat) (w : Nat) (o : Nat) (mem : zMem) : Option (Unit × zMem) :=
    zlet (cpy6 mem (o + 1) (w + 1)) (fun mem192 =>
    zlet (wr mem192 w 1 (mem192 o 1)) (fun mem193 =>
    zlet (wr mem193 w 2 (mem193 o 2)) (fun mem194 =>
    zlet (wr mem194 w 3 (mem194 o 3)) (fun mem195 =>
    zlet (wr mem195 w 4 (mem195 o 4)) (fun mem196 =>
    zlet (wr mem196 w 5 (mem196 o 5)) (fun mem197 =>
    zlet (wr mem197 w 6 (mem197 o 6)) (fun mem198 =>
    some ((), mem198))))))))
def f_X4_write (N : Nat) (mem : zMem) (a1 : Int32) : Option (Int32 × zMem) :=
    zb (f_X4_isWithin N mem a1 (0 : Int32) (255 : Int32)) (fun r199 mem199 =>
    (if r199 = 0 then
    some ((-3 : Int32), mem199)
    else
    zb (f_X2_add N mem199 a1) (fun r201 mem201 =>
    (if r201 = 0 then
    some ((-5 : Int32), mem201)
    else
    some ((mem201 1 4), mem201)))))
def f_X4_erase (N : Nat) (mem : zMem) : Option (Int32 × zMem) :=
    zlet (wr mem 1 4 (0 : Int32)) (fun mem203 =>
    some ((mem 1 4), mem203))
def f_X4_fault (N : Nat) (mem : zMem) : Option (Int32 × zMem) :=
    zb (f_X2_firstFault N mem (mem 6 4) (mem 6 5)) (fun r204 mem204 =>
    some (r204, mem204))
def f_X4_beginAnew_20 (N : Nat) : Nat → zMem → Int32 → Option (Unit × zMem)
  | 0, _, _ => none
  | n + 1, mem, x1 =>
    (if (2 : Int32) ≤ x1 then
    zlet (wr mem 0 7 (0 : Int32)) (fun mem206 =>
    some ((), mem206))
    else
    zgd (zin x1 2) (zlet (wr mem 35 x1.toNatClampNeg (vp_nar .boolean (0 : Int32))) (fun mem208 =>
    f_X4_beginAnew_20 N n mem208 (x1 + 1))))
def f_X4_beginAnew (N : Nat) (mem : zMem) : Option (Unit × zMem) :=
    zb (f_X3_beginAsTold N 11 mem) (fun _ mem209 =>
    zb (f_X0_clear N mem209) (fun _ mem210 =>
    f_X4_beginAnew_20 N N mem210 (0 : Int32)))
def f_X4_kirk_38 (N : Nat) : Nat → zMem → Int32 → Int32 → Option (Int32 × zMem)
  | 0, _, _, _ => none
  | n + 1, mem, x1, x2 =>
    (if x1 ≤ x2 then
    zlet (wr mem 1 4 (0 : Int32)) (fun mem212 =>
    zb (f_X4_beginAnew N mem212) (fun _ mem213 =>
    some (x1, mem213)))
    else
    zgd (zin x2 14) (zgd (zin x2 14) (zgd (zin x2 14) (zb (f_X1_tell N mem (mem 3 x2.toNatClampNeg) (mem 4 x2.toNatClampNeg) (mem 5 x2.toNatClampNeg)) (fun _ mem217 =>
    f_X4_kirk_38 N n mem217 x1 (x2 + 1))))))
def f_X4_kirk (N : Nat) (mem : zMem) : Option (Int32 × zMem) :=
    zb (f_X2_firstFault N mem (mem 6 4) (mem 6 5)) (fun r218 mem218 =>
    (if r218 = (-1 : Int32) then
    f_X4_kirk_38 N N mem218 (mem218 1 5) (0 : Int32)
    else
    some ((-4 : Int32), mem218)))
def f_X4_isPart (N : Nat) (mem : zMem) (a1 : Int32) : Option (Int32 × zMem) :=
    (if a1 < 0 then
    some ((0 : Int32), mem)
    else
    (if (mem 6 4) ≤ a1 then
    some ((0 : Int32), mem)
    else
    some ((1 : Int32), mem)))
def f_X4_part (N : Nat) (mem : zMem) (a1 : Int32) (a2 : Int32) : Option (Int32 × zMem) :=
    zb (f_X4_isPart N mem a1) (fun r222 mem222 =>
    (if r222 = 0 then
    some ((-2 : Int32), mem222)
    else
    (if a2 = 0 then
    zgd (zin a1 8) (some ((mem222 7 a1.toNatClampNeg), mem222))
    else
(if a2 = 1 then
    zgd (zin a1 8) (some ((mem222 8 a1.toNatClampNeg), mem222))
    else
(if a2 = 2 then
    zgd (zin a1 8) (some ((mem222 9 a1.toNatClampNeg), mem222))
    else
(if a2 = 3 then
    zgd (zin a1 8) (zgd (zin a1 8) (zb (f_X4_ouncesOf N mem222 (mem222 7 a1.toNatClampNeg) (mem222 8 a1.toNatClampNeg) (mem222 11 3)) (fun r233 mem233 =>
    some (r233, mem233))))
    else
(if a2 = 4 then
    zb (f_X4_isIn N mem222 a1 (mem222 11 1)) (fun r235 mem235 =>
    (if r235 = 0 then
    some ((0 : Int32), mem235)
    else
    some ((1 : Int32), mem235)))
    else
    some ((-3 : Int32), mem222))))))))
def f_X4_isSoul (N : Nat) (mem : zMem) (a1 : Int32) : Option (Int32 × zMem) :=
    (if a1 < 0 then
    some ((0 : Int32), mem)
    else
    (if (mem 6 5) ≤ a1 then
    some ((0 : Int32), mem)
    else
    some ((1 : Int32), mem)))
def f_X4_sins (N : Nat) (mem : zMem) (a1 : Int32) : Option (Int32 × zMem) :=
    zb (f_X4_isSoul N mem a1) (fun r239 mem239 =>
    (if r239 = 0 then
    some ((-2 : Int32), mem239)
    else
    zgd (zin a1 6) (some ((mem239 12 a1.toNatClampNeg), mem239))))
def f_X4_isTakenAs_25 (N : Nat) (mem : zMem) (x0 : Int32) (x1 : Int32) (x2 : Int32) (s0 : Int32) : Option (Int32 × zMem) :=
    (if x2 = 0 then
    (if s0 = 0 then
    (if x1 = (x0 + (1 : Int32)) then
    some ((1 : Int32), mem)
    else
    some ((0 : Int32), mem))
    else
    some ((1 : Int32), mem))
    else
    some ((1 : Int32), mem))
def f_X4_isTakenAs_24 (N : Nat) (mem : zMem) (x0 : Int32) (x1 : Int32) (x2 : Int32) : Option (Int32 × zMem) :=
    f_X4_isTakenAs_25 N mem x0 x1 x2 (0 : Int32)
def f_X4_isTakenAs_9 (N : Nat) (mem : zMem) (x0 : Int32) (x1 : Int32) (s0 : Int32) : Option (Int32 × zMem) :=
    (if x1 = (1 : Int32) then
    (if x0 = (3 : Int32) then
    f_X4_isTakenAs_24 N mem x0 x1 s0
    else
    f_X4_isTakenAs_25 N mem x0 x1 s0 (1 : Int32))
    else
    f_X4_isTakenAs_24 N mem x0 x1 s0)
def f_X4_isTakenAs (N : Nat) (mem : zMem) (a1 : Int32) (a2 : Int32) : Option (Int32 × zMem) :=
    (if a2 = 0 then
    f_X4_isTakenAs_9 N mem a1 a2 (1 : Int32)
    else
    f_X4_isTakenAs_9 N mem a1 a2 (0 : Int32))
def f_X4_as (N : Nat) (mem : zMem) (a1 : Int32) (a2 : Int32) : Option (Int32 × zMem) :=
    zb (f_X4_isPart N mem a1) (fun r248 mem248 =>
    (if r248 = 0 then
    some ((-2 : Int32), mem248)
    else
    zb (f_X4_isWithin N mem248 a2 (0 : Int32) (4 : Int32)) (fun r250 mem250 =>
    (if r250 = 0 then
    some ((-3 : Int32), mem250)
    else
    zgd (zin a1 8) (zb (f_X4_isTakenAs N mem250 (mem250 7 a1.toNatClampNeg) a2) (fun r253 mem253 =>
    (if r253 = 0 then
    some ((-4 : Int32), mem253)
    else
    zgd (zin a1 8) (zgd (zin a1 8) (zb (f_X4_ouncesOf N mem253 (mem253 7 a1.toNatClampNeg) (mem253 8 a1.toNatClampNeg) (9 : Int32)) (fun r257 mem257 =>
    some (r257, mem257)))))))))))
def f_X4_sermonOf (N : Nat) (mem : zMem) (a1 : Int32) : Option (Int32 × zMem) :=
    zb (f_X1_ouncesOfSet N mem a1 (mem 11 3)) (fun r258 mem258 =>
    some ((r258 + (mem258 6 6)), mem258))
def f_X4_leadWithout_11 (N : Nat) : Nat → zMem → Int32 → Int32 → Int32 → Option (Int32 × zMem)
  | 0, _, _, _, _ => none
  | n + 1, mem, x1, x2, x3 =>
    (if (mem 6 5) ≤ x3 then
    some ((if x2 < (0 : Int32) then (0 : Int32) else x2), mem)
    else
    zb (f_X4_isIn N mem x3 x1) (fun r260 mem260 =>
    (if r260 = 0 then
    zgd (zin x3 6) (f_X4_leadWithout_11 N n mem260 x1 (x2 + (mem260 12 x3.toNatClampNeg)) (x3 + 1))
    else
    f_X4_leadWithout_11 N n mem260 x1 x2 (x3 + 1))))
def f_X4_leadWithout (N : Nat) (mem : zMem) (a1 : Int32) : Option (Int32 × zMem) :=
    f_X4_leadWithout_11 N N mem a1 (-(mem 11 2)) (0 : Int32)
def f_X4_leadNow (N : Nat) (mem : zMem) : Option (Int32 × zMem) :=
    zb (f_X4_leadWithout N mem (0 : Int32)) (fun r263 mem263 =>
    some (r263, mem263))
def f_X4_hangsLevel (N : Nat) (mem : zMem) (a1 : Int32) (a2 : Int32) : Option (Int32 × zMem) :=
    (if (mem 6 7) < (if 0 ≤ (a1 - a2) then (a1 - a2) else 0 - (a1 - a2)) then
    some ((0 : Int32), mem)
    else
    some ((1 : Int32), mem))
def f_X4_hangsLevelNow (N : Nat) (mem : zMem) : Option (Int32 × zMem) :=
    zb (f_X4_sermonOf N mem (mem 11 1)) (fun r265 mem265 =>
    zb (f_X4_leadNow N mem265) (fun r266 mem266 =>
    zb (f_X4_hangsLevel N mem266 r265 r266) (fun r267 mem267 =>
    zgd (zbo r267) (some (r267, mem267)))))
def f_X4_rememberWeek (N : Nat) (mem : zMem) : Option (Unit × zMem) :=
    zgd (zin (mem 0 8) 8) (zb (f_X3_becomeLike N (14 + 2 * (mem 0 8).toNatClampNeg) 11 mem) (fun _ mem270 =>
    zlet (wr mem270 0 8 (((mem270 0 8) + (1 : Int32)) - ((mem270 0 8) + (1 : Int32)) / (8 : Int32) * (8 : Int32))) (fun mem271 =>
    zlet (wr mem271 0 7 (if (8 : Int32) < ((mem271 0 7) + (1 : Int32)) then (8 : Int32) else ((mem271 0 7) + (1 : Int32)))) (fun mem272 =>
    some ((), mem272)))))
def f_X4_preach (N : Nat) (mem : zMem) (a1 : Int32) : Option (Int32 × zMem) :=
    zb (f_X4_isPart N mem a1) (fun r273 mem273 =>
    (if r273 = 0 then
    some ((-2 : Int32), mem273)
    else
    zb (f_X4_isIn N mem273 a1 (mem273 11 1)) (fun r275 mem275 =>
    (if r275 = 0 then
    zb (f_X4_hangsLevelNow N mem275) (fun r277 mem277 =>
    (if r277 = 0 then
    zb (f_X4_rememberWeek N mem277) (fun _ mem279 =>
    zlet (wr mem279 11 1 ((mem279 11 1) ||| ((1 : Int32) <<< (a1 &&& 31)))) (fun mem280 =>
    zgd (zin a1 8) (zlet (wr mem280 11 5 ((mem280 11 5) + (mem280 9 a1.toNatClampNeg))) (fun mem282 =>
    zb (f_X4_sermonOf N mem282 (mem282 11 1)) (fun r283 mem283 =>
    zb (f_X4_leadNow N mem283) (fun r284 mem284 =>
    some (((r283 - r284) + (9999 : Int32)), mem284)))))))
    else
    some ((-4 : Int32), mem277)))
    else
    some ((-4 : Int32), mem275)))))
def f_X4_sin (N : Nat) (mem : zMem) (a1 : Int32) (a2 : Int32) : Option (Int32 × zMem) :=
    zb (f_X4_isSoul N mem a1) (fun r285 mem285 =>
    (if r285 = 0 then
    some ((-2 : Int32), mem285)
    else
    zb (f_X4_isWithin N mem285 a2 (1 : Int32) (20 : Int32)) (fun r287 mem287 =>
    (if r287 = 0 then
    some ((-3 : Int32), mem287)
    else
    zb (f_X4_rememberWeek N mem287) (fun _ mem289 =>
    zgd (zin a1 6) (zgd (zin a1 6) (zlet (wr mem289 12 a1.toNatClampNeg (if (99 : Int32) < ((mem289 12 a1.toNatClampNeg) + a2) then (99 : Int32) else ((mem289 12 a1.toNatClampNeg) + a2))) (fun mem292 =>
    zgd (zin a1 6) (some ((mem292 12 a1.toNatClampNeg), mem292))))))))))
def f_X4_ballast (N : Nat) (mem : zMem) (a1 : Int32) : Option (Int32 × zMem) :=
    zb (f_X4_isWithin N mem a1 (1 : Int32) (20 : Int32)) (fun r294 mem294 =>
    (if r294 = 0 then
    some ((-3 : Int32), mem294)
    else
    zb (f_X4_rememberWeek N mem294) (fun _ mem296 =>
    zlet (wr mem296 11 2 (if (99 : Int32) < ((mem296 11 2) + a1) then (99 : Int32) else ((mem296 11 2) + a1))) (fun mem297 =>
    some ((mem297 11 2), mem297)))))
def f_X4_rain (N : Nat) (mem : zMem) (a1 : Int32) : Option (Int32 × zMem) :=
    zb (f_X4_isWithin N mem a1 (0 : Int32) (9 : Int32)) (fun r298 mem298 =>
    (if r298 = 0 then
    some ((-3 : Int32), mem298)
    else
    zb (f_X4_rememberWeek N mem298) (fun _ mem300 =>
    zlet (wr mem300 11 3 a1) (fun mem301 =>
    some ((mem300 11 3), mem301)))))
def f_X4_sunday (N : Nat) (mem : zMem) : Option (Int32 × zMem) :=
    (if (mem 11 4) < (999 : Int32) then
    zb (f_X4_hangsLevelNow N mem) (fun r303 mem303 =>
    zb (f_X4_rememberWeek N mem303) (fun _ mem304 =>
    zb (f_X3_end N 11 mem304 r303) (fun _ mem305 =>
    (if r303 = 0 then
    some ((0 : Int32), mem305)
    else
    some ((1 : Int32), mem305)))))
    else
    some ((-5 : Int32), mem))
def f_X4_undo (N : Nat) (mem : zMem) : Option (Int32 × zMem) :=
    (if 0 < (mem 0 7) then
    zlet (wr mem 0 7 ((mem 0 7) - (1 : Int32))) (fun mem308 =>
    zlet (wr mem308 0 8 ((((mem308 0 8) + (8 : Int32)) - (1 : Int32)) - (((mem308 0 8) + (8 : Int32)) - (1 : Int32)) / (8 : Int32) * (8 : Int32))) (fun mem309 =>
    zgd (zin (mem309 0 8) 8) (zb (f_X3_becomeLike N 11 (14 + 2 * (mem309 0 8).toNatClampNeg) mem309) (fun _ mem311 =>
    some ((mem311 0 7), mem311)))))
    else
    some ((-4 : Int32), mem))
def f_X4_keep (N : Nat) (mem : zMem) (a1 : Int32) : Option (Int32 × zMem) :=
    zb (f_X4_isWithin N mem a1 (0 : Int32) (1 : Int32)) (fun r312 mem312 =>
    (if r312 = 0 then
    some ((-2 : Int32), mem312)
    else
    zgd (zin a1 2) (zb (f_X3_becomeLike N (31 + 2 * a1.toNatClampNeg) 11 mem312) (fun _ mem315 =>
    zgd (zin a1 2) (zlet (wr mem315 35 a1.toNatClampNeg (vp_nar .boolean (1 : Int32))) (fun mem317 =>
    some ((mem317 11 4), mem317)))))))
def f_X4_back (N : Nat) (mem : zMem) (a1 : Int32) : Option (Int32 × zMem) :=
    zb (f_X4_isWithin N mem a1 (0 : Int32) (1 : Int32)) (fun r318 mem318 =>
    (if r318 = 0 then
    some ((-2 : Int32), mem318)
    else
    zgd (zin a1 2) ((if (mem318 35 a1.toNatClampNeg) = 0 then
    some ((-4 : Int32), mem318)
    else
    zgd (zin a1 2) (zb (f_X3_becomeLike N 11 (31 + 2 * a1.toNatClampNeg) mem318) (fun _ mem323 =>
    zlet (wr mem323 0 7 (0 : Int32)) (fun mem324 =>
    some ((mem324 11 4), mem324))))))))
def f_X4_stops_33 (N : Nat) : Nat → zMem → Int32 → Int32 → Int32 → Int32 → Option (Int32 × zMem)
  | 0, _, _, _, _, _ => none
  | n + 1, mem, x1, x2, x3, x4 =>
    (if (mem 6 4) ≤ x4 then
    some ((-1 : Int32), mem)
    else
    zb (f_X4_isIn N mem x4 (mem 11 1)) (fun r326 mem326 =>
    (if r326 = 0 then
    zb (f_X4_sermonOf N mem326 (x2 ||| ((1 : Int32) <<< (x4 &&& 31)))) (fun r328 mem328 =>
    zb (f_X4_hangsLevel N mem328 r328 x1) (fun r329 mem329 =>
    (if r329 = 0 then
    f_X4_stops_33 N n mem329 x1 (x2 ||| ((1 : Int32) <<< (x4 &&& 31))) (x3 + 1) (x4 + 1)
    else
    some ((x3 + 1), mem329))))
    else
    f_X4_stops_33 N n mem326 x1 x2 x3 (x4 + 1))))
def f_X4_stops (N : Nat) (mem : zMem) : Option (Int32 × zMem) :=
    zb (f_X4_leadNow N mem) (fun r331 mem331 =>
    zb (f_X4_sermonOf N mem331 (mem331 11 1)) (fun r332 mem332 =>
    zb (f_X4_hangsLevel N mem332 r332 r331) (fun r333 mem333 =>
    (if r333 = 0 then
    f_X4_stops_33 N N mem333 r331 (mem331 11 1) (0 : Int32) (0 : Int32)
    else
    some ((0 : Int32), mem333)))))
def f_X4_levels (N : Nat) (mem : zMem) (a1 : Int32) (a2 : Int32) : Option (Int32 × zMem) :=
    (if (a1 &&& (mem 11 1)) = 0 then
    zb (f_X4_sermonOf N mem ((mem 11 1) ||| a1)) (fun r336 mem336 =>
    zb (f_X4_hangsLevel N mem336 r336 a2) (fun r337 mem337 =>
    (if r337 = 0 then
    some ((0 : Int32), mem337)
    else
    some ((1 : Int32), mem337))))
    else
    some ((0 : Int32), mem))
def f_J6_bitCount_0f7a4 (N : Nat) (mem : zMem) (a1 : Int32) : Option (Int32 × zMem) :=
    some (((((((((a1 - ((a1.toUInt32 >>> ((1 : Int32).toUInt32 &&& Int32.toUInt32 31)).toInt32 &&& (1431655765 : Int32))) &&& (858993459 : Int32)) + (((a1 - ((a1.toUInt32 >>> ((1 : Int32).toUInt32 &&& Int32.toUInt32 31)).toInt32 &&& (1431655765 : Int32))).toUInt32 >>> ((2 : Int32).toUInt32 &&& Int32.toUInt32 31)).toInt32 &&& (858993459 : Int32))) + ((((a1 - ((a1.toUInt32 >>> ((1 : Int32).toUInt32 &&& Int32.toUInt32 31)).toInt32 &&& (1431655765 : Int32))) &&& (858993459 : Int32)) + (((a1 - ((a1.toUInt32 >>> ((1 : Int32).toUInt32 &&& Int32.toUInt32 31)).toInt32 &&& (1431655765 : Int32))).toUInt32 >>> ((2 : Int32).toUInt32 &&& Int32.toUInt32 31)).toInt32 &&& (858993459 : Int32))).toUInt32 >>> ((4 : Int32).toUInt32 &&& Int32.toUInt32 31)).toInt32) &&& (252645135 : Int32)) + ((((((a1 - ((a1.toUInt32 >>> ((1 : Int32).toUInt32 &&& Int32.toUInt32 31)).toInt32 &&& (1431655765 : Int32))) &&& (858993459 : Int32)) + (((a1 - ((a1.toUInt32 >>> ((1 : Int32).toUInt32 &&& Int32.toUInt32 31)).toInt32 &&& (1431655765 : Int32))).toUInt32 >>> ((2 : Int32).toUInt32 &&& Int32.toUInt32 31)).toInt32 &&& (858993459 : Int32))) + ((((a1 - ((a1.toUInt32 >>> ((1 : Int32).toUInt32 &&& Int32.toUInt32 31)).toInt32 &&& (1431655765 : Int32))) &&& (858993459 : Int32)) + (((a1 - ((a1.toUInt32 >>> ((1 : Int32).toUInt32 &&& Int32.toUInt32 31)).toInt32 &&& (1431655765 : Int32))).toUInt32 >>> ((2 : Int32).toUInt32 &&& Int32.toUInt32 31)).toInt32 &&& (858993459 : Int32))).toUInt32 >>> ((4 : Int32).toUInt32 &&& Int32.toUInt32 31)).toInt32) &&& (252645135 : Int32)).toUInt32 >>> ((8 : Int32).toUInt32 &&& Int32.toUInt32 31)).toInt32) + (((((((a1 - ((a1.toUInt32 >>> ((1 : Int32).toUInt32 &&& Int32.toUInt32 31)).toInt32 &&& (1431655765 : Int32))) &&& (858993459 : Int32)) + (((a1 - ((a1.toUInt32 >>> ((1 : Int32).toUInt32 &&& Int32.toUInt32 31)).toInt32 &&& (1431655765 : Int32))).toUInt32 >>> ((2 : Int32).toUInt32 &&& Int32.toUInt32 31)).toInt32 &&& (858993459 : Int32))) + ((((a1 - ((a1.toUInt32 >>> ((1 : Int32).toUInt32 &&& Int32.toUInt32 31)).toInt32 &&& (1431655765 : Int32))) &&& (858993459 : Int32)) + (((a1 - ((a1.toUInt32 >>> ((1 : Int32).toUInt32 &&& Int32.toUInt32 31)).toInt32 &&& (1431655765 : Int32))).toUInt32 >>> ((2 : Int32).toUInt32 &&& Int32.toUInt32 31)).toInt32 &&& (858993459 : Int32))).toUInt32 >>> ((4 : Int32).toUInt32 &&& Int32.toUInt32 31)).toInt32) &&& (252645135 : Int32)) + ((((((a1 - ((a1.toUInt32 >>> ((1 : Int32).toUInt32 &&& Int32.toUInt32 31)).toInt32 &&& (1431655765 : Int32))) &&& (858993459 : Int32)) + (((a1 - ((a1.toUInt32 >>> ((1 : Int32).toUInt32 &&& Int32.toUInt32 31)).toInt32 &&& (1431655765 : Int32))).toUInt32 >>> ((2 : Int32).toUInt32 &&& Int32.toUInt32 31)).toInt32 &&& (858993459 : Int32))) + ((((a1 - ((a1.toUInt32 >>> ((1 : Int32).toUInt32 &&& Int32.toUInt32 31)).toInt32 &&& (1431655765 : Int32))) &&& (858993459 : Int32)) + (((a1 - ((a1.toUInt32 >>> ((1 : Int32).toUInt32 &&& Int32.toUInt32 31)).toInt32 &&& (1431655765 : Int32))).toUInt32 >>> ((2 : Int32).toUInt32 &&& Int32.toUInt32 31)).toInt32 &&& (858993459 : Int32))).toUInt32 >>> ((4 : Int32).toUInt32 &&& Int32.toUInt32 31)).toInt32) &&& (252645135 : Int32)).toUInt32 >>> ((8 : Int32).toUInt32 &&& Int32.toUInt32 31)).toInt32).toUInt32 >>> ((16 : Int32).toUInt32 &&& Int32.toUInt32 31)).toInt32) &&& (63 : Int32)), mem)
def f_X4_isSooner (N : Nat) (mem : zMem) (a1 : Int32) (a2 : Int32) : Option (Int32 × zMem) :=
    zb (f_X1_minutesOf N mem a1) (fun r339 mem339 =>
    zb (f_X1_minutesOf N mem339 a2) (fun r340 mem340 =>
    (if r339 = r340 then
    zb (f_J6_bitCount_0f7a4 N mem340 a1) (fun r342 mem342 =>
    zb (f_J6_bitCount_0f7a4 N mem342 a2) (fun r343 mem343 =>
    (if r343 ≤ r342 then
    some ((0 : Int32), mem343)
    else
    some ((1 : Int32), mem343))))
    else
    (if r340 ≤ r339 then
    some ((0 : Int32), mem340)
    else
    some ((1 : Int32), mem340)))))
def f_X4_soonestSet_9 (N : Nat) : Nat → zMem → Int32 → Int32 → Int32 → Option (Int32 × zMem)
  | 0, _, _, _, _ => none
  | n + 1, mem, x1, x2, x3 =>
    (if ((1 : Int32) <<< ((mem 6 4) &&& 31)) ≤ x3 then
    some (x2, mem)
    else
    zb (f_X4_levels N mem x3 x1) (fun r347 mem347 =>
    (if r347 = 0 then
    f_X4_soonestSet_9 N n mem347 x1 x2 (x3 + 1)
    else
    (if x2 = (-1 : Int32) then
    f_X4_soonestSet_9 N n mem347 x1 x3 (x3 + 1)
    else
    zb (f_X4_isSooner N mem347 x3 x2) (fun r350 mem350 =>
    (if r350 = 0 then
    f_X4_soonestSet_9 N n mem350 x1 x2 (x3 + 1)
    else
    f_X4_soonestSet_9 N n mem350 x1 x3 (x3 + 1)))))))
def f_X4_soonestSet (N : Nat) (mem : zMem) : Option (Int32 × zMem) :=
    zb (f_X4_leadNow N mem) (fun r352 mem352 =>
    f_X4_soonestSet_9 N N mem352 r352 (-1 : Int32) (0 : Int32))
def f_X4_soonest (N : Nat) (mem : zMem) (a1 : Int32) : Option (Int32 × zMem) :=
    zb (f_X4_isWithin N mem a1 (0 : Int32) (1 : Int32)) (fun r353 mem353 =>
    (if r353 = 0 then
    some ((-3 : Int32), mem353)
    else
    zb (f_X4_soonestSet N mem353) (fun r355 mem355 =>
    (if r355 = (-1 : Int32) then
    some ((-1 : Int32), mem355)
    else
    (if a1 = 0 then
    some (r355, mem355)
    else
    zb (f_X1_minutesOf N mem355 r355) (fun r358 mem358 =>
    some (r358, mem358)))))))
def f_X4_never_15 (N : Nat) : Nat → zMem → Int32 → Int32 → Option (Int32 × zMem)
  | 0, _, _, _ => none
  | n + 1, mem, x1, x2 =>
    (if ((1 : Int32) <<< ((mem 6 4) &&& 31)) ≤ x2 then
    some ((1 : Int32), mem)
    else
    zb (f_X4_levels N mem x2 x1) (fun r360 mem360 =>
    (if r360 = 0 then
    f_X4_never_15 N n mem360 x1 (x2 + 1)
    else
    some ((0 : Int32), mem360))))
def f_X4_never (N : Nat) (mem : zMem) (a1 : Int32) : Option (Int32 × zMem) :=
    zb (f_X4_isWithin N mem a1 (0 : Int32) (99 : Int32)) (fun r362 mem362 =>
    (if r362 = 0 then
    some ((-3 : Int32), mem362)
    else
    f_X4_never_15 N N mem362 a1 (0 : Int32)))
def f_X4_isSet (N : Nat) (mem : zMem) (a1 : Int32) : Option (Int32 × zMem) :=
    (if a1 < 0 then
    some ((0 : Int32), mem)
    else
    (if ((1 : Int32) <<< ((mem 6 4) &&& 31)) ≤ a1 then
    some ((0 : Int32), mem)
    else
    some ((1 : Int32), mem)))
def f_X4_seen (N : Nat) (mem : zMem) (a1 : Int32) (a2 : Int32) (a3 : Int32) : Option (Int32 × zMem) :=
    zb (f_X4_isSet N mem a1) (fun r366 mem366 =>
    (if r366 = 0 then
    some ((-2 : Int32), mem366)
    else
    zb (f_X4_isWithin N mem366 a2 (0 : Int32) (9 : Int32)) (fun r368 mem368 =>
    (if r368 = 0 then
    some ((-3 : Int32), mem368)
    else
    zb (f_X4_isWithin N mem368 a3 (0 : Int32) (255 : Int32)) (fun r370 mem370 =>
    (if r370 = 0 then
    some ((-3 : Int32), mem370)
    else
    zb (f_X0_addSeen N mem370 a1 a2 a3) (fun r372 mem372 =>
    (if r372 = 0 then
    some ((-5 : Int32), mem372)
    else
    some ((mem372 36 7), mem372)))))))))
def f_X4_heard_49 (N : Nat) (mem : zMem) (s1 : Int32) (s2 : Int32) (s3 : Int32) : Option (Int32 × zMem) :=
    zb (f_X0_addHeard N mem s1 s2 s3 (mem 11 3)) (fun r374 mem374 =>
    (if r374 = 0 then
    some ((-5 : Int32), mem374)
    else
    some ((mem374 36 8), mem374)))
def f_X4_heard (N : Nat) (mem : zMem) (a1 : Int32) (a2 : Int32) (a3 : Int32) : Option (Int32 × zMem) :=
    zb (f_X4_isSet N mem a1) (fun r376 mem376 =>
    (if r376 = 0 then
    some ((-2 : Int32), mem376)
    else
    zb (f_X4_isWithin N mem376 a2 (0 : Int32) (99 : Int32)) (fun r378 mem378 =>
    (if r378 = 0 then
    some ((-3 : Int32), mem378)
    else
    zb (f_X4_isWithin N mem378 a3 (0 : Int32) (1 : Int32)) (fun r380 mem380 =>
    (if r380 = 0 then
    some ((-3 : Int32), mem380)
    else
    (if a3 = (1 : Int32) then
    f_X4_heard_49 N mem380 a1 a2 (1 : Int32)
    else
    f_X4_heard_49 N mem380 a1 a2 (0 : Int32))))))))
def f_X4_forget (N : Nat) (mem : zMem) : Option (Int32 × zMem) :=
    zb (f_X0_clear N mem) (fun _ mem383 =>
    some (((mem 36 7) + (mem 36 8)), mem383))
def f_X4_fitsAllSeen_2 (N : Nat) : Nat → zMem → Int32 → Int32 → Int32 → Option (Int32 × zMem)
  | 0, _, _, _, _ => none
  | n + 1, mem, x1, x2, x3 =>
    (if (mem 36 7) ≤ x3 then
    some ((1 : Int32), mem)
    else
    zgd (zin x3 6) (zgd (zin x3 6) (zb (f_X1_ouncesOfSet N mem ((mem 37 x3.toNatClampNeg) &&& (((1 : Int32) <<< (x1 &&& 31)) ^^^ (-1 : Int32))) (mem 38 x3.toNatClampNeg)) (fun r387 mem387 =>
    zb (f_X4_isIn N mem387 x1 (mem 37 x3.toNatClampNeg)) (fun r388 mem388 =>
    (if r388 = 0 then
    zgd (zin x3 6) ((if r387 = (mem388 39 x3.toNatClampNeg) then
    f_X4_fitsAllSeen_2 N n mem388 x1 x2 (x3 + 1)
    else
    some ((0 : Int32), mem388)))
    else
    zgd (zin x1 8) (zb (f_X4_ouncesOf N mem388 (mem388 7 x1.toNatClampNeg) x2 (mem 38 x3.toNatClampNeg)) (fun r393 mem393 =>
    zgd (zin x3 6) ((if (r387 + r393) = (mem393 39 x3.toNatClampNeg) then
    f_X4_fitsAllSeen_2 N n mem393 x1 x2 (x3 + 1)
    else
    some ((0 : Int32), mem393)))))))))))
def f_X4_fitsAllSeen (N : Nat) (mem : zMem) (a1 : Int32) (a2 : Int32) : Option (Int32 × zMem) :=
    f_X4_fitsAllSeen_2 N N mem a1 a2 (0 : Int32)
def f_X4_weights_15 (N : Nat) : Nat → zMem → Int32 → Int32 → Int32 → Option (Int32 × zMem)
  | 0, _, _, _, _ => none
  | n + 1, mem, x1, x2, x3 =>
    (if (20 : Int32) < x3 then
    some (x2, mem)
    else
    zb (f_X4_fitsAllSeen N mem x1 x3) (fun r397 mem397 =>
    (if r397 = 0 then
    f_X4_weights_15 N n mem397 x1 x2 (x3 + 1)
    else
    f_X4_weights_15 N n mem397 x1 (x2 ||| ((1 : Int32) <<< (x3 &&& 31))) (x3 + 1))))
def f_X4_weights (N : Nat) (mem : zMem) (a1 : Int32) : Option (Int32 × zMem) :=
    zb (f_X4_isPart N mem a1) (fun r399 mem399 =>
    (if r399 = 0 then
    some ((-2 : Int32), mem399)
    else
    f_X4_weights_15 N N mem399 a1 (0 : Int32) (0 : Int32)))
def f_X4_fitsAllHeard_2 (N : Nat) : Nat → zMem → Int32 → Int32 → Option (Int32 × zMem)
  | 0, _, _, _ => none
  | n + 1, mem, x1, x2 =>
    (if (mem 36 8) ≤ x2 then
    some ((1 : Int32), mem)
    else
    zgd (zin x2 6) (zgd (zin x2 6) (zb (f_X1_ouncesOfSet N mem (mem 40 x2.toNatClampNeg) (mem 42 x2.toNatClampNeg)) (fun r404 mem404 =>
    zgd (zin x2 6) (zb (f_X4_hangsLevel N mem404 (r404 + x1) (mem404 41 x2.toNatClampNeg)) (fun r406 mem406 =>
    zgd (zin x2 6) ((if r406 = (mem406 43 x2.toNatClampNeg) then
    f_X4_fitsAllHeard_2 N n mem406 x1 (x2 + 1)
    else
    some ((0 : Int32), mem406)))))))))
def f_X4_fitsAllHeard (N : Nat) (mem : zMem) (a1 : Int32) : Option (Int32 × zMem) :=
    f_X4_fitsAllHeard_2 N N mem a1 (0 : Int32)
def f_X4_thumbs_4 (N : Nat) : Nat → zMem → Int32 → Int32 → Option (Int32 × zMem)
  | 0, _, _, _ => none
  | n + 1, mem, x1, x2 =>
    (if (9 : Int32) < x2 then
    some (x1, mem)
    else
    zb (f_X4_fitsAllHeard N mem x2) (fun r410 mem410 =>
    (if r410 = 0 then
    f_X4_thumbs_4 N n mem410 x1 (x2 + 1)
    else
    f_X4_thumbs_4 N n mem410 (x1 ||| ((1 : Int32) <<< (x2 &&& 31))) (x2 + 1))))
def f_X4_thumbs (N : Nat) (mem : zMem) : Option (Int32 × zMem) :=
    f_X4_thumbs_4 N N mem (0 : Int32) (0 : Int32)
def f_X4_waysOfConfessing_5 (N : Nat) : Nat → zMem → Int32 → Int32 → Int32 → Int32 → Option (Int32 × zMem)
  | 0, _, _, _, _, _ => none
  | n + 1, mem, x1, x2, x3, x4 =>
    (if (mem 6 5) ≤ x4 then
    some (x3, mem)
    else
    zb (f_X4_isIn N mem x4 x1) (fun r413 mem413 =>
    (if r413 = 0 then
    f_X4_waysOfConfessing_5 N n mem413 x1 x2 (x3 * ((10 : Int32) - x2)) (x4 + 1)
    else
    f_X4_waysOfConfessing_5 N n mem413 x1 x2 (x3 * x2) (x4 + 1))))
def f_X4_waysOfConfessing (N : Nat) (mem : zMem) (a1 : Int32) (a2 : Int32) : Option (Int32 × zMem) :=
    f_X4_waysOfConfessing_5 N N mem a1 a2 (1 : Int32) (0 : Int32)
def f_X4_greatestDivisor_7 (N : Nat) : Nat → zMem → Int32 → Int32 → Int32 → Option (Int32 × zMem)
  | 0, _, _, _, _ => none
  | n + 1, mem, x2, x3, x4 =>
    (if (64 : Int32) ≤ x4 then
    some (x2, mem)
    else
    (if x3 = 0 then
    some (x2, mem)
    else
    zgd (znz x3) (f_X4_greatestDivisor_7 N n mem x3 (x2 - x2 / x3 * x3) (x4 + 1))))
def f_X4_greatestDivisor (N : Nat) (mem : zMem) (a1 : Int32) (a2 : Int32) : Option (Int32 × zMem) :=
    f_X4_greatestDivisor_7 N N mem a1 a2 (0 : Int32)
def f_X4_confessed_43 (N : Nat) : Nat → zMem → Int32 → Int32 → Int32 → Int32 → Int32 → Int32 → Option (Int32 × zMem)
  | 0, _, _, _, _, _, _, _ => none
  | n + 1, mem, x1, x2, x3, x4, x5, x6 =>
    (if ((1 : Int32) <<< ((mem 6 5) &&& 31)) ≤ x6 then
    zb (f_X4_greatestDivisor N mem x4 x5) (fun r419 mem419 =>
    (if x2 = 0 then
    zgd (znz (if r419 < (1 : Int32) then (1 : Int32) else r419)) (some ((x4 / (if r419 < (1 : Int32) then (1 : Int32) else r419)), mem419))
    else
    zgd (znz (if r419 < (1 : Int32) then (1 : Int32) else r419)) (some ((x5 / (if r419 < (1 : Int32) then (1 : Int32) else r419)), mem419))))
    else
    zb (f_X4_waysOfConfessing N mem x6 x1) (fun r423 mem423 =>
    zb (f_X4_leadWithout N mem423 x6) (fun r424 mem424 =>
    zb (f_X4_hangsLevel N mem424 x3 r424) (fun r425 mem425 =>
    (if r425 = 0 then
    f_X4_confessed_43 N n mem425 x1 x2 x3 x4 (x5 + r423) (x6 + 1)
    else
    f_X4_confessed_43 N n mem425 x1 x2 x3 (x4 + r423) (x5 + r423) (x6 + 1))))))
def f_X4_confessed (N : Nat) (mem : zMem) (a1 : Int32) (a2 : Int32) : Option (Int32 × zMem) :=
    zb (f_X4_isWithin N mem a1 (0 : Int32) (10 : Int32)) (fun r427 mem427 =>
    (if r427 = 0 then
    some ((-3 : Int32), mem427)
    else
    zb (f_X4_isWithin N mem427 a2 (0 : Int32) (1 : Int32)) (fun r429 mem429 =>
    (if r429 = 0 then
    some ((-3 : Int32), mem429)
    else
    zb (f_X4_sermonOf N mem429 (mem429 11 1)) (fun r431 mem431 =>
    f_X4_confessed_43 N N mem431 a1 a2 r431 (0 : Int32) (0 : Int32) (0 : Int32))))))
def f_X4_count (N : Nat) (mem : zMem) (a1 : Int32) : Option (Int32 × zMem) :=
    (if a1 = 0 then
    some ((mem 6 4), mem)
    else
(if a1 = 1 then
    some ((mem 6 5), mem)
    else
(if a1 = 2 then
    some ((mem 11 4), mem)
    else
(if a1 = 3 then
    zb (f_X4_sermonOf N mem (mem 11 1)) (fun r436 mem436 =>
    some (r436, mem436))
    else
(if a1 = 4 then
    zb (f_X4_leadNow N mem) (fun r438 mem438 =>
    some (r438, mem438))
    else
(if a1 = 5 then
    zb (f_X4_hangsLevelNow N mem) (fun r440 mem440 =>
    (if r440 = 0 then
    some ((0 : Int32), mem440)
    else
    some ((1 : Int32), mem440)))
    else
(if a1 = 6 then
    some ((mem 11 1), mem)
    else
(if a1 = 7 then
    some ((mem 11 5), mem)
    else
(if a1 = 8 then
    some ((mem 11 6), mem)
    else
(if a1 = 9 then
    some ((mem 11 2), mem)
    else
(if a1 = 10 then
    some ((mem 11 3), mem)
    else
(if a1 = 11 then
    some ((mem 36 7), mem)
    else
(if a1 = 12 then
    some ((mem 36 8), mem)
    else
(if a1 = 13 then
    some ((mem 0 7), mem)
    else
(if a1 = 14 then
    some ((mem 1 4), mem)
    else
    some ((-3 : Int32), mem))))))))))))))))
def f_X5_in (N : Nat) (mem : zMem) (a1 : Int32) (a2 : Int32) (a3 : Int32) : Option (Int32 × zMem) :=
    (if a1 < a2 then
    some ((0 : Int32), mem)
    else
    (if a3 < a1 then
    some ((0 : Int32), mem)
    else
    some ((1 : Int32), mem)))
def f_X5_isPart (N : Nat) (mem : zMem) (a1 : Int32) : Option (Int32 × zMem) :=
    zb (f_X5_in N mem a1 (0 : Int32) ((mem 46 (0 : Int32).toNatClampNeg) - (1 : Int32))) (fun r453 mem453 =>
    zgd (zbo r453) (some (r453, mem453)))
def f_X5_isSet (N : Nat) (mem : zMem) (a1 : Int32) : Option (Int32 × zMem) :=
    zb (f_X5_in N mem a1 (0 : Int32) (((1 : Int32) <<< ((mem 46 (0 : Int32).toNatClampNeg) &&& 31)) - (1 : Int32))) (fun r455 mem455 =>
    zgd (zbo r455) (some (r455, mem455)))
def f_X5_write (N : Nat) (mem : zMem) (a1 : Int32) : Option (Int32 × zMem) :=
    zb (f_X5_in N mem a1 (0 : Int32) (255 : Int32)) (fun r457 mem457 =>
    (if r457 = 0 then
    some ((-3 : Int32), mem457)
    else
    (if (mem457 44 1) = (160 : Int32) then
    some ((-5 : Int32), mem457)
    else
    zgd (zin (mem457 44 1) 160) (zlet (wr mem457 45 (mem457 44 1).toNatClampNeg a1) (fun mem461 =>
    zlet (wr mem461 44 1 ((mem461 44 1) + (1 : Int32))) (fun mem462 =>
    some ((mem462 44 1), mem462)))))))
def f_X5_erase (N : Nat) (mem : zMem) : Option (Int32 × zMem) :=
    zlet (wr mem 44 1 (0 : Int32)) (fun mem463 =>
    some ((mem 44 1), mem463))
def f_X5_letterAt (N : Nat) (mem : zMem) (a1 : Int32) : Option (Int32 × zMem) :=
    (if (mem 44 1) ≤ a1 then
    some ((-1 : Int32), mem)
    else
    zgd (zin a1 160) (some ((mem 45 a1.toNatClampNeg), mem)))
def f_X5_isLetter (N : Nat) (mem : zMem) (a1 : Int32) : Option (Int32 × zMem) :=
    zb (f_X5_in N mem a1 (97 : Int32) (122 : Int32)) (fun r466 mem466 =>
    zgd (zbo r466) (some (r466, mem466)))
def f_X5_isDigit (N : Nat) (mem : zMem) (a1 : Int32) : Option (Int32 × zMem) :=
    zb (f_X5_in N mem a1 (48 : Int32) (57 : Int32)) (fun r468 mem468 =>
    zgd (zbo r468) (some (r468, mem468)))
def f_X5_token_195 (N : Nat) (mem : zMem) : Option (Unit × zMem) :=
    (if (mem 44 14) = (3 : Int32) then
    zlet (wr mem 44 13 ((mem 44 13) + (1 : Int32))) (fun mem472 =>
    some ((), mem472))
    else
    zlet (wr mem 44 13 ((mem 44 13) + (0 : Int32))) (fun mem471 =>
    some ((), mem471)))
def f_X5_token_118 (N : Nat) : Nat → zMem → Option (Unit × zMem)
  | 0, _ => none
  | n + 1, mem =>
    (if (mem 44 14) = (2 : Int32) then
    zb (f_X5_letterAt N mem (mem 44 13)) (fun r474 mem474 =>
    zb (f_X5_isDigit N mem474 r474) (fun r475 mem475 =>
    (if r475 = 0 then
    f_X5_token_195 N mem475
    else
    (if (2 : Int32) ≤ ((mem475 44 13) - (mem475 44 15)) then
    zlet (wr mem475 44 16 (100 : Int32)) (fun mem478 =>
    zlet (wr mem478 44 13 ((mem478 44 13) + (1 : Int32))) (fun mem479 =>
    f_X5_token_118 N n mem479))
    else
    zgd (zin (mem475 44 13) 160) (zlet (wr mem475 44 16 ((((10 : Int32) * (mem475 44 16)) + (mem475 45 (mem475 44 13).toNatClampNeg)) - (48 : Int32))) (fun mem481 =>
    zlet (wr mem481 44 13 ((mem481 44 13) + (1 : Int32))) (fun mem482 =>
    f_X5_token_118 N n mem482)))))))
    else
    f_X5_token_195 N mem)
def f_X5_token_83 (N : Nat) : Nat → zMem → Option (Unit × zMem)
  | 0, _ => none
  | n + 1, mem =>
    (if (mem 44 14) = (1 : Int32) then
    zb (f_X5_letterAt N mem (mem 44 13)) (fun r484 mem484 =>
    zb (f_X5_isLetter N mem484 r484) (fun r485 mem485 =>
    (if r485 = 0 then
    f_X5_token_118 N N mem485
    else
    zlet (wr mem485 44 13 ((mem485 44 13) + (1 : Int32))) (fun mem487 =>
    f_X5_token_83 N n mem487))))
    else
    f_X5_token_118 N N mem)
def f_X5_token_75 (N : Nat) (mem : zMem) (s1 : Int32) : Option (Unit × zMem) :=
    zlet (wr mem 44 14 s1) (fun mem488 =>
    zlet (wr mem488 44 16 (0 : Int32)) (fun mem489 =>
    f_X5_token_83 N N mem489))
def f_X5_token_0 (N : Nat) : Nat → zMem → Option (Unit × zMem)
  | 0, _ => none
  | n + 1, mem =>
    zb (f_X5_letterAt N mem (mem 44 13)) (fun r490 mem490 =>
    (if r490 = (32 : Int32) then
    zlet (wr mem490 44 13 ((mem490 44 13) + (1 : Int32))) (fun mem499 =>
    f_X5_token_0 N n mem499)
    else
    zlet (wr mem490 44 15 (mem490 44 13)) (fun mem492 =>
    zb (f_X5_letterAt N mem492 (mem492 44 13)) (fun r493 mem493 =>
    (if 0 ≤ r493 then
    zb (f_X5_isLetter N mem493 r493) (fun r495 mem495 =>
    (if r495 = 0 then
    zb (f_X5_isDigit N mem495 r493) (fun r497 mem497 =>
    (if r497 = 0 then
    f_X5_token_75 N mem497 (3 : Int32)
    else
    f_X5_token_75 N mem497 (2 : Int32)))
    else
    f_X5_token_75 N mem495 (1 : Int32)))
    else
    f_X5_token_75 N mem493 (0 : Int32))))))
def f_X5_token (N : Nat) (mem : zMem) : Option (Unit × zMem) :=
    f_X5_token_0 N N mem
def f_X5_isWord_32 (N : Nat) : Nat → zMem → Int32 → Int32 → Int32 → Int32 → Int32 → Int32 → Int32 → Option (Int32 × zMem)
  | 0, _, _, _, _, _, _, _, _ => none
  | n + 1, mem, x1, x2, x3, x4, x5, x6, x7 =>
    (if (5 : Int32) ≤ x7 then
    zgd (zbo x6) (some (x6, mem))
    else
    (if x6 = 0 then
    zgd (zbo x6) (some (x6, mem))
    else
    (if x7 = 0 then
    (if (mem 44 13) ≤ ((mem 44 15) + x7) then
    (if x1 = 0 then
    f_X5_isWord_32 N n mem x1 x2 x3 x4 x5 (1 : Int32) (x7 + 1)
    else
    f_X5_isWord_32 N n mem x1 x2 x3 x4 x5 (0 : Int32) (x7 + 1))
    else
    zgd (zin ((mem 44 15) + x7) 160) ((if (mem 45 ((mem 44 15) + x7).toNatClampNeg) = x1 then
    f_X5_isWord_32 N n mem x1 x2 x3 x4 x5 (1 : Int32) (x7 + 1)
    else
    f_X5_isWord_32 N n mem x1 x2 x3 x4 x5 (0 : Int32) (x7 + 1))))
    else
    (if x7 = (1 : Int32) then
    (if (mem 44 13) ≤ ((mem 44 15) + x7) then
    (if x2 = 0 then
    f_X5_isWord_32 N n mem x1 x2 x3 x4 x5 (1 : Int32) (x7 + 1)
    else
    f_X5_isWord_32 N n mem x1 x2 x3 x4 x5 (0 : Int32) (x7 + 1))
    else
    zgd (zin ((mem 44 15) + x7) 160) ((if (mem 45 ((mem 44 15) + x7).toNatClampNeg) = x2 then
    f_X5_isWord_32 N n mem x1 x2 x3 x4 x5 (1 : Int32) (x7 + 1)
    else
    f_X5_isWord_32 N n mem x1 x2 x3 x4 x5 (0 : Int32) (x7 + 1))))
    else
    (if x7 = (2 : Int32) then
    (if (mem 44 13) ≤ ((mem 44 15) + x7) then
    (if x3 = 0 then
    f_X5_isWord_32 N n mem x1 x2 x3 x4 x5 (1 : Int32) (x7 + 1)
    else
    f_X5_isWord_32 N n mem x1 x2 x3 x4 x5 (0 : Int32) (x7 + 1))
    else
    zgd (zin ((mem 44 15) + x7) 160) ((if (mem 45 ((mem 44 15) + x7).toNatClampNeg) = x3 then
    f_X5_isWord_32 N n mem x1 x2 x3 x4 x5 (1 : Int32) (x7 + 1)
    else
    f_X5_isWord_32 N n mem x1 x2 x3 x4 x5 (0 : Int32) (x7 + 1))))
    else
    (if x7 = (3 : Int32) then
    (if (mem 44 13) ≤ ((mem 44 15) + x7) then
    (if x4 = 0 then
    f_X5_isWord_32 N n mem x1 x2 x3 x4 x5 (1 : Int32) (x7 + 1)
    else
    f_X5_isWord_32 N n mem x1 x2 x3 x4 x5 (0 : Int32) (x7 + 1))
    else
    zgd (zin ((mem 44 15) + x7) 160) ((if (mem 45 ((mem 44 15) + x7).toNatClampNeg) = x4 then
    f_X5_isWord_32 N n mem x1 x2 x3 x4 x5 (1 : Int32) (x7 + 1)
    else
    f_X5_isWord_32 N n mem x1 x2 x3 x4 x5 (0 : Int32) (x7 + 1))))
    else
    (if (mem 44 13) ≤ ((mem 44 15) + x7) then
    (if x5 = 0 then
    f_X5_isWord_32 N n mem x1 x2 x3 x4 x5 (1 : Int32) (x7 + 1)
    else
    f_X5_isWord_32 N n mem x1 x2 x3 x4 x5 (0 : Int32) (x7 + 1))
    else
    zgd (zin ((mem 44 15) + x7) 160) ((if (mem 45 ((mem 44 15) + x7).toNatClampNeg) = x5 then
    f_X5_isWord_32 N n mem x1 x2 x3 x4 x5 (1 : Int32) (x7 + 1)
    else
    f_X5_isWord_32 N n mem x1 x2 x3 x4 x5 (0 : Int32) (x7 + 1))))))))))
def f_X5_isWord_27 (N : Nat) (mem : zMem) (x1 : Int32) (x2 : Int32) (x3 : Int32) (x4 : Int32) (x5 : Int32) (s0 : Int32) : Option (Int32 × zMem) :=
    f_X5_isWord_32 N N mem x1 x2 x3 x4 x5 s0 (0 : Int32)
def f_X5_isWord_26 (N : Nat) (mem : zMem) (x1 : Int32) (x2 : Int32) (x3 : Int32) (x4 : Int32) (x5 : Int32) : Option (Int32 × zMem) :=
    f_X5_isWord_27 N mem x1 x2 x3 x4 x5 (0 : Int32)
def f_X5_isWord (N : Nat) (mem : zMem) (a1 : Int32) (a2 : Int32) (a3 : Int32) (a4 : Int32) (a5 : Int32) : Option (Int32 × zMem) :=
    (if (mem 44 14) = (1 : Int32) then
    (if (6 : Int32) ≤ ((mem 44 13) - (mem 44 15)) then
    f_X5_isWord_26 N mem a1 a2 a3 a4 a5
    else
    f_X5_isWord_27 N mem a1 a2 a3 a4 a5 (1 : Int32))
    else
    f_X5_isWord_26 N mem a1 a2 a3 a4 a5)
def f_X5_number (N : Nat) (mem : zMem) (a1 : Int32) (a2 : Int32) (a3 : Int32) : Option (Int32 × zMem) :=
    zb (f_X5_token N mem) (fun _ mem530 =>
    zgd (zin a1 35) (zlet (wr mem530 47 a1.toNatClampNeg (mem530 44 16)) (fun mem532 =>
    (if (mem532 44 14) = (2 : Int32) then
    zb (f_X5_in N mem532 (mem532 44 16) a2 a3) (fun r534 mem534 =>
    (if r534 = 0 then
    some ((0 : Int32), mem534)
    else
    some ((1 : Int32), mem534)))
    else
    some ((0 : Int32), mem532)))))
def f_X5_forgets_2 (N : Nat) : Nat → zMem → Int32 → Option (Unit × zMem)
  | 0, _, _ => none
  | n + 1, mem, x1 =>
    (if (35 : Int32) ≤ x1 then
    zlet (wr mem 47 (3 : Int32).toNatClampNeg (1 : Int32)) (fun mem537 =>
    some ((), mem537))
    else
    zgd (zin x1 35) (zlet (wr mem 47 x1.toNatClampNeg (0 : Int32)) (fun mem539 =>
    f_X5_forgets_2 N n mem539 (x1 + 1))))
def f_X5_forgets (N : Nat) (mem : zMem) : Option (Unit × zMem) :=
    f_X5_forgets_2 N N mem (0 : Int32)
def f_X5_readsPart (N : Nat) (mem : zMem) (a1 : Int32) : Option (Int32 × zMem) :=
    (if (mem 47 (0 : Int32).toNatClampNeg) = (8 : Int32) then
    some ((0 : Int32), mem)
    else
    zb (f_X5_number N mem ((13 : Int32) + (mem 47 (0 : Int32).toNatClampNeg)) (0 : Int32) (20 : Int32)) (fun r541 mem541 =>
    (if r541 = 0 then
    some ((0 : Int32), mem541)
    else
    zb (f_X5_number N mem541 ((21 : Int32) + (mem 47 (0 : Int32).toNatClampNeg)) (1 : Int32) (30 : Int32)) (fun r543 mem543 =>
    (if r543 = 0 then
    some ((0 : Int32), mem543)
    else
    zgd (zin ((5 : Int32) + (mem 47 (0 : Int32).toNatClampNeg)) 35) (zlet (wr mem543 47 ((5 : Int32) + (mem 47 (0 : Int32).toNatClampNeg)).toNatClampNeg a1) (fun mem546 =>
    zlet (wr mem546 47 (0 : Int32).toNatClampNeg ((mem546 47 (0 : Int32).toNatClampNeg) + (1 : Int32))) (fun mem547 =>
    some ((1 : Int32), mem547)))))))))
def f_X5_readsSoul (N : Nat) (mem : zMem) : Option (Int32 × zMem) :=
    (if (mem 47 (1 : Int32).toNatClampNeg) = (6 : Int32) then
    some ((0 : Int32), mem)
    else
    zb (f_X5_number N mem ((29 : Int32) + (mem 47 (1 : Int32).toNatClampNeg)) (0 : Int32) (40 : Int32)) (fun r549 mem549 =>
    (if r549 = 0 then
    some ((0 : Int32), mem549)
    else
    zlet (wr mem549 47 (1 : Int32).toNatClampNeg ((mem549 47 (1 : Int32).toNatClampNeg) + (1 : Int32))) (fun mem551 =>
    some ((1 : Int32), mem551)))))
def f_X5_readsClause (N : Nat) (mem : zMem) : Option (Int32 × zMem) :=
    zb (f_X5_isWord N mem (107 : Int32) (105 : Int32) (114 : Int32) (107 : Int32) (0 : Int32)) (fun r552 mem552 =>
    (if r552 = 0 then
    zb (f_X5_isWord N mem552 (119 : Int32) (111 : Int32) (114 : Int32) (100 : Int32) (0 : Int32)) (fun r554 mem554 =>
    (if r554 = 0 then
    zb (f_X5_isWord N mem554 (103 : Int32) (114 : Int32) (101 : Int32) (101 : Int32) (107 : Int32)) (fun r556 mem556 =>
    (if r556 = 0 then
    zb (f_X5_isWord N mem556 (113 : Int32) (117 : Int32) (111 : Int32) (116 : Int32) (101 : Int32)) (fun r558 mem558 =>
    (if r558 = 0 then
    zb (f_X5_isWord N mem558 (112 : Int32) (115 : Int32) (97 : Int32) (108 : Int32) (109 : Int32)) (fun r560 mem560 =>
    (if r560 = 0 then
    zb (f_X5_isWord N mem560 (115 : Int32) (111 : Int32) (117 : Int32) (108 : Int32) (0 : Int32)) (fun r562 mem562 =>
    (if r562 = 0 then
    zb (f_X5_isWord N mem562 (116 : Int32) (104 : Int32) (117 : Int32) (109 : Int32) (98 : Int32)) (fun r564 mem564 =>
    (if r564 = 0 then
    zb (f_X5_isWord N mem564 (98 : Int32) (101 : Int32) (97 : Int32) (109 : Int32) (0 : Int32)) (fun r566 mem566 =>
    (if r566 = 0 then
    zb (f_X5_isWord N mem566 (119 : Int32) (101 : Int32) (116 : Int32) (0 : Int32) (0 : Int32)) (fun r568 mem568 =>
    (if r568 = 0 then
    some ((0 : Int32), mem568)
    else
    zb (f_X5_number N mem568 (4 : Int32) (0 : Int32) (9 : Int32)) (fun r570 mem570 =>
    (if r570 = 0 then
    some ((0 : Int32), mem570)
    else
    some ((1 : Int32), mem570)))))
    else
    zb (f_X5_number N mem566 (3 : Int32) (0 : Int32) (5 : Int32)) (fun r572 mem572 =>
    zgd (zbo r572) (some (r572, mem572)))))
    else
    zb (f_X5_number N mem564 (2 : Int32) (0 : Int32) (9 : Int32)) (fun r574 mem574 =>
    zgd (zbo r574) (some (r574, mem574)))))
    else
    zb (f_X5_readsSoul N mem562) (fun r576 mem576 =>
    zgd (zbo r576) (some (r576, mem576)))))
    else
    zb (f_X5_readsPart N mem560 (3 : Int32)) (fun r578 mem578 =>
    zgd (zbo r578) (some (r578, mem578)))))
    else
    zb (f_X5_readsPart N mem558 (2 : Int32)) (fun r580 mem580 =>
    zgd (zbo r580) (some (r580, mem580)))))
    else
    zb (f_X5_readsPart N mem556 (1 : Int32)) (fun r582 mem582 =>
    zgd (zbo r582) (some (r582, mem582)))))
    else
    zb (f_X5_readsPart N mem554 (0 : Int32)) (fun r584 mem584 =>
    zgd (zbo r584) (some (r584, mem584)))))
    else
    zb (f_X5_forgets N mem552) (fun _ mem586 =>
    some ((1 : Int32), mem586))))
def f_X5_reads_35 (N : Nat) : Nat → zMem → Int32 → Int32 → Option (Int32 × zMem)
  | 0, _, _, _ => none
  | n + 1, mem, x1, x2 =>
    (if x2 = 0 then
    some (x1, mem)
    else
    zb (f_X5_token N mem) (fun _ mem588 =>
    zb (f_X5_readsClause N mem588) (fun r589 mem589 =>
    (if r589 = 0 then
    some ((-1 : Int32), mem589)
    else
    zb (f_X5_token N mem589) (fun _ mem591 =>
    (if (mem591 44 14) = 0 then
    (if (0 : Int32) = 0 then
    f_X5_reads_35 N n mem591 (x1 + 1) (0 : Int32)
    else
    (if (mem591 44 14) = (3 : Int32) then
    zgd (zin (mem591 44 15) 160) ((if (mem591 45 (mem591 44 15).toNatClampNeg) = (59 : Int32) then
    (if (x1 + 1) = (14 : Int32) then
    some ((-1 : Int32), mem591)
    else
    f_X5_reads_35 N n mem591 (x1 + 1) (0 : Int32))
    else
    some ((-1 : Int32), mem591)))
    else
    some ((-1 : Int32), mem591)))
    else
    (if (1 : Int32) = 0 then
    f_X5_reads_35 N n mem591 (x1 + 1) (1 : Int32)
    else
    (if (mem591 44 14) = (3 : Int32) then
    zgd (zin (mem591 44 15) 160) ((if (mem591 45 (mem591 44 15).toNatClampNeg) = (59 : Int32) then
    (if (x1 + 1) = (14 : Int32) then
    some ((-1 : Int32), mem591)
    else
    f_X5_reads_35 N n mem591 (x1 + 1) (1 : Int32))
    else
    some ((-1 : Int32), mem591)))
    else
    some ((-1 : Int32), mem591)))))))))
def f_X5_reads_2 (N : Nat) : Nat → zMem → Int32 → Option (Int32 × zMem)
  | 0, _, _ => none
  | n + 1, mem, x1 =>
    (if (35 : Int32) ≤ x1 then
    zlet (wr mem 44 13 (0 : Int32)) (fun mem604 =>
    f_X5_reads_35 N N mem604 (0 : Int32) (1 : Int32))
    else
    zgd (zin x1 35) (zgd (zin x1 35) (zlet (wr mem 47 x1.toNatClampNeg (mem 46 x1.toNatClampNeg)) (fun mem607 =>
    f_X5_reads_2 N n mem607 (x1 + 1)))))
def f_X5_reads (N : Nat) (mem : zMem) : Option (Int32 × zMem) :=
    f_X5_reads_2 N N mem (0 : Int32)
def f_X5_lays_2 (N : Nat) : Nat → zMem → Int32 → Option (Unit × zMem)
  | 0, _, _ => none
  | n + 1, mem, x1 =>
    (if (12 : Int32) ≤ x1 then
    zlet (wr mem 48 (6 : Int32).toNatClampNeg (mem 46 (4 : Int32).toNatClampNeg)) (fun mem609 =>
    zlet (wr mem609 44 6 (0 : Int32)) (fun mem610 =>
    zlet (wr mem610 44 10 (0 : Int32)) (fun mem611 =>
    zlet (wr mem611 44 12 (0 : Int32)) (fun mem612 =>
    zlet (wr mem612 51 (0 : Int32).toNatClampNeg (vp_nar .boolean (0 : Int32))) (fun mem613 =>
    zlet (wr mem613 51 (1 : Int32).toNatClampNeg (vp_nar .boolean (0 : Int32))) (fun mem614 =>
    some ((), mem614)))))))
    else
    (if (6 : Int32) ≤ x1 then
    zgd (zin x1 12) (zlet (wr mem 48 x1.toNatClampNeg (0 : Int32)) (fun mem617 =>
    f_X5_lays_2 N n mem617 (x1 + 1)))
    else
    zgd (zin ((29 : Int32) + x1) 35) (zgd (zin x1 12) (zlet (wr mem 48 x1.toNatClampNeg (mem 46 ((29 : Int32) + x1).toNatClampNeg)) (fun mem620 =>
    f_X5_lays_2 N n mem620 (x1 + 1))))))
def f_X5_lays (N : Nat) (mem : zMem) : Option (Unit × zMem) :=
    f_X5_lays_2 N N mem (0 : Int32)
def f_X5_fault (N : Nat) (mem : zMem) : Option (Int32 × zMem) :=
    zb (f_X5_reads N mem) (fun r621 mem621 =>
    (if r621 = (-1 : Int32) then
    some ((mem621 44 15), mem621)
    else
    some ((-1 : Int32), mem621)))
def f_X5_kirk_15 (N : Nat) : Nat → zMem → Int32 → Int32 → Option (Int32 × zMem)
  | 0, _, _, _ => none
  | n + 1, mem, x1, x2 =>
    (if (35 : Int32) ≤ x2 then
    zb (f_X5_lays N mem) (fun _ mem624 =>
    zlet (wr mem624 44 1 (0 : Int32)) (fun mem625 =>
    some (x1, mem625)))
    else
    zgd (zin x2 35) (zgd (zin x2 35) (zlet (wr mem 46 x2.toNatClampNeg (mem 47 x2.toNatClampNeg)) (fun mem628 =>
    f_X5_kirk_15 N n mem628 x1 (x2 + 1)))))
def f_X5_kirk (N : Nat) (mem : zMem) : Option (Int32 × zMem) :=
    zb (f_X5_reads N mem) (fun r629 mem629 =>
    (if r629 = (-1 : Int32) then
    some ((-4 : Int32), mem629)
    else
    f_X5_kirk_15 N N mem629 r629 (0 : Int32)))
def f_X5_weighs (N : Nat) (mem : zMem) (a1 : Int32) (a2 : Int32) (a3 : Int32) : Option (Int32 × zMem) :=
    (if a1 = (3 : Int32) then
    some ((0 : Int32), mem)
    else
    (if a1 = (2 : Int32) then
    some ((a2 / (2 : Int32)), mem)
    else
    (if a1 = (1 : Int32) then
    some ((a2 + a3), mem)
    else
    some (a2, mem))))
def f_X5_ounces (N : Nat) (mem : zMem) (a1 : Int32) (a2 : Int32) : Option (Int32 × zMem) :=
    zgd (zin ((5 : Int32) + a1) 35) (zgd (zin ((13 : Int32) + a1) 35) (zb (f_X5_weighs N mem (mem 46 ((5 : Int32) + a1).toNatClampNeg) (mem 46 ((13 : Int32) + a1).toNatClampNeg) a2) (fun r636 mem636 =>
    some (r636, mem636))))
def f_X5_ouncesOf_5 (N : Nat) : Nat → zMem → Int32 → Int32 → Int32 → Int32 → Option (Int32 × zMem)
  | 0, _, _, _, _, _ => none
  | n + 1, mem, x1, x2, x3, x4 =>
    (if (mem 46 (0 : Int32).toNatClampNeg) ≤ x4 then
    some (x3, mem)
    else
    (if ((x1 >>> (x4 &&& 31)) &&& (1 : Int32)) = (1 : Int32) then
    zb (f_X5_ounces N mem x4 x2) (fun r639 mem639 =>
    f_X5_ouncesOf_5 N n mem639 x1 x2 (x3 + r639) (x4 + 1))
    else
    f_X5_ouncesOf_5 N n mem x1 x2 (x3 + (0 : Int32)) (x4 + 1)))
def f_X5_ouncesOf (N : Nat) (mem : zMem) (a1 : Int32) (a2 : Int32) : Option (Int32 × zMem) :=
    f_X5_ouncesOf_5 N N mem a1 a2 (0 : Int32) (0 : Int32)
def f_X5_sermon (N : Nat) (mem : zMem) : Option (Int32 × zMem) :=
    zb (f_X5_ouncesOf N mem (mem 48 (7 : Int32).toNatClampNeg) (mem 48 (6 : Int32).toNatClampNeg)) (fun r640 mem640 =>
    some (((mem 46 (2 : Int32).toNatClampNeg) + r640), mem640))
def f_X5_lead_4 (N : Nat) : Nat → zMem → Int32 → Int32 → Option (Int32 × zMem)
  | 0, _, _, _ => none
  | n + 1, mem, x1, x2 =>
    (if (mem 46 (1 : Int32).toNatClampNeg) ≤ x2 then
    (if x1 ≤ (mem 48 (8 : Int32).toNatClampNeg) then
    some ((0 : Int32), mem)
    else
    some ((x1 - (mem 48 (8 : Int32).toNatClampNeg)), mem))
    else
    zgd (zin x2 12) (f_X5_lead_4 N n mem (x1 + (mem 48 x2.toNatClampNeg)) (x2 + 1)))
def f_X5_lead (N : Nat) (mem : zMem) : Option (Int32 × zMem) :=
    f_X5_lead_4 N N mem (0 : Int32) (0 : Int32)
def f_X5_hangs (N : Nat) (mem : zMem) (a1 : Int32) (a2 : Int32) : Option (Int32 × zMem) :=
    zb (f_X5_in N mem (a1 - a2) (-(mem 46 (3 : Int32).toNatClampNeg)) (mem 46 (3 : Int32).toNatClampNeg)) (fun r644 mem644 =>
    zgd (zbo r644) (some (r644, mem644)))
def f_X5_isLevel (N : Nat) (mem : zMem) : Option (Int32 × zMem) :=
    zb (f_X5_sermon N mem) (fun r646 mem646 =>
    zb (f_X5_lead N mem646) (fun r647 mem647 =>
    zb (f_X5_hangs N mem647 r646 r647) (fun r648 mem648 =>
    zgd (zbo r648) (some (r648, mem648)))))
def f_X5_part (N : Nat) (mem : zMem) (a1 : Int32) (a2 : Int32) : Option (Int32 × zMem) :=
    zb (f_X5_isPart N mem a1) (fun r650 mem650 =>
    (if r650 = 0 then
    some ((-2 : Int32), mem650)
    else
    (if a2 = 0 then
    zgd (zin ((5 : Int32) + a1) 35) (some ((mem650 46 ((5 : Int32) + a1).toNatClampNeg), mem650))
    else
(if a2 = 1 then
    zgd (zin ((13 : Int32) + a1) 35) (some ((mem650 46 ((13 : Int32) + a1).toNatClampNeg), mem650))
    else
(if a2 = 2 then
    zgd (zin ((21 : Int32) + a1) 35) (some ((mem650 46 ((21 : Int32) + a1).toNatClampNeg), mem650))
    else
(if a2 = 3 then
    zb (f_X5_ounces N mem650 a1 (mem650 48 (6 : Int32).toNatClampNeg)) (fun r659 mem659 =>
    some (r659, mem659))
    else
(if a2 = 4 then
    some ((((mem650 48 (7 : Int32).toNatClampNeg) >>> (a1 &&& 31)) &&& (1 : Int32)), mem650)
    else
    some ((-3 : Int32), mem650))))))))
def f_X5_sins (N : Nat) (mem : zMem) (a1 : Int32) : Option (Int32 × zMem) :=
    zb (f_X5_in N mem a1 (0 : Int32) ((mem 46 (1 : Int32).toNatClampNeg) - (1 : Int32))) (fun r661 mem661 =>
    (if r661 = 0 then
    some ((-2 : Int32), mem661)
    else
    zgd (zin a1 12) (some ((mem661 48 a1.toNatClampNeg), mem661))))
def f_X5_as_58 (N : Nat) (mem : zMem) (x1 : Int32) (s0 : Int32) : Option (Int32 × zMem) :=
    (if s0 = 0 then
    some ((-4 : Int32), mem)
    else
    zb (f_X5_ounces N mem x1 (9 : Int32)) (fun r665 mem665 =>
    some (r665, mem665)))
def f_X5_as_57 (N : Nat) (mem : zMem) (x1 : Int32) : Option (Int32 × zMem) :=
    f_X5_as_58 N mem x1 (0 : Int32)
def f_X5_as_53 (N : Nat) (mem : zMem) (x1 : Int32) : Option (Int32 × zMem) :=
    f_X5_as_58 N mem x1 (1 : Int32)
def f_X5_as (N : Nat) (mem : zMem) (a1 : Int32) (a2 : Int32) : Option (Int32 × zMem) :=
    zb (f_X5_isPart N mem a1) (fun r666 mem666 =>
    (if r666 = 0 then
    some ((-2 : Int32), mem666)
    else
    zb (f_X5_in N mem666 a2 (0 : Int32) (4 : Int32)) (fun r668 mem668 =>
    (if r668 = 0 then
    some ((-3 : Int32), mem668)
    else
    zgd (zin ((5 : Int32) + a1) 35) ((if a2 = 0 then
    f_X5_as_53 N mem668 a1
    else
    (if a2 = ((mem668 46 ((5 : Int32) + a1).toNatClampNeg) + (1 : Int32)) then
    f_X5_as_53 N mem668 a1
    else
    (if a2 = (1 : Int32) then
    (if (3 : Int32) ≤ (mem668 46 ((5 : Int32) + a1).toNatClampNeg) then
    f_X5_as_57 N mem668 a1
    else
    f_X5_as_53 N mem668 a1)
    else
    f_X5_as_57 N mem668 a1))))))))
def f_X5_keeps_50 (N : Nat) : Nat → zMem → Int32 → Option (Unit × zMem)
  | 0, _, _ => none
  | n + 1, mem, x1 =>
    (if (12 : Int32) ≤ x1 then
    zlet (wr mem 44 6 ((mem 44 6) + (1 : Int32))) (fun mem676 =>
    some ((), mem676))
    else
    zgd (zin x1 12) (zgd (zin (((12 : Int32) * (mem 44 6)) + x1) 96) (zlet (wr mem 49 (((12 : Int32) * (mem 44 6)) + x1).toNatClampNeg (mem 48 x1.toNatClampNeg)) (fun mem679 =>
    f_X5_keeps_50 N n mem679 (x1 + 1)))))
def f_X5_keeps_48 (N : Nat) (mem : zMem) : Option (Unit × zMem) :=
    f_X5_keeps_50 N N mem (0 : Int32)
def f_X5_keeps_11 (N : Nat) : Nat → zMem → Int32 → Option (Unit × zMem)
  | 0, _, _ => none
  | n + 1, mem, x1 =>
    (if (84 : Int32) ≤ x1 then
    zlet (wr mem 44 6 ((mem 44 6) - (1 : Int32))) (fun mem681 =>
    f_X5_keeps_48 N mem681)
    else
    zgd (zin (x1 + (12 : Int32)) 96) (zgd (zin x1 96) (zlet (wr mem 49 x1.toNatClampNeg (mem 49 (x1 + (12 : Int32)).toNatClampNeg)) (fun mem684 =>
    f_X5_keeps_11 N n mem684 (x1 + 1)))))
def f_X5_keeps (N : Nat) (mem : zMem) : Option (Unit × zMem) :=
    (if (mem 44 6) = (8 : Int32) then
    f_X5_keeps_11 N N mem (0 : Int32)
    else
    f_X5_keeps_48 N mem)
def f_X5_preach (N : Nat) (mem : zMem) (a1 : Int32) : Option (Int32 × zMem) :=
    zb (f_X5_isPart N mem a1) (fun r686 mem686 =>
    (if r686 = 0 then
    some ((-2 : Int32), mem686)
    else
    (if (((mem686 48 (7 : Int32).toNatClampNeg) >>> (a1 &&& 31)) &&& (1 : Int32)) = (1 : Int32) then
    some ((-4 : Int32), mem686)
    else
    zb (f_X5_isLevel N mem686) (fun r689 mem689 =>
    (if r689 = 0 then
    zb (f_X5_keeps N mem689) (fun _ mem691 =>
    zlet (wr mem691 48 (7 : Int32).toNatClampNeg ((mem691 48 (7 : Int32).toNatClampNeg) ||| ((1 : Int32) <<< (a1 &&& 31)))) (fun mem692 =>
    zgd (zin ((21 : Int32) + a1) 35) (zlet (wr mem692 48 (10 : Int32).toNatClampNeg ((mem692 48 (10 : Int32).toNatClampNeg) + (mem692 46 ((21 : Int32) + a1).toNatClampNeg))) (fun mem694 =>
    zb (f_X5_sermon N mem694) (fun r695 mem695 =>
    zb (f_X5_lead N mem695) (fun r696 mem696 =>
    some ((((9999 : Int32) + r695) - r696), mem696)))))))
    else
    some ((-4 : Int32), mem689))))))
def f_X5_sin (N : Nat) (mem : zMem) (a1 : Int32) (a2 : Int32) : Option (Int32 × zMem) :=
    zb (f_X5_in N mem a1 (0 : Int32) ((mem 46 (1 : Int32).toNatClampNeg) - (1 : Int32))) (fun r697 mem697 =>
    (if r697 = 0 then
    some ((-2 : Int32), mem697)
    else
    zb (f_X5_in N mem697 a2 (1 : Int32) (20 : Int32)) (fun r699 mem699 =>
    (if r699 = 0 then
    some ((-3 : Int32), mem699)
    else
    zb (f_X5_keeps N mem699) (fun _ mem701 =>
    zgd (zin a1 12) ((if ((mem701 48 a1.toNatClampNeg) + a2) ≤ (99 : Int32) then
    zgd (zin a1 12) (zgd (zin a1 12) (zlet (wr mem701 48 a1.toNatClampNeg ((mem701 48 a1.toNatClampNeg) + a2)) (fun mem706 =>
    zgd (zin a1 12) (some ((mem706 48 a1.toNatClampNeg), mem706)))))
    else
    zgd (zin a1 12) (zlet (wr mem701 48 a1.toNatClampNeg (99 : Int32)) (fun mem709 =>
    zgd (zin a1 12) (some ((mem709 48 a1.toNatClampNeg), mem709)))))))))))
def f_X5_ballast (N : Nat) (mem : zMem) (a1 : Int32) : Option (Int32 × zMem) :=
    zb (f_X5_in N mem a1 (1 : Int32) (20 : Int32)) (fun r711 mem711 =>
    (if r711 = 0 then
    some ((-3 : Int32), mem711)
    else
    zb (f_X5_keeps N mem711) (fun _ mem713 =>
    (if ((mem713 48 (8 : Int32).toNatClampNeg) + a1) ≤ (99 : Int32) then
    zlet (wr mem713 48 (8 : Int32).toNatClampNeg ((mem713 48 (8 : Int32).toNatClampNeg) + a1)) (fun mem715 =>
    some ((mem715 48 (8 : Int32).toNatClampNeg), mem715))
    else
    zlet (wr mem713 48 (8 : Int32).toNatClampNeg (99 : Int32)) (fun mem716 =>
    some ((mem716 48 (8 : Int32).toNatClampNeg), mem716))))))
def f_X5_rain (N : Nat) (mem : zMem) (a1 : Int32) : Option (Int32 × zMem) :=
    zb (f_X5_in N mem a1 (0 : Int32) (9 : Int32)) (fun r717 mem717 =>
    (if r717 = 0 then
    some ((-3 : Int32), mem717)
    else
    zb (f_X5_keeps N mem717) (fun _ mem719 =>
    zlet (wr mem719 48 (6 : Int32).toNatClampNeg a1) (fun mem720 =>
    some ((mem719 48 (6 : Int32).toNatClampNeg), mem720)))))
def f_X5_sunday_105 (N : Nat) (mem : zMem) (x1 : Int32) (s1 : Int32) (s2 : Int32) (s3 : Int32) : Option (Int32 × zMem) :=
    zgd (zin s1 12) (zlet (wr mem 48 s1.toNatClampNeg (s2 + s3)) (fun mem722 =>
    (if x1 = 0 then
    some ((0 : Int32), mem722)
    else
    some ((1 : Int32), mem722))))
def f_X5_sunday_27 (N : Nat) : Nat → zMem → Int32 → Int32 → Option (Int32 × zMem)
  | 0, _, _, _ => none
  | n + 1, mem, x1, x2 =>
    (if (6 : Int32) ≤ x2 then
    zlet (wr mem 48 (8 : Int32).toNatClampNeg (0 : Int32)) (fun mem725 =>
    zlet (wr mem725 48 (7 : Int32).toNatClampNeg (0 : Int32)) (fun mem726 =>
    zlet (wr mem726 48 (9 : Int32).toNatClampNeg ((mem726 48 (9 : Int32).toNatClampNeg) + (1 : Int32))) (fun mem727 =>
    (if x1 = 0 then
    f_X5_sunday_105 N mem727 x1 (11 : Int32) (mem727 48 (11 : Int32).toNatClampNeg) (0 : Int32)
    else
    f_X5_sunday_105 N mem727 x1 (11 : Int32) (mem727 48 (11 : Int32).toNatClampNeg) (1 : Int32)))))
    else
    (if x1 = 0 then
    zgd (zin x2 12) (zgd (zin x2 12) (zlet (wr mem 48 x2.toNatClampNeg ((mem 48 x2.toNatClampNeg) / (2 : Int32))) (fun mem732 =>
    f_X5_sunday_27 N n mem732 x1 (x2 + 1))))
    else
    zgd (zin x2 12) (zlet (wr mem 48 x2.toNatClampNeg (0 : Int32)) (fun mem734 =>
    f_X5_sunday_27 N n mem734 x1 (x2 + 1)))))
def f_X5_sunday (N : Nat) (mem : zMem) : Option (Int32 × zMem) :=
    (if (mem 48 (9 : Int32).toNatClampNeg) = (999 : Int32) then
    some ((-5 : Int32), mem)
    else
    zb (f_X5_keeps N mem) (fun _ mem736 =>
    zb (f_X5_isLevel N mem736) (fun r737 mem737 =>
    f_X5_sunday_27 N N mem737 r737 (0 : Int32))))
def f_X5_undo_22 (N : Nat) : Nat → zMem → Int32 → Option (Int32 × zMem)
  | 0, _, _ => none
  | n + 1, mem, x1 =>
    (if (12 : Int32) ≤ x1 then
    some ((mem 44 6), mem)
    else
    zgd (zin (((12 : Int32) * (mem 44 6)) + x1) 96) (zgd (zin x1 12) (zlet (wr mem 48 x1.toNatClampNeg (mem 49 (((12 : Int32) * (mem 44 6)) + x1).toNatClampNeg)) (fun mem741 =>
    f_X5_undo_22 N n mem741 (x1 + 1)))))
def f_X5_undo (N : Nat) (mem : zMem) : Option (Int32 × zMem) :=
    (if (mem 44 6) = 0 then
    some ((-4 : Int32), mem)
    else
    zlet (wr mem 44 6 ((mem 44 6) - (1 : Int32))) (fun mem743 =>
    f_X5_undo_22 N N mem743 (0 : Int32)))
def f_X5_keep_14 (N : Nat) : Nat → zMem → Int32 → Int32 → Option (Int32 × zMem)
  | 0, _, _, _ => none
  | n + 1, mem, x1, x2 =>
    (if (12 : Int32) ≤ x2 then
    zgd (zin x1 2) (zlet (wr mem 51 x1.toNatClampNeg (vp_nar .boolean (1 : Int32))) (fun mem746 =>
    some ((mem746 48 (9 : Int32).toNatClampNeg), mem746)))
    else
    zgd (zin x2 12) (zgd (zin (((12 : Int32) * x1) + x2) 24) (zlet (wr mem 50 (((12 : Int32) * x1) + x2).toNatClampNeg (mem 48 x2.toNatClampNeg)) (fun mem749 =>
    f_X5_keep_14 N n mem749 x1 (x2 + 1)))))
def f_X5_keep (N : Nat) (mem : zMem) (a1 : Int32) : Option (Int32 × zMem) :=
    zb (f_X5_in N mem a1 (0 : Int32) (1 : Int32)) (fun r750 mem750 =>
    (if r750 = 0 then
    some ((-2 : Int32), mem750)
    else
    f_X5_keep_14 N N mem750 a1 (0 : Int32)))
def f_X5_back_26 (N : Nat) : Nat → zMem → Int32 → Int32 → Option (Int32 × zMem)
  | 0, _, _, _ => none
  | n + 1, mem, x1, x2 =>
    (if (12 : Int32) ≤ x2 then
    zlet (wr mem 44 6 (0 : Int32)) (fun mem753 =>
    some ((mem753 48 (9 : Int32).toNatClampNeg), mem753))
    else
    zgd (zin (((12 : Int32) * x1) + x2) 24) (zgd (zin x2 12) (zlet (wr mem 48 x2.toNatClampNeg (mem 50 (((12 : Int32) * x1) + x2).toNatClampNeg)) (fun mem756 =>
    f_X5_back_26 N n mem756 x1 (x2 + 1)))))
def f_X5_back (N : Nat) (mem : zMem) (a1 : Int32) : Option (Int32 × zMem) :=
    zb (f_X5_in N mem a1 (0 : Int32) (1 : Int32)) (fun r757 mem757 =>
    (if r757 = 0 then
    some ((-2 : Int32), mem757)
    else
    zgd (zin a1 2) ((if (mem757 51 a1.toNatClampNeg) = 0 then
    some ((-4 : Int32), mem757)
    else
    f_X5_back_26 N N mem757 a1 (0 : Int32)))))
def f_X5_stops_9 (N : Nat) : Nat → zMem → Int32 → Int32 → Int32 → Option (Int32 × zMem)
  | 0, _, _, _, _ => none
  | n + 1, mem, x1, x2, x3 =>
    (if (mem 46 (0 : Int32).toNatClampNeg) ≤ x3 then
    zb (f_X5_lead N mem) (fun r762 mem762 =>
    zb (f_X5_hangs N mem762 x1 r762) (fun r763 mem763 =>
    (if r763 = 0 then
    some ((-1 : Int32), mem763)
    else
    some (x2, mem763))))
    else
    zb (f_X5_lead N mem) (fun r765 mem765 =>
    zb (f_X5_hangs N mem765 x1 r765) (fun r766 mem766 =>
    (if r766 = 0 then
    (if (((mem766 48 (7 : Int32).toNatClampNeg) >>> (x3 &&& 31)) &&& (1 : Int32)) = 0 then
    zb (f_X5_ounces N mem766 x3 (mem766 48 (6 : Int32).toNatClampNeg)) (fun r769 mem769 =>
    f_X5_stops_9 N n mem769 (x1 + r769) (x2 + 1) (x3 + 1))
    else
    f_X5_stops_9 N n mem766 x1 x2 (x3 + 1))
    else
    some (x2, mem766)))))
def f_X5_stops (N : Nat) (mem : zMem) : Option (Int32 × zMem) :=
    zb (f_X5_sermon N mem) (fun r770 mem770 =>
    f_X5_stops_9 N N mem770 r770 (0 : Int32) (0 : Int32))
def f_X5_minutesOf_4 (N : Nat) : Nat → zMem → Int32 → Int32 → Int32 → Option (Int32 × zMem)
  | 0, _, _, _, _ => none
  | n + 1, mem, x1, x2, x3 =>
    (if (mem 46 (0 : Int32).toNatClampNeg) ≤ x3 then
    some (x2, mem)
    else
    (if ((x1 >>> (x3 &&& 31)) &&& (1 : Int32)) = (1 : Int32) then
    zgd (zin ((21 : Int32) + x3) 35) (f_X5_minutesOf_4 N n mem x1 (x2 + (mem 46 ((21 : Int32) + x3).toNatClampNeg)) (x3 + 1))
    else
    f_X5_minutesOf_4 N n mem x1 (x2 + (0 : Int32)) (x3 + 1)))
def f_X5_minutesOf (N : Nat) (mem : zMem) (a1 : Int32) : Option (Int32 × zMem) :=
    f_X5_minutesOf_4 N N mem a1 (0 : Int32) (0 : Int32)
def f_X5_ones_4 (N : Nat) : Nat → zMem → Int32 → Int32 → Int32 → Option (Int32 × zMem)
  | 0, _, _, _, _ => none
  | n + 1, mem, x0, x1, x2 =>
    (if (8 : Int32) ≤ x2 then
    some (x1, mem)
    else
    f_X5_ones_4 N n mem x0 (x1 + ((x0 >>> (x2 &&& 31)) &&& (1 : Int32))) (x2 + 1))
def f_X5_ones (N : Nat) (mem : zMem) (a1 : Int32) : Option (Int32 × zMem) :=
    f_X5_ones_4 N N mem a1 (0 : Int32) (0 : Int32)
def f_X5_would (N : Nat) (mem : zMem) (a1 : Int32) (a2 : Int32) : Option (Int32 × zMem) :=
    (if (a1 &&& (mem 48 (7 : Int32).toNatClampNeg)) = 0 then
    zb (f_X5_sermon N mem) (fun r776 mem776 =>
    zb (f_X5_ouncesOf N mem776 a1 (mem776 48 (6 : Int32).toNatClampNeg)) (fun r777 mem777 =>
    zb (f_X5_hangs N mem777 (r776 + r777) a2) (fun r778 mem778 =>
    (if r778 = 0 then
    some ((0 : Int32), mem778)
    else
    some ((1 : Int32), mem778)))))
    else
    some ((0 : Int32), mem))
def f_X5_soonest_22 (N : Nat) : Nat → zMem → Int32 → Int32 → Int32 → Int32 → Option (Int32 × zMem)
  | 0, _, _, _, _, _ => none
  | n + 1, mem, x1, x2, x3, x4 =>
    (if ((1 : Int32) <<< ((mem 46 (0 : Int32).toNatClampNeg) &&& 31)) ≤ x4 then
    (if x1 = 0 then
    some (x2, mem)
    else
    (if x2 = (-1 : Int32) then
    some (x2, mem)
    else
    zb (f_X5_minutesOf N mem x2) (fun r783 mem783 =>
    some (r783, mem783))))
    else
    zb (f_X5_would N mem x4 x3) (fun r784 mem784 =>
    (if r784 = 0 then
    f_X5_soonest_22 N n mem784 x1 x2 x3 (x4 + 1)
    else
    (if x2 = (-1 : Int32) then
    (if (-1 : Int32) < 0 then
    f_X5_soonest_22 N n mem784 x1 x4 x3 (x4 + 1)
    else
    (if (-1 : Int32) = 0 then
    zb (f_X5_ones N mem784 x4) (fun r796 mem796 =>
    zb (f_X5_ones N mem796 x2) (fun r797 mem797 =>
    (if r797 ≤ r796 then
    f_X5_soonest_22 N n mem797 x1 x2 x3 (x4 + 1)
    else
    f_X5_soonest_22 N n mem797 x1 x4 x3 (x4 + 1))))
    else
    f_X5_soonest_22 N n mem784 x1 x2 x3 (x4 + 1)))
    else
    zb (f_X5_minutesOf N mem784 x4) (fun r787 mem787 =>
    zb (f_X5_minutesOf N mem787 x2) (fun r788 mem788 =>
    (if (r787 - r788) < 0 then
    f_X5_soonest_22 N n mem788 x1 x4 x3 (x4 + 1)
    else
    (if (r787 - r788) = 0 then
    zb (f_X5_ones N mem788 x4) (fun r791 mem791 =>
    zb (f_X5_ones N mem791 x2) (fun r792 mem792 =>
    (if r792 ≤ r791 then
    f_X5_soonest_22 N n mem792 x1 x2 x3 (x4 + 1)
    else
    f_X5_soonest_22 N n mem792 x1 x4 x3 (x4 + 1))))
    else
    f_X5_soonest_22 N n mem788 x1 x2 x3 (x4 + 1)))))))))
def f_X5_soonest (N : Nat) (mem : zMem) (a1 : Int32) : Option (Int32 × zMem) :=
    zb (f_X5_in N mem a1 (0 : Int32) (1 : Int32)) (fun r799 mem799 =>
    (if r799 = 0 then
    some ((-3 : Int32), mem799)
    else
    zb (f_X5_lead N mem799) (fun r801 mem801 =>
    f_X5_soonest_22 N N mem801 a1 (-1 : Int32) r801 (0 : Int32))))
def f_X5_never_17 (N : Nat) : Nat → zMem → Int32 → Int32 → Int32 → Option (Int32 × zMem)
  | 0, _, _, _, _ => none
  | n + 1, mem, x1, x2, x3 =>
    (if ((1 : Int32) <<< ((mem 46 (0 : Int32).toNatClampNeg) &&& 31)) ≤ x3 then
    (if x2 = 0 then
    some ((1 : Int32), mem)
    else
    some ((0 : Int32), mem))
    else
    (if x2 = 0 then
    zb (f_X5_would N mem x3 x1) (fun r805 mem805 =>
    (if r805 = 0 then
    f_X5_never_17 N n mem805 x1 (0 : Int32) (x3 + 1)
    else
    f_X5_never_17 N n mem805 x1 (1 : Int32) (x3 + 1)))
    else
    f_X5_never_17 N n mem x1 (1 : Int32) (x3 + 1)))
def f_X5_never (N : Nat) (mem : zMem) (a1 : Int32) : Option (Int32 × zMem) :=
    zb (f_X5_in N mem a1 (0 : Int32) (99 : Int32)) (fun r807 mem807 =>
    (if r807 = 0 then
    some ((-3 : Int32), mem807)
    else
    f_X5_never_17 N N mem807 a1 (0 : Int32) (0 : Int32)))
def f_X5_seen (N : Nat) (mem : zMem) (a1 : Int32) (a2 : Int32) (a3 : Int32) : Option (Int32 × zMem) :=
    zb (f_X5_isSet N mem a1) (fun r809 mem809 =>
    (if r809 = 0 then
    some ((-2 : Int32), mem809)
    else
    zb (f_X5_in N mem809 a2 (0 : Int32) (9 : Int32)) (fun r811 mem811 =>
    (if r811 = 0 then
    some ((-3 : Int32), mem811)
    else
    zb (f_X5_in N mem811 a3 (0 : Int32) (255 : Int32)) (fun r813 mem813 =>
    (if r813 = 0 then
    some ((-3 : Int32), mem813)
    else
    (if (mem813 44 10) = (6 : Int32) then
    some ((-5 : Int32), mem813)
    else
    zgd (zin ((3 : Int32) * (mem813 44 10)) 18) (zlet (wr mem813 52 ((3 : Int32) * (mem813 44 10)).toNatClampNeg a1) (fun mem817 =>
    zgd (zin (((3 : Int32) * (mem817 44 10)) + (1 : Int32)) 18) (zlet (wr mem817 52 (((3 : Int32) * (mem817 44 10)) + (1 : Int32)).toNatClampNeg a2) (fun mem819 =>
    zgd (zin (((3 : Int32) * (mem819 44 10)) + (2 : Int32)) 18) (zlet (wr mem819 52 (((3 : Int32) * (mem819 44 10)) + (2 : Int32)).toNatClampNeg a3) (fun mem821 =>
    zlet (wr mem821 44 10 ((mem821 44 10) + (1 : Int32))) (fun mem822 =>
    some ((mem822 44 10), mem822)))))))))))))))
def f_X5_heard (N : Nat) (mem : zMem) (a1 : Int32) (a2 : Int32) (a3 : Int32) : Option (Int32 × zMem) :=
    zb (f_X5_isSet N mem a1) (fun r823 mem823 =>
    (if r823 = 0 then
    some ((-2 : Int32), mem823)
    else
    zb (f_X5_in N mem823 a2 (0 : Int32) (99 : Int32)) (fun r825 mem825 =>
    (if r825 = 0 then
    some ((-3 : Int32), mem825)
    else
    zb (f_X5_in N mem825 a3 (0 : Int32) (1 : Int32)) (fun r827 mem827 =>
    (if r827 = 0 then
    some ((-3 : Int32), mem827)
    else
    (if (mem827 44 12) = (6 : Int32) then
    some ((-5 : Int32), mem827)
    else
    zgd (zin ((3 : Int32) * (mem827 44 12)) 18) (zlet (wr mem827 53 ((3 : Int32) * (mem827 44 12)).toNatClampNeg a1) (fun mem831 =>
    zgd (zin (((3 : Int32) * (mem831 44 12)) + (1 : Int32)) 18) (zlet (wr mem831 53 (((3 : Int32) * (mem831 44 12)) + (1 : Int32)).toNatClampNeg a2) (fun mem833 =>
    zgd (zin (((3 : Int32) * (mem833 44 12)) + (2 : Int32)) 18) (zlet (wr mem833 53 (((3 : Int32) * (mem833 44 12)) + (2 : Int32)).toNatClampNeg a3) (fun mem835 =>
    zlet (wr mem835 44 12 ((mem835 44 12) + (1 : Int32))) (fun mem836 =>
    some ((mem836 44 12), mem836)))))))))))))))
def f_X5_forget (N : Nat) (mem : zMem) : Option (Int32 × zMem) :=
    zlet (wr mem 44 10 (0 : Int32)) (fun mem837 =>
    zlet (wr mem837 44 12 (0 : Int32)) (fun mem838 =>
    some (((mem 44 10) + (mem 44 12)), mem838)))
def f_X5_weights_27 (k : zMem → Int32 → Int32 → Int32 → Int32 → Option (Int32 × zMem)) (N : Nat) : Nat → zMem → Int32 → Int32 → Int32 → Int32 → Int32 → Option (Int32 × zMem)
  | 0, _, _, _, _, _, _ => none
  | n + 1, mem, x1, x2, x3, x4, x5 =>
    (if (mem 44 10) ≤ x5 then
    k mem x1 x2 x3 x4
    else
    zgd (zin ((3 : Int32) * x5) 18) (zgd (zin (((3 : Int32) * x5) + (1 : Int32)) 18) (zb (f_X5_ouncesOf N mem ((mem 52 ((3 : Int32) * x5).toNatClampNeg) &&& (((1 : Int32) <<< (x1 &&& 31)) ^^^ (-1 : Int32))) (mem 52 (((3 : Int32) * x5) + (1 : Int32)).toNatClampNeg)) (fun r842 mem842 =>
    (if (((mem 52 ((3 : Int32) * x5).toNatClampNeg) >>> (x1 &&& 31)) &&& (1 : Int32)) = (1 : Int32) then
    zgd (zin ((5 : Int32) + x1) 35) (zb (f_X5_weighs N mem842 (mem842 46 ((5 : Int32) + x1).toNatClampNeg) x3 (mem 52 (((3 : Int32) * x5) + (1 : Int32)).toNatClampNeg)) (fun r848 mem848 =>
    (if x4 = 0 then
    f_X5_weights_27 k N n mem848 x1 x2 x3 (0 : Int32) (x5 + 1)
    else
    zgd (zin (((3 : Int32) * x5) + (2 : Int32)) 18) ((if (r842 + r848) = (mem848 52 (((3 : Int32) * x5) + (2 : Int32)).toNatClampNeg) then
    f_X5_weights_27 k N n mem848 x1 x2 x3 (1 : Int32) (x5 + 1)
    else
    f_X5_weights_27 k N n mem848 x1 x2 x3 (0 : Int32) (x5 + 1))))))
    else
    (if x4 = 0 then
    f_X5_weights_27 k N n mem842 x1 x2 x3 (0 : Int32) (x5 + 1)
    else
    zgd (zin (((3 : Int32) * x5) + (2 : Int32)) 18) ((if (r842 + (0 : Int32)) = (mem842 52 (((3 : Int32) * x5) + (2 : Int32)).toNatClampNeg) then
    f_X5_weights_27 k N n mem842 x1 x2 x3 (1 : Int32) (x5 + 1)
    else
    f_X5_weights_27 k N n mem842 x1 x2 x3 (0 : Int32) (x5 + 1)))))))))
def f_X5_weights_15 (N : Nat) : Nat → zMem → Int32 → Int32 → Int32 → Option (Int32 × zMem)
  | 0, _, _, _, _ => none
  | n + 1, mem, x1, x2, x3 =>
    (if (21 : Int32) ≤ x3 then
    some (x2, mem)
    else
    f_X5_weights_27 (fun mem_853 x1_853 x2_853 x3_853 x4_853 =>
    (if x4_853 = 0 then
    f_X5_weights_15 N n mem_853 x1_853 (x2_853 ||| (0 : Int32)) (x3_853 + 1)
    else
    f_X5_weights_15 N n mem_853 x1_853 (x2_853 ||| ((1 : Int32) <<< (x3_853 &&& 31))) (x3_853 + 1))) N N mem x1 x2 x3 (1 : Int32) (0 : Int32))
def f_X5_weights (N : Nat) (mem : zMem) (a1 : Int32) : Option (Int32 × zMem) :=
    zb (f_X5_isPart N mem a1) (fun r855 mem855 =>
    (if r855 = 0 then
    some ((-2 : Int32), mem855)
    else
    f_X5_weights_15 N N mem855 a1 (0 : Int32) (0 : Int32)))
def f_X5_thumbs_15 (k : zMem → Int32 → Int32 → Int32 → Option (Int32 × zMem)) (N : Nat) : Nat → zMem → Int32 → Int32 → Int32 → Int32 → Option (Int32 × zMem)
  | 0, _, _, _, _, _ => none
  | n + 1, mem, x1, x2, x3, x4 =>
    (if (mem 44 12) ≤ x4 then
    k mem x1 x2 x3
    else
    zgd (zin ((3 : Int32) * x4) 18) (zb (f_X5_ouncesOf N mem (mem 53 ((3 : Int32) * x4).toNatClampNeg) (mem 48 (6 : Int32).toNatClampNeg)) (fun r859 mem859 =>
    (if x3 = 0 then
    f_X5_thumbs_15 k N n mem859 x1 x2 (0 : Int32) (x4 + 1)
    else
    zgd (zin (((3 : Int32) * x4) + (1 : Int32)) 18) (zb (f_X5_hangs N mem859 (x2 + r859) (mem859 53 (((3 : Int32) * x4) + (1 : Int32)).toNatClampNeg)) (fun r862 mem862 =>
    zgd (zin (((3 : Int32) * x4) + (2 : Int32)) 18) ((if (mem862 53 (((3 : Int32) * x4) + (2 : Int32)).toNatClampNeg) = (1 : Int32) then
    (if r862 = (1 : Int32) then
    f_X5_thumbs_15 k N n mem862 x1 x2 (1 : Int32) (x4 + 1)
    else
    f_X5_thumbs_15 k N n mem862 x1 x2 (0 : Int32) (x4 + 1))
    else
    (if r862 = (0 : Int32) then
    f_X5_thumbs_15 k N n mem862 x1 x2 (1 : Int32) (x4 + 1)
    else
    f_X5_thumbs_15 k N n mem862 x1 x2 (0 : Int32) (x4 + 1))))))))))
def f_X5_thumbs_4 (N : Nat) : Nat → zMem → Int32 → Int32 → Option (Int32 × zMem)
  | 0, _, _, _ => none
  | n + 1, mem, x1, x2 =>
    (if (10 : Int32) ≤ x2 then
    some (x1, mem)
    else
    f_X5_thumbs_15 (fun mem_868 x1_868 x2_868 x3_868 =>
    (if x3_868 = 0 then
    f_X5_thumbs_4 N n mem_868 (x1_868 ||| (0 : Int32)) (x2_868 + 1)
    else
    f_X5_thumbs_4 N n mem_868 (x1_868 ||| ((1 : Int32) <<< (x2_868 &&& 31))) (x2_868 + 1))) N N mem x1 x2 (1 : Int32) (0 : Int32))
def f_X5_thumbs (N : Nat) (mem : zMem) : Option (Int32 × zMem) :=
    f_X5_thumbs_4 N N mem (0 : Int32) (0 : Int32)
def f_X5_confessed_212 (N : Nat) : Nat → zMem → Int32 → Int32 → Int32 → Int32 → Int32 → Option (Int32 × zMem)
  | 0, _, _, _, _, _, _ => none
  | n + 1, mem, x2, x3, x4, x5, x6 =>
    (if x6 ≤ 0 then
    (if x2 = 0 then
    zgd (znz x5) (some ((x3 / x5), mem))
    else
    zgd (znz x5) (some ((x4 / x5), mem)))
    else
    zgd (znz x6) (f_X5_confessed_212 N n mem x2 x3 x4 x6 (x5 - x5 / x6 * x6)))
def f_X5_confessed_79 (k : zMem → Int32 → Int32 → Int32 → Int32 → Int32 → Int32 → Int32 → Option (Int32 × zMem)) (N : Nat) : Nat → zMem → Int32 → Int32 → Int32 → Int32 → Int32 → Int32 → Int32 → Int32 → Option (Int32 × zMem)
  | 0, _, _, _, _, _, _, _, _, _ => none
  | n + 1, mem, x1, x2, x3, x4, x5, x6, x7, x8 =>
    (if (mem 46 (1 : Int32).toNatClampNeg) ≤ x8 then
    k mem x1 x2 x3 x4 x5 x6 x7
    else
    (if ((x5 >>> (x8 &&& 31)) &&& (1 : Int32)) = (1 : Int32) then
    (if (1 : Int32) = 0 then
    (if (1 : Int32) = 0 then
    zgd (zin x8 12) (f_X5_confessed_79 k N n mem x1 x2 x3 x4 x5 (x6 * ((10 : Int32) - x1)) (x7 + (mem 48 x8.toNatClampNeg)) (x8 + 1))
    else
    f_X5_confessed_79 k N n mem x1 x2 x3 x4 x5 (x6 * ((10 : Int32) - x1)) (x7 + (0 : Int32)) (x8 + 1))
    else
    (if (1 : Int32) = 0 then
    zgd (zin x8 12) (f_X5_confessed_79 k N n mem x1 x2 x3 x4 x5 (x6 * x1) (x7 + (mem 48 x8.toNatClampNeg)) (x8 + 1))
    else
    f_X5_confessed_79 k N n mem x1 x2 x3 x4 x5 (x6 * x1) (x7 + (0 : Int32)) (x8 + 1)))
    else
    (if (0 : Int32) = 0 then
    (if (0 : Int32) = 0 then
    zgd (zin x8 12) (f_X5_confessed_79 k N n mem x1 x2 x3 x4 x5 (x6 * ((10 : Int32) - x1)) (x7 + (mem 48 x8.toNatClampNeg)) (x8 + 1))
    else
    f_X5_confessed_79 k N n mem x1 x2 x3 x4 x5 (x6 * ((10 : Int32) - x1)) (x7 + (0 : Int32)) (x8 + 1))
    else
    (if (0 : Int32) = 0 then
    zgd (zin x8 12) (f_X5_confessed_79 k N n mem x1 x2 x3 x4 x5 (x6 * x1) (x7 + (mem 48 x8.toNatClampNeg)) (x8 + 1))
    else
    f_X5_confessed_79 k N n mem x1 x2 x3 x4 x5 (x6 * x1) (x7 + (0 : Int32)) (x8 + 1)))))
def f_X5_confessed_57 (N : Nat) : Nat → zMem → Int32 → Int32 → Int32 → Int32 → Int32 → Option (Int32 × zMem)
  | 0, _, _, _, _, _, _ => none
  | n + 1, mem, x1, x2, x3, x4, x5 =>
    (if ((1 : Int32) <<< ((mem 46 (1 : Int32).toNatClampNeg) &&& 31)) ≤ x5 then
    f_X5_confessed_212 N N mem x2 x3 x4 x3 x4
    else
    f_X5_confessed_79 (fun mem_888 x1_888 x2_888 x3_888 x4_888 x5_888 x6_888 x7_888 =>
    zb (f_X5_sermon N mem_888) (fun r889 mem889 =>
    (if x7_888 ≤ (mem889 48 (8 : Int32).toNatClampNeg) then
    zb (f_X5_hangs N mem889 r889 (0 : Int32)) (fun r891 mem891 =>
    (if r891 = 0 then
    f_X5_confessed_57 N n mem891 x1_888 x2_888 (x3_888 + (0 : Int32)) x4_888 (x5_888 + 1)
    else
    f_X5_confessed_57 N n mem891 x1_888 x2_888 (x3_888 + x6_888) x4_888 (x5_888 + 1)))
    else
    zb (f_X5_hangs N mem889 r889 (x7_888 - (mem889 48 (8 : Int32).toNatClampNeg))) (fun r893 mem893 =>
    (if r893 = 0 then
    f_X5_confessed_57 N n mem893 x1_888 x2_888 (x3_888 + (0 : Int32)) x4_888 (x5_888 + 1)
    else
    f_X5_confessed_57 N n mem893 x1_888 x2_888 (x3_888 + x6_888) x4_888 (x5_888 + 1)))))) N N mem x1 x2 x3 x4 x5 (1 : Int32) (0 : Int32) (0 : Int32))
def f_X5_confessed_30 (N : Nat) : Nat → zMem → Int32 → Int32 → Int32 → Int32 → Int32 → Option (Int32 × zMem)
  | 0, _, _, _, _, _, _ => none
  | n + 1, mem, x1, x2, x3, x4, x5 =>
    (if (mem 46 (1 : Int32).toNatClampNeg) ≤ x5 then
    f_X5_confessed_57 N N mem x1 x2 x3 x4 (0 : Int32)
    else
    f_X5_confessed_30 N n mem x1 x2 x3 (x4 * (10 : Int32)) (x5 + 1))
def f_X5_confessed (N : Nat) (mem : zMem) (a1 : Int32) (a2 : Int32) : Option (Int32 × zMem) :=
    zb (f_X5_in N mem a1 (0 : Int32) (10 : Int32)) (fun r896 mem896 =>
    (if r896 = 0 then
    some ((-3 : Int32), mem896)
    else
    zb (f_X5_in N mem896 a2 (0 : Int32) (1 : Int32)) (fun r898 mem898 =>
    (if r898 = 0 then
    some ((-3 : Int32), mem898)
    else
    f_X5_confessed_30 N N mem898 a1 a2 (0 : Int32) (1 : Int32) (0 : Int32)))))
def f_X5_count (N : Nat) (mem : zMem) (a1 : Int32) : Option (Int32 × zMem) :=
    (if a1 = 0 then
    some ((mem 46 (0 : Int32).toNatClampNeg), mem)
    else
(if a1 = 1 then
    some ((mem 46 (1 : Int32).toNatClampNeg), mem)
    else
(if a1 = 2 then
    some ((mem 48 (9 : Int32).toNatClampNeg), mem)
    else
(if a1 = 3 then
    zb (f_X5_sermon N mem) (fun r904 mem904 =>
    some (r904, mem904))
    else
(if a1 = 4 then
    zb (f_X5_lead N mem) (fun r906 mem906 =>
    some (r906, mem906))
    else
(if a1 = 5 then
    zb (f_X5_isLevel N mem) (fun r908 mem908 =>
    (if r908 = 0 then
    some ((0 : Int32), mem908)
    else
    some ((1 : Int32), mem908)))
    else
(if a1 = 6 then
    some ((mem 48 (7 : Int32).toNatClampNeg), mem)
    else
(if a1 = 7 then
    some ((mem 48 (10 : Int32).toNatClampNeg), mem)
    else
(if a1 = 8 then
    some ((mem 48 (11 : Int32).toNatClampNeg), mem)
    else
(if a1 = 9 then
    some ((mem 48 (8 : Int32).toNatClampNeg), mem)
    else
(if a1 = 10 then
    some ((mem 48 (6 : Int32).toNatClampNeg), mem)
    else
(if a1 = 11 then
    some ((mem 44 10), mem)
    else
(if a1 = 12 then
    some ((mem 44 12), mem)
    else
(if a1 = 13 then
    some ((mem 44 6), mem)
    else
(if a1 = 14 then
    some ((mem 44 1), mem)
    else
    some ((-3 : Int32), mem))))))))))))))))
