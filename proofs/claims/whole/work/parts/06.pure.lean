/-! the pure programs, read off the bytecode by a program -/
def fX4_add (k : Nat) (f : hF) (x1 : Int32) : Option (Int32 × hF) :=
  (if (f k 1) < 0 then
    some (0, f)
  else
    (if (f k 1) < 200 then
      gd (f k 1) 200 <|
      lt (st2 f (k+1) (f k 1).toNatClampNeg (vp_nar .char x1)) fun f4 =>
      lt (st2 f4 k 1 ((f4 k 1) + 1)) fun f5 =>
      some (1, f5)
    else
      some (0, f)))
def fX7_write (f : hF) (x1 : Int32) : Option (Int32 × hF) :=
  (if x1 < 32 then
    some ((-1), f)
  else
    (if x1 ≤ 126 then
      b2 (fX4_add 1 f ((x1.toUInt32 % 65536).toInt32)) fun r3 f4 =>
      (if r3 = 0 then
        some ((-3), f4)
      else
        some ((f4 1 1), f4))
    else
      some ((-1), f)))
def fX7_wipe (f : hF) : Option (Int32 × hF) :=
  lt (st2 f 1 1 0) fun f1 =>
  some ((f 1 1), f1)
def fX4_at (k : Nat) (f : hF) (x1 : Int32) : Option Int32 :=
  (if x1 < 0 then
    some 0
  else
    (if (f k 1) ≤ x1 then
      some 0
    else
      (if 200 ≤ x1 then
        some 0
      else
        gd x1 200 <|
        nr .char (f (k+1) x1.toNatClampNeg) <|
        some (f (k+1) x1.toNatClampNeg))))
def fX3_numbersOf (x0 : Int32) : Option Int32 :=
  (if x0 = 109 then
    some 3
  else
    (if x0 = 119 then
      some 3
    else
      (if x0 = 112 then
        some 2
      else
        (if x0 = 108 then
          some 1
        else
          some 0))))
def fX3_isFigure (x0 : Int32) : Option Int32 :=
  (if x0 < 48 then
    some 0
  else
    (if 57 < x0 then
      some 0
    else
      some 1))
def fX3_readNumber_49 (k : Nat) (o1 : Nat) (x2 : Int32) (x3 : Int32) (x4 : Int32) (f : hF) (y5 : Int32) (y6 : Int32) : Option (Int32 × hF) :=
  (if y5 = x2 then
    some ((-4), f)
  else
    b1 (fX4_at o1 f y5) fun r2 =>
    (if r2 = x4 then
      (if x3 < 0 then
        some ((-4), f)
      else
        (if x3 < 3 then
          gd x3 3 <|
          lt (st2 f (k+7) x3.toNatClampNeg y6) fun f7 =>
          some ((y5 + 1), f7)
        else
          some ((-4), f)))
    else
      some ((-4), f)))
def fX3_readNumber_6 (k : Nat) (o1 : Nat) (x2 : Int32) (x3 : Int32) (x4 : Int32) : Nat → hF → Int32 → Int32 → Option (Int32 × hF)
  | 0, _, _, _ => none
  | n+1, f, y5, y6 =>
  (if (x2 + 2) ≤ y5 then
    fX3_readNumber_49 k o1 x2 x3 x4 f y5 y6
  else
    b1 (fX4_at o1 f y5) fun r2 =>
    b1 (fX3_isFigure r2) fun r3 =>
    (if r3 = 0 then
      fX3_readNumber_49 k o1 x2 x3 x4 f y5 y6
    else
      b1 (fX4_at o1 f y5) fun r5 =>
      fX3_readNumber_6 k o1 x2 x3 x4 n f (y5 + 1) (((10 * y6) + r5) - 48)))
def fX3_readNumber (k : Nat) (o1 : Nat) (f : hF) (x2 : Int32) (x3 : Int32) (x4 : Int32) : Option (Int32 × hF) :=
  fX3_readNumber_6 k o1 x2 x3 x4 FU f x2 0
def fX3_enterPerson (k : Nat) (f : hF) (x1 : Int32) : Option (Int32 × hF) :=
  (if 8 ≤ (f k 0) then
    some (0, f)
  else
    gd 0 3 <|
    (if 2 < (f (k+7) (0 : Int32).toNatClampNeg) then
      some (0, f)
    else
      gd 1 3 <|
      (if 60 < (f (k+7) (1 : Int32).toNatClampNeg) then
        some (0, f)
      else
        gd 2 3 <|
        (if (f (k+7) (2 : Int32).toNatClampNeg) ≤ 60 then
          gd (f k 0) 8 <|
          lt (st2 f (k+1) (f k 0).toNatClampNeg (vp_nar .boolean x1)) fun f9 =>
          gd 0 3 <|
          gd (f9 k 0) 8 <|
          lt (st2 f9 (k+2) (f9 k 0).toNatClampNeg (f9 (k+7) (0 : Int32).toNatClampNeg)) fun f12 =>
          gd 1 3 <|
          gd (f12 k 0) 8 <|
          lt (st2 f12 (k+3) (f12 k 0).toNatClampNeg (f12 (k+7) (1 : Int32).toNatClampNeg)) fun f15 =>
          gd 2 3 <|
          gd (f15 k 0) 8 <|
          lt (st2 f15 (k+4) (f15 k 0).toNatClampNeg (f15 (k+7) (2 : Int32).toNatClampNeg)) fun f18 =>
          lt (st2 f18 k 0 ((f18 k 0) + 1)) fun f19 =>
          some (1, f19)
        else
          some (0, f)))))
def fX3_enterParson (k : Nat) (f : hF) : Option (Int32 × hF) :=
  (if 3 ≤ (f k 1) then
    some (0, f)
  else
    gd 0 3 <|
    (if 2 < (f (k+7) (0 : Int32).toNatClampNeg) then
      some (0, f)
    else
      gd 1 3 <|
      (if (f (k+7) (1 : Int32).toNatClampNeg) ≤ 20 then
        gd 0 3 <|
        gd (f k 1) 3 <|
        lt (st2 f (k+5) (f k 1).toNatClampNeg (f (k+7) (0 : Int32).toNatClampNeg)) fun f8 =>
        gd 1 3 <|
        gd (f8 k 1) 3 <|
        lt (st2 f8 (k+6) (f8 k 1).toNatClampNeg (f8 (k+7) (1 : Int32).toNatClampNeg)) fun f11 =>
        lt (st2 f11 k 1 ((f11 k 1) + 1)) fun f12 =>
        some (1, f12)
      else
        some (0, f))))
def fX3_enterLaw (k : Nat) (f : hF) : Option (Int32 × hF) :=
  gd 0 3 <|
  (if 1 ≤ (f (k+7) (0 : Int32).toNatClampNeg) then
    gd 0 3 <|
    lt (st2 f k 2 (f (k+7) (0 : Int32).toNatClampNeg)) fun f4 =>
    some (1, f4)
  else
    some (0, f))
def fX3_enter_24 (k : Nat) (x1 : Int32) (f : hF) (s1 : Int32) : Option (Int32 × hF) :=
  b2 (fX3_enterPerson k f s1) fun r1 f2 =>
  nr .boolean r1 <|
  some (r1, f2)
def fX3_enter_12 (k : Nat) (x1 : Int32) (f : hF) : Option (Int32 × hF) :=
  (if x1 = 119 then
    fX3_enter_24 k x1 f 1
  else
    fX3_enter_24 k x1 f 0)
def fX3_enter (k : Nat) (f : hF) (x1 : Int32) : Option (Int32 × hF) :=
  (if x1 = 109 then
    fX3_enter_12 k x1 f
  else
    (if x1 = 119 then
      fX3_enter_12 k x1 f
    else
      (if x1 = 112 then
        b2 (fX3_enterParson k f) fun r7 f8 =>
        nr .boolean r7 <|
        some (r7, f8)
      else
        b2 (fX3_enterLaw k f) fun r4 f5 =>
        nr .boolean r4 <|
        some (r4, f5))))
def fX3_readItem_65 (k : Nat) (o1 : Nat) (x2 : Int32) (q30 : hF → Int32 → Int32 → Int32 → Int32 → Option (Int32 × hF)) (f : hF) (y3 : Int32) (y4 : Int32) (y6 : Int32) (s2 : Int32) (s3 : Int32) (s4 : Int32) : Option (Int32 × hF) :=
  b2 (fX3_readNumber k o1 f s2 s3 s4) fun r1 f2 =>
  q30 f2 y3 y4 r1 (y6 + 1)
def fX3_readItem_76 (k : Nat) (o1 : Nat) (x2 : Int32) (f : hF) (y3 : Int32) (y5 : Int32) : Option (Int32 × hF) :=
  (if y5 ≤ x2 then
    some ((-4), f)
  else
    b2 (fX3_enter k f y3) fun r2 f3 =>
    (if r2 = 0 then
      some ((-4), f3)
    else
      some (y5, f3)))
def fX3_readItem_30 (k : Nat) (o1 : Nat) (x2 : Int32) : Nat → hF → Int32 → Int32 → Int32 → Int32 → Option (Int32 × hF)
  | 0, _, _, _, _, _ => none
  | n+1, f, y3, y4, y5, y6 =>
  (if y4 ≤ y6 then
    fX3_readItem_76 k o1 x2 f y3 y5
  else
    (if y5 ≤ x2 then
      fX3_readItem_76 k o1 x2 f y3 y5
    else
      (if y4 ≤ (y6 + 1) then
        fX3_readItem_65 k o1 x2 (fX3_readItem_30 k o1 x2 n) f y3 y4 y6 y5 y6 59
      else
        fX3_readItem_65 k o1 x2 (fX3_readItem_30 k o1 x2 n) f y3 y4 y6 y5 y6 44)))
def fX3_readItem (k : Nat) (o1 : Nat) (f : hF) (x2 : Int32) : Option (Int32 × hF) :=
  b1 (fX4_at o1 f x2) fun r1 =>
  b1 (fX3_numbersOf r1) fun r2 =>
  (if r2 = 0 then
    fX3_readItem_30 k o1 x2 FU f r1 r2 (-4) 0
  else
    fX3_readItem_30 k o1 x2 FU f r1 r2 (x2 + 1) 0)
def fX3_readFrom_18 (k : Nat) (o1 : Nat) : Nat → hF → Int32 → Option (Int32 × hF)
  | 0, _, _ => none
  | n+1, f, y2 =>
  (if (f o1 1) ≤ y2 then
    some ((-4), f)
  else
    b2 (fX3_readItem k o1 f y2) fun r2 f3 =>
    (if y2 < r2 then
      fX3_readFrom_18 k o1 n f3 r2
    else
      some (y2, f3)))
def fX3_readFrom (k : Nat) (o1 : Nat) (f : hF) : Option (Int32 × hF) :=
  lt (st2 f k 0 0) fun f1 =>
  lt (st2 f1 k 1 0) fun f2 =>
  lt (st2 f2 k 2 60) fun f3 =>
  fX3_readFrom_18 k o1 FU f3 0
def fX7_fault (f : hF) : Option (Int32 × hF) :=
  b2 (fX3_readFrom 11 1 f) fun r1 f2 =>
  some (r1, f2)
def fX3_isPerson (k : Nat) (f : hF) (x1 : Int32) : Option Int32 :=
  (if x1 < 0 then
    some 0
  else
    (if (f k 0) ≤ x1 then
      some 0
    else
      some 1))
def fX0_open_36 (k : Nat) (o1 : Nat) (q7 : hF → Int32 → Option hF) (f : hF) (y2 : Int32) (s1 : Int32) (s2 : Int32) : Option hF :=
  gd s1 8 <|
  lt (st2 f (k+1) s1.toNatClampNeg s2) fun f2 =>
  q7 f2 (y2 + 1)
def fX0_open_45 (k : Nat) (o1 : Nat) : Nat → hF → Int32 → Option hF
  | 0, _, _ => none
  | n+1, f, y2 =>
  (if 3 ≤ y2 then
    some f
  else
    gd y2 3 <|
    lt (st2 f (k+2) y2.toNatClampNeg 0) fun f3 =>
    gd y2 3 <|
    lt (st2 f3 (k+3) y2.toNatClampNeg 0) fun f5 =>
    fX0_open_45 k o1 n f5 (y2 + 1))
def fX0_open_7 (k : Nat) (o1 : Nat) : Nat → hF → Int32 → Option hF
  | 0, _, _ => none
  | n+1, f, y2 =>
  (if 8 ≤ y2 then
    fX0_open_45 k o1 FU f 0
  else
    b1 (fX3_isPerson o1 f y2) fun r2 =>
    (if r2 = 0 then
      fX0_open_36 k o1 (fX0_open_7 k o1 n) f y2 y2 0
    else
      gd y2 8 <|
      fX0_open_36 k o1 (fX0_open_7 k o1 n) f y2 y2 (f (o1+4) y2.toNatClampNeg)))
def fX0_open (k : Nat) (o1 : Nat) (f : hF) : Option hF :=
  lt (st2 f k 0 0) fun f1 =>
  fX0_open_7 k o1 FU f1 0
def fX2_open (k : Nat) (ro : Nat) (f : hF) : Option hF :=
  b1 (fX0_open (k+1) ro f) fun f1 =>
  some f1
def fX7_lay (f : hF) : Option (Int32 × hF) :=
  b2 (fX3_readFrom 11 1 f) fun r1 f2 =>
  (if r1 = (-4) then
    (if (f2 11 0) < 1 then
      some ((-2), f2)
    else
      (if 1 ≤ (f2 11 1) then
        b2 (fX3_readFrom 3 1 f2) fun r6 f7 =>
        b1 (fX2_open 19 3 f7) fun f8 =>
        lt (st2 f8 47 0 0) fun f9 =>
        lt (st2 f9 52 1 0) fun f10 =>
        lt (st2 f10 126 1 0) fun f11 =>
        some ((f11 3 0), f11)
      else
        some ((-2), f2)))
  else
    some ((-2), f2))
def fX0_slotOf (k : Nat) (f : hF) (x1 : Int32) (x2 : Int32) : Option Int32 :=
  (if x1 < 0 then
    some (-1)
  else
    (if 3 ≤ x1 then
      some (-1)
    else
      (if x2 < 0 then
        some (-1)
      else
        (if 8 ≤ x2 then
          some (-1)
        else
          gd x1 3 <|
          (if (f (k+3) x1.toNatClampNeg) ≤ x2 then
            some (-1)
          else
            some ((x1 * 8) + x2))))))
def fX1_takeEarliest_55 (k : Nat) (bk : Nat) (q4 : hF → Int32 → Int32 → Option (Int32 × hF)) (f : hF) (y2 : Int32) (y3 : Int32) : Option (Int32 × hF) :=
  q4 f y3 (y2 + 1)
def fX1_takeEarliest_4 (k : Nat) (bk : Nat) : Nat → hF → Int32 → Int32 → Option (Int32 × hF)
  | 0, _, _, _ => none
  | n+1, f, y1, y2 =>
  (if 3 ≤ y2 then
    (if y1 = (-1) then
      some (y1, f)
    else
      gd (y1 / 8) 3 <|
      gd (y1 / 8) 3 <|
      lt (st2 f (k+2) (y1 / 8).toNatClampNeg ((f (k+2) (y1 / 8).toNatClampNeg) + 1)) fun f5 =>
      some (y1, f5))
  else
    gd y2 3 <|
    b1 (fX0_slotOf bk f y2 (f (k+2) y2.toNatClampNeg)) fun r7 =>
    (if r7 = (-1) then
      fX1_takeEarliest_4 k bk n f y1 (y2 + 1)
    else
      (if y1 = (-1) then
        fX1_takeEarliest_55 k bk (fX1_takeEarliest_4 k bk n) f y2 r7
      else
        gd r7 24 <|
        gd y1 24 <|
        (if (f (bk+5) y1.toNatClampNeg) ≤ (f (bk+5) r7.toNatClampNeg) then
          fX1_takeEarliest_4 k bk n f y1 (y2 + 1)
        else
          fX1_takeEarliest_55 k bk (fX1_takeEarliest_4 k bk n) f y2 r7))))
def fX1_takeEarliest (k : Nat) (bk : Nat) (f : hF) : Option (Int32 × hF) :=
  fX1_takeEarliest_4 k bk FU f (-1) 0
def fX0_isLine (k : Nat) (f : hF) (x1 : Int32) : Option Int32 :=
  (if x1 < 0 then
    some 0
  else
    (if 24 ≤ x1 then
      some 0
    else
      gd (x1 / 8) 3 <|
      (if (f (k+3) (x1 / 8).toNatClampNeg) ≤ (x1 - x1 / 8 * 8) then
        some 0
      else
        some 1)))
def fX0_isOfTwo (k : Nat) (f : hF) (x1 : Int32) : Option Int32 :=
  b1 (fX0_isLine k f x1) fun r1 =>
  (if r1 = 0 then
    some 0
  else
    gd x1 24 <|
    (if (f (k+4) x1.toNatClampNeg) = 1 then
      some 1
    else
      some 0))
def fX1_isRow (x0 : Int32) : Option Int32 :=
  (if x0 < 0 then
    some 0
  else
    (if 8 ≤ x0 then
      some 0
    else
      some 1))
def fX1_holdIfFree (k : Nat) (bk : Nat) (f : hF) (x1 : Int32) (x2 : Int32) (x3 : Int32) : Option hF :=
  b1 (fX1_isRow x2) fun r1 =>
  (if r1 = 0 then
    some f
  else
    b1 (fX1_isRow x3) fun r3 =>
    (if r3 = 0 then
      some f
    else
      gd x2 8 <|
      (if (f (k+1) x2.toNatClampNeg) = (-1) then
        gd x3 8 <|
        (if (f (k+1) x3.toNatClampNeg) = (-1) then
          gd x2 8 <|
          lt (st2 f (k+1) x2.toNatClampNeg x1) fun f10 =>
          gd x3 8 <|
          lt (st2 f10 (k+1) x3.toNatClampNeg x1) fun f12 =>
          some f12
        else
          some f)
      else
        some f)))
def fX1_settle_43 (k : Nat) (bk : Nat) (x1 : Int32) : Nat → hF → Int32 → Option hF
  | 0, _, _ => none
  | n+1, f, y2 =>
  (if 24 ≤ y2 then
    some f
  else
    b2 (fX1_takeEarliest k bk f) fun r2 f3 =>
    (if r2 = x1 then
      fX1_settle_43 k bk x1 n f3 (y2 + 1)
    else
      b1 (fX0_isOfTwo bk f3 r2) fun r5 =>
      (if r5 = 0 then
        fX1_settle_43 k bk x1 n f3 (y2 + 1)
      else
        gd r2 24 <|
        gd r2 24 <|
        b1 (fX1_holdIfFree k bk f3 r2 (f3 (bk+6) r2.toNatClampNeg) (f3 (bk+7) r2.toNatClampNeg)) fun f9 =>
        fX1_settle_43 k bk x1 n f9 (y2 + 1))))
def fX1_settle_23 (k : Nat) (bk : Nat) (x1 : Int32) : Nat → hF → Int32 → Option hF
  | 0, _, _ => none
  | n+1, f, y2 =>
  (if 3 ≤ y2 then
    fX1_settle_43 k bk x1 FU f 0
  else
    gd y2 3 <|
    lt (st2 f (k+2) y2.toNatClampNeg 0) fun f3 =>
    fX1_settle_23 k bk x1 n f3 (y2 + 1))
def fX1_settle_2 (k : Nat) (bk : Nat) (x1 : Int32) : Nat → hF → Int32 → Option hF
  | 0, _, _ => none
  | n+1, f, y2 =>
  (if 8 ≤ y2 then
    fX1_settle_23 k bk x1 FU f 0
  else
    gd y2 8 <|
    lt (st2 f (k+1) y2.toNatClampNeg (-1)) fun f3 =>
    fX1_settle_2 k bk x1 n f3 (y2 + 1))
def fX1_settle (k : Nat) (bk : Nat) (f : hF) (x1 : Int32) : Option hF :=
  fX1_settle_2 k bk x1 FU f 0
def fX2_settle (k : Nat) (ro : Nat) (f : hF) : Option hF :=
  b1 (fX1_settle (k+10) (k+1) f ((-1) : Int32)) fun f1 =>
  some f1
def fX1_mateOf_17 (k : Nat) (bk : Nat) (f : hF) (x1 : Int32) (x2 : Int32) (s0 : Int32) : Option Int32 :=
  b1 (fX0_isOfTwo bk f s0) fun r1 =>
  (if r1 = 0 then
    some (-4)
  else
    gd s0 24 <|
    (if (f (bk+5) s0.toNatClampNeg) ≤ x2 then
      gd s0 24 <|
      (if (f (bk+6) s0.toNatClampNeg) = x1 then
        gd s0 24 <|
        some (f (bk+7) s0.toNatClampNeg)
      else
        gd s0 24 <|
        some (f (bk+6) s0.toNatClampNeg))
    else
      some (-4)))
def fX1_mateOf (k : Nat) (bk : Nat) (f : hF) (x1 : Int32) (x2 : Int32) : Option Int32 :=
  b1 (fX1_isRow x1) fun r1 =>
  (if r1 = 0 then
    fX1_mateOf_17 k bk f x1 x2 (-1)
  else
    gd x1 8 <|
    fX1_mateOf_17 k bk f x1 x2 (f (k+1) x1.toNatClampNeg))
def fX2_mateBy (k : Nat) (ro : Nat) (f : hF) (x1 : Int32) (x2 : Int32) : Option (Int32 × hF) :=
  b1 (fX2_settle k ro f) fun f1 =>
  b1 (fX1_mateOf (k+10) (k+1) f1 x1 x2) fun r2 =>
  some (r2, f1)
def fX2_mateToday (k : Nat) (ro : Nat) (f : hF) (x1 : Int32) : Option (Int32 × hF) :=
  b2 (fX2_mateBy k ro f x1 (f (k+1) 0)) fun r1 f2 =>
  some (r1, f2)
def fX2_owedBy_108 (k : Nat) (ro : Nat) (x1 : Int32) (f : hF) (s0 : Int32) : Option (Int32 × hF) :=
  gd x1 8 <|
  some (((f (ro+3) x1.toNatClampNeg) + s0), f)
def fX2_owedBy (k : Nat) (ro : Nat) (f : hF) (x1 : Int32) : Option (Int32 × hF) :=
  b1 (fX3_isPerson ro f x1) fun r1 =>
  (if r1 = 0 then
    some (0, f)
  else
    b2 (fX2_mateToday k ro f x1) fun r3 f4 =>
    gd x1 8 <|
    (if (f4 (ro+1) x1.toNatClampNeg) = 0 then
      b1 (fX3_isPerson ro f4 r3) fun r7 =>
      (if r7 = 0 then
        gd x1 8 <|
        some ((f4 (ro+3) x1.toNatClampNeg), f4)
      else
        gd r3 8 <|
        (if (f4 (ro+2) r3.toNatClampNeg) = 1 then
          gd r3 8 <|
          fX2_owedBy_108 k ro x1 f4 ((f4 (ro+3) r3.toNatClampNeg) / 2)
        else
          gd r3 8 <|
          fX2_owedBy_108 k ro x1 f4 (f4 (ro+3) r3.toNatClampNeg)))
    else
      (if r3 = (-4) then
        gd x1 8 <|
        some ((f4 (ro+3) x1.toNatClampNeg), f4)
      else
        some (0, f4))))
def fX0_linesWith_4 (k : Nat) (f : hF) (x1 : Int32) : Nat → Int32 → Int32 → Option Int32
  | 0, _, _ => none
  | n+1, y2, y3 =>
  (if 24 ≤ y3 then
    some y2
  else
    b1 (fX0_isOfTwo k f y3) fun r2 =>
    (if r2 = 0 then
      fX0_linesWith_4 k f x1 n y2 (y3 + 1)
    else
      gd y3 24 <|
      (if (f (k+6) y3.toNatClampNeg) = x1 then
        fX0_linesWith_4 k f x1 n (y2 + 1) (y3 + 1)
      else
        gd y3 24 <|
        (if (f (k+7) y3.toNatClampNeg) = x1 then
          fX0_linesWith_4 k f x1 n (y2 + 1) (y3 + 1)
        else
          fX0_linesWith_4 k f x1 n y2 (y3 + 1)))))
def fX0_linesWith (k : Nat) (f : hF) (x1 : Int32) : Option Int32 :=
  fX0_linesWith_4 k f x1 FU 0 0
def fX7_person (f : hF) (x1 : Int32) (x2 : Int32) : Option (Int32 × hF) :=
  b1 (fX3_isPerson 3 f x1) fun r1 =>
  (if r1 = 0 then
    some ((-1), f)
  else
    (if x2 = 0 then
      gd x1 8 <|
      (if (f 4 x1.toNatClampNeg) = 0 then
        some (0, f)
      else
        some (1, f))
    else
    (if x2 = 1 then
      gd x1 8 <|
      some ((f 5 x1.toNatClampNeg), f)
    else
    (if x2 = 2 then
      gd x1 8 <|
      some ((f 6 x1.toNatClampNeg), f)
    else
    (if x2 = 3 then
      gd x1 8 <|
      some ((f 21 x1.toNatClampNeg), f)
    else
    (if x2 = 4 then
      b2 (fX2_mateToday 19 3 f x1) fun r8 f9 =>
      some (r8, f9)
    else
    (if x2 = 5 then
      b2 (fX2_owedBy 19 3 f x1) fun r10 f11 =>
      some (r10, f11)
    else
    (if x2 = 6 then
      b1 (fX0_linesWith 20 f x1) fun r12 =>
      some (r12, f)
    else
      some ((-1), f)))))))))
def fX3_isParson (k : Nat) (f : hF) (x1 : Int32) : Option Int32 :=
  (if x1 < 0 then
    some 0
  else
    (if (f k 1) ≤ x1 then
      some 0
    else
      some 1))
def fX0_blanksOf_4 (k : Nat) (f : hF) (x1 : Int32) : Nat → Int32 → Int32 → Option Int32
  | 0, _, _ => none
  | n+1, y2, y3 =>
  (if 8 ≤ y3 then
    some y2
  else
    b1 (fX0_slotOf k f x1 y3) fun r2 =>
    (if r2 = (-1) then
      fX0_blanksOf_4 k f x1 n y2 (y3 + 1)
    else
      gd r2 24 <|
      (if (f (k+4) r2.toNatClampNeg) = 0 then
        fX0_blanksOf_4 k f x1 n (y2 + 1) (y3 + 1)
      else
        fX0_blanksOf_4 k f x1 n y2 (y3 + 1))))
def fX0_blanksOf (k : Nat) (f : hF) (x1 : Int32) : Option Int32 :=
  fX0_blanksOf_4 k f x1 FU 0 0
def fX7_parson (f : hF) (x1 : Int32) (x2 : Int32) : Option Int32 :=
  b1 (fX3_isParson 3 f x1) fun r1 =>
  (if r1 = 0 then
    some (-1)
  else
    (if x2 = 0 then
      gd x1 3 <|
      some (f 8 x1.toNatClampNeg)
    else
    (if x2 = 1 then
      gd x1 3 <|
      some (f 9 x1.toNatClampNeg)
    else
    (if x2 = 2 then
      gd x1 3 <|
      some (f 23 x1.toNatClampNeg)
    else
    (if x2 = 3 then
      b1 (fX0_blanksOf 20 f x1) fun r6 =>
      some r6
    else
    (if x2 = 4 then
      gd x1 3 <|
      some (f 22 x1.toNatClampNeg)
    else
      some (-1)))))))
def fX1_isHeld (k : Nat) (bk : Nat) (f : hF) (x1 : Int32) : Option Int32 :=
  b1 (fX0_isOfTwo bk f x1) fun r1 =>
  (if r1 = 0 then
    some 0
  else
    gd x1 24 <|
    b1 (fX1_isRow (f (bk+6) x1.toNatClampNeg)) fun r4 =>
    (if r4 = 0 then
      some 0
    else
      gd x1 24 <|
      gd (f (bk+6) x1.toNatClampNeg) 8 <|
      (if (f (k+1) (f (bk+6) x1.toNatClampNeg).toNatClampNeg) = x1 then
        some 1
      else
        some 0)))
def fX2_isHeld (k : Nat) (ro : Nat) (f : hF) (x1 : Int32) : Option (Int32 × hF) :=
  b1 (fX2_settle k ro f) fun f1 =>
  b1 (fX1_isHeld (k+10) (k+1) f1 x1) fun r2 =>
  nr .boolean r2 <|
  some (r2, f1)
def fX7_line_44 (x1 : Int32) (x2 : Int32) (x3 : Int32) (f : hF) (y4 : Int32) (s0 : Int32) : Option (Int32 × hF) :=
  (if x3 = 0 then
    gd y4 24 <|
    some ((f 25 y4.toNatClampNeg), f)
  else
  (if x3 = 1 then
    (if s0 = 0 then
      some ((-4), f)
    else
      gd y4 24 <|
      some ((f 26 y4.toNatClampNeg), f))
  else
  (if x3 = 2 then
    (if s0 = 0 then
      some ((-4), f)
    else
      gd y4 24 <|
      some ((f 27 y4.toNatClampNeg), f))
  else
  (if x3 = 3 then
    gd y4 24 <|
    (if (f 24 y4.toNatClampNeg) = 0 then
      some (1, f)
    else
      some (0, f))
  else
  (if x3 = 4 then
    b2 (fX2_isHeld 19 3 f y4) fun r8 f9 =>
    (if r8 = 0 then
      some (0, f9)
    else
      some (1, f9))
  else
  (if x3 = 5 then
    (if s0 = 0 then
      some ((-4), f)
    else
      gd y4 24 <|
      some ((f 28 y4.toNatClampNeg), f))
  else
    some ((-1), f)))))))
def fX7_line (f : hF) (x1 : Int32) (x2 : Int32) (x3 : Int32) : Option (Int32 × hF) :=
  b1 (fX0_slotOf 20 f x1 x2) fun r1 =>
  (if r1 = (-1) then
    some ((-1), f)
  else
    gd r1 24 <|
    (if (f 24 r1.toNatClampNeg) = 1 then
      fX7_line_44 x1 x2 x3 f r1 1
    else
      fX7_line_44 x1 x2 x3 f r1 0))
def fX3_areTwo (k : Nat) (f : hF) (x1 : Int32) (x2 : Int32) : Option Int32 :=
  (if x1 = x2 then
    some 0
  else
    (if x1 < 0 then
      some 0
    else
      (if (f k 0) ≤ x1 then
        some 0
      else
        (if x2 < 0 then
          some 0
        else
          (if (f k 0) ≤ x2 then
            some 0
          else
            some 1)))))
def fX3_canPair_55 (k : Nat) (f : hF) (x1 : Int32) (x2 : Int32) (y3 : Int32) (s0 : Int32) : Option Int32 :=
  gd s0 8 <|
  (if (f (k+2) s0.toNatClampNeg) = 2 then
    gd y3 8 <|
    (if (f (k+2) y3.toNatClampNeg) = 2 then
      some 1
    else
      some 0)
  else
    some 1)
def fX3_canPair_40 (k : Nat) (f : hF) (x1 : Int32) (x2 : Int32) (s0 : Int32) : Option Int32 :=
  gd x1 8 <|
  (if (f (k+1) x1.toNatClampNeg) = 0 then
    fX3_canPair_55 k f x1 x2 s0 x2
  else
    fX3_canPair_55 k f x1 x2 s0 x1)
def fX3_canPair (k : Nat) (f : hF) (x1 : Int32) (x2 : Int32) : Option Int32 :=
  b1 (fX3_areTwo k f x1 x2) fun r1 =>
  (if r1 = 0 then
    some 0
  else
    gd x1 8 <|
    gd x2 8 <|
    (if (f (k+1) x1.toNatClampNeg) = (f (k+1) x2.toNatClampNeg) then
      some 0
    else
      gd x1 8 <|
      (if (f (k+1) x1.toNatClampNeg) = 0 then
        fX3_canPair_40 k f x1 x2 x1
      else
        fX3_canPair_40 k f x1 x2 x2)))
def fX2_isLaw (k : Nat) (ro : Nat) (f : hF) : Option Int32 :=
  (if (f (k+1) 0) < (f ro 2) then
    some 0
  else
    some 1)
def fX2_canPay (k : Nat) (ro : Nat) (f : hF) (x1 : Int32) (x2 : Int32) (x3 : Int32) : Option Int32 :=
  b1 (fX3_isPerson ro f x1) fun r1 =>
  (if r1 = 0 then
    some 0
  else
    b1 (fX3_isPerson ro f x2) fun r3 =>
    (if r3 = 0 then
      some 0
    else
      gd x1 8 <|
      gd x2 8 <|
      (if ((f ((k+1)+1) x1.toNatClampNeg) + (f ((k+1)+1) x2.toNatClampNeg)) < x3 then
        some 0
      else
        some 1)))
def fX0_hasRoom (k : Nat) (f : hF) (x1 : Int32) : Option Int32 :=
  (if x1 < 0 then
    some 0
  else
    (if 3 ≤ x1 then
      some 0
    else
      gd x1 3 <|
      (if 8 ≤ (f (k+3) x1.toNatClampNeg) then
        some 0
      else
        some 1)))
def fX2_refuseWedding (k : Nat) (ro : Nat) (f : hF) (x1 : Int32) (x2 : Int32) (x3 : Int32) : Option Int32 :=
  b1 (fX3_isParson ro f x1) fun r1 =>
  (if r1 = 0 then
    some (-2)
  else
    b1 (fX3_canPair ro f x2 x3) fun r3 =>
    (if r3 = 0 then
      some (-2)
    else
      b1 (fX2_isLaw k ro f) fun r5 =>
      (if r5 = 0 then
        gd x1 3 <|
        b1 (fX2_canPay k ro f x2 x3 (f (ro+6) x1.toNatClampNeg)) fun r8 =>
        (if r8 = 0 then
          some (-2)
        else
          b1 (fX0_hasRoom (k+1) f x1) fun r10 =>
          (if r10 = 0 then
            some (-3)
          else
            some 0))
      else
        some (-2))))
def fX5_dropOldest_18 (k : Nat) (w : Nat) : Nat → hF → Nat → Int32 → Option hF
  | 0, _, _, _ => none
  | n+1, f, y1, y2 =>
  (if (Int32.ofNat w) ≤ y2 then
    gd ((Int32.ofNat w) - 1) w <|
    lt (st2 f (k+1) ((Int32.ofNat w) - 1).toNatClampNeg (nI y1)) fun f3 =>
    lt (st2 f3 k 1 ((Int32.ofNat w) - 1)) fun f4 =>
    some f4
  else
    gd y2 w <|
    ckB k w (f (k+1) y2.toNatClampNeg) fun b6 =>
    gd (y2 - 1) w <|
    lt (st2 f (k+1) (y2 - 1).toNatClampNeg (nI b6)) fun f8 =>
    fX5_dropOldest_18 k w n f8 y1 (y2 + 1))
def fX5_dropOldest (k : Nat) (w : Nat) (f : hF) : Option hF :=
  (if (Int32.ofNat w) = 0 then
    some f
  else
    gd 0 w <|
    ckB k w (f (k+1) (0 : Int32).toNatClampNeg) fun b3 =>
    fX5_dropOldest_18 k w FU f b3 1)
def fX0_copyFrom (k : Nat) (o1 : Nat) (f : hF) : Option hF :=
  lt (st2 f k 0 (f o1 0)) fun f1 =>
  lt (stA f1 (k+1) (va_cpy (f1 (o1+1)) (f1 (k+1)) 0 0 8)) fun f2 =>
  lt (stA f2 (k+2) (va_cpy (f2 (o1+2)) (f2 (k+2)) 0 0 3)) fun f3 =>
  lt (stA f3 (k+3) (va_cpy (f3 (o1+3)) (f3 (k+3)) 0 0 3)) fun f4 =>
  lt (stA f4 (k+4) (va_cpy (f4 (o1+4)) (f4 (k+4)) 0 0 24)) fun f5 =>
  lt (stA f5 (k+5) (va_cpy (f5 (o1+5)) (f5 (k+5)) 0 0 24)) fun f6 =>
  lt (stA f6 (k+6) (va_cpy (f6 (o1+6)) (f6 (k+6)) 0 0 24)) fun f7 =>
  lt (stA f7 (k+7) (va_cpy (f7 (o1+7)) (f7 (k+7)) 0 0 24)) fun f8 =>
  lt (stA f8 (k+8) (va_cpy (f8 (o1+8)) (f8 (k+8)) 0 0 24)) fun f9 =>
  some f9
def fX5_put_16 (k : Nat) (w : Nat) (o1 : Nat) (f : hF) : Option hF :=
  (if (f k 1) < 0 then
    some f
  else
    (if (Int32.ofNat w) ≤ (f k 1) then
      some f
    else
      gd (f k 1) w <|
      ckB k w (f (k+1) (f k 1).toNatClampNeg) fun b4 =>
      b1 (fX0_copyFrom b4 o1 f) fun f5 =>
      lt (st2 f5 k 1 ((f5 k 1) + 1)) fun f6 =>
      some f6))
def fX5_put (k : Nat) (w : Nat) (o1 : Nat) (f : hF) : Option hF :=
  (if (f k 1) < (Int32.ofNat w) then
    fX5_put_16 k w o1 f
  else
    b1 (fX5_dropOldest k w f) fun f2 =>
    fX5_put_16 k w o1 f2)
def fX0_begin (k : Nat) (f : hF) (x1 : Int32) : Option (Int32 × hF) :=
  b1 (fX0_hasRoom k f x1) fun r1 =>
  (if r1 = 0 then
    some ((-3), f)
  else
    gd x1 3 <|
    gd x1 3 <|
    gd x1 3 <|
    lt (st2 f (k+3) x1.toNatClampNeg ((f (k+3) x1.toNatClampNeg) + 1)) fun f6 =>
    b1 (fX0_slotOf k f6 x1 (f (k+3) x1.toNatClampNeg)) fun r7 =>
    (if r7 = (-1) then
      some ((-3), f6)
    else
      gd r7 24 <|
      lt (st2 f6 (k+4) r7.toNatClampNeg 0) fun f10 =>
      gd r7 24 <|
      lt (st2 f10 (k+5) r7.toNatClampNeg (f10 k 0)) fun f12 =>
      some ((f (k+3) x1.toNatClampNeg), f12)))
def fX2_writeTwo_74 (k : Nat) (ro : Nat) (x1 : Int32) (x2 : Int32) (x3 : Int32) (x4 : Int32) (x5 : Int32) (f : hF) (y6 : Int32) (s0 : Int32) : Option hF :=
  gd y6 8 <|
  gd y6 8 <|
  gd y6 8 <|
  lt (st2 f ((k+1)+1) y6.toNatClampNeg ((f ((k+1)+1) y6.toNatClampNeg) - (if x5 < (f ((k+1)+1) y6.toNatClampNeg) then x5 else (f ((k+1)+1) y6.toNatClampNeg)))) fun f4 =>
  gd s0 8 <|
  gd s0 8 <|
  lt (st2 f4 ((k+1)+1) s0.toNatClampNeg ((f4 ((k+1)+1) s0.toNatClampNeg) - (x5 - (if x5 < (f ((k+1)+1) y6.toNatClampNeg) then x5 else (f ((k+1)+1) y6.toNatClampNeg))))) fun f7 =>
  gd x1 3 <|
  gd x1 3 <|
  lt (st2 f7 ((k+1)+2) x1.toNatClampNeg ((f7 ((k+1)+2) x1.toNatClampNeg) + x5)) fun f10 =>
  gd x2 24 <|
  lt (st2 f10 ((k+1)+4) x2.toNatClampNeg 1) fun f12 =>
  gd x2 24 <|
  lt (st2 f12 ((k+1)+6) x2.toNatClampNeg y6) fun f14 =>
  gd x2 24 <|
  lt (st2 f14 ((k+1)+7) x2.toNatClampNeg s0) fun f16 =>
  gd x2 24 <|
  lt (st2 f16 ((k+1)+8) x2.toNatClampNeg (f16 (k+1) 0)) fun f18 =>
  some f18
def fX2_writeTwo_54 (k : Nat) (ro : Nat) (x1 : Int32) (x2 : Int32) (x3 : Int32) (x4 : Int32) (x5 : Int32) (f : hF) (s0 : Int32) : Option hF :=
  gd x3 8 <|
  (if (f (ro+1) x3.toNatClampNeg) = 0 then
    fX2_writeTwo_74 k ro x1 x2 x3 x4 x5 f s0 x4
  else
    fX2_writeTwo_74 k ro x1 x2 x3 x4 x5 f s0 x3)
def fX2_writeTwo (k : Nat) (ro : Nat) (f : hF) (x1 : Int32) (x2 : Int32) (x3 : Int32) (x4 : Int32) (x5 : Int32) : Option hF :=
  b1 (fX3_isParson ro f x1) fun r1 =>
  (if r1 = 0 then
    some f
  else
    b1 (fX0_isLine (k+1) f x2) fun r3 =>
    (if r3 = 0 then
      some f
    else
      b1 (fX3_areTwo ro f x3 x4) fun r5 =>
      (if r5 = 0 then
        some f
      else
        gd x3 8 <|
        (if (f (ro+1) x3.toNatClampNeg) = 0 then
          fX2_writeTwo_54 k ro x1 x2 x3 x4 x5 f x3
        else
          fX2_writeTwo_54 k ro x1 x2 x3 x4 x5 f x4))))
def fX2_writeWedding (k : Nat) (ro : Nat) (f : hF) (x1 : Int32) (x2 : Int32) (x3 : Int32) : Option (Int32 × hF) :=
  b2 (fX0_begin (k+1) f x1) fun r1 f2 =>
  b1 (fX0_slotOf (k+1) f2 x1 r1) fun r3 =>
  (if r3 = (-1) then
    some (r1, f2)
  else
    gd x1 3 <|
    b1 (fX2_writeTwo k ro f2 x1 r3 x2 x3 (f2 (ro+6) x1.toNatClampNeg)) fun f6 =>
    some (r1, f6))
def fX7_wed (f : hF) (x1 : Int32) (x2 : Int32) (x3 : Int32) : Option (Int32 × hF) :=
  b1 (fX3_isParson 3 f x1) fun r1 =>
  (if r1 = 0 then
    some ((-1), f)
  else
    b1 (fX3_areTwo 3 f x2 x3) fun r3 =>
    (if r3 = 0 then
      some ((-1), f)
    else
      b1 (fX2_refuseWedding 19 3 f x1 x2 x3) fun r5 =>
      (if r5 = 0 then
        b1 (fX5_put 52 8 20 f) fun f7 =>
        b2 (fX2_writeWedding 19 3 f7 x1 x2 x3) fun r8 f9 =>
        some (r8, f9)
      else
        some (r5, f))))
def fX2_refuseBlank_61 (k : Nat) (ro : Nat) (f : hF) (x1 : Int32) : Option Int32 :=
  b1 (fX0_hasRoom (k+1) f x1) fun r1 =>
  (if r1 = 0 then
    some (-3)
  else
    some 0)
def fX2_refuseBlank (k : Nat) (ro : Nat) (f : hF) (x1 : Int32) : Option Int32 :=
  b1 (fX3_isParson ro f x1) fun r1 =>
  (if r1 = 0 then
    some (-2)
  else
    gd x1 3 <|
    (if (f (ro+5) x1.toNatClampNeg) = 0 then
      some (-2)
    else
      b1 (fX2_isLaw k ro f) fun r5 =>
      (if r5 = 0 then
        gd x1 3 <|
        (if (f (ro+5) x1.toNatClampNeg) = 1 then
          b1 (fX0_blanksOf (k+1) f x1) fun r9 =>
          (if r9 < 2 then
            fX2_refuseBlank_61 k ro f x1
          else
            some (-2))
        else
          fX2_refuseBlank_61 k ro f x1)
      else
        some (-2))))
def fX7_leave (f : hF) (x1 : Int32) : Option (Int32 × hF) :=
  b1 (fX3_isParson 3 f x1) fun r1 =>
  (if r1 = 0 then
    some ((-1), f)
  else
    b1 (fX2_refuseBlank 19 3 f x1) fun r3 =>
    (if r3 = 0 then
      b1 (fX5_put 52 8 20 f) fun f5 =>
      b2 (fX0_begin 20 f5 x1) fun r6 f7 =>
      some (r6, f7)
    else
      some (r3, f)))
def fX2_costToFill (k : Nat) (ro : Nat) (f : hF) (x1 : Int32) (x2 : Int32) : Option Int32 :=
  b1 (fX3_isParson ro f x1) fun r1 =>
  (if r1 = 0 then
    some 0
  else
    b1 (fX0_isLine (k+1) f x2) fun r3 =>
    (if r3 = 0 then
      some 0
    else
      gd x2 24 <|
      gd x1 3 <|
      gd x1 3 <|
      (if (f (ro+5) x1.toNatClampNeg) = 2 then
        some ((f (ro+6) x1.toNatClampNeg) + (((f (k+1) 0) - (f ((k+1)+5) x2.toNatClampNeg)) / 2))
      else
        some ((f (ro+6) x1.toNatClampNeg) + ((f (k+1) 0) - (f ((k+1)+5) x2.toNatClampNeg))))))
def fX7_fill (f : hF) (x1 : Int32) (x2 : Int32) (x3 : Int32) (x4 : Int32) : Option (Int32 × hF) :=
  b1 (fX0_slotOf 20 f x1 x2) fun r1 =>
  (if r1 = (-1) then
    some ((-1), f)
  else
    b1 (fX3_areTwo 3 f x3 x4) fun r3 =>
    (if r3 = 0 then
      some ((-1), f)
    else
      gd r1 24 <|
      (if (f 24 r1.toNatClampNeg) = 0 then
        b1 (fX3_canPair 3 f x3 x4) fun r7 =>
        (if r7 = 0 then
          some ((-2), f)
        else
          b1 (fX2_costToFill 19 3 f x1 r1) fun r9 =>
          b1 (fX2_canPay 19 3 f x3 x4 r9) fun r10 =>
          (if r10 = 0 then
            some ((-2), f)
          else
            b1 (fX5_put 52 8 20 f) fun f12 =>
            b1 (fX2_writeTwo 19 3 f12 x1 r1 x3 x4 r9) fun f13 =>
            some (r9, f13)))
      else
        some ((-2), f))))
def fX2_countHeld_8 (k : Nat) (ro : Nat) : Nat → hF → Int32 → Int32 → Option (Int32 × hF)
  | 0, _, _, _ => none
  | n+1, f, y1, y2 =>
  (if 24 ≤ y2 then
    some (y1, f)
  else
    b1 (fX1_isHeld (k+10) (k+1) f y2) fun r2 =>
    (if r2 = 0 then
      fX2_countHeld_8 k ro n f y1 (y2 + 1)
    else
      fX2_countHeld_8 k ro n f (y1 + 1) (y2 + 1)))
def fX2_countHeld (k : Nat) (ro : Nat) (f : hF) : Option (Int32 × hF) :=
  b1 (fX2_settle k ro f) fun f1 =>
  fX2_countHeld_8 k ro FU f1 0 0
def fX7_strike (f : hF) (x1 : Int32) (x2 : Int32) : Option (Int32 × hF) :=
  b1 (fX0_slotOf 20 f x1 x2) fun r1 =>
  (if r1 = (-1) then
    some ((-1), f)
  else
    gd r1 24 <|
    (if (f 24 r1.toNatClampNeg) = 1 then
      b1 (fX5_put 52 8 20 f) fun f5 =>
      gd r1 24 <|
      lt (st2 f5 24 r1.toNatClampNeg 2) fun f7 =>
      b2 (fX2_countHeld 19 3 f7) fun r8 f9 =>
      some (r8, f9)
    else
      some ((-2), f)))
def fX7_pass (f : hF) (x1 : Int32) : Option (Int32 × hF) :=
  (if x1 < 1 then
    some ((-1), f)
  else
    (if x1 ≤ 30 then
      b1 (fX5_put 52 8 20 f) fun f3 =>
      lt (st2 f3 20 0 ((f3 20 0) + x1)) fun f4 =>
      some ((f4 20 0), f4)
    else
      some ((-1), f)))
def fX5_takeInto (k : Nat) (w : Nat) (o1 : Nat) (f : hF) : Option (Int32 × hF) :=
  (if (f k 1) < 1 then
    some (0, f)
  else
    (if (f k 1) ≤ (Int32.ofNat w) then
      lt (st2 f k 1 ((f k 1) - 1)) fun f3 =>
      gd (f3 k 1) w <|
      ckB k w (f3 (k+1) (f3 k 1).toNatClampNeg) fun b5 =>
      b1 (fX0_copyFrom o1 b5 f3) fun f6 =>
      some (1, f6)
    else
      some (0, f)))
def fX7_undo (f : hF) : Option (Int32 × hF) :=
  b2 (fX5_takeInto 52 8 20 f) fun r1 f2 =>
  (if r1 = 0 then
    some ((-2), f2)
  else
    some ((f2 52 1), f2))
def fX7_isDay (x0 : Int32) : Option Int32 :=
  (if x0 < 0 then
    some 0
  else
    (if 999 < x0 then
      some 0
    else
      some 1))
def fX7_mate (f : hF) (x1 : Int32) (x2 : Int32) : Option (Int32 × hF) :=
  b1 (fX3_isPerson 3 f x1) fun r1 =>
  (if r1 = 0 then
    some ((-1), f)
  else
    b1 (fX7_isDay x2) fun r3 =>
    (if r3 = 0 then
      some ((-1), f)
    else
      b2 (fX2_mateBy 19 3 f x1 x2) fun r5 f6 =>
      some (r5, f6)))
def fX7_twice_4 (f : hF) : Nat → Int32 → Int32 → Option Int32
  | 0, _, _ => none
  | n+1, y1, y2 =>
  (if (f 3 0) ≤ y2 then
    some y1
  else
    b1 (fX0_linesWith 20 f y2) fun r2 =>
    (if r2 < 2 then
      fX7_twice_4 f n y1 (y2 + 1)
    else
      fX7_twice_4 f n (y1 ||| (1 <<< (y2 &&& 31))) (y2 + 1)))
def fX7_twice (f : hF) : Option Int32 :=
  fX7_twice_4 f FU 0 0
def fX0_countOf_4 (k : Nat) (f : hF) (x1 : Int32) : Nat → Int32 → Int32 → Option Int32
  | 0, _, _ => none
  | n+1, y2, y3 =>
  (if 24 ≤ y3 then
    some y2
  else
    b1 (fX0_isLine k f y3) fun r2 =>
    (if r2 = 0 then
      fX0_countOf_4 k f x1 n y2 (y3 + 1)
    else
      gd y3 24 <|
      (if (f (k+4) y3.toNatClampNeg) = x1 then
        fX0_countOf_4 k f x1 n (y2 + 1) (y3 + 1)
      else
        fX0_countOf_4 k f x1 n y2 (y3 + 1))))
def fX0_countOf (k : Nat) (f : hF) (x1 : Int32) : Option Int32 :=
  fX0_countOf_4 k f x1 FU 0 0
def fX2_linkPersons_23 (k : Nat) (ro : Nat) : Nat → hF → Int32 → Option hF
  | 0, _, _ => none
  | n+1, f, y1 =>
  (if 24 ≤ y1 then
    some f
  else
    b1 (fX0_isOfTwo (k+1) f y1) fun r2 =>
    (if r2 = 0 then
      fX2_linkPersons_23 k ro n f (y1 + 1)
    else
      gd y1 24 <|
      gd y1 24 <|
      b1 (fX3_areTwo ro f (f ((k+1)+6) y1.toNatClampNeg) (f ((k+1)+7) y1.toNatClampNeg)) fun r6 =>
      (if r6 = 0 then
        fX2_linkPersons_23 k ro n f (y1 + 1)
      else
        gd y1 24 <|
        gd (f ((k+1)+6) y1.toNatClampNeg) 8 <|
        gd y1 24 <|
        gd (f ((k+1)+6) y1.toNatClampNeg) 8 <|
        lt (st2 f (k+13) (f ((k+1)+6) y1.toNatClampNeg).toNatClampNeg ((f (k+13) (f ((k+1)+6) y1.toNatClampNeg).toNatClampNeg) ||| (1 <<< ((f ((k+1)+7) y1.toNatClampNeg) &&& 31)))) fun f12 =>
        fX2_linkPersons_23 k ro n f12 (y1 + 1))))
def fX2_linkPersons_2 (k : Nat) (ro : Nat) : Nat → hF → Int32 → Option hF
  | 0, _, _ => none
  | n+1, f, y1 =>
  (if 8 ≤ y1 then
    fX2_linkPersons_23 k ro FU f 0
  else
    gd y1 8 <|
    lt (st2 f (k+13) y1.toNatClampNeg 0) fun f3 =>
    fX2_linkPersons_2 k ro n f3 (y1 + 1))
def fX2_linkPersons (k : Nat) (ro : Nat) (f : hF) : Option hF :=
  fX2_linkPersons_2 k ro FU f 0
def fJ6_bitCount_0f7a4 (x0 : Int32) : Option Int32 :=
  some ((((((((x0 - ((((x0).toUInt32 >>> ((1 : Int32).toUInt32 &&& Int32.toUInt32 31)).toInt32) &&& 1431655765)) &&& 858993459) + (((((x0 - ((((x0).toUInt32 >>> ((1 : Int32).toUInt32 &&& Int32.toUInt32 31)).toInt32) &&& 1431655765))).toUInt32 >>> ((2 : Int32).toUInt32 &&& Int32.toUInt32 31)).toInt32) &&& 858993459)) + ((((((x0 - ((((x0).toUInt32 >>> ((1 : Int32).toUInt32 &&& Int32.toUInt32 31)).toInt32) &&& 1431655765)) &&& 858993459) + (((((x0 - ((((x0).toUInt32 >>> ((1 : Int32).toUInt32 &&& Int32.toUInt32 31)).toInt32) &&& 1431655765))).toUInt32 >>> ((2 : Int32).toUInt32 &&& Int32.toUInt32 31)).toInt32) &&& 858993459))).toUInt32 >>> ((4 : Int32).toUInt32 &&& Int32.toUInt32 31)).toInt32)) &&& 252645135) + ((((((((x0 - ((((x0).toUInt32 >>> ((1 : Int32).toUInt32 &&& Int32.toUInt32 31)).toInt32) &&& 1431655765)) &&& 858993459) + (((((x0 - ((((x0).toUInt32 >>> ((1 : Int32).toUInt32 &&& Int32.toUInt32 31)).toInt32) &&& 1431655765))).toUInt32 >>> ((2 : Int32).toUInt32 &&& Int32.toUInt32 31)).toInt32) &&& 858993459)) + ((((((x0 - ((((x0).toUInt32 >>> ((1 : Int32).toUInt32 &&& Int32.toUInt32 31)).toInt32) &&& 1431655765)) &&& 858993459) + (((((x0 - ((((x0).toUInt32 >>> ((1 : Int32).toUInt32 &&& Int32.toUInt32 31)).toInt32) &&& 1431655765))).toUInt32 >>> ((2 : Int32).toUInt32 &&& Int32.toUInt32 31)).toInt32) &&& 858993459))).toUInt32 >>> ((4 : Int32).toUInt32 &&& Int32.toUInt32 31)).toInt32)) &&& 252645135)).toUInt32 >>> ((8 : Int32).toUInt32 &&& Int32.toUInt32 31)).toInt32)) + (((((((((x0 - ((((x0).toUInt32 >>> ((1 : Int32).toUInt32 &&& Int32.toUInt32 31)).toInt32) &&& 1431655765)) &&& 858993459) + (((((x0 - ((((x0).toUInt32 >>> ((1 : Int32).toUInt32 &&& Int32.toUInt32 31)).toInt32) &&& 1431655765))).toUInt32 >>> ((2 : Int32).toUInt32 &&& Int32.toUInt32 31)).toInt32) &&& 858993459)) + ((((((x0 - ((((x0).toUInt32 >>> ((1 : Int32).toUInt32 &&& Int32.toUInt32 31)).toInt32) &&& 1431655765)) &&& 858993459) + (((((x0 - ((((x0).toUInt32 >>> ((1 : Int32).toUInt32 &&& Int32.toUInt32 31)).toInt32) &&& 1431655765))).toUInt32 >>> ((2 : Int32).toUInt32 &&& Int32.toUInt32 31)).toInt32) &&& 858993459))).toUInt32 >>> ((4 : Int32).toUInt32 &&& Int32.toUInt32 31)).toInt32)) &&& 252645135) + ((((((((x0 - ((((x0).toUInt32 >>> ((1 : Int32).toUInt32 &&& Int32.toUInt32 31)).toInt32) &&& 1431655765)) &&& 858993459) + (((((x0 - ((((x0).toUInt32 >>> ((1 : Int32).toUInt32 &&& Int32.toUInt32 31)).toInt32) &&& 1431655765))).toUInt32 >>> ((2 : Int32).toUInt32 &&& Int32.toUInt32 31)).toInt32) &&& 858993459)) + ((((((x0 - ((((x0).toUInt32 >>> ((1 : Int32).toUInt32 &&& Int32.toUInt32 31)).toInt32) &&& 1431655765)) &&& 858993459) + (((((x0 - ((((x0).toUInt32 >>> ((1 : Int32).toUInt32 &&& Int32.toUInt32 31)).toInt32) &&& 1431655765))).toUInt32 >>> ((2 : Int32).toUInt32 &&& Int32.toUInt32 31)).toInt32) &&& 858993459))).toUInt32 >>> ((4 : Int32).toUInt32 &&& Int32.toUInt32 31)).toInt32)) &&& 252645135)).toUInt32 >>> ((8 : Int32).toUInt32 &&& Int32.toUInt32 31)).toInt32))).toUInt32 >>> ((16 : Int32).toUInt32 &&& Int32.toUInt32 31)).toInt32)) &&& 63)
def fX2_isInEveryLine_2 (k : Nat) (ro : Nat) (f : hF) (x1 : Int32) : Nat → Int32 → Option Int32
  | 0, _ => none
  | n+1, y2 =>
  (if 8 ≤ y2 then
    some 1
  else
    (if ((x1 >>> (y2 &&& 31)) &&& 1) = 0 then
      gd y2 8 <|
      (if ((f (k+13) y2.toNatClampNeg) &&& (x1 ^^^ (-1))) = 0 then
        fX2_isInEveryLine_2 k ro f x1 n (y2 + 1)
      else
        some 0)
    else
      fX2_isInEveryLine_2 k ro f x1 n (y2 + 1)))
def fX2_isInEveryLine (k : Nat) (ro : Nat) (f : hF) (x1 : Int32) : Option Int32 :=
  fX2_isInEveryLine_2 k ro f x1 FU 0
def fX2_mostLinesApart_9 (k : Nat) (ro : Nat) : Nat → hF → Int32 → Int32 → Option (Int32 × hF)
  | 0, _, _, _ => none
  | n+1, f, y1, y2 =>
  (if 256 ≤ y2 then
    some (y1, f)
  else
    b1 (fJ6_bitCount_0f7a4 y2) fun r2 =>
    (if y1 ≤ r2 then
      fX2_mostLinesApart_9 k ro n f y1 (y2 + 1)
    else
      b1 (fX2_isInEveryLine k ro f y2) fun r4 =>
      (if r4 = 0 then
        fX2_mostLinesApart_9 k ro n f y1 (y2 + 1)
      else
        fX2_mostLinesApart_9 k ro n f r2 (y2 + 1))))
def fX2_mostLinesApart (k : Nat) (ro : Nat) (f : hF) : Option (Int32 × hF) :=
  b1 (fX2_linkPersons k ro f) fun f1 =>
  fX2_mostLinesApart_9 k ro FU f1 8 0
def fX7_falseOnes (f : hF) : Option (Int32 × hF) :=
  b1 (fX0_countOf 20 f (1 : Int32)) fun r1 =>
  b2 (fX2_mostLinesApart 19 3 f) fun r2 f3 =>
  some ((r1 - r2), f3)
def fX7_isPart (x0 : Int32) : Option Int32 :=
  (if x0 = 0 then
    some 1
  else
    (if x0 = 1 then
      some 1
    else
      some 0))
def fX2_costOfLine (k : Nat) (ro : Nat) (f : hF) (x1 : Int32) (x2 : Int32) : Option Int32 :=
  b1 (fX0_slotOf (k+1) f x1 x2) fun r1 =>
  (if r1 = (-1) then
    b1 (fX3_isParson ro f x1) fun r3 =>
    (if r3 = 0 then
      some 0
    else
      gd x1 3 <|
      some (f (ro+6) x1.toNatClampNeg))
  else
    b1 (fX2_costToFill k ro f x1 r1) fun r6 =>
    some r6)
def fX2_cheapestLine_92 (k : Nat) (ro : Nat) (f : hF) (x1 : Int32) (x2 : Int32) (q6 : Int32 → Int32 → Option Int32) (y4 : Int32) : Option Int32 :=
  q6 y4 (y4 + 1)
def fX2_cheapestLine_63 (k : Nat) (ro : Nat) (f : hF) (x1 : Int32) (x2 : Int32) (q6 : Int32 → Int32 → Option Int32) (y3 : Int32) (y4 : Int32) (s0 : Int32) : Option Int32 :=
  (if s0 = 0 then
    q6 y3 (y4 + 1)
  else
    (if y3 = (-4) then
      fX2_cheapestLine_92 k ro f x1 x2 q6 y4
    else
      b1 (fX2_costOfLine k ro f x1 y4) fun r3 =>
      b1 (fX2_costOfLine k ro f x1 y3) fun r4 =>
      (if r4 ≤ r3 then
        q6 y3 (y4 + 1)
      else
        fX2_cheapestLine_92 k ro f x1 x2 q6 y4)))
def fX2_cheapestLine_62 (k : Nat) (ro : Nat) (f : hF) (x1 : Int32) (x2 : Int32) (q6 : Int32 → Int32 → Option Int32) (y3 : Int32) (y4 : Int32) : Option Int32 :=
  fX2_cheapestLine_63 k ro f x1 x2 q6 y3 y4 0
def fX2_cheapestLine_135 (k : Nat) (ro : Nat) (f : hF) (x1 : Int32) (x2 : Int32) (y3 : Int32) (s0 : Int32) : Option Int32 :=
  (if s0 = 0 then
    some y3
  else
    (if y3 = (-4) then
      some 8
    else
      b1 (fX2_costOfLine k ro f x1 (8 : Int32)) fun r3 =>
      b1 (fX2_costOfLine k ro f x1 y3) fun r4 =>
      (if r4 ≤ r3 then
        some y3
      else
        some 8)))
def fX2_cheapestLine_134 (k : Nat) (ro : Nat) (f : hF) (x1 : Int32) (x2 : Int32) (y3 : Int32) : Option Int32 :=
  fX2_cheapestLine_135 k ro f x1 x2 y3 0
def fX2_cheapestLine_6 (k : Nat) (ro : Nat) (f : hF) (x1 : Int32) (x2 : Int32) : Nat → Int32 → Int32 → Option Int32
  | 0, _, _ => none
  | n+1, y3, y4 =>
  (if 8 ≤ y4 then
    b1 (fX0_hasRoom (k+1) f x1) fun r2 =>
    (if r2 = 0 then
      fX2_cheapestLine_134 k ro f x1 x2 y3
    else
      b1 (fX2_isLaw k ro f) fun r4 =>
      (if r4 = 0 then
        (if x2 < (f (k+1) 0) then
          fX2_cheapestLine_134 k ro f x1 x2 y3
        else
          fX2_cheapestLine_135 k ro f x1 x2 y3 1)
      else
        fX2_cheapestLine_134 k ro f x1 x2 y3))
  else
    b1 (fX0_slotOf (k+1) f x1 y4) fun r7 =>
    (if r7 = (-1) then
      fX2_cheapestLine_62 k ro f x1 x2 (fX2_cheapestLine_6 k ro f x1 x2 n) y3 y4
    else
      gd r7 24 <|
      (if (f ((k+1)+4) r7.toNatClampNeg) = 0 then
        gd r7 24 <|
        (if x2 < (f ((k+1)+5) r7.toNatClampNeg) then
          fX2_cheapestLine_62 k ro f x1 x2 (fX2_cheapestLine_6 k ro f x1 x2 n) y3 y4
        else
          fX2_cheapestLine_63 k ro f x1 x2 (fX2_cheapestLine_6 k ro f x1 x2 n) y3 y4 1)
      else
        fX2_cheapestLine_62 k ro f x1 x2 (fX2_cheapestLine_6 k ro f x1 x2 n) y3 y4)))
def fX2_cheapestLine (k : Nat) (ro : Nat) (f : hF) (x1 : Int32) (x2 : Int32) : Option Int32 :=
  fX2_cheapestLine_6 k ro f x1 x2 FU (-4) 0
def fX7_date (f : hF) (x1 : Int32) (x2 : Int32) (x3 : Int32) : Option Int32 :=
  b1 (fX3_isParson 3 f x1) fun r1 =>
  (if r1 = 0 then
    some (-1)
  else
    b1 (fX7_isDay x2) fun r3 =>
    (if r3 = 0 then
      some (-1)
    else
      b1 (fX7_isPart x3) fun r5 =>
      (if r5 = 0 then
        some (-1)
      else
        b1 (fX2_cheapestLine 19 3 f x1 x2) fun r7 =>
        (if r7 = (-4) then
          some r7
        else
          (if x3 = 1 then
            some r7
          else
            b1 (fX2_costOfLine 19 3 f x1 r7) fun r10 =>
            some r10)))))
def fX2_booksThatHold_8 (k : Nat) (ro : Nat) : Nat → hF → Int32 → Int32 → Option (Int32 × hF)
  | 0, _, _, _ => none
  | n+1, f, y1, y2 =>
  (if 24 ≤ y2 then
    some (y1, f)
  else
    b1 (fX1_isHeld (k+10) (k+1) f y2) fun r2 =>
    (if r2 = 0 then
      fX2_booksThatHold_8 k ro n f y1 (y2 + 1)
    else
      fX2_booksThatHold_8 k ro n f (y1 ||| (1 <<< ((y2 / 8) &&& 31))) (y2 + 1)))
def fX2_booksThatHold (k : Nat) (ro : Nat) (f : hF) : Option (Int32 × hF) :=
  b1 (fX2_settle k ro f) fun f1 =>
  fX2_booksThatHold_8 k ro FU f1 0 0
def fX7_look (f : hF) (x1 : Int32) : Option (Int32 × hF) :=
  b1 (fX7_isPart x1) fun r1 =>
  (if r1 = 0 then
    some ((-1), f)
  else
    b2 (fX2_booksThatHold 19 3 f) fun r3 f4 =>
    (if x1 = 0 then
      b1 (fJ6_bitCount_0f7a4 r3) fun r6 =>
      some (r6, f4)
    else
      some (r3, f4)))
def fX2_canWedSomewhere_2 (k : Nat) (ro : Nat) (f : hF) (x1 : Int32) (x2 : Int32) : Nat → Int32 → Option Int32
  | 0, _ => none
  | n+1, y3 =>
  (if (f ro 1) ≤ y3 then
    some 0
  else
    b1 (fX2_refuseWedding k ro f y3 x1 x2) fun r2 =>
    (if r2 = 0 then
      some 1
    else
      fX2_canWedSomewhere_2 k ro f x1 x2 n (y3 + 1)))
def fX2_canWedSomewhere (k : Nat) (ro : Nat) (f : hF) (x1 : Int32) (x2 : Int32) : Option Int32 :=
  fX2_canWedSomewhere_2 k ro f x1 x2 FU 0
def fX7_can_17 (f : hF) (x1 : Int32) : Nat → Int32 → Int32 → Option Int32
  | 0, _, _ => none
  | n+1, y2, y3 =>
  (if (f 3 0) ≤ y3 then
    some y2
  else
    b1 (fX2_canWedSomewhere 19 3 f x1 y3) fun r2 =>
    (if r2 = 0 then
      fX7_can_17 f x1 n y2 (y3 + 1)
    else
      fX7_can_17 f x1 n (y2 ||| (1 <<< (y3 &&& 31))) (y3 + 1)))
def fX7_can (f : hF) (x1 : Int32) : Option Int32 :=
  b1 (fX3_isPerson 3 f x1) fun r1 =>
  (if r1 = 0 then
    some (-1)
  else
    fX7_can_17 f x1 FU 0 0)
def fX6_add (k : Nat) (f : hF) (x1 : Int32) (x2 : Int32) (x3 : Int32) (x4 : Int32) : Option (Int32 × hF) :=
  (if (f k 0) < 0 then
    some (0, f)
  else
    (if (f k 0) < 6 then
      gd (f k 0) 6 <|
      lt (st2 f (k+1) (f k 0).toNatClampNeg x1) fun f4 =>
      gd (f4 k 0) 6 <|
      lt (st2 f4 (k+2) (f4 k 0).toNatClampNeg x2) fun f6 =>
      gd (f6 k 0) 6 <|
      lt (st2 f6 (k+3) (f6 k 0).toNatClampNeg x3) fun f8 =>
      gd (f8 k 0) 6 <|
      lt (st2 f8 (k+4) (f8 k 0).toNatClampNeg (vp_nar .boolean x4)) fun f10 =>
      lt (st2 f10 k 0 ((f10 k 0) + 1)) fun f11 =>
      some (1, f11)
    else
      some (0, f)))
def fX7_see (f : hF) (x1 : Int32) (x2 : Int32) (x3 : Int32) (x4 : Int32) : Option (Int32 × hF) :=
  b1 (fX3_areTwo 3 f x1 x2) fun r1 =>
  (if r1 = 0 then
    some ((-1), f)
  else
    (if x3 < 0 then
      some ((-1), f)
    else
      (if x3 ≤ 99 then
        b2 (fX6_add 47 f x1 x2 x3 x4) fun r5 f6 =>
        (if r5 = 0 then
          some ((-3), f6)
        else
          some ((f6 47 0), f6))
      else
        some ((-1), f))))
def fX7_forget (f : hF) : Option (Int32 × hF) :=
  lt (st2 f 47 0 0) fun f1 =>
  some ((f 47 0), f1)
def fX6_areSo_46 (k : Nat) (o1 : Nat) (ob1 : Nat) (f : hF) (q2 : Int32 → Option Int32) (y2 : Int32) (s0 : Int32) : Option Int32 :=
  gd y2 6 <|
  (if s0 = (f (k+4) y2.toNatClampNeg) then
    q2 (y2 + 1)
  else
    some 0)
def fX6_areSo_2 (k : Nat) (o1 : Nat) (ob1 : Nat) (f : hF) : Nat → Int32 → Option Int32
  | 0, _ => none
  | n+1, y2 =>
  (if 6 ≤ y2 then
    some 1
  else
    (if (f k 0) ≤ y2 then
      some 1
    else
      gd y2 6 <|
      gd y2 6 <|
      b1 (fX1_mateOf o1 ob1 f (f (k+1) y2.toNatClampNeg) (f (k+3) y2.toNatClampNeg)) fun r5 =>
      gd y2 6 <|
      (if r5 = (f (k+2) y2.toNatClampNeg) then
        fX6_areSo_46 k o1 ob1 f (fX6_areSo_2 k o1 ob1 f n) y2 1
      else
        fX6_areSo_46 k o1 ob1 f (fX6_areSo_2 k o1 ob1 f n) y2 0)))
def fX6_areSo (k : Nat) (o1 : Nat) (ob1 : Nat) (f : hF) : Option Int32 :=
  fX6_areSo_2 k o1 ob1 f FU 0
def fX7_isSeenWithout (f : hF) (x1 : Int32) : Option (Int32 × hF) :=
  b1 (fX1_settle 29 20 f x1) fun f1 =>
  b1 (fX6_areSo 47 29 20 f1) fun r2 =>
  nr .boolean r2 <|
  some (r2, f1)
def fX7_trueBy_17 (x1 : Int32) : Nat → hF → Int32 → Int32 → Int32 → Option (Int32 × hF)
  | 0, _, _, _, _ => none
  | n+1, f, y2, y3, y4 =>
  (if 24 ≤ y4 then
    (if x1 = 1 then
      some (y3, f)
    else
      b2 (fX7_isSeenWithout f ((-1) : Int32)) fun r3 f4 =>
      (if r3 = 0 then
        some (y2, f4)
      else
        some ((y2 + 256), f4)))
  else
    b1 (fX0_isOfTwo 20 f y4) fun r6 =>
    (if r6 = 0 then
      fX7_trueBy_17 x1 n f y2 y3 (y4 + 1)
    else
      b2 (fX7_isSeenWithout f y4) fun r8 f9 =>
      (if r8 = 0 then
        fX7_trueBy_17 x1 n f9 y2 y3 (y4 + 1)
      else
        (if y3 = (-4) then
          fX7_trueBy_17 x1 n f9 (y2 + 1) ((10 * (y4 / 8)) + (y4 - y4 / 8 * 8)) (y4 + 1)
        else
          fX7_trueBy_17 x1 n f9 (y2 + 1) y3 (y4 + 1)))))
def fX7_trueBy (f : hF) (x1 : Int32) : Option (Int32 × hF) :=
  b1 (fX7_isPart x1) fun r1 =>
  (if r1 = 0 then
    some ((-1), f)
  else
    fX7_trueBy_17 x1 FU f 0 (-4) 0)
def fX7_hand (f : hF) (x1 : Int32) (x2 : Int32) : Option Int32 :=
  b1 (fX0_slotOf 20 f x1 x2) fun r1 =>
  (if r1 = (-1) then
    some (-1)
  else
    gd r1 24 <|
    (if (f 24 r1.toNatClampNeg) = 1 then
      gd r1 24 <|
      gd r1 24 <|
      (if (f 28 r1.toNatClampNeg) = (f 25 r1.toNatClampNeg) then
        some 7
      else
        some 6)
    else
      some (-2)))
def fX7_child (f : hF) (x1 : Int32) (x2 : Int32) : Option (Int32 × hF) :=
  b1 (fX3_isPerson 3 f x1) fun r1 =>
  (if r1 = 0 then
    some ((-1), f)
  else
    gd x1 8 <|
    (if (f 4 x1.toNatClampNeg) = 0 then
      some ((-1), f)
    else
      b1 (fX7_isDay x2) fun r5 =>
      (if r5 = 0 then
        some ((-1), f)
      else
        b2 (fX2_mateBy 19 3 f x1 (x2 - 9)) fun r7 f8 =>
        (if r7 = (-4) then
          some (0, f8)
        else
          some (1, f8)))))
def fX2_singles_8 (k : Nat) (ro : Nat) (x1 : Int32) : Nat → hF → Int32 → Int32 → Option (Int32 × hF)
  | 0, _, _, _ => none
  | n+1, f, y2, y3 =>
  (if (f ro 0) ≤ y3 then
    some (y2, f)
  else
    gd y3 8 <|
    (if (f (ro+1) y3.toNatClampNeg) = x1 then
      b1 (fX1_mateOf (k+10) (k+1) f y3 (f (k+1) 0)) fun r4 =>
      (if r4 = (-4) then
        fX2_singles_8 k ro x1 n f (y2 ||| (1 <<< (y3 &&& 31))) (y3 + 1)
      else
        fX2_singles_8 k ro x1 n f y2 (y3 + 1))
    else
      fX2_singles_8 k ro x1 n f y2 (y3 + 1)))
def fX2_singles (k : Nat) (ro : Nat) (f : hF) (x1 : Int32) : Option (Int32 × hF) :=
  b1 (fX2_settle k ro f) fun f1 =>
  fX2_singles_8 k ro x1 FU f1 0 0
def fX2_lowestFor_2 (k : Nat) (ro : Nat) (f : hF) (x1 : Int32) (x2 : Int32) : Nat → Int32 → Option Int32
  | 0, _ => none
  | n+1, y3 =>
  (if (f ro 0) ≤ y3 then
    some (-4)
  else
    (if ((x2 >>> (y3 &&& 31)) &&& 1) = 1 then
      b1 (fX2_refuseWedding k ro f (0 : Int32) y3 x1) fun r3 =>
      (if r3 = 0 then
        some y3
      else
        fX2_lowestFor_2 k ro f x1 x2 n (y3 + 1))
    else
      fX2_lowestFor_2 k ro f x1 x2 n (y3 + 1)))
def fX2_lowestFor (k : Nat) (ro : Nat) (f : hF) (x1 : Int32) (x2 : Int32) : Option Int32 :=
  fX2_lowestFor_2 k ro f x1 x2 FU 0
def fX2_countTouted_71 (k : Nat) (ro : Nat) (f : hF) (x1 : Int32) (x2 : Int32) (q8 : Int32 → Int32 → Int32 → Option Int32) (y3 : Int32) (y4 : Int32) (y5 : Int32) (s0 : Int32) : Option Int32 :=
  (if s0 = (-4) then
    q8 y3 y4 (y5 + 1)
  else
    q8 (y3 &&& ((1 <<< (s0 &&& 31)) ^^^ (-1))) (y4 + 1) (y5 + 1))
def fX2_countTouted_52 (k : Nat) (ro : Nat) (f : hF) (x1 : Int32) (x2 : Int32) (q8 : Int32 → Int32 → Int32 → Option Int32) (y3 : Int32) (y4 : Int32) (y5 : Int32) (s0 : Int32) : Option Int32 :=
  (if s0 = 0 then
    fX2_countTouted_71 k ro f x1 x2 q8 y3 y4 y5 (-4)
  else
    b1 (fX2_lowestFor k ro f y5 y3) fun r2 =>
    fX2_countTouted_71 k ro f x1 x2 q8 y3 y4 y5 r2)
def fX2_countTouted_51 (k : Nat) (ro : Nat) (f : hF) (x1 : Int32) (x2 : Int32) (q8 : Int32 → Int32 → Int32 → Option Int32) (y3 : Int32) (y4 : Int32) (y5 : Int32) : Option Int32 :=
  fX2_countTouted_52 k ro f x1 x2 q8 y3 y4 y5 0
def fX2_countTouted_8 (k : Nat) (ro : Nat) (f : hF) (x1 : Int32) (x2 : Int32) : Nat → Int32 → Int32 → Int32 → Option Int32
  | 0, _, _, _ => none
  | n+1, y3, y4, y5 =>
  (if (f ro 0) ≤ y5 then
    some y4
  else
    (if ((x1 >>> (y5 &&& 31)) &&& 1) = 1 then
      gd 0 3 <|
      (if 8 ≤ ((f ((k+1)+3) (0 : Int32).toNatClampNeg) + y4) then
        fX2_countTouted_51 k ro f x1 x2 (fX2_countTouted_8 k ro f x1 x2 n) y3 y4 y5
      else
        fX2_countTouted_52 k ro f x1 x2 (fX2_countTouted_8 k ro f x1 x2 n) y3 y4 y5 1)
    else
      fX2_countTouted_51 k ro f x1 x2 (fX2_countTouted_8 k ro f x1 x2 n) y3 y4 y5))
def fX2_countTouted (k : Nat) (ro : Nat) (f : hF) (x1 : Int32) (x2 : Int32) : Option Int32 :=
  fX2_countTouted_8 k ro f x1 x2 FU x2 0 0
def fX2_waysToBring_41 (x0 : Int32) (x1 : Int32) (x2 : Int32) (q5 : Int32 → Int32 → Option Int32) (y4 : Int32) (s0 : Int32) (s1 : Int32) : Option Int32 :=
  q5 (s0 * s1) (y4 + 1)
def fX2_waysToBring_5 (x0 : Int32) (x1 : Int32) (x2 : Int32) : Nat → Int32 → Int32 → Option Int32
  | 0, _, _ => none
  | n+1, y3, y4 =>
  (if 8 ≤ y4 then
    some y3
  else
    (if ((x1 >>> (y4 &&& 31)) &&& 1) = 1 then
      (if ((x0 >>> (y4 &&& 31)) &&& 1) = 1 then
        fX2_waysToBring_41 x0 x1 x2 (fX2_waysToBring_5 x0 x1 x2 n) y4 y3 x2
      else
        fX2_waysToBring_41 x0 x1 x2 (fX2_waysToBring_5 x0 x1 x2 n) y4 y3 (10 - x2))
    else
      fX2_waysToBring_5 x0 x1 x2 n y3 (y4 + 1)))
def fX2_waysToBring (x0 : Int32) (x1 : Int32) (x2 : Int32) : Option Int32 :=
  fX2_waysToBring_5 x0 x1 x2 FU 1 0
def fX2_waysToWed_25 (k : Nat) (ro : Nat) (x1 : Int32) (x2 : Int32) : Nat → hF → Int32 → Int32 → Int32 → Int32 → Int32 → Option (Int32 × hF)
  | 0, _, _, _, _, _, _ => none
  | n+1, f, y3, y4, y5, y6, y7 =>
  (if 256 ≤ y7 then
    some (y6, f)
  else
    (if (y7 &&& (y3 ^^^ (-1))) = 0 then
      b1 (fX2_countTouted k ro f y7 y4) fun r3 =>
      (if (y5 + r3) < x1 then
        fX2_waysToWed_25 k ro x1 x2 n f y3 y4 y5 y6 (y7 + 1)
      else
        b1 (fX2_waysToBring y7 y3 x2) fun r5 =>
        fX2_waysToWed_25 k ro x1 x2 n f y3 y4 y5 (y6 + r5) (y7 + 1))
    else
      fX2_waysToWed_25 k ro x1 x2 n f y3 y4 y5 y6 (y7 + 1)))
def fX2_waysToWed (k : Nat) (ro : Nat) (f : hF) (x1 : Int32) (x2 : Int32) : Option (Int32 × hF) :=
  b2 (fX2_singles k ro f (1 : Int32)) fun r1 f2 =>
  b2 (fX2_singles k ro f2 (0 : Int32)) fun r3 f4 =>
  b2 (fX2_countHeld k ro f4) fun r5 f6 =>
  fX2_waysToWed_25 k ro x1 x2 FU f6 r1 r3 r5 0 0
def fX7_commonDivisor_7 (x0 : Int32) (x1 : Int32) : Nat → Int32 → Int32 → Int32 → Option Int32
  | 0, _, _, _ => none
  | n+1, y2, y3, y4 =>
  (if 64 ≤ y4 then
    some y2
  else
    (if y3 = 0 then
      some y2
    else
      nz y3 <|
      fX7_commonDivisor_7 x0 x1 n y3 (y2 - y2 / y3 * y3) (y4 + 1)))
def fX7_commonDivisor (x0 : Int32) (x1 : Int32) : Option Int32 :=
  fX7_commonDivisor_7 x0 x1 FU x0 x1 0
def fX7_touts_45 (x1 : Int32) (x2 : Int32) (x3 : Int32) : Nat → hF → Int32 → Int32 → Option (Int32 × hF)
  | 0, _, _, _ => none
  | n+1, f, y4, y5 =>
  (if y5 ≤ 0 then
    b2 (fX2_waysToWed 19 3 f x1 x2) fun r2 f3 =>
    b1 (fX7_commonDivisor r2 y4) fun r4 =>
    (if 1 ≤ r4 then
      (if x3 = 0 then
        nz r4 <|
        some ((r2 / r4), f3)
      else
        nz r4 <|
        some ((y4 / r4), f3))
    else
      some ((-4), f3))
  else
    fX7_touts_45 x1 x2 x3 n f (y4 * 10) (y5 + (-1)))
def fX7_touts (f : hF) (x1 : Int32) (x2 : Int32) (x3 : Int32) : Option (Int32 × hF) :=
  (if x1 < 0 then
    some ((-1), f)
  else
    (if 8 < x1 then
      some ((-1), f)
    else
      (if x2 < 0 then
        some ((-1), f)
      else
        (if 10 < x2 then
          some ((-1), f)
        else
          b1 (fX7_isPart x3) fun r5 =>
          (if r5 = 0 then
            some ((-1), f)
          else
            b2 (fX2_singles 19 3 f (1 : Int32)) fun r7 f8 =>
            b1 (fJ6_bitCount_0f7a4 r7) fun r9 =>
            fX7_touts_45 x1 x2 x3 FU f8 1 r9)))))
def fX0_paidInAll_4 (k : Nat) (f : hF) : Nat → Int32 → Int32 → Option Int32
  | 0, _, _ => none
  | n+1, y1, y2 =>
  (if 3 ≤ y2 then
    some y1
  else
    gd y2 3 <|
    fX0_paidInAll_4 k f n (y1 + (f (k+2) y2.toNatClampNeg)) (y2 + 1))
def fX0_paidInAll (k : Nat) (f : hF) : Option Int32 :=
  fX0_paidInAll_4 k f FU 0 0
def fX7_draw (x0 : Int32) (x1 : Int32) : Option Int32 :=
  some ((((((7919 * x0.toInt64) + (6151 * x1.toInt64)) + 1) * (((7919 * x0.toInt64) + (6151 * x1.toInt64)) + 1)) - ((((7919 * x0.toInt64) + (6151 * x1.toInt64)) + 1) * (((7919 * x0.toInt64) + (6151 * x1.toInt64)) + 1)) / 65521 * 65521).toInt32)
def fX2_liveDay_103 (k : Nat) (ro : Nat) (x1 : Int32) (f : hF) : Option hF :=
  lt (st2 f (k+1) 0 ((f (k+1) 0) + 1)) fun f1 =>
  some f1
def fX2_liveDay (k : Nat) (ro : Nat) (f : hF) (x1 : Int32) : Option hF :=
  (if (f ro 0) < 1 then
    some f
  else
    (if 1 ≤ (f ro 1) then
      nz (f ro 1) <|
      nz (f ro 0) <|
      nz (f ro 0) <|
      b1 (fX2_refuseWedding k ro f (x1 - x1 / (f ro 1) * (f ro 1)) ((x1 / 4) - (x1 / 4) / (f ro 0) * (f ro 0)) ((x1 / 32) - (x1 / 32) / (f ro 0) * (f ro 0))) fun r6 =>
      (if r6 = 0 then
        b2 (fX2_writeWedding k ro f (x1 - x1 / (f ro 1) * (f ro 1)) ((x1 / 4) - (x1 / 4) / (f ro 0) * (f ro 0)) ((x1 / 32) - (x1 / 32) / (f ro 0) * (f ro 0))) fun r13 f14 =>
        fX2_liveDay_103 k ro x1 f14
      else
        (if ((x1 / 256) - (x1 / 256) / 2 * 2) = 0 then
          b1 (fX2_refuseBlank k ro f (x1 - x1 / (f ro 1) * (f ro 1))) fun r9 =>
          (if r9 = 0 then
            b2 (fX0_begin (k+1) f (x1 - x1 / (f ro 1) * (f ro 1))) fun r11 f12 =>
            fX2_liveDay_103 k ro x1 f12
          else
            fX2_liveDay_103 k ro x1 f)
        else
          fX2_liveDay_103 k ro x1 f))
    else
      some f))
def fX7_gaol_63 (x1 : Int32) (x2 : Int32) (x3 : Int32) : Nat → hF → Int32 → Int32 → Option (Int32 × hF)
  | 0, _, _, _ => none
  | n+1, f, y4, y5 =>
  (if x2 ≤ y5 then
    (if x3 = 0 then
      b2 (fX2_countHeld 33 3 f) fun r4 f5 =>
      some (r4, f5)
    else
      b1 (fX0_paidInAll 34 f) fun r3 =>
      some ((r3 - y4), f))
  else
    b1 (fX7_draw x1 y5) fun r6 =>
    b1 (fX2_liveDay 33 3 f r6) fun f7 =>
    fX7_gaol_63 x1 x2 x3 n f7 y4 (y5 + 1))
def fX7_gaol (f : hF) (x1 : Int32) (x2 : Int32) (x3 : Int32) : Option (Int32 × hF) :=
  (if x1 < 0 then
    some ((-1), f)
  else
    (if 9999 < x1 then
      some ((-1), f)
    else
      (if x2 < 1 then
        some ((-1), f)
      else
        (if 40 < x2 then
          some ((-1), f)
        else
          b1 (fX7_isPart x3) fun r5 =>
          (if r5 = 0 then
            some ((-1), f)
          else
            b1 (fX0_copyFrom 34 20 f) fun f7 =>
            b1 (fX0_paidInAll 34 f7) fun r8 =>
            fX7_gaol_63 x1 x2 x3 FU f7 r8 0)))))
def fX7_keep (f : hF) : Option (Int32 × hF) :=
  (if (f 126 1) < 2 then
    b1 (fX5_put 126 2 20 f) fun f2 =>
    some ((f2 126 1), f2)
  else
    some ((-3), f))
def fX7_back (f : hF) : Option (Int32 × hF) :=
  b2 (fX5_takeInto 126 2 20 f) fun r1 f2 =>
  (if r1 = 0 then
    some ((-2), f2)
  else
    lt (st2 f2 52 1 0) fun f4 =>
    some ((f4 126 1), f4))
def fX7_count (f : hF) (x1 : Int32) : Option (Int32 × hF) :=
  (if x1 = 0 then
    some ((f 3 0), f)
  else
  (if x1 = 1 then
    some ((f 3 1), f)
  else
  (if x1 = 2 then
    some ((f 20 0), f)
  else
  (if x1 = 3 then
    some ((f 3 2), f)
  else
  (if x1 = 4 then
    b1 (fX0_countOf 20 f (1 : Int32)) fun r1 =>
    some (r1, f)
  else
  (if x1 = 5 then
    b2 (fX2_countHeld 19 3 f) fun r2 f3 =>
    some (r2, f3)
  else
  (if x1 = 6 then
    b1 (fX0_countOf 20 f (0 : Int32)) fun r4 =>
    some (r4, f)
  else
  (if x1 = 7 then
    some ((f 47 0), f)
  else
  (if x1 = 8 then
    some ((f 52 1), f)
  else
  (if x1 = 9 then
    some ((f 126 1), f)
  else
  (if x1 = 10 then
    some ((f 1 1), f)
  else
    some ((-1), f))))))))))))
def fX8_tellsPerson (f : hF) (x1 : Int32) (x2 : Int32) (x3 : Int32) (x4 : Int32) : Option hF :=
  gd (3 * (f 146 16)) 24 <|
  lt (st2 f 155 (3 * (f 146 16)).toNatClampNeg x1) fun f2 =>
  gd ((3 * (f2 146 16)) + 1) 24 <|
  lt (st2 f2 155 ((3 * (f2 146 16)) + 1).toNatClampNeg x2) fun f4 =>
  gd ((3 * (f4 146 16)) + 2) 24 <|
  lt (st2 f4 155 ((3 * (f4 146 16)) + 2).toNatClampNeg x3) fun f6 =>
  gd (f6 146 16) 8 <|
  lt (st2 f6 156 (f6 146 16).toNatClampNeg x4) fun f8 =>
  lt (st2 f8 146 16 ((f8 146 16) + 1)) fun f9 =>
  some f9
def fX8_tellsParson (f : hF) (x1 : Int32) (x2 : Int32) : Option hF :=
  gd (2 * (f 146 19)) 6 <|
  lt (st2 f 157 (2 * (f 146 19)).toNatClampNeg x1) fun f2 =>
  gd ((2 * (f2 146 19)) + 1) 6 <|
  lt (st2 f2 157 ((2 * (f2 146 19)) + 1).toNatClampNeg x2) fun f4 =>
  lt (st2 f4 146 19 ((f4 146 19) + 1)) fun f5 =>
  some f5
def fX8_in (x0 : Int32) (x1 : Int32) (x2 : Int32) : Option Int32 :=
  (if x0 < x1 then
    some 0
  else
    (if x2 < x0 then
      some 0
    else
      some 1))
def fX8_has (x0 : Int32) (x1 : Int32) : Option Int32 :=
  (if ((x0 >>> (x1 &&& 31)) &&& 1) = 1 then
    some 1
  else
    some 0)
def fX8_isPerson (f : hF) (x1 : Int32) : Option Int32 :=
  b1 (fX8_in x1 (0 : Int32) ((f 146 0) - 1)) fun r1 =>
  nr .boolean r1 <|
  some r1
def fX8_isParson (f : hF) (x1 : Int32) : Option Int32 :=
  b1 (fX8_in x1 (0 : Int32) ((f 146 2) - 1)) fun r1 =>
  nr .boolean r1 <|
  some r1
def fX8_isLine (f : hF) (x1 : Int32) (x2 : Int32) : Option Int32 :=
  b1 (fX8_isParson f x1) fun r1 =>
  (if r1 = 0 then
    some 0
  else
    gd (12 + x1) 111 <|
    b1 (fX8_in x2 (0 : Int32) ((f 149 (12 + x1).toNatClampNeg) - 1)) fun r4 =>
    (if r4 = 0 then
      some 0
    else
      some 1))
def fX8_isWoman (f : hF) (x1 : Int32) : Option Int32 :=
  gd (3 * x1) 24 <|
  (if (f 147 (3 * x1).toNatClampNeg) = 1 then
    some 1
  else
    some 0)
def fX8_kindOf (f : hF) (x1 : Int32) : Option Int32 :=
  gd ((3 * x1) + 1) 24 <|
  some (f 147 ((3 * x1) + 1).toNatClampNeg)
def fX8_write (f : hF) (x1 : Int32) : Option (Int32 × hF) :=
  b1 (fX8_in x1 (32 : Int32) (126 : Int32)) fun r1 =>
  (if r1 = 0 then
    some ((-1), f)
  else
    (if (f 146 13) = 200 then
      some ((-3), f)
    else
      gd (f 146 13) 200 <|
      lt (st2 f 153 (f 146 13).toNatClampNeg x1) fun f5 =>
      lt (st2 f5 146 13 ((f5 146 13) + 1)) fun f6 =>
      some ((f6 146 13), f6)))
def fX8_wipe (f : hF) : Option (Int32 × hF) :=
  lt (st2 f 146 13 0) fun f1 =>
  some ((f 146 13), f1)
def fX8_letterAt (f : hF) (x1 : Int32) : Option Int32 :=
  (if (f 146 13) ≤ x1 then
    some (-1)
  else
    gd x1 200 <|
    some (f 153 x1.toNatClampNeg))
def fX8_isFigure (x0 : Int32) : Option Int32 :=
  b1 (fX8_in x0 (48 : Int32) (57 : Int32)) fun r1 =>
  nr .boolean r1 <|
  some r1
def fX8_readNumbers_123 (x1 : Int32) (q2 : hF → Int32 → Option (Int32 × hF)) (f : hF) (y2 : Int32) (s0 : Int32) (s1 : Int32) : Option (Int32 × hF) :=
  (if s0 = s1 then
    lt (st2 f 146 14 ((f 146 14) + 1)) fun f2 =>
    q2 f2 (y2 + 1)
  else
    some (0, f))
def fX8_readNumbers_101 (x1 : Int32) (q2 : hF → Int32 → Option (Int32 × hF)) (f : hF) (y2 : Int32) : Option (Int32 × hF) :=
  b1 (fX8_letterAt f (f 146 14)) fun r1 =>
  (if (x1 - 1) ≤ y2 then
    fX8_readNumbers_123 x1 q2 f y2 r1 59
  else
    fX8_readNumbers_123 x1 q2 f y2 r1 44)
def fX8_readNumbers_2 (x1 : Int32) : Nat → hF → Int32 → Option (Int32 × hF)
  | 0, _, _ => none
  | n+1, f, y2 =>
  (if x1 ≤ y2 then
    some (1, f)
  else
    b1 (fX8_letterAt f (f 146 14)) fun r2 =>
    b1 (fX8_isFigure r2) fun r3 =>
    (if r3 = 0 then
      some (0, f)
    else
      b1 (fX8_letterAt f (f 146 14)) fun r5 =>
      gd y2 3 <|
      lt (st2 f 154 y2.toNatClampNeg (r5 - 48)) fun f7 =>
      lt (st2 f7 146 14 ((f7 146 14) + 1)) fun f8 =>
      b1 (fX8_letterAt f8 (f8 146 14)) fun r9 =>
      b1 (fX8_isFigure r9) fun r10 =>
      (if r10 = 0 then
        fX8_readNumbers_101 x1 (fX8_readNumbers_2 x1 n) f8 y2
      else
        gd y2 3 <|
        b1 (fX8_letterAt f8 (f8 146 14)) fun r13 =>
        gd y2 3 <|
        lt (st2 f8 154 y2.toNatClampNeg (((10 * (f8 154 y2.toNatClampNeg)) + r13) - 48)) fun f15 =>
        lt (st2 f15 146 14 ((f15 146 14) + 1)) fun f16 =>
        fX8_readNumbers_101 x1 (fX8_readNumbers_2 x1 n) f16 y2)))
def fX8_readNumbers (f : hF) (x1 : Int32) : Option (Int32 × hF) :=
  fX8_readNumbers_2 x1 FU f 0
def fX8_isTold (f : hF) (x1 : Int32) (x2 : Int32) (x3 : Int32) : Option Int32 :=
  gd x1 3 <|
  b1 (fX8_in (f 154 x1.toNatClampNeg) x2 x3) fun r2 =>
  nr .boolean r2 <|
  some r2
def fX8_clearTold (f : hF) : Option hF :=
  lt (st2 f 146 16 0) fun f1 =>
  lt (st2 f1 146 19 0) fun f2 =>
  lt (st2 f2 146 21 60) fun f3 =>
  some f3
def fX8_readPersonOf (f : hF) (x1 : Int32) : Option (Int32 × hF) :=
  (if (f 146 16) = 8 then
    some (0, f)
  else
    b2 (fX8_readNumbers f (3 : Int32)) fun r2 f3 =>
    (if r2 = 0 then
      some (0, f3)
    else
      b1 (fX8_isTold f3 (0 : Int32) (0 : Int32) (2 : Int32)) fun r5 =>
      (if r5 = 0 then
        some (0, f3)
      else
        b1 (fX8_isTold f3 (1 : Int32) (0 : Int32) (60 : Int32)) fun r7 =>
        (if r7 = 0 then
          some (0, f3)
        else
          b1 (fX8_isTold f3 (2 : Int32) (0 : Int32) (60 : Int32)) fun r9 =>
          (if r9 = 0 then
            some (0, f3)
          else
            gd 0 3 <|
            gd 1 3 <|
            gd 2 3 <|
            b1 (fX8_tellsPerson f3 x1 (f3 154 (0 : Int32).toNatClampNeg) (f3 154 (1 : Int32).toNatClampNeg) (f3 154 (2 : Int32).toNatClampNeg)) fun f14 =>
            some (1, f14))))))
def fX8_readParsonOf (f : hF) : Option (Int32 × hF) :=
  (if (f 146 19) = 3 then
    some (0, f)
  else
    b2 (fX8_readNumbers f (2 : Int32)) fun r2 f3 =>
    (if r2 = 0 then
      some (0, f3)
    else
      b1 (fX8_isTold f3 (0 : Int32) (0 : Int32) (2 : Int32)) fun r5 =>
      (if r5 = 0 then
        some (0, f3)
      else
        b1 (fX8_isTold f3 (1 : Int32) (0 : Int32) (20 : Int32)) fun r7 =>
        (if r7 = 0 then
          some (0, f3)
        else
          gd 0 3 <|
          gd 1 3 <|
          b1 (fX8_tellsParson f3 (f3 154 (0 : Int32).toNatClampNeg) (f3 154 (1 : Int32).toNatClampNeg)) fun f11 =>
          some (1, f11)))))
def fX8_readLawOf_43 (f : hF) (y1 : Int32) (s1 : Int32) : Option (Int32 × hF) :=
  lt (st2 f 146 21 s1) fun f1 =>
  nr .boolean y1 <|
  some (y1, f1)
def fX8_readLawOf_24 (f : hF) (s0 : Int32) : Option (Int32 × hF) :=
  (if s0 = 0 then
    fX8_readLawOf_43  f s0 (f 146 21)
  else
    gd 0 3 <|
    fX8_readLawOf_43  f s0 (f 154 (0 : Int32).toNatClampNeg))
def fX8_readLawOf_23 (f : hF) : Option (Int32 × hF) :=
  fX8_readLawOf_24  f 0
def fX8_readLawOf (f : hF) : Option (Int32 × hF) :=
  b2 (fX8_readNumbers f (1 : Int32)) fun r1 f2 =>
  (if r1 = 0 then
    fX8_readLawOf_23  f2
  else
    b1 (fX8_isTold f2 (0 : Int32) (1 : Int32) (99 : Int32)) fun r4 =>
    (if r4 = 0 then
      fX8_readLawOf_23  f2
    else
      fX8_readLawOf_24  f2 1))
def fX8_readItem (f : hF) : Option (Int32 × hF) :=
  b1 (fX8_letterAt f (f 146 14)) fun r1 =>
  lt (st2 f 146 14 ((f 146 14) + 1)) fun f2 =>
  (if r1 = 108 then
    b2 (fX8_readLawOf f2) fun r3 f4 =>
    nr .boolean r3 <|
    some (r3, f4)
  else
  (if r1 = 109 then
    b2 (fX8_readPersonOf f2 (0 : Int32)) fun r6 f7 =>
    nr .boolean r6 <|
    some (r6, f7)
  else
  (if r1 = 112 then
    b2 (fX8_readParsonOf f2) fun r9 f10 =>
    nr .boolean r9 <|
    some (r9, f10)
  else
  (if r1 = 119 then
    b2 (fX8_readPersonOf f2 (1 : Int32)) fun r12 f13 =>
    nr .boolean r12 <|
    some (r12, f13)
  else
    some (0, f2)))))
def fX8_fault_9 : Nat → hF → Option (Int32 × hF)
  | 0, _ => none
  | n+1, f =>
  (if (f 146 13) ≤ (f 146 14) then
    some ((-4), f)
  else
    b2 (fX8_readItem f) fun r2 f3 =>
    (if r2 = 0 then
      some ((f 146 14), f3)
    else
      fX8_fault_9  n f3))
def fX8_fault (f : hF) : Option (Int32 × hF) :=
  lt (st2 f 146 14 0) fun f1 =>
  b1 (fX8_clearTold f1) fun f2 =>
  fX8_fault_9  FU f2
def fX8_copies_3 (a0 : Nat) (n0 : Nat) (a2 : Nat) (n2 : Nat) (x1 : Int32) (x3 : Int32) (x4 : Int32) : Nat → hF → Int32 → Option hF
  | 0, _, _ => none
  | n+1, f, y5 =>
  (if x4 ≤ y5 then
    some f
  else
    gd (x3 + y5) n2 <|
    gd (x1 + y5) n0 <|
    lt (st2 f a0 (x1 + y5).toNatClampNeg (f a2 (x3 + y5).toNatClampNeg)) fun f4 =>
    fX8_copies_3 a0 n0 a2 n2 x1 x3 x4 n f4 (y5 + 1))
def fX8_copies (a0 : Nat) (n0 : Nat) (a2 : Nat) (n2 : Nat) (f : hF) (x1 : Int32) (x3 : Int32) (x4 : Int32) : Option hF :=
  fX8_copies_3 a0 n0 a2 n2 x1 x3 x4 FU f 0
def fX8_settles_56 : Nat → hF → Int32 → Option hF
  | 0, _, _ => none
  | n+1, f, y1 =>
  (if 111 ≤ y1 then
    b1 (fX8_copies 149 111 156 8 f (1 : Int32) (0 : Int32) (f 146 0)) fun f2 =>
    lt (st2 f2 146 6 0) fun f3 =>
    lt (st2 f3 146 8 0) fun f4 =>
    lt (st2 f4 146 10 0) fun f5 =>
    some f5
  else
    gd y1 111 <|
    lt (st2 f 149 y1.toNatClampNeg 0) fun f7 =>
    fX8_settles_56  n f7 (y1 + 1))
def fX8_settles (f : hF) : Option hF :=
  lt (st2 f 146 0 (f 146 16)) fun f1 =>
  lt (st2 f1 146 2 (f1 146 19)) fun f2 =>
  lt (st2 f2 146 4 (f2 146 21)) fun f3 =>
  b1 (fX8_copies 147 24 155 24 f3 (0 : Int32) (0 : Int32) (24 : Int32)) fun f4 =>
  b1 (fX8_copies 148 6 157 6 f4 (0 : Int32) (0 : Int32) (6 : Int32)) fun f5 =>
  fX8_settles_56  FU f5 0
def fX8_lay (f : hF) : Option (Int32 × hF) :=
  b2 (fX8_fault f) fun r1 f2 =>
  (if r1 = (-4) then
    (if (f2 146 16) = 0 then
      some ((-2), f2)
    else
      (if (f2 146 19) = 0 then
        some ((-2), f2)
      else
        b1 (fX8_settles f2) fun f6 =>
        some ((f6 146 0), f6)))
  else
    some ((-2), f2))
def fX8_asItIs (f : hF) : Option hF :=
  b1 (fX8_copies 158 111 149 111 f (0 : Int32) (0 : Int32) (111 : Int32)) fun f1 =>
  some f1
def fX8_begun (f : hF) (x1 : Int32) : Option Int32 :=
  gd (15 + (4 * x1)) 111 <|
  some (f 158 (15 + (4 * x1)).toNatClampNeg)
def fX8_manOf (f : hF) (x1 : Int32) : Option Int32 :=
  gd ((15 + (4 * x1)) + 1) 111 <|
  some (f 158 ((15 + (4 * x1)) + 1).toNatClampNeg)
def fX8_womanOf (f : hF) (x1 : Int32) : Option Int32 :=
  gd ((15 + (4 * x1)) + 2) 111 <|
  some (f 158 ((15 + (4 * x1)) + 2).toNatClampNeg)
def fX8_isThere (f : hF) (x1 : Int32) : Option Int32 :=
  gd (12 + (x1 / 8)) 111 <|
  (if (f 158 (12 + (x1 / 8)).toNatClampNeg) ≤ (x1 - x1 / 8 * 8) then
    some 0
  else
    some 1)
def fX8_isOfTwo (f : hF) (x1 : Int32) : Option Int32 :=
  b1 (fX8_isThere f x1) fun r1 =>
  (if r1 = 0 then
    some 0
  else
    b1 (fX8_manOf f x1) fun r3 =>
    (if r3 < 0 then
      some 0
    else
      some 1))
def fX8_isBlank (f : hF) (x1 : Int32) : Option Int32 :=
  b1 (fX8_isThere f x1) fun r1 =>
  (if r1 = 0 then
    some 0
  else
    b1 (fX8_manOf f x1) fun r3 =>
    (if r3 = (-1) then
      some 1
    else
      some 0))
def fX8_nextLine_44 (f : hF) (q4 : Int32 → Int32 → Option Int32) (y2 : Int32) : Option Int32 :=
  q4 y2 (y2 + 1)
def fX8_nextLine_48 (f : hF) (q4 : Int32 → Int32 → Option Int32) (y1 : Int32) (y2 : Int32) : Option Int32 :=
  q4 y1 (y2 + 1)
def fX8_nextLine_4 (f : hF) : Nat → Int32 → Int32 → Option Int32
  | 0, _, _ => none
  | n+1, y1, y2 =>
  (if 24 ≤ y2 then
    some y1
  else
    b1 (fX8_isOfTwo f y2) fun r2 =>
    (if r2 = 0 then
      fX8_nextLine_48 f (fX8_nextLine_4 f n) y1 y2
    else
      gd y2 24 <|
      (if (f 160 y2.toNatClampNeg) = 0 then
        (if y1 < 0 then
          fX8_nextLine_44 f (fX8_nextLine_4 f n) y2
        else
          b1 (fX8_begun f y2) fun r7 =>
          b1 (fX8_begun f y1) fun r8 =>
          (if r8 ≤ r7 then
            fX8_nextLine_48 f (fX8_nextLine_4 f n) y1 y2
          else
            fX8_nextLine_44 f (fX8_nextLine_4 f n) y2))
      else
        fX8_nextLine_48 f (fX8_nextLine_4 f n) y1 y2)))
def fX8_nextLine (f : hF) : Option Int32 :=
  fX8_nextLine_4 f FU (-1) 0
def fX8_findHolds_94 (q35 : hF → Int32 → Int32 → Option hF) (f : hF) (s0 : Int32) (s1 : Int32) : Option hF :=
  b1 (fX8_nextLine f) fun r1 =>
  q35 f (s0 ||| s1) r1
def fX8_findHolds_78 (q35 : hF → Int32 → Int32 → Option hF) (f : hF) (y1 : Int32) (y2 : Int32) (y3 : Int32) (s1 : Int32) (s2 : Int32) : Option hF :=
  gd s1 24 <|
  lt (st2 f 159 s1.toNatClampNeg (vp_nar .boolean s2)) fun f2 =>
  gd y2 24 <|
  (if (f2 159 y2.toNatClampNeg) = 0 then
    fX8_findHolds_94  q35 f2 y1 0
  else
    fX8_findHolds_94  q35 f2 y1 y3)
def fX8_findHolds_35 : Nat → hF → Int32 → Int32 → Option hF
  | 0, _, _, _ => none
  | n+1, f, y1, y2 =>
  (if y2 < 0 then
    some f
  else
    gd y2 24 <|
    lt (st2 f 160 y2.toNatClampNeg (vp_nar .boolean 1)) fun f3 =>
    b1 (fX8_manOf f3 y2) fun r4 =>
    b1 (fX8_womanOf f3 y2) fun r5 =>
    (if (y1 &&& ((1 <<< (r4 &&& 31)) ||| (1 <<< (r5 &&& 31)))) = 0 then
      fX8_findHolds_78  (fX8_findHolds_35 n) f3 y1 y2 ((1 <<< (r4 &&& 31)) ||| (1 <<< (r5 &&& 31))) y2 1
    else
      fX8_findHolds_78  (fX8_findHolds_35 n) f3 y1 y2 ((1 <<< (r4 &&& 31)) ||| (1 <<< (r5 &&& 31))) y2 0))
def fX8_findHolds_2 : Nat → hF → Int32 → Option hF
  | 0, _, _ => none
  | n+1, f, y1 =>
  (if 24 ≤ y1 then
    b1 (fX8_nextLine f) fun r2 =>
    fX8_findHolds_35  FU f 0 r2
  else
    gd y1 24 <|
    lt (st2 f 159 y1.toNatClampNeg (vp_nar .boolean 0)) fun f4 =>
    gd y1 24 <|
    lt (st2 f4 160 y1.toNatClampNeg (vp_nar .boolean 0)) fun f6 =>
    fX8_findHolds_2  n f6 (y1 + 1))
def fX8_findHolds (f : hF) : Option hF :=
  fX8_findHolds_2  FU f 0
def fX8_mateBy_88 (f : hF) (x1 : Int32) (x2 : Int32) (q6 : Int32 → Int32 → Option Int32) (y3 : Int32) (y4 : Int32) : Option Int32 :=
  q6 y3 (y4 + 1)
def fX8_mateBy_64 (f : hF) (x1 : Int32) (x2 : Int32) (q6 : Int32 → Int32 → Option Int32) (y3 : Int32) (y4 : Int32) (y5 : Int32) : Option Int32 :=
  (if y5 = 0 then
    fX8_mateBy_88 f x1 x2 q6 y3 y4
  else
    b1 (fX8_womanOf f y4) fun r2 =>
    (if r2 = x1 then
      b1 (fX8_manOf f y4) fun r4 =>
      q6 r4 (y4 + 1)
    else
      fX8_mateBy_88 f x1 x2 q6 y3 y4))
def fX8_mateBy_38 (f : hF) (x1 : Int32) (x2 : Int32) (q6 : Int32 → Int32 → Option Int32) (y3 : Int32) (y4 : Int32) (s0 : Int32) : Option Int32 :=
  (if s0 = 0 then
    fX8_mateBy_64 f x1 x2 q6 y3 y4 s0
  else
    b1 (fX8_manOf f y4) fun r2 =>
    (if r2 = x1 then
      b1 (fX8_womanOf f y4) fun r4 =>
      q6 r4 (y4 + 1)
    else
      fX8_mateBy_64 f x1 x2 q6 y3 y4 s0))
def fX8_mateBy_37 (f : hF) (x1 : Int32) (x2 : Int32) (q6 : Int32 → Int32 → Option Int32) (y3 : Int32) (y4 : Int32) : Option Int32 :=
  fX8_mateBy_38 f x1 x2 q6 y3 y4 0
def fX8_mateBy_6 (f : hF) (x1 : Int32) (x2 : Int32) : Nat → Int32 → Int32 → Option Int32
  | 0, _, _ => none
  | n+1, y3, y4 =>
  (if 24 ≤ y4 then
    some y3
  else
    gd y4 24 <|
    (if (f 159 y4.toNatClampNeg) = 0 then
      fX8_mateBy_37 f x1 x2 (fX8_mateBy_6 f x1 x2 n) y3 y4
    else
      b1 (fX8_begun f y4) fun r4 =>
      (if x2 < r4 then
        fX8_mateBy_37 f x1 x2 (fX8_mateBy_6 f x1 x2 n) y3 y4
      else
        fX8_mateBy_38 f x1 x2 (fX8_mateBy_6 f x1 x2 n) y3 y4 1)))
def fX8_mateBy (f : hF) (x1 : Int32) (x2 : Int32) : Option Int32 :=
  fX8_mateBy_6 f x1 x2 FU (-4) 0
def fX8_manyHold_25 (f : hF) (q4 : Int32 → Int32 → Option Int32) (y2 : Int32) (s0 : Int32) (s1 : Int32) : Option Int32 :=
  q4 (s0 + s1) (y2 + 1)
def fX8_manyHold_4 (f : hF) : Nat → Int32 → Int32 → Option Int32
  | 0, _, _ => none
  | n+1, y1, y2 =>
  (if 24 ≤ y2 then
    some y1
  else
    gd y2 24 <|
    (if (f 159 y2.toNatClampNeg) = 0 then
      fX8_manyHold_25 f (fX8_manyHold_4 f n) y2 y1 0
    else
      fX8_manyHold_25 f (fX8_manyHold_4 f n) y2 y1 1))
def fX8_manyHold (f : hF) : Option Int32 :=
  fX8_manyHold_4 f FU 0 0
def fX8_linesOf_42 (f : hF) (x1 : Int32) (q4 : Int32 → Int32 → Option Int32) (y3 : Int32) (s0 : Int32) (s1 : Int32) : Option Int32 :=
  q4 (s0 + s1) (y3 + 1)
def fX8_linesOf_37 (f : hF) (x1 : Int32) (q4 : Int32 → Int32 → Option Int32) (y3 : Int32) (s0 : Int32) : Option Int32 :=
  fX8_linesOf_42 f x1 q4 y3 s0 1
def fX8_linesOf_41 (f : hF) (x1 : Int32) (q4 : Int32 → Int32 → Option Int32) (y3 : Int32) (s0 : Int32) : Option Int32 :=
  fX8_linesOf_42 f x1 q4 y3 s0 0
def fX8_linesOf_4 (f : hF) (x1 : Int32) : Nat → Int32 → Int32 → Option Int32
  | 0, _, _ => none
  | n+1, y2, y3 =>
  (if 24 ≤ y3 then
    some y2
  else
    b1 (fX8_isOfTwo f y3) fun r2 =>
    (if r2 = 0 then
      fX8_linesOf_41 f x1 (fX8_linesOf_4 f x1 n) y3 y2
    else
      b1 (fX8_manOf f y3) fun r4 =>
      (if r4 = x1 then
        fX8_linesOf_37 f x1 (fX8_linesOf_4 f x1 n) y3 y2
      else
        b1 (fX8_womanOf f y3) fun r6 =>
        (if r6 = x1 then
          fX8_linesOf_37 f x1 (fX8_linesOf_4 f x1 n) y3 y2
        else
          fX8_linesOf_41 f x1 (fX8_linesOf_4 f x1 n) y3 y2))))
def fX8_linesOf (f : hF) (x1 : Int32) : Option Int32 :=
  fX8_linesOf_4 f x1 FU 0 0
def fX8_owes_57 (f : hF) (x1 : Int32) (y2 : Int32) (s0 : Int32) : Option Int32 :=
  gd ((3 * x1) + 2) 24 <|
  (if y2 < 0 then
    some ((f 147 ((3 * x1) + 2).toNatClampNeg) + s0)
  else
    b1 (fX8_kindOf f y2) fun r3 =>
    (if r3 = 1 then
      some ((f 147 ((3 * x1) + 2).toNatClampNeg) + (s0 / 2))
    else
      some ((f 147 ((3 * x1) + 2).toNatClampNeg) + s0)))
def fX8_owes (f : hF) (x1 : Int32) : Option Int32 :=
  gd 0 111 <|
  b1 (fX8_mateBy f x1 (f 158 (0 : Int32).toNatClampNeg)) fun r2 =>
  b1 (fX8_isWoman f x1) fun r3 =>
  (if r3 = 0 then
    (if 0 ≤ r2 then
      gd ((3 * r2) + 2) 24 <|
      fX8_owes_57 f x1 r2 (f 147 ((3 * r2) + 2).toNatClampNeg)
    else
      fX8_owes_57 f x1 r2 0)
  else
    (if 0 ≤ r2 then
      some 0
    else
      gd ((3 * x1) + 2) 24 <|
      some (f 147 ((3 * x1) + 2).toNatClampNeg)))
def fX8_person (f : hF) (x1 : Int32) (x2 : Int32) : Option (Int32 × hF) :=
  b1 (fX8_isPerson f x1) fun r1 =>
  (if r1 = 0 then
    some ((-1), f)
  else
    b1 (fX8_in x2 (0 : Int32) (6 : Int32)) fun r3 =>
    (if r3 = 0 then
      some ((-1), f)
    else
      b1 (fX8_asItIs f) fun f5 =>
      b1 (fX8_findHolds f5) fun f6 =>
      (if 3 ≤ x2 then
        (if x2 = 3 then
          gd (1 + x1) 111 <|
          some ((f6 149 (1 + x1).toNatClampNeg), f6)
        else
          (if x2 = 4 then
            gd 0 111 <|
            b1 (fX8_mateBy f6 x1 (f6 149 (0 : Int32).toNatClampNeg)) fun r14 =>
            some (r14, f6)
          else
            (if x2 = 5 then
              b1 (fX8_owes f6 x1) fun r12 =>
              some (r12, f6)
            else
              b1 (fX8_linesOf f6 x1) fun r11 =>
              some (r11, f6))))
      else
        gd ((3 * x1) + x2) 24 <|
        some ((f6 147 ((3 * x1) + x2).toNatClampNeg), f6))))
def fX8_blanksOf_29 (f : hF) (x1 : Int32) (q4 : Int32 → Int32 → Option Int32) (y3 : Int32) (s0 : Int32) (s1 : Int32) : Option Int32 :=
  q4 (s0 + s1) (y3 + 1)
def fX8_blanksOf_4 (f : hF) (x1 : Int32) : Nat → Int32 → Int32 → Option Int32
  | 0, _, _ => none
  | n+1, y2, y3 =>
  (if 8 ≤ y3 then
    some y2
  else
    b1 (fX8_isBlank f ((8 * x1) + y3)) fun r2 =>
    (if r2 = 0 then
      fX8_blanksOf_29 f x1 (fX8_blanksOf_4 f x1 n) y3 y2 0
    else
      fX8_blanksOf_29 f x1 (fX8_blanksOf_4 f x1 n) y3 y2 1))
def fX8_blanksOf (f : hF) (x1 : Int32) : Option Int32 :=
  fX8_blanksOf_4 f x1 FU 0 0
def fX8_parson (f : hF) (x1 : Int32) (x2 : Int32) : Option (Int32 × hF) :=
  b1 (fX8_isParson f x1) fun r1 =>
  (if r1 = 0 then
    some ((-1), f)
  else
    b1 (fX8_in x2 (0 : Int32) (4 : Int32)) fun r3 =>
    (if r3 = 0 then
      some ((-1), f)
    else
      b1 (fX8_asItIs f) fun f5 =>
      (if 2 ≤ x2 then
        (if x2 = 2 then
          gd (12 + x1) 111 <|
          some ((f5 149 (12 + x1).toNatClampNeg), f5)
        else
          (if x2 = 3 then
            b1 (fX8_blanksOf f5 x1) fun r10 =>
            some (r10, f5)
          else
            gd (9 + x1) 111 <|
            some ((f5 149 (9 + x1).toNatClampNeg), f5)))
      else
        gd ((2 * x1) + x2) 6 <|
        some ((f5 148 ((2 * x1) + x2).toNatClampNeg), f5))))
def fX8_line (f : hF) (x1 : Int32) (x2 : Int32) (x3 : Int32) : Option (Int32 × hF) :=
  b1 (fX8_isLine f x1 x2) fun r1 =>
  (if r1 = 0 then
    some ((-1), f)
  else
    b1 (fX8_in x3 (0 : Int32) (5 : Int32)) fun r3 =>
    (if r3 = 0 then
      some ((-1), f)
    else
      b1 (fX8_asItIs f) fun f5 =>
      b1 (fX8_findHolds f5) fun f6 =>
      b1 (fX8_isOfTwo f6 ((8 * x1) + x2)) fun r7 =>
      (if x3 = 0 then
        b1 (fX8_begun f6 ((8 * x1) + x2)) fun r8 =>
        some (r8, f6)
      else
      (if x3 = 1 then
        (if r7 = 0 then
          some ((-4), f6)
        else
          b1 (fX8_manOf f6 ((8 * x1) + x2)) fun r10 =>
          some (r10, f6))
      else
      (if x3 = 2 then
        (if r7 = 0 then
          some ((-4), f6)
        else
          b1 (fX8_womanOf f6 ((8 * x1) + x2)) fun r12 =>
          some (r12, f6))
      else
      (if x3 = 3 then
        b1 (fX8_isBlank f6 ((8 * x1) + x2)) fun r13 =>
        (if r13 = 0 then
          some (0, f6)
        else
          some (1, f6))
      else
      (if x3 = 4 then
        gd ((8 * x1) + x2) 24 <|
        (if (f6 159 ((8 * x1) + x2).toNatClampNeg) = 0 then
          some (0, f6)
        else
          some (1, f6))
      else
        (if r7 = 0 then
          some ((-4), f6)
        else
          gd ((15 + (4 * ((8 * x1) + x2))) + 3) 111 <|
          some ((f6 158 ((15 + (4 * ((8 * x1) + x2))) + 3).toNatClampNeg), f6)))))))))
def fX8_remembers_49 (f : hF) : Option hF :=
  b1 (fX8_copies 150 888 149 111 f (111 * (f 146 6)) (0 : Int32) (111 : Int32)) fun f1 =>
  lt (st2 f1 146 6 ((f1 146 6) + 1)) fun f2 =>
  some f2
def fX8_remembers_11 : Nat → hF → Int32 → Option hF
  | 0, _, _ => none
  | n+1, f, y1 =>
  (if 777 ≤ y1 then
    lt (st2 f 146 6 ((f 146 6) - 1)) fun f2 =>
    fX8_remembers_49  f2
  else
    gd (y1 + 111) 888 <|
    gd y1 888 <|
    lt (st2 f 150 y1.toNatClampNeg (f 150 (y1 + 111).toNatClampNeg)) fun f5 =>
    fX8_remembers_11  n f5 (y1 + 1))
def fX8_remembers (f : hF) : Option hF :=
  (if (f 146 6) = 8 then
    fX8_remembers_11  FU f 0
  else
    fX8_remembers_49  f)
def fX8_manOfTwo (f : hF) (x1 : Int32) (x2 : Int32) : Option Int32 :=
  b1 (fX8_isWoman f x1) fun r1 =>
  (if r1 = 0 then
    some x1
  else
    some x2)
def fX8_womanOfTwo (f : hF) (x1 : Int32) (x2 : Int32) : Option Int32 :=
  b1 (fX8_isWoman f x1) fun r1 =>
  (if r1 = 0 then
    some x2
  else
    some x1)
def fX8_canBeTwo (f : hF) (x1 : Int32) (x2 : Int32) : Option Int32 :=
  b1 (fX8_manOfTwo f x1 x2) fun r1 =>
  b1 (fX8_womanOfTwo f x1 x2) fun r2 =>
  b1 (fX8_isWoman f x1) fun r3 =>
  b1 (fX8_isWoman f x2) fun r4 =>
  (if r3 = r4 then
    some 0
  else
    b1 (fX8_kindOf f r2) fun r6 =>
    (if r6 = 2 then
      b1 (fX8_kindOf f r1) fun r8 =>
      (if r8 = 2 then
        some 1
      else
        some 0)
    else
      some 1))
def fX8_canPay (f : hF) (x1 : Int32) (x2 : Int32) (x3 : Int32) : Option Int32 :=
  gd (1 + x1) 111 <|
  gd (1 + x2) 111 <|
  (if ((f 158 (1 + x1).toNatClampNeg) + (f 158 (1 + x2).toNatClampNeg)) < x3 then
    some 0
  else
    some 1)
def fX8_pays_36 (x1 : Int32) (x2 : Int32) (x3 : Int32) (x4 : Int32) (f : hF) (y5 : Int32) (s0 : Int32) : Option hF :=
  gd (1 + y5) 111 <|
  gd (1 + y5) 111 <|
  lt (st2 f 158 (1 + y5).toNatClampNeg ((f 158 (1 + y5).toNatClampNeg) - s0)) fun f3 =>
  b1 (fX8_womanOfTwo f3 x2 x3) fun r4 =>
  gd (1 + r4) 111 <|
  gd (1 + r4) 111 <|
  lt (st2 f3 158 (1 + r4).toNatClampNeg ((f3 158 (1 + r4).toNatClampNeg) - (x4 - s0))) fun f7 =>
  gd (9 + x1) 111 <|
  gd (9 + x1) 111 <|
  lt (st2 f7 158 (9 + x1).toNatClampNeg ((f7 158 (9 + x1).toNatClampNeg) + x4)) fun f10 =>
  some f10
def fX8_pays (f : hF) (x1 : Int32) (x2 : Int32) (x3 : Int32) (x4 : Int32) : Option hF :=
  b1 (fX8_manOfTwo f x2 x3) fun r1 =>
  gd (1 + r1) 111 <|
  (if x4 ≤ (f 158 (1 + r1).toNatClampNeg) then
    fX8_pays_36 x1 x2 x3 x4 f r1 x4
  else
    gd (1 + r1) 111 <|
    fX8_pays_36 x1 x2 x3 x4 f r1 (f 158 (1 + r1).toNatClampNeg))
def fX8_isLaw (f : hF) : Option Int32 :=
  gd 0 111 <|
  (if (f 158 (0 : Int32).toNatClampNeg) < (f 146 4) then
    some 0
  else
    some 1)
def fX8_canWed (f : hF) (x1 : Int32) (x2 : Int32) (x3 : Int32) : Option Int32 :=
  b1 (fX8_canBeTwo f x2 x3) fun r1 =>
  (if r1 = 0 then
    some 0
  else
    b1 (fX8_isLaw f) fun r3 =>
    (if r3 = 0 then
      gd ((2 * x1) + 1) 6 <|
      b1 (fX8_canPay f x2 x3 (f 148 ((2 * x1) + 1).toNatClampNeg)) fun r6 =>
      (if r6 = 0 then
        some 0
      else
        some 1)
    else
      some 0))
def fX8_writes (f : hF) (x1 : Int32) (x2 : Int32) (x3 : Int32) : Option hF :=
  b1 (fX8_manOfTwo f x2 x3) fun r1 =>
  gd ((15 + (4 * x1)) + 1) 111 <|
  lt (st2 f 158 ((15 + (4 * x1)) + 1).toNatClampNeg r1) fun f3 =>
  b1 (fX8_womanOfTwo f3 x2 x3) fun r4 =>
  gd ((15 + (4 * x1)) + 2) 111 <|
  lt (st2 f3 158 ((15 + (4 * x1)) + 2).toNatClampNeg r4) fun f6 =>
  gd 0 111 <|
  gd ((15 + (4 * x1)) + 3) 111 <|
  lt (st2 f6 158 ((15 + (4 * x1)) + 3).toNatClampNeg (f6 158 (0 : Int32).toNatClampNeg)) fun f9 =>
  some f9
def fX8_begins (f : hF) (x1 : Int32) : Option (Int32 × hF) :=
  gd (12 + x1) 111 <|
  gd 0 111 <|
  gd (15 + (4 * ((8 * x1) + (f 158 (12 + x1).toNatClampNeg)))) 111 <|
  lt (st2 f 158 (15 + (4 * ((8 * x1) + (f 158 (12 + x1).toNatClampNeg)))).toNatClampNeg (f 158 (0 : Int32).toNatClampNeg)) fun f4 =>
  gd ((15 + (4 * ((8 * x1) + (f 158 (12 + x1).toNatClampNeg)))) + 1) 111 <|
  lt (st2 f4 158 ((15 + (4 * ((8 * x1) + (f 158 (12 + x1).toNatClampNeg)))) + 1).toNatClampNeg (-1)) fun f6 =>
  gd (12 + x1) 111 <|
  gd (12 + x1) 111 <|
  lt (st2 f6 158 (12 + x1).toNatClampNeg ((f6 158 (12 + x1).toNatClampNeg) + 1)) fun f9 =>
  some (((8 * x1) + (f 158 (12 + x1).toNatClampNeg)), f9)
def fX8_weds (f : hF) (x1 : Int32) (x2 : Int32) (x3 : Int32) : Option hF :=
  gd ((2 * x1) + 1) 6 <|
  b1 (fX8_pays f x1 x2 x3 (f 148 ((2 * x1) + 1).toNatClampNeg)) fun f2 =>
  b2 (fX8_begins f2 x1) fun r3 f4 =>
  b1 (fX8_writes f4 r3 x2 x3) fun f5 =>
  some f5
def fX8_wed (f : hF) (x1 : Int32) (x2 : Int32) (x3 : Int32) : Option (Int32 × hF) :=
  b1 (fX8_isParson f x1) fun r1 =>
  (if r1 = 0 then
    some ((-1), f)
  else
    b1 (fX8_isPerson f x2) fun r3 =>
    (if r3 = 0 then
      some ((-1), f)
    else
      b1 (fX8_isPerson f x3) fun r5 =>
      (if r5 = 0 then
        some ((-1), f)
      else
        (if x2 = x3 then
          some ((-1), f)
        else
          b1 (fX8_asItIs f) fun f8 =>
          b1 (fX8_canWed f8 x1 x2 x3) fun r9 =>
          (if r9 = 0 then
            some ((-2), f8)
          else
            gd (12 + x1) 111 <|
            (if (f8 149 (12 + x1).toNatClampNeg) = 8 then
              some ((-3), f8)
            else
              b1 (fX8_remembers f8) fun f13 =>
              b1 (fX8_weds f13 x1 x2 x3) fun f14 =>
              b1 (fX8_copies 149 111 158 111 f14 (0 : Int32) (0 : Int32) (111 : Int32)) fun f15 =>
              gd (12 + x1) 111 <|
              some (((f15 149 (12 + x1).toNatClampNeg) - 1), f15)))))))
def fX8_canLeave (f : hF) (x1 : Int32) : Option Int32 :=
  gd (2 * x1) 6 <|
  (if (f 148 (2 * x1).toNatClampNeg) = 0 then
    some 0
  else
    b1 (fX8_isLaw f) fun r3 =>
    (if r3 = 0 then
      (if (f 148 (2 * x1).toNatClampNeg) = 1 then
        b1 (fX8_blanksOf f x1) fun r6 =>
        (if 2 ≤ r6 then
          some 0
        else
          some 1)
      else
        some 1)
    else
      some 0))
def fX8_leave (f : hF) (x1 : Int32) : Option (Int32 × hF) :=
  b1 (fX8_isParson f x1) fun r1 =>
  (if r1 = 0 then
    some ((-1), f)
  else
    b1 (fX8_asItIs f) fun f3 =>
    b1 (fX8_canLeave f3 x1) fun r4 =>
    (if r4 = 0 then
      some ((-2), f3)
    else
      gd (12 + x1) 111 <|
      (if (f3 149 (12 + x1).toNatClampNeg) = 8 then
        some ((-3), f3)
      else
        b1 (fX8_remembers f3) fun f8 =>
        b2 (fX8_begins f8 x1) fun r9 f10 =>
        b1 (fX8_copies 149 111 158 111 f10 (0 : Int32) (0 : Int32) (111 : Int32)) fun f11 =>
        some ((r9 - r9 / 8 * 8), f11))))
def fX8_costOf (f : hF) (x1 : Int32) : Option Int32 :=
  gd 0 111 <|
  b1 (fX8_begun f x1) fun r2 =>
  gd ((2 * (x1 / 8)) + 1) 6 <|
  gd (2 * (x1 / 8)) 6 <|
  (if (f 148 (2 * (x1 / 8)).toNatClampNeg) = 2 then
    some ((f 148 ((2 * (x1 / 8)) + 1).toNatClampNeg) + (((f 158 (0 : Int32).toNatClampNeg) - r2) / 2))
  else
    some ((f 148 ((2 * (x1 / 8)) + 1).toNatClampNeg) + ((f 158 (0 : Int32).toNatClampNeg) - r2)))
def fX8_fill (f : hF) (x1 : Int32) (x2 : Int32) (x3 : Int32) (x4 : Int32) : Option (Int32 × hF) :=
  b1 (fX8_isLine f x1 x2) fun r1 =>
  (if r1 = 0 then
    some ((-1), f)
  else
    b1 (fX8_isPerson f x3) fun r3 =>
    (if r3 = 0 then
      some ((-1), f)
    else
      b1 (fX8_isPerson f x4) fun r5 =>
      (if r5 = 0 then
        some ((-1), f)
      else
        (if x3 = x4 then
          some ((-1), f)
        else
          b1 (fX8_asItIs f) fun f8 =>
          b1 (fX8_isBlank f8 ((8 * x1) + x2)) fun r9 =>
          (if r9 = 0 then
            some ((-2), f8)
          else
            b1 (fX8_canBeTwo f8 x3 x4) fun r11 =>
            (if r11 = 0 then
              some ((-2), f8)
            else
              b1 (fX8_costOf f8 ((8 * x1) + x2)) fun r13 =>
              b1 (fX8_canPay f8 x3 x4 r13) fun r14 =>
              (if r14 = 0 then
                some ((-2), f8)
              else
                b1 (fX8_remembers f8) fun f16 =>
                b1 (fX8_costOf f16 ((8 * x1) + x2)) fun r17 =>
                b1 (fX8_pays f16 x1 x3 x4 r17) fun f18 =>
                b1 (fX8_writes f18 ((8 * x1) + x2) x3 x4) fun f19 =>
                b1 (fX8_copies 149 111 158 111 f19 (0 : Int32) (0 : Int32) (111 : Int32)) fun f20 =>
                some (r17, f20))))))))
def fX8_strike (f : hF) (x1 : Int32) (x2 : Int32) : Option (Int32 × hF) :=
  b1 (fX8_isLine f x1 x2) fun r1 =>
  (if r1 = 0 then
    some ((-1), f)
  else
    b1 (fX8_asItIs f) fun f3 =>
    b1 (fX8_isOfTwo f3 ((8 * x1) + x2)) fun r4 =>
    (if r4 = 0 then
      some ((-2), f3)
    else
      b1 (fX8_remembers f3) fun f6 =>
      gd ((15 + (4 * ((8 * x1) + x2))) + 1) 111 <|
      lt (st2 f6 158 ((15 + (4 * ((8 * x1) + x2))) + 1).toNatClampNeg (-2)) fun f8 =>
      b1 (fX8_copies 149 111 158 111 f8 (0 : Int32) (0 : Int32) (111 : Int32)) fun f9 =>
      b1 (fX8_findHolds f9) fun f10 =>
      b1 (fX8_manyHold f10) fun r11 =>
      some (r11, f10)))
def fX8_pass (f : hF) (x1 : Int32) : Option (Int32 × hF) :=
  b1 (fX8_in x1 (1 : Int32) (30 : Int32)) fun r1 =>
  (if r1 = 0 then
    some ((-1), f)
  else
    b1 (fX8_remembers f) fun f3 =>
    gd 0 111 <|
    gd 0 111 <|
    lt (st2 f3 149 (0 : Int32).toNatClampNeg ((f3 149 (0 : Int32).toNatClampNeg) + x1)) fun f6 =>
    gd 0 111 <|
    some ((f6 149 (0 : Int32).toNatClampNeg), f6))
def fX8_undo (f : hF) : Option (Int32 × hF) :=
  (if (f 146 6) = 0 then
    some ((-2), f)
  else
    lt (st2 f 146 6 ((f 146 6) - 1)) fun f2 =>
    b1 (fX8_copies 149 111 150 888 f2 (0 : Int32) (111 * (f2 146 6)) (111 : Int32)) fun f3 =>
    some ((f3 146 6), f3))
def fX8_mate (f : hF) (x1 : Int32) (x2 : Int32) : Option (Int32 × hF) :=
  b1 (fX8_isPerson f x1) fun r1 =>
  (if r1 = 0 then
    some ((-1), f)
  else
    b1 (fX8_in x2 (0 : Int32) (999 : Int32)) fun r3 =>
    (if r3 = 0 then
      some ((-1), f)
    else
      b1 (fX8_asItIs f) fun f5 =>
      b1 (fX8_findHolds f5) fun f6 =>
      b1 (fX8_mateBy f6 x1 x2) fun r7 =>
      some (r7, f6)))
def fX8_twice_33 (q8 : hF → Int32 → Int32 → Option (Int32 × hF)) (f : hF) (y2 : Int32) (s0 : Int32) (s1 : Int32) : Option (Int32 × hF) :=
  q8 f (s0 ||| s1) (y2 + 1)
def fX8_twice_8 : Nat → hF → Int32 → Int32 → Option (Int32 × hF)
  | 0, _, _, _ => none
  | n+1, f, y1, y2 =>
  (if (f 146 0) ≤ y2 then
    some (y1, f)
  else
    b1 (fX8_linesOf f y2) fun r2 =>
    (if r2 ≤ 1 then
      fX8_twice_33  (fX8_twice_8 n) f y2 y1 0
    else
      fX8_twice_33  (fX8_twice_8 n) f y2 y1 (1 <<< (y2 &&& 31))))
def fX8_twice (f : hF) : Option (Int32 × hF) :=
  b1 (fX8_asItIs f) fun f1 =>
  fX8_twice_8  FU f1 0 0
def fX8_falseOnes_29 (q8 : hF → Int32 → Int32 → Option (Int32 × hF)) (f : hF) (y1 : Int32) (y2 : Int32) (s1 : Int32) (s2 : Int32) : Option (Int32 × hF) :=
  gd s1 256 <|
  lt (st2 f 161 s1.toNatClampNeg s2) fun f2 =>
  q8 f2 y1 (y2 + 1)
def fX8_falseOnes_103 (q38 : hF → Int32 → Int32 → Option (Int32 × hF)) (q76 : hF → Int32 → Int32 → Int32 → Int32 → Option (Int32 × hF)) (f : hF) (y1 : Int32) (y2 : Int32) (y3 : Int32) (y4 : Int32) (s0 : Int32) : Option (Int32 × hF) :=
  (if s0 = 0 then
    q76 f y1 y2 y3 (y4 + (-1))
  else
    gd y4 256 <|
    gd (y4 ||| y3) 256 <|
    (if ((f 161 y4.toNatClampNeg) + 1) ≤ (f 161 (y4 ||| y3).toNatClampNeg) then
      q76 f y1 y2 y3 (y4 + (-1))
    else
      gd y4 256 <|
      gd (y4 ||| y3) 256 <|
      lt (st2 f 161 (y4 ||| y3).toNatClampNeg ((f 161 y4.toNatClampNeg) + 1)) fun f7 =>
      q76 f7 y1 y2 y3 (y4 + (-1))))
def fX8_falseOnes_102 (q38 : hF → Int32 → Int32 → Option (Int32 × hF)) (q76 : hF → Int32 → Int32 → Int32 → Int32 → Option (Int32 × hF)) (f : hF) (y1 : Int32) (y2 : Int32) (y3 : Int32) (y4 : Int32) : Option (Int32 × hF) :=
  fX8_falseOnes_103  q38 q76 f y1 y2 y3 y4 0
def fX8_falseOnes_76 (q38 : hF → Int32 → Int32 → Option (Int32 × hF)) : Nat → hF → Int32 → Int32 → Int32 → Int32 → Option (Int32 × hF)
  | 0, _, _, _, _, _ => none
  | n+1, f, y1, y2, y3, y4 =>
  (if y4 < 0 then
    q38 f y1 (y2 + 1)
  else
    gd y4 256 <|
    (if (f 161 y4.toNatClampNeg) < 0 then
      fX8_falseOnes_102  q38 (fX8_falseOnes_76 q38 n) f y1 y2 y3 y4
    else
      (if (y4 &&& y3) = 0 then
        fX8_falseOnes_103  q38 (fX8_falseOnes_76 q38 n) f y1 y2 y3 y4 1
      else
        fX8_falseOnes_102  q38 (fX8_falseOnes_76 q38 n) f y1 y2 y3 y4)))
def fX8_falseOnes_165 : Nat → hF → Int32 → Int32 → Int32 → Option (Int32 × hF)
  | 0, _, _, _, _ => none
  | n+1, f, y1, y2, y3 =>
  (if 256 ≤ y3 then
    some ((y1 - y2), f)
  else
    gd y3 256 <|
    (if (f 161 y3.toNatClampNeg) ≤ y2 then
      fX8_falseOnes_165  n f y1 y2 (y3 + 1)
    else
      gd y3 256 <|
      fX8_falseOnes_165  n f y1 (f 161 y3.toNatClampNeg) (y3 + 1)))
def fX8_falseOnes_38 : Nat → hF → Int32 → Int32 → Option (Int32 × hF)
  | 0, _, _, _ => none
  | n+1, f, y1, y2 =>
  (if 24 ≤ y2 then
    fX8_falseOnes_165  FU f y1 0 0
  else
    b1 (fX8_isOfTwo f y2) fun r2 =>
    (if r2 = 0 then
      fX8_falseOnes_38  n f y1 (y2 + 1)
    else
      b1 (fX8_manOf f y2) fun r4 =>
      b1 (fX8_womanOf f y2) fun r5 =>
      fX8_falseOnes_76  (fX8_falseOnes_38 n) FU f (y1 + 1) y2 ((1 <<< (r4 &&& 31)) ||| (1 <<< (r5 &&& 31))) 255))
def fX8_falseOnes_8 : Nat → hF → Int32 → Int32 → Option (Int32 × hF)
  | 0, _, _, _ => none
  | n+1, f, y1, y2 =>
  (if 256 ≤ y2 then
    fX8_falseOnes_38  FU f y1 0
  else
    (if y2 = 0 then
      fX8_falseOnes_29  (fX8_falseOnes_8 n) f y1 y2 y2 0
    else
      fX8_falseOnes_29  (fX8_falseOnes_8 n) f y1 y2 y2 (-1)))
def fX8_falseOnes (f : hF) : Option (Int32 × hF) :=
  b1 (fX8_asItIs f) fun f1 =>
  fX8_falseOnes_8  FU f1 0 0
def fX8_date_115 (x1 : Int32) (x2 : Int32) (x3 : Int32) (q45 : hF → Int32 → Int32 → Int32 → Option (Int32 × hF)) (f : hF) (y4 : Int32) (y6 : Int32) (y7 : Int32) (y8 : Int32) (s0 : Int32) : Option (Int32 × hF) :=
  (if y8 = 0 then
    q45 f y4 s0 (y6 + 1)
  else
    b1 (fX8_costOf f y7) fun r2 =>
    q45 f r2 s0 (y6 + 1))
def fX8_date_101 (x1 : Int32) (x2 : Int32) (x3 : Int32) (q45 : hF → Int32 → Int32 → Int32 → Option (Int32 × hF)) (f : hF) (y4 : Int32) (y5 : Int32) (y6 : Int32) (y7 : Int32) (s0 : Int32) : Option (Int32 × hF) :=
  (if s0 = 0 then
    fX8_date_115 x1 x2 x3 q45 f y4 y6 y7 s0 y5
  else
    fX8_date_115 x1 x2 x3 q45 f y4 y6 y7 s0 y6)
def fX8_date_96 (x1 : Int32) (x2 : Int32) (x3 : Int32) (q45 : hF → Int32 → Int32 → Int32 → Option (Int32 × hF)) (f : hF) (y4 : Int32) (y5 : Int32) (y6 : Int32) (y7 : Int32) : Option (Int32 × hF) :=
  fX8_date_101 x1 x2 x3 q45 f y4 y5 y6 y7 1
def fX8_date_100 (x1 : Int32) (x2 : Int32) (x3 : Int32) (q45 : hF → Int32 → Int32 → Int32 → Option (Int32 × hF)) (f : hF) (y4 : Int32) (y5 : Int32) (y6 : Int32) (y7 : Int32) : Option (Int32 × hF) :=
  fX8_date_101 x1 x2 x3 q45 f y4 y5 y6 y7 0
def fX8_date_201 (x1 : Int32) (x2 : Int32) (x3 : Int32) (f : hF) (y4 : Int32) (y5 : Int32) (y6 : Int32) (s0 : Int32) : Option (Int32 × hF) :=
  (if x3 = 0 then
    (if s0 = 0 then
      some (y4, f)
    else
      some (y6, f))
  else
    (if s0 = 0 then
      some (y5, f)
    else
      some (8, f)))
def fX8_date_196 (x1 : Int32) (x2 : Int32) (x3 : Int32) (f : hF) (y4 : Int32) (y5 : Int32) (y6 : Int32) : Option (Int32 × hF) :=
  fX8_date_201 x1 x2 x3 f y4 y5 y6 1
def fX8_date_200 (x1 : Int32) (x2 : Int32) (x3 : Int32) (f : hF) (y4 : Int32) (y5 : Int32) (y6 : Int32) : Option (Int32 × hF) :=
  fX8_date_201 x1 x2 x3 f y4 y5 y6 0
def fX8_date_45 (x1 : Int32) (x2 : Int32) (x3 : Int32) : Nat → hF → Int32 → Int32 → Int32 → Option (Int32 × hF)
  | 0, _, _, _, _ => none
  | n+1, f, y4, y5, y6 =>
  (if 8 ≤ y6 then
    gd ((2 * x1) + 1) 6 <|
    gd 0 111 <|
    (if x2 < (f 149 (0 : Int32).toNatClampNeg) then
      fX8_date_200 x1 x2 x3 f y4 y5 (f 148 ((2 * x1) + 1).toNatClampNeg)
    else
      b1 (fX8_isLaw f) fun r5 =>
      (if r5 = 0 then
        gd (12 + x1) 111 <|
        (if 8 ≤ (f 149 (12 + x1).toNatClampNeg) then
          fX8_date_200 x1 x2 x3 f y4 y5 (f 148 ((2 * x1) + 1).toNatClampNeg)
        else
          (if y4 < 0 then
            fX8_date_196 x1 x2 x3 f y4 y5 (f 148 ((2 * x1) + 1).toNatClampNeg)
          else
            (if y4 ≤ (f 148 ((2 * x1) + 1).toNatClampNeg) then
              fX8_date_200 x1 x2 x3 f y4 y5 (f 148 ((2 * x1) + 1).toNatClampNeg)
            else
              fX8_date_196 x1 x2 x3 f y4 y5 (f 148 ((2 * x1) + 1).toNatClampNeg))))
      else
        fX8_date_200 x1 x2 x3 f y4 y5 (f 148 ((2 * x1) + 1).toNatClampNeg)))
  else
    b1 (fX8_isBlank f ((8 * x1) + y6)) fun r11 =>
    (if r11 = 0 then
      fX8_date_100 x1 x2 x3 (fX8_date_45 x1 x2 x3 n) f y4 y5 y6 ((8 * x1) + y6)
    else
      b1 (fX8_begun f ((8 * x1) + y6)) fun r13 =>
      (if x2 < r13 then
        fX8_date_100 x1 x2 x3 (fX8_date_45 x1 x2 x3 n) f y4 y5 y6 ((8 * x1) + y6)
      else
        (if y4 < 0 then
          fX8_date_96 x1 x2 x3 (fX8_date_45 x1 x2 x3 n) f y4 y5 y6 ((8 * x1) + y6)
        else
          b1 (fX8_costOf f ((8 * x1) + y6)) fun r16 =>
          (if y4 ≤ r16 then
            fX8_date_100 x1 x2 x3 (fX8_date_45 x1 x2 x3 n) f y4 y5 y6 ((8 * x1) + y6)
          else
            fX8_date_96 x1 x2 x3 (fX8_date_45 x1 x2 x3 n) f y4 y5 y6 ((8 * x1) + y6))))))
def fX8_date (f : hF) (x1 : Int32) (x2 : Int32) (x3 : Int32) : Option (Int32 × hF) :=
  b1 (fX8_isParson f x1) fun r1 =>
  (if r1 = 0 then
    some ((-1), f)
  else
    b1 (fX8_in x2 (0 : Int32) (999 : Int32)) fun r3 =>
    (if r3 = 0 then
      some ((-1), f)
    else
      b1 (fX8_in x3 (0 : Int32) (1 : Int32)) fun r5 =>
      (if r5 = 0 then
        some ((-1), f)
      else
        b1 (fX8_asItIs f) fun f7 =>
        fX8_date_45 x1 x2 x3 FU f7 (-4) (-4) 0)))
def fX8_look_69 (x1 : Int32) (q26 : hF → Int32 → Int32 → Int32 → Option (Int32 × hF)) (q41 : hF → Int32 → Int32 → Int32 → Int32 → Int32 → Option (Int32 × hF)) (f : hF) (y2 : Int32) (y3 : Int32) (y4 : Int32) (y6 : Int32) : Option (Int32 × hF) :=
  q41 f y2 y3 y4 1 (y6 + 1)
def fX8_look_109 (x1 : Int32) (q26 : hF → Int32 → Int32 → Int32 → Option (Int32 × hF)) (f : hF) (y2 : Int32) (y4 : Int32) (s0 : Int32) (s1 : Int32) : Option (Int32 × hF) :=
  q26 f y2 (s0 ||| s1) (y4 + 1)
def fX8_look_93 (x1 : Int32) (q26 : hF → Int32 → Int32 → Int32 → Option (Int32 × hF)) (f : hF) (y3 : Int32) (y4 : Int32) (y5 : Int32) (s0 : Int32) (s1 : Int32) : Option (Int32 × hF) :=
  (if y5 = 0 then
    fX8_look_109 x1 q26 f (s0 + s1) y4 y3 0
  else
    fX8_look_109 x1 q26 f (s0 + s1) y4 y3 (1 <<< (y4 &&& 31)))
def fX8_look_41 (x1 : Int32) (q26 : hF → Int32 → Int32 → Int32 → Option (Int32 × hF)) : Nat → hF → Int32 → Int32 → Int32 → Int32 → Int32 → Option (Int32 × hF)
  | 0, _, _, _, _, _, _ => none
  | n+1, f, y2, y3, y4, y5, y6 =>
  (if 8 ≤ y6 then
    (if y5 = 0 then
      fX8_look_93 x1 q26 f y3 y4 y5 y2 0
    else
      fX8_look_93 x1 q26 f y3 y4 y5 y2 1)
  else
    (if y5 = 0 then
      gd ((8 * y4) + y6) 24 <|
      (if (f 159 ((8 * y4) + y6).toNatClampNeg) = 0 then
        fX8_look_41 x1 q26 n f y2 y3 y4 0 (y6 + 1)
      else
        fX8_look_69 x1 q26 (fX8_look_41 x1 q26 n) f y2 y3 y4 y6)
    else
      fX8_look_69 x1 q26 (fX8_look_41 x1 q26 n) f y2 y3 y4 y6))
def fX8_look_26 (x1 : Int32) : Nat → hF → Int32 → Int32 → Int32 → Option (Int32 × hF)
  | 0, _, _, _, _ => none
  | n+1, f, y2, y3, y4 =>
  (if (f 146 2) ≤ y4 then
    (if x1 = 0 then
      some (y2, f)
    else
      some (y3, f))
  else
    fX8_look_41 x1 (fX8_look_26 x1 n) FU f y2 y3 y4 0 0)
def fX8_look (f : hF) (x1 : Int32) : Option (Int32 × hF) :=
  b1 (fX8_in x1 (0 : Int32) (1 : Int32)) fun r1 =>
  (if r1 = 0 then
    some ((-1), f)
  else
    b1 (fX8_asItIs f) fun f3 =>
    b1 (fX8_findHolds f3) fun f4 =>
    fX8_look_26 x1 FU f4 0 0 0)
def fX8_can_77 (x1 : Int32) (q18 : hF → Int32 → Int32 → Option (Int32 × hF)) (q29 : hF → Int32 → Int32 → Int32 → Option (Int32 × hF)) (f : hF) (y3 : Int32) (y4 : Int32) (s0 : Int32) (s1 : Int32) : Option (Int32 × hF) :=
  q29 f (s0 ||| s1) y3 (y4 + 1)
def fX8_can_76 (x1 : Int32) (q18 : hF → Int32 → Int32 → Option (Int32 × hF)) (q29 : hF → Int32 → Int32 → Int32 → Option (Int32 × hF)) (f : hF) (y3 : Int32) (y4 : Int32) (s0 : Int32) : Option (Int32 × hF) :=
  fX8_can_77 x1 q18 q29 f y3 y4 s0 0
def fX8_can_29 (x1 : Int32) (q18 : hF → Int32 → Int32 → Option (Int32 × hF)) : Nat → hF → Int32 → Int32 → Int32 → Option (Int32 × hF)
  | 0, _, _, _, _ => none
  | n+1, f, y2, y3, y4 =>
  (if (f 146 2) ≤ y4 then
    q18 f y2 (y3 + 1)
  else
    (if y3 = x1 then
      fX8_can_76 x1 q18 (fX8_can_29 x1 q18 n) f y3 y4 y2
    else
      b1 (fX8_canWed f y4 x1 y3) fun r3 =>
      (if r3 = 0 then
        fX8_can_76 x1 q18 (fX8_can_29 x1 q18 n) f y3 y4 y2
      else
        gd (12 + y4) 111 <|
        (if 8 ≤ (f 149 (12 + y4).toNatClampNeg) then
          fX8_can_76 x1 q18 (fX8_can_29 x1 q18 n) f y3 y4 y2
        else
          fX8_can_77 x1 q18 (fX8_can_29 x1 q18 n) f y3 y4 y2 (1 <<< (y3 &&& 31))))))
def fX8_can_18 (x1 : Int32) : Nat → hF → Int32 → Int32 → Option (Int32 × hF)
  | 0, _, _, _ => none
  | n+1, f, y2, y3 =>
  (if (f 146 0) ≤ y3 then
    some (y2, f)
  else
    fX8_can_29 x1 (fX8_can_18 x1 n) FU f y2 y3 0)
def fX8_can (f : hF) (x1 : Int32) : Option (Int32 × hF) :=
  b1 (fX8_isPerson f x1) fun r1 =>
  (if r1 = 0 then
    some ((-1), f)
  else
    b1 (fX8_asItIs f) fun f3 =>
    fX8_can_18 x1 FU f3 0 0)
def fX8_see_107 (x1 : Int32) (x2 : Int32) (x3 : Int32) (x4 : Int32) (f : hF) (s1 : Int32) (s2 : Int32) : Option (Int32 × hF) :=
  gd s1 24 <|
  lt (st2 f 152 s1.toNatClampNeg s2) fun f2 =>
  lt (st2 f2 146 10 ((f2 146 10) + 1)) fun f3 =>
  some ((f3 146 10), f3)
def fX8_see (f : hF) (x1 : Int32) (x2 : Int32) (x3 : Int32) (x4 : Int32) : Option (Int32 × hF) :=
  b1 (fX8_isPerson f x1) fun r1 =>
  (if r1 = 0 then
    some ((-1), f)
  else
    b1 (fX8_isPerson f x2) fun r3 =>
    (if r3 = 0 then
      some ((-1), f)
    else
      (if x1 = x2 then
        some ((-1), f)
      else
        b1 (fX8_in x3 (0 : Int32) (99 : Int32)) fun r6 =>
        (if r6 = 0 then
          some ((-1), f)
        else
          (if (f 146 10) = 6 then
            some ((-3), f)
          else
            gd (4 * (f 146 10)) 24 <|
            lt (st2 f 152 (4 * (f 146 10)).toNatClampNeg x1) fun f10 =>
            gd ((4 * (f10 146 10)) + 1) 24 <|
            lt (st2 f10 152 ((4 * (f10 146 10)) + 1).toNatClampNeg x2) fun f12 =>
            gd ((4 * (f12 146 10)) + 2) 24 <|
            lt (st2 f12 152 ((4 * (f12 146 10)) + 2).toNatClampNeg x3) fun f14 =>
            (if x4 = 0 then
              fX8_see_107 x1 x2 x3 x4 f14 ((4 * (f14 146 10)) + 3) 0
            else
              fX8_see_107 x1 x2 x3 x4 f14 ((4 * (f14 146 10)) + 3) 1))))))
def fX8_forget (f : hF) : Option (Int32 × hF) :=
  lt (st2 f 146 10 0) fun f1 =>
  some ((f 146 10), f1)
def fX8_isSo_88 (q8 : hF → Int32 → Int32 → Option (Int32 × hF)) (f : hF) (y2 : Int32) : Option (Int32 × hF) :=
  q8 f 0 (y2 + 1)
def fX8_isSo_81 (q8 : hF → Int32 → Int32 → Option (Int32 × hF)) (f : hF) (y2 : Int32) (s0 : Int32) (s1 : Int32) : Option (Int32 × hF) :=
  (if s0 = s1 then
    q8 f 1 (y2 + 1)
  else
    fX8_isSo_88  q8 f y2)
def fX8_isSo_56 (q8 : hF → Int32 → Int32 → Option (Int32 × hF)) (f : hF) (y1 : Int32) (y2 : Int32) (s0 : Int32) : Option (Int32 × hF) :=
  (if y1 = 0 then
    fX8_isSo_88  q8 f y2
  else
    gd ((4 * y2) + 3) 24 <|
    (if (f 152 ((4 * y2) + 3).toNatClampNeg) = 1 then
      fX8_isSo_81  q8 f y2 s0 1
    else
      fX8_isSo_81  q8 f y2 s0 0))
def fX8_isSo_8 : Nat → hF → Int32 → Int32 → Option (Int32 × hF)
  | 0, _, _, _ => none
  | n+1, f, y1, y2 =>
  (if (f 146 10) ≤ y2 then
    nr .boolean y1 <|
    some (y1, f)
  else
    gd (4 * y2) 24 <|
    gd ((4 * y2) + 2) 24 <|
    b1 (fX8_mateBy f (f 152 (4 * y2).toNatClampNeg) (f 152 ((4 * y2) + 2).toNatClampNeg)) fun r5 =>
    gd ((4 * y2) + 1) 24 <|
    (if r5 = (f 152 ((4 * y2) + 1).toNatClampNeg) then
      fX8_isSo_56  (fX8_isSo_8 n) f y1 y2 1
    else
      fX8_isSo_56  (fX8_isSo_8 n) f y1 y2 0))
def fX8_isSo (f : hF) : Option (Int32 × hF) :=
  b1 (fX8_findHolds f) fun f1 =>
  fX8_isSo_8  FU f1 1 0
def fX8_trueBy_137 (x1 : Int32) (q36 : hF → Int32 → Int32 → Int32 → Option (Int32 × hF)) (f : hF) (y2 : Int32) (y3 : Int32) (y4 : Int32) : Option (Int32 × hF) :=
  q36 f y2 y3 (y4 + 1)
def fX8_trueBy_109 (x1 : Int32) (q36 : hF → Int32 → Int32 → Int32 → Option (Int32 × hF)) (f : hF) (y3 : Int32) (y4 : Int32) (y6 : Int32) (s0 : Int32) (s1 : Int32) : Option (Int32 × hF) :=
  (if y6 = 0 then
    fX8_trueBy_137 x1 q36 f (s0 + s1) y3 y4
  else
    (if 0 ≤ y3 then
      fX8_trueBy_137 x1 q36 f (s0 + s1) y3 y4
    else
      q36 f (s0 + s1) ((10 * (y4 / 8)) + (y4 - y4 / 8 * 8)) (y4 + 1)))
def fX8_trueBy_36 (x1 : Int32) : Nat → hF → Int32 → Int32 → Int32 → Option (Int32 × hF)
  | 0, _, _, _, _ => none
  | n+1, f, y2, y3, y4 =>
  (if 24 ≤ y4 then
    (if x1 = 0 then
      some (y2, f)
    else
      some (y3, f))
  else
    b1 (fX8_isOfTwo f y4) fun r3 =>
    (if r3 = 0 then
      fX8_trueBy_36 x1 n f y2 y3 (y4 + 1)
    else
      b1 (fX8_manOf f y4) fun r5 =>
      gd ((15 + (4 * y4)) + 1) 111 <|
      lt (st2 f 158 ((15 + (4 * y4)) + 1).toNatClampNeg (-2)) fun f7 =>
      b2 (fX8_isSo f7) fun r8 f9 =>
      gd ((15 + (4 * y4)) + 1) 111 <|
      lt (st2 f9 158 ((15 + (4 * y4)) + 1).toNatClampNeg r5) fun f11 =>
      (if r8 = 0 then
        fX8_trueBy_109 x1 (fX8_trueBy_36 x1 n) f11 y3 y4 r8 y2 0
      else
        fX8_trueBy_109 x1 (fX8_trueBy_36 x1 n) f11 y3 y4 r8 y2 1)))
def fX8_trueBy_29 (x1 : Int32) (f : hF) (s0 : Int32) : Option (Int32 × hF) :=
  fX8_trueBy_36 x1 FU f s0 (-4) 0
def fX8_trueBy (f : hF) (x1 : Int32) : Option (Int32 × hF) :=
  b1 (fX8_in x1 (0 : Int32) (1 : Int32)) fun r1 =>
  (if r1 = 0 then
    some ((-1), f)
  else
    b1 (fX8_asItIs f) fun f3 =>
    b2 (fX8_isSo f3) fun r4 f5 =>
    (if r4 = 0 then
      fX8_trueBy_29 x1 f5 0
    else
      fX8_trueBy_29 x1 f5 256))
def fX8_hand (f : hF) (x1 : Int32) (x2 : Int32) : Option (Int32 × hF) :=
  b1 (fX8_isLine f x1 x2) fun r1 =>
  (if r1 = 0 then
    some ((-1), f)
  else
    b1 (fX8_asItIs f) fun f3 =>
    b1 (fX8_isOfTwo f3 ((8 * x1) + x2)) fun r4 =>
    (if r4 = 0 then
      some ((-2), f3)
    else
      gd ((15 + (4 * ((8 * x1) + x2))) + 3) 111 <|
      b1 (fX8_begun f3 ((8 * x1) + x2)) fun r7 =>
      (if (f3 158 ((15 + (4 * ((8 * x1) + x2))) + 3).toNatClampNeg) = r7 then
        some (7, f3)
      else
        some (6, f3))))
def fX8_child (f : hF) (x1 : Int32) (x2 : Int32) : Option (Int32 × hF) :=
  b1 (fX8_isPerson f x1) fun r1 =>
  (if r1 = 0 then
    some ((-1), f)
  else
    b1 (fX8_isWoman f x1) fun r3 =>
    (if r3 = 0 then
      some ((-1), f)
    else
      b1 (fX8_in x2 (0 : Int32) (999 : Int32)) fun r5 =>
      (if r5 = 0 then
        some ((-1), f)
      else
        b1 (fX8_asItIs f) fun f7 =>
        b1 (fX8_findHolds f7) fun f8 =>
        b1 (fX8_mateBy f8 x1 (x2 - 9)) fun r9 =>
        (if 0 ≤ r9 then
          some (1, f8)
        else
          some (0, f8)))))
def fX8_isMated (f : hF) (x1 : Int32) : Option Int32 :=
  gd 0 111 <|
  b1 (fX8_mateBy f x1 (f 158 (0 : Int32).toNatClampNeg)) fun r2 =>
  (if r2 < 0 then
    some 0
  else
    some 1)
def fX8_isBrought_53 (x1 : Int32) (q2 : hF → Int32 → Option hF) (f : hF) (y2 : Int32) (s0 : Int32) : Option hF :=
  (if s0 = 0 then
    q2 f (y2 + 1)
  else
    b1 (fX8_weds f (0 : Int32) y2 x1) fun f2 =>
    b1 (fX8_findHolds f2) fun f3 =>
    some f3)
def fX8_isBrought_52 (x1 : Int32) (q2 : hF → Int32 → Option hF) (f : hF) (y2 : Int32) : Option hF :=
  fX8_isBrought_53 x1 q2 f y2 0
def fX8_isBrought_2 (x1 : Int32) : Nat → hF → Int32 → Option hF
  | 0, _, _ => none
  | n+1, f, y2 =>
  (if (f 146 0) ≤ y2 then
    some f
  else
    b1 (fX8_isWoman f y2) fun r2 =>
    (if r2 = 0 then
      b1 (fX8_isMated f y2) fun r4 =>
      (if r4 = 0 then
        b1 (fX8_canWed f (0 : Int32) y2 x1) fun r6 =>
        (if r6 = 0 then
          fX8_isBrought_52 x1 (fX8_isBrought_2 x1 n) f y2
        else
          gd 12 111 <|
          (if 8 ≤ (f 158 (12 : Int32).toNatClampNeg) then
            fX8_isBrought_52 x1 (fX8_isBrought_2 x1 n) f y2
          else
            fX8_isBrought_53 x1 (fX8_isBrought_2 x1 n) f y2 1))
      else
        fX8_isBrought_52 x1 (fX8_isBrought_2 x1 n) f y2)
    else
      fX8_isBrought_52 x1 (fX8_isBrought_2 x1 n) f y2))
def fX8_isBrought (f : hF) (x1 : Int32) : Option hF :=
  fX8_isBrought_2 x1 FU f 0
def fX8_mated_34 (f : hF) (q4 : Int32 → Int32 → Option Int32) (y2 : Int32) (s0 : Int32) (s1 : Int32) : Option Int32 :=
  q4 (s0 + s1) (y2 + 1)
def fX8_mated_33 (f : hF) (q4 : Int32 → Int32 → Option Int32) (y2 : Int32) (s0 : Int32) : Option Int32 :=
  fX8_mated_34 f q4 y2 s0 0
def fX8_mated_4 (f : hF) : Nat → Int32 → Int32 → Option Int32
  | 0, _, _ => none
  | n+1, y1, y2 =>
  (if (f 146 0) ≤ y2 then
    some y1
  else
    b1 (fX8_isWoman f y2) fun r2 =>
    (if r2 = 0 then
      fX8_mated_33 f (fX8_mated_4 f n) y2 y1
    else
      b1 (fX8_isMated f y2) fun r4 =>
      (if r4 = 0 then
        fX8_mated_33 f (fX8_mated_4 f n) y2 y1
      else
        fX8_mated_34 f (fX8_mated_4 f n) y2 y1 1)))
def fX8_mated (f : hF) : Option Int32 :=
  fX8_mated_4 f FU 0 0
def fX8_singles_44 (q12 : hF → Int32 → Int32 → Option (Int32 × hF)) (f : hF) (y2 : Int32) (s0 : Int32) (s1 : Int32) : Option (Int32 × hF) :=
  q12 f (s0 ||| s1) (y2 + 1)
def fX8_singles_43 (q12 : hF → Int32 → Int32 → Option (Int32 × hF)) (f : hF) (y2 : Int32) (s0 : Int32) : Option (Int32 × hF) :=
  fX8_singles_44  q12 f y2 s0 0
def fX8_singles_12 : Nat → hF → Int32 → Int32 → Option (Int32 × hF)
  | 0, _, _, _ => none
  | n+1, f, y1, y2 =>
  (if (f 146 0) ≤ y2 then
    some (y1, f)
  else
    b1 (fX8_isWoman f y2) fun r2 =>
    (if r2 = 0 then
      fX8_singles_43  (fX8_singles_12 n) f y2 y1
    else
      b1 (fX8_isMated f y2) fun r4 =>
      (if r4 = 0 then
        fX8_singles_44  (fX8_singles_12 n) f y2 y1 (1 <<< (y2 &&& 31))
      else
        fX8_singles_43  (fX8_singles_12 n) f y2 y1)))
def fX8_singles (f : hF) : Option (Int32 × hF) :=
  b1 (fX8_asItIs f) fun f1 =>
  b1 (fX8_findHolds f1) fun f2 =>
  fX8_singles_12  FU f2 0 0
def fX8_matedBy_56 (x1 : Int32) (x2 : Int32) (x3 : Int32) (q16 : hF → Int32 → Option (Int32 × hF)) (f : hF) (y4 : Int32) (s1 : Int32) (s2 : Int32) : Option (Int32 × hF) :=
  lt (st2 f 146 26 (s1 * s2)) fun f1 =>
  b1 (fX8_has x2 y4) fun r2 =>
  (if r2 = 0 then
    q16 f1 (y4 + 1)
  else
    b1 (fX8_isBrought f1 y4) fun f4 =>
    q16 f4 (y4 + 1))
def fX8_matedBy_16 (x1 : Int32) (x2 : Int32) (x3 : Int32) : Nat → hF → Int32 → Option (Int32 × hF)
  | 0, _, _ => none
  | n+1, f, y4 =>
  (if (f 146 0) ≤ y4 then
    b1 (fX8_mated f) fun r2 =>
    some (r2, f)
  else
    b1 (fX8_has x1 y4) fun r3 =>
    (if r3 = 0 then
      fX8_matedBy_16 x1 x2 x3 n f (y4 + 1)
    else
      b1 (fX8_has x2 y4) fun r5 =>
      (if r5 = 0 then
        fX8_matedBy_56 x1 x2 x3 (fX8_matedBy_16 x1 x2 x3 n) f y4 (f 146 26) (10 - x3)
      else
        fX8_matedBy_56 x1 x2 x3 (fX8_matedBy_16 x1 x2 x3 n) f y4 (f 146 26) x3)))
def fX8_matedBy (f : hF) (x1 : Int32) (x2 : Int32) (x3 : Int32) : Option (Int32 × hF) :=
  b1 (fX8_asItIs f) fun f1 =>
  b1 (fX8_findHolds f1) fun f2 =>
  lt (st2 f2 146 26 1) fun f3 =>
  fX8_matedBy_16 x1 x2 x3 FU f3 0
def fX8_touts_70 (x1 : Int32) (x2 : Int32) (x3 : Int32) (q43 : hF → Int32 → Int32 → Int32 → Option (Int32 × hF)) (f : hF) (y4 : Int32) (y6 : Int32) (s0 : Int32) (s1 : Int32) : Option (Int32 × hF) :=
  q43 f y4 (s0 * s1) (y6 + 1)
def fX8_touts_133 (x1 : Int32) (x2 : Int32) (x3 : Int32) (q85 : hF → Int32 → Int32 → Int32 → Int32 → Option (Int32 × hF)) (f : hF) (y4 : Int32) (y5 : Int32) (y7 : Int32) (s0 : Int32) (s1 : Int32) : Option (Int32 × hF) :=
  q85 f y4 y5 (s0 + s1) (y7 + 1)
def fX8_touts_150 (x1 : Int32) (x2 : Int32) (x3 : Int32) : Nat → hF → Int32 → Int32 → Int32 → Int32 → Option (Int32 × hF)
  | 0, _, _, _, _, _ => none
  | n+1, f, y5, y6, y7, y8 =>
  (if y8 ≤ 0 then
    (if x3 = 0 then
      nz y7 <|
      some ((y6 / y7), f)
    else
      nz y7 <|
      some ((y5 / y7), f))
  else
    nz y8 <|
    fX8_touts_150 x1 x2 x3 n f y5 y6 y8 (y7 - y7 / y8 * y8))
def fX8_touts_85 (x1 : Int32) (x2 : Int32) (x3 : Int32) : Nat → hF → Int32 → Int32 → Int32 → Int32 → Option (Int32 × hF)
  | 0, _, _, _, _, _ => none
  | n+1, f, y4, y5, y6, y7 =>
  (if (1 <<< ((f 146 0) &&& 31)) ≤ y7 then
    fX8_touts_150 x1 x2 x3 FU f y5 y6 y6 y5
  else
    (if (y7 &&& (y4 ^^^ (-1))) = 0 then
      b2 (fX8_matedBy f y4 y7 x2) fun r3 f4 =>
      (if r3 < x1 then
        fX8_touts_133 x1 x2 x3 (fX8_touts_85 x1 x2 x3 n) f4 y4 y5 y7 y6 0
      else
        fX8_touts_133 x1 x2 x3 (fX8_touts_85 x1 x2 x3 n) f4 y4 y5 y7 y6 (f4 146 26))
    else
      fX8_touts_85 x1 x2 x3 n f y4 y5 y6 (y7 + 1)))
def fX8_touts_43 (x1 : Int32) (x2 : Int32) (x3 : Int32) : Nat → hF → Int32 → Int32 → Int32 → Option (Int32 × hF)
  | 0, _, _, _, _ => none
  | n+1, f, y4, y5, y6 =>
  (if (f 146 0) ≤ y6 then
    fX8_touts_85 x1 x2 x3 FU f y4 y5 0 0
  else
    b1 (fX8_has y4 y6) fun r2 =>
    (if r2 = 0 then
      fX8_touts_70 x1 x2 x3 (fX8_touts_43 x1 x2 x3 n) f y4 y6 y5 1
    else
      fX8_touts_70 x1 x2 x3 (fX8_touts_43 x1 x2 x3 n) f y4 y6 y5 10))
def fX8_touts (f : hF) (x1 : Int32) (x2 : Int32) (x3 : Int32) : Option (Int32 × hF) :=
  b1 (fX8_in x1 (0 : Int32) (8 : Int32)) fun r1 =>
  (if r1 = 0 then
    some ((-1), f)
  else
    b1 (fX8_in x2 (0 : Int32) (10 : Int32)) fun r3 =>
    (if r3 = 0 then
      some ((-1), f)
    else
      b1 (fX8_in x3 (0 : Int32) (1 : Int32)) fun r5 =>
      (if r5 = 0 then
        some ((-1), f)
      else
        b2 (fX8_singles f) fun r7 f8 =>
        fX8_touts_43 x1 x2 x3 FU f8 r7 1 0)))
def fX8_gaol_225 (x1 : Int32) (x2 : Int32) (x3 : Int32) (q64 : hF → Int32 → Int32 → Option (Int32 × hF)) (f : hF) (y4 : Int32) (y5 : Int32) : Option (Int32 × hF) :=
  gd 0 111 <|
  gd 0 111 <|
  lt (st2 f 158 (0 : Int32).toNatClampNeg ((f 158 (0 : Int32).toNatClampNeg) + 1)) fun f3 =>
  q64 f3 y4 (y5 + 1)
def fX8_gaol_192 (x1 : Int32) (x2 : Int32) (x3 : Int32) (q64 : hF → Int32 → Int32 → Option (Int32 × hF)) (f : hF) (y4 : Int32) (y5 : Int32) (y8 : Int32) (y9 : Int32) (y12 : Int32) : Option (Int32 × hF) :=
  (if ((y8 / 256) - (y8 / 256) / 2 * 2) = 0 then
    (if y12 = 0 then
      fX8_gaol_225 x1 x2 x3 q64 f y4 y5
    else
      b1 (fX8_canLeave f y9) fun r3 =>
      (if r3 = 0 then
        fX8_gaol_225 x1 x2 x3 q64 f y4 y5
      else
        b2 (fX8_begins f y9) fun r5 f6 =>
        fX8_gaol_225 x1 x2 x3 q64 f6 y4 y5))
  else
    fX8_gaol_225 x1 x2 x3 q64 f y4 y5)
def fX8_gaol_152 (x1 : Int32) (x2 : Int32) (x3 : Int32) (q64 : hF → Int32 → Int32 → Option (Int32 × hF)) (f : hF) (y4 : Int32) (y5 : Int32) (y8 : Int32) (y9 : Int32) (y10 : Int32) (y11 : Int32) (s0 : Int32) : Option (Int32 × hF) :=
  (if y10 = y11 then
    fX8_gaol_192 x1 x2 x3 q64 f y4 y5 y8 y9 s0
  else
    (if s0 = 0 then
      fX8_gaol_192 x1 x2 x3 q64 f y4 y5 y8 y9 s0
    else
      b1 (fX8_canWed f y9 y10 y11) fun r3 =>
      (if r3 = 0 then
        fX8_gaol_192 x1 x2 x3 q64 f y4 y5 y8 y9 s0
      else
        b1 (fX8_weds f y9 y10 y11) fun f5 =>
        fX8_gaol_225 x1 x2 x3 q64 f5 y4 y5)))
def fX8_gaol_64 (x1 : Int32) (x2 : Int32) (x3 : Int32) : Nat → hF → Int32 → Int32 → Option (Int32 × hF)
  | 0, _, _, _ => none
  | n+1, f, y4, y5 =>
  (if x2 ≤ y5 then
    b1 (fX8_findHolds f) fun f2 =>
    (if x3 = 0 then
      b1 (fX8_manyHold f2) fun r7 =>
      some (r7, f2)
    else
      gd 9 111 <|
      gd 10 111 <|
      gd 11 111 <|
      some (((((f2 158 (9 : Int32).toNatClampNeg) + (f2 158 (10 : Int32).toNatClampNeg)) + (f2 158 (11 : Int32).toNatClampNeg)) - y4), f2))
  else
    nz (f 146 2) <|
    nz (f 146 0) <|
    nz (f 146 0) <|
    gd (12 + ((((((7919 * x1.toInt64) + (6151 * y5.toInt64)) + 1) * (((7919 * x1.toInt64) + (6151 * y5.toInt64)) + 1)) - ((((7919 * x1.toInt64) + (6151 * y5.toInt64)) + 1) * (((7919 * x1.toInt64) + (6151 * y5.toInt64)) + 1)) / 65521 * 65521).toInt32 - (((((7919 * x1.toInt64) + (6151 * y5.toInt64)) + 1) * (((7919 * x1.toInt64) + (6151 * y5.toInt64)) + 1)) - ((((7919 * x1.toInt64) + (6151 * y5.toInt64)) + 1) * (((7919 * x1.toInt64) + (6151 * y5.toInt64)) + 1)) / 65521 * 65521).toInt32 / (f 146 2) * (f 146 2))) 111 <|
    (if 8 ≤ (f 158 (12 + ((((((7919 * x1.toInt64) + (6151 * y5.toInt64)) + 1) * (((7919 * x1.toInt64) + (6151 * y5.toInt64)) + 1)) - ((((7919 * x1.toInt64) + (6151 * y5.toInt64)) + 1) * (((7919 * x1.toInt64) + (6151 * y5.toInt64)) + 1)) / 65521 * 65521).toInt32 - (((((7919 * x1.toInt64) + (6151 * y5.toInt64)) + 1) * (((7919 * x1.toInt64) + (6151 * y5.toInt64)) + 1)) - ((((7919 * x1.toInt64) + (6151 * y5.toInt64)) + 1) * (((7919 * x1.toInt64) + (6151 * y5.toInt64)) + 1)) / 65521 * 65521).toInt32 / (f 146 2) * (f 146 2))).toNatClampNeg) then
      fX8_gaol_152 x1 x2 x3 (fX8_gaol_64 x1 x2 x3 n) f y4 y5 ((((((7919 * x1.toInt64) + (6151 * y5.toInt64)) + 1) * (((7919 * x1.toInt64) + (6151 * y5.toInt64)) + 1)) - ((((7919 * x1.toInt64) + (6151 * y5.toInt64)) + 1) * (((7919 * x1.toInt64) + (6151 * y5.toInt64)) + 1)) / 65521 * 65521).toInt32) ((((((7919 * x1.toInt64) + (6151 * y5.toInt64)) + 1) * (((7919 * x1.toInt64) + (6151 * y5.toInt64)) + 1)) - ((((7919 * x1.toInt64) + (6151 * y5.toInt64)) + 1) * (((7919 * x1.toInt64) + (6151 * y5.toInt64)) + 1)) / 65521 * 65521).toInt32 - (((((7919 * x1.toInt64) + (6151 * y5.toInt64)) + 1) * (((7919 * x1.toInt64) + (6151 * y5.toInt64)) + 1)) - ((((7919 * x1.toInt64) + (6151 * y5.toInt64)) + 1) * (((7919 * x1.toInt64) + (6151 * y5.toInt64)) + 1)) / 65521 * 65521).toInt32 / (f 146 2) * (f 146 2)) (((((((7919 * x1.toInt64) + (6151 * y5.toInt64)) + 1) * (((7919 * x1.toInt64) + (6151 * y5.toInt64)) + 1)) - ((((7919 * x1.toInt64) + (6151 * y5.toInt64)) + 1) * (((7919 * x1.toInt64) + (6151 * y5.toInt64)) + 1)) / 65521 * 65521).toInt32 / 4) - ((((((7919 * x1.toInt64) + (6151 * y5.toInt64)) + 1) * (((7919 * x1.toInt64) + (6151 * y5.toInt64)) + 1)) - ((((7919 * x1.toInt64) + (6151 * y5.toInt64)) + 1) * (((7919 * x1.toInt64) + (6151 * y5.toInt64)) + 1)) / 65521 * 65521).toInt32 / 4) / (f 146 0) * (f 146 0)) (((((((7919 * x1.toInt64) + (6151 * y5.toInt64)) + 1) * (((7919 * x1.toInt64) + (6151 * y5.toInt64)) + 1)) - ((((7919 * x1.toInt64) + (6151 * y5.toInt64)) + 1) * (((7919 * x1.toInt64) + (6151 * y5.toInt64)) + 1)) / 65521 * 65521).toInt32 / 32) - ((((((7919 * x1.toInt64) + (6151 * y5.toInt64)) + 1) * (((7919 * x1.toInt64) + (6151 * y5.toInt64)) + 1)) - ((((7919 * x1.toInt64) + (6151 * y5.toInt64)) + 1) * (((7919 * x1.toInt64) + (6151 * y5.toInt64)) + 1)) / 65521 * 65521).toInt32 / 32) / (f 146 0) * (f 146 0)) 0
    else
      fX8_gaol_152 x1 x2 x3 (fX8_gaol_64 x1 x2 x3 n) f y4 y5 ((((((7919 * x1.toInt64) + (6151 * y5.toInt64)) + 1) * (((7919 * x1.toInt64) + (6151 * y5.toInt64)) + 1)) - ((((7919 * x1.toInt64) + (6151 * y5.toInt64)) + 1) * (((7919 * x1.toInt64) + (6151 * y5.toInt64)) + 1)) / 65521 * 65521).toInt32) ((((((7919 * x1.toInt64) + (6151 * y5.toInt64)) + 1) * (((7919 * x1.toInt64) + (6151 * y5.toInt64)) + 1)) - ((((7919 * x1.toInt64) + (6151 * y5.toInt64)) + 1) * (((7919 * x1.toInt64) + (6151 * y5.toInt64)) + 1)) / 65521 * 65521).toInt32 - (((((7919 * x1.toInt64) + (6151 * y5.toInt64)) + 1) * (((7919 * x1.toInt64) + (6151 * y5.toInt64)) + 1)) - ((((7919 * x1.toInt64) + (6151 * y5.toInt64)) + 1) * (((7919 * x1.toInt64) + (6151 * y5.toInt64)) + 1)) / 65521 * 65521).toInt32 / (f 146 2) * (f 146 2)) (((((((7919 * x1.toInt64) + (6151 * y5.toInt64)) + 1) * (((7919 * x1.toInt64) + (6151 * y5.toInt64)) + 1)) - ((((7919 * x1.toInt64) + (6151 * y5.toInt64)) + 1) * (((7919 * x1.toInt64) + (6151 * y5.toInt64)) + 1)) / 65521 * 65521).toInt32 / 4) - ((((((7919 * x1.toInt64) + (6151 * y5.toInt64)) + 1) * (((7919 * x1.toInt64) + (6151 * y5.toInt64)) + 1)) - ((((7919 * x1.toInt64) + (6151 * y5.toInt64)) + 1) * (((7919 * x1.toInt64) + (6151 * y5.toInt64)) + 1)) / 65521 * 65521).toInt32 / 4) / (f 146 0) * (f 146 0)) (((((((7919 * x1.toInt64) + (6151 * y5.toInt64)) + 1) * (((7919 * x1.toInt64) + (6151 * y5.toInt64)) + 1)) - ((((7919 * x1.toInt64) + (6151 * y5.toInt64)) + 1) * (((7919 * x1.toInt64) + (6151 * y5.toInt64)) + 1)) / 65521 * 65521).toInt32 / 32) - ((((((7919 * x1.toInt64) + (6151 * y5.toInt64)) + 1) * (((7919 * x1.toInt64) + (6151 * y5.toInt64)) + 1)) - ((((7919 * x1.toInt64) + (6151 * y5.toInt64)) + 1) * (((7919 * x1.toInt64) + (6151 * y5.toInt64)) + 1)) / 65521 * 65521).toInt32 / 32) / (f 146 0) * (f 146 0)) 1))
def fX8_gaol (f : hF) (x1 : Int32) (x2 : Int32) (x3 : Int32) : Option (Int32 × hF) :=
  b1 (fX8_in x1 (0 : Int32) (9999 : Int32)) fun r1 =>
  (if r1 = 0 then
    some ((-1), f)
  else
    b1 (fX8_in x2 (1 : Int32) (40 : Int32)) fun r3 =>
    (if r3 = 0 then
      some ((-1), f)
    else
      b1 (fX8_in x3 (0 : Int32) (1 : Int32)) fun r5 =>
      (if r5 = 0 then
        some ((-1), f)
      else
        b1 (fX8_asItIs f) fun f7 =>
        gd 9 111 <|
        gd 10 111 <|
        gd 11 111 <|
        fX8_gaol_64 x1 x2 x3 FU f7 (((f7 158 (9 : Int32).toNatClampNeg) + (f7 158 (10 : Int32).toNatClampNeg)) + (f7 158 (11 : Int32).toNatClampNeg)) 0)))
def fX8_keep (f : hF) : Option (Int32 × hF) :=
  (if (f 146 8) = 2 then
    some ((-3), f)
  else
    b1 (fX8_copies 151 222 149 111 f (111 * (f 146 8)) (0 : Int32) (111 : Int32)) fun f2 =>
    lt (st2 f2 146 8 ((f2 146 8) + 1)) fun f3 =>
    some ((f3 146 8), f3))
def fX8_back (f : hF) : Option (Int32 × hF) :=
  (if (f 146 8) = 0 then
    some ((-2), f)
  else
    lt (st2 f 146 8 ((f 146 8) - 1)) fun f2 =>
    b1 (fX8_copies 149 111 151 222 f2 (0 : Int32) (111 * (f2 146 8)) (111 : Int32)) fun f3 =>
    lt (st2 f3 146 6 0) fun f4 =>
    some ((f4 146 8), f4))
def fX8_linesSuch_39 (f : hF) (x1 : Int32) (q4 : Int32 → Int32 → Option Int32) (y3 : Int32) (s0 : Int32) (s1 : Int32) : Option Int32 :=
  q4 (s0 + s1) (y3 + 1)
def fX8_linesSuch_34 (f : hF) (x1 : Int32) (q4 : Int32 → Int32 → Option Int32) (y3 : Int32) (s0 : Int32) : Option Int32 :=
  fX8_linesSuch_39 f x1 q4 y3 s0 1
def fX8_linesSuch_38 (f : hF) (x1 : Int32) (q4 : Int32 → Int32 → Option Int32) (y3 : Int32) (s0 : Int32) : Option Int32 :=
  fX8_linesSuch_39 f x1 q4 y3 s0 0
def fX8_linesSuch_4 (f : hF) (x1 : Int32) : Nat → Int32 → Int32 → Option Int32
  | 0, _, _ => none
  | n+1, y2, y3 =>
  (if 24 ≤ y3 then
    some y2
  else
    (if x1 = 0 then
      b1 (fX8_isOfTwo f y3) fun r3 =>
      (if r3 = 0 then
        fX8_linesSuch_38 f x1 (fX8_linesSuch_4 f x1 n) y3 y2
      else
        fX8_linesSuch_34 f x1 (fX8_linesSuch_4 f x1 n) y3 y2)
    else
      b1 (fX8_isBlank f y3) fun r5 =>
      (if r5 = 0 then
        fX8_linesSuch_38 f x1 (fX8_linesSuch_4 f x1 n) y3 y2
      else
        fX8_linesSuch_34 f x1 (fX8_linesSuch_4 f x1 n) y3 y2)))
def fX8_linesSuch (f : hF) (x1 : Int32) : Option Int32 :=
  fX8_linesSuch_4 f x1 FU 0 0
def fX8_count (f : hF) (x1 : Int32) : Option (Int32 × hF) :=
  b1 (fX8_asItIs f) fun f1 =>
  b1 (fX8_findHolds f1) fun f2 =>
  (if x1 = 0 then
    some ((f2 146 0), f2)
  else
  (if x1 = 1 then
    some ((f2 146 2), f2)
  else
  (if x1 = 2 then
    gd 0 111 <|
    some ((f2 149 (0 : Int32).toNatClampNeg), f2)
  else
  (if x1 = 3 then
    some ((f2 146 4), f2)
  else
  (if x1 = 4 then
    b1 (fX8_linesSuch f2 (0 : Int32)) fun r4 =>
    some (r4, f2)
  else
  (if x1 = 5 then
    b1 (fX8_manyHold f2) fun r5 =>
    some (r5, f2)
  else
  (if x1 = 6 then
    b1 (fX8_linesSuch f2 (1 : Int32)) fun r6 =>
    some (r6, f2)
  else
  (if x1 = 7 then
    some ((f2 146 10), f2)
  else
  (if x1 = 8 then
    some ((f2 146 6), f2)
  else
  (if x1 = 9 then
    some ((f2 146 8), f2)
  else
  (if x1 = 10 then
    some ((f2 146 13), f2)
  else
    some ((-1), f2))))))))))))
