/-! the law as a pure program -/
def fL_law_732 (xs : Nat → Int32) (L : Nat) (q18 : hF → Int32 → Option Int32) (f : hF) (y3 : Int32) (s0 : Int32) (s2 : Int32) (s3 : Int32) (s4 : Int32) (s5 : Int32) : Option Int32 :=
  b2 (fX8_see f s2 s3 s4 s5) fun r1 f2 =>
  (if s0 = r1 then
    q18 f2 (y3 + 5)
  else
    some 0)
def fL_law_700 (xs : Nat → Int32) (L : Nat) (q18 : hF → Int32 → Option Int32) (f : hF) (y3 : Int32) (s1 : Int32) (s2 : Int32) (s3 : Int32) (s4 : Int32) : Option Int32 :=
  b2 (fX7_see f s1 s2 s3 s4) fun r1 f2 =>
  gd (y3 + 1) L <|
  gd (y3 + 2) L <|
  gd (y3 + 3) L <|
  gd (y3 + 4) L <|
  (if (xs (y3 + 4).toNatClampNeg) = 0 then
    fL_law_732 xs L q18 f2 y3 r1 (xs (y3 + 1).toNatClampNeg) (xs (y3 + 2).toNatClampNeg) (xs (y3 + 3).toNatClampNeg) 0
  else
    fL_law_732 xs L q18 f2 y3 r1 (xs (y3 + 1).toNatClampNeg) (xs (y3 + 2).toNatClampNeg) (xs (y3 + 3).toNatClampNeg) 1)
def fL_law_18 (xs : Nat → Int32) (L : Nat) : Nat → hF → Int32 → Option Int32
  | 0, _, _ => none
  | n+1, f, y3 =>
  (if ((Int32.ofNat L) - 5) < y3 then
    some 1
  else
    gd y3 L <|
    (if ((xs y3.toNatClampNeg) &&& 31) = 0 then
      gd (y3 + 1) L <|
      b2 (fX7_write f (xs (y3 + 1).toNatClampNeg)) fun r4 f5 =>
      gd (y3 + 1) L <|
      b2 (fX8_write f5 (xs (y3 + 1).toNatClampNeg)) fun r7 f8 =>
      (if r4 = r7 then
        fL_law_18 xs L n f8 (y3 + 5)
      else
        some 0)
    else
    (if ((xs y3.toNatClampNeg) &&& 31) = 1 then
      b2 (fX7_wipe f) fun r10 f11 =>
      b2 (fX8_wipe f11) fun r12 f13 =>
      (if r10 = r12 then
        fL_law_18 xs L n f13 (y3 + 5)
      else
        some 0)
    else
    (if ((xs y3.toNatClampNeg) &&& 31) = 2 then
      b2 (fX7_fault f) fun r15 f16 =>
      b2 (fX8_fault f16) fun r17 f18 =>
      (if r15 = r17 then
        fL_law_18 xs L n f18 (y3 + 5)
      else
        some 0)
    else
    (if ((xs y3.toNatClampNeg) &&& 31) = 3 then
      b2 (fX7_lay f) fun r20 f21 =>
      b2 (fX8_lay f21) fun r22 f23 =>
      (if r20 = r22 then
        fL_law_18 xs L n f23 (y3 + 5)
      else
        some 0)
    else
    (if ((xs y3.toNatClampNeg) &&& 31) = 4 then
      gd (y3 + 1) L <|
      gd (y3 + 2) L <|
      b2 (fX7_person f (xs (y3 + 1).toNatClampNeg) (xs (y3 + 2).toNatClampNeg)) fun r27 f28 =>
      gd (y3 + 1) L <|
      gd (y3 + 2) L <|
      b2 (fX8_person f28 (xs (y3 + 1).toNatClampNeg) (xs (y3 + 2).toNatClampNeg)) fun r31 f32 =>
      (if r27 = r31 then
        fL_law_18 xs L n f32 (y3 + 5)
      else
        some 0)
    else
    (if ((xs y3.toNatClampNeg) &&& 31) = 5 then
      gd (y3 + 1) L <|
      gd (y3 + 2) L <|
      b1 (fX7_parson f (xs (y3 + 1).toNatClampNeg) (xs (y3 + 2).toNatClampNeg)) fun r36 =>
      gd (y3 + 1) L <|
      gd (y3 + 2) L <|
      b2 (fX8_parson f (xs (y3 + 1).toNatClampNeg) (xs (y3 + 2).toNatClampNeg)) fun r39 f40 =>
      (if r36 = r39 then
        fL_law_18 xs L n f40 (y3 + 5)
      else
        some 0)
    else
    (if ((xs y3.toNatClampNeg) &&& 31) = 6 then
      gd (y3 + 1) L <|
      gd (y3 + 2) L <|
      gd (y3 + 3) L <|
      b2 (fX7_line f (xs (y3 + 1).toNatClampNeg) (xs (y3 + 2).toNatClampNeg) (xs (y3 + 3).toNatClampNeg)) fun r45 f46 =>
      gd (y3 + 1) L <|
      gd (y3 + 2) L <|
      gd (y3 + 3) L <|
      b2 (fX8_line f46 (xs (y3 + 1).toNatClampNeg) (xs (y3 + 2).toNatClampNeg) (xs (y3 + 3).toNatClampNeg)) fun r50 f51 =>
      (if r45 = r50 then
        fL_law_18 xs L n f51 (y3 + 5)
      else
        some 0)
    else
    (if ((xs y3.toNatClampNeg) &&& 31) = 7 then
      gd (y3 + 1) L <|
      gd (y3 + 2) L <|
      gd (y3 + 3) L <|
      b2 (fX7_wed f (xs (y3 + 1).toNatClampNeg) (xs (y3 + 2).toNatClampNeg) (xs (y3 + 3).toNatClampNeg)) fun r56 f57 =>
      gd (y3 + 1) L <|
      gd (y3 + 2) L <|
      gd (y3 + 3) L <|
      b2 (fX8_wed f57 (xs (y3 + 1).toNatClampNeg) (xs (y3 + 2).toNatClampNeg) (xs (y3 + 3).toNatClampNeg)) fun r61 f62 =>
      (if r56 = r61 then
        fL_law_18 xs L n f62 (y3 + 5)
      else
        some 0)
    else
    (if ((xs y3.toNatClampNeg) &&& 31) = 8 then
      gd (y3 + 1) L <|
      b2 (fX7_leave f (xs (y3 + 1).toNatClampNeg)) fun r65 f66 =>
      gd (y3 + 1) L <|
      b2 (fX8_leave f66 (xs (y3 + 1).toNatClampNeg)) fun r68 f69 =>
      (if r65 = r68 then
        fL_law_18 xs L n f69 (y3 + 5)
      else
        some 0)
    else
    (if ((xs y3.toNatClampNeg) &&& 31) = 9 then
      gd (y3 + 1) L <|
      gd (y3 + 2) L <|
      gd (y3 + 3) L <|
      gd (y3 + 4) L <|
      b2 (fX7_fill f (xs (y3 + 1).toNatClampNeg) (xs (y3 + 2).toNatClampNeg) (xs (y3 + 3).toNatClampNeg) (xs (y3 + 4).toNatClampNeg)) fun r75 f76 =>
      gd (y3 + 1) L <|
      gd (y3 + 2) L <|
      gd (y3 + 3) L <|
      gd (y3 + 4) L <|
      b2 (fX8_fill f76 (xs (y3 + 1).toNatClampNeg) (xs (y3 + 2).toNatClampNeg) (xs (y3 + 3).toNatClampNeg) (xs (y3 + 4).toNatClampNeg)) fun r81 f82 =>
      (if r75 = r81 then
        fL_law_18 xs L n f82 (y3 + 5)
      else
        some 0)
    else
    (if ((xs y3.toNatClampNeg) &&& 31) = 10 then
      gd (y3 + 1) L <|
      gd (y3 + 2) L <|
      b2 (fX7_strike f (xs (y3 + 1).toNatClampNeg) (xs (y3 + 2).toNatClampNeg)) fun r86 f87 =>
      gd (y3 + 1) L <|
      gd (y3 + 2) L <|
      b2 (fX8_strike f87 (xs (y3 + 1).toNatClampNeg) (xs (y3 + 2).toNatClampNeg)) fun r90 f91 =>
      (if r86 = r90 then
        fL_law_18 xs L n f91 (y3 + 5)
      else
        some 0)
    else
    (if ((xs y3.toNatClampNeg) &&& 31) = 11 then
      gd (y3 + 1) L <|
      b2 (fX7_pass f (xs (y3 + 1).toNatClampNeg)) fun r94 f95 =>
      gd (y3 + 1) L <|
      b2 (fX8_pass f95 (xs (y3 + 1).toNatClampNeg)) fun r97 f98 =>
      (if r94 = r97 then
        fL_law_18 xs L n f98 (y3 + 5)
      else
        some 0)
    else
    (if ((xs y3.toNatClampNeg) &&& 31) = 12 then
      b2 (fX7_undo f) fun r100 f101 =>
      b2 (fX8_undo f101) fun r102 f103 =>
      (if r100 = r102 then
        fL_law_18 xs L n f103 (y3 + 5)
      else
        some 0)
    else
    (if ((xs y3.toNatClampNeg) &&& 31) = 13 then
      gd (y3 + 1) L <|
      gd (y3 + 2) L <|
      b2 (fX7_mate f (xs (y3 + 1).toNatClampNeg) (xs (y3 + 2).toNatClampNeg)) fun r107 f108 =>
      gd (y3 + 1) L <|
      gd (y3 + 2) L <|
      b2 (fX8_mate f108 (xs (y3 + 1).toNatClampNeg) (xs (y3 + 2).toNatClampNeg)) fun r111 f112 =>
      (if r107 = r111 then
        fL_law_18 xs L n f112 (y3 + 5)
      else
        some 0)
    else
    (if ((xs y3.toNatClampNeg) &&& 31) = 14 then
      b1 (fX7_twice f) fun r114 =>
      b2 (fX8_twice f) fun r115 f116 =>
      (if r114 = r115 then
        fL_law_18 xs L n f116 (y3 + 5)
      else
        some 0)
    else
    (if ((xs y3.toNatClampNeg) &&& 31) = 15 then
      b2 (fX7_falseOnes f) fun r118 f119 =>
      b2 (fX8_falseOnes f119) fun r120 f121 =>
      (if r118 = r120 then
        fL_law_18 xs L n f121 (y3 + 5)
      else
        some 0)
    else
    (if ((xs y3.toNatClampNeg) &&& 31) = 16 then
      gd (y3 + 1) L <|
      gd (y3 + 2) L <|
      gd (y3 + 3) L <|
      b1 (fX7_date f (xs (y3 + 1).toNatClampNeg) (xs (y3 + 2).toNatClampNeg) (xs (y3 + 3).toNatClampNeg)) fun r126 =>
      gd (y3 + 1) L <|
      gd (y3 + 2) L <|
      gd (y3 + 3) L <|
      b2 (fX8_date f (xs (y3 + 1).toNatClampNeg) (xs (y3 + 2).toNatClampNeg) (xs (y3 + 3).toNatClampNeg)) fun r130 f131 =>
      (if r126 = r130 then
        fL_law_18 xs L n f131 (y3 + 5)
      else
        some 0)
    else
    (if ((xs y3.toNatClampNeg) &&& 31) = 17 then
      gd (y3 + 1) L <|
      b2 (fX7_look f (xs (y3 + 1).toNatClampNeg)) fun r134 f135 =>
      gd (y3 + 1) L <|
      b2 (fX8_look f135 (xs (y3 + 1).toNatClampNeg)) fun r137 f138 =>
      (if r134 = r137 then
        fL_law_18 xs L n f138 (y3 + 5)
      else
        some 0)
    else
    (if ((xs y3.toNatClampNeg) &&& 31) = 18 then
      gd (y3 + 1) L <|
      b1 (fX7_can f (xs (y3 + 1).toNatClampNeg)) fun r141 =>
      gd (y3 + 1) L <|
      b2 (fX8_can f (xs (y3 + 1).toNatClampNeg)) fun r143 f144 =>
      (if r141 = r143 then
        fL_law_18 xs L n f144 (y3 + 5)
      else
        some 0)
    else
    (if ((xs y3.toNatClampNeg) &&& 31) = 19 then
      gd (y3 + 1) L <|
      gd (y3 + 2) L <|
      gd (y3 + 3) L <|
      gd (y3 + 4) L <|
      (if (xs (y3 + 4).toNatClampNeg) = 0 then
        fL_law_700 xs L (fL_law_18 xs L n) f y3 (xs (y3 + 1).toNatClampNeg) (xs (y3 + 2).toNatClampNeg) (xs (y3 + 3).toNatClampNeg) 0
      else
        fL_law_700 xs L (fL_law_18 xs L n) f y3 (xs (y3 + 1).toNatClampNeg) (xs (y3 + 2).toNatClampNeg) (xs (y3 + 3).toNatClampNeg) 1)
    else
    (if ((xs y3.toNatClampNeg) &&& 31) = 20 then
      b2 (fX7_forget f) fun r151 f152 =>
      b2 (fX8_forget f152) fun r153 f154 =>
      (if r151 = r153 then
        fL_law_18 xs L n f154 (y3 + 5)
      else
        some 0)
    else
    (if ((xs y3.toNatClampNeg) &&& 31) = 21 then
      gd (y3 + 1) L <|
      b2 (fX7_trueBy f (xs (y3 + 1).toNatClampNeg)) fun r157 f158 =>
      gd (y3 + 1) L <|
      b2 (fX8_trueBy f158 (xs (y3 + 1).toNatClampNeg)) fun r160 f161 =>
      (if r157 = r160 then
        fL_law_18 xs L n f161 (y3 + 5)
      else
        some 0)
    else
    (if ((xs y3.toNatClampNeg) &&& 31) = 22 then
      gd (y3 + 1) L <|
      gd (y3 + 2) L <|
      b1 (fX7_hand f (xs (y3 + 1).toNatClampNeg) (xs (y3 + 2).toNatClampNeg)) fun r165 =>
      gd (y3 + 1) L <|
      gd (y3 + 2) L <|
      b2 (fX8_hand f (xs (y3 + 1).toNatClampNeg) (xs (y3 + 2).toNatClampNeg)) fun r168 f169 =>
      (if r165 = r168 then
        fL_law_18 xs L n f169 (y3 + 5)
      else
        some 0)
    else
    (if ((xs y3.toNatClampNeg) &&& 31) = 23 then
      gd (y3 + 1) L <|
      gd (y3 + 2) L <|
      b2 (fX7_child f (xs (y3 + 1).toNatClampNeg) (xs (y3 + 2).toNatClampNeg)) fun r173 f174 =>
      gd (y3 + 1) L <|
      gd (y3 + 2) L <|
      b2 (fX8_child f174 (xs (y3 + 1).toNatClampNeg) (xs (y3 + 2).toNatClampNeg)) fun r177 f178 =>
      (if r173 = r177 then
        fL_law_18 xs L n f178 (y3 + 5)
      else
        some 0)
    else
    (if ((xs y3.toNatClampNeg) &&& 31) = 24 then
      gd (y3 + 1) L <|
      gd (y3 + 2) L <|
      gd (y3 + 3) L <|
      b2 (fX7_touts f (xs (y3 + 1).toNatClampNeg) (xs (y3 + 2).toNatClampNeg) (xs (y3 + 3).toNatClampNeg)) fun r183 f184 =>
      gd (y3 + 1) L <|
      gd (y3 + 2) L <|
      gd (y3 + 3) L <|
      b2 (fX8_touts f184 (xs (y3 + 1).toNatClampNeg) (xs (y3 + 2).toNatClampNeg) (xs (y3 + 3).toNatClampNeg)) fun r188 f189 =>
      (if r183 = r188 then
        fL_law_18 xs L n f189 (y3 + 5)
      else
        some 0)
    else
    (if ((xs y3.toNatClampNeg) &&& 31) = 25 then
      gd (y3 + 1) L <|
      gd (y3 + 2) L <|
      gd (y3 + 3) L <|
      b2 (fX7_gaol f (xs (y3 + 1).toNatClampNeg) (xs (y3 + 2).toNatClampNeg) (xs (y3 + 3).toNatClampNeg)) fun r194 f195 =>
      gd (y3 + 1) L <|
      gd (y3 + 2) L <|
      gd (y3 + 3) L <|
      b2 (fX8_gaol f195 (xs (y3 + 1).toNatClampNeg) (xs (y3 + 2).toNatClampNeg) (xs (y3 + 3).toNatClampNeg)) fun r199 f200 =>
      (if r194 = r199 then
        fL_law_18 xs L n f200 (y3 + 5)
      else
        some 0)
    else
    (if ((xs y3.toNatClampNeg) &&& 31) = 26 then
      b2 (fX7_keep f) fun r202 f203 =>
      b2 (fX8_keep f203) fun r204 f205 =>
      (if r202 = r204 then
        fL_law_18 xs L n f205 (y3 + 5)
      else
        some 0)
    else
    (if ((xs y3.toNatClampNeg) &&& 31) = 27 then
      b2 (fX7_back f) fun r207 f208 =>
      b2 (fX8_back f208) fun r209 f210 =>
      (if r207 = r209 then
        fL_law_18 xs L n f210 (y3 + 5)
      else
        some 0)
    else
    (if ((xs y3.toNatClampNeg) &&& 31) = 28 then
      gd (y3 + 1) L <|
      b2 (fX7_count f (xs (y3 + 1).toNatClampNeg)) fun r213 f214 =>
      gd (y3 + 1) L <|
      b2 (fX8_count f214 (xs (y3 + 1).toNatClampNeg)) fun r216 f217 =>
      (if r213 = r216 then
        fL_law_18 xs L n f217 (y3 + 5)
      else
        some 0)
    else
      fL_law_18 xs L n f (y3 + 5)))))))))))))))))))))))))))))))
