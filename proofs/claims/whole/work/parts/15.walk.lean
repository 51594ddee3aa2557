/-! contracts: X2_mostLinesApart X7_falseOnes X7_isPart X2_costOfLine X2_cheapestLine X7_date X2_booksThatHold X7_look X2_canWedSomewhere X7_can X6_add X7_see X7_forget X6_areSo X7_isSeenWithout -/
set_option maxHeartbeats 8000000 in
set_option maxRecDepth 100000 in
theorem mX2_mostLinesApart (l : Launch) (D : va_G) (ac : Nat → ClassId) (ad : Nat → Nat) (S : List hSh) (k : Nat) (ro : Nat) (f : hF) (rv : Int32) (gv : hF) (hS : isHo S k ro) (h : fX2_mostLinesApart k ro f = some (rv, gv)) : Met l yX2_mostLinesApart wsX2_mostLinesApart ({ frames := 3, cells := 0, slots := 0, locals := 63 }) (hPc D ac ad S f [.ref (ad k)]) (hQi D ac ad S rv gv) 0 0 (hAd ad S.length) := by
  refine h_enter (C := RX2) (cc := cX2_mostLinesApart) (maxL := 4) (ret := (some .int)) (lv := [(0, .ref (ad k))]) (by decide) rfl rfl (Nat.le_of_ble_eq_true rfl) rfl (fun p e s m below meth c ls hx hb hml hr hlocks hown hts hK hw hl => ?_)
  have J9 : ∀ (n : Nat), (∀ (f : hF) (y1 : Int32) (y2 : Int32) (H : Heap) (locs : List Loc) (ls : Array Slot), hOk D ac ad S (hAd ad S.length) s.heap f H locs → lv_has ls 4 [(0, .ref (ad k)), (1, .int y1), (2, .int y2)] → fX2_mostLinesApart_9 k ro n f y1 y2 = some (rv, gv) → W p l e ({ frames := 3, cells := 0, slots := 0, locals := 63 } : Room) s m ([.ref (ad k)] : List Value).toArray below meth c H locs 0 0 (MQ below (hQi D ac ad S rv gv) ([.ref (ad k)] : List Value).toArray s 0 0 (hAd ad S.length)) (F0 m 9 ls [])) := by
    intro n
    induction n with
    | zero =>
      intro f y1 y2 H locs ls hw hl h
      rw [fX2_mostLinesApart_9] at h
      cases h
    | succ n ih =>
      intro f y1 y2 H locs ls hw hl h
      rw [fX2_mostLinesApart_9] at h
      refine lv_iload_n hx hb dX2_mostLinesApart_9 rfl (lv_at hl 2 rfl) ?_
      refine lv_sipush (v := 256) hx hb dX2_mostLinesApart_10 (by decide) ?_
      refine lv_icmp_ge (tgt := 42) hx hb dX2_mostLinesApart_13 (by decide) (fun hc1 => ?_) (fun hc1 => ?_)
      · have h := it hc1 h
        refine lv_iload_n hx hb dX2_mostLinesApart_42 rfl (lv_at hl 1 rfl) ?_
        exact h_retQ hx hb hr hlocks hw rfl (so2 h) dX2_mostLinesApart_43
      · have h := ie hc1 h
        refine lv_iload_n hx hb dX2_mostLinesApart_16 rfl (lv_at hl 2 rfl) ?_
        obtain ⟨r2, er2, h⟩ := b1_s h
        refine h_callR (va_runS (As := [.int y2]) (rest := []) ⟨hx, hb, hml, hown, hts⟩ (mJ6_bitCount_0f7a4 l D ac ad S f y2 r2  er2) (va_cwS 1 hts gX2_mostLinesApart_J6_bitCount_0f7a4 rfl rfl rfl (by decide +kernel) ⟨Nat.le_of_ble_eq_true rfl, Nat.le_of_ble_eq_true rfl⟩) (h_preS hK hw _) rfl rfl hl.1 rfl (lv_room (Nat.le_of_ble_eq_true rfl)) dX2_mostLinesApart_17 ⟨Nat.le_of_ble_eq_true rfl, Nat.le_of_ble_eq_true rfl⟩) ?_
        refine lv_istore_n (lv' := [(3, .int r2), (0, .ref (ad k)), (1, .int y1), (2, .int y2)]) hx hb dX2_mostLinesApart_20 rfl hl (by decide) rfl (fun ls hl => ?_)
        refine lv_iload_n hx hb dX2_mostLinesApart_21 rfl (lv_at hl 0 rfl) ?_
        refine lv_iload_n hx hb dX2_mostLinesApart_22 rfl (lv_at hl 2 rfl) ?_
        refine lv_icmp_ge (tgt := 36) hx hb dX2_mostLinesApart_23 (by decide) (fun hc3 => ?_) (fun hc3 => ?_)
        · have h := it hc3 h
          refine lv_iinc (v := (y2 + 1)) (lv' := [(2, .int (y2 + 1)), (3, .int r2), (0, .ref (ad k)), (1, .int y1)]) hx hb dX2_mostLinesApart_36 hl (k := 3) rfl rfl (by decide) rfl (fun ls hl => ?_)
          refine lv_goto (tgt := 9) hx hb dX2_mostLinesApart_39 (by decide) ?_
          exact ih f y1 (y2 + 1) _ _ _ hw (lv_sub hl [2, 3, 0] rfl) h
        · have h := ie hc3 h
          refine lv_aload_n hx hb dX2_mostLinesApart_26 rfl (lv_at hl 1 rfl) ?_
          refine lv_iload_n hx hb dX2_mostLinesApart_27 rfl (lv_at hl 3 rfl) ?_
          obtain ⟨r4, er4, h⟩ := b1_s h
          refine h_callR (va_runV (As := [.int y2]) (rest := []) ⟨hx, hb, hml, hown, hts⟩ (mX2_isInEveryLine l D ac ad S k ro f y2 r4 hS er4) (cwV 1 hts gX2_mostLinesApart_X2_isInEveryLine rfl rfl rfl (by decide +kernel) ⟨Nat.le_of_ble_eq_true rfl, Nat.le_of_ble_eq_true rfl⟩) (h_preV hK hw hS.1 rfl _) rfl rfl hl.1 rfl (lv_room (Nat.le_of_ble_eq_true rfl)) dX2_mostLinesApart_28 ⟨Nat.le_of_ble_eq_true rfl, Nat.le_of_ble_eq_true rfl⟩) ?_
          refine lv_if_eq (tgt := 36) hx hb dX2_mostLinesApart_31 (by decide) (fun hc5 => ?_) (fun hc5 => ?_)
          · have h := it hc5 h
            refine lv_iinc (v := (y2 + 1)) (lv' := [(2, .int (y2 + 1)), (3, .int r2), (0, .ref (ad k)), (1, .int y1)]) hx hb dX2_mostLinesApart_36 hl (k := 3) rfl rfl (by decide) rfl (fun ls hl => ?_)
            refine lv_goto (tgt := 9) hx hb dX2_mostLinesApart_39 (by decide) ?_
            exact ih f y1 (y2 + 1) _ _ _ hw (lv_sub hl [2, 3, 0] rfl) h
          · have h := ie hc5 h
            refine lv_iload_n hx hb dX2_mostLinesApart_34 rfl (lv_at hl 0 rfl) ?_
            refine lv_istore_n (lv' := [(1, .int r2), (3, .int r2), (0, .ref (ad k)), (2, .int y2)]) hx hb dX2_mostLinesApart_35 rfl hl (by decide) rfl (fun ls hl => ?_)
            refine lv_iinc (v := (y2 + 1)) (lv' := [(2, .int (y2 + 1)), (1, .int r2), (3, .int r2), (0, .ref (ad k))]) hx hb dX2_mostLinesApart_36 hl (k := 3) rfl rfl (by decide) rfl (fun ls hl => ?_)
            refine lv_goto (tgt := 9) hx hb dX2_mostLinesApart_39 (by decide) ?_
            exact ih f r2 (y2 + 1) _ _ _ hw (lv_sub hl [3, 1, 0] rfl) h
  unfold fX2_mostLinesApart at h
  refine lv_aload_n hx hb dX2_mostLinesApart_0 rfl (lv_at hl 0 rfl) ?_
  obtain ⟨f1, ef1, h⟩ := b1_s h
  refine h_callV hw (va_runV (As := []) (rest := []) ⟨hx, hb, hml, hown, hts⟩ (mX2_linkPersons l D ac ad S k ro f f1 hS ef1) (cwV 0 hts gX2_mostLinesApart_X2_linkPersons rfl rfl rfl (by decide +kernel) ⟨Nat.le_of_ble_eq_true rfl, Nat.le_of_ble_eq_true rfl⟩) (h_preV hK hw hS.1 rfl _) rfl rfl hl.1 rfl (lv_room (Nat.le_of_ble_eq_true rfl)) dX2_mostLinesApart_1 ⟨Nat.le_of_ble_eq_true rfl, Nat.le_of_ble_eq_true rfl⟩) (fun H locs hw => ?_)
  refine lv_bipush (v := 8) hx hb dX2_mostLinesApart_4 (by decide) ?_
  refine lv_istore_n (lv' := [(1, .int 8), (0, .ref (ad k))]) hx hb dX2_mostLinesApart_6 rfl hl (by decide) rfl (fun ls hl => ?_)
  refine lv_iconst (v := 0) hx hb dX2_mostLinesApart_7 (by decide) ?_
  refine lv_istore_n (lv' := [(2, .int 0), (1, .int 8), (0, .ref (ad k))]) hx hb dX2_mostLinesApart_8 rfl hl (by decide) rfl (fun ls hl => ?_)
  exact J9 _ f1 8 0 _ _ _ hw (lv_sub hl [2, 1, 0] rfl) h

theorem hnX7_falseOnes_X7 : ∀ w ∈ wsX70, w ∈ wsX7_falseOnes := by decide +kernel
theorem hkX7_falseOnes_31 : Cond.fieldLink RX7 31 (TX7 3).1 (TX7 3).2.1 (TX7 3).2.2.1 ∈ wsX7_falseOnes := by decide +kernel
theorem hnX7_falseOnes_X2 : ∀ w ∈ wsX20, w ∈ wsX7_falseOnes := by decide +kernel
theorem hkX7_falseOnes_108 : Cond.fieldLink RX7 108 (TX2 1).1 (TX2 1).2.1 (TX2 1).2.2.1 ∈ wsX7_falseOnes := by decide +kernel
set_option maxHeartbeats 8000000 in
set_option maxRecDepth 100000 in
theorem mX7_falseOnes (l : Launch) (D : va_G) (ac : Nat → ClassId) (ad : Nat → Nat) (S : List hSh) (f : hF) (rv : Int32) (gv : hF) (hS : isPW S) (h : fX7_falseOnes f = some (rv, gv)) : Met l yX7_falseOnes wsX7_falseOnes ({ frames := 4, cells := 0, slots := 0, locals := 86 }) (hPc D ac ad S f [.ref (ad 0)]) (hQi D ac ad S rv gv) 0 0 (hAd ad S.length) := by
  refine h_enter (C := RX7) (cc := cX7_falseOnes) (maxL := 1) (ret := (some .int)) (lv := [(0, .ref (ad 0))]) (by decide) rfl rfl (Nat.le_of_ble_eq_true rfl) rfl (fun p e s m below meth c ls hx hb hml hr hlocks hown hts hK hw hl => ?_)
  unfold fX7_falseOnes at h
  refine lv_aload_n hx hb dX7_falseOnes_0 rfl (lv_at hl 0 rfl) ?_
  refine h_getR hx hb hts hnX7_falseOnes_X7 hown hK hw hS.1 rfl 3 (by decide) rfl hkX7_falseOnes_31 dX7_falseOnes_1 ?_
  refine h_getR hx hb hts hnX7_falseOnes_X2 hown hK hw hS.2.2.2.2.1.1 rfl 1 (by decide) rfl hkX7_falseOnes_108 dX7_falseOnes_4 ?_
  refine lv_iconst (v := 1) hx hb dX7_falseOnes_7 (by decide) ?_
  obtain ⟨r1, er1, h⟩ := b1_s h
  refine h_callR (va_runV (As := [.int 1]) (rest := []) ⟨hx, hb, hml, hown, hts⟩ (mX0_countOf l D ac ad S 20 f (1 : Int32) r1 hS.2.2.2.2.1.2.2.2.1 er1) (cwV 1 hts gX7_falseOnes_X0_countOf rfl rfl rfl (by decide +kernel) ⟨Nat.le_of_ble_eq_true rfl, Nat.le_of_ble_eq_true rfl⟩) (h_preV hK hw hS.2.2.2.2.1.2.2.2.1.1 rfl _) rfl rfl hl.1 rfl (lv_room (Nat.le_of_ble_eq_true rfl)) dX7_falseOnes_8 ⟨Nat.le_of_ble_eq_true rfl, Nat.le_of_ble_eq_true rfl⟩) ?_
  refine lv_aload_n hx hb dX7_falseOnes_11 rfl (lv_at hl 0 rfl) ?_
  refine h_getR hx hb hts hnX7_falseOnes_X7 hown hK hw hS.1 rfl 3 (by decide) rfl hkX7_falseOnes_31 dX7_falseOnes_12 ?_
  obtain ⟨r2, f3, ef3, h⟩ := b2_s h
  refine h_callQ hw (va_runV (As := []) (rest := [.int r1]) ⟨hx, hb, hml, hown, hts⟩ (mX2_mostLinesApart l D ac ad S 19 3 f r2 f3 hS.2.2.2.2.1 ef3) (cwV 0 hts gX7_falseOnes_X2_mostLinesApart rfl rfl rfl (by decide +kernel) ⟨Nat.le_of_ble_eq_true rfl, Nat.le_of_ble_eq_true rfl⟩) (h_preV hK hw hS.2.2.2.2.1.1 rfl _) rfl rfl hl.1 rfl (lv_room (Nat.le_of_ble_eq_true rfl)) dX7_falseOnes_15 ⟨Nat.le_of_ble_eq_true rfl, Nat.le_of_ble_eq_true rfl⟩) (fun H locs hw => ?_)
  refine lv_isub hx hb dX7_falseOnes_18 ?_
  exact h_retQ hx hb hr hlocks hw rfl (so2 h) dX7_falseOnes_19

set_option maxHeartbeats 8000000 in
set_option maxRecDepth 100000 in
theorem mX7_isPart (l : Launch) (D : va_G) (ac : Nat → ClassId) (ad : Nat → Nat) (S : List hSh) (f : hF) (x0 : Int32) (rv : Int32) (h : fX7_isPart x0 = some rv) : Met l yX7_isPart wsX7_isPart ({ frames := 0, cells := 0, slots := 0, locals := 0 }) (hPc D ac ad S f [.int x0]) (hRi rv) 0 0 hNo := by
  refine h_enter (C := RX7) (cc := cX7_isPart) (maxL := 1) (ret := (some .boolean)) (lv := [(0, .int x0)]) (by decide) rfl rfl (Nat.le_of_ble_eq_true rfl) rfl (fun p e s m below meth c ls hx hb hml hr hlocks hown hts hK hw hl => ?_)
  unfold fX7_isPart at h
  refine lv_iload_n hx hb dX7_isPart_0 rfl (lv_at hl 0 rfl) ?_
  refine lv_if_eq (tgt := 9) hx hb dX7_isPart_1 (by decide) (fun hc1 => ?_) (fun hc1 => ?_)
  · have h := it hc1 h
    refine lv_iconst (v := 1) hx hb dX7_isPart_9 (by decide) ?_
    refine lv_goto (tgt := 14) hx hb dX7_isPart_10 (by decide) ?_
    exact h_retR hx hb hr hlocks rfl (so1 h) dX7_isPart_14
  · have h := ie hc1 h
    refine lv_iload_n hx hb dX7_isPart_4 rfl (lv_at hl 0 rfl) ?_
    refine lv_iconst (v := 1) hx hb dX7_isPart_5 (by decide) ?_
    refine lv_icmp_ne (tgt := 13) hx hb dX7_isPart_6 (by decide) (fun hc2 => ?_) (fun hc2 => ?_)
    · have h := ie hc2 h
      refine lv_iconst (v := 0) hx hb dX7_isPart_13 (by decide) ?_
      exact h_retR hx hb hr hlocks rfl (so1 h) dX7_isPart_14
    · have h := it hc2 h
      refine lv_iconst (v := 1) hx hb dX7_isPart_9 (by decide) ?_
      refine lv_goto (tgt := 14) hx hb dX7_isPart_10 (by decide) ?_
      exact h_retR hx hb hr hlocks rfl (so1 h) dX7_isPart_14

theorem hnX2_costOfLine_X2 : ∀ w ∈ wsX20, w ∈ wsX2_costOfLine := by decide +kernel
theorem hkX2_costOfLine_12 : Cond.fieldLink RX2 12 (TX2 1).1 (TX2 1).2.1 (TX2 1).2.2.1 ∈ wsX2_costOfLine := by decide +kernel
theorem hkX2_costOfLine_31 : Cond.fieldLink RX2 31 (TX2 0).1 (TX2 0).2.1 (TX2 0).2.2.1 ∈ wsX2_costOfLine := by decide +kernel
theorem hnX2_costOfLine_X3 : ∀ w ∈ wsX30, w ∈ wsX2_costOfLine := by decide +kernel
theorem hkX2_costOfLine_96 : Cond.fieldLink RX2 96 (TX3 8).1 (TX3 8).2.1 (TX3 8).2.2.1 ∈ wsX2_costOfLine := by decide +kernel
set_option maxHeartbeats 8000000 in
set_option maxRecDepth 100000 in
theorem mX2_costOfLine (l : Launch) (D : va_G) (ac : Nat → ClassId) (ad : Nat → Nat) (S : List hSh) (k : Nat) (ro : Nat) (f : hF) (x1 : Int32) (x2 : Int32) (rv : Int32) (hS : isHo S k ro) (h : fX2_costOfLine k ro f x1 x2 = some rv) : Met l yX2_costOfLine wsX2_costOfLine ({ frames := 2, cells := 0, slots := 0, locals := 44 }) (hPc D ac ad S f [.ref (ad k), .int x1, .int x2]) (hRi rv) 0 0 hNo := by
  refine h_enter (C := RX2) (cc := cX2_costOfLine) (maxL := 4) (ret := (some .int)) (lv := [(0, .ref (ad k)), (1, .int x1), (2, .int x2)]) (by decide) rfl rfl (Nat.le_of_ble_eq_true rfl) rfl (fun p e s m below meth c ls hx hb hml hr hlocks hown hts hK hw hl => ?_)
  unfold fX2_costOfLine at h
  refine lv_aload_n hx hb dX2_costOfLine_0 rfl (lv_at hl 0 rfl) ?_
  refine h_getR hx hb hts hnX2_costOfLine_X2 hown hK hw hS.1 rfl 1 (by decide) rfl hkX2_costOfLine_12 dX2_costOfLine_1 ?_
  refine lv_iload_n hx hb dX2_costOfLine_4 rfl (lv_at hl 1 rfl) ?_
  refine lv_iload_n hx hb dX2_costOfLine_5 rfl (lv_at hl 2 rfl) ?_
  obtain ⟨r1, er1, h⟩ := b1_s h
  refine h_callR (va_runV (As := [.int x1, .int x2]) (rest := []) ⟨hx, hb, hml, hown, hts⟩ (mX0_slotOf l D ac ad S (k+1) f x1 x2 r1 hS.2.2.2.1 er1) (cwV 2 hts gX2_costOfLine_X0_slotOf rfl rfl rfl (by decide +kernel) ⟨Nat.le_of_ble_eq_true rfl, Nat.le_of_ble_eq_true rfl⟩) (h_preV hK hw hS.2.2.2.1.1 rfl _) rfl rfl hl.1 rfl (lv_room (Nat.le_of_ble_eq_true rfl)) dX2_costOfLine_6 ⟨Nat.le_of_ble_eq_true rfl, Nat.le_of_ble_eq_true rfl⟩) ?_
  refine lv_istore_n (lv' := [(3, .int r1), (0, .ref (ad k)), (1, .int x1), (2, .int x2)]) hx hb dX2_costOfLine_9 rfl hl (by decide) rfl (fun ls hl => ?_)
  refine lv_iload_n hx hb dX2_costOfLine_10 rfl (lv_at hl 0 rfl) ?_
  refine lv_iconst (v := (-1)) hx hb dX2_costOfLine_11 (by decide) ?_
  refine lv_icmp_eq (tgt := 22) hx hb dX2_costOfLine_12 (by decide) (fun hc2 => ?_) (fun hc2 => ?_)
  · have h := it hc2 h
    refine lv_aload_n hx hb dX2_costOfLine_22 rfl (lv_at hl 1 rfl) ?_
    refine h_getR hx hb hts hnX2_costOfLine_X2 hown hK hw hS.1 rfl 0 (by decide) rfl hkX2_costOfLine_31 dX2_costOfLine_23 ?_
    refine lv_iload_n hx hb dX2_costOfLine_26 rfl (lv_at hl 2 rfl) ?_
    obtain ⟨r3, er3, h⟩ := b1_s h
    refine h_callR (va_runV (As := [.int x1]) (rest := []) ⟨hx, hb, hml, hown, hts⟩ (mX3_isParson l D ac ad S ro f x1 r3 hS.2.2.1 er3) (cwV 1 hts gX2_costOfLine_X3_isParson rfl rfl rfl (by decide +kernel) ⟨Nat.le_of_ble_eq_true rfl, Nat.le_of_ble_eq_true rfl⟩) (h_preV hK hw hS.2.2.1.1 rfl _) rfl rfl hl.1 rfl (lv_room (Nat.le_of_ble_eq_true rfl)) dX2_costOfLine_27 ⟨Nat.le_of_ble_eq_true rfl, Nat.le_of_ble_eq_true rfl⟩) ?_
    refine lv_if_eq (tgt := 45) hx hb dX2_costOfLine_30 (by decide) (fun hc4 => ?_) (fun hc4 => ?_)
    · have h := it hc4 h
      refine lv_iconst (v := 0) hx hb dX2_costOfLine_45 (by decide) ?_
      exact h_retR hx hb hr hlocks rfl (so1 h) dX2_costOfLine_46
    · have h := ie hc4 h
      refine lv_aload_n hx hb dX2_costOfLine_33 rfl (lv_at hl 1 rfl) ?_
      refine h_getR hx hb hts hnX2_costOfLine_X2 hown hK hw hS.1 rfl 0 (by decide) rfl hkX2_costOfLine_31 dX2_costOfLine_34 ?_
      refine h_getR hx hb hts hnX2_costOfLine_X3 hown hK hw hS.2.2.1.1 rfl 8 (by decide) rfl hkX2_costOfLine_96 dX2_costOfLine_37 ?_
      refine lv_iload_n hx hb dX2_costOfLine_40 rfl (lv_at hl 2 rfl) ?_
      obtain ⟨hi5, h⟩ := gd_s h
      refine h_iald hx hb hK hw hS.2.2.1.2.2.2.2.2.2.1 hi5 dX2_costOfLine_41 ?_
      refine lv_goto (tgt := 46) hx hb dX2_costOfLine_42 (by decide) ?_
      exact h_retR hx hb hr hlocks rfl (so1 h) dX2_costOfLine_46
  · have h := ie hc2 h
    refine lv_aload_n hx hb dX2_costOfLine_15 rfl (lv_at hl 1 rfl) ?_
    refine lv_iload_n hx hb dX2_costOfLine_16 rfl (lv_at hl 2 rfl) ?_
    refine lv_iload_n hx hb dX2_costOfLine_17 rfl (lv_at hl 0 rfl) ?_
    obtain ⟨r6, er6, h⟩ := b1_s h
    refine h_callR (va_runV (As := [.int x1, .int r1]) (rest := []) ⟨hx, hb, hml, hown, hts⟩ (mX2_costToFill l D ac ad S k ro f x1 r1 r6 hS er6) (cwV 2 hts gX2_costOfLine_X2_costToFill rfl rfl rfl (by decide +kernel) ⟨Nat.le_of_ble_eq_true rfl, Nat.le_of_ble_eq_true rfl⟩) (h_preV hK hw hS.1 rfl _) rfl rfl hl.1 rfl (lv_room (Nat.le_of_ble_eq_true rfl)) dX2_costOfLine_18 ⟨Nat.le_of_ble_eq_true rfl, Nat.le_of_ble_eq_true rfl⟩) ?_
    exact h_retR hx hb hr hlocks rfl (so1 h) dX2_costOfLine_21

theorem hnX2_cheapestLine_X2 : ∀ w ∈ wsX20, w ∈ wsX2_cheapestLine := by decide +kernel
theorem hkX2_cheapestLine_12 : Cond.fieldLink RX2 12 (TX2 1).1 (TX2 1).2.1 (TX2 1).2.2.1 ∈ wsX2_cheapestLine := by decide +kernel
theorem hnX2_cheapestLine_X0 : ∀ w ∈ wsX00, w ∈ wsX2_cheapestLine := by decide +kernel
theorem hkX2_cheapestLine_49 : Cond.fieldLink RX2 49 (TX0 0).1 (TX0 0).2.1 (TX0 0).2.2.1 ∈ wsX2_cheapestLine := by decide +kernel
theorem hkX2_cheapestLine_136 : Cond.fieldLink RX2 136 (TX0 4).1 (TX0 4).2.1 (TX0 4).2.2.1 ∈ wsX2_cheapestLine := by decide +kernel
theorem hkX2_cheapestLine_148 : Cond.fieldLink RX2 148 (TX0 5).1 (TX0 5).2.1 (TX0 5).2.2.1 ∈ wsX2_cheapestLine := by decide +kernel
set_option maxHeartbeats 8000000 in
set_option maxRecDepth 100000 in
theorem mX2_cheapestLine (l : Launch) (D : va_G) (ac : Nat → ClassId) (ad : Nat → Nat) (S : List hSh) (k : Nat) (ro : Nat) (f : hF) (x1 : Int32) (x2 : Int32) (rv : Int32) (hS : isHo S k ro) (h : fX2_cheapestLine k ro f x1 x2 = some rv) : Met l yX2_cheapestLine wsX2_cheapestLine ({ frames := 3, cells := 0, slots := 0, locals := 67 }) (hPc D ac ad S f [.ref (ad k), .int x1, .int x2]) (hRi rv) 0 0 hNo := by
  refine h_enter (C := RX2) (cc := cX2_cheapestLine) (maxL := 7) (ret := (some .int)) (lv := [(0, .ref (ad k)), (1, .int x1), (2, .int x2)]) (by decide) rfl rfl (Nat.le_of_ble_eq_true rfl) rfl (fun p e s m below meth c ls hx hb hml hr hlocks hown hts hK hw hl => ?_)
  have J92 : ∀ (q6 : Int32 → Int32 → Option Int32) (hq6 : (∀ (y3 : Int32) (y4 : Int32) (ls : Array Slot), lv_has ls 7 [(0, .ref (ad k)), (1, .int x1), (2, .int x2), (3, .int y3), (4, .int y4)] → q6 y3 y4 = some rv → W p l e ({ frames := 3, cells := 0, slots := 0, locals := 67 } : Room) s m ([.ref (ad k), .int x1, .int x2] : List Value).toArray below meth c s.heap [] 0 0 (MQ below (hRi rv) ([.ref (ad k), .int x1, .int x2] : List Value).toArray s 0 0 hNo) (F0 m 6 ls []))), (∀ (y4 : Int32) (ls : Array Slot), lv_has ls 7 [(0, .ref (ad k)), (1, .int x1), (2, .int x2), (4, .int y4)] → fX2_cheapestLine_92 k ro f x1 x2 q6 y4 = some rv → W p l e ({ frames := 3, cells := 0, slots := 0, locals := 67 } : Room) s m ([.ref (ad k), .int x1, .int x2] : List Value).toArray below meth c s.heap [] 0 0 (MQ below (hRi rv) ([.ref (ad k), .int x1, .int x2] : List Value).toArray s 0 0 hNo) (F0 m 92 ls [])) := by
    intro q6 hq6 y4 ls hl h
    unfold fX2_cheapestLine_92 at h
    refine lv_iload hx hb dX2_cheapestLine_92 (lv_at hl 3 rfl) ?_
    refine lv_istore_n (lv' := [(3, .int y4), (0, .ref (ad k)), (1, .int x1), (2, .int x2), (4, .int y4)]) hx hb dX2_cheapestLine_94 rfl hl (by decide) rfl (fun ls hl => ?_)
    refine lv_iinc (v := (y4 + 1)) (lv' := [(4, .int (y4 + 1)), (3, .int y4), (0, .ref (ad k)), (1, .int x1), (2, .int x2)]) hx hb dX2_cheapestLine_95 hl (k := 4) rfl rfl (by decide) rfl (fun ls hl => ?_)
    refine lv_goto (tgt := 6) hx hb dX2_cheapestLine_98 (by decide) ?_
    exact hq6 y4 (y4 + 1) _ (lv_sub hl [2, 3, 4, 1, 0] rfl) h
  have J63 : ∀ (q6 : Int32 → Int32 → Option Int32) (hq6 : (∀ (y3 : Int32) (y4 : Int32) (ls : Array Slot), lv_has ls 7 [(0, .ref (ad k)), (1, .int x1), (2, .int x2), (3, .int y3), (4, .int y4)] → q6 y3 y4 = some rv → W p l e ({ frames := 3, cells := 0, slots := 0, locals := 67 } : Room) s m ([.ref (ad k), .int x1, .int x2] : List Value).toArray below meth c s.heap [] 0 0 (MQ below (hRi rv) ([.ref (ad k), .int x1, .int x2] : List Value).toArray s 0 0 hNo) (F0 m 6 ls []))), (∀ (y3 : Int32) (y4 : Int32) (s0 : Int32) (ls : Array Slot), lv_has ls 7 [(0, .ref (ad k)), (1, .int x1), (2, .int x2), (3, .int y3), (4, .int y4)] → fX2_cheapestLine_63 k ro f x1 x2 q6 y3 y4 s0 = some rv → W p l e ({ frames := 3, cells := 0, slots := 0, locals := 67 } : Room) s m ([.ref (ad k), .int x1, .int x2] : List Value).toArray below meth c s.heap [] 0 0 (MQ below (hRi rv) ([.ref (ad k), .int x1, .int x2] : List Value).toArray s 0 0 hNo) (F0 m 63 ls [.int s0])) := by
    intro q6 hq6 y3 y4 s0 ls hl h
    unfold fX2_cheapestLine_63 at h
    refine lv_istore (lv' := [(6, .int s0), (0, .ref (ad k)), (1, .int x1), (2, .int x2), (3, .int y3), (4, .int y4)]) hx hb dX2_cheapestLine_63 hl (by decide) rfl (fun ls hl => ?_)
    refine lv_iload hx hb dX2_cheapestLine_65 (lv_at hl 0 rfl) ?_
    refine lv_if_eq (tgt := 95) hx hb dX2_cheapestLine_67 (by decide) (fun hc1 => ?_) (fun hc1 => ?_)
    · have h := it hc1 h
      refine lv_iinc (v := (y4 + 1)) (lv' := [(4, .int (y4 + 1)), (6, .int s0), (0, .ref (ad k)), (1, .int x1), (2, .int x2), (3, .int y3)]) hx hb dX2_cheapestLine_95 hl (k := 5) rfl rfl (by decide) rfl (fun ls hl => ?_)
      refine lv_goto (tgt := 6) hx hb dX2_cheapestLine_98 (by decide) ?_
      exact hq6 y3 (y4 + 1) _ (lv_sub hl [2, 3, 4, 5, 0] rfl) h
    · have h := ie hc1 h
      refine lv_iload_n hx hb dX2_cheapestLine_70 rfl (lv_at hl 4 rfl) ?_
      refine lv_bipush (v := (-4)) hx hb dX2_cheapestLine_71 (by decide) ?_
      refine lv_icmp_eq (tgt := 92) hx hb dX2_cheapestLine_73 (by decide) (fun hc2 => ?_) (fun hc2 => ?_)
      · have h := it hc2 h
        exact J92 q6 hq6 y4 _ (lv_sub hl [1, 2, 3, 5] rfl) h
      · have h := ie hc2 h
        refine lv_aload_n hx hb dX2_cheapestLine_76 rfl (lv_at hl 1 rfl) ?_
        refine lv_iload_n hx hb dX2_cheapestLine_77 rfl (lv_at hl 2 rfl) ?_
        refine lv_iload hx hb dX2_cheapestLine_78 (lv_at hl 5 rfl) ?_
        obtain ⟨r3, er3, h⟩ := b1_s h
        refine h_callR (va_runV (As := [.int x1, .int y4]) (rest := []) ⟨hx, hb, hml, hown, hts⟩ (mX2_costOfLine l D ac ad S k ro f x1 y4 r3 hS er3) (cwV 2 hts gX2_cheapestLine_X2_costOfLine rfl rfl rfl (by decide +kernel) ⟨Nat.le_of_ble_eq_true rfl, Nat.le_of_ble_eq_true rfl⟩) (h_preV hK hw hS.1 rfl _) rfl rfl hl.1 rfl (lv_room (Nat.le_of_ble_eq_true rfl)) dX2_cheapestLine_80 ⟨Nat.le_of_ble_eq_true rfl, Nat.le_of_ble_eq_true rfl⟩) ?_
        refine lv_aload_n hx hb dX2_cheapestLine_83 rfl (lv_at hl 1 rfl) ?_
        refine lv_iload_n hx hb dX2_cheapestLine_84 rfl (lv_at hl 2 rfl) ?_
        refine lv_iload_n hx hb dX2_cheapestLine_85 rfl (lv_at hl 4 rfl) ?_
        obtain ⟨r4, er4, h⟩ := b1_s h
        refine h_callR (va_runV (As := [.int x1, .int y3]) (rest := [.int r3]) ⟨hx, hb, hml, hown, hts⟩ (mX2_costOfLine l D ac ad S k ro f x1 y3 r4 hS er4) (cwV 2 hts gX2_cheapestLine_X2_costOfLine rfl rfl rfl (by decide +kernel) ⟨Nat.le_of_ble_eq_true rfl, Nat.le_of_ble_eq_true rfl⟩) (h_preV hK hw hS.1 rfl _) rfl rfl hl.1 rfl (lv_room (Nat.le_of_ble_eq_true rfl)) dX2_cheapestLine_86 ⟨Nat.le_of_ble_eq_true rfl, Nat.le_of_ble_eq_true rfl⟩) ?_
        refine lv_icmp_ge (tgt := 95) hx hb dX2_cheapestLine_89 (by decide) (fun hc5 => ?_) (fun hc5 => ?_)
        · have h := it hc5 h
          refine lv_iinc (v := (y4 + 1)) (lv' := [(4, .int (y4 + 1)), (6, .int s0), (0, .ref (ad k)), (1, .int x1), (2, .int x2), (3, .int y3)]) hx hb dX2_cheapestLine_95 hl (k := 5) rfl rfl (by decide) rfl (fun ls hl => ?_)
          refine lv_goto (tgt := 6) hx hb dX2_cheapestLine_98 (by decide) ?_
          exact hq6 y3 (y4 + 1) _ (lv_sub hl [2, 3, 4, 5, 0] rfl) h
        · have h := ie hc5 h
          exact J92 q6 hq6 y4 _ (lv_sub hl [1, 2, 3, 5] rfl) h
  have J62 : ∀ (q6 : Int32 → Int32 → Option Int32) (hq6 : (∀ (y3 : Int32) (y4 : Int32) (ls : Array Slot), lv_has ls 7 [(0, .ref (ad k)), (1, .int x1), (2, .int x2), (3, .int y3), (4, .int y4)] → q6 y3 y4 = some rv → W p l e ({ frames := 3, cells := 0, slots := 0, locals := 67 } : Room) s m ([.ref (ad k), .int x1, .int x2] : List Value).toArray below meth c s.heap [] 0 0 (MQ below (hRi rv) ([.ref (ad k), .int x1, .int x2] : List Value).toArray s 0 0 hNo) (F0 m 6 ls []))), (∀ (y3 : Int32) (y4 : Int32) (ls : Array Slot), lv_has ls 7 [(0, .ref (ad k)), (1, .int x1), (2, .int x2), (3, .int y3), (4, .int y4)] → fX2_cheapestLine_62 k ro f x1 x2 q6 y3 y4 = some rv → W p l e ({ frames := 3, cells := 0, slots := 0, locals := 67 } : Room) s m ([.ref (ad k), .int x1, .int x2] : List Value).toArray below meth c s.heap [] 0 0 (MQ below (hRi rv) ([.ref (ad k), .int x1, .int x2] : List Value).toArray s 0 0 hNo) (F0 m 62 ls [])) := by
    intro q6 hq6 y3 y4 ls hl h
    unfold fX2_cheapestLine_62 at h
    refine lv_iconst (v := 0) hx hb dX2_cheapestLine_62 (by decide) ?_
    exact J63 q6 hq6 y3 y4 0 _ (lv_sub hl [0, 1, 2, 3, 4] rfl) h
  have J135 : ∀ (_ : Unit), (∀ (y3 : Int32) (s0 : Int32) (ls : Array Slot), lv_has ls 7 [(0, .ref (ad k)), (1, .int x1), (3, .int y3)] → fX2_cheapestLine_135 k ro f x1 x2 y3 s0 = some rv → W p l e ({ frames := 3, cells := 0, slots := 0, locals := 67 } : Room) s m ([.ref (ad k), .int x1, .int x2] : List Value).toArray below meth c s.heap [] 0 0 (MQ below (hRi rv) ([.ref (ad k), .int x1, .int x2] : List Value).toArray s 0 0 hNo) (F0 m 135 ls [.int s0])) := by
    intro _ y3 s0 ls hl h
    unfold fX2_cheapestLine_135 at h
    refine lv_istore (lv' := [(4, .int s0), (0, .ref (ad k)), (1, .int x1), (3, .int y3)]) hx hb dX2_cheapestLine_135 hl (by decide) rfl (fun ls hl => ?_)
    refine lv_iload hx hb dX2_cheapestLine_137 (lv_at hl 0 rfl) ?_
    refine lv_if_eq (tgt := 167) hx hb dX2_cheapestLine_139 (by decide) (fun hc1 => ?_) (fun hc1 => ?_)
    · have h := it hc1 h
      refine lv_iload_n hx hb dX2_cheapestLine_167 rfl (lv_at hl 3 rfl) ?_
      exact h_retR hx hb hr hlocks rfl (so1 h) dX2_cheapestLine_168
    · have h := ie hc1 h
      refine lv_iload_n hx hb dX2_cheapestLine_142 rfl (lv_at hl 3 rfl) ?_
      refine lv_bipush (v := (-4)) hx hb dX2_cheapestLine_143 (by decide) ?_
      refine lv_icmp_eq (tgt := 164) hx hb dX2_cheapestLine_145 (by decide) (fun hc2 => ?_) (fun hc2 => ?_)
      · have h := it hc2 h
        refine lv_bipush (v := 8) hx hb dX2_cheapestLine_164 (by decide) ?_
        exact h_retR hx hb hr hlocks rfl (so1 h) dX2_cheapestLine_166
      · have h := ie hc2 h
        refine lv_aload_n hx hb dX2_cheapestLine_148 rfl (lv_at hl 1 rfl) ?_
        refine lv_iload_n hx hb dX2_cheapestLine_149 rfl (lv_at hl 2 rfl) ?_
        refine lv_bipush (v := 8) hx hb dX2_cheapestLine_150 (by decide) ?_
        obtain ⟨r3, er3, h⟩ := b1_s h
        refine h_callR (va_runV (As := [.int x1, .int 8]) (rest := []) ⟨hx, hb, hml, hown, hts⟩ (mX2_costOfLine l D ac ad S k ro f x1 (8 : Int32) r3 hS er3) (cwV 2 hts gX2_cheapestLine_X2_costOfLine rfl rfl rfl (by decide +kernel) ⟨Nat.le_of_ble_eq_true rfl, Nat.le_of_ble_eq_true rfl⟩) (h_preV hK hw hS.1 rfl _) rfl rfl hl.1 rfl (lv_room (Nat.le_of_ble_eq_true rfl)) dX2_cheapestLine_152 ⟨Nat.le_of_ble_eq_true rfl, Nat.le_of_ble_eq_true rfl⟩) ?_
        refine lv_aload_n hx hb dX2_cheapestLine_155 rfl (lv_at hl 1 rfl) ?_
        refine lv_iload_n hx hb dX2_cheapestLine_156 rfl (lv_at hl 2 rfl) ?_
        refine lv_iload_n hx hb dX2_cheapestLine_157 rfl (lv_at hl 3 rfl) ?_
        obtain ⟨r4, er4, h⟩ := b1_s h
        refine h_callR (va_runV (As := [.int x1, .int y3]) (rest := [.int r3]) ⟨hx, hb, hml, hown, hts⟩ (mX2_costOfLine l D ac ad S k ro f x1 y3 r4 hS er4) (cwV 2 hts gX2_cheapestLine_X2_costOfLine rfl rfl rfl (by decide +kernel) ⟨Nat.le_of_ble_eq_true rfl, Nat.le_of_ble_eq_true rfl⟩) (h_preV hK hw hS.1 rfl _) rfl rfl hl.1 rfl (lv_room (Nat.le_of_ble_eq_true rfl)) dX2_cheapestLine_158 ⟨Nat.le_of_ble_eq_true rfl, Nat.le_of_ble_eq_true rfl⟩) ?_
        refine lv_icmp_ge (tgt := 167) hx hb dX2_cheapestLine_161 (by decide) (fun hc5 => ?_) (fun hc5 => ?_)
        · have h := it hc5 h
          refine lv_iload_n hx hb dX2_cheapestLine_167 rfl (lv_at hl 3 rfl) ?_
          exact h_retR hx hb hr hlocks rfl (so1 h) dX2_cheapestLine_168
        · have h := ie hc5 h
          refine lv_bipush (v := 8) hx hb dX2_cheapestLine_164 (by decide) ?_
          exact h_retR hx hb hr hlocks rfl (so1 h) dX2_cheapestLine_166
  have J134 : ∀ (_ : Unit), (∀ (y3 : Int32) (ls : Array Slot), lv_has ls 7 [(0, .ref (ad k)), (1, .int x1), (3, .int y3)] → fX2_cheapestLine_134 k ro f x1 x2 y3 = some rv → W p l e ({ frames := 3, cells := 0, slots := 0, locals := 67 } : Room) s m ([.ref (ad k), .int x1, .int x2] : List Value).toArray below meth c s.heap [] 0 0 (MQ below (hRi rv) ([.ref (ad k), .int x1, .int x2] : List Value).toArray s 0 0 hNo) (F0 m 134 ls [])) := by
    intro _ y3 ls hl h
    unfold fX2_cheapestLine_134 at h
    refine lv_iconst (v := 0) hx hb dX2_cheapestLine_134 (by decide) ?_
    exact J135 () y3 0 _ (lv_sub hl [0, 1, 2] rfl) h
  have J6 : ∀ (n : Nat), (∀ (y3 : Int32) (y4 : Int32) (ls : Array Slot), lv_has ls 7 [(0, .ref (ad k)), (1, .int x1), (2, .int x2), (3, .int y3), (4, .int y4)] → fX2_cheapestLine_6 k ro f x1 x2 n y3 y4 = some rv → W p l e ({ frames := 3, cells := 0, slots := 0, locals := 67 } : Room) s m ([.ref (ad k), .int x1, .int x2] : List Value).toArray below meth c s.heap [] 0 0 (MQ below (hRi rv) ([.ref (ad k), .int x1, .int x2] : List Value).toArray s 0 0 hNo) (F0 m 6 ls [])) := by
    intro n
    induction n with
    | zero =>
      intro y3 y4 ls hl h
      rw [fX2_cheapestLine_6] at h
      cases h
    | succ n ih =>
      intro y3 y4 ls hl h
      rw [fX2_cheapestLine_6] at h
      refine lv_iload hx hb dX2_cheapestLine_6 (lv_at hl 4 rfl) ?_
      refine lv_bipush (v := 8) hx hb dX2_cheapestLine_8 (by decide) ?_
      refine lv_icmp_ge (tgt := 101) hx hb dX2_cheapestLine_10 (by decide) (fun hc1 => ?_) (fun hc1 => ?_)
      · have h := it hc1 h
        refine lv_aload_n hx hb dX2_cheapestLine_101 rfl (lv_at hl 0 rfl) ?_
        refine h_getR hx hb hts hnX2_cheapestLine_X2 hown hK hw hS.1 rfl 1 (by decide) rfl hkX2_cheapestLine_12 dX2_cheapestLine_102 ?_
        refine lv_iload_n hx hb dX2_cheapestLine_105 rfl (lv_at hl 1 rfl) ?_
        obtain ⟨r2, er2, h⟩ := b1_s h
        refine h_callR (va_runV (As := [.int x1]) (rest := []) ⟨hx, hb, hml, hown, hts⟩ (mX0_hasRoom l D ac ad S (k+1) f x1 r2 hS.2.2.2.1 er2) (cwV 1 hts gX2_cheapestLine_X0_hasRoom rfl rfl rfl (by decide +kernel) ⟨Nat.le_of_ble_eq_true rfl, Nat.le_of_ble_eq_true rfl⟩) (h_preV hK hw hS.2.2.2.1.1 rfl _) rfl rfl hl.1 rfl (lv_room (Nat.le_of_ble_eq_true rfl)) dX2_cheapestLine_106 ⟨Nat.le_of_ble_eq_true rfl, Nat.le_of_ble_eq_true rfl⟩) ?_
        refine lv_if_eq (tgt := 134) hx hb dX2_cheapestLine_109 (by decide) (fun hc3 => ?_) (fun hc3 => ?_)
        · have h := it hc3 h
          exact J134 () y3 _ (lv_sub hl [0, 1, 3] rfl) h
        · have h := ie hc3 h
          refine lv_aload_n hx hb dX2_cheapestLine_112 rfl (lv_at hl 0 rfl) ?_
          obtain ⟨r4, er4, h⟩ := b1_s h
          refine h_callR (va_runV (As := []) (rest := []) ⟨hx, hb, hml, hown, hts⟩ (mX2_isLaw l D ac ad S k ro f r4 hS er4) (cwV 0 hts gX2_cheapestLine_X2_isLaw rfl rfl rfl (by decide +kernel) ⟨Nat.le_of_ble_eq_true rfl, Nat.le_of_ble_eq_true rfl⟩) (h_preV hK hw hS.1 rfl _) rfl rfl hl.1 rfl (lv_room (Nat.le_of_ble_eq_true rfl)) dX2_cheapestLine_113 ⟨Nat.le_of_ble_eq_true rfl, Nat.le_of_ble_eq_true rfl⟩) ?_
          refine lv_if_ne (tgt := 134) hx hb dX2_cheapestLine_116 (by decide) (fun hc5 => ?_) (fun hc5 => ?_)
          · have h := ie hc5 h
            exact J134 () y3 _ (lv_sub hl [0, 1, 3] rfl) h
          · have h := it hc5 h
            refine lv_aload_n hx hb dX2_cheapestLine_119 rfl (lv_at hl 0 rfl) ?_
            refine h_getR hx hb hts hnX2_cheapestLine_X2 hown hK hw hS.1 rfl 1 (by decide) rfl hkX2_cheapestLine_12 dX2_cheapestLine_120 ?_
            refine h_getI hx hb hts hnX2_cheapestLine_X0 hown hK hw hS.2.2.2.1.1 rfl 0 (by decide) rfl hkX2_cheapestLine_49 dX2_cheapestLine_123 ?_
            refine lv_iload_n hx hb dX2_cheapestLine_126 rfl (lv_at hl 2 rfl) ?_
            refine lv_icmp_gt (tgt := 134) hx hb dX2_cheapestLine_127 (by decide) (fun hc6 => ?_) (fun hc6 => ?_)
            · have h := it hc6 h
              exact J134 () y3 _ (lv_sub hl [0, 1, 3] rfl) h
            · have h := ie hc6 h
              refine lv_iconst (v := 1) hx hb dX2_cheapestLine_130 (by decide) ?_
              refine lv_goto (tgt := 135) hx hb dX2_cheapestLine_131 (by decide) ?_
              exact J135 () y3 1 _ (lv_sub hl [0, 1, 3] rfl) h
      · have h := ie hc1 h
        refine lv_aload_n hx hb dX2_cheapestLine_13 rfl (lv_at hl 0 rfl) ?_
        refine h_getR hx hb hts hnX2_cheapestLine_X2 hown hK hw hS.1 rfl 1 (by decide) rfl hkX2_cheapestLine_12 dX2_cheapestLine_14 ?_
        refine lv_iload_n hx hb dX2_cheapestLine_17 rfl (lv_at hl 1 rfl) ?_
        refine lv_iload hx hb dX2_cheapestLine_18 (lv_at hl 4 rfl) ?_
        obtain ⟨r7, er7, h⟩ := b1_s h
        refine h_callR (va_runV (As := [.int x1, .int y4]) (rest := []) ⟨hx, hb, hml, hown, hts⟩ (mX0_slotOf l D ac ad S (k+1) f x1 y4 r7 hS.2.2.2.1 er7) (cwV 2 hts gX2_cheapestLine_X0_slotOf rfl rfl rfl (by decide +kernel) ⟨Nat.le_of_ble_eq_true rfl, Nat.le_of_ble_eq_true rfl⟩) (h_preV hK hw hS.2.2.2.1.1 rfl _) rfl rfl hl.1 rfl (lv_room (Nat.le_of_ble_eq_true rfl)) dX2_cheapestLine_20 ⟨Nat.le_of_ble_eq_true rfl, Nat.le_of_ble_eq_true rfl⟩) ?_
        refine lv_istore (lv' := [(5, .int r7), (0, .ref (ad k)), (1, .int x1), (2, .int x2), (3, .int y3), (4, .int y4)]) hx hb dX2_cheapestLine_23 hl (by decide) rfl (fun ls hl => ?_)
        refine lv_iload hx hb dX2_cheapestLine_25 (lv_at hl 0 rfl) ?_
        refine lv_iconst (v := (-1)) hx hb dX2_cheapestLine_27 (by decide) ?_
        refine lv_icmp_eq (tgt := 62) hx hb dX2_cheapestLine_28 (by decide) (fun hc8 => ?_) (fun hc8 => ?_)
        · have h := it hc8 h
          exact J62 (fX2_cheapestLine_6 k ro f x1 x2 n) ih y3 y4 _ (lv_sub hl [1, 2, 3, 4, 5] rfl) h
        · have h := ie hc8 h
          refine lv_aload_n hx hb dX2_cheapestLine_31 rfl (lv_at hl 1 rfl) ?_
          refine h_getR hx hb hts hnX2_cheapestLine_X2 hown hK hw hS.1 rfl 1 (by decide) rfl hkX2_cheapestLine_12 dX2_cheapestLine_32 ?_
          refine h_getR hx hb hts hnX2_cheapestLine_X0 hown hK hw hS.2.2.2.1.1 rfl 4 (by decide) rfl hkX2_cheapestLine_136 dX2_cheapestLine_35 ?_
          refine lv_iload hx hb dX2_cheapestLine_38 (lv_at hl 0 rfl) ?_
          obtain ⟨hi9, h⟩ := gd_s h
          refine h_iald hx hb hK hw hS.2.2.2.1.2.2.2.2.1 hi9 dX2_cheapestLine_40 ?_
          refine lv_if_ne (tgt := 62) hx hb dX2_cheapestLine_41 (by decide) (fun hc10 => ?_) (fun hc10 => ?_)
          · have h := ie hc10 h
            exact J62 (fX2_cheapestLine_6 k ro f x1 x2 n) ih y3 y4 _ (lv_sub hl [1, 2, 3, 4, 5] rfl) h
          · have h := it hc10 h
            refine lv_aload_n hx hb dX2_cheapestLine_44 rfl (lv_at hl 1 rfl) ?_
            refine h_getR hx hb hts hnX2_cheapestLine_X2 hown hK hw hS.1 rfl 1 (by decide) rfl hkX2_cheapestLine_12 dX2_cheapestLine_45 ?_
            refine h_getR hx hb hts hnX2_cheapestLine_X0 hown hK hw hS.2.2.2.1.1 rfl 5 (by decide) rfl hkX2_cheapestLine_148 dX2_cheapestLine_48 ?_
            refine lv_iload hx hb dX2_cheapestLine_51 (lv_at hl 0 rfl) ?_
            obtain ⟨hi11, h⟩ := gd_s h
            refine h_iald hx hb hK hw hS.2.2.2.1.2.2.2.2.2.1 hi11 dX2_cheapestLine_53 ?_
            refine lv_iload_n hx hb dX2_cheapestLine_54 rfl (lv_at hl 3 rfl) ?_
            refine lv_icmp_gt (tgt := 62) hx hb dX2_cheapestLine_55 (by decide) (fun hc12 => ?_) (fun hc12 => ?_)
            · have h := it hc12 h
              exact J62 (fX2_cheapestLine_6 k ro f x1 x2 n) ih y3 y4 _ (lv_sub hl [1, 2, 3, 4, 5] rfl) h
            · have h := ie hc12 h
              refine lv_iconst (v := 1) hx hb dX2_cheapestLine_58 (by decide) ?_
              refine lv_goto (tgt := 63) hx hb dX2_cheapestLine_59 (by decide) ?_
              exact J63 (fX2_cheapestLine_6 k ro f x1 x2 n) ih y3 y4 1 _ (lv_sub hl [1, 2, 3, 4, 5] rfl) h
  unfold fX2_cheapestLine at h
  refine lv_bipush (v := (-4)) hx hb dX2_cheapestLine_0 (by decide) ?_
  refine lv_istore_n (lv' := [(3, .int (-4)), (0, .ref (ad k)), (1, .int x1), (2, .int x2)]) hx hb dX2_cheapestLine_2 rfl hl (by decide) rfl (fun ls hl => ?_)
  refine lv_iconst (v := 0) hx hb dX2_cheapestLine_3 (by decide) ?_
  refine lv_istore (lv' := [(4, .int 0), (3, .int (-4)), (0, .ref (ad k)), (1, .int x1), (2, .int x2)]) hx hb dX2_cheapestLine_4 hl (by decide) rfl (fun ls hl => ?_)
  exact J6 _ (-4) 0 _ (lv_sub hl [2, 3, 4, 1, 0] rfl) h

theorem hnX7_date_X7 : ∀ w ∈ wsX70, w ∈ wsX7_date := by decide +kernel
theorem hkX7_date_19 : Cond.fieldLink RX7 19 (TX7 1).1 (TX7 1).2.1 (TX7 1).2.2.1 ∈ wsX7_date := by decide +kernel
theorem hkX7_date_31 : Cond.fieldLink RX7 31 (TX7 3).1 (TX7 3).2.1 (TX7 3).2.2.1 ∈ wsX7_date := by decide +kernel
set_option maxHeartbeats 8000000 in
set_option maxRecDepth 100000 in
theorem mX7_date (l : Launch) (D : va_G) (ac : Nat → ClassId) (ad : Nat → Nat) (S : List hSh) (f : hF) (x1 : Int32) (x2 : Int32) (x3 : Int32) (rv : Int32) (hS : isPW S) (h : fX7_date f x1 x2 x3 = some rv) : Met l yX7_date wsX7_date ({ frames := 4, cells := 0, slots := 0, locals := 93 }) (hPc D ac ad S f [.ref (ad 0), .int x1, .int x2, .int x3]) (hRi rv) 0 0 hNo := by
  refine h_enter (C := RX7) (cc := cX7_date) (maxL := 5) (ret := (some .int)) (lv := [(0, .ref (ad 0)), (1, .int x1), (2, .int x2), (3, .int x3)]) (by decide) rfl rfl (Nat.le_of_ble_eq_true rfl) rfl (fun p e s m below meth c ls hx hb hml hr hlocks hown hts hK hw hl => ?_)
  unfold fX7_date at h
  refine lv_aload_n hx hb dX7_date_0 rfl (lv_at hl 0 rfl) ?_
  refine h_getR hx hb hts hnX7_date_X7 hown hK hw hS.1 rfl 1 (by decide) rfl hkX7_date_19 dX7_date_1 ?_
  refine lv_iload_n hx hb dX7_date_4 rfl (lv_at hl 1 rfl) ?_
  obtain ⟨r1, er1, h⟩ := b1_s h
  refine h_callR (va_runV (As := [.int x1]) (rest := []) ⟨hx, hb, hml, hown, hts⟩ (mX3_isParson l D ac ad S 3 f x1 r1 hS.2.2.1 er1) (cwV 1 hts gX7_date_X3_isParson rfl rfl rfl (by decide +kernel) ⟨Nat.le_of_ble_eq_true rfl, Nat.le_of_ble_eq_true rfl⟩) (h_preV hK hw hS.2.2.1.1 rfl _) rfl rfl hl.1 rfl (lv_room (Nat.le_of_ble_eq_true rfl)) dX7_date_5 ⟨Nat.le_of_ble_eq_true rfl, Nat.le_of_ble_eq_true rfl⟩) ?_
  refine lv_if_eq (tgt := 25) hx hb dX7_date_8 (by decide) (fun hc2 => ?_) (fun hc2 => ?_)
  · have h := it hc2 h
    refine lv_iconst (v := (-1)) hx hb dX7_date_25 (by decide) ?_
    exact h_retR hx hb hr hlocks rfl (so1 h) dX7_date_26
  · have h := ie hc2 h
    refine lv_iload_n hx hb dX7_date_11 rfl (lv_at hl 2 rfl) ?_
    obtain ⟨r3, er3, h⟩ := b1_s h
    refine h_callR (va_runS (As := [.int x2]) (rest := []) ⟨hx, hb, hml, hown, hts⟩ (mX7_isDay l D ac ad S f x2 r3  er3) (va_cwS 1 hts gX7_date_X7_isDay rfl rfl rfl (by decide +kernel) ⟨Nat.le_of_ble_eq_true rfl, Nat.le_of_ble_eq_true rfl⟩) (h_preS hK hw _) rfl rfl hl.1 rfl (lv_room (Nat.le_of_ble_eq_true rfl)) dX7_date_12 ⟨Nat.le_of_ble_eq_true rfl, Nat.le_of_ble_eq_true rfl⟩) ?_
    refine lv_if_eq (tgt := 25) hx hb dX7_date_15 (by decide) (fun hc4 => ?_) (fun hc4 => ?_)
    · have h := it hc4 h
      refine lv_iconst (v := (-1)) hx hb dX7_date_25 (by decide) ?_
      exact h_retR hx hb hr hlocks rfl (so1 h) dX7_date_26
    · have h := ie hc4 h
      refine lv_iload_n hx hb dX7_date_18 rfl (lv_at hl 3 rfl) ?_
      obtain ⟨r5, er5, h⟩ := b1_s h
      refine h_callR (va_runS (As := [.int x3]) (rest := []) ⟨hx, hb, hml, hown, hts⟩ (mX7_isPart l D ac ad S f x3 r5  er5) (va_cwS 1 hts gX7_date_X7_isPart rfl rfl rfl (by decide +kernel) ⟨Nat.le_of_ble_eq_true rfl, Nat.le_of_ble_eq_true rfl⟩) (h_preS hK hw _) rfl rfl hl.1 rfl (lv_room (Nat.le_of_ble_eq_true rfl)) dX7_date_19 ⟨Nat.le_of_ble_eq_true rfl, Nat.le_of_ble_eq_true rfl⟩) ?_
      refine lv_if_ne (tgt := 27) hx hb dX7_date_22 (by decide) (fun hc6 => ?_) (fun hc6 => ?_)
      · have h := ie hc6 h
        refine lv_aload_n hx hb dX7_date_27 rfl (lv_at hl 0 rfl) ?_
        refine h_getR hx hb hts hnX7_date_X7 hown hK hw hS.1 rfl 3 (by decide) rfl hkX7_date_31 dX7_date_28 ?_
        refine lv_iload_n hx hb dX7_date_31 rfl (lv_at hl 1 rfl) ?_
        refine lv_iload_n hx hb dX7_date_32 rfl (lv_at hl 2 rfl) ?_
        obtain ⟨r7, er7, h⟩ := b1_s h
        refine h_callR (va_runV (As := [.int x1, .int x2]) (rest := []) ⟨hx, hb, hml, hown, hts⟩ (mX2_cheapestLine l D ac ad S 19 3 f x1 x2 r7 hS.2.2.2.2.1 er7) (cwV 2 hts gX7_date_X2_cheapestLine rfl rfl rfl (by decide +kernel) ⟨Nat.le_of_ble_eq_true rfl, Nat.le_of_ble_eq_true rfl⟩) (h_preV hK hw hS.2.2.2.2.1.1 rfl _) rfl rfl hl.1 rfl (lv_room (Nat.le_of_ble_eq_true rfl)) dX7_date_33 ⟨Nat.le_of_ble_eq_true rfl, Nat.le_of_ble_eq_true rfl⟩) ?_
        refine lv_istore (lv' := [(4, .int r7), (0, .ref (ad 0)), (1, .int x1), (2, .int x2), (3, .int x3)]) hx hb dX7_date_36 hl (by decide) rfl (fun ls hl => ?_)
        refine lv_iload hx hb dX7_date_38 (lv_at hl 0 rfl) ?_
        refine lv_bipush (v := (-4)) hx hb dX7_date_40 (by decide) ?_
        refine lv_icmp_eq (tgt := 50) hx hb dX7_date_42 (by decide) (fun hc8 => ?_) (fun hc8 => ?_)
        · have h := it hc8 h
          refine lv_iload hx hb dX7_date_50 (lv_at hl 0 rfl) ?_
          exact h_retR hx hb hr hlocks rfl (so1 h) dX7_date_52
        · have h := ie hc8 h
          refine lv_iload_n hx hb dX7_date_45 rfl (lv_at hl 4 rfl) ?_
          refine lv_iconst (v := 1) hx hb dX7_date_46 (by decide) ?_
          refine lv_icmp_ne (tgt := 53) hx hb dX7_date_47 (by decide) (fun hc9 => ?_) (fun hc9 => ?_)
          · have h := ie hc9 h
            refine lv_aload_n hx hb dX7_date_53 rfl (lv_at hl 1 rfl) ?_
            refine h_getR hx hb hts hnX7_date_X7 hown hK hw hS.1 rfl 3 (by decide) rfl hkX7_date_31 dX7_date_54 ?_
            refine lv_iload_n hx hb dX7_date_57 rfl (lv_at hl 2 rfl) ?_
            refine lv_iload hx hb dX7_date_58 (lv_at hl 0 rfl) ?_
            obtain ⟨r10, er10, h⟩ := b1_s h
            refine h_callR (va_runV (As := [.int x1, .int r7]) (rest := []) ⟨hx, hb, hml, hown, hts⟩ (mX2_costOfLine l D ac ad S 19 3 f x1 r7 r10 hS.2.2.2.2.1 er10) (cwV 2 hts gX7_date_X2_costOfLine rfl rfl rfl (by decide +kernel) ⟨Nat.le_of_ble_eq_true rfl, Nat.le_of_ble_eq_true rfl⟩) (h_preV hK hw hS.2.2.2.2.1.1 rfl _) rfl rfl hl.1 rfl (lv_room (Nat.le_of_ble_eq_true rfl)) dX7_date_60 ⟨Nat.le_of_ble_eq_true rfl, Nat.le_of_ble_eq_true rfl⟩) ?_
            exact h_retR hx hb hr hlocks rfl (so1 h) dX7_date_63
          · have h := it hc9 h
            refine lv_iload hx hb dX7_date_50 (lv_at hl 0 rfl) ?_
            exact h_retR hx hb hr hlocks rfl (so1 h) dX7_date_52
      · have h := it hc6 h
        refine lv_iconst (v := (-1)) hx hb dX7_date_25 (by decide) ?_
        exact h_retR hx hb hr hlocks rfl (so1 h) dX7_date_26

theorem hnX2_booksThatHold_X2 : ∀ w ∈ wsX20, w ∈ wsX2_booksThatHold := by decide +kernel
theorem hkX2_booksThatHold_23 : Cond.fieldLink RX2 23 (TX2 2).1 (TX2 2).2.1 (TX2 2).2.2.1 ∈ wsX2_booksThatHold := by decide +kernel
set_option maxHeartbeats 8000000 in
set_option maxRecDepth 100000 in
theorem mX2_booksThatHold (l : Launch) (D : va_G) (ac : Nat → ClassId) (ad : Nat → Nat) (S : List hSh) (k : Nat) (ro : Nat) (f : hF) (rv : Int32) (gv : hF) (hS : isHo S k ro) (h : fX2_booksThatHold k ro f = some (rv, gv)) : Met l yX2_booksThatHold wsX2_booksThatHold ({ frames := 4, cells := 0, slots := 0, locals := 88 }) (hPc D ac ad S f [.ref (ad k)]) (hQi D ac ad S rv gv) 0 0 (hAd ad S.length) := by
  refine h_enter (C := RX2) (cc := cX2_booksThatHold) (maxL := 3) (ret := (some .int)) (lv := [(0, .ref (ad k))]) (by decide) rfl rfl (Nat.le_of_ble_eq_true rfl) rfl (fun p e s m below meth c ls hx hb hml hr hlocks hown hts hK hw hl => ?_)
  have J8 : ∀ (n : Nat), (∀ (f : hF) (y1 : Int32) (y2 : Int32) (H : Heap) (locs : List Loc) (ls : Array Slot), hOk D ac ad S (hAd ad S.length) s.heap f H locs → lv_has ls 3 [(0, .ref (ad k)), (1, .int y1), (2, .int y2)] → fX2_booksThatHold_8 k ro n f y1 y2 = some (rv, gv) → W p l e ({ frames := 4, cells := 0, slots := 0, locals := 88 } : Room) s m ([.ref (ad k)] : List Value).toArray below meth c H locs 0 0 (MQ below (hQi D ac ad S rv gv) ([.ref (ad k)] : List Value).toArray s 0 0 (hAd ad S.length)) (F0 m 8 ls [])) := by
    intro n
    induction n with
    | zero =>
      intro f y1 y2 H locs ls hw hl h
      rw [fX2_booksThatHold_8] at h
      cases h
    | succ n ih =>
      intro f y1 y2 H locs ls hw hl h
      rw [fX2_booksThatHold_8] at h
      refine lv_iload_n hx hb dX2_booksThatHold_8 rfl (lv_at hl 2 rfl) ?_
      refine lv_bipush (v := 24) hx hb dX2_booksThatHold_9 (by decide) ?_
      refine lv_icmp_ge (tgt := 40) hx hb dX2_booksThatHold_11 (by decide) (fun hc1 => ?_) (fun hc1 => ?_)
      · have h := it hc1 h
        refine lv_iload_n hx hb dX2_booksThatHold_40 rfl (lv_at hl 1 rfl) ?_
        exact h_retQ hx hb hr hlocks hw rfl (so2 h) dX2_booksThatHold_41
      · have h := ie hc1 h
        refine lv_aload_n hx hb dX2_booksThatHold_14 rfl (lv_at hl 0 rfl) ?_
        refine h_getR hx hb hts hnX2_booksThatHold_X2 hown hK hw hS.1 rfl 2 (by decide) rfl hkX2_booksThatHold_23 dX2_booksThatHold_15 ?_
        refine lv_iload_n hx hb dX2_booksThatHold_18 rfl (lv_at hl 2 rfl) ?_
        obtain ⟨r2, er2, h⟩ := b1_s h
        refine h_callR (va_runV (As := [.int y2]) (rest := []) ⟨hx, hb, hml, hown, hts⟩ (mX1_isHeld l D ac ad S (k+10) (k+1) f y2 r2 hS.2.2.2.2 er2) (cwV 1 hts gX2_booksThatHold_X1_isHeld rfl rfl rfl (by decide +kernel) ⟨Nat.le_of_ble_eq_true rfl, Nat.le_of_ble_eq_true rfl⟩) (h_preV hK hw hS.2.2.2.2.1 rfl _) rfl rfl hl.1 rfl (lv_room (Nat.le_of_ble_eq_true rfl)) dX2_booksThatHold_19 ⟨Nat.le_of_ble_eq_true rfl, Nat.le_of_ble_eq_true rfl⟩) ?_
        refine lv_if_eq (tgt := 34) hx hb dX2_booksThatHold_22 (by decide) (fun hc3 => ?_) (fun hc3 => ?_)
        · have h := it hc3 h
          refine lv_iinc (v := (y2 + 1)) (lv' := [(2, .int (y2 + 1)), (0, .ref (ad k)), (1, .int y1)]) hx hb dX2_booksThatHold_34 hl (k := 2) rfl rfl (by decide) rfl (fun ls hl => ?_)
          refine lv_goto (tgt := 8) hx hb dX2_booksThatHold_37 (by decide) ?_
          exact ih f y1 (y2 + 1) _ _ _ hw (lv_sub hl [1, 2, 0] rfl) h
        · have h := ie hc3 h
          refine lv_iload_n hx hb dX2_booksThatHold_25 rfl (lv_at hl 1 rfl) ?_
          refine lv_iconst (v := 1) hx hb dX2_booksThatHold_26 (by decide) ?_
          refine lv_iload_n hx hb dX2_booksThatHold_27 rfl (lv_at hl 2 rfl) ?_
          refine lv_bipush (v := 8) hx hb dX2_booksThatHold_28 (by decide) ?_
          refine lv_idiv hx hb dX2_booksThatHold_30 (by decide) ?_
          refine lv_ishl hx hb dX2_booksThatHold_31 ?_
          refine lv_ior hx hb dX2_booksThatHold_32 ?_
          refine lv_istore_n (lv' := [(1, .int (y1 ||| (1 <<< ((y2 / 8) &&& 31)))), (0, .ref (ad k)), (2, .int y2)]) hx hb dX2_booksThatHold_33 rfl hl (by decide) rfl (fun ls hl => ?_)
          refine lv_iinc (v := (y2 + 1)) (lv' := [(2, .int (y2 + 1)), (1, .int (y1 ||| (1 <<< ((y2 / 8) &&& 31)))), (0, .ref (ad k))]) hx hb dX2_booksThatHold_34 hl (k := 2) rfl rfl (by decide) rfl (fun ls hl => ?_)
          refine lv_goto (tgt := 8) hx hb dX2_booksThatHold_37 (by decide) ?_
          exact ih f (y1 ||| (1 <<< ((y2 / 8) &&& 31))) (y2 + 1) _ _ _ hw (lv_sub hl [2, 1, 0] rfl) h
  unfold fX2_booksThatHold at h
  refine lv_aload_n hx hb dX2_booksThatHold_0 rfl (lv_at hl 0 rfl) ?_
  obtain ⟨f1, ef1, h⟩ := b1_s h
  refine h_callV hw (va_runV (As := []) (rest := []) ⟨hx, hb, hml, hown, hts⟩ (mX2_settle l D ac ad S k ro f f1 hS ef1) (cwV 0 hts gX2_booksThatHold_X2_settle rfl rfl rfl (by decide +kernel) ⟨Nat.le_of_ble_eq_true rfl, Nat.le_of_ble_eq_true rfl⟩) (h_preV hK hw hS.1 rfl _) rfl rfl hl.1 rfl (lv_room (Nat.le_of_ble_eq_true rfl)) dX2_booksThatHold_1 ⟨Nat.le_of_ble_eq_true rfl, Nat.le_of_ble_eq_true rfl⟩) (fun H locs hw => ?_)
  refine lv_iconst (v := 0) hx hb dX2_booksThatHold_4 (by decide) ?_
  refine lv_istore_n (lv' := [(1, .int 0), (0, .ref (ad k))]) hx hb dX2_booksThatHold_5 rfl hl (by decide) rfl (fun ls hl => ?_)
  refine lv_iconst (v := 0) hx hb dX2_booksThatHold_6 (by decide) ?_
  refine lv_istore_n (lv' := [(2, .int 0), (1, .int 0), (0, .ref (ad k))]) hx hb dX2_booksThatHold_7 rfl hl (by decide) rfl (fun ls hl => ?_)
  exact J8 _ f1 0 0 _ _ _ hw (lv_sub hl [2, 1, 0] rfl) h

theorem hnX7_look_X7 : ∀ w ∈ wsX70, w ∈ wsX7_look := by decide +kernel
theorem hkX7_look_31 : Cond.fieldLink RX7 31 (TX7 3).1 (TX7 3).2.1 (TX7 3).2.2.1 ∈ wsX7_look := by decide +kernel
set_option maxHeartbeats 8000000 in
set_option maxRecDepth 100000 in
theorem mX7_look (l : Launch) (D : va_G) (ac : Nat → ClassId) (ad : Nat → Nat) (S : List hSh) (f : hF) (x1 : Int32) (rv : Int32) (gv : hF) (hS : isPW S) (h : fX7_look f x1 = some (rv, gv)) : Met l yX7_look wsX7_look ({ frames := 5, cells := 0, slots := 0, locals := 110 }) (hPc D ac ad S f [.ref (ad 0), .int x1]) (hQi D ac ad S rv gv) 0 0 (hAd ad S.length) := by
  refine h_enter (C := RX7) (cc := cX7_look) (maxL := 3) (ret := (some .int)) (lv := [(0, .ref (ad 0)), (1, .int x1)]) (by decide) rfl rfl (Nat.le_of_ble_eq_true rfl) rfl (fun p e s m below meth c ls hx hb hml hr hlocks hown hts hK hw hl => ?_)
  unfold fX7_look at h
  refine lv_iload_n hx hb dX7_look_0 rfl (lv_at hl 1 rfl) ?_
  obtain ⟨r1, er1, h⟩ := b1_s h
  refine h_callR (va_runS (As := [.int x1]) (rest := []) ⟨hx, hb, hml, hown, hts⟩ (mX7_isPart l D ac ad S f x1 r1  er1) (va_cwS 1 hts gX7_look_X7_isPart rfl rfl rfl (by decide +kernel) ⟨Nat.le_of_ble_eq_true rfl, Nat.le_of_ble_eq_true rfl⟩) (h_preS hK hw _) rfl rfl hl.1 rfl (lv_room (Nat.le_of_ble_eq_true rfl)) dX7_look_1 ⟨Nat.le_of_ble_eq_true rfl, Nat.le_of_ble_eq_true rfl⟩) ?_
  refine lv_if_ne (tgt := 9) hx hb dX7_look_4 (by decide) (fun hc2 => ?_) (fun hc2 => ?_)
  · have h := ie hc2 h
    refine lv_aload_n hx hb dX7_look_9 rfl (lv_at hl 0 rfl) ?_
    refine h_getR hx hb hts hnX7_look_X7 hown hK hw hS.1 rfl 3 (by decide) rfl hkX7_look_31 dX7_look_10 ?_
    obtain ⟨r3, f4, ef4, h⟩ := b2_s h
    refine h_callQ hw (va_runV (As := []) (rest := []) ⟨hx, hb, hml, hown, hts⟩ (mX2_booksThatHold l D ac ad S 19 3 f r3 f4 hS.2.2.2.2.1 ef4) (cwV 0 hts gX7_look_X2_booksThatHold rfl rfl rfl (by decide +kernel) ⟨Nat.le_of_ble_eq_true rfl, Nat.le_of_ble_eq_true rfl⟩) (h_preV hK hw hS.2.2.2.2.1.1 rfl _) rfl rfl hl.1 rfl (lv_room (Nat.le_of_ble_eq_true rfl)) dX7_look_13 ⟨Nat.le_of_ble_eq_true rfl, Nat.le_of_ble_eq_true rfl⟩) (fun H locs hw => ?_)
    refine lv_istore_n (lv' := [(2, .int r3), (0, .ref (ad 0)), (1, .int x1)]) hx hb dX7_look_16 rfl hl (by decide) rfl (fun ls hl => ?_)
    refine lv_iload_n hx hb dX7_look_17 rfl (lv_at hl 2 rfl) ?_
    refine lv_if_ne (tgt := 28) hx hb dX7_look_18 (by decide) (fun hc5 => ?_) (fun hc5 => ?_)
    · have h := ie hc5 h
      refine lv_iload_n hx hb dX7_look_28 rfl (lv_at hl 0 rfl) ?_
      exact h_retQ hx hb hr hlocks hw rfl (so2 h) dX7_look_29
    · have h := it hc5 h
      refine lv_iload_n hx hb dX7_look_21 rfl (lv_at hl 0 rfl) ?_
      obtain ⟨r6, er6, h⟩ := b1_s h
      refine h_callR (va_runS (As := [.int r3]) (rest := []) ⟨hx, hb, hml, hown, hts⟩ (mJ6_bitCount_0f7a4 l D ac ad S f4 r3 r6  er6) (va_cwS 1 hts gX7_look_J6_bitCount_0f7a4 rfl rfl rfl (by decide +kernel) ⟨Nat.le_of_ble_eq_true rfl, Nat.le_of_ble_eq_true rfl⟩) (h_preS hK hw _) rfl rfl hl.1 rfl (lv_room (Nat.le_of_ble_eq_true rfl)) dX7_look_22 ⟨Nat.le_of_ble_eq_true rfl, Nat.le_of_ble_eq_true rfl⟩) ?_
      refine lv_goto (tgt := 29) hx hb dX7_look_25 (by decide) ?_
      exact h_retQ hx hb hr hlocks hw rfl (so2 h) dX7_look_29
  · have h := it hc2 h
    refine lv_iconst (v := (-1)) hx hb dX7_look_7 (by decide) ?_
    exact h_retQ hx hb hr hlocks hw rfl (so2 h) dX7_look_8

theorem hnX2_canWedSomewhere_X2 : ∀ w ∈ wsX20, w ∈ wsX2_canWedSomewhere := by decide +kernel
theorem hkX2_canWedSomewhere_31 : Cond.fieldLink RX2 31 (TX2 0).1 (TX2 0).2.1 (TX2 0).2.2.1 ∈ wsX2_canWedSomewhere := by decide +kernel
theorem hnX2_canWedSomewhere_X3 : ∀ w ∈ wsX30, w ∈ wsX2_canWedSomewhere := by decide +kernel
theorem hkX2_canWedSomewhere_157 : Cond.fieldLink RX2 157 (TX3 1).1 (TX3 1).2.1 (TX3 1).2.2.1 ∈ wsX2_canWedSomewhere := by decide +kernel
set_option maxHeartbeats 8000000 in
set_option maxRecDepth 100000 in
theorem mX2_canWedSomewhere (l : Launch) (D : va_G) (ac : Nat → ClassId) (ad : Nat → Nat) (S : List hSh) (k : Nat) (ro : Nat) (f : hF) (x1 : Int32) (x2 : Int32) (rv : Int32) (hS : isHo S k ro) (h : fX2_canWedSomewhere k ro f x1 x2 = some rv) : Met l yX2_canWedSomewhere wsX2_canWedSomewhere ({ frames := 3, cells := 0, slots := 0, locals := 69 }) (hPc D ac ad S f [.ref (ad k), .int x1, .int x2]) (hRi rv) 0 0 hNo := by
  refine h_enter (C := RX2) (cc := cX2_canWedSomewhere) (maxL := 4) (ret := (some .boolean)) (lv := [(0, .ref (ad k)), (1, .int x1), (2, .int x2)]) (by decide) rfl rfl (Nat.le_of_ble_eq_true rfl) rfl (fun p e s m below meth c ls hx hb hml hr hlocks hown hts hK hw hl => ?_)
  have J2 : ∀ (n : Nat), (∀ (y3 : Int32) (ls : Array Slot), lv_has ls 4 [(0, .ref (ad k)), (1, .int x1), (2, .int x2), (3, .int y3)] → fX2_canWedSomewhere_2 k ro f x1 x2 n y3 = some rv → W p l e ({ frames := 3, cells := 0, slots := 0, locals := 69 } : Room) s m ([.ref (ad k), .int x1, .int x2] : List Value).toArray below meth c s.heap [] 0 0 (MQ below (hRi rv) ([.ref (ad k), .int x1, .int x2] : List Value).toArray s 0 0 hNo) (F0 m 2 ls [])) := by
    intro n
    induction n with
    | zero =>
      intro y3 ls hl h
      rw [fX2_canWedSomewhere_2] at h
      cases h
    | succ n ih =>
      intro y3 ls hl h
      rw [fX2_canWedSomewhere_2] at h
      refine lv_iload_n hx hb dX2_canWedSomewhere_2 rfl (lv_at hl 3 rfl) ?_
      refine lv_aload_n hx hb dX2_canWedSomewhere_3 rfl (lv_at hl 0 rfl) ?_
      refine h_getR hx hb hts hnX2_canWedSomewhere_X2 hown hK hw hS.1 rfl 0 (by decide) rfl hkX2_canWedSomewhere_31 dX2_canWedSomewhere_4 ?_
      refine h_getI hx hb hts hnX2_canWedSomewhere_X3 hown hK hw hS.2.2.1.1 rfl 1 (by decide) rfl hkX2_canWedSomewhere_157 dX2_canWedSomewhere_7 ?_
      refine lv_icmp_ge (tgt := 31) hx hb dX2_canWedSomewhere_10 (by decide) (fun hc1 => ?_) (fun hc1 => ?_)
      · have h := it hc1 h
        refine lv_iconst (v := 0) hx hb dX2_canWedSomewhere_31 (by decide) ?_
        exact h_retR hx hb hr hlocks rfl (so1 h) dX2_canWedSomewhere_32
      · have h := ie hc1 h
        refine lv_aload_n hx hb dX2_canWedSomewhere_13 rfl (lv_at hl 0 rfl) ?_
        refine lv_iload_n hx hb dX2_canWedSomewhere_14 rfl (lv_at hl 3 rfl) ?_
        refine lv_iload_n hx hb dX2_canWedSomewhere_15 rfl (lv_at hl 1 rfl) ?_
        refine lv_iload_n hx hb dX2_canWedSomewhere_16 rfl (lv_at hl 2 rfl) ?_
        obtain ⟨r2, er2, h⟩ := b1_s h
        refine h_callR (va_runV (As := [.int y3, .int x1, .int x2]) (rest := []) ⟨hx, hb, hml, hown, hts⟩ (mX2_refuseWedding l D ac ad S k ro f y3 x1 x2 r2 hS er2) (cwV 3 hts gX2_canWedSomewhere_X2_refuseWedding rfl rfl rfl (by decide +kernel) ⟨Nat.le_of_ble_eq_true rfl, Nat.le_of_ble_eq_true rfl⟩) (h_preV hK hw hS.1 rfl _) rfl rfl hl.1 rfl (lv_room (Nat.le_of_ble_eq_true rfl)) dX2_canWedSomewhere_17 ⟨Nat.le_of_ble_eq_true rfl, Nat.le_of_ble_eq_true rfl⟩) ?_
        refine lv_if_ne (tgt := 25) hx hb dX2_canWedSomewhere_20 (by decide) (fun hc3 => ?_) (fun hc3 => ?_)
        · have h := ie hc3 h
          refine lv_iinc (v := (y3 + 1)) (lv' := [(3, .int (y3 + 1)), (0, .ref (ad k)), (1, .int x1), (2, .int x2)]) hx hb dX2_canWedSomewhere_25 hl (k := 3) rfl rfl (by decide) rfl (fun ls hl => ?_)
          refine lv_goto (tgt := 2) hx hb dX2_canWedSomewhere_28 (by decide) ?_
          exact ih (y3 + 1) _ (lv_sub hl [1, 2, 3, 0] rfl) h
        · have h := it hc3 h
          refine lv_iconst (v := 1) hx hb dX2_canWedSomewhere_23 (by decide) ?_
          exact h_retR hx hb hr hlocks rfl (so1 h) dX2_canWedSomewhere_24
  unfold fX2_canWedSomewhere at h
  refine lv_iconst (v := 0) hx hb dX2_canWedSomewhere_0 (by decide) ?_
  refine lv_istore_n (lv' := [(3, .int 0), (0, .ref (ad k)), (1, .int x1), (2, .int x2)]) hx hb dX2_canWedSomewhere_1 rfl hl (by decide) rfl (fun ls hl => ?_)
  exact J2 _ 0 _ (lv_sub hl [1, 2, 3, 0] rfl) h

theorem hnX7_can_X7 : ∀ w ∈ wsX70, w ∈ wsX7_can := by decide +kernel
theorem hkX7_can_19 : Cond.fieldLink RX7 19 (TX7 1).1 (TX7 1).2.1 (TX7 1).2.2.1 ∈ wsX7_can := by decide +kernel
theorem hnX7_can_X3 : ∀ w ∈ wsX30, w ∈ wsX7_can := by decide +kernel
theorem hkX7_can_83 : Cond.fieldLink RX7 83 (TX3 0).1 (TX3 0).2.1 (TX3 0).2.2.1 ∈ wsX7_can := by decide +kernel
theorem hkX7_can_31 : Cond.fieldLink RX7 31 (TX7 3).1 (TX7 3).2.1 (TX7 3).2.2.1 ∈ wsX7_can := by decide +kernel
set_option maxHeartbeats 8000000 in
set_option maxRecDepth 100000 in
theorem mX7_can (l : Launch) (D : va_G) (ac : Nat → ClassId) (ad : Nat → Nat) (S : List hSh) (f : hF) (x1 : Int32) (rv : Int32) (hS : isPW S) (h : fX7_can f x1 = some rv) : Met l yX7_can wsX7_can ({ frames := 4, cells := 0, slots := 0, locals := 92 }) (hPc D ac ad S f [.ref (ad 0), .int x1]) (hRi rv) 0 0 hNo := by
  refine h_enter (C := RX7) (cc := cX7_can) (maxL := 4) (ret := (some .int)) (lv := [(0, .ref (ad 0)), (1, .int x1)]) (by decide) rfl rfl (Nat.le_of_ble_eq_true rfl) rfl (fun p e s m below meth c ls hx hb hml hr hlocks hown hts hK hw hl => ?_)
  have J17 : ∀ (n : Nat), (∀ (y2 : Int32) (y3 : Int32) (ls : Array Slot), lv_has ls 4 [(0, .ref (ad 0)), (1, .int x1), (2, .int y2), (3, .int y3)] → fX7_can_17 f x1 n y2 y3 = some rv → W p l e ({ frames := 4, cells := 0, slots := 0, locals := 92 } : Room) s m ([.ref (ad 0), .int x1] : List Value).toArray below meth c s.heap [] 0 0 (MQ below (hRi rv) ([.ref (ad 0), .int x1] : List Value).toArray s 0 0 hNo) (F0 m 17 ls [])) := by
    intro n
    induction n with
    | zero =>
      intro y2 y3 ls hl h
      rw [fX7_can_17] at h
      cases h
    | succ n ih =>
      intro y2 y3 ls hl h
      rw [fX7_can_17] at h
      refine lv_iload_n hx hb dX7_can_17 rfl (lv_at hl 3 rfl) ?_
      refine lv_aload_n hx hb dX7_can_18 rfl (lv_at hl 0 rfl) ?_
      refine h_getR hx hb hts hnX7_can_X7 hown hK hw hS.1 rfl 1 (by decide) rfl hkX7_can_19 dX7_can_19 ?_
      refine h_getI hx hb hts hnX7_can_X3 hown hK hw hS.2.2.1.1 rfl 0 (by decide) rfl hkX7_can_83 dX7_can_22 ?_
      refine lv_icmp_ge (tgt := 52) hx hb dX7_can_25 (by decide) (fun hc1 => ?_) (fun hc1 => ?_)
      · have h := it hc1 h
        refine lv_iload_n hx hb dX7_can_52 rfl (lv_at hl 2 rfl) ?_
        exact h_retR hx hb hr hlocks rfl (so1 h) dX7_can_53
      · have h := ie hc1 h
        refine lv_aload_n hx hb dX7_can_28 rfl (lv_at hl 0 rfl) ?_
        refine h_getR hx hb hts hnX7_can_X7 hown hK hw hS.1 rfl 3 (by decide) rfl hkX7_can_31 dX7_can_29 ?_
        refine lv_iload_n hx hb dX7_can_32 rfl (lv_at hl 1 rfl) ?_
        refine lv_iload_n hx hb dX7_can_33 rfl (lv_at hl 3 rfl) ?_
        obtain ⟨r2, er2, h⟩ := b1_s h
        refine h_callR (va_runV (As := [.int x1, .int y3]) (rest := []) ⟨hx, hb, hml, hown, hts⟩ (mX2_canWedSomewhere l D ac ad S 19 3 f x1 y3 r2 hS.2.2.2.2.1 er2) (cwV 2 hts gX7_can_X2_canWedSomewhere rfl rfl rfl (by decide +kernel) ⟨Nat.le_of_ble_eq_true rfl, Nat.le_of_ble_eq_true rfl⟩) (h_preV hK hw hS.2.2.2.2.1.1 rfl _) rfl rfl hl.1 rfl (lv_room (Nat.le_of_ble_eq_true rfl)) dX7_can_34 ⟨Nat.le_of_ble_eq_true rfl, Nat.le_of_ble_eq_true rfl⟩) ?_
        refine lv_if_eq (tgt := 46) hx hb dX7_can_37 (by decide) (fun hc3 => ?_) (fun hc3 => ?_)
        · have h := it hc3 h
          refine lv_iinc (v := (y3 + 1)) (lv' := [(3, .int (y3 + 1)), (0, .ref (ad 0)), (1, .int x1), (2, .int y2)]) hx hb dX7_can_46 hl (k := 3) rfl rfl (by decide) rfl (fun ls hl => ?_)
          refine lv_goto (tgt := 17) hx hb dX7_can_49 (by decide) ?_
          exact ih y2 (y3 + 1) _ (lv_sub hl [1, 2, 3, 0] rfl) h
        · have h := ie hc3 h
          refine lv_iload_n hx hb dX7_can_40 rfl (lv_at hl 2 rfl) ?_
          refine lv_iconst (v := 1) hx hb dX7_can_41 (by decide) ?_
          refine lv_iload_n hx hb dX7_can_42 rfl (lv_at hl 3 rfl) ?_
          refine lv_ishl hx hb dX7_can_43 ?_
          refine lv_ior hx hb dX7_can_44 ?_
          refine lv_istore_n (lv' := [(2, .int (y2 ||| (1 <<< (y3 &&& 31)))), (0, .ref (ad 0)), (1, .int x1), (3, .int y3)]) hx hb dX7_can_45 rfl hl (by decide) rfl (fun ls hl => ?_)
          refine lv_iinc (v := (y3 + 1)) (lv' := [(3, .int (y3 + 1)), (2, .int (y2 ||| (1 <<< (y3 &&& 31)))), (0, .ref (ad 0)), (1, .int x1)]) hx hb dX7_can_46 hl (k := 3) rfl rfl (by decide) rfl (fun ls hl => ?_)
          refine lv_goto (tgt := 17) hx hb dX7_can_49 (by decide) ?_
          exact ih (y2 ||| (1 <<< (y3 &&& 31))) (y3 + 1) _ (lv_sub hl [2, 3, 1, 0] rfl) h
  unfold fX7_can at h
  refine lv_aload_n hx hb dX7_can_0 rfl (lv_at hl 0 rfl) ?_
  refine h_getR hx hb hts hnX7_can_X7 hown hK hw hS.1 rfl 1 (by decide) rfl hkX7_can_19 dX7_can_1 ?_
  refine lv_iload_n hx hb dX7_can_4 rfl (lv_at hl 1 rfl) ?_
  obtain ⟨r1, er1, h⟩ := b1_s h
  refine h_callR (va_runV (As := [.int x1]) (rest := []) ⟨hx, hb, hml, hown, hts⟩ (mX3_isPerson l D ac ad S 3 f x1 r1 hS.2.2.1 er1) (cwV 1 hts gX7_can_X3_isPerson rfl rfl rfl (by decide +kernel) ⟨Nat.le_of_ble_eq_true rfl, Nat.le_of_ble_eq_true rfl⟩) (h_preV hK hw hS.2.2.1.1 rfl _) rfl rfl hl.1 rfl (lv_room (Nat.le_of_ble_eq_true rfl)) dX7_can_5 ⟨Nat.le_of_ble_eq_true rfl, Nat.le_of_ble_eq_true rfl⟩) ?_
  refine lv_if_ne (tgt := 13) hx hb dX7_can_8 (by decide) (fun hc2 => ?_) (fun hc2 => ?_)
  · have h := ie hc2 h
    refine lv_iconst (v := 0) hx hb dX7_can_13 (by decide) ?_
    refine lv_istore_n (lv' := [(2, .int 0), (0, .ref (ad 0)), (1, .int x1)]) hx hb dX7_can_14 rfl hl (by decide) rfl (fun ls hl => ?_)
    refine lv_iconst (v := 0) hx hb dX7_can_15 (by decide) ?_
    refine lv_istore_n (lv' := [(3, .int 0), (2, .int 0), (0, .ref (ad 0)), (1, .int x1)]) hx hb dX7_can_16 rfl hl (by decide) rfl (fun ls hl => ?_)
    exact J17 _ 0 0 _ (lv_sub hl [2, 3, 1, 0] rfl) h
  · have h := it hc2 h
    refine lv_iconst (v := (-1)) hx hb dX7_can_11 (by decide) ?_
    exact h_retR hx hb hr hlocks rfl (so1 h) dX7_can_12

theorem hnX6_add_X6 : ∀ w ∈ wsX60, w ∈ wsX6_add := by decide +kernel
theorem hkX6_add_25 : Cond.fieldLink RX6 25 (TX6 0).1 (TX6 0).2.1 (TX6 0).2.2.1 ∈ wsX6_add := by decide +kernel
theorem hkX6_add_9 : Cond.fieldLink RX6 9 (TX6 1).1 (TX6 1).2.1 (TX6 1).2.2.1 ∈ wsX6_add := by decide +kernel
theorem hkX6_add_15 : Cond.fieldLink RX6 15 (TX6 2).1 (TX6 2).2.1 (TX6 2).2.2.1 ∈ wsX6_add := by decide +kernel
theorem hkX6_add_18 : Cond.fieldLink RX6 18 (TX6 3).1 (TX6 3).2.1 (TX6 3).2.2.1 ∈ wsX6_add := by decide +kernel
theorem hkX6_add_21 : Cond.fieldLink RX6 21 (TX6 4).1 (TX6 4).2.1 (TX6 4).2.2.1 ∈ wsX6_add := by decide +kernel
set_option maxHeartbeats 8000000 in
set_option maxRecDepth 100000 in
theorem mX6_add (l : Launch) (D : va_G) (ac : Nat → ClassId) (ad : Nat → Nat) (S : List hSh) (k : Nat) (f : hF) (x1 : Int32) (x2 : Int32) (x3 : Int32) (x4 : Int32) (rv : Int32) (gv : hF) (hS : isSi S k) (h : fX6_add k f x1 x2 x3 x4 = some (rv, gv)) : Met l yX6_add wsX6_add ({ frames := 0, cells := 0, slots := 0, locals := 0 }) (hPc D ac ad S f [.ref (ad k), .int x1, .int x2, .int x3, .int x4]) (hQi D ac ad S rv gv) 0 0 (hAd ad S.length) := by
  refine h_enter (C := RX6) (cc := cX6_add) (maxL := 5) (ret := (some .boolean)) (lv := [(0, .ref (ad k)), (1, .int x1), (2, .int x2), (3, .int x3), (4, .int x4)]) (by decide) rfl rfl (Nat.le_of_ble_eq_true rfl) rfl (fun p e s m below meth c ls hx hb hml hr hlocks hown hts hK hw hl => ?_)
  unfold fX6_add at h
  refine lv_aload_n hx hb dX6_add_0 rfl (lv_at hl 0 rfl) ?_
  refine h_getI hx hb hts hnX6_add_X6 hown hK hw hS.1 rfl 0 (by decide) rfl hkX6_add_25 dX6_add_1 ?_
  refine lv_if_lt (tgt := 16) hx hb dX6_add_4 (by decide) (fun hc1 => ?_) (fun hc1 => ?_)
  · have h := it hc1 h
    refine lv_iconst (v := 0) hx hb dX6_add_16 (by decide) ?_
    exact h_retQ hx hb hr hlocks hw rfl (so2 h) dX6_add_17
  · have h := ie hc1 h
    refine lv_aload_n hx hb dX6_add_7 rfl (lv_at hl 0 rfl) ?_
    refine h_getI hx hb hts hnX6_add_X6 hown hK hw hS.1 rfl 0 (by decide) rfl hkX6_add_25 dX6_add_8 ?_
    refine lv_bipush (v := 6) hx hb dX6_add_11 (by decide) ?_
    refine lv_icmp_lt (tgt := 18) hx hb dX6_add_13 (by decide) (fun hc2 => ?_) (fun hc2 => ?_)
    · have h := it hc2 h
      refine lv_aload_n hx hb dX6_add_18 rfl (lv_at hl 0 rfl) ?_
      refine h_getR hx hb hts hnX6_add_X6 hown hK hw hS.1 rfl 1 (by decide) rfl hkX6_add_9 dX6_add_19 ?_
      refine lv_aload_n hx hb dX6_add_22 rfl (lv_at hl 0 rfl) ?_
      refine h_getI hx hb hts hnX6_add_X6 hown hK hw hS.1 rfl 0 (by decide) rfl hkX6_add_25 dX6_add_23 ?_
      refine lv_iload_n hx hb dX6_add_26 rfl (lv_at hl 1 rfl) ?_
      obtain ⟨hi3, h⟩ := gd_s h
      obtain ⟨f4, ef4, h⟩ := lt_s2 h
      refine h_iast (g := f4) ef4 hx hb hK hw hS.2.1 hi3 dX6_add_27 (fun H locs hw => ?_)
      refine lv_aload_n hx hb dX6_add_28 rfl (lv_at hl 0 rfl) ?_
      refine h_getR hx hb hts hnX6_add_X6 hown hK hw hS.1 rfl 2 (by decide) rfl hkX6_add_15 dX6_add_29 ?_
      refine lv_aload_n hx hb dX6_add_32 rfl (lv_at hl 0 rfl) ?_
      refine h_getI hx hb hts hnX6_add_X6 hown hK hw hS.1 rfl 0 (by decide) rfl hkX6_add_25 dX6_add_33 ?_
      refine lv_iload_n hx hb dX6_add_36 rfl (lv_at hl 2 rfl) ?_
      obtain ⟨hi5, h⟩ := gd_s h
      obtain ⟨f6, ef6, h⟩ := lt_s2 h
      refine h_iast (g := f6) ef6 hx hb hK hw hS.2.2.1 hi5 dX6_add_37 (fun H locs hw => ?_)
      refine lv_aload_n hx hb dX6_add_38 rfl (lv_at hl 0 rfl) ?_
      refine h_getR hx hb hts hnX6_add_X6 hown hK hw hS.1 rfl 3 (by decide) rfl hkX6_add_18 dX6_add_39 ?_
      refine lv_aload_n hx hb dX6_add_42 rfl (lv_at hl 0 rfl) ?_
      refine h_getI hx hb hts hnX6_add_X6 hown hK hw hS.1 rfl 0 (by decide) rfl hkX6_add_25 dX6_add_43 ?_
      refine lv_iload_n hx hb dX6_add_46 rfl (lv_at hl 3 rfl) ?_
      obtain ⟨hi7, h⟩ := gd_s h
      obtain ⟨f8, ef8, h⟩ := lt_s2 h
      refine h_iast (g := f8) ef8 hx hb hK hw hS.2.2.2.1 hi7 dX6_add_47 (fun H locs hw => ?_)
      refine lv_aload_n hx hb dX6_add_48 rfl (lv_at hl 0 rfl) ?_
      refine h_getR hx hb hts hnX6_add_X6 hown hK hw hS.1 rfl 4 (by decide) rfl hkX6_add_21 dX6_add_49 ?_
      refine lv_aload_n hx hb dX6_add_52 rfl (lv_at hl 0 rfl) ?_
      refine h_getI hx hb hts hnX6_add_X6 hown hK hw hS.1 rfl 0 (by decide) rfl hkX6_add_25 dX6_add_53 ?_
      refine lv_iload hx hb dX6_add_56 (lv_at hl 4 rfl) ?_
      obtain ⟨hi9, h⟩ := gd_s h
      obtain ⟨f10, ef10, h⟩ := lt_s2 h
      refine h_zast (g := f10) ef10 hx hb hK hw hS.2.2.2.2 hi9 dX6_add_58 (fun H locs hw => ?_)
      refine lv_aload_n hx hb dX6_add_59 rfl (lv_at hl 0 rfl) ?_
      refine lv_dup hx hb dX6_add_60 rfl ?_
      refine h_getI hx hb hts hnX6_add_X6 hown hK hw hS.1 rfl 0 (by decide) rfl hkX6_add_25 dX6_add_61 ?_
      refine lv_iconst (v := 1) hx hb dX6_add_64 (by decide) ?_
      refine lv_iadd hx hb dX6_add_65 ?_
      obtain ⟨f11, ef11, h⟩ := lt_s2 h
      refine h_putI (g := f11) ef11 hx hb hts hnX6_add_X6 tyX6 tyX6_ok nmX6 hown hK hw hS.1 rfl 0 rfl (by decide) rfl hkX6_add_25 rfl (by decide +kernel) dX6_add_66 (fun H locs hw => ?_)
      refine lv_iconst (v := 1) hx hb dX6_add_69 (by decide) ?_
      exact h_retQ hx hb hr hlocks hw rfl (so2 h) dX6_add_70
    · have h := ie hc2 h
      refine lv_iconst (v := 0) hx hb dX6_add_16 (by decide) ?_
      exact h_retQ hx hb hr hlocks hw rfl (so2 h) dX6_add_17

theorem hnX7_see_X7 : ∀ w ∈ wsX70, w ∈ wsX7_see := by decide +kernel
theorem hkX7_see_19 : Cond.fieldLink RX7 19 (TX7 1).1 (TX7 1).2.1 (TX7 1).2.2.1 ∈ wsX7_see := by decide +kernel
theorem hkX7_see_41 : Cond.fieldLink RX7 41 (TX7 5).1 (TX7 5).2.1 (TX7 5).2.2.1 ∈ wsX7_see := by decide +kernel
theorem hnX7_see_X6 : ∀ w ∈ wsX60, w ∈ wsX7_see := by decide +kernel
theorem hkX7_see_89 : Cond.fieldLink RX7 89 (TX6 0).1 (TX6 0).2.1 (TX6 0).2.2.1 ∈ wsX7_see := by decide +kernel
set_option maxHeartbeats 8000000 in
set_option maxRecDepth 100000 in
theorem mX7_see (l : Launch) (D : va_G) (ac : Nat → ClassId) (ad : Nat → Nat) (S : List hSh) (f : hF) (x1 : Int32) (x2 : Int32) (x3 : Int32) (x4 : Int32) (rv : Int32) (gv : hF) (hS : isPW S) (h : fX7_see f x1 x2 x3 x4 = some (rv, gv)) : Met l yX7_see wsX7_see ({ frames := 1, cells := 0, slots := 0, locals := 24 }) (hPc D ac ad S f [.ref (ad 0), .int x1, .int x2, .int x3, .int x4]) (hQi D ac ad S rv gv) 0 0 (hAd ad S.length) := by
  refine h_enter (C := RX7) (cc := cX7_see) (maxL := 5) (ret := (some .int)) (lv := [(0, .ref (ad 0)), (1, .int x1), (2, .int x2), (3, .int x3), (4, .int x4)]) (by decide) rfl rfl (Nat.le_of_ble_eq_true rfl) rfl (fun p e s m below meth c ls hx hb hml hr hlocks hown hts hK hw hl => ?_)
  unfold fX7_see at h
  refine lv_aload_n hx hb dX7_see_0 rfl (lv_at hl 0 rfl) ?_
  refine h_getR hx hb hts hnX7_see_X7 hown hK hw hS.1 rfl 1 (by decide) rfl hkX7_see_19 dX7_see_1 ?_
  refine lv_iload_n hx hb dX7_see_4 rfl (lv_at hl 1 rfl) ?_
  refine lv_iload_n hx hb dX7_see_5 rfl (lv_at hl 2 rfl) ?_
  obtain ⟨r1, er1, h⟩ := b1_s h
  refine h_callR (va_runV (As := [.int x1, .int x2]) (rest := []) ⟨hx, hb, hml, hown, hts⟩ (mX3_areTwo l D ac ad S 3 f x1 x2 r1 hS.2.2.1 er1) (cwV 2 hts gX7_see_X3_areTwo rfl rfl rfl (by decide +kernel) ⟨Nat.le_of_ble_eq_true rfl, Nat.le_of_ble_eq_true rfl⟩) (h_preV hK hw hS.2.2.1.1 rfl _) rfl rfl hl.1 rfl (lv_room (Nat.le_of_ble_eq_true rfl)) dX7_see_6 ⟨Nat.le_of_ble_eq_true rfl, Nat.le_of_ble_eq_true rfl⟩) ?_
  refine lv_if_eq (tgt := 22) hx hb dX7_see_9 (by decide) (fun hc2 => ?_) (fun hc2 => ?_)
  · have h := it hc2 h
    refine lv_iconst (v := (-1)) hx hb dX7_see_22 (by decide) ?_
    exact h_retQ hx hb hr hlocks hw rfl (so2 h) dX7_see_23
  · have h := ie hc2 h
    refine lv_iload_n hx hb dX7_see_12 rfl (lv_at hl 3 rfl) ?_
    refine lv_if_lt (tgt := 22) hx hb dX7_see_13 (by decide) (fun hc3 => ?_) (fun hc3 => ?_)
    · have h := it hc3 h
      refine lv_iconst (v := (-1)) hx hb dX7_see_22 (by decide) ?_
      exact h_retQ hx hb hr hlocks hw rfl (so2 h) dX7_see_23
    · have h := ie hc3 h
      refine lv_iload_n hx hb dX7_see_16 rfl (lv_at hl 3 rfl) ?_
      refine lv_bipush (v := 99) hx hb dX7_see_17 (by decide) ?_
      refine lv_icmp_le (tgt := 24) hx hb dX7_see_19 (by decide) (fun hc4 => ?_) (fun hc4 => ?_)
      · have h := it hc4 h
        refine lv_aload_n hx hb dX7_see_24 rfl (lv_at hl 0 rfl) ?_
        refine h_getR hx hb hts hnX7_see_X7 hown hK hw hS.1 rfl 5 (by decide) rfl hkX7_see_41 dX7_see_25 ?_
        refine lv_iload_n hx hb dX7_see_28 rfl (lv_at hl 1 rfl) ?_
        refine lv_iload_n hx hb dX7_see_29 rfl (lv_at hl 2 rfl) ?_
        refine lv_iload_n hx hb dX7_see_30 rfl (lv_at hl 3 rfl) ?_
        refine lv_iload hx hb dX7_see_31 (lv_at hl 4 rfl) ?_
        obtain ⟨r5, f6, ef6, h⟩ := b2_s h
        refine h_callQ hw (va_runV (As := [.int x1, .int x2, .int x3, .int x4]) (rest := []) ⟨hx, hb, hml, hown, hts⟩ (mX6_add l D ac ad S 47 f x1 x2 x3 x4 r5 f6 hS.2.2.2.2.2.2.1 ef6) (cwV 4 hts gX7_see_X6_add rfl rfl rfl (by decide +kernel) ⟨Nat.le_of_ble_eq_true rfl, Nat.le_of_ble_eq_true rfl⟩) (h_preV hK hw hS.2.2.2.2.2.2.1.1 rfl _) rfl rfl hl.1 rfl (lv_room (Nat.le_of_ble_eq_true rfl)) dX7_see_33 ⟨Nat.le_of_ble_eq_true rfl, Nat.le_of_ble_eq_true rfl⟩) (fun H locs hw => ?_)
        refine lv_if_eq (tgt := 49) hx hb dX7_see_36 (by decide) (fun hc7 => ?_) (fun hc7 => ?_)
        · have h := it hc7 h
          refine lv_bipush (v := (-3)) hx hb dX7_see_49 (by decide) ?_
          exact h_retQ hx hb hr hlocks hw rfl (so2 h) dX7_see_51
        · have h := ie hc7 h
          refine lv_aload_n hx hb dX7_see_39 rfl (lv_at hl 0 rfl) ?_
          refine h_getR hx hb hts hnX7_see_X7 hown hK hw hS.1 rfl 5 (by decide) rfl hkX7_see_41 dX7_see_40 ?_
          refine h_getI hx hb hts hnX7_see_X6 hown hK hw hS.2.2.2.2.2.2.1.1 rfl 0 (by decide) rfl hkX7_see_89 dX7_see_43 ?_
          refine lv_goto (tgt := 51) hx hb dX7_see_46 (by decide) ?_
          exact h_retQ hx hb hr hlocks hw rfl (so2 h) dX7_see_51
      · have h := ie hc4 h
        refine lv_iconst (v := (-1)) hx hb dX7_see_22 (by decide) ?_
        exact h_retQ hx hb hr hlocks hw rfl (so2 h) dX7_see_23

theorem hnX7_forget_X7 : ∀ w ∈ wsX70, w ∈ wsX7_forget := by decide +kernel
theorem hkX7_forget_41 : Cond.fieldLink RX7 41 (TX7 5).1 (TX7 5).2.1 (TX7 5).2.2.1 ∈ wsX7_forget := by decide +kernel
theorem hnX7_forget_X6 : ∀ w ∈ wsX60, w ∈ wsX7_forget := by decide +kernel
theorem hkX7_forget_89 : Cond.fieldLink RX7 89 (TX6 0).1 (TX6 0).2.1 (TX6 0).2.2.1 ∈ wsX7_forget := by decide +kernel
set_option maxHeartbeats 8000000 in
set_option maxRecDepth 100000 in
theorem mX7_forget (l : Launch) (D : va_G) (ac : Nat → ClassId) (ad : Nat → Nat) (S : List hSh) (f : hF) (rv : Int32) (gv : hF) (hS : isPW S) (h : fX7_forget f = some (rv, gv)) : Met l yX7_forget wsX7_forget ({ frames := 0, cells := 0, slots := 0, locals := 0 }) (hPc D ac ad S f [.ref (ad 0)]) (hQi D ac ad S rv gv) 0 0 (hAd ad S.length) := by
  refine h_enter (C := RX7) (cc := cX7_forget) (maxL := 2) (ret := (some .int)) (lv := [(0, .ref (ad 0))]) (by decide) rfl rfl (Nat.le_of_ble_eq_true rfl) rfl (fun p e s m below meth c ls hx hb hml hr hlocks hown hts hK hw hl => ?_)
  unfold fX7_forget at h
  refine lv_aload_n hx hb dX7_forget_0 rfl (lv_at hl 0 rfl) ?_
  refine h_getR hx hb hts hnX7_forget_X7 hown hK hw hS.1 rfl 5 (by decide) rfl hkX7_forget_41 dX7_forget_1 ?_
  refine h_getI hx hb hts hnX7_forget_X6 hown hK hw hS.2.2.2.2.2.2.1.1 rfl 0 (by decide) rfl hkX7_forget_89 dX7_forget_4 ?_
  refine lv_istore_n (lv' := [(1, .int (f 47 0)), (0, .ref (ad 0))]) hx hb dX7_forget_7 rfl hl (by decide) rfl (fun ls hl => ?_)
  refine lv_aload_n hx hb dX7_forget_8 rfl (lv_at hl 1 rfl) ?_
  refine h_getR hx hb hts hnX7_forget_X7 hown hK hw hS.1 rfl 5 (by decide) rfl hkX7_forget_41 dX7_forget_9 ?_
  refine lv_iconst (v := 0) hx hb dX7_forget_12 (by decide) ?_
  obtain ⟨f1, ef1, h⟩ := lt_s2 h
  refine h_putI (g := f1) ef1 hx hb hts hnX7_forget_X6 tyX6 tyX6_ok nmX6 hown hK hw hS.2.2.2.2.2.2.1.1 rfl 0 rfl (by decide) rfl hkX7_forget_89 rfl (by decide +kernel) dX7_forget_13 (fun H locs hw => ?_)
  refine lv_iload_n hx hb dX7_forget_16 rfl (lv_at hl 0 rfl) ?_
  exact h_retQ hx hb hr hlocks hw rfl (so2 h) dX7_forget_17

theorem hnX6_areSo_X6 : ∀ w ∈ wsX60, w ∈ wsX6_areSo := by decide +kernel
theorem hkX6_areSo_21 : Cond.fieldLink RX6 21 (TX6 4).1 (TX6 4).2.1 (TX6 4).2.2.1 ∈ wsX6_areSo := by decide +kernel
theorem hkX6_areSo_25 : Cond.fieldLink RX6 25 (TX6 0).1 (TX6 0).2.1 (TX6 0).2.2.1 ∈ wsX6_areSo := by decide +kernel
theorem hkX6_areSo_9 : Cond.fieldLink RX6 9 (TX6 1).1 (TX6 1).2.1 (TX6 1).2.2.1 ∈ wsX6_areSo := by decide +kernel
theorem hkX6_areSo_18 : Cond.fieldLink RX6 18 (TX6 3).1 (TX6 3).2.1 (TX6 3).2.2.1 ∈ wsX6_areSo := by decide +kernel
theorem hkX6_areSo_15 : Cond.fieldLink RX6 15 (TX6 2).1 (TX6 2).2.1 (TX6 2).2.2.1 ∈ wsX6_areSo := by decide +kernel
set_option maxHeartbeats 8000000 in
set_option maxRecDepth 100000 in
theorem mX6_areSo (l : Launch) (D : va_G) (ac : Nat → ClassId) (ad : Nat → Nat) (S : List hSh) (k : Nat) (o1 : Nat) (ob1 : Nat) (f : hF) (rv : Int32) (hS : isSi S k) (hA1 : isHd S o1 ob1) (h : fX6_areSo k o1 ob1 f = some rv) : Met l yX6_areSo wsX6_areSo ({ frames := 3, cells := 0, slots := 0, locals := 65 }) (hPc D ac ad S f [.ref (ad k), .ref (ad o1)]) (hRi rv) 0 0 hNo := by
  refine h_enter (C := RX6) (cc := cX6_areSo) (maxL := 3) (ret := (some .boolean)) (lv := [(0, .ref (ad k)), (1, .ref (ad o1))]) (by decide) rfl rfl (Nat.le_of_ble_eq_true rfl) rfl (fun p e s m below meth c ls hx hb hml hr hlocks hown hts hK hw hl => ?_)
  have J46 : ∀ (q2 : Int32 → Option Int32) (hq2 : (∀ (y2 : Int32) (ls : Array Slot), lv_has ls 3 [(0, .ref (ad k)), (1, .ref (ad o1)), (2, .int y2)] → q2 y2 = some rv → W p l e ({ frames := 3, cells := 0, slots := 0, locals := 65 } : Room) s m ([.ref (ad k), .ref (ad o1)] : List Value).toArray below meth c s.heap [] 0 0 (MQ below (hRi rv) ([.ref (ad k), .ref (ad o1)] : List Value).toArray s 0 0 hNo) (F0 m 2 ls []))), (∀ (y2 : Int32) (s0 : Int32) (ls : Array Slot), lv_has ls 3 [(0, .ref (ad k)), (1, .ref (ad o1)), (2, .int y2)] → fX6_areSo_46 k o1 ob1 f q2 y2 s0 = some rv → W p l e ({ frames := 3, cells := 0, slots := 0, locals := 65 } : Room) s m ([.ref (ad k), .ref (ad o1)] : List Value).toArray below meth c s.heap [] 0 0 (MQ below (hRi rv) ([.ref (ad k), .ref (ad o1)] : List Value).toArray s 0 0 hNo) (F0 m 46 ls [.int s0])) := by
    intro q2 hq2 y2 s0 ls hl h
    unfold fX6_areSo_46 at h
    refine lv_aload_n hx hb dX6_areSo_46 rfl (lv_at hl 0 rfl) ?_
    refine h_getR hx hb hts hnX6_areSo_X6 hown hK hw hS.1 rfl 4 (by decide) rfl hkX6_areSo_21 dX6_areSo_47 ?_
    refine lv_iload_n hx hb dX6_areSo_50 rfl (lv_at hl 2 rfl) ?_
    obtain ⟨hi1, h⟩ := gd_s h
    refine h_zald hx hb hK hw hS.2.2.2.2 hi1 dX6_areSo_51 ?_
    refine lv_icmp_eq (tgt := 57) hx hb dX6_areSo_52 (by decide) (fun hc2 => ?_) (fun hc2 => ?_)
    · have h := it hc2 h
      refine lv_iinc (v := (y2 + 1)) (lv' := [(2, .int (y2 + 1)), (0, .ref (ad k)), (1, .ref (ad o1))]) hx hb dX6_areSo_57 hl (k := 2) rfl rfl (by decide) rfl (fun ls hl => ?_)
      refine lv_goto (tgt := 2) hx hb dX6_areSo_60 (by decide) ?_
      exact hq2 (y2 + 1) _ (lv_sub hl [1, 2, 0] rfl) h
    · have h := ie hc2 h
      refine lv_iconst (v := 0) hx hb dX6_areSo_55 (by decide) ?_
      exact h_retR hx hb hr hlocks rfl (so1 h) dX6_areSo_56
  have J2 : ∀ (n : Nat), (∀ (y2 : Int32) (ls : Array Slot), lv_has ls 3 [(0, .ref (ad k)), (1, .ref (ad o1)), (2, .int y2)] → fX6_areSo_2 k o1 ob1 f n y2 = some rv → W p l e ({ frames := 3, cells := 0, slots := 0, locals := 65 } : Room) s m ([.ref (ad k), .ref (ad o1)] : List Value).toArray below meth c s.heap [] 0 0 (MQ below (hRi rv) ([.ref (ad k), .ref (ad o1)] : List Value).toArray s 0 0 hNo) (F0 m 2 ls [])) := by
    intro n
    induction n with
    | zero =>
      intro y2 ls hl h
      rw [fX6_areSo_2] at h
      cases h
    | succ n ih =>
      intro y2 ls hl h
      rw [fX6_areSo_2] at h
      refine lv_iload_n hx hb dX6_areSo_2 rfl (lv_at hl 2 rfl) ?_
      refine lv_bipush (v := 6) hx hb dX6_areSo_3 (by decide) ?_
      refine lv_icmp_ge (tgt := 63) hx hb dX6_areSo_5 (by decide) (fun hc1 => ?_) (fun hc1 => ?_)
      · have h := it hc1 h
        refine lv_iconst (v := 1) hx hb dX6_areSo_63 (by decide) ?_
        exact h_retR hx hb hr hlocks rfl (so1 h) dX6_areSo_64
      · have h := ie hc1 h
        refine lv_iload_n hx hb dX6_areSo_8 rfl (lv_at hl 2 rfl) ?_
        refine lv_aload_n hx hb dX6_areSo_9 rfl (lv_at hl 0 rfl) ?_
        refine h_getI hx hb hts hnX6_areSo_X6 hown hK hw hS.1 rfl 0 (by decide) rfl hkX6_areSo_25 dX6_areSo_10 ?_
        refine lv_icmp_ge (tgt := 63) hx hb dX6_areSo_13 (by decide) (fun hc2 => ?_) (fun hc2 => ?_)
        · have h := it hc2 h
          refine lv_iconst (v := 1) hx hb dX6_areSo_63 (by decide) ?_
          exact h_retR hx hb hr hlocks rfl (so1 h) dX6_areSo_64
        · have h := ie hc2 h
          refine lv_aload_n hx hb dX6_areSo_16 rfl (lv_at hl 1 rfl) ?_
          refine lv_aload_n hx hb dX6_areSo_17 rfl (lv_at hl 0 rfl) ?_
          refine h_getR hx hb hts hnX6_areSo_X6 hown hK hw hS.1 rfl 1 (by decide) rfl hkX6_areSo_9 dX6_areSo_18 ?_
          refine lv_iload_n hx hb dX6_areSo_21 rfl (lv_at hl 2 rfl) ?_
          obtain ⟨hi3, h⟩ := gd_s h
          refine h_iald hx hb hK hw hS.2.1 hi3 dX6_areSo_22 ?_
          refine lv_aload_n hx hb dX6_areSo_23 rfl (lv_at hl 0 rfl) ?_
          refine h_getR hx hb hts hnX6_areSo_X6 hown hK hw hS.1 rfl 3 (by decide) rfl hkX6_areSo_18 dX6_areSo_24 ?_
          refine lv_iload_n hx hb dX6_areSo_27 rfl (lv_at hl 2 rfl) ?_
          obtain ⟨hi4, h⟩ := gd_s h
          refine h_iald hx hb hK hw hS.2.2.2.1 hi4 dX6_areSo_28 ?_
          obtain ⟨r5, er5, h⟩ := b1_s h
          refine h_callR (va_runV (As := [.int (f (k+1) y2.toNatClampNeg), .int (f (k+3) y2.toNatClampNeg)]) (rest := []) ⟨hx, hb, hml, hown, hts⟩ (mX1_mateOf l D ac ad S o1 ob1 f (f (k+1) y2.toNatClampNeg) (f (k+3) y2.toNatClampNeg) r5 hA1 er5) (cwV 2 hts gX6_areSo_X1_mateOf rfl rfl rfl (by decide +kernel) ⟨Nat.le_of_ble_eq_true rfl, Nat.le_of_ble_eq_true rfl⟩) (h_preV hK hw hA1.1 rfl _) rfl rfl hl.1 rfl (lv_room (Nat.le_of_ble_eq_true rfl)) dX6_areSo_29 ⟨Nat.le_of_ble_eq_true rfl, Nat.le_of_ble_eq_true rfl⟩) ?_
          refine lv_aload_n hx hb dX6_areSo_32 rfl (lv_at hl 0 rfl) ?_
          refine h_getR hx hb hts hnX6_areSo_X6 hown hK hw hS.1 rfl 2 (by decide) rfl hkX6_areSo_15 dX6_areSo_33 ?_
          refine lv_iload_n hx hb dX6_areSo_36 rfl (lv_at hl 2 rfl) ?_
          obtain ⟨hi6, h⟩ := gd_s h
          refine h_iald hx hb hK hw hS.2.2.1 hi6 dX6_areSo_37 ?_
          refine lv_icmp_ne (tgt := 45) hx hb dX6_areSo_38 (by decide) (fun hc7 => ?_) (fun hc7 => ?_)
          · have h := ie hc7 h
            refine lv_iconst (v := 0) hx hb dX6_areSo_45 (by decide) ?_
            exact J46 (fX6_areSo_2 k o1 ob1 f n) ih y2 0 _ (lv_sub hl [0, 1, 2] rfl) h
          · have h := it hc7 h
            refine lv_iconst (v := 1) hx hb dX6_areSo_41 (by decide) ?_
            refine lv_goto (tgt := 46) hx hb dX6_areSo_42 (by decide) ?_
            exact J46 (fX6_areSo_2 k o1 ob1 f n) ih y2 1 _ (lv_sub hl [0, 1, 2] rfl) h
  unfold fX6_areSo at h
  refine lv_iconst (v := 0) hx hb dX6_areSo_0 (by decide) ?_
  refine lv_istore_n (lv' := [(2, .int 0), (0, .ref (ad k)), (1, .ref (ad o1))]) hx hb dX6_areSo_1 rfl hl (by decide) rfl (fun ls hl => ?_)
  exact J2 _ 0 _ (lv_sub hl [1, 2, 0] rfl) h

theorem hnX7_isSeenWithout_X7 : ∀ w ∈ wsX70, w ∈ wsX7_isSeenWithout := by decide +kernel
theorem hkX7_isSeenWithout_31 : Cond.fieldLink RX7 31 (TX7 3).1 (TX7 3).2.1 (TX7 3).2.2.1 ∈ wsX7_isSeenWithout := by decide +kernel
theorem hnX7_isSeenWithout_X2 : ∀ w ∈ wsX20, w ∈ wsX7_isSeenWithout := by decide +kernel
theorem hkX7_isSeenWithout_253 : Cond.fieldLink RX7 253 (TX2 2).1 (TX2 2).2.1 (TX2 2).2.2.1 ∈ wsX7_isSeenWithout := by decide +kernel
theorem hkX7_isSeenWithout_41 : Cond.fieldLink RX7 41 (TX7 5).1 (TX7 5).2.1 (TX7 5).2.2.1 ∈ wsX7_isSeenWithout := by decide +kernel
set_option maxHeartbeats 8000000 in
set_option maxRecDepth 100000 in
theorem mX7_isSeenWithout (l : Launch) (D : va_G) (ac : Nat → ClassId) (ad : Nat → Nat) (S : List hSh) (f : hF) (x1 : Int32) (rv : Int32) (gv : hF) (hS : isPW S) (h : fX7_isSeenWithout f x1 = some (rv, gv)) : Met l yX7_isSeenWithout wsX7_isSeenWithout ({ frames := 4, cells := 0, slots := 0, locals := 87 }) (hPc D ac ad S f [.ref (ad 0), .int x1]) (hQi D ac ad S rv gv) 0 0 (hAd ad S.length) := by
  refine h_enter (C := RX7) (cc := cX7_isSeenWithout) (maxL := 2) (ret := (some .boolean)) (lv := [(0, .ref (ad 0)), (1, .int x1)]) (by decide) rfl rfl (Nat.le_of_ble_eq_true rfl) rfl (fun p e s m below meth c ls hx hb hml hr hlocks hown hts hK hw hl => ?_)
  unfold fX7_isSeenWithout at h
  refine lv_aload_n hx hb dX7_isSeenWithout_0 rfl (lv_at hl 0 rfl) ?_
  refine h_getR hx hb hts hnX7_isSeenWithout_X7 hown hK hw hS.1 rfl 3 (by decide) rfl hkX7_isSeenWithout_31 dX7_isSeenWithout_1 ?_
  refine h_getR hx hb hts hnX7_isSeenWithout_X2 hown hK hw hS.2.2.2.2.1.1 rfl 2 (by decide) rfl hkX7_isSeenWithout_253 dX7_isSeenWithout_4 ?_
  refine lv_iload_n hx hb dX7_isSeenWithout_7 rfl (lv_at hl 1 rfl) ?_
  obtain ⟨f1, ef1, h⟩ := b1_s h
  refine h_callV hw (va_runV (As := [.int x1]) (rest := []) ⟨hx, hb, hml, hown, hts⟩ (mX1_settle l D ac ad S 29 20 f x1 f1 hS.2.2.2.2.1.2.2.2.2 ef1) (cwV 1 hts gX7_isSeenWithout_X1_settle rfl rfl rfl (by decide +kernel) ⟨Nat.le_of_ble_eq_true rfl, Nat.le_of_ble_eq_true rfl⟩) (h_preV hK hw hS.2.2.2.2.1.2.2.2.2.1 rfl _) rfl rfl hl.1 rfl (lv_room (Nat.le_of_ble_eq_true rfl)) dX7_isSeenWithout_8 ⟨Nat.le_of_ble_eq_true rfl, Nat.le_of_ble_eq_true rfl⟩) (fun H locs hw => ?_)
  refine lv_aload_n hx hb dX7_isSeenWithout_11 rfl (lv_at hl 0 rfl) ?_
  refine h_getR hx hb hts hnX7_isSeenWithout_X7 hown hK hw hS.1 rfl 5 (by decide) rfl hkX7_isSeenWithout_41 dX7_isSeenWithout_12 ?_
  refine lv_aload_n hx hb dX7_isSeenWithout_15 rfl (lv_at hl 0 rfl) ?_
  refine h_getR hx hb hts hnX7_isSeenWithout_X7 hown hK hw hS.1 rfl 3 (by decide) rfl hkX7_isSeenWithout_31 dX7_isSeenWithout_16 ?_
  refine h_getR hx hb hts hnX7_isSeenWithout_X2 hown hK hw hS.2.2.2.2.1.1 rfl 2 (by decide) rfl hkX7_isSeenWithout_253 dX7_isSeenWithout_19 ?_
  obtain ⟨r2, er2, h⟩ := b1_s h
  refine h_callR (va_runV (As := [.ref (ad 29)]) (rest := []) ⟨hx, hb, hml, hown, hts⟩ (mX6_areSo l D ac ad S 47 29 20 f1 r2 hS.2.2.2.2.2.2.1 hS.2.2.2.2.1.2.2.2.2 er2) (cwV 1 hts gX7_isSeenWithout_X6_areSo rfl rfl rfl (by decide +kernel) ⟨Nat.le_of_ble_eq_true rfl, Nat.le_of_ble_eq_true rfl⟩) (h_preV hK hw hS.2.2.2.2.2.2.1.1 rfl _) rfl rfl hl.1 rfl (lv_room (Nat.le_of_ble_eq_true rfl)) dX7_isSeenWithout_22 ⟨Nat.le_of_ble_eq_true rfl, Nat.le_of_ble_eq_true rfl⟩) ?_
  obtain ⟨hr3, h⟩ := nr_s h
  exact h_retQ hx hb hr hlocks hw hr3 (so2 h) dX7_isSeenWithout_25
