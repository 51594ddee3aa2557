/-! contracts: X2_costToFill X7_fill X2_countHeld X7_strike X7_pass X5_takeInto X7_undo X7_isDay X7_mate X7_twice X0_countOf X2_linkPersons J6_bitCount_0f7a4 X2_isInEveryLine -/
theorem hnX2_costToFill_X2 : ∀ w ∈ wsX20, w ∈ wsX2_costToFill := by decide +kernel
theorem hkX2_costToFill_31 : Cond.fieldLink RX2 31 (TX2 0).1 (TX2 0).2.1 (TX2 0).2.2.1 ∈ wsX2_costToFill := by decide +kernel
theorem hkX2_costToFill_12 : Cond.fieldLink RX2 12 (TX2 1).1 (TX2 1).2.1 (TX2 1).2.2.1 ∈ wsX2_costToFill := by decide +kernel
theorem hnX2_costToFill_X0 : ∀ w ∈ wsX00, w ∈ wsX2_costToFill := by decide +kernel
theorem hkX2_costToFill_49 : Cond.fieldLink RX2 49 (TX0 0).1 (TX0 0).2.1 (TX0 0).2.2.1 ∈ wsX2_costToFill := by decide +kernel
theorem hkX2_costToFill_148 : Cond.fieldLink RX2 148 (TX0 5).1 (TX0 5).2.1 (TX0 5).2.2.1 ∈ wsX2_costToFill := by decide +kernel
theorem hnX2_costToFill_X3 : ∀ w ∈ wsX30, w ∈ wsX2_costToFill := by decide +kernel
theorem hkX2_costToFill_96 : Cond.fieldLink RX2 96 (TX3 8).1 (TX3 8).2.1 (TX3 8).2.2.1 ∈ wsX2_costToFill := by decide +kernel
theorem hkX2_costToFill_106 : Cond.fieldLink RX2 106 (TX3 7).1 (TX3 7).2.1 (TX3 7).2.2.1 ∈ wsX2_costToFill := by decide +kernel
set_option maxHeartbeats 8000000 in
set_option maxRecDepth 100000 in
theorem mX2_costToFill (l : Launch) (D : va_G) (ac : Nat → ClassId) (ad : Nat → Nat) (S : List hSh) (k : Nat) (ro : Nat) (f : hF) (x1 : Int32) (x2 : Int32) (rv : Int32) (hS : isHo S k ro) (h : fX2_costToFill k ro f x1 x2 = some rv) : Met l yX2_costToFill wsX2_costToFill ({ frames := 1, cells := 0, slots := 0, locals := 21 }) (hPc D ac ad S f [.ref (ad k), .int x1, .int x2]) (hRi rv) 0 0 hNo := by
  refine h_enter (C := RX2) (cc := cX2_costToFill) (maxL := 4) (ret := (some .int)) (lv := [(0, .ref (ad k)), (1, .int x1), (2, .int x2)]) (by decide) rfl rfl (Nat.le_of_ble_eq_true rfl) rfl (fun p e s m below meth c ls hx hb hml hr hlocks hown hts hK hw hl => ?_)
  unfold fX2_costToFill at h
  refine lv_aload_n hx hb dX2_costToFill_0 rfl (lv_at hl 0 rfl) ?_
  refine h_getR hx hb hts hnX2_costToFill_X2 hown hK hw hS.1 rfl 0 (by decide) rfl hkX2_costToFill_31 dX2_costToFill_1 ?_
  refine lv_iload_n hx hb dX2_costToFill_4 rfl (lv_at hl 1 rfl) ?_
  obtain ⟨r1, er1, h⟩ := b1_s h
  refine h_callR (va_runV (As := [.int x1]) (rest := []) ⟨hx, hb, hml, hown, hts⟩ (mX3_isParson l D ac ad S ro f x1 r1 hS.2.2.1 er1) (cwV 1 hts gX2_costToFill_X3_isParson rfl rfl rfl (by decide +kernel) ⟨Nat.le_of_ble_eq_true rfl, Nat.le_of_ble_eq_true rfl⟩) (h_preV hK hw hS.2.2.1.1 rfl _) rfl rfl hl.1 rfl (lv_room (Nat.le_of_ble_eq_true rfl)) dX2_costToFill_5 ⟨Nat.le_of_ble_eq_true rfl, Nat.le_of_ble_eq_true rfl⟩) ?_
  refine lv_if_eq (tgt := 22) hx hb dX2_costToFill_8 (by decide) (fun hc2 => ?_) (fun hc2 => ?_)
  · have h := it hc2 h
    refine lv_iconst (v := 0) hx hb dX2_costToFill_22 (by decide) ?_
    exact h_retR hx hb hr hlocks rfl (so1 h) dX2_costToFill_23
  · have h := ie hc2 h
    refine lv_aload_n hx hb dX2_costToFill_11 rfl (lv_at hl 0 rfl) ?_
    refine h_getR hx hb hts hnX2_costToFill_X2 hown hK hw hS.1 rfl 1 (by decide) rfl hkX2_costToFill_12 dX2_costToFill_12 ?_
    refine lv_iload_n hx hb dX2_costToFill_15 rfl (lv_at hl 2 rfl) ?_
    obtain ⟨r3, er3, h⟩ := b1_s h
    refine h_callR (va_runV (As := [.int x2]) (rest := []) ⟨hx, hb, hml, hown, hts⟩ (mX0_isLine l D ac ad S (k+1) f x2 r3 hS.2.2.2.1 er3) (cwV 1 hts gX2_costToFill_X0_isLine rfl rfl rfl (by decide +kernel) ⟨Nat.le_of_ble_eq_true rfl, Nat.le_of_ble_eq_true rfl⟩) (h_preV hK hw hS.2.2.2.1.1 rfl _) rfl rfl hl.1 rfl (lv_room (Nat.le_of_ble_eq_true rfl)) dX2_costToFill_16 ⟨Nat.le_of_ble_eq_true rfl, Nat.le_of_ble_eq_true rfl⟩) ?_
    refine lv_if_ne (tgt := 24) hx hb dX2_costToFill_19 (by decide) (fun hc4 => ?_) (fun hc4 => ?_)
    · have h := ie hc4 h
      refine lv_aload_n hx hb dX2_costToFill_24 rfl (lv_at hl 0 rfl) ?_
      refine h_getR hx hb hts hnX2_costToFill_X2 hown hK hw hS.1 rfl 1 (by decide) rfl hkX2_costToFill_12 dX2_costToFill_25 ?_
      refine h_getI hx hb hts hnX2_costToFill_X0 hown hK hw hS.2.2.2.1.1 rfl 0 (by decide) rfl hkX2_costToFill_49 dX2_costToFill_28 ?_
      refine lv_aload_n hx hb dX2_costToFill_31 rfl (lv_at hl 0 rfl) ?_
      refine h_getR hx hb hts hnX2_costToFill_X2 hown hK hw hS.1 rfl 1 (by decide) rfl hkX2_costToFill_12 dX2_costToFill_32 ?_
      refine h_getR hx hb hts hnX2_costToFill_X0 hown hK hw hS.2.2.2.1.1 rfl 5 (by decide) rfl hkX2_costToFill_148 dX2_costToFill_35 ?_
      refine lv_iload_n hx hb dX2_costToFill_38 rfl (lv_at hl 2 rfl) ?_
      obtain ⟨hi5, h⟩ := gd_s h
      refine h_iald hx hb hK hw hS.2.2.2.1.2.2.2.2.2.1 hi5 dX2_costToFill_39 ?_
      refine lv_isub hx hb dX2_costToFill_40 ?_
      refine lv_istore_n (lv' := [(3, .int ((f (k+1) 0) - (f ((k+1)+5) x2.toNatClampNeg))), (0, .ref (ad k)), (1, .int x1), (2, .int x2)]) hx hb dX2_costToFill_41 rfl hl (by decide) rfl (fun ls hl => ?_)
      refine lv_aload_n hx hb dX2_costToFill_42 rfl (lv_at hl 1 rfl) ?_
      refine h_getR hx hb hts hnX2_costToFill_X2 hown hK hw hS.1 rfl 0 (by decide) rfl hkX2_costToFill_31 dX2_costToFill_43 ?_
      refine h_getR hx hb hts hnX2_costToFill_X3 hown hK hw hS.2.2.1.1 rfl 8 (by decide) rfl hkX2_costToFill_96 dX2_costToFill_46 ?_
      refine lv_iload_n hx hb dX2_costToFill_49 rfl (lv_at hl 2 rfl) ?_
      obtain ⟨hi6, h⟩ := gd_s h
      refine h_iald hx hb hK hw hS.2.2.1.2.2.2.2.2.2.1 hi6 dX2_costToFill_50 ?_
      refine lv_aload_n hx hb dX2_costToFill_51 rfl (lv_at hl 1 rfl) ?_
      refine h_getR hx hb hts hnX2_costToFill_X2 hown hK hw hS.1 rfl 0 (by decide) rfl hkX2_costToFill_31 dX2_costToFill_52 ?_
      refine h_getR hx hb hts hnX2_costToFill_X3 hown hK hw hS.2.2.1.1 rfl 7 (by decide) rfl hkX2_costToFill_106 dX2_costToFill_55 ?_
      refine lv_iload_n hx hb dX2_costToFill_58 rfl (lv_at hl 2 rfl) ?_
      obtain ⟨hi7, h⟩ := gd_s h
      refine h_iald hx hb hK hw hS.2.2.1.2.2.2.2.2.1 hi7 dX2_costToFill_59 ?_
      refine lv_iconst (v := 2) hx hb dX2_costToFill_60 (by decide) ?_
      refine lv_icmp_ne (tgt := 70) hx hb dX2_costToFill_61 (by decide) (fun hc8 => ?_) (fun hc8 => ?_)
      · have h := ie hc8 h
        refine lv_iload_n hx hb dX2_costToFill_70 rfl (lv_at hl 0 rfl) ?_
        refine lv_iadd hx hb dX2_costToFill_71 ?_
        exact h_retR hx hb hr hlocks rfl (so1 h) dX2_costToFill_72
      · have h := it hc8 h
        refine lv_iload_n hx hb dX2_costToFill_64 rfl (lv_at hl 0 rfl) ?_
        refine lv_iconst (v := 2) hx hb dX2_costToFill_65 (by decide) ?_
        refine lv_idiv hx hb dX2_costToFill_66 (by decide) ?_
        refine lv_goto (tgt := 71) hx hb dX2_costToFill_67 (by decide) ?_
        refine lv_iadd hx hb dX2_costToFill_71 ?_
        exact h_retR hx hb hr hlocks rfl (so1 h) dX2_costToFill_72
    · have h := it hc4 h
      refine lv_iconst (v := 0) hx hb dX2_costToFill_22 (by decide) ?_
      exact h_retR hx hb hr hlocks rfl (so1 h) dX2_costToFill_23

theorem hnX7_fill_X7 : ∀ w ∈ wsX70, w ∈ wsX7_fill := by decide +kernel
theorem hkX7_fill_31 : Cond.fieldLink RX7 31 (TX7 3).1 (TX7 3).2.1 (TX7 3).2.2.1 ∈ wsX7_fill := by decide +kernel
theorem hnX7_fill_X2 : ∀ w ∈ wsX20, w ∈ wsX7_fill := by decide +kernel
theorem hkX7_fill_108 : Cond.fieldLink RX7 108 (TX2 1).1 (TX2 1).2.1 (TX2 1).2.2.1 ∈ wsX7_fill := by decide +kernel
theorem hkX7_fill_19 : Cond.fieldLink RX7 19 (TX7 1).1 (TX7 1).2.1 (TX7 1).2.2.1 ∈ wsX7_fill := by decide +kernel
theorem hnX7_fill_X0 : ∀ w ∈ wsX00, w ∈ wsX7_fill := by decide +kernel
theorem hkX7_fill_149 : Cond.fieldLink RX7 149 (TX0 4).1 (TX0 4).2.1 (TX0 4).2.2.1 ∈ wsX7_fill := by decide +kernel
theorem hkX7_fill_50 : Cond.fieldLink RX7 50 (TX7 6).1 (TX7 6).2.1 (TX7 6).2.2.1 ∈ wsX7_fill := by decide +kernel
set_option maxHeartbeats 8000000 in
set_option maxRecDepth 100000 in
theorem mX7_fill (l : Launch) (D : va_G) (ac : Nat → ClassId) (ad : Nat → Nat) (S : List hSh) (f : hF) (x1 : Int32) (x2 : Int32) (x3 : Int32) (x4 : Int32) (rv : Int32) (gv : hF) (hS : isPW S) (h : fX7_fill f x1 x2 x3 x4 = some (rv, gv)) : Met l yX7_fill wsX7_fill ({ frames := 3, cells := 0, slots := 0, locals := 74 }) (hPc D ac ad S f [.ref (ad 0), .int x1, .int x2, .int x3, .int x4]) (hQi D ac ad S rv gv) 0 0 (hAd ad S.length) := by
  refine h_enter (C := RX7) (cc := cX7_fill) (maxL := 7) (ret := (some .int)) (lv := [(0, .ref (ad 0)), (1, .int x1), (2, .int x2), (3, .int x3), (4, .int x4)]) (by decide) rfl rfl (Nat.le_of_ble_eq_true rfl) rfl (fun p e s m below meth c ls hx hb hml hr hlocks hown hts hK hw hl => ?_)
  unfold fX7_fill at h
  refine lv_aload_n hx hb dX7_fill_0 rfl (lv_at hl 0 rfl) ?_
  refine h_getR hx hb hts hnX7_fill_X7 hown hK hw hS.1 rfl 3 (by decide) rfl hkX7_fill_31 dX7_fill_1 ?_
  refine h_getR hx hb hts hnX7_fill_X2 hown hK hw hS.2.2.2.2.1.1 rfl 1 (by decide) rfl hkX7_fill_108 dX7_fill_4 ?_
  refine lv_iload_n hx hb dX7_fill_7 rfl (lv_at hl 1 rfl) ?_
  refine lv_iload_n hx hb dX7_fill_8 rfl (lv_at hl 2 rfl) ?_
  obtain ⟨r1, er1, h⟩ := b1_s h
  refine h_callR (va_runV (As := [.int x1, .int x2]) (rest := []) ⟨hx, hb, hml, hown, hts⟩ (mX0_slotOf l D ac ad S 20 f x1 x2 r1 hS.2.2.2.2.1.2.2.2.1 er1) (cwV 2 hts gX7_fill_X0_slotOf rfl rfl rfl (by decide +kernel) ⟨Nat.le_of_ble_eq_true rfl, Nat.le_of_ble_eq_true rfl⟩) (h_preV hK hw hS.2.2.2.2.1.2.2.2.1.1 rfl _) rfl rfl hl.1 rfl (lv_room (Nat.le_of_ble_eq_true rfl)) dX7_fill_9 ⟨Nat.le_of_ble_eq_true rfl, Nat.le_of_ble_eq_true rfl⟩) ?_
  refine lv_istore (lv' := [(5, .int r1), (0, .ref (ad 0)), (1, .int x1), (2, .int x2), (3, .int x3), (4, .int x4)]) hx hb dX7_fill_12 hl (by decide) rfl (fun ls hl => ?_)
  refine lv_iload hx hb dX7_fill_14 (lv_at hl 0 rfl) ?_
  refine lv_iconst (v := (-1)) hx hb dX7_fill_16 (by decide) ?_
  refine lv_icmp_eq (tgt := 33) hx hb dX7_fill_17 (by decide) (fun hc2 => ?_) (fun hc2 => ?_)
  · have h := it hc2 h
    refine lv_iconst (v := (-1)) hx hb dX7_fill_33 (by decide) ?_
    exact h_retQ hx hb hr hlocks hw rfl (so2 h) dX7_fill_34
  · have h := ie hc2 h
    refine lv_aload_n hx hb dX7_fill_20 rfl (lv_at hl 1 rfl) ?_
    refine h_getR hx hb hts hnX7_fill_X7 hown hK hw hS.1 rfl 1 (by decide) rfl hkX7_fill_19 dX7_fill_21 ?_
    refine lv_iload_n hx hb dX7_fill_24 rfl (lv_at hl 4 rfl) ?_
    refine lv_iload hx hb dX7_fill_25 (lv_at hl 5 rfl) ?_
    obtain ⟨r3, er3, h⟩ := b1_s h
    refine h_callR (va_runV (As := [.int x3, .int x4]) (rest := []) ⟨hx, hb, hml, hown, hts⟩ (mX3_areTwo l D ac ad S 3 f x3 x4 r3 hS.2.2.1 er3) (cwV 2 hts gX7_fill_X3_areTwo rfl rfl rfl (by decide +kernel) ⟨Nat.le_of_ble_eq_true rfl, Nat.le_of_ble_eq_true rfl⟩) (h_preV hK hw hS.2.2.1.1 rfl _) rfl rfl hl.1 rfl (lv_room (Nat.le_of_ble_eq_true rfl)) dX7_fill_27 ⟨Nat.le_of_ble_eq_true rfl, Nat.le_of_ble_eq_true rfl⟩) ?_
    refine lv_if_ne (tgt := 35) hx hb dX7_fill_30 (by decide) (fun hc4 => ?_) (fun hc4 => ?_)
    · have h := ie hc4 h
      refine lv_aload_n hx hb dX7_fill_35 rfl (lv_at hl 1 rfl) ?_
      refine h_getR hx hb hts hnX7_fill_X7 hown hK hw hS.1 rfl 3 (by decide) rfl hkX7_fill_31 dX7_fill_36 ?_
      refine h_getR hx hb hts hnX7_fill_X2 hown hK hw hS.2.2.2.2.1.1 rfl 1 (by decide) rfl hkX7_fill_108 dX7_fill_39 ?_
      refine h_getR hx hb hts hnX7_fill_X0 hown hK hw hS.2.2.2.2.1.2.2.2.1.1 rfl 4 (by decide) rfl hkX7_fill_149 dX7_fill_42 ?_
      refine lv_iload hx hb dX7_fill_45 (lv_at hl 0 rfl) ?_
      obtain ⟨hi5, h⟩ := gd_s h
      refine h_iald hx hb hK hw hS.2.2.2.2.1.2.2.2.1.2.2.2.2.1 hi5 dX7_fill_47 ?_
      refine lv_if_ne (tgt := 64) hx hb dX7_fill_48 (by decide) (fun hc6 => ?_) (fun hc6 => ?_)
      · have h := ie hc6 h
        refine lv_bipush (v := (-2)) hx hb dX7_fill_64 (by decide) ?_
        exact h_retQ hx hb hr hlocks hw rfl (so2 h) dX7_fill_66
      · have h := it hc6 h
        refine lv_aload_n hx hb dX7_fill_51 rfl (lv_at hl 1 rfl) ?_
        refine h_getR hx hb hts hnX7_fill_X7 hown hK hw hS.1 rfl 1 (by decide) rfl hkX7_fill_19 dX7_fill_52 ?_
        refine lv_iload_n hx hb dX7_fill_55 rfl (lv_at hl 4 rfl) ?_
        refine lv_iload hx hb dX7_fill_56 (lv_at hl 5 rfl) ?_
        obtain ⟨r7, er7, h⟩ := b1_s h
        refine h_callR (va_runV (As := [.int x3, .int x4]) (rest := []) ⟨hx, hb, hml, hown, hts⟩ (mX3_canPair l D ac ad S 3 f x3 x4 r7 hS.2.2.1 er7) (cwV 2 hts gX7_fill_X3_canPair rfl rfl rfl (by decide +kernel) ⟨Nat.le_of_ble_eq_true rfl, Nat.le_of_ble_eq_true rfl⟩) (h_preV hK hw hS.2.2.1.1 rfl _) rfl rfl hl.1 rfl (lv_room (Nat.le_of_ble_eq_true rfl)) dX7_fill_58 ⟨Nat.le_of_ble_eq_true rfl, Nat.le_of_ble_eq_true rfl⟩) ?_
        refine lv_if_ne (tgt := 67) hx hb dX7_fill_61 (by decide) (fun hc8 => ?_) (fun hc8 => ?_)
        · have h := ie hc8 h
          refine lv_aload_n hx hb dX7_fill_67 rfl (lv_at hl 1 rfl) ?_
          refine h_getR hx hb hts hnX7_fill_X7 hown hK hw hS.1 rfl 3 (by decide) rfl hkX7_fill_31 dX7_fill_68 ?_
          refine lv_iload_n hx hb dX7_fill_71 rfl (lv_at hl 2 rfl) ?_
          refine lv_iload hx hb dX7_fill_72 (lv_at hl 0 rfl) ?_
          obtain ⟨r9, er9, h⟩ := b1_s h
          refine h_callR (va_runV (As := [.int x1, .int r1]) (rest := []) ⟨hx, hb, hml, hown, hts⟩ (mX2_costToFill l D ac ad S 19 3 f x1 r1 r9 hS.2.2.2.2.1 er9) (cwV 2 hts gX7_fill_X2_costToFill rfl rfl rfl (by decide +kernel) ⟨Nat.le_of_ble_eq_true rfl, Nat.le_of_ble_eq_true rfl⟩) (h_preV hK hw hS.2.2.2.2.1.1 rfl _) rfl rfl hl.1 rfl (lv_room (Nat.le_of_ble_eq_true rfl)) dX7_fill_74 ⟨Nat.le_of_ble_eq_true rfl, Nat.le_of_ble_eq_true rfl⟩) ?_
          refine lv_istore (lv' := [(6, .int r9), (5, .int r1), (0, .ref (ad 0)), (1, .int x1), (2, .int x2), (3, .int x3), (4, .int x4)]) hx hb dX7_fill_77 hl (by decide) rfl (fun ls hl => ?_)
          refine lv_aload_n hx hb dX7_fill_79 rfl (lv_at hl 2 rfl) ?_
          refine h_getR hx hb hts hnX7_fill_X7 hown hK hw hS.1 rfl 3 (by decide) rfl hkX7_fill_31 dX7_fill_80 ?_
          refine lv_iload_n hx hb dX7_fill_83 rfl (lv_at hl 5 rfl) ?_
          refine lv_iload hx hb dX7_fill_84 (lv_at hl 6 rfl) ?_
          refine lv_iload hx hb dX7_fill_86 (lv_at hl 0 rfl) ?_
          obtain ⟨r10, er10, h⟩ := b1_s h
          refine h_callR (va_runV (As := [.int x3, .int x4, .int r9]) (rest := []) ⟨hx, hb, hml, hown, hts⟩ (mX2_canPay l D ac ad S 19 3 f x3 x4 r9 r10 hS.2.2.2.2.1 er10) (cwV 3 hts gX7_fill_X2_canPay rfl rfl rfl (by decide +kernel) ⟨Nat.le_of_ble_eq_true rfl, Nat.le_of_ble_eq_true rfl⟩) (h_preV hK hw hS.2.2.2.2.1.1 rfl _) rfl rfl hl.1 rfl (lv_room (Nat.le_of_ble_eq_true rfl)) dX7_fill_88 ⟨Nat.le_of_ble_eq_true rfl, Nat.le_of_ble_eq_true rfl⟩) ?_
          refine lv_if_ne (tgt := 97) hx hb dX7_fill_91 (by decide) (fun hc11 => ?_) (fun hc11 => ?_)
          · have h := ie hc11 h
            refine lv_aload_n hx hb dX7_fill_97 rfl (lv_at hl 2 rfl) ?_
            refine h_getR hx hb hts hnX7_fill_X7 hown hK hw hS.1 rfl 6 (by decide) rfl hkX7_fill_50 dX7_fill_98 ?_
            refine lv_aload_n hx hb dX7_fill_101 rfl (lv_at hl 2 rfl) ?_
            refine h_getR hx hb hts hnX7_fill_X7 hown hK hw hS.1 rfl 3 (by decide) rfl hkX7_fill_31 dX7_fill_102 ?_
            refine h_getR hx hb hts hnX7_fill_X2 hown hK hw hS.2.2.2.2.1.1 rfl 1 (by decide) rfl hkX7_fill_108 dX7_fill_105 ?_
            obtain ⟨f12, ef12, h⟩ := b1_s h
            refine h_callV hw (va_runV (As := [.ref (ad 20)]) (rest := []) ⟨hx, hb, hml, hown, hts⟩ (mX5_put l D ac ad S 52 8 20 f f12 hS.2.2.2.2.2.2.2.1 hS.2.2.2.2.1.2.2.2.1 ef12) (cwV 1 hts gX7_fill_X5_put rfl rfl rfl (by decide +kernel) ⟨Nat.le_of_ble_eq_true rfl, Nat.le_of_ble_eq_true rfl⟩) (h_preV hK hw hS.2.2.2.2.2.2.2.1.1 rfl _) rfl rfl hl.1 rfl (lv_room (Nat.le_of_ble_eq_true rfl)) dX7_fill_108 ⟨Nat.le_of_ble_eq_true rfl, Nat.le_of_ble_eq_true rfl⟩) (fun H locs hw => ?_)
            refine lv_aload_n hx hb dX7_fill_111 rfl (lv_at hl 2 rfl) ?_
            refine h_getR hx hb hts hnX7_fill_X7 hown hK hw hS.1 rfl 3 (by decide) rfl hkX7_fill_31 dX7_fill_112 ?_
            refine lv_iload_n hx hb dX7_fill_115 rfl (lv_at hl 3 rfl) ?_
            refine lv_iload hx hb dX7_fill_116 (lv_at hl 1 rfl) ?_
            refine lv_iload_n hx hb dX7_fill_118 rfl (lv_at hl 5 rfl) ?_
            refine lv_iload hx hb dX7_fill_119 (lv_at hl 6 rfl) ?_
            refine lv_iload hx hb dX7_fill_121 (lv_at hl 0 rfl) ?_
            obtain ⟨f13, ef13, h⟩ := b1_s h
            refine h_callV hw (va_runV (As := [.int x1, .int r1, .int x3, .int x4, .int r9]) (rest := []) ⟨hx, hb, hml, hown, hts⟩ (mX2_writeTwo l D ac ad S 19 3 f12 x1 r1 x3 x4 r9 f13 hS.2.2.2.2.1 ef13) (cwV 5 hts gX7_fill_X2_writeTwo rfl rfl rfl (by decide +kernel) ⟨Nat.le_of_ble_eq_true rfl, Nat.le_of_ble_eq_true rfl⟩) (h_preV hK hw hS.2.2.2.2.1.1 rfl _) rfl rfl hl.1 rfl (lv_room (Nat.le_of_ble_eq_true rfl)) dX7_fill_123 ⟨Nat.le_of_ble_eq_true rfl, Nat.le_of_ble_eq_true rfl⟩) (fun H locs hw => ?_)
            refine lv_iload hx hb dX7_fill_126 (lv_at hl 0 rfl) ?_
            exact h_retQ hx hb hr hlocks hw rfl (so2 h) dX7_fill_128
          · have h := it hc11 h
            refine lv_bipush (v := (-2)) hx hb dX7_fill_94 (by decide) ?_
            exact h_retQ hx hb hr hlocks hw rfl (so2 h) dX7_fill_96
        · have h := it hc8 h
          refine lv_bipush (v := (-2)) hx hb dX7_fill_64 (by decide) ?_
          exact h_retQ hx hb hr hlocks hw rfl (so2 h) dX7_fill_66
    · have h := it hc4 h
      refine lv_iconst (v := (-1)) hx hb dX7_fill_33 (by decide) ?_
      exact h_retQ hx hb hr hlocks hw rfl (so2 h) dX7_fill_34

theorem hnX2_countHeld_X2 : ∀ w ∈ wsX20, w ∈ wsX2_countHeld := by decide +kernel
theorem hkX2_countHeld_23 : Cond.fieldLink RX2 23 (TX2 2).1 (TX2 2).2.1 (TX2 2).2.2.1 ∈ wsX2_countHeld := by decide +kernel
set_option maxHeartbeats 8000000 in
set_option maxRecDepth 100000 in
theorem mX2_countHeld (l : Launch) (D : va_G) (ac : Nat → ClassId) (ad : Nat → Nat) (S : List hSh) (k : Nat) (ro : Nat) (f : hF) (rv : Int32) (gv : hF) (hS : isHo S k ro) (h : fX2_countHeld k ro f = some (rv, gv)) : Met l yX2_countHeld wsX2_countHeld ({ frames := 4, cells := 0, slots := 0, locals := 88 }) (hPc D ac ad S f [.ref (ad k)]) (hQi D ac ad S rv gv) 0 0 (hAd ad S.length) := by
  refine h_enter (C := RX2) (cc := cX2_countHeld) (maxL := 3) (ret := (some .int)) (lv := [(0, .ref (ad k))]) (by decide) rfl rfl (Nat.le_of_ble_eq_true rfl) rfl (fun p e s m below meth c ls hx hb hml hr hlocks hown hts hK hw hl => ?_)
  have J8 : ∀ (n : Nat), (∀ (f : hF) (y1 : Int32) (y2 : Int32) (H : Heap) (locs : List Loc) (ls : Array Slot), hOk D ac ad S (hAd ad S.length) s.heap f H locs → lv_has ls 3 [(0, .ref (ad k)), (1, .int y1), (2, .int y2)] → fX2_countHeld_8 k ro n f y1 y2 = some (rv, gv) → W p l e ({ frames := 4, cells := 0, slots := 0, locals := 88 } : Room) s m ([.ref (ad k)] : List Value).toArray below meth c H locs 0 0 (MQ below (hQi D ac ad S rv gv) ([.ref (ad k)] : List Value).toArray s 0 0 (hAd ad S.length)) (F0 m 8 ls [])) := by
    intro n
    induction n with
    | zero =>
      intro f y1 y2 H locs ls hw hl h
      rw [fX2_countHeld_8] at h
      cases h
    | succ n ih =>
      intro f y1 y2 H locs ls hw hl h
      rw [fX2_countHeld_8] at h
      refine lv_iload_n hx hb dX2_countHeld_8 rfl (lv_at hl 2 rfl) ?_
      refine lv_bipush (v := 24) hx hb dX2_countHeld_9 (by decide) ?_
      refine lv_icmp_ge (tgt := 34) hx hb dX2_countHeld_11 (by decide) (fun hc1 => ?_) (fun hc1 => ?_)
      · have h := it hc1 h
        refine lv_iload_n hx hb dX2_countHeld_34 rfl (lv_at hl 1 rfl) ?_
        exact h_retQ hx hb hr hlocks hw rfl (so2 h) dX2_countHeld_35
      · have h := ie hc1 h
        refine lv_aload_n hx hb dX2_countHeld_14 rfl (lv_at hl 0 rfl) ?_
        refine h_getR hx hb hts hnX2_countHeld_X2 hown hK hw hS.1 rfl 2 (by decide) rfl hkX2_countHeld_23 dX2_countHeld_15 ?_
        refine lv_iload_n hx hb dX2_countHeld_18 rfl (lv_at hl 2 rfl) ?_
        obtain ⟨r2, er2, h⟩ := b1_s h
        refine h_callR (va_runV (As := [.int y2]) (rest := []) ⟨hx, hb, hml, hown, hts⟩ (mX1_isHeld l D ac ad S (k+10) (k+1) f y2 r2 hS.2.2.2.2 er2) (cwV 1 hts gX2_countHeld_X1_isHeld rfl rfl rfl (by decide +kernel) ⟨Nat.le_of_ble_eq_true rfl, Nat.le_of_ble_eq_true rfl⟩) (h_preV hK hw hS.2.2.2.2.1 rfl _) rfl rfl hl.1 rfl (lv_room (Nat.le_of_ble_eq_true rfl)) dX2_countHeld_19 ⟨Nat.le_of_ble_eq_true rfl, Nat.le_of_ble_eq_true rfl⟩) ?_
        refine lv_if_eq (tgt := 28) hx hb dX2_countHeld_22 (by decide) (fun hc3 => ?_) (fun hc3 => ?_)
        · have h := it hc3 h
          refine lv_iinc (v := (y2 + 1)) (lv' := [(2, .int (y2 + 1)), (0, .ref (ad k)), (1, .int y1)]) hx hb dX2_countHeld_28 hl (k := 2) rfl rfl (by decide) rfl (fun ls hl => ?_)
          refine lv_goto (tgt := 8) hx hb dX2_countHeld_31 (by decide) ?_
          exact ih f y1 (y2 + 1) _ _ _ hw (lv_sub hl [1, 2, 0] rfl) h
        · have h := ie hc3 h
          refine lv_iinc (v := (y1 + 1)) (lv' := [(1, .int (y1 + 1)), (0, .ref (ad k)), (2, .int y2)]) hx hb dX2_countHeld_25 hl (k := 1) rfl rfl (by decide) rfl (fun ls hl => ?_)
          refine lv_iinc (v := (y2 + 1)) (lv' := [(2, .int (y2 + 1)), (1, .int (y1 + 1)), (0, .ref (ad k))]) hx hb dX2_countHeld_28 hl (k := 2) rfl rfl (by decide) rfl (fun ls hl => ?_)
          refine lv_goto (tgt := 8) hx hb dX2_countHeld_31 (by decide) ?_
          exact ih f (y1 + 1) (y2 + 1) _ _ _ hw (lv_sub hl [2, 1, 0] rfl) h
  unfold fX2_countHeld at h
  refine lv_aload_n hx hb dX2_countHeld_0 rfl (lv_at hl 0 rfl) ?_
  obtain ⟨f1, ef1, h⟩ := b1_s h
  refine h_callV hw (va_runV (As := []) (rest := []) ⟨hx, hb, hml, hown, hts⟩ (mX2_settle l D ac ad S k ro f f1 hS ef1) (cwV 0 hts gX2_countHeld_X2_settle rfl rfl rfl (by decide +kernel) ⟨Nat.le_of_ble_eq_true rfl, Nat.le_of_ble_eq_true rfl⟩) (h_preV hK hw hS.1 rfl _) rfl rfl hl.1 rfl (lv_room (Nat.le_of_ble_eq_true rfl)) dX2_countHeld_1 ⟨Nat.le_of_ble_eq_true rfl, Nat.le_of_ble_eq_true rfl⟩) (fun H locs hw => ?_)
  refine lv_iconst (v := 0) hx hb dX2_countHeld_4 (by decide) ?_
  refine lv_istore_n (lv' := [(1, .int 0), (0, .ref (ad k))]) hx hb dX2_countHeld_5 rfl hl (by decide) rfl (fun ls hl => ?_)
  refine lv_iconst (v := 0) hx hb dX2_countHeld_6 (by decide) ?_
  refine lv_istore_n (lv' := [(2, .int 0), (1, .int 0), (0, .ref (ad k))]) hx hb dX2_countHeld_7 rfl hl (by decide) rfl (fun ls hl => ?_)
  exact J8 _ f1 0 0 _ _ _ hw (lv_sub hl [2, 1, 0] rfl) h

theorem hnX7_strike_X7 : ∀ w ∈ wsX70, w ∈ wsX7_strike := by decide +kernel
theorem hkX7_strike_31 : Cond.fieldLink RX7 31 (TX7 3).1 (TX7 3).2.1 (TX7 3).2.2.1 ∈ wsX7_strike := by decide +kernel
theorem hnX7_strike_X2 : ∀ w ∈ wsX20, w ∈ wsX7_strike := by decide +kernel
theorem hkX7_strike_108 : Cond.fieldLink RX7 108 (TX2 1).1 (TX2 1).2.1 (TX2 1).2.2.1 ∈ wsX7_strike := by decide +kernel
theorem hnX7_strike_X0 : ∀ w ∈ wsX00, w ∈ wsX7_strike := by decide +kernel
theorem hkX7_strike_149 : Cond.fieldLink RX7 149 (TX0 4).1 (TX0 4).2.1 (TX0 4).2.2.1 ∈ wsX7_strike := by decide +kernel
theorem hkX7_strike_50 : Cond.fieldLink RX7 50 (TX7 6).1 (TX7 6).2.1 (TX7 6).2.2.1 ∈ wsX7_strike := by decide +kernel
set_option maxHeartbeats 8000000 in
set_option maxRecDepth 100000 in
theorem mX7_strike (l : Launch) (D : va_G) (ac : Nat → ClassId) (ad : Nat → Nat) (S : List hSh) (f : hF) (x1 : Int32) (x2 : Int32) (rv : Int32) (gv : hF) (hS : isPW S) (h : fX7_strike f x1 x2 = some (rv, gv)) : Met l yX7_strike wsX7_strike ({ frames := 5, cells := 0, slots := 0, locals := 110 }) (hPc D ac ad S f [.ref (ad 0), .int x1, .int x2]) (hQi D ac ad S rv gv) 0 0 (hAd ad S.length) := by
  refine h_enter (C := RX7) (cc := cX7_strike) (maxL := 4) (ret := (some .int)) (lv := [(0, .ref (ad 0)), (1, .int x1), (2, .int x2)]) (by decide) rfl rfl (Nat.le_of_ble_eq_true rfl) rfl (fun p e s m below meth c ls hx hb hml hr hlocks hown hts hK hw hl => ?_)
  unfold fX7_strike at h
  refine lv_aload_n hx hb dX7_strike_0 rfl (lv_at hl 0 rfl) ?_
  refine h_getR hx hb hts hnX7_strike_X7 hown hK hw hS.1 rfl 3 (by decide) rfl hkX7_strike_31 dX7_strike_1 ?_
  refine h_getR hx hb hts hnX7_strike_X2 hown hK hw hS.2.2.2.2.1.1 rfl 1 (by decide) rfl hkX7_strike_108 dX7_strike_4 ?_
  refine lv_iload_n hx hb dX7_strike_7 rfl (lv_at hl 1 rfl) ?_
  refine lv_iload_n hx hb dX7_strike_8 rfl (lv_at hl 2 rfl) ?_
  obtain ⟨r1, er1, h⟩ := b1_s h
  refine h_callR (va_runV (As := [.int x1, .int x2]) (rest := []) ⟨hx, hb, hml, hown, hts⟩ (mX0_slotOf l D ac ad S 20 f x1 x2 r1 hS.2.2.2.2.1.2.2.2.1 er1) (cwV 2 hts gX7_strike_X0_slotOf rfl rfl rfl (by decide +kernel) ⟨Nat.le_of_ble_eq_true rfl, Nat.le_of_ble_eq_true rfl⟩) (h_preV hK hw hS.2.2.2.2.1.2.2.2.1.1 rfl _) rfl rfl hl.1 rfl (lv_room (Nat.le_of_ble_eq_true rfl)) dX7_strike_9 ⟨Nat.le_of_ble_eq_true rfl, Nat.le_of_ble_eq_true rfl⟩) ?_
  refine lv_istore_n (lv' := [(3, .int r1), (0, .ref (ad 0)), (1, .int x1), (2, .int x2)]) hx hb dX7_strike_12 rfl hl (by decide) rfl (fun ls hl => ?_)
  refine lv_iload_n hx hb dX7_strike_13 rfl (lv_at hl 0 rfl) ?_
  refine lv_iconst (v := (-1)) hx hb dX7_strike_14 (by decide) ?_
  refine lv_icmp_ne (tgt := 20) hx hb dX7_strike_15 (by decide) (fun hc2 => ?_) (fun hc2 => ?_)
  · have h := ie hc2 h
    refine lv_aload_n hx hb dX7_strike_20 rfl (lv_at hl 1 rfl) ?_
    refine h_getR hx hb hts hnX7_strike_X7 hown hK hw hS.1 rfl 3 (by decide) rfl hkX7_strike_31 dX7_strike_21 ?_
    refine h_getR hx hb hts hnX7_strike_X2 hown hK hw hS.2.2.2.2.1.1 rfl 1 (by decide) rfl hkX7_strike_108 dX7_strike_24 ?_
    refine h_getR hx hb hts hnX7_strike_X0 hown hK hw hS.2.2.2.2.1.2.2.2.1.1 rfl 4 (by decide) rfl hkX7_strike_149 dX7_strike_27 ?_
    refine lv_iload_n hx hb dX7_strike_30 rfl (lv_at hl 0 rfl) ?_
    obtain ⟨hi3, h⟩ := gd_s h
    refine h_iald hx hb hK hw hS.2.2.2.2.1.2.2.2.1.2.2.2.2.1 hi3 dX7_strike_31 ?_
    refine lv_iconst (v := 1) hx hb dX7_strike_32 (by decide) ?_
    refine lv_icmp_eq (tgt := 39) hx hb dX7_strike_33 (by decide) (fun hc4 => ?_) (fun hc4 => ?_)
    · have h := it hc4 h
      refine lv_aload_n hx hb dX7_strike_39 rfl (lv_at hl 1 rfl) ?_
      refine h_getR hx hb hts hnX7_strike_X7 hown hK hw hS.1 rfl 6 (by decide) rfl hkX7_strike_50 dX7_strike_40 ?_
      refine lv_aload_n hx hb dX7_strike_43 rfl (lv_at hl 1 rfl) ?_
      refine h_getR hx hb hts hnX7_strike_X7 hown hK hw hS.1 rfl 3 (by decide) rfl hkX7_strike_31 dX7_strike_44 ?_
      refine h_getR hx hb hts hnX7_strike_X2 hown hK hw hS.2.2.2.2.1.1 rfl 1 (by decide) rfl hkX7_strike_108 dX7_strike_47 ?_
      obtain ⟨f5, ef5, h⟩ := b1_s h
      refine h_callV hw (va_runV (As := [.ref (ad 20)]) (rest := []) ⟨hx, hb, hml, hown, hts⟩ (mX5_put l D ac ad S 52 8 20 f f5 hS.2.2.2.2.2.2.2.1 hS.2.2.2.2.1.2.2.2.1 ef5) (cwV 1 hts gX7_strike_X5_put rfl rfl rfl (by decide +kernel) ⟨Nat.le_of_ble_eq_true rfl, Nat.le_of_ble_eq_true rfl⟩) (h_preV hK hw hS.2.2.2.2.2.2.2.1.1 rfl _) rfl rfl hl.1 rfl (lv_room (Nat.le_of_ble_eq_true rfl)) dX7_strike_50 ⟨Nat.le_of_ble_eq_true rfl, Nat.le_of_ble_eq_true rfl⟩) (fun H locs hw => ?_)
      refine lv_aload_n hx hb dX7_strike_53 rfl (lv_at hl 1 rfl) ?_
      refine h_getR hx hb hts hnX7_strike_X7 hown hK hw hS.1 rfl 3 (by decide) rfl hkX7_strike_31 dX7_strike_54 ?_
      refine h_getR hx hb hts hnX7_strike_X2 hown hK hw hS.2.2.2.2.1.1 rfl 1 (by decide) rfl hkX7_strike_108 dX7_strike_57 ?_
      refine h_getR hx hb hts hnX7_strike_X0 hown hK hw hS.2.2.2.2.1.2.2.2.1.1 rfl 4 (by decide) rfl hkX7_strike_149 dX7_strike_60 ?_
      refine lv_iload_n hx hb dX7_strike_63 rfl (lv_at hl 0 rfl) ?_
      refine lv_iconst (v := 2) hx hb dX7_strike_64 (by decide) ?_
      obtain ⟨hi6, h⟩ := gd_s h
      obtain ⟨f7, ef7, h⟩ := lt_s2 h
      refine h_iast (g := f7) ef7 hx hb hK hw hS.2.2.2.2.1.2.2.2.1.2.2.2.2.1 hi6 dX7_strike_65 (fun H locs hw => ?_)
      refine lv_aload_n hx hb dX7_strike_66 rfl (lv_at hl 1 rfl) ?_
      refine h_getR hx hb hts hnX7_strike_X7 hown hK hw hS.1 rfl 3 (by decide) rfl hkX7_strike_31 dX7_strike_67 ?_
      obtain ⟨r8, f9, ef9, h⟩ := b2_s h
      refine h_callQ hw (va_runV (As := []) (rest := []) ⟨hx, hb, hml, hown, hts⟩ (mX2_countHeld l D ac ad S 19 3 f7 r8 f9 hS.2.2.2.2.1 ef9) (cwV 0 hts gX7_strike_X2_countHeld rfl rfl rfl (by decide +kernel) ⟨Nat.le_of_ble_eq_true rfl, Nat.le_of_ble_eq_true rfl⟩) (h_preV hK hw hS.2.2.2.2.1.1 rfl _) rfl rfl hl.1 rfl (lv_room (Nat.le_of_ble_eq_true rfl)) dX7_strike_70 ⟨Nat.le_of_ble_eq_true rfl, Nat.le_of_ble_eq_true rfl⟩) (fun H locs hw => ?_)
      exact h_retQ hx hb hr hlocks hw rfl (so2 h) dX7_strike_73
    · have h := ie hc4 h
      refine lv_bipush (v := (-2)) hx hb dX7_strike_36 (by decide) ?_
      exact h_retQ hx hb hr hlocks hw rfl (so2 h) dX7_strike_38
  · have h := it hc2 h
    refine lv_iconst (v := (-1)) hx hb dX7_strike_18 (by decide) ?_
    exact h_retQ hx hb hr hlocks hw rfl (so2 h) dX7_strike_19

theorem hnX7_pass_X7 : ∀ w ∈ wsX70, w ∈ wsX7_pass := by decide +kernel
theorem hkX7_pass_50 : Cond.fieldLink RX7 50 (TX7 6).1 (TX7 6).2.1 (TX7 6).2.2.1 ∈ wsX7_pass := by decide +kernel
theorem hkX7_pass_31 : Cond.fieldLink RX7 31 (TX7 3).1 (TX7 3).2.1 (TX7 3).2.2.1 ∈ wsX7_pass := by decide +kernel
theorem hnX7_pass_X2 : ∀ w ∈ wsX20, w ∈ wsX7_pass := by decide +kernel
theorem hkX7_pass_108 : Cond.fieldLink RX7 108 (TX2 1).1 (TX2 1).2.1 (TX2 1).2.2.1 ∈ wsX7_pass := by decide +kernel
theorem hnX7_pass_X0 : ∀ w ∈ wsX00, w ∈ wsX7_pass := by decide +kernel
theorem hkX7_pass_205 : Cond.fieldLink RX7 205 (TX0 0).1 (TX0 0).2.1 (TX0 0).2.2.1 ∈ wsX7_pass := by decide +kernel
set_option maxHeartbeats 8000000 in
set_option maxRecDepth 100000 in
theorem mX7_pass (l : Launch) (D : va_G) (ac : Nat → ClassId) (ad : Nat → Nat) (S : List hSh) (f : hF) (x1 : Int32) (rv : Int32) (gv : hF) (hS : isPW S) (h : fX7_pass f x1 = some (rv, gv)) : Met l yX7_pass wsX7_pass ({ frames := 3, cells := 0, slots := 0, locals := 74 }) (hPc D ac ad S f [.ref (ad 0), .int x1]) (hQi D ac ad S rv gv) 0 0 (hAd ad S.length) := by
  refine h_enter (C := RX7) (cc := cX7_pass) (maxL := 2) (ret := (some .int)) (lv := [(0, .ref (ad 0)), (1, .int x1)]) (by decide) rfl rfl (Nat.le_of_ble_eq_true rfl) rfl (fun p e s m below meth c ls hx hb hml hr hlocks hown hts hK hw hl => ?_)
  unfold fX7_pass at h
  refine lv_iload_n hx hb dX7_pass_0 rfl (lv_at hl 1 rfl) ?_
  refine lv_iconst (v := 1) hx hb dX7_pass_1 (by decide) ?_
  refine lv_icmp_lt (tgt := 11) hx hb dX7_pass_2 (by decide) (fun hc1 => ?_) (fun hc1 => ?_)
  · have h := it hc1 h
    refine lv_iconst (v := (-1)) hx hb dX7_pass_11 (by decide) ?_
    exact h_retQ hx hb hr hlocks hw rfl (so2 h) dX7_pass_12
  · have h := ie hc1 h
    refine lv_iload_n hx hb dX7_pass_5 rfl (lv_at hl 1 rfl) ?_
    refine lv_bipush (v := 30) hx hb dX7_pass_6 (by decide) ?_
    refine lv_icmp_le (tgt := 13) hx hb dX7_pass_8 (by decide) (fun hc2 => ?_) (fun hc2 => ?_)
    · have h := it hc2 h
      refine lv_aload_n hx hb dX7_pass_13 rfl (lv_at hl 0 rfl) ?_
      refine h_getR hx hb hts hnX7_pass_X7 hown hK hw hS.1 rfl 6 (by decide) rfl hkX7_pass_50 dX7_pass_14 ?_
      refine lv_aload_n hx hb dX7_pass_17 rfl (lv_at hl 0 rfl) ?_
      refine h_getR hx hb hts hnX7_pass_X7 hown hK hw hS.1 rfl 3 (by decide) rfl hkX7_pass_31 dX7_pass_18 ?_
      refine h_getR hx hb hts hnX7_pass_X2 hown hK hw hS.2.2.2.2.1.1 rfl 1 (by decide) rfl hkX7_pass_108 dX7_pass_21 ?_
      obtain ⟨f3, ef3, h⟩ := b1_s h
      refine h_callV hw (va_runV (As := [.ref (ad 20)]) (rest := []) ⟨hx, hb, hml, hown, hts⟩ (mX5_put l D ac ad S 52 8 20 f f3 hS.2.2.2.2.2.2.2.1 hS.2.2.2.2.1.2.2.2.1 ef3) (cwV 1 hts gX7_pass_X5_put rfl rfl rfl (by decide +kernel) ⟨Nat.le_of_ble_eq_true rfl, Nat.le_of_ble_eq_true rfl⟩) (h_preV hK hw hS.2.2.2.2.2.2.2.1.1 rfl _) rfl rfl hl.1 rfl (lv_room (Nat.le_of_ble_eq_true rfl)) dX7_pass_24 ⟨Nat.le_of_ble_eq_true rfl, Nat.le_of_ble_eq_true rfl⟩) (fun H locs hw => ?_)
      refine lv_aload_n hx hb dX7_pass_27 rfl (lv_at hl 0 rfl) ?_
      refine h_getR hx hb hts hnX7_pass_X7 hown hK hw hS.1 rfl 3 (by decide) rfl hkX7_pass_31 dX7_pass_28 ?_
      refine h_getR hx hb hts hnX7_pass_X2 hown hK hw hS.2.2.2.2.1.1 rfl 1 (by decide) rfl hkX7_pass_108 dX7_pass_31 ?_
      refine lv_dup hx hb dX7_pass_34 rfl ?_
      refine h_getI hx hb hts hnX7_pass_X0 hown hK hw hS.2.2.2.2.1.2.2.2.1.1 rfl 0 (by decide) rfl hkX7_pass_205 dX7_pass_35 ?_
      refine lv_iload_n hx hb dX7_pass_38 rfl (lv_at hl 1 rfl) ?_
      refine lv_iadd hx hb dX7_pass_39 ?_
      obtain ⟨f4, ef4, h⟩ := lt_s2 h
      refine h_putI (g := f4) ef4 hx hb hts hnX7_pass_X0 tyX0 tyX0_ok nmX0 hown hK hw hS.2.2.2.2.1.2.2.2.1.1 rfl 0 rfl (by decide) rfl hkX7_pass_205 rfl (by decide +kernel) dX7_pass_40 (fun H locs hw => ?_)
      refine lv_aload_n hx hb dX7_pass_43 rfl (lv_at hl 0 rfl) ?_
      refine h_getR hx hb hts hnX7_pass_X7 hown hK hw hS.1 rfl 3 (by decide) rfl hkX7_pass_31 dX7_pass_44 ?_
      refine h_getR hx hb hts hnX7_pass_X2 hown hK hw hS.2.2.2.2.1.1 rfl 1 (by decide) rfl hkX7_pass_108 dX7_pass_47 ?_
      refine h_getI hx hb hts hnX7_pass_X0 hown hK hw hS.2.2.2.2.1.2.2.2.1.1 rfl 0 (by decide) rfl hkX7_pass_205 dX7_pass_50 ?_
      exact h_retQ hx hb hr hlocks hw rfl (so2 h) dX7_pass_53
    · have h := ie hc2 h
      refine lv_iconst (v := (-1)) hx hb dX7_pass_11 (by decide) ?_
      exact h_retQ hx hb hr hlocks hw rfl (so2 h) dX7_pass_12

theorem hnX5_takeInto_X5 : ∀ w ∈ wsX50, w ∈ wsX5_takeInto := by decide +kernel
theorem hkX5_takeInto_16 : Cond.fieldLink RX5 16 (TX5 1).1 (TX5 1).2.1 (TX5 1).2.2.1 ∈ wsX5_takeInto := by decide +kernel
theorem hkX5_takeInto_9 : Cond.fieldLink RX5 9 (TX5 0).1 (TX5 0).2.1 (TX5 0).2.2.1 ∈ wsX5_takeInto := by decide +kernel
set_option maxHeartbeats 8000000 in
set_option maxRecDepth 100000 in
theorem mX5_takeInto (l : Launch) (D : va_G) (ac : Nat → ClassId) (ad : Nat → Nat) (S : List hSh) (k : Nat) (w : Nat) (o1 : Nat) (f : hF) (rv : Int32) (gv : hF) (hS : isSh S k w) (hA1 : isBk S o1) (h : fX5_takeInto k w o1 f = some (rv, gv)) : Met l yX5_takeInto wsX5_takeInto ({ frames := 2, cells := 0, slots := 0, locals := 53 }) (hPc D ac ad S f [.ref (ad k), .ref (ad o1)]) (hQi D ac ad S rv gv) 0 0 (hAd ad S.length) := by
  refine h_enter (C := RX5) (cc := cX5_takeInto) (maxL := 2) (ret := (some .boolean)) (lv := [(0, .ref (ad k)), (1, .ref (ad o1))]) (by decide) rfl rfl (Nat.le_of_ble_eq_true rfl) rfl (fun p e s m below meth c ls hx hb hml hr hlocks hown hts hK hw hl => ?_)
  unfold fX5_takeInto at h
  refine lv_aload_n hx hb dX5_takeInto_0 rfl (lv_at hl 0 rfl) ?_
  refine h_getI hx hb hts hnX5_takeInto_X5 hown hK hw hS.1 rfl 1 (by decide) rfl hkX5_takeInto_16 dX5_takeInto_1 ?_
  refine lv_iconst (v := 1) hx hb dX5_takeInto_4 (by decide) ?_
  refine lv_icmp_lt (tgt := 20) hx hb dX5_takeInto_5 (by decide) (fun hc1 => ?_) (fun hc1 => ?_)
  · have h := it hc1 h
    refine lv_iconst (v := 0) hx hb dX5_takeInto_20 (by decide) ?_
    exact h_retQ hx hb hr hlocks hw rfl (so2 h) dX5_takeInto_21
  · have h := ie hc1 h
    refine lv_aload_n hx hb dX5_takeInto_8 rfl (lv_at hl 0 rfl) ?_
    refine h_getI hx hb hts hnX5_takeInto_X5 hown hK hw hS.1 rfl 1 (by decide) rfl hkX5_takeInto_16 dX5_takeInto_9 ?_
    refine lv_aload_n hx hb dX5_takeInto_12 rfl (lv_at hl 0 rfl) ?_
    refine h_getR hx hb hts hnX5_takeInto_X5 hown hK hw hS.1 rfl 0 (by decide) rfl hkX5_takeInto_9 dX5_takeInto_13 ?_
    refine h_alen (v := (Int32.ofNat w)) hx hb hK hw hS.2.1 (by decide) rfl dX5_takeInto_16 ?_
    refine lv_icmp_le (tgt := 22) hx hb dX5_takeInto_17 (by decide) (fun hc2 => ?_) (fun hc2 => ?_)
    · have h := it hc2 h
      refine lv_aload_n hx hb dX5_takeInto_22 rfl (lv_at hl 0 rfl) ?_
      refine lv_dup hx hb dX5_takeInto_23 rfl ?_
      refine h_getI hx hb hts hnX5_takeInto_X5 hown hK hw hS.1 rfl 1 (by decide) rfl hkX5_takeInto_16 dX5_takeInto_24 ?_
      refine lv_iconst (v := 1) hx hb dX5_takeInto_27 (by decide) ?_
      refine lv_isub hx hb dX5_takeInto_28 ?_
      obtain ⟨f3, ef3, h⟩ := lt_s2 h
      refine h_putI (g := f3) ef3 hx hb hts hnX5_takeInto_X5 tyX5 tyX5_ok nmX5 hown hK hw hS.1 rfl 1 rfl (by decide) rfl hkX5_takeInto_16 rfl (by decide +kernel) dX5_takeInto_29 (fun H locs hw => ?_)
      refine lv_aload_n hx hb dX5_takeInto_32 rfl (lv_at hl 1 rfl) ?_
      refine lv_aload_n hx hb dX5_takeInto_33 rfl (lv_at hl 0 rfl) ?_
      refine h_getR hx hb hts hnX5_takeInto_X5 hown hK hw hS.1 rfl 0 (by decide) rfl hkX5_takeInto_9 dX5_takeInto_34 ?_
      refine lv_aload_n hx hb dX5_takeInto_37 rfl (lv_at hl 0 rfl) ?_
      refine h_getI hx hb hts hnX5_takeInto_X5 hown hK hw hS.1 rfl 1 (by decide) rfl hkX5_takeInto_16 dX5_takeInto_38 ?_
      obtain ⟨hi4, h⟩ := gd_s h
      obtain ⟨b5, eb5, cb5, h⟩ := ckB_s h
      have hb5 : isBk S b5 := ckB_b hS.2.2.1 cb5
      have pb5 : 0 < b5 := ckB_p cb5
      refine h_aald (t := b5) eb5 hS.2.2.2 hb5.1 (ckB_p cb5) hx hb hK hw hS.2.1 hi4 dX5_takeInto_41 ?_
      obtain ⟨f6, ef6, h⟩ := b1_s h
      refine h_callV hw (va_runV (As := [.ref (ad b5)]) (rest := []) ⟨hx, hb, hml, hown, hts⟩ (mX0_copyFrom l D ac ad S o1 b5 f3 f6 hA1 hb5 ef6) (cwV 1 hts gX5_takeInto_X0_copyFrom rfl rfl rfl (by decide +kernel) ⟨Nat.le_of_ble_eq_true rfl, Nat.le_of_ble_eq_true rfl⟩) (h_preV hK hw hA1.1 rfl _) rfl rfl hl.1 rfl (lv_room (Nat.le_of_ble_eq_true rfl)) dX5_takeInto_42 ⟨Nat.le_of_ble_eq_true rfl, Nat.le_of_ble_eq_true rfl⟩) (fun H locs hw => ?_)
      refine lv_iconst (v := 1) hx hb dX5_takeInto_45 (by decide) ?_
      exact h_retQ hx hb hr hlocks hw rfl (so2 h) dX5_takeInto_46
    · have h := ie hc2 h
      refine lv_iconst (v := 0) hx hb dX5_takeInto_20 (by decide) ?_
      exact h_retQ hx hb hr hlocks hw rfl (so2 h) dX5_takeInto_21

theorem hnX7_undo_X7 : ∀ w ∈ wsX70, w ∈ wsX7_undo := by decide +kernel
theorem hkX7_undo_50 : Cond.fieldLink RX7 50 (TX7 6).1 (TX7 6).2.1 (TX7 6).2.2.1 ∈ wsX7_undo := by decide +kernel
theorem hkX7_undo_31 : Cond.fieldLink RX7 31 (TX7 3).1 (TX7 3).2.1 (TX7 3).2.2.1 ∈ wsX7_undo := by decide +kernel
theorem hnX7_undo_X2 : ∀ w ∈ wsX20, w ∈ wsX7_undo := by decide +kernel
theorem hkX7_undo_108 : Cond.fieldLink RX7 108 (TX2 1).1 (TX2 1).2.1 (TX2 1).2.2.1 ∈ wsX7_undo := by decide +kernel
theorem hnX7_undo_X5 : ∀ w ∈ wsX50, w ∈ wsX7_undo := by decide +kernel
theorem hkX7_undo_92 : Cond.fieldLink RX7 92 (TX5 1).1 (TX5 1).2.1 (TX5 1).2.2.1 ∈ wsX7_undo := by decide +kernel
set_option maxHeartbeats 8000000 in
set_option maxRecDepth 100000 in
theorem mX7_undo (l : Launch) (D : va_G) (ac : Nat → ClassId) (ad : Nat → Nat) (S : List hSh) (f : hF) (rv : Int32) (gv : hF) (hS : isPW S) (h : fX7_undo f = some (rv, gv)) : Met l yX7_undo wsX7_undo ({ frames := 3, cells := 0, slots := 0, locals := 74 }) (hPc D ac ad S f [.ref (ad 0)]) (hQi D ac ad S rv gv) 0 0 (hAd ad S.length) := by
  refine h_enter (C := RX7) (cc := cX7_undo) (maxL := 1) (ret := (some .int)) (lv := [(0, .ref (ad 0))]) (by decide) rfl rfl (Nat.le_of_ble_eq_true rfl) rfl (fun p e s m below meth c ls hx hb hml hr hlocks hown hts hK hw hl => ?_)
  unfold fX7_undo at h
  refine lv_aload_n hx hb dX7_undo_0 rfl (lv_at hl 0 rfl) ?_
  refine h_getR hx hb hts hnX7_undo_X7 hown hK hw hS.1 rfl 6 (by decide) rfl hkX7_undo_50 dX7_undo_1 ?_
  refine lv_aload_n hx hb dX7_undo_4 rfl (lv_at hl 0 rfl) ?_
  refine h_getR hx hb hts hnX7_undo_X7 hown hK hw hS.1 rfl 3 (by decide) rfl hkX7_undo_31 dX7_undo_5 ?_
  refine h_getR hx hb hts hnX7_undo_X2 hown hK hw hS.2.2.2.2.1.1 rfl 1 (by decide) rfl hkX7_undo_108 dX7_undo_8 ?_
  obtain ⟨r1, f2, ef2, h⟩ := b2_s h
  refine h_callQ hw (va_runV (As := [.ref (ad 20)]) (rest := []) ⟨hx, hb, hml, hown, hts⟩ (mX5_takeInto l D ac ad S 52 8 20 f r1 f2 hS.2.2.2.2.2.2.2.1 hS.2.2.2.2.1.2.2.2.1 ef2) (cwV 1 hts gX7_undo_X5_takeInto rfl rfl rfl (by decide +kernel) ⟨Nat.le_of_ble_eq_true rfl, Nat.le_of_ble_eq_true rfl⟩) (h_preV hK hw hS.2.2.2.2.2.2.2.1.1 rfl _) rfl rfl hl.1 rfl (lv_room (Nat.le_of_ble_eq_true rfl)) dX7_undo_11 ⟨Nat.le_of_ble_eq_true rfl, Nat.le_of_ble_eq_true rfl⟩) (fun H locs hw => ?_)
  refine lv_if_eq (tgt := 27) hx hb dX7_undo_14 (by decide) (fun hc3 => ?_) (fun hc3 => ?_)
  · have h := it hc3 h
    refine lv_bipush (v := (-2)) hx hb dX7_undo_27 (by decide) ?_
    exact h_retQ hx hb hr hlocks hw rfl (so2 h) dX7_undo_29
  · have h := ie hc3 h
    refine lv_aload_n hx hb dX7_undo_17 rfl (lv_at hl 0 rfl) ?_
    refine h_getR hx hb hts hnX7_undo_X7 hown hK hw hS.1 rfl 6 (by decide) rfl hkX7_undo_50 dX7_undo_18 ?_
    refine h_getI hx hb hts hnX7_undo_X5 hown hK hw hS.2.2.2.2.2.2.2.1.1 rfl 1 (by decide) rfl hkX7_undo_92 dX7_undo_21 ?_
    refine lv_goto (tgt := 29) hx hb dX7_undo_24 (by decide) ?_
    exact h_retQ hx hb hr hlocks hw rfl (so2 h) dX7_undo_29

set_option maxHeartbeats 8000000 in
set_option maxRecDepth 100000 in
theorem mX7_isDay (l : Launch) (D : va_G) (ac : Nat → ClassId) (ad : Nat → Nat) (S : List hSh) (f : hF) (x0 : Int32) (rv : Int32) (h : fX7_isDay x0 = some rv) : Met l yX7_isDay wsX7_isDay ({ frames := 0, cells := 0, slots := 0, locals := 0 }) (hPc D ac ad S f [.int x0]) (hRi rv) 0 0 hNo := by
  refine h_enter (C := RX7) (cc := cX7_isDay) (maxL := 1) (ret := (some .boolean)) (lv := [(0, .int x0)]) (by decide) rfl rfl (Nat.le_of_ble_eq_true rfl) rfl (fun p e s m below meth c ls hx hb hml hr hlocks hown hts hK hw hl => ?_)
  unfold fX7_isDay at h
  refine lv_iload_n hx hb dX7_isDay_0 rfl (lv_at hl 0 rfl) ?_
  refine lv_if_lt (tgt := 15) hx hb dX7_isDay_1 (by decide) (fun hc1 => ?_) (fun hc1 => ?_)
  · have h := it hc1 h
    refine lv_iconst (v := 0) hx hb dX7_isDay_15 (by decide) ?_
    exact h_retR hx hb hr hlocks rfl (so1 h) dX7_isDay_16
  · have h := ie hc1 h
    refine lv_iload_n hx hb dX7_isDay_4 rfl (lv_at hl 0 rfl) ?_
    refine lv_sipush (v := 999) hx hb dX7_isDay_5 (by decide) ?_
    refine lv_icmp_gt (tgt := 15) hx hb dX7_isDay_8 (by decide) (fun hc2 => ?_) (fun hc2 => ?_)
    · have h := it hc2 h
      refine lv_iconst (v := 0) hx hb dX7_isDay_15 (by decide) ?_
      exact h_retR hx hb hr hlocks rfl (so1 h) dX7_isDay_16
    · have h := ie hc2 h
      refine lv_iconst (v := 1) hx hb dX7_isDay_11 (by decide) ?_
      refine lv_goto (tgt := 16) hx hb dX7_isDay_12 (by decide) ?_
      exact h_retR hx hb hr hlocks rfl (so1 h) dX7_isDay_16

theorem hnX7_mate_X7 : ∀ w ∈ wsX70, w ∈ wsX7_mate := by decide +kernel
theorem hkX7_mate_19 : Cond.fieldLink RX7 19 (TX7 1).1 (TX7 1).2.1 (TX7 1).2.2.1 ∈ wsX7_mate := by decide +kernel
theorem hkX7_mate_31 : Cond.fieldLink RX7 31 (TX7 3).1 (TX7 3).2.1 (TX7 3).2.2.1 ∈ wsX7_mate := by decide +kernel
set_option maxHeartbeats 8000000 in
set_option maxRecDepth 100000 in
theorem mX7_mate (l : Launch) (D : va_G) (ac : Nat → ClassId) (ad : Nat → Nat) (S : List hSh) (f : hF) (x1 : Int32) (x2 : Int32) (rv : Int32) (gv : hF) (hS : isPW S) (h : fX7_mate f x1 x2 = some (rv, gv)) : Met l yX7_mate wsX7_mate ({ frames := 5, cells := 0, slots := 0, locals := 110 }) (hPc D ac ad S f [.ref (ad 0), .int x1, .int x2]) (hQi D ac ad S rv gv) 0 0 (hAd ad S.length) := by
  refine h_enter (C := RX7) (cc := cX7_mate) (maxL := 3) (ret := (some .int)) (lv := [(0, .ref (ad 0)), (1, .int x1), (2, .int x2)]) (by decide) rfl rfl (Nat.le_of_ble_eq_true rfl) rfl (fun p e s m below meth c ls hx hb hml hr hlocks hown hts hK hw hl => ?_)
  unfold fX7_mate at h
  refine lv_aload_n hx hb dX7_mate_0 rfl (lv_at hl 0 rfl) ?_
  refine h_getR hx hb hts hnX7_mate_X7 hown hK hw hS.1 rfl 1 (by decide) rfl hkX7_mate_19 dX7_mate_1 ?_
  refine lv_iload_n hx hb dX7_mate_4 rfl (lv_at hl 1 rfl) ?_
  obtain ⟨r1, er1, h⟩ := b1_s h
  refine h_callR (va_runV (As := [.int x1]) (rest := []) ⟨hx, hb, hml, hown, hts⟩ (mX3_isPerson l D ac ad S 3 f x1 r1 hS.2.2.1 er1) (cwV 1 hts gX7_mate_X3_isPerson rfl rfl rfl (by decide +kernel) ⟨Nat.le_of_ble_eq_true rfl, Nat.le_of_ble_eq_true rfl⟩) (h_preV hK hw hS.2.2.1.1 rfl _) rfl rfl hl.1 rfl (lv_room (Nat.le_of_ble_eq_true rfl)) dX7_mate_5 ⟨Nat.le_of_ble_eq_true rfl, Nat.le_of_ble_eq_true rfl⟩) ?_
  refine lv_if_eq (tgt := 18) hx hb dX7_mate_8 (by decide) (fun hc2 => ?_) (fun hc2 => ?_)
  · have h := it hc2 h
    refine lv_iconst (v := (-1)) hx hb dX7_mate_18 (by decide) ?_
    exact h_retQ hx hb hr hlocks hw rfl (so2 h) dX7_mate_19
  · have h := ie hc2 h
    refine lv_iload_n hx hb dX7_mate_11 rfl (lv_at hl 2 rfl) ?_
    obtain ⟨r3, er3, h⟩ := b1_s h
    refine h_callR (va_runS (As := [.int x2]) (rest := []) ⟨hx, hb, hml, hown, hts⟩ (mX7_isDay l D ac ad S f x2 r3  er3) (va_cwS 1 hts gX7_mate_X7_isDay rfl rfl rfl (by decide +kernel) ⟨Nat.le_of_ble_eq_true rfl, Nat.le_of_ble_eq_true rfl⟩) (h_preS hK hw _) rfl rfl hl.1 rfl (lv_room (Nat.le_of_ble_eq_true rfl)) dX7_mate_12 ⟨Nat.le_of_ble_eq_true rfl, Nat.le_of_ble_eq_true rfl⟩) ?_
    refine lv_if_ne (tgt := 20) hx hb dX7_mate_15 (by decide) (fun hc4 => ?_) (fun hc4 => ?_)
    · have h := ie hc4 h
      refine lv_aload_n hx hb dX7_mate_20 rfl (lv_at hl 0 rfl) ?_
      refine h_getR hx hb hts hnX7_mate_X7 hown hK hw hS.1 rfl 3 (by decide) rfl hkX7_mate_31 dX7_mate_21 ?_
      refine lv_iload_n hx hb dX7_mate_24 rfl (lv_at hl 1 rfl) ?_
      refine lv_iload_n hx hb dX7_mate_25 rfl (lv_at hl 2 rfl) ?_
      obtain ⟨r5, f6, ef6, h⟩ := b2_s h
      refine h_callQ hw (va_runV (As := [.int x1, .int x2]) (rest := []) ⟨hx, hb, hml, hown, hts⟩ (mX2_mateBy l D ac ad S 19 3 f x1 x2 r5 f6 hS.2.2.2.2.1 ef6) (cwV 2 hts gX7_mate_X2_mateBy rfl rfl rfl (by decide +kernel) ⟨Nat.le_of_ble_eq_true rfl, Nat.le_of_ble_eq_true rfl⟩) (h_preV hK hw hS.2.2.2.2.1.1 rfl _) rfl rfl hl.1 rfl (lv_room (Nat.le_of_ble_eq_true rfl)) dX7_mate_26 ⟨Nat.le_of_ble_eq_true rfl, Nat.le_of_ble_eq_true rfl⟩) (fun H locs hw => ?_)
      exact h_retQ hx hb hr hlocks hw rfl (so2 h) dX7_mate_29
    · have h := it hc4 h
      refine lv_iconst (v := (-1)) hx hb dX7_mate_18 (by decide) ?_
      exact h_retQ hx hb hr hlocks hw rfl (so2 h) dX7_mate_19

theorem hnX7_twice_X7 : ∀ w ∈ wsX70, w ∈ wsX7_twice := by decide +kernel
theorem hkX7_twice_19 : Cond.fieldLink RX7 19 (TX7 1).1 (TX7 1).2.1 (TX7 1).2.2.1 ∈ wsX7_twice := by decide +kernel
theorem hnX7_twice_X3 : ∀ w ∈ wsX30, w ∈ wsX7_twice := by decide +kernel
theorem hkX7_twice_83 : Cond.fieldLink RX7 83 (TX3 0).1 (TX3 0).2.1 (TX3 0).2.2.1 ∈ wsX7_twice := by decide +kernel
theorem hkX7_twice_31 : Cond.fieldLink RX7 31 (TX7 3).1 (TX7 3).2.1 (TX7 3).2.2.1 ∈ wsX7_twice := by decide +kernel
theorem hnX7_twice_X2 : ∀ w ∈ wsX20, w ∈ wsX7_twice := by decide +kernel
theorem hkX7_twice_108 : Cond.fieldLink RX7 108 (TX2 1).1 (TX2 1).2.1 (TX2 1).2.2.1 ∈ wsX7_twice := by decide +kernel
set_option maxHeartbeats 8000000 in
set_option maxRecDepth 100000 in
theorem mX7_twice (l : Launch) (D : va_G) (ac : Nat → ClassId) (ad : Nat → Nat) (S : List hSh) (f : hF) (rv : Int32) (hS : isPW S) (h : fX7_twice f = some rv) : Met l yX7_twice wsX7_twice ({ frames := 3, cells := 0, slots := 0, locals := 65 }) (hPc D ac ad S f [.ref (ad 0)]) (hRi rv) 0 0 hNo := by
  refine h_enter (C := RX7) (cc := cX7_twice) (maxL := 3) (ret := (some .int)) (lv := [(0, .ref (ad 0))]) (by decide) rfl rfl (Nat.le_of_ble_eq_true rfl) rfl (fun p e s m below meth c ls hx hb hml hr hlocks hown hts hK hw hl => ?_)
  have J4 : ∀ (n : Nat), (∀ (y1 : Int32) (y2 : Int32) (ls : Array Slot), lv_has ls 3 [(0, .ref (ad 0)), (1, .int y1), (2, .int y2)] → fX7_twice_4 f n y1 y2 = some rv → W p l e ({ frames := 3, cells := 0, slots := 0, locals := 65 } : Room) s m ([.ref (ad 0)] : List Value).toArray below meth c s.heap [] 0 0 (MQ below (hRi rv) ([.ref (ad 0)] : List Value).toArray s 0 0 hNo) (F0 m 4 ls [])) := by
    intro n
    induction n with
    | zero =>
      intro y1 y2 ls hl h
      rw [fX7_twice_4] at h
      cases h
    | succ n ih =>
      intro y1 y2 ls hl h
      rw [fX7_twice_4] at h
      refine lv_iload_n hx hb dX7_twice_4 rfl (lv_at hl 2 rfl) ?_
      refine lv_aload_n hx hb dX7_twice_5 rfl (lv_at hl 0 rfl) ?_
      refine h_getR hx hb hts hnX7_twice_X7 hown hK hw hS.1 rfl 1 (by decide) rfl hkX7_twice_19 dX7_twice_6 ?_
      refine h_getI hx hb hts hnX7_twice_X3 hown hK hw hS.2.2.1.1 rfl 0 (by decide) rfl hkX7_twice_83 dX7_twice_9 ?_
      refine lv_icmp_ge (tgt := 42) hx hb dX7_twice_12 (by decide) (fun hc1 => ?_) (fun hc1 => ?_)
      · have h := it hc1 h
        refine lv_iload_n hx hb dX7_twice_42 rfl (lv_at hl 1 rfl) ?_
        exact h_retR hx hb hr hlocks rfl (so1 h) dX7_twice_43
      · have h := ie hc1 h
        refine lv_aload_n hx hb dX7_twice_15 rfl (lv_at hl 0 rfl) ?_
        refine h_getR hx hb hts hnX7_twice_X7 hown hK hw hS.1 rfl 3 (by decide) rfl hkX7_twice_31 dX7_twice_16 ?_
        refine h_getR hx hb hts hnX7_twice_X2 hown hK hw hS.2.2.2.2.1.1 rfl 1 (by decide) rfl hkX7_twice_108 dX7_twice_19 ?_
        refine lv_iload_n hx hb dX7_twice_22 rfl (lv_at hl 2 rfl) ?_
        obtain ⟨r2, er2, h⟩ := b1_s h
        refine h_callR (va_runV (As := [.int y2]) (rest := []) ⟨hx, hb, hml, hown, hts⟩ (mX0_linesWith l D ac ad S 20 f y2 r2 hS.2.2.2.2.1.2.2.2.1 er2) (cwV 1 hts gX7_twice_X0_linesWith rfl rfl rfl (by decide +kernel) ⟨Nat.le_of_ble_eq_true rfl, Nat.le_of_ble_eq_true rfl⟩) (h_preV hK hw hS.2.2.2.2.1.2.2.2.1.1 rfl _) rfl rfl hl.1 rfl (lv_room (Nat.le_of_ble_eq_true rfl)) dX7_twice_23 ⟨Nat.le_of_ble_eq_true rfl, Nat.le_of_ble_eq_true rfl⟩) ?_
        refine lv_iconst (v := 2) hx hb dX7_twice_26 (by decide) ?_
        refine lv_icmp_lt (tgt := 36) hx hb dX7_twice_27 (by decide) (fun hc3 => ?_) (fun hc3 => ?_)
        · have h := it hc3 h
          refine lv_iinc (v := (y2 + 1)) (lv' := [(2, .int (y2 + 1)), (0, .ref (ad 0)), (1, .int y1)]) hx hb dX7_twice_36 hl (k := 2) rfl rfl (by decide) rfl (fun ls hl => ?_)
          refine lv_goto (tgt := 4) hx hb dX7_twice_39 (by decide) ?_
          exact ih y1 (y2 + 1) _ (lv_sub hl [1, 2, 0] rfl) h
        · have h := ie hc3 h
          refine lv_iload_n hx hb dX7_twice_30 rfl (lv_at hl 1 rfl) ?_
          refine lv_iconst (v := 1) hx hb dX7_twice_31 (by decide) ?_
          refine lv_iload_n hx hb dX7_twice_32 rfl (lv_at hl 2 rfl) ?_
          refine lv_ishl hx hb dX7_twice_33 ?_
          refine lv_ior hx hb dX7_twice_34 ?_
          refine lv_istore_n (lv' := [(1, .int (y1 ||| (1 <<< (y2 &&& 31)))), (0, .ref (ad 0)), (2, .int y2)]) hx hb dX7_twice_35 rfl hl (by decide) rfl (fun ls hl => ?_)
          refine lv_iinc (v := (y2 + 1)) (lv' := [(2, .int (y2 + 1)), (1, .int (y1 ||| (1 <<< (y2 &&& 31)))), (0, .ref (ad 0))]) hx hb dX7_twice_36 hl (k := 2) rfl rfl (by decide) rfl (fun ls hl => ?_)
          refine lv_goto (tgt := 4) hx hb dX7_twice_39 (by decide) ?_
          exact ih (y1 ||| (1 <<< (y2 &&& 31))) (y2 + 1) _ (lv_sub hl [2, 1, 0] rfl) h
  unfold fX7_twice at h
  refine lv_iconst (v := 0) hx hb dX7_twice_0 (by decide) ?_
  refine lv_istore_n (lv' := [(1, .int 0), (0, .ref (ad 0))]) hx hb dX7_twice_1 rfl hl (by decide) rfl (fun ls hl => ?_)
  refine lv_iconst (v := 0) hx hb dX7_twice_2 (by decide) ?_
  refine lv_istore_n (lv' := [(2, .int 0), (1, .int 0), (0, .ref (ad 0))]) hx hb dX7_twice_3 rfl hl (by decide) rfl (fun ls hl => ?_)
  exact J4 _ 0 0 _ (lv_sub hl [2, 1, 0] rfl) h

theorem hnX0_countOf_X0 : ∀ w ∈ wsX00, w ∈ wsX0_countOf := by decide +kernel
theorem hkX0_countOf_21 : Cond.fieldLink RX0 21 (TX0 4).1 (TX0 4).2.1 (TX0 4).2.2.1 ∈ wsX0_countOf := by decide +kernel
set_option maxHeartbeats 8000000 in
set_option maxRecDepth 100000 in
theorem mX0_countOf (l : Launch) (D : va_G) (ac : Nat → ClassId) (ad : Nat → Nat) (S : List hSh) (k : Nat) (f : hF) (x1 : Int32) (rv : Int32) (hS : isBk S k) (h : fX0_countOf k f x1 = some rv) : Met l yX0_countOf wsX0_countOf ({ frames := 1, cells := 0, slots := 0, locals := 21 }) (hPc D ac ad S f [.ref (ad k), .int x1]) (hRi rv) 0 0 hNo := by
  refine h_enter (C := RX0) (cc := cX0_countOf) (maxL := 4) (ret := (some .int)) (lv := [(0, .ref (ad k)), (1, .int x1)]) (by decide) rfl rfl (Nat.le_of_ble_eq_true rfl) rfl (fun p e s m below meth c ls hx hb hml hr hlocks hown hts hK hw hl => ?_)
  have J4 : ∀ (n : Nat), (∀ (y2 : Int32) (y3 : Int32) (ls : Array Slot), lv_has ls 4 [(0, .ref (ad k)), (1, .int x1), (2, .int y2), (3, .int y3)] → fX0_countOf_4 k f x1 n y2 y3 = some rv → W p l e ({ frames := 1, cells := 0, slots := 0, locals := 21 } : Room) s m ([.ref (ad k), .int x1] : List Value).toArray below meth c s.heap [] 0 0 (MQ below (hRi rv) ([.ref (ad k), .int x1] : List Value).toArray s 0 0 hNo) (F0 m 4 ls [])) := by
    intro n
    induction n with
    | zero =>
      intro y2 y3 ls hl h
      rw [fX0_countOf_4] at h
      cases h
    | succ n ih =>
      intro y2 y3 ls hl h
      rw [fX0_countOf_4] at h
      refine lv_iload_n hx hb dX0_countOf_4 rfl (lv_at hl 3 rfl) ?_
      refine lv_bipush (v := 24) hx hb dX0_countOf_5 (by decide) ?_
      refine lv_icmp_ge (tgt := 37) hx hb dX0_countOf_7 (by decide) (fun hc1 => ?_) (fun hc1 => ?_)
      · have h := it hc1 h
        refine lv_iload_n hx hb dX0_countOf_37 rfl (lv_at hl 2 rfl) ?_
        exact h_retR hx hb hr hlocks rfl (so1 h) dX0_countOf_38
      · have h := ie hc1 h
        refine lv_aload_n hx hb dX0_countOf_10 rfl (lv_at hl 0 rfl) ?_
        refine lv_iload_n hx hb dX0_countOf_11 rfl (lv_at hl 3 rfl) ?_
        obtain ⟨r2, er2, h⟩ := b1_s h
        refine h_callR (va_runV (As := [.int y3]) (rest := []) ⟨hx, hb, hml, hown, hts⟩ (mX0_isLine l D ac ad S k f y3 r2 hS er2) (cwV 1 hts gX0_countOf_X0_isLine rfl rfl rfl (by decide +kernel) ⟨Nat.le_of_ble_eq_true rfl, Nat.le_of_ble_eq_true rfl⟩) (h_preV hK hw hS.1 rfl _) rfl rfl hl.1 rfl (lv_room (Nat.le_of_ble_eq_true rfl)) dX0_countOf_12 ⟨Nat.le_of_ble_eq_true rfl, Nat.le_of_ble_eq_true rfl⟩) ?_
        refine lv_if_eq (tgt := 31) hx hb dX0_countOf_15 (by decide) (fun hc3 => ?_) (fun hc3 => ?_)
        · have h := it hc3 h
          refine lv_iinc (v := (y3 + 1)) (lv' := [(3, .int (y3 + 1)), (0, .ref (ad k)), (1, .int x1), (2, .int y2)]) hx hb dX0_countOf_31 hl (k := 3) rfl rfl (by decide) rfl (fun ls hl => ?_)
          refine lv_goto (tgt := 4) hx hb dX0_countOf_34 (by decide) ?_
          exact ih y2 (y3 + 1) _ (lv_sub hl [1, 2, 3, 0] rfl) h
        · have h := ie hc3 h
          refine lv_aload_n hx hb dX0_countOf_18 rfl (lv_at hl 0 rfl) ?_
          refine h_getR hx hb hts hnX0_countOf_X0 hown hK hw hS.1 rfl 4 (by decide) rfl hkX0_countOf_21 dX0_countOf_19 ?_
          refine lv_iload_n hx hb dX0_countOf_22 rfl (lv_at hl 3 rfl) ?_
          obtain ⟨hi4, h⟩ := gd_s h
          refine h_iald hx hb hK hw hS.2.2.2.2.1 hi4 dX0_countOf_23 ?_
          refine lv_iload_n hx hb dX0_countOf_24 rfl (lv_at hl 1 rfl) ?_
          refine lv_icmp_ne (tgt := 31) hx hb dX0_countOf_25 (by decide) (fun hc5 => ?_) (fun hc5 => ?_)
          · have h := ie hc5 h
            refine lv_iinc (v := (y3 + 1)) (lv' := [(3, .int (y3 + 1)), (0, .ref (ad k)), (1, .int x1), (2, .int y2)]) hx hb dX0_countOf_31 hl (k := 3) rfl rfl (by decide) rfl (fun ls hl => ?_)
            refine lv_goto (tgt := 4) hx hb dX0_countOf_34 (by decide) ?_
            exact ih y2 (y3 + 1) _ (lv_sub hl [1, 2, 3, 0] rfl) h
          · have h := it hc5 h
            refine lv_iinc (v := (y2 + 1)) (lv' := [(2, .int (y2 + 1)), (0, .ref (ad k)), (1, .int x1), (3, .int y3)]) hx hb dX0_countOf_28 hl (k := 2) rfl rfl (by decide) rfl (fun ls hl => ?_)
            refine lv_iinc (v := (y3 + 1)) (lv' := [(3, .int (y3 + 1)), (2, .int (y2 + 1)), (0, .ref (ad k)), (1, .int x1)]) hx hb dX0_countOf_31 hl (k := 3) rfl rfl (by decide) rfl (fun ls hl => ?_)
            refine lv_goto (tgt := 4) hx hb dX0_countOf_34 (by decide) ?_
            exact ih (y2 + 1) (y3 + 1) _ (lv_sub hl [2, 3, 1, 0] rfl) h
  unfold fX0_countOf at h
  refine lv_iconst (v := 0) hx hb dX0_countOf_0 (by decide) ?_
  refine lv_istore_n (lv' := [(2, .int 0), (0, .ref (ad k)), (1, .int x1)]) hx hb dX0_countOf_1 rfl hl (by decide) rfl (fun ls hl => ?_)
  refine lv_iconst (v := 0) hx hb dX0_countOf_2 (by decide) ?_
  refine lv_istore_n (lv' := [(3, .int 0), (2, .int 0), (0, .ref (ad k)), (1, .int x1)]) hx hb dX0_countOf_3 rfl hl (by decide) rfl (fun ls hl => ?_)
  exact J4 _ 0 0 _ (lv_sub hl [2, 3, 1, 0] rfl) h

theorem hnX2_linkPersons_X2 : ∀ w ∈ wsX20, w ∈ wsX2_linkPersons := by decide +kernel
theorem hkX2_linkPersons_12 : Cond.fieldLink RX2 12 (TX2 1).1 (TX2 1).2.1 (TX2 1).2.2.1 ∈ wsX2_linkPersons := by decide +kernel
theorem hkX2_linkPersons_31 : Cond.fieldLink RX2 31 (TX2 0).1 (TX2 0).2.1 (TX2 0).2.2.1 ∈ wsX2_linkPersons := by decide +kernel
theorem hnX2_linkPersons_X0 : ∀ w ∈ wsX00, w ∈ wsX2_linkPersons := by decide +kernel
theorem hkX2_linkPersons_139 : Cond.fieldLink RX2 139 (TX0 6).1 (TX0 6).2.1 (TX0 6).2.2.1 ∈ wsX2_linkPersons := by decide +kernel
theorem hkX2_linkPersons_142 : Cond.fieldLink RX2 142 (TX0 7).1 (TX0 7).2.1 (TX0 7).2.2.1 ∈ wsX2_linkPersons := by decide +kernel
theorem hkX2_linkPersons_27 : Cond.fieldLink RX2 27 (TX2 3).1 (TX2 3).2.1 (TX2 3).2.2.1 ∈ wsX2_linkPersons := by decide +kernel
set_option maxHeartbeats 8000000 in
set_option maxRecDepth 100000 in
theorem mX2_linkPersons (l : Launch) (D : va_G) (ac : Nat → ClassId) (ad : Nat → Nat) (S : List hSh) (k : Nat) (ro : Nat) (f : hF) (gv : hF) (hS : isHo S k ro) (h : fX2_linkPersons k ro f = some gv) : Met l yX2_linkPersons wsX2_linkPersons ({ frames := 2, cells := 0, slots := 0, locals := 42 }) (hPc D ac ad S f [.ref (ad k)]) (hQv D ac ad S gv) 0 0 (hAd ad S.length) := by
  refine h_enter (C := RX2) (cc := cX2_linkPersons) (maxL := 2) (ret := none) (lv := [(0, .ref (ad k))]) (by decide) rfl rfl (Nat.le_of_ble_eq_true rfl) rfl (fun p e s m below meth c ls hx hb hml hr hlocks hown hts hK hw hl => ?_)
  have J23 : ∀ (n : Nat), (∀ (f : hF) (y1 : Int32) (H : Heap) (locs : List Loc) (ls : Array Slot), hOk D ac ad S (hAd ad S.length) s.heap f H locs → lv_has ls 2 [(0, .ref (ad k)), (1, .int y1)] → fX2_linkPersons_23 k ro n f y1 = some gv → W p l e ({ frames := 2, cells := 0, slots := 0, locals := 42 } : Room) s m ([.ref (ad k)] : List Value).toArray below meth c H locs 0 0 (MQ below (hQv D ac ad S gv) ([.ref (ad k)] : List Value).toArray s 0 0 (hAd ad S.length)) (F0 m 23 ls [])) := by
    intro n
    induction n with
    | zero =>
      intro f y1 H locs ls hw hl h
      rw [fX2_linkPersons_23] at h
      cases h
    | succ n ih =>
      intro f y1 H locs ls hw hl h
      rw [fX2_linkPersons_23] at h
      refine lv_iload_n hx hb dX2_linkPersons_23 rfl (lv_at hl 1 rfl) ?_
      refine lv_bipush (v := 24) hx hb dX2_linkPersons_24 (by decide) ?_
      refine lv_icmp_ge (tgt := 102) hx hb dX2_linkPersons_26 (by decide) (fun hc1 => ?_) (fun hc1 => ?_)
      · have h := it hc1 h
        exact h_retV hx hb hr hlocks hw (so1 h) dX2_linkPersons_102
      · have h := ie hc1 h
        refine lv_aload_n hx hb dX2_linkPersons_29 rfl (lv_at hl 0 rfl) ?_
        refine h_getR hx hb hts hnX2_linkPersons_X2 hown hK hw hS.1 rfl 1 (by decide) rfl hkX2_linkPersons_12 dX2_linkPersons_30 ?_
        refine lv_iload_n hx hb dX2_linkPersons_33 rfl (lv_at hl 1 rfl) ?_
        obtain ⟨r2, er2, h⟩ := b1_s h
        refine h_callR (va_runV (As := [.int y1]) (rest := []) ⟨hx, hb, hml, hown, hts⟩ (mX0_isOfTwo l D ac ad S (k+1) f y1 r2 hS.2.2.2.1 er2) (cwV 1 hts gX2_linkPersons_X0_isOfTwo rfl rfl rfl (by decide +kernel) ⟨Nat.le_of_ble_eq_true rfl, Nat.le_of_ble_eq_true rfl⟩) (h_preV hK hw hS.2.2.2.1.1 rfl _) rfl rfl hl.1 rfl (lv_room (Nat.le_of_ble_eq_true rfl)) dX2_linkPersons_34 ⟨Nat.le_of_ble_eq_true rfl, Nat.le_of_ble_eq_true rfl⟩) ?_
        refine lv_if_eq (tgt := 96) hx hb dX2_linkPersons_37 (by decide) (fun hc3 => ?_) (fun hc3 => ?_)
        · have h := it hc3 h
          refine lv_iinc (v := (y1 + 1)) (lv' := [(1, .int (y1 + 1)), (0, .ref (ad k))]) hx hb dX2_linkPersons_96 hl (k := 1) rfl rfl (by decide) rfl (fun ls hl => ?_)
          refine lv_goto (tgt := 23) hx hb dX2_linkPersons_99 (by decide) ?_
          exact ih f (y1 + 1) _ _ _ hw (lv_sub hl [1, 0] rfl) h
        · have h := ie hc3 h
          refine lv_aload_n hx hb dX2_linkPersons_40 rfl (lv_at hl 0 rfl) ?_
          refine h_getR hx hb hts hnX2_linkPersons_X2 hown hK hw hS.1 rfl 0 (by decide) rfl hkX2_linkPersons_31 dX2_linkPersons_41 ?_
          refine lv_aload_n hx hb dX2_linkPersons_44 rfl (lv_at hl 0 rfl) ?_
          refine h_getR hx hb hts hnX2_linkPersons_X2 hown hK hw hS.1 rfl 1 (by decide) rfl hkX2_linkPersons_12 dX2_linkPersons_45 ?_
          refine h_getR hx hb hts hnX2_linkPersons_X0 hown hK hw hS.2.2.2.1.1 rfl 6 (by decide) rfl hkX2_linkPersons_139 dX2_linkPersons_48 ?_
          refine lv_iload_n hx hb dX2_linkPersons_51 rfl (lv_at hl 1 rfl) ?_
          obtain ⟨hi4, h⟩ := gd_s h
          refine h_iald hx hb hK hw hS.2.2.2.1.2.2.2.2.2.2.1 hi4 dX2_linkPersons_52 ?_
          refine lv_aload_n hx hb dX2_linkPersons_53 rfl (lv_at hl 0 rfl) ?_
          refine h_getR hx hb hts hnX2_linkPersons_X2 hown hK hw hS.1 rfl 1 (by decide) rfl hkX2_linkPersons_12 dX2_linkPersons_54 ?_
          refine h_getR hx hb hts hnX2_linkPersons_X0 hown hK hw hS.2.2.2.1.1 rfl 7 (by decide) rfl hkX2_linkPersons_142 dX2_linkPersons_57 ?_
          refine lv_iload_n hx hb dX2_linkPersons_60 rfl (lv_at hl 1 rfl) ?_
          obtain ⟨hi5, h⟩ := gd_s h
          refine h_iald hx hb hK hw hS.2.2.2.1.2.2.2.2.2.2.2.1 hi5 dX2_linkPersons_61 ?_
          obtain ⟨r6, er6, h⟩ := b1_s h
          refine h_callR (va_runV (As := [.int (f ((k+1)+6) y1.toNatClampNeg), .int (f ((k+1)+7) y1.toNatClampNeg)]) (rest := []) ⟨hx, hb, hml, hown, hts⟩ (mX3_areTwo l D ac ad S ro f (f ((k+1)+6) y1.toNatClampNeg) (f ((k+1)+7) y1.toNatClampNeg) r6 hS.2.2.1 er6) (cwV 2 hts gX2_linkPersons_X3_areTwo rfl rfl rfl (by decide +kernel) ⟨Nat.le_of_ble_eq_true rfl, Nat.le_of_ble_eq_true rfl⟩) (h_preV hK hw hS.2.2.1.1 rfl _) rfl rfl hl.1 rfl (lv_room (Nat.le_of_ble_eq_true rfl)) dX2_linkPersons_62 ⟨Nat.le_of_ble_eq_true rfl, Nat.le_of_ble_eq_true rfl⟩) ?_
          refine lv_if_eq (tgt := 96) hx hb dX2_linkPersons_65 (by decide) (fun hc7 => ?_) (fun hc7 => ?_)
          · have h := it hc7 h
            refine lv_iinc (v := (y1 + 1)) (lv' := [(1, .int (y1 + 1)), (0, .ref (ad k))]) hx hb dX2_linkPersons_96 hl (k := 1) rfl rfl (by decide) rfl (fun ls hl => ?_)
            refine lv_goto (tgt := 23) hx hb dX2_linkPersons_99 (by decide) ?_
            exact ih f (y1 + 1) _ _ _ hw (lv_sub hl [1, 0] rfl) h
          · have h := ie hc7 h
            refine lv_aload_n hx hb dX2_linkPersons_68 rfl (lv_at hl 0 rfl) ?_
            refine h_getR hx hb hts hnX2_linkPersons_X2 hown hK hw hS.1 rfl 3 (by decide) rfl hkX2_linkPersons_27 dX2_linkPersons_69 ?_
            refine lv_aload_n hx hb dX2_linkPersons_72 rfl (lv_at hl 0 rfl) ?_
            refine h_getR hx hb hts hnX2_linkPersons_X2 hown hK hw hS.1 rfl 1 (by decide) rfl hkX2_linkPersons_12 dX2_linkPersons_73 ?_
            refine h_getR hx hb hts hnX2_linkPersons_X0 hown hK hw hS.2.2.2.1.1 rfl 6 (by decide) rfl hkX2_linkPersons_139 dX2_linkPersons_76 ?_
            refine lv_iload_n hx hb dX2_linkPersons_79 rfl (lv_at hl 1 rfl) ?_
            obtain ⟨hi8, h⟩ := gd_s h
            refine h_iald hx hb hK hw hS.2.2.2.1.2.2.2.2.2.2.1 hi8 dX2_linkPersons_80 ?_
            refine lv_dup2_11 hx hb dX2_linkPersons_81 rfl rfl ?_
            obtain ⟨hi9, h⟩ := gd_s h
            refine h_iald hx hb hK hw hS.2.1 hi9 dX2_linkPersons_82 ?_
            refine lv_iconst (v := 1) hx hb dX2_linkPersons_83 (by decide) ?_
            refine lv_aload_n hx hb dX2_linkPersons_84 rfl (lv_at hl 0 rfl) ?_
            refine h_getR hx hb hts hnX2_linkPersons_X2 hown hK hw hS.1 rfl 1 (by decide) rfl hkX2_linkPersons_12 dX2_linkPersons_85 ?_
            refine h_getR hx hb hts hnX2_linkPersons_X0 hown hK hw hS.2.2.2.1.1 rfl 7 (by decide) rfl hkX2_linkPersons_142 dX2_linkPersons_88 ?_
            refine lv_iload_n hx hb dX2_linkPersons_91 rfl (lv_at hl 1 rfl) ?_
            obtain ⟨hi10, h⟩ := gd_s h
            refine h_iald hx hb hK hw hS.2.2.2.1.2.2.2.2.2.2.2.1 hi10 dX2_linkPersons_92 ?_
            refine lv_ishl hx hb dX2_linkPersons_93 ?_
            refine lv_ior hx hb dX2_linkPersons_94 ?_
            obtain ⟨hi11, h⟩ := gd_s h
            obtain ⟨f12, ef12, h⟩ := lt_s2 h
            refine h_iast (g := f12) ef12 hx hb hK hw hS.2.1 hi11 dX2_linkPersons_95 (fun H locs hw => ?_)
            refine lv_iinc (v := (y1 + 1)) (lv' := [(1, .int (y1 + 1)), (0, .ref (ad k))]) hx hb dX2_linkPersons_96 hl (k := 1) rfl rfl (by decide) rfl (fun ls hl => ?_)
            refine lv_goto (tgt := 23) hx hb dX2_linkPersons_99 (by decide) ?_
            exact ih f12 (y1 + 1) _ _ _ hw (lv_sub hl [1, 0] rfl) h
  have J2 : ∀ (n : Nat), (∀ (f : hF) (y1 : Int32) (H : Heap) (locs : List Loc) (ls : Array Slot), hOk D ac ad S (hAd ad S.length) s.heap f H locs → lv_has ls 2 [(0, .ref (ad k)), (1, .int y1)] → fX2_linkPersons_2 k ro n f y1 = some gv → W p l e ({ frames := 2, cells := 0, slots := 0, locals := 42 } : Room) s m ([.ref (ad k)] : List Value).toArray below meth c H locs 0 0 (MQ below (hQv D ac ad S gv) ([.ref (ad k)] : List Value).toArray s 0 0 (hAd ad S.length)) (F0 m 2 ls [])) := by
    intro n
    induction n with
    | zero =>
      intro f y1 H locs ls hw hl h
      rw [fX2_linkPersons_2] at h
      cases h
    | succ n ih =>
      intro f y1 H locs ls hw hl h
      rw [fX2_linkPersons_2] at h
      refine lv_iload_n hx hb dX2_linkPersons_2 rfl (lv_at hl 1 rfl) ?_
      refine lv_bipush (v := 8) hx hb dX2_linkPersons_3 (by decide) ?_
      refine lv_icmp_ge (tgt := 21) hx hb dX2_linkPersons_5 (by decide) (fun hc1 => ?_) (fun hc1 => ?_)
      · have h := it hc1 h
        refine lv_iconst (v := 0) hx hb dX2_linkPersons_21 (by decide) ?_
        refine lv_istore_n (lv' := [(1, .int 0), (0, .ref (ad k))]) hx hb dX2_linkPersons_22 rfl hl (by decide) rfl (fun ls hl => ?_)
        exact J23 _ f 0 _ _ _ hw (lv_sub hl [1, 0] rfl) h
      · have h := ie hc1 h
        refine lv_aload_n hx hb dX2_linkPersons_8 rfl (lv_at hl 0 rfl) ?_
        refine h_getR hx hb hts hnX2_linkPersons_X2 hown hK hw hS.1 rfl 3 (by decide) rfl hkX2_linkPersons_27 dX2_linkPersons_9 ?_
        refine lv_iload_n hx hb dX2_linkPersons_12 rfl (lv_at hl 1 rfl) ?_
        refine lv_iconst (v := 0) hx hb dX2_linkPersons_13 (by decide) ?_
        obtain ⟨hi2, h⟩ := gd_s h
        obtain ⟨f3, ef3, h⟩ := lt_s2 h
        refine h_iast (g := f3) ef3 hx hb hK hw hS.2.1 hi2 dX2_linkPersons_14 (fun H locs hw => ?_)
        refine lv_iinc (v := (y1 + 1)) (lv' := [(1, .int (y1 + 1)), (0, .ref (ad k))]) hx hb dX2_linkPersons_15 hl (k := 1) rfl rfl (by decide) rfl (fun ls hl => ?_)
        refine lv_goto (tgt := 2) hx hb dX2_linkPersons_18 (by decide) ?_
        exact ih f3 (y1 + 1) _ _ _ hw (lv_sub hl [1, 0] rfl) h
  unfold fX2_linkPersons at h
  refine lv_iconst (v := 0) hx hb dX2_linkPersons_0 (by decide) ?_
  refine lv_istore_n (lv' := [(1, .int 0), (0, .ref (ad k))]) hx hb dX2_linkPersons_1 rfl hl (by decide) rfl (fun ls hl => ?_)
  exact J2 _ f 0 _ _ _ hw (lv_sub hl [1, 0] rfl) h

theorem hdJ6_bitCount_0f7a4_c265 : Cond.constant RJ6 265 (1431655765) ∈ wsJ6_bitCount_0f7a4 := by decide +kernel
theorem hdJ6_bitCount_0f7a4_c266 : Cond.constant RJ6 266 (858993459) ∈ wsJ6_bitCount_0f7a4 := by decide +kernel
theorem hdJ6_bitCount_0f7a4_c267 : Cond.constant RJ6 267 (252645135) ∈ wsJ6_bitCount_0f7a4 := by decide +kernel
set_option maxHeartbeats 8000000 in
set_option maxRecDepth 100000 in
theorem mJ6_bitCount_0f7a4 (l : Launch) (D : va_G) (ac : Nat → ClassId) (ad : Nat → Nat) (S : List hSh) (f : hF) (x0 : Int32) (rv : Int32) (h : fJ6_bitCount_0f7a4 x0 = some rv) : Met l yJ6_bitCount_0f7a4 wsJ6_bitCount_0f7a4 ({ frames := 0, cells := 0, slots := 0, locals := 0 }) (hPc D ac ad S f [.int x0]) (hRi rv) 0 0 hNo := by
  refine h_enter (C := RJ6) (cc := cJ6_bitCount_0f7a4) (maxL := 1) (ret := (some .int)) (lv := [(0, .int x0)]) (by decide) rfl rfl (Nat.le_of_ble_eq_true rfl) rfl (fun p e s m below meth c ls hx hb hml hr hlocks hown hts hK hw hl => ?_)
  unfold fJ6_bitCount_0f7a4 at h
  refine lv_iload_n hx hb dJ6_bitCount_0f7a4_0 rfl (lv_at hl 0 rfl) ?_
  refine lv_iload_n hx hb dJ6_bitCount_0f7a4_1 rfl (lv_at hl 0 rfl) ?_
  refine lv_iconst (v := 1) hx hb dJ6_bitCount_0f7a4_2 (by decide) ?_
  refine lv_iushr hx hb dJ6_bitCount_0f7a4_3 rfl ?_
  refine lv_ldcw hx hb hown (hts _ hdJ6_bitCount_0f7a4_c265) dJ6_bitCount_0f7a4_4 ?_
  refine lv_iand hx hb dJ6_bitCount_0f7a4_7 ?_
  refine lv_isub hx hb dJ6_bitCount_0f7a4_8 ?_
  refine lv_istore_n (lv' := [(0, .int (x0 - ((((x0).toUInt32 >>> ((1 : Int32).toUInt32 &&& Int32.toUInt32 31)).toInt32) &&& 1431655765)))]) hx hb dJ6_bitCount_0f7a4_9 rfl hl (by decide) rfl (fun ls hl => ?_)
  refine lv_iload_n hx hb dJ6_bitCount_0f7a4_10 rfl (lv_at hl 0 rfl) ?_
  refine lv_ldcw hx hb hown (hts _ hdJ6_bitCount_0f7a4_c266) dJ6_bitCount_0f7a4_11 ?_
  refine lv_iand hx hb dJ6_bitCount_0f7a4_14 ?_
  refine lv_iload_n hx hb dJ6_bitCount_0f7a4_15 rfl (lv_at hl 0 rfl) ?_
  refine lv_iconst (v := 2) hx hb dJ6_bitCount_0f7a4_16 (by decide) ?_
  refine lv_iushr hx hb dJ6_bitCount_0f7a4_17 rfl ?_
  refine lv_ldcw hx hb hown (hts _ hdJ6_bitCount_0f7a4_c266) dJ6_bitCount_0f7a4_18 ?_
  refine lv_iand hx hb dJ6_bitCount_0f7a4_21 ?_
  refine lv_iadd hx hb dJ6_bitCount_0f7a4_22 ?_
  refine lv_istore_n (lv' := [(0, .int (((x0 - ((((x0).toUInt32 >>> ((1 : Int32).toUInt32 &&& Int32.toUInt32 31)).toInt32) &&& 1431655765)) &&& 858993459) + (((((x0 - ((((x0).toUInt32 >>> ((1 : Int32).toUInt32 &&& Int32.toUInt32 31)).toInt32) &&& 1431655765))).toUInt32 >>> ((2 : Int32).toUInt32 &&& Int32.toUInt32 31)).toInt32) &&& 858993459)))]) hx hb dJ6_bitCount_0f7a4_23 rfl hl (by decide) rfl (fun ls hl => ?_)
  refine lv_iload_n hx hb dJ6_bitCount_0f7a4_24 rfl (lv_at hl 0 rfl) ?_
  refine lv_iload_n hx hb dJ6_bitCount_0f7a4_25 rfl (lv_at hl 0 rfl) ?_
  refine lv_iconst (v := 4) hx hb dJ6_bitCount_0f7a4_26 (by decide) ?_
  refine lv_iushr hx hb dJ6_bitCount_0f7a4_27 rfl ?_
  refine lv_iadd hx hb dJ6_bitCount_0f7a4_28 ?_
  refine lv_ldcw hx hb hown (hts _ hdJ6_bitCount_0f7a4_c267) dJ6_bitCount_0f7a4_29 ?_
  refine lv_iand hx hb dJ6_bitCount_0f7a4_32 ?_
  refine lv_istore_n (lv' := [(0, .int (((((x0 - ((((x0).toUInt32 >>> ((1 : Int32).toUInt32 &&& Int32.toUInt32 31)).toInt32) &&& 1431655765)) &&& 858993459) + (((((x0 - ((((x0).toUInt32 >>> ((1 : Int32).toUInt32 &&& Int32.toUInt32 31)).toInt32) &&& 1431655765))).toUInt32 >>> ((2 : Int32).toUInt32 &&& Int32.toUInt32 31)).toInt32) &&& 858993459)) + ((((((x0 - ((((x0).toUInt32 >>> ((1 : Int32).toUInt32 &&& Int32.toUInt32 31)).toInt32) &&& 1431655765)) &&& 858993459) + (((((x0 - ((((x0).toUInt32 >>> ((1 : Int32).toUInt32 &&& Int32.toUInt32 31)).toInt32) &&& 1431655765))).toUInt32 >>> ((2 : Int32).toUInt32 &&& Int32.toUInt32 31)).toInt32) &&& 858993459))).toUInt32 >>> ((4 : Int32).toUInt32 &&& Int32.toUInt32 31)).toInt32)) &&& 252645135))]) hx hb dJ6_bitCount_0f7a4_33 rfl hl (by decide) rfl (fun ls hl => ?_)
  refine lv_iload_n hx hb dJ6_bitCount_0f7a4_34 rfl (lv_at hl 0 rfl) ?_
  refine lv_iload_n hx hb dJ6_bitCount_0f7a4_35 rfl (lv_at hl 0 rfl) ?_
  refine lv_bipush (v := 8) hx hb dJ6_bitCount_0f7a4_36 (by decide) ?_
  refine lv_iushr hx hb dJ6_bitCount_0f7a4_38 rfl ?_
  refine lv_iadd hx hb dJ6_bitCount_0f7a4_39 ?_
  refine lv_istore_n (lv' := [(0, .int ((((((x0 - ((((x0).toUInt32 >>> ((1 : Int32).toUInt32 &&& Int32.toUInt32 31)).toInt32) &&& 1431655765)) &&& 858993459) + (((((x0 - ((((x0).toUInt32 >>> ((1 : Int32).toUInt32 &&& Int32.toUInt32 31)).toInt32) &&& 1431655765))).toUInt32 >>> ((2 : Int32).toUInt32 &&& Int32.toUInt32 31)).toInt32) &&& 858993459)) + ((((((x0 - ((((x0).toUInt32 >>> ((1 : Int32).toUInt32 &&& Int32.toUInt32 31)).toInt32) &&& 1431655765)) &&& 858993459) + (((((x0 - ((((x0).toUInt32 >>> ((1 : Int32).toUInt32 &&& Int32.toUInt32 31)).toInt32) &&& 1431655765))).toUInt32 >>> ((2 : Int32).toUInt32 &&& Int32.toUInt32 31)).toInt32) &&& 858993459))).toUInt32 >>> ((4 : Int32).toUInt32 &&& Int32.toUInt32 31)).toInt32)) &&& 252645135) + ((((((((x0 - ((((x0).toUInt32 >>> ((1 : Int32).toUInt32 &&& Int32.toUInt32 31)).toInt32) &&& 1431655765)) &&& 858993459) + (((((x0 - ((((x0).toUInt32 >>> ((1 : Int32).toUInt32 &&& Int32.toUInt32 31)).toInt32) &&& 1431655765))).toUInt32 >>> ((2 : Int32).toUInt32 &&& Int32.toUInt32 31)).toInt32) &&& 858993459)) + ((((((x0 - ((((x0).toUInt32 >>> ((1 : Int32).toUInt32 &&& Int32.toUInt32 31)).toInt32) &&& 1431655765)) &&& 858993459) + (((((x0 - ((((x0).toUInt32 >>> ((1 : Int32).toUInt32 &&& Int32.toUInt32 31)).toInt32) &&& 1431655765))).toUInt32 >>> ((2 : Int32).toUInt32 &&& Int32.toUInt32 31)).toInt32) &&& 858993459))).toUInt32 >>> ((4 : Int32).toUInt32 &&& Int32.toUInt32 31)).toInt32)) &&& 252645135)).toUInt32 >>> ((8 : Int32).toUInt32 &&& Int32.toUInt32 31)).toInt32)))]) hx hb dJ6_bitCount_0f7a4_40 rfl hl (by decide) rfl (fun ls hl => ?_)
  refine lv_iload_n hx hb dJ6_bitCount_0f7a4_41 rfl (lv_at hl 0 rfl) ?_
  refine lv_iload_n hx hb dJ6_bitCount_0f7a4_42 rfl (lv_at hl 0 rfl) ?_
  refine lv_bipush (v := 16) hx hb dJ6_bitCount_0f7a4_43 (by decide) ?_
  refine lv_iushr hx hb dJ6_bitCount_0f7a4_45 rfl ?_
  refine lv_iadd hx hb dJ6_bitCount_0f7a4_46 ?_
  refine lv_istore_n (lv' := [(0, .int (((((((x0 - ((((x0).toUInt32 >>> ((1 : Int32).toUInt32 &&& Int32.toUInt32 31)).toInt32) &&& 1431655765)) &&& 858993459) + (((((x0 - ((((x0).toUInt32 >>> ((1 : Int32).toUInt32 &&& Int32.toUInt32 31)).toInt32) &&& 1431655765))).toUInt32 >>> ((2 : Int32).toUInt32 &&& Int32.toUInt32 31)).toInt32) &&& 858993459)) + ((((((x0 - ((((x0).toUInt32 >>> ((1 : Int32).toUInt32 &&& Int32.toUInt32 31)).toInt32) &&& 1431655765)) &&& 858993459) + (((((x0 - ((((x0).toUInt32 >>> ((1 : Int32).toUInt32 &&& Int32.toUInt32 31)).toInt32) &&& 1431655765))).toUInt32 >>> ((2 : Int32).toUInt32 &&& Int32.toUInt32 31)).toInt32) &&& 858993459))).toUInt32 >>> ((4 : Int32).toUInt32 &&& Int32.toUInt32 31)).toInt32)) &&& 252645135) + ((((((((x0 - ((((x0).toUInt32 >>> ((1 : Int32).toUInt32 &&& Int32.toUInt32 31)).toInt32) &&& 1431655765)) &&& 858993459) + (((((x0 - ((((x0).toUInt32 >>> ((1 : Int32).toUInt32 &&& Int32.toUInt32 31)).toInt32) &&& 1431655765))).toUInt32 >>> ((2 : Int32).toUInt32 &&& Int32.toUInt32 31)).toInt32) &&& 858993459)) + ((((((x0 - ((((x0).toUInt32 >>> ((1 : Int32).toUInt32 &&& Int32.toUInt32 31)).toInt32) &&& 1431655765)) &&& 858993459) + (((((x0 - ((((x0).toUInt32 >>> ((1 : Int32).toUInt32 &&& Int32.toUInt32 31)).toInt32) &&& 1431655765))).toUInt32 >>> ((2 : Int32).toUInt32 &&& Int32.toUInt32 31)).toInt32) &&& 858993459))).toUInt32 >>> ((4 : Int32).toUInt32 &&& Int32.toUInt32 31)).toInt32)) &&& 252645135)).toUInt32 >>> ((8 : Int32).toUInt32 &&& Int32.toUInt32 31)).toInt32)) + (((((((((x0 - ((((x0).toUInt32 >>> ((1 : Int32).toUInt32 &&& Int32.toUInt32 31)).toInt32) &&& 1431655765)) &&& 858993459) + (((((x0 - ((((x0).toUInt32 >>> ((1 : Int32).toUInt32 &&& Int32.toUInt32 31)).toInt32) &&& 1431655765))).toUInt32 >>> ((2 : Int32).toUInt32 &&& Int32.toUInt32 31)).toInt32) &&& 858993459)) + ((((((x0 - ((((x0).toUInt32 >>> ((1 : Int32).toUInt32 &&& Int32.toUInt32 31)).toInt32) &&& 1431655765)) &&& 858993459) + (((((x0 - ((((x0).toUInt32 >>> ((1 : Int32).toUInt32 &&& Int32.toUInt32 31)).toInt32) &&& 1431655765))).toUInt32 >>> ((2 : Int32).toUInt32 &&& Int32.toUInt32 31)).toInt32) &&& 858993459))).toUInt32 >>> ((4 : Int32).toUInt32 &&& Int32.toUInt32 31)).toInt32)) &&& 252645135) + ((((((((x0 - ((((x0).toUInt32 >>> ((1 : Int32).toUInt32 &&& Int32.toUInt32 31)).toInt32) &&& 1431655765)) &&& 858993459) + (((((x0 - ((((x0).toUInt32 >>> ((1 : Int32).toUInt32 &&& Int32.toUInt32 31)).toInt32) &&& 1431655765))).toUInt32 >>> ((2 : Int32).toUInt32 &&& Int32.toUInt32 31)).toInt32) &&& 858993459)) + ((((((x0 - ((((x0).toUInt32 >>> ((1 : Int32).toUInt32 &&& Int32.toUInt32 31)).toInt32) &&& 1431655765)) &&& 858993459) + (((((x0 - ((((x0).toUInt32 >>> ((1 : Int32).toUInt32 &&& Int32.toUInt32 31)).toInt32) &&& 1431655765))).toUInt32 >>> ((2 : Int32).toUInt32 &&& Int32.toUInt32 31)).toInt32) &&& 858993459))).toUInt32 >>> ((4 : Int32).toUInt32 &&& Int32.toUInt32 31)).toInt32)) &&& 252645135)).toUInt32 >>> ((8 : Int32).toUInt32 &&& Int32.toUInt32 31)).toInt32))).toUInt32 >>> ((16 : Int32).toUInt32 &&& Int32.toUInt32 31)).toInt32)))]) hx hb dJ6_bitCount_0f7a4_47 rfl hl (by decide) rfl (fun ls hl => ?_)
  refine lv_iload_n hx hb dJ6_bitCount_0f7a4_48 rfl (lv_at hl 0 rfl) ?_
  refine lv_bipush (v := 63) hx hb dJ6_bitCount_0f7a4_49 (by decide) ?_
  refine lv_iand hx hb dJ6_bitCount_0f7a4_51 ?_
  exact h_retR hx hb hr hlocks rfl (so1 h) dJ6_bitCount_0f7a4_52

theorem hnX2_isInEveryLine_X2 : ∀ w ∈ wsX20, w ∈ wsX2_isInEveryLine := by decide +kernel
theorem hkX2_isInEveryLine_27 : Cond.fieldLink RX2 27 (TX2 3).1 (TX2 3).2.1 (TX2 3).2.2.1 ∈ wsX2_isInEveryLine := by decide +kernel
set_option maxHeartbeats 8000000 in
set_option maxRecDepth 100000 in
theorem mX2_isInEveryLine (l : Launch) (D : va_G) (ac : Nat → ClassId) (ad : Nat → Nat) (S : List hSh) (k : Nat) (ro : Nat) (f : hF) (x1 : Int32) (rv : Int32) (hS : isHo S k ro) (h : fX2_isInEveryLine k ro f x1 = some rv) : Met l yX2_isInEveryLine wsX2_isInEveryLine ({ frames := 0, cells := 0, slots := 0, locals := 0 }) (hPc D ac ad S f [.ref (ad k), .int x1]) (hRi rv) 0 0 hNo := by
  refine h_enter (C := RX2) (cc := cX2_isInEveryLine) (maxL := 3) (ret := (some .boolean)) (lv := [(0, .ref (ad k)), (1, .int x1)]) (by decide) rfl rfl (Nat.le_of_ble_eq_true rfl) rfl (fun p e s m below meth c ls hx hb hml hr hlocks hown hts hK hw hl => ?_)
  have J2 : ∀ (n : Nat), (∀ (y2 : Int32) (ls : Array Slot), lv_has ls 3 [(0, .ref (ad k)), (1, .int x1), (2, .int y2)] → fX2_isInEveryLine_2 k ro f x1 n y2 = some rv → W p l e ({ frames := 0, cells := 0, slots := 0, locals := 0 } : Room) s m ([.ref (ad k), .int x1] : List Value).toArray below meth c s.heap [] 0 0 (MQ below (hRi rv) ([.ref (ad k), .int x1] : List Value).toArray s 0 0 hNo) (F0 m 2 ls [])) := by
    intro n
    induction n with
    | zero =>
      intro y2 ls hl h
      rw [fX2_isInEveryLine_2] at h
      cases h
    | succ n ih =>
      intro y2 ls hl h
      rw [fX2_isInEveryLine_2] at h
      refine lv_iload_n hx hb dX2_isInEveryLine_2 rfl (lv_at hl 2 rfl) ?_
      refine lv_bipush (v := 8) hx hb dX2_isInEveryLine_3 (by decide) ?_
      refine lv_icmp_ge (tgt := 37) hx hb dX2_isInEveryLine_5 (by decide) (fun hc1 => ?_) (fun hc1 => ?_)
      · have h := it hc1 h
        refine lv_iconst (v := 1) hx hb dX2_isInEveryLine_37 (by decide) ?_
        exact h_retR hx hb hr hlocks rfl (so1 h) dX2_isInEveryLine_38
      · have h := ie hc1 h
        refine lv_iload_n hx hb dX2_isInEveryLine_8 rfl (lv_at hl 1 rfl) ?_
        refine lv_iload_n hx hb dX2_isInEveryLine_9 rfl (lv_at hl 2 rfl) ?_
        refine lv_ishr hx hb dX2_isInEveryLine_10 ?_
        refine lv_iconst (v := 1) hx hb dX2_isInEveryLine_11 (by decide) ?_
        refine lv_iand hx hb dX2_isInEveryLine_12 ?_
        refine lv_if_ne (tgt := 31) hx hb dX2_isInEveryLine_13 (by decide) (fun hc2 => ?_) (fun hc2 => ?_)
        · have h := ie hc2 h
          refine lv_iinc (v := (y2 + 1)) (lv' := [(2, .int (y2 + 1)), (0, .ref (ad k)), (1, .int x1)]) hx hb dX2_isInEveryLine_31 hl (k := 2) rfl rfl (by decide) rfl (fun ls hl => ?_)
          refine lv_goto (tgt := 2) hx hb dX2_isInEveryLine_34 (by decide) ?_
          exact ih (y2 + 1) _ (lv_sub hl [1, 2, 0] rfl) h
        · have h := it hc2 h
          refine lv_aload_n hx hb dX2_isInEveryLine_16 rfl (lv_at hl 0 rfl) ?_
          refine h_getR hx hb hts hnX2_isInEveryLine_X2 hown hK hw hS.1 rfl 3 (by decide) rfl hkX2_isInEveryLine_27 dX2_isInEveryLine_17 ?_
          refine lv_iload_n hx hb dX2_isInEveryLine_20 rfl (lv_at hl 2 rfl) ?_
          obtain ⟨hi3, h⟩ := gd_s h
          refine h_iald hx hb hK hw hS.2.1 hi3 dX2_isInEveryLine_21 ?_
          refine lv_iload_n hx hb dX2_isInEveryLine_22 rfl (lv_at hl 1 rfl) ?_
          refine lv_iconst (v := (-1)) hx hb dX2_isInEveryLine_23 (by decide) ?_
          refine lv_ixor hx hb dX2_isInEveryLine_24 ?_
          refine lv_iand hx hb dX2_isInEveryLine_25 ?_
          refine lv_if_eq (tgt := 31) hx hb dX2_isInEveryLine_26 (by decide) (fun hc4 => ?_) (fun hc4 => ?_)
          · have h := it hc4 h
            refine lv_iinc (v := (y2 + 1)) (lv' := [(2, .int (y2 + 1)), (0, .ref (ad k)), (1, .int x1)]) hx hb dX2_isInEveryLine_31 hl (k := 2) rfl rfl (by decide) rfl (fun ls hl => ?_)
            refine lv_goto (tgt := 2) hx hb dX2_isInEveryLine_34 (by decide) ?_
            exact ih (y2 + 1) _ (lv_sub hl [1, 2, 0] rfl) h
          · have h := ie hc4 h
            refine lv_iconst (v := 0) hx hb dX2_isInEveryLine_29 (by decide) ?_
            exact h_retR hx hb hr hlocks rfl (so1 h) dX2_isInEveryLine_30
  unfold fX2_isInEveryLine at h
  refine lv_iconst (v := 0) hx hb dX2_isInEveryLine_0 (by decide) ?_
  refine lv_istore_n (lv' := [(2, .int 0), (0, .ref (ad k)), (1, .int x1)]) hx hb dX2_isInEveryLine_1 rfl hl (by decide) rfl (fun ls hl => ?_)
  exact J2 _ 0 _ (lv_sub hl [1, 2, 0] rfl) h
