/-! contracts: X8_wed X8_canLeave X8_leave X8_costOf X8_fill X8_strike X8_pass X8_undo X8_mate X8_twice -/
theorem hnX8_wed_X8 : ∀ w ∈ wsX80, w ∈ wsX8_wed := by decide +kernel
theorem hkX8_wed_16 : Cond.fieldLink RX8 16 (TX8 5).1 (TX8 5).2.1 (TX8 5).2.2.1 ∈ wsX8_wed := by decide +kernel
theorem hkX8_wed_43 : Cond.fieldLink RX8 43 (TX8 22).1 (TX8 22).2.1 (TX8 22).2.2.1 ∈ wsX8_wed := by decide +kernel
set_option maxHeartbeats 8000000 in
set_option maxRecDepth 100000 in
theorem mX8_wed (l : Launch) (D : va_G) (ac : Nat → ClassId) (ad : Nat → Nat) (S : List hSh) (f : hF) (x1 : Int32) (x2 : Int32) (x3 : Int32) (rv : Int32) (gv : hF) (hS : isMo S) (h : fX8_wed f x1 x2 x3 = some (rv, gv)) : Met l yX8_wed wsX8_wed ({ frames := 4, cells := 0, slots := 0, locals := 92 }) (hPc D ac ad S f [.ref (ad 146), .int x1, .int x2, .int x3]) (hQi D ac ad S rv gv) 0 0 (hAd ad S.length) := by
  refine h_enter (C := RX8) (cc := cX8_wed) (maxL := 4) (ret := (some .int)) (lv := [(0, .ref (ad 146)), (1, .int x1), (2, .int x2), (3, .int x3)]) (by decide) rfl rfl (Nat.le_of_ble_eq_true rfl) rfl (fun p e s m below meth c ls hx hb hml hr hlocks hown hts hK hw hl => ?_)
  unfold fX8_wed at h
  refine lv_aload_n hx hb dX8_wed_0 rfl (lv_at hl 0 rfl) ?_
  refine lv_iload_n hx hb dX8_wed_1 rfl (lv_at hl 1 rfl) ?_
  obtain ⟨r1, er1, h⟩ := b1_s h
  refine h_callR (va_runV (As := [.int x1]) (rest := []) ⟨hx, hb, hml, hown, hts⟩ (mX8_isParson l D ac ad S f x1 r1 hS er1) (cwV 1 hts gX8_wed_X8_isParson rfl rfl rfl (by decide +kernel) ⟨Nat.le_of_ble_eq_true rfl, Nat.le_of_ble_eq_true rfl⟩) (h_preV hK hw hS.1 rfl _) rfl rfl hl.1 rfl (lv_room (Nat.le_of_ble_eq_true rfl)) dX8_wed_2 ⟨Nat.le_of_ble_eq_true rfl, Nat.le_of_ble_eq_true rfl⟩) ?_
  refine lv_if_eq (tgt := 29) hx hb dX8_wed_5 (by decide) (fun hc2 => ?_) (fun hc2 => ?_)
  · have h := it hc2 h
    refine lv_iconst (v := (-1)) hx hb dX8_wed_29 (by decide) ?_
    exact h_retQ hx hb hr hlocks hw rfl (so2 h) dX8_wed_30
  · have h := ie hc2 h
    refine lv_aload_n hx hb dX8_wed_8 rfl (lv_at hl 0 rfl) ?_
    refine lv_iload_n hx hb dX8_wed_9 rfl (lv_at hl 2 rfl) ?_
    obtain ⟨r3, er3, h⟩ := b1_s h
    refine h_callR (va_runV (As := [.int x2]) (rest := []) ⟨hx, hb, hml, hown, hts⟩ (mX8_isPerson l D ac ad S f x2 r3 hS er3) (cwV 1 hts gX8_wed_X8_isPerson rfl rfl rfl (by decide +kernel) ⟨Nat.le_of_ble_eq_true rfl, Nat.le_of_ble_eq_true rfl⟩) (h_preV hK hw hS.1 rfl _) rfl rfl hl.1 rfl (lv_room (Nat.le_of_ble_eq_true rfl)) dX8_wed_10 ⟨Nat.le_of_ble_eq_true rfl, Nat.le_of_ble_eq_true rfl⟩) ?_
    refine lv_if_eq (tgt := 29) hx hb dX8_wed_13 (by decide) (fun hc4 => ?_) (fun hc4 => ?_)
    · have h := it hc4 h
      refine lv_iconst (v := (-1)) hx hb dX8_wed_29 (by decide) ?_
      exact h_retQ hx hb hr hlocks hw rfl (so2 h) dX8_wed_30
    · have h := ie hc4 h
      refine lv_aload_n hx hb dX8_wed_16 rfl (lv_at hl 0 rfl) ?_
      refine lv_iload_n hx hb dX8_wed_17 rfl (lv_at hl 3 rfl) ?_
      obtain ⟨r5, er5, h⟩ := b1_s h
      refine h_callR (va_runV (As := [.int x3]) (rest := []) ⟨hx, hb, hml, hown, hts⟩ (mX8_isPerson l D ac ad S f x3 r5 hS er5) (cwV 1 hts gX8_wed_X8_isPerson rfl rfl rfl (by decide +kernel) ⟨Nat.le_of_ble_eq_true rfl, Nat.le_of_ble_eq_true rfl⟩) (h_preV hK hw hS.1 rfl _) rfl rfl hl.1 rfl (lv_room (Nat.le_of_ble_eq_true rfl)) dX8_wed_18 ⟨Nat.le_of_ble_eq_true rfl, Nat.le_of_ble_eq_true rfl⟩) ?_
      refine lv_if_eq (tgt := 29) hx hb dX8_wed_21 (by decide) (fun hc6 => ?_) (fun hc6 => ?_)
      · have h := it hc6 h
        refine lv_iconst (v := (-1)) hx hb dX8_wed_29 (by decide) ?_
        exact h_retQ hx hb hr hlocks hw rfl (so2 h) dX8_wed_30
      · have h := ie hc6 h
        refine lv_iload_n hx hb dX8_wed_24 rfl (lv_at hl 2 rfl) ?_
        refine lv_iload_n hx hb dX8_wed_25 rfl (lv_at hl 3 rfl) ?_
        refine lv_icmp_ne (tgt := 31) hx hb dX8_wed_26 (by decide) (fun hc7 => ?_) (fun hc7 => ?_)
        · have h := ie hc7 h
          refine lv_aload_n hx hb dX8_wed_31 rfl (lv_at hl 0 rfl) ?_
          obtain ⟨f8, ef8, h⟩ := b1_s h
          refine h_callV hw (va_runV (As := []) (rest := []) ⟨hx, hb, hml, hown, hts⟩ (mX8_asItIs l D ac ad S f f8 hS ef8) (cwV 0 hts gX8_wed_X8_asItIs rfl rfl rfl (by decide +kernel) ⟨Nat.le_of_ble_eq_true rfl, Nat.le_of_ble_eq_true rfl⟩) (h_preV hK hw hS.1 rfl _) rfl rfl hl.1 rfl (lv_room (Nat.le_of_ble_eq_true rfl)) dX8_wed_32 ⟨Nat.le_of_ble_eq_true rfl, Nat.le_of_ble_eq_true rfl⟩) (fun H locs hw => ?_)
          refine lv_aload_n hx hb dX8_wed_35 rfl (lv_at hl 0 rfl) ?_
          refine lv_iload_n hx hb dX8_wed_36 rfl (lv_at hl 1 rfl) ?_
          refine lv_iload_n hx hb dX8_wed_37 rfl (lv_at hl 2 rfl) ?_
          refine lv_iload_n hx hb dX8_wed_38 rfl (lv_at hl 3 rfl) ?_
          obtain ⟨r9, er9, h⟩ := b1_s h
          refine h_callR (va_runV (As := [.int x1, .int x2, .int x3]) (rest := []) ⟨hx, hb, hml, hown, hts⟩ (mX8_canWed l D ac ad S f8 x1 x2 x3 r9 hS er9) (cwV 3 hts gX8_wed_X8_canWed rfl rfl rfl (by decide +kernel) ⟨Nat.le_of_ble_eq_true rfl, Nat.le_of_ble_eq_true rfl⟩) (h_preV hK hw hS.1 rfl _) rfl rfl hl.1 rfl (lv_room (Nat.le_of_ble_eq_true rfl)) dX8_wed_39 ⟨Nat.le_of_ble_eq_true rfl, Nat.le_of_ble_eq_true rfl⟩) ?_
          refine lv_if_ne (tgt := 48) hx hb dX8_wed_42 (by decide) (fun hc10 => ?_) (fun hc10 => ?_)
          · have h := ie hc10 h
            refine lv_aload_n hx hb dX8_wed_48 rfl (lv_at hl 0 rfl) ?_
            refine h_getR hx hb hts hnX8_wed_X8 hown hK hw hS.1 rfl 5 (by decide) rfl hkX8_wed_16 dX8_wed_49 ?_
            refine lv_bipush (v := 12) hx hb dX8_wed_52 (by decide) ?_
            refine lv_iload_n hx hb dX8_wed_54 rfl (lv_at hl 1 rfl) ?_
            refine lv_iadd hx hb dX8_wed_55 ?_
            obtain ⟨hi11, h⟩ := gd_s h
            refine h_iald hx hb hK hw hS.2.2.2.1 hi11 dX8_wed_56 ?_
            refine lv_bipush (v := 8) hx hb dX8_wed_57 (by decide) ?_
            refine lv_icmp_ne (tgt := 65) hx hb dX8_wed_59 (by decide) (fun hc12 => ?_) (fun hc12 => ?_)
            · have h := ie hc12 h
              refine lv_aload_n hx hb dX8_wed_65 rfl (lv_at hl 0 rfl) ?_
              obtain ⟨f13, ef13, h⟩ := b1_s h
              refine h_callV hw (va_runV (As := []) (rest := []) ⟨hx, hb, hml, hown, hts⟩ (mX8_remembers l D ac ad S f8 f13 hS ef13) (cwV 0 hts gX8_wed_X8_remembers rfl rfl rfl (by decide +kernel) ⟨Nat.le_of_ble_eq_true rfl, Nat.le_of_ble_eq_true rfl⟩) (h_preV hK hw hS.1 rfl _) rfl rfl hl.1 rfl (lv_room (Nat.le_of_ble_eq_true rfl)) dX8_wed_66 ⟨Nat.le_of_ble_eq_true rfl, Nat.le_of_ble_eq_true rfl⟩) (fun H locs hw => ?_)
              refine lv_aload_n hx hb dX8_wed_69 rfl (lv_at hl 0 rfl) ?_
              refine lv_iload_n hx hb dX8_wed_70 rfl (lv_at hl 1 rfl) ?_
              refine lv_iload_n hx hb dX8_wed_71 rfl (lv_at hl 2 rfl) ?_
              refine lv_iload_n hx hb dX8_wed_72 rfl (lv_at hl 3 rfl) ?_
              obtain ⟨f14, ef14, h⟩ := b1_s h
              refine h_callV hw (va_runV (As := [.int x1, .int x2, .int x3]) (rest := []) ⟨hx, hb, hml, hown, hts⟩ (mX8_weds l D ac ad S f13 x1 x2 x3 f14 hS ef14) (cwV 3 hts gX8_wed_X8_weds rfl rfl rfl (by decide +kernel) ⟨Nat.le_of_ble_eq_true rfl, Nat.le_of_ble_eq_true rfl⟩) (h_preV hK hw hS.1 rfl _) rfl rfl hl.1 rfl (lv_room (Nat.le_of_ble_eq_true rfl)) dX8_wed_73 ⟨Nat.le_of_ble_eq_true rfl, Nat.le_of_ble_eq_true rfl⟩) (fun H locs hw => ?_)
              refine lv_aload_n hx hb dX8_wed_76 rfl (lv_at hl 0 rfl) ?_
              refine h_getR hx hb hts hnX8_wed_X8 hown hK hw hS.1 rfl 5 (by decide) rfl hkX8_wed_16 dX8_wed_77 ?_
              refine lv_iconst (v := 0) hx hb dX8_wed_80 (by decide) ?_
              refine lv_aload_n hx hb dX8_wed_81 rfl (lv_at hl 0 rfl) ?_
              refine h_getR hx hb hts hnX8_wed_X8 hown hK hw hS.1 rfl 22 (by decide) rfl hkX8_wed_43 dX8_wed_82 ?_
              refine lv_iconst (v := 0) hx hb dX8_wed_85 (by decide) ?_
              refine lv_bipush (v := 111) hx hb dX8_wed_86 (by decide) ?_
              obtain ⟨f15, ef15, h⟩ := b1_s h
              refine h_callV hw (va_runS (As := [.ref (ad 149), .int 0, .ref (ad 158), .int 0, .int 111]) (rest := []) ⟨hx, hb, hml, hown, hts⟩ (mX8_copies l D ac ad S 149 111 158 111 f14 (0 : Int32) (0 : Int32) (111 : Int32) f15 hS.2.2.2.1 hS.2.2.2.2.2.2.2.2.2.2.2.2.1 ef15) (va_cwS 5 hts gX8_wed_X8_copies rfl rfl rfl (by decide +kernel) ⟨Nat.le_of_ble_eq_true rfl, Nat.le_of_ble_eq_true rfl⟩) (h_preS hK hw _) rfl rfl hl.1 rfl (lv_room (Nat.le_of_ble_eq_true rfl)) dX8_wed_88 ⟨Nat.le_of_ble_eq_true rfl, Nat.le_of_ble_eq_true rfl⟩) (fun H locs hw => ?_)
              refine lv_aload_n hx hb dX8_wed_91 rfl (lv_at hl 0 rfl) ?_
              refine h_getR hx hb hts hnX8_wed_X8 hown hK hw hS.1 rfl 5 (by decide) rfl hkX8_wed_16 dX8_wed_92 ?_
              refine lv_bipush (v := 12) hx hb dX8_wed_95 (by decide) ?_
              refine lv_iload_n hx hb dX8_wed_97 rfl (lv_at hl 1 rfl) ?_
              refine lv_iadd hx hb dX8_wed_98 ?_
              obtain ⟨hi16, h⟩ := gd_s h
              refine h_iald hx hb hK hw hS.2.2.2.1 hi16 dX8_wed_99 ?_
              refine lv_iconst (v := 1) hx hb dX8_wed_100 (by decide) ?_
              refine lv_isub hx hb dX8_wed_101 ?_
              exact h_retQ hx hb hr hlocks hw rfl (so2 h) dX8_wed_102
            · have h := it hc12 h
              refine lv_bipush (v := (-3)) hx hb dX8_wed_62 (by decide) ?_
              exact h_retQ hx hb hr hlocks hw rfl (so2 h) dX8_wed_64
          · have h := it hc10 h
            refine lv_bipush (v := (-2)) hx hb dX8_wed_45 (by decide) ?_
            exact h_retQ hx hb hr hlocks hw rfl (so2 h) dX8_wed_47
        · have h := it hc7 h
          refine lv_iconst (v := (-1)) hx hb dX8_wed_29 (by decide) ?_
          exact h_retQ hx hb hr hlocks hw rfl (so2 h) dX8_wed_30

theorem hnX8_canLeave_X8 : ∀ w ∈ wsX80, w ∈ wsX8_canLeave := by decide +kernel
theorem hkX8_canLeave_13 : Cond.fieldLink RX8 13 (TX8 3).1 (TX8 3).2.1 (TX8 3).2.2.1 ∈ wsX8_canLeave := by decide +kernel
set_option maxHeartbeats 8000000 in
set_option maxRecDepth 100000 in
theorem mX8_canLeave (l : Launch) (D : va_G) (ac : Nat → ClassId) (ad : Nat → Nat) (S : List hSh) (f : hF) (x1 : Int32) (rv : Int32) (hS : isMo S) (h : fX8_canLeave f x1 = some rv) : Met l yX8_canLeave wsX8_canLeave ({ frames := 3, cells := 0, slots := 0, locals := 65 }) (hPc D ac ad S f [.ref (ad 146), .int x1]) (hRi rv) 0 0 hNo := by
  refine h_enter (C := RX8) (cc := cX8_canLeave) (maxL := 3) (ret := (some .boolean)) (lv := [(0, .ref (ad 146)), (1, .int x1)]) (by decide) rfl rfl (Nat.le_of_ble_eq_true rfl) rfl (fun p e s m below meth c ls hx hb hml hr hlocks hown hts hK hw hl => ?_)
  unfold fX8_canLeave at h
  refine lv_aload_n hx hb dX8_canLeave_0 rfl (lv_at hl 0 rfl) ?_
  refine h_getR hx hb hts hnX8_canLeave_X8 hown hK hw hS.1 rfl 3 (by decide) rfl hkX8_canLeave_13 dX8_canLeave_1 ?_
  refine lv_iconst (v := 2) hx hb dX8_canLeave_4 (by decide) ?_
  refine lv_iload_n hx hb dX8_canLeave_5 rfl (lv_at hl 1 rfl) ?_
  refine lv_imul hx hb dX8_canLeave_6 ?_
  obtain ⟨hi1, h⟩ := gd_s h
  refine h_iald hx hb hK hw hS.2.2.1 hi1 dX8_canLeave_7 ?_
  refine lv_istore_n (lv' := [(2, .int (f 148 (2 * x1).toNatClampNeg)), (0, .ref (ad 146)), (1, .int x1)]) hx hb dX8_canLeave_8 rfl hl (by decide) rfl (fun ls hl => ?_)
  refine lv_iload_n hx hb dX8_canLeave_9 rfl (lv_at hl 0 rfl) ?_
  refine lv_if_eq (tgt := 38) hx hb dX8_canLeave_10 (by decide) (fun hc2 => ?_) (fun hc2 => ?_)
  · have h := it hc2 h
    refine lv_iconst (v := 0) hx hb dX8_canLeave_38 (by decide) ?_
    exact h_retR hx hb hr hlocks rfl (so1 h) dX8_canLeave_39
  · have h := ie hc2 h
    refine lv_aload_n hx hb dX8_canLeave_13 rfl (lv_at hl 1 rfl) ?_
    obtain ⟨r3, er3, h⟩ := b1_s h
    refine h_callR (va_runV (As := []) (rest := []) ⟨hx, hb, hml, hown, hts⟩ (mX8_isLaw l D ac ad S f r3 hS er3) (cwV 0 hts gX8_canLeave_X8_isLaw rfl rfl rfl (by decide +kernel) ⟨Nat.le_of_ble_eq_true rfl, Nat.le_of_ble_eq_true rfl⟩) (h_preV hK hw hS.1 rfl _) rfl rfl hl.1 rfl (lv_room (Nat.le_of_ble_eq_true rfl)) dX8_canLeave_14 ⟨Nat.le_of_ble_eq_true rfl, Nat.le_of_ble_eq_true rfl⟩) ?_
    refine lv_if_ne (tgt := 38) hx hb dX8_canLeave_17 (by decide) (fun hc4 => ?_) (fun hc4 => ?_)
    · have h := ie hc4 h
      refine lv_iconst (v := 0) hx hb dX8_canLeave_38 (by decide) ?_
      exact h_retR hx hb hr hlocks rfl (so1 h) dX8_canLeave_39
    · have h := it hc4 h
      refine lv_iload_n hx hb dX8_canLeave_20 rfl (lv_at hl 0 rfl) ?_
      refine lv_iconst (v := 1) hx hb dX8_canLeave_21 (by decide) ?_
      refine lv_icmp_ne (tgt := 34) hx hb dX8_canLeave_22 (by decide) (fun hc5 => ?_) (fun hc5 => ?_)
      · have h := ie hc5 h
        refine lv_iconst (v := 1) hx hb dX8_canLeave_34 (by decide) ?_
        refine lv_goto (tgt := 39) hx hb dX8_canLeave_35 (by decide) ?_
        exact h_retR hx hb hr hlocks rfl (so1 h) dX8_canLeave_39
      · have h := it hc5 h
        refine lv_aload_n hx hb dX8_canLeave_25 rfl (lv_at hl 1 rfl) ?_
        refine lv_iload_n hx hb dX8_canLeave_26 rfl (lv_at hl 2 rfl) ?_
        obtain ⟨r6, er6, h⟩ := b1_s h
        refine h_callR (va_runV (As := [.int x1]) (rest := []) ⟨hx, hb, hml, hown, hts⟩ (mX8_blanksOf l D ac ad S f x1 r6 hS er6) (cwV 1 hts gX8_canLeave_X8_blanksOf rfl rfl rfl (by decide +kernel) ⟨Nat.le_of_ble_eq_true rfl, Nat.le_of_ble_eq_true rfl⟩) (h_preV hK hw hS.1 rfl _) rfl rfl hl.1 rfl (lv_room (Nat.le_of_ble_eq_true rfl)) dX8_canLeave_27 ⟨Nat.le_of_ble_eq_true rfl, Nat.le_of_ble_eq_true rfl⟩) ?_
        refine lv_iconst (v := 2) hx hb dX8_canLeave_30 (by decide) ?_
        refine lv_icmp_ge (tgt := 38) hx hb dX8_canLeave_31 (by decide) (fun hc7 => ?_) (fun hc7 => ?_)
        · have h := it hc7 h
          refine lv_iconst (v := 0) hx hb dX8_canLeave_38 (by decide) ?_
          exact h_retR hx hb hr hlocks rfl (so1 h) dX8_canLeave_39
        · have h := ie hc7 h
          refine lv_iconst (v := 1) hx hb dX8_canLeave_34 (by decide) ?_
          refine lv_goto (tgt := 39) hx hb dX8_canLeave_35 (by decide) ?_
          exact h_retR hx hb hr hlocks rfl (so1 h) dX8_canLeave_39

theorem hnX8_leave_X8 : ∀ w ∈ wsX80, w ∈ wsX8_leave := by decide +kernel
theorem hkX8_leave_16 : Cond.fieldLink RX8 16 (TX8 5).1 (TX8 5).2.1 (TX8 5).2.2.1 ∈ wsX8_leave := by decide +kernel
theorem hkX8_leave_43 : Cond.fieldLink RX8 43 (TX8 22).1 (TX8 22).2.1 (TX8 22).2.2.1 ∈ wsX8_leave := by decide +kernel
set_option maxHeartbeats 8000000 in
set_option maxRecDepth 100000 in
theorem mX8_leave (l : Launch) (D : va_G) (ac : Nat → ClassId) (ad : Nat → Nat) (S : List hSh) (f : hF) (x1 : Int32) (rv : Int32) (gv : hF) (hS : isMo S) (h : fX8_leave f x1 = some (rv, gv)) : Met l yX8_leave wsX8_leave ({ frames := 4, cells := 0, slots := 0, locals := 87 }) (hPc D ac ad S f [.ref (ad 146), .int x1]) (hQi D ac ad S rv gv) 0 0 (hAd ad S.length) := by
  refine h_enter (C := RX8) (cc := cX8_leave) (maxL := 3) (ret := (some .int)) (lv := [(0, .ref (ad 146)), (1, .int x1)]) (by decide) rfl rfl (Nat.le_of_ble_eq_true rfl) rfl (fun p e s m below meth c ls hx hb hml hr hlocks hown hts hK hw hl => ?_)
  unfold fX8_leave at h
  refine lv_aload_n hx hb dX8_leave_0 rfl (lv_at hl 0 rfl) ?_
  refine lv_iload_n hx hb dX8_leave_1 rfl (lv_at hl 1 rfl) ?_
  obtain ⟨r1, er1, h⟩ := b1_s h
  refine h_callR (va_runV (As := [.int x1]) (rest := []) ⟨hx, hb, hml, hown, hts⟩ (mX8_isParson l D ac ad S f x1 r1 hS er1) (cwV 1 hts gX8_leave_X8_isParson rfl rfl rfl (by decide +kernel) ⟨Nat.le_of_ble_eq_true rfl, Nat.le_of_ble_eq_true rfl⟩) (h_preV hK hw hS.1 rfl _) rfl rfl hl.1 rfl (lv_room (Nat.le_of_ble_eq_true rfl)) dX8_leave_2 ⟨Nat.le_of_ble_eq_true rfl, Nat.le_of_ble_eq_true rfl⟩) ?_
  refine lv_if_ne (tgt := 10) hx hb dX8_leave_5 (by decide) (fun hc2 => ?_) (fun hc2 => ?_)
  · have h := ie hc2 h
    refine lv_aload_n hx hb dX8_leave_10 rfl (lv_at hl 0 rfl) ?_
    obtain ⟨f3, ef3, h⟩ := b1_s h
    refine h_callV hw (va_runV (As := []) (rest := []) ⟨hx, hb, hml, hown, hts⟩ (mX8_asItIs l D ac ad S f f3 hS ef3) (cwV 0 hts gX8_leave_X8_asItIs rfl rfl rfl (by decide +kernel) ⟨Nat.le_of_ble_eq_true rfl, Nat.le_of_ble_eq_true rfl⟩) (h_preV hK hw hS.1 rfl _) rfl rfl hl.1 rfl (lv_room (Nat.le_of_ble_eq_true rfl)) dX8_leave_11 ⟨Nat.le_of_ble_eq_true rfl, Nat.le_of_ble_eq_true rfl⟩) (fun H locs hw => ?_)
    refine lv_aload_n hx hb dX8_leave_14 rfl (lv_at hl 0 rfl) ?_
    refine lv_iload_n hx hb dX8_leave_15 rfl (lv_at hl 1 rfl) ?_
    obtain ⟨r4, er4, h⟩ := b1_s h
    refine h_callR (va_runV (As := [.int x1]) (rest := []) ⟨hx, hb, hml, hown, hts⟩ (mX8_canLeave l D ac ad S f3 x1 r4 hS er4) (cwV 1 hts gX8_leave_X8_canLeave rfl rfl rfl (by decide +kernel) ⟨Nat.le_of_ble_eq_true rfl, Nat.le_of_ble_eq_true rfl⟩) (h_preV hK hw hS.1 rfl _) rfl rfl hl.1 rfl (lv_room (Nat.le_of_ble_eq_true rfl)) dX8_leave_16 ⟨Nat.le_of_ble_eq_true rfl, Nat.le_of_ble_eq_true rfl⟩) ?_
    refine lv_if_ne (tgt := 25) hx hb dX8_leave_19 (by decide) (fun hc5 => ?_) (fun hc5 => ?_)
    · have h := ie hc5 h
      refine lv_aload_n hx hb dX8_leave_25 rfl (lv_at hl 0 rfl) ?_
      refine h_getR hx hb hts hnX8_leave_X8 hown hK hw hS.1 rfl 5 (by decide) rfl hkX8_leave_16 dX8_leave_26 ?_
      refine lv_bipush (v := 12) hx hb dX8_leave_29 (by decide) ?_
      refine lv_iload_n hx hb dX8_leave_31 rfl (lv_at hl 1 rfl) ?_
      refine lv_iadd hx hb dX8_leave_32 ?_
      obtain ⟨hi6, h⟩ := gd_s h
      refine h_iald hx hb hK hw hS.2.2.2.1 hi6 dX8_leave_33 ?_
      refine lv_bipush (v := 8) hx hb dX8_leave_34 (by decide) ?_
      refine lv_icmp_ne (tgt := 42) hx hb dX8_leave_36 (by decide) (fun hc7 => ?_) (fun hc7 => ?_)
      · have h := ie hc7 h
        refine lv_aload_n hx hb dX8_leave_42 rfl (lv_at hl 0 rfl) ?_
        obtain ⟨f8, ef8, h⟩ := b1_s h
        refine h_callV hw (va_runV (As := []) (rest := []) ⟨hx, hb, hml, hown, hts⟩ (mX8_remembers l D ac ad S f3 f8 hS ef8) (cwV 0 hts gX8_leave_X8_remembers rfl rfl rfl (by decide +kernel) ⟨Nat.le_of_ble_eq_true rfl, Nat.le_of_ble_eq_true rfl⟩) (h_preV hK hw hS.1 rfl _) rfl rfl hl.1 rfl (lv_room (Nat.le_of_ble_eq_true rfl)) dX8_leave_43 ⟨Nat.le_of_ble_eq_true rfl, Nat.le_of_ble_eq_true rfl⟩) (fun H locs hw => ?_)
        refine lv_aload_n hx hb dX8_leave_46 rfl (lv_at hl 0 rfl) ?_
        refine lv_iload_n hx hb dX8_leave_47 rfl (lv_at hl 1 rfl) ?_
        obtain ⟨r9, f10, ef10, h⟩ := b2_s h
        refine h_callQ hw (va_runV (As := [.int x1]) (rest := []) ⟨hx, hb, hml, hown, hts⟩ (mX8_begins l D ac ad S f8 x1 r9 f10 hS ef10) (cwV 1 hts gX8_leave_X8_begins rfl rfl rfl (by decide +kernel) ⟨Nat.le_of_ble_eq_true rfl, Nat.le_of_ble_eq_true rfl⟩) (h_preV hK hw hS.1 rfl _) rfl rfl hl.1 rfl (lv_room (Nat.le_of_ble_eq_true rfl)) dX8_leave_48 ⟨Nat.le_of_ble_eq_true rfl, Nat.le_of_ble_eq_true rfl⟩) (fun H locs hw => ?_)
        refine lv_istore_n (lv' := [(2, .int r9), (0, .ref (ad 146)), (1, .int x1)]) hx hb dX8_leave_51 rfl hl (by decide) rfl (fun ls hl => ?_)
        refine lv_aload_n hx hb dX8_leave_52 rfl (lv_at hl 1 rfl) ?_
        refine h_getR hx hb hts hnX8_leave_X8 hown hK hw hS.1 rfl 5 (by decide) rfl hkX8_leave_16 dX8_leave_53 ?_
        refine lv_iconst (v := 0) hx hb dX8_leave_56 (by decide) ?_
        refine lv_aload_n hx hb dX8_leave_57 rfl (lv_at hl 1 rfl) ?_
        refine h_getR hx hb hts hnX8_leave_X8 hown hK hw hS.1 rfl 22 (by decide) rfl hkX8_leave_43 dX8_leave_58 ?_
        refine lv_iconst (v := 0) hx hb dX8_leave_61 (by decide) ?_
        refine lv_bipush (v := 111) hx hb dX8_leave_62 (by decide) ?_
        obtain ⟨f11, ef11, h⟩ := b1_s h
        refine h_callV hw (va_runS (As := [.ref (ad 149), .int 0, .ref (ad 158), .int 0, .int 111]) (rest := []) ⟨hx, hb, hml, hown, hts⟩ (mX8_copies l D ac ad S 149 111 158 111 f10 (0 : Int32) (0 : Int32) (111 : Int32) f11 hS.2.2.2.1 hS.2.2.2.2.2.2.2.2.2.2.2.2.1 ef11) (va_cwS 5 hts gX8_leave_X8_copies rfl rfl rfl (by decide +kernel) ⟨Nat.le_of_ble_eq_true rfl, Nat.le_of_ble_eq_true rfl⟩) (h_preS hK hw _) rfl rfl hl.1 rfl (lv_room (Nat.le_of_ble_eq_true rfl)) dX8_leave_64 ⟨Nat.le_of_ble_eq_true rfl, Nat.le_of_ble_eq_true rfl⟩) (fun H locs hw => ?_)
        refine lv_iload_n hx hb dX8_leave_67 rfl (lv_at hl 0 rfl) ?_
        refine lv_bipush (v := 8) hx hb dX8_leave_68 (by decide) ?_
        refine lv_irem hx hb dX8_leave_70 (by decide) ?_
        exact h_retQ hx hb hr hlocks hw rfl (so2 h) dX8_leave_71
      · have h := it hc7 h
        refine lv_bipush (v := (-3)) hx hb dX8_leave_39 (by decide) ?_
        exact h_retQ hx hb hr hlocks hw rfl (so2 h) dX8_leave_41
    · have h := it hc5 h
      refine lv_bipush (v := (-2)) hx hb dX8_leave_22 (by decide) ?_
      exact h_retQ hx hb hr hlocks hw rfl (so2 h) dX8_leave_24
  · have h := it hc2 h
    refine lv_iconst (v := (-1)) hx hb dX8_leave_8 (by decide) ?_
    exact h_retQ hx hb hr hlocks hw rfl (so2 h) dX8_leave_9

theorem hnX8_costOf_X8 : ∀ w ∈ wsX80, w ∈ wsX8_costOf := by decide +kernel
theorem hkX8_costOf_43 : Cond.fieldLink RX8 43 (TX8 22).1 (TX8 22).2.1 (TX8 22).2.2.1 ∈ wsX8_costOf := by decide +kernel
theorem hkX8_costOf_13 : Cond.fieldLink RX8 13 (TX8 3).1 (TX8 3).2.1 (TX8 3).2.2.1 ∈ wsX8_costOf := by decide +kernel
set_option maxHeartbeats 8000000 in
set_option maxRecDepth 100000 in
theorem mX8_costOf (l : Launch) (D : va_G) (ac : Nat → ClassId) (ad : Nat → Nat) (S : List hSh) (f : hF) (x1 : Int32) (rv : Int32) (hS : isMo S) (h : fX8_costOf f x1 = some rv) : Met l yX8_costOf wsX8_costOf ({ frames := 1, cells := 0, slots := 0, locals := 21 }) (hPc D ac ad S f [.ref (ad 146), .int x1]) (hRi rv) 0 0 hNo := by
  refine h_enter (C := RX8) (cc := cX8_costOf) (maxL := 4) (ret := (some .int)) (lv := [(0, .ref (ad 146)), (1, .int x1)]) (by decide) rfl rfl (Nat.le_of_ble_eq_true rfl) rfl (fun p e s m below meth c ls hx hb hml hr hlocks hown hts hK hw hl => ?_)
  unfold fX8_costOf at h
  refine lv_iload_n hx hb dX8_costOf_0 rfl (lv_at hl 1 rfl) ?_
  refine lv_bipush (v := 8) hx hb dX8_costOf_1 (by decide) ?_
  refine lv_idiv hx hb dX8_costOf_3 (by decide) ?_
  refine lv_istore_n (lv' := [(2, .int (x1 / 8)), (0, .ref (ad 146)), (1, .int x1)]) hx hb dX8_costOf_4 rfl hl (by decide) rfl (fun ls hl => ?_)
  refine lv_aload_n hx hb dX8_costOf_5 rfl (lv_at hl 1 rfl) ?_
  refine h_getR hx hb hts hnX8_costOf_X8 hown hK hw hS.1 rfl 22 (by decide) rfl hkX8_costOf_43 dX8_costOf_6 ?_
  refine lv_iconst (v := 0) hx hb dX8_costOf_9 (by decide) ?_
  obtain ⟨hi1, h⟩ := gd_s h
  refine h_iald hx hb hK hw hS.2.2.2.2.2.2.2.2.2.2.2.2.1 hi1 dX8_costOf_10 ?_
  refine lv_aload_n hx hb dX8_costOf_11 rfl (lv_at hl 1 rfl) ?_
  refine lv_iload_n hx hb dX8_costOf_12 rfl (lv_at hl 2 rfl) ?_
  obtain ⟨r2, er2, h⟩ := b1_s h
  refine h_callR (va_runV (As := [.int x1]) (rest := [.int (f 158 (0 : Int32).toNatClampNeg)]) ⟨hx, hb, hml, hown, hts⟩ (mX8_begun l D ac ad S f x1 r2 hS er2) (cwV 1 hts gX8_costOf_X8_begun rfl rfl rfl (by decide +kernel) ⟨Nat.le_of_ble_eq_true rfl, Nat.le_of_ble_eq_true rfl⟩) (h_preV hK hw hS.1 rfl _) rfl rfl hl.1 rfl (lv_room (Nat.le_of_ble_eq_true rfl)) dX8_costOf_13 ⟨Nat.le_of_ble_eq_true rfl, Nat.le_of_ble_eq_true rfl⟩) ?_
  refine lv_isub hx hb dX8_costOf_16 ?_
  refine lv_istore_n (lv' := [(3, .int ((f 158 (0 : Int32).toNatClampNeg) - r2)), (2, .int (x1 / 8)), (0, .ref (ad 146)), (1, .int x1)]) hx hb dX8_costOf_17 rfl hl (by decide) rfl (fun ls hl => ?_)
  refine lv_aload_n hx hb dX8_costOf_18 rfl (lv_at hl 2 rfl) ?_
  refine h_getR hx hb hts hnX8_costOf_X8 hown hK hw hS.1 rfl 3 (by decide) rfl hkX8_costOf_13 dX8_costOf_19 ?_
  refine lv_iconst (v := 2) hx hb dX8_costOf_22 (by decide) ?_
  refine lv_iload_n hx hb dX8_costOf_23 rfl (lv_at hl 1 rfl) ?_
  refine lv_imul hx hb dX8_costOf_24 ?_
  refine lv_iconst (v := 1) hx hb dX8_costOf_25 (by decide) ?_
  refine lv_iadd hx hb dX8_costOf_26 ?_
  obtain ⟨hi3, h⟩ := gd_s h
  refine h_iald hx hb hK hw hS.2.2.1 hi3 dX8_costOf_27 ?_
  refine lv_aload_n hx hb dX8_costOf_28 rfl (lv_at hl 2 rfl) ?_
  refine h_getR hx hb hts hnX8_costOf_X8 hown hK hw hS.1 rfl 3 (by decide) rfl hkX8_costOf_13 dX8_costOf_29 ?_
  refine lv_iconst (v := 2) hx hb dX8_costOf_32 (by decide) ?_
  refine lv_iload_n hx hb dX8_costOf_33 rfl (lv_at hl 1 rfl) ?_
  refine lv_imul hx hb dX8_costOf_34 ?_
  obtain ⟨hi4, h⟩ := gd_s h
  refine h_iald hx hb hK hw hS.2.2.1 hi4 dX8_costOf_35 ?_
  refine lv_iconst (v := 2) hx hb dX8_costOf_36 (by decide) ?_
  refine lv_icmp_ne (tgt := 46) hx hb dX8_costOf_37 (by decide) (fun hc5 => ?_) (fun hc5 => ?_)
  · have h := ie hc5 h
    refine lv_iload_n hx hb dX8_costOf_46 rfl (lv_at hl 0 rfl) ?_
    refine lv_iadd hx hb dX8_costOf_47 ?_
    exact h_retR hx hb hr hlocks rfl (so1 h) dX8_costOf_48
  · have h := it hc5 h
    refine lv_iload_n hx hb dX8_costOf_40 rfl (lv_at hl 0 rfl) ?_
    refine lv_iconst (v := 2) hx hb dX8_costOf_41 (by decide) ?_
    refine lv_idiv hx hb dX8_costOf_42 (by decide) ?_
    refine lv_goto (tgt := 47) hx hb dX8_costOf_43 (by decide) ?_
    refine lv_iadd hx hb dX8_costOf_47 ?_
    exact h_retR hx hb hr hlocks rfl (so1 h) dX8_costOf_48

theorem hnX8_fill_X8 : ∀ w ∈ wsX80, w ∈ wsX8_fill := by decide +kernel
theorem hkX8_fill_16 : Cond.fieldLink RX8 16 (TX8 5).1 (TX8 5).2.1 (TX8 5).2.2.1 ∈ wsX8_fill := by decide +kernel
theorem hkX8_fill_43 : Cond.fieldLink RX8 43 (TX8 22).1 (TX8 22).2.1 (TX8 22).2.2.1 ∈ wsX8_fill := by decide +kernel
set_option maxHeartbeats 8000000 in
set_option maxRecDepth 100000 in
theorem mX8_fill (l : Launch) (D : va_G) (ac : Nat → ClassId) (ad : Nat → Nat) (S : List hSh) (f : hF) (x1 : Int32) (x2 : Int32) (x3 : Int32) (x4 : Int32) (rv : Int32) (gv : hF) (hS : isMo S) (h : fX8_fill f x1 x2 x3 x4 = some (rv, gv)) : Met l yX8_fill wsX8_fill ({ frames := 3, cells := 0, slots := 0, locals := 69 }) (hPc D ac ad S f [.ref (ad 146), .int x1, .int x2, .int x3, .int x4]) (hQi D ac ad S rv gv) 0 0 (hAd ad S.length) := by
  refine h_enter (C := RX8) (cc := cX8_fill) (maxL := 7) (ret := (some .int)) (lv := [(0, .ref (ad 146)), (1, .int x1), (2, .int x2), (3, .int x3), (4, .int x4)]) (by decide) rfl rfl (Nat.le_of_ble_eq_true rfl) rfl (fun p e s m below meth c ls hx hb hml hr hlocks hown hts hK hw hl => ?_)
  unfold fX8_fill at h
  refine lv_aload_n hx hb dX8_fill_0 rfl (lv_at hl 0 rfl) ?_
  refine lv_iload_n hx hb dX8_fill_1 rfl (lv_at hl 1 rfl) ?_
  refine lv_iload_n hx hb dX8_fill_2 rfl (lv_at hl 2 rfl) ?_
  obtain ⟨r1, er1, h⟩ := b1_s h
  refine h_callR (va_runV (As := [.int x1, .int x2]) (rest := []) ⟨hx, hb, hml, hown, hts⟩ (mX8_isLine l D ac ad S f x1 x2 r1 hS er1) (cwV 2 hts gX8_fill_X8_isLine rfl rfl rfl (by decide +kernel) ⟨Nat.le_of_ble_eq_true rfl, Nat.le_of_ble_eq_true rfl⟩) (h_preV hK hw hS.1 rfl _) rfl rfl hl.1 rfl (lv_room (Nat.le_of_ble_eq_true rfl)) dX8_fill_3 ⟨Nat.le_of_ble_eq_true rfl, Nat.le_of_ble_eq_true rfl⟩) ?_
  refine lv_if_eq (tgt := 32) hx hb dX8_fill_6 (by decide) (fun hc2 => ?_) (fun hc2 => ?_)
  · have h := it hc2 h
    refine lv_iconst (v := (-1)) hx hb dX8_fill_32 (by decide) ?_
    exact h_retQ hx hb hr hlocks hw rfl (so2 h) dX8_fill_33
  · have h := ie hc2 h
    refine lv_aload_n hx hb dX8_fill_9 rfl (lv_at hl 0 rfl) ?_
    refine lv_iload_n hx hb dX8_fill_10 rfl (lv_at hl 3 rfl) ?_
    obtain ⟨r3, er3, h⟩ := b1_s h
    refine h_callR (va_runV (As := [.int x3]) (rest := []) ⟨hx, hb, hml, hown, hts⟩ (mX8_isPerson l D ac ad S f x3 r3 hS er3) (cwV 1 hts gX8_fill_X8_isPerson rfl rfl rfl (by decide +kernel) ⟨Nat.le_of_ble_eq_true rfl, Nat.le_of_ble_eq_true rfl⟩) (h_preV hK hw hS.1 rfl _) rfl rfl hl.1 rfl (lv_room (Nat.le_of_ble_eq_true rfl)) dX8_fill_11 ⟨Nat.le_of_ble_eq_true rfl, Nat.le_of_ble_eq_true rfl⟩) ?_
    refine lv_if_eq (tgt := 32) hx hb dX8_fill_14 (by decide) (fun hc4 => ?_) (fun hc4 => ?_)
    · have h := it hc4 h
      refine lv_iconst (v := (-1)) hx hb dX8_fill_32 (by decide) ?_
      exact h_retQ hx hb hr hlocks hw rfl (so2 h) dX8_fill_33
    · have h := ie hc4 h
      refine lv_aload_n hx hb dX8_fill_17 rfl (lv_at hl 0 rfl) ?_
      refine lv_iload hx hb dX8_fill_18 (lv_at hl 4 rfl) ?_
      obtain ⟨r5, er5, h⟩ := b1_s h
      refine h_callR (va_runV (As := [.int x4]) (rest := []) ⟨hx, hb, hml, hown, hts⟩ (mX8_isPerson l D ac ad S f x4 r5 hS er5) (cwV 1 hts gX8_fill_X8_isPerson rfl rfl rfl (by decide +kernel) ⟨Nat.le_of_ble_eq_true rfl, Nat.le_of_ble_eq_true rfl⟩) (h_preV hK hw hS.1 rfl _) rfl rfl hl.1 rfl (lv_room (Nat.le_of_ble_eq_true rfl)) dX8_fill_20 ⟨Nat.le_of_ble_eq_true rfl, Nat.le_of_ble_eq_true rfl⟩) ?_
      refine lv_if_eq (tgt := 32) hx hb dX8_fill_23 (by decide) (fun hc6 => ?_) (fun hc6 => ?_)
      · have h := it hc6 h
        refine lv_iconst (v := (-1)) hx hb dX8_fill_32 (by decide) ?_
        exact h_retQ hx hb hr hlocks hw rfl (so2 h) dX8_fill_33
      · have h := ie hc6 h
        refine lv_iload_n hx hb dX8_fill_26 rfl (lv_at hl 3 rfl) ?_
        refine lv_iload hx hb dX8_fill_27 (lv_at hl 4 rfl) ?_
        refine lv_icmp_ne (tgt := 34) hx hb dX8_fill_29 (by decide) (fun hc7 => ?_) (fun hc7 => ?_)
        · have h := ie hc7 h
          refine lv_aload_n hx hb dX8_fill_34 rfl (lv_at hl 0 rfl) ?_
          obtain ⟨f8, ef8, h⟩ := b1_s h
          refine h_callV hw (va_runV (As := []) (rest := []) ⟨hx, hb, hml, hown, hts⟩ (mX8_asItIs l D ac ad S f f8 hS ef8) (cwV 0 hts gX8_fill_X8_asItIs rfl rfl rfl (by decide +kernel) ⟨Nat.le_of_ble_eq_true rfl, Nat.le_of_ble_eq_true rfl⟩) (h_preV hK hw hS.1 rfl _) rfl rfl hl.1 rfl (lv_room (Nat.le_of_ble_eq_true rfl)) dX8_fill_35 ⟨Nat.le_of_ble_eq_true rfl, Nat.le_of_ble_eq_true rfl⟩) (fun H locs hw => ?_)
          refine lv_bipush (v := 8) hx hb dX8_fill_38 (by decide) ?_
          refine lv_iload_n hx hb dX8_fill_40 rfl (lv_at hl 1 rfl) ?_
          refine lv_imul hx hb dX8_fill_41 ?_
          refine lv_iload_n hx hb dX8_fill_42 rfl (lv_at hl 2 rfl) ?_
          refine lv_iadd hx hb dX8_fill_43 ?_
          refine lv_istore (lv' := [(5, .int ((8 * x1) + x2)), (0, .ref (ad 146)), (1, .int x1), (2, .int x2), (3, .int x3), (4, .int x4)]) hx hb dX8_fill_44 hl (by decide) rfl (fun ls hl => ?_)
          refine lv_aload_n hx hb dX8_fill_46 rfl (lv_at hl 1 rfl) ?_
          refine lv_iload hx hb dX8_fill_47 (lv_at hl 0 rfl) ?_
          obtain ⟨r9, er9, h⟩ := b1_s h
          refine h_callR (va_runV (As := [.int ((8 * x1) + x2)]) (rest := []) ⟨hx, hb, hml, hown, hts⟩ (mX8_isBlank l D ac ad S f8 ((8 * x1) + x2) r9 hS er9) (cwV 1 hts gX8_fill_X8_isBlank rfl rfl rfl (by decide +kernel) ⟨Nat.le_of_ble_eq_true rfl, Nat.le_of_ble_eq_true rfl⟩) (h_preV hK hw hS.1 rfl _) rfl rfl hl.1 rfl (lv_room (Nat.le_of_ble_eq_true rfl)) dX8_fill_49 ⟨Nat.le_of_ble_eq_true rfl, Nat.le_of_ble_eq_true rfl⟩) ?_
          refine lv_if_eq (tgt := 81) hx hb dX8_fill_52 (by decide) (fun hc10 => ?_) (fun hc10 => ?_)
          · have h := it hc10 h
            refine lv_bipush (v := (-2)) hx hb dX8_fill_81 (by decide) ?_
            exact h_retQ hx hb hr hlocks hw rfl (so2 h) dX8_fill_83
          · have h := ie hc10 h
            refine lv_aload_n hx hb dX8_fill_55 rfl (lv_at hl 1 rfl) ?_
            refine lv_iload_n hx hb dX8_fill_56 rfl (lv_at hl 4 rfl) ?_
            refine lv_iload hx hb dX8_fill_57 (lv_at hl 5 rfl) ?_
            obtain ⟨r11, er11, h⟩ := b1_s h
            refine h_callR (va_runV (As := [.int x3, .int x4]) (rest := []) ⟨hx, hb, hml, hown, hts⟩ (mX8_canBeTwo l D ac ad S f8 x3 x4 r11 hS er11) (cwV 2 hts gX8_fill_X8_canBeTwo rfl rfl rfl (by decide +kernel) ⟨Nat.le_of_ble_eq_true rfl, Nat.le_of_ble_eq_true rfl⟩) (h_preV hK hw hS.1 rfl _) rfl rfl hl.1 rfl (lv_room (Nat.le_of_ble_eq_true rfl)) dX8_fill_59 ⟨Nat.le_of_ble_eq_true rfl, Nat.le_of_ble_eq_true rfl⟩) ?_
            refine lv_if_eq (tgt := 81) hx hb dX8_fill_62 (by decide) (fun hc12 => ?_) (fun hc12 => ?_)
            · have h := it hc12 h
              refine lv_bipush (v := (-2)) hx hb dX8_fill_81 (by decide) ?_
              exact h_retQ hx hb hr hlocks hw rfl (so2 h) dX8_fill_83
            · have h := ie hc12 h
              refine lv_aload_n hx hb dX8_fill_65 rfl (lv_at hl 1 rfl) ?_
              refine lv_iload_n hx hb dX8_fill_66 rfl (lv_at hl 4 rfl) ?_
              refine lv_iload hx hb dX8_fill_67 (lv_at hl 5 rfl) ?_
              refine lv_aload_n hx hb dX8_fill_69 rfl (lv_at hl 1 rfl) ?_
              refine lv_iload hx hb dX8_fill_70 (lv_at hl 0 rfl) ?_
              obtain ⟨r13, er13, h⟩ := b1_s h
              refine h_callR (va_runV (As := [.int ((8 * x1) + x2)]) (rest := [.int x4, .int x3, .ref (ad 146)]) ⟨hx, hb, hml, hown, hts⟩ (mX8_costOf l D ac ad S f8 ((8 * x1) + x2) r13 hS er13) (cwV 1 hts gX8_fill_X8_costOf rfl rfl rfl (by decide +kernel) ⟨Nat.le_of_ble_eq_true rfl, Nat.le_of_ble_eq_true rfl⟩) (h_preV hK hw hS.1 rfl _) rfl rfl hl.1 rfl (lv_room (Nat.le_of_ble_eq_true rfl)) dX8_fill_72 ⟨Nat.le_of_ble_eq_true rfl, Nat.le_of_ble_eq_true rfl⟩) ?_
              obtain ⟨r14, er14, h⟩ := b1_s h
              refine h_callR (va_runV (As := [.int x3, .int x4, .int r13]) (rest := []) ⟨hx, hb, hml, hown, hts⟩ (mX8_canPay l D ac ad S f8 x3 x4 r13 r14 hS er14) (cwV 3 hts gX8_fill_X8_canPay rfl rfl rfl (by decide +kernel) ⟨Nat.le_of_ble_eq_true rfl, Nat.le_of_ble_eq_true rfl⟩) (h_preV hK hw hS.1 rfl _) rfl rfl hl.1 rfl (lv_room (Nat.le_of_ble_eq_true rfl)) dX8_fill_75 ⟨Nat.le_of_ble_eq_true rfl, Nat.le_of_ble_eq_true rfl⟩) ?_
              refine lv_if_ne (tgt := 84) hx hb dX8_fill_78 (by decide) (fun hc15 => ?_) (fun hc15 => ?_)
              · have h := ie hc15 h
                refine lv_aload_n hx hb dX8_fill_84 rfl (lv_at hl 1 rfl) ?_
                obtain ⟨f16, ef16, h⟩ := b1_s h
                refine h_callV hw (va_runV (As := []) (rest := []) ⟨hx, hb, hml, hown, hts⟩ (mX8_remembers l D ac ad S f8 f16 hS ef16) (cwV 0 hts gX8_fill_X8_remembers rfl rfl rfl (by decide +kernel) ⟨Nat.le_of_ble_eq_true rfl, Nat.le_of_ble_eq_true rfl⟩) (h_preV hK hw hS.1 rfl _) rfl rfl hl.1 rfl (lv_room (Nat.le_of_ble_eq_true rfl)) dX8_fill_85 ⟨Nat.le_of_ble_eq_true rfl, Nat.le_of_ble_eq_true rfl⟩) (fun H locs hw => ?_)
                refine lv_aload_n hx hb dX8_fill_88 rfl (lv_at hl 1 rfl) ?_
                refine lv_iload hx hb dX8_fill_89 (lv_at hl 0 rfl) ?_
                obtain ⟨r17, er17, h⟩ := b1_s h
                refine h_callR (va_runV (As := [.int ((8 * x1) + x2)]) (rest := []) ⟨hx, hb, hml, hown, hts⟩ (mX8_costOf l D ac ad S f16 ((8 * x1) + x2) r17 hS er17) (cwV 1 hts gX8_fill_X8_costOf rfl rfl rfl (by decide +kernel) ⟨Nat.le_of_ble_eq_true rfl, Nat.le_of_ble_eq_true rfl⟩) (h_preV hK hw hS.1 rfl _) rfl rfl hl.1 rfl (lv_room (Nat.le_of_ble_eq_true rfl)) dX8_fill_91 ⟨Nat.le_of_ble_eq_true rfl, Nat.le_of_ble_eq_true rfl⟩) ?_
                refine lv_istore (lv' := [(6, .int r17), (5, .int ((8 * x1) + x2)), (0, .ref (ad 146)), (1, .int x1), (2, .int x2), (3, .int x3), (4, .int x4)]) hx hb dX8_fill_94 hl (by decide) rfl (fun ls hl => ?_)
                refine lv_aload_n hx hb dX8_fill_96 rfl (lv_at hl 2 rfl) ?_
                refine lv_iload_n hx hb dX8_fill_97 rfl (lv_at hl 3 rfl) ?_
                refine lv_iload_n hx hb dX8_fill_98 rfl (lv_at hl 5 rfl) ?_
                refine lv_iload hx hb dX8_fill_99 (lv_at hl 6 rfl) ?_
                refine lv_iload hx hb dX8_fill_101 (lv_at hl 0 rfl) ?_
                obtain ⟨f18, ef18, h⟩ := b1_s h
                refine h_callV hw (va_runV (As := [.int x1, .int x3, .int x4, .int r17]) (rest := []) ⟨hx, hb, hml, hown, hts⟩ (mX8_pays l D ac ad S f16 x1 x3 x4 r17 f18 hS ef18) (cwV 4 hts gX8_fill_X8_pays rfl rfl rfl (by decide +kernel) ⟨Nat.le_of_ble_eq_true rfl, Nat.le_of_ble_eq_true rfl⟩) (h_preV hK hw hS.1 rfl _) rfl rfl hl.1 rfl (lv_room (Nat.le_of_ble_eq_true rfl)) dX8_fill_103 ⟨Nat.le_of_ble_eq_true rfl, Nat.le_of_ble_eq_true rfl⟩) (fun H locs hw => ?_)
                refine lv_aload_n hx hb dX8_fill_106 rfl (lv_at hl 2 rfl) ?_
                refine lv_iload hx hb dX8_fill_107 (lv_at hl 1 rfl) ?_
                refine lv_iload_n hx hb dX8_fill_109 rfl (lv_at hl 5 rfl) ?_
                refine lv_iload hx hb dX8_fill_110 (lv_at hl 6 rfl) ?_
                obtain ⟨f19, ef19, h⟩ := b1_s h
                refine h_callV hw (va_runV (As := [.int ((8 * x1) + x2), .int x3, .int x4]) (rest := []) ⟨hx, hb, hml, hown, hts⟩ (mX8_writes l D ac ad S f18 ((8 * x1) + x2) x3 x4 f19 hS ef19) (cwV 3 hts gX8_fill_X8_writes rfl rfl rfl (by decide +kernel) ⟨Nat.le_of_ble_eq_true rfl, Nat.le_of_ble_eq_true rfl⟩) (h_preV hK hw hS.1 rfl _) rfl rfl hl.1 rfl (lv_room (Nat.le_of_ble_eq_true rfl)) dX8_fill_112 ⟨Nat.le_of_ble_eq_true rfl, Nat.le_of_ble_eq_true rfl⟩) (fun H locs hw => ?_)
                refine lv_aload_n hx hb dX8_fill_115 rfl (lv_at hl 2 rfl) ?_
                refine h_getR hx hb hts hnX8_fill_X8 hown hK hw hS.1 rfl 5 (by decide) rfl hkX8_fill_16 dX8_fill_116 ?_
                refine lv_iconst (v := 0) hx hb dX8_fill_119 (by decide) ?_
                refine lv_aload_n hx hb dX8_fill_120 rfl (lv_at hl 2 rfl) ?_
                refine h_getR hx hb hts hnX8_fill_X8 hown hK hw hS.1 rfl 22 (by decide) rfl hkX8_fill_43 dX8_fill_121 ?_
                refine lv_iconst (v := 0) hx hb dX8_fill_124 (by decide) ?_
                refine lv_bipush (v := 111) hx hb dX8_fill_125 (by decide) ?_
                obtain ⟨f20, ef20, h⟩ := b1_s h
                refine h_callV hw (va_runS (As := [.ref (ad 149), .int 0, .ref (ad 158), .int 0, .int 111]) (rest := []) ⟨hx, hb, hml, hown, hts⟩ (mX8_copies l D ac ad S 149 111 158 111 f19 (0 : Int32) (0 : Int32) (111 : Int32) f20 hS.2.2.2.1 hS.2.2.2.2.2.2.2.2.2.2.2.2.1 ef20) (va_cwS 5 hts gX8_fill_X8_copies rfl rfl rfl (by decide +kernel) ⟨Nat.le_of_ble_eq_true rfl, Nat.le_of_ble_eq_true rfl⟩) (h_preS hK hw _) rfl rfl hl.1 rfl (lv_room (Nat.le_of_ble_eq_true rfl)) dX8_fill_127 ⟨Nat.le_of_ble_eq_true rfl, Nat.le_of_ble_eq_true rfl⟩) (fun H locs hw => ?_)
                refine lv_iload hx hb dX8_fill_130 (lv_at hl 0 rfl) ?_
                exact h_retQ hx hb hr hlocks hw rfl (so2 h) dX8_fill_132
              · have h := it hc15 h
                refine lv_bipush (v := (-2)) hx hb dX8_fill_81 (by decide) ?_
                exact h_retQ hx hb hr hlocks hw rfl (so2 h) dX8_fill_83
        · have h := it hc7 h
          refine lv_iconst (v := (-1)) hx hb dX8_fill_32 (by decide) ?_
          exact h_retQ hx hb hr hlocks hw rfl (so2 h) dX8_fill_33

theorem hnX8_strike_X8 : ∀ w ∈ wsX80, w ∈ wsX8_strike := by decide +kernel
theorem hkX8_strike_43 : Cond.fieldLink RX8 43 (TX8 22).1 (TX8 22).2.1 (TX8 22).2.2.1 ∈ wsX8_strike := by decide +kernel
theorem hkX8_strike_16 : Cond.fieldLink RX8 16 (TX8 5).1 (TX8 5).2.1 (TX8 5).2.2.1 ∈ wsX8_strike := by decide +kernel
set_option maxHeartbeats 8000000 in
set_option maxRecDepth 100000 in
theorem mX8_strike (l : Launch) (D : va_G) (ac : Nat → ClassId) (ad : Nat → Nat) (S : List hSh) (f : hF) (x1 : Int32) (x2 : Int32) (rv : Int32) (gv : hF) (hS : isMo S) (h : fX8_strike f x1 x2 = some (rv, gv)) : Met l yX8_strike wsX8_strike ({ frames := 4, cells := 0, slots := 0, locals := 87 }) (hPc D ac ad S f [.ref (ad 146), .int x1, .int x2]) (hQi D ac ad S rv gv) 0 0 (hAd ad S.length) := by
  refine h_enter (C := RX8) (cc := cX8_strike) (maxL := 4) (ret := (some .int)) (lv := [(0, .ref (ad 146)), (1, .int x1), (2, .int x2)]) (by decide) rfl rfl (Nat.le_of_ble_eq_true rfl) rfl (fun p e s m below meth c ls hx hb hml hr hlocks hown hts hK hw hl => ?_)
  unfold fX8_strike at h
  refine lv_aload_n hx hb dX8_strike_0 rfl (lv_at hl 0 rfl) ?_
  refine lv_iload_n hx hb dX8_strike_1 rfl (lv_at hl 1 rfl) ?_
  refine lv_iload_n hx hb dX8_strike_2 rfl (lv_at hl 2 rfl) ?_
  obtain ⟨r1, er1, h⟩ := b1_s h
  refine h_callR (va_runV (As := [.int x1, .int x2]) (rest := []) ⟨hx, hb, hml, hown, hts⟩ (mX8_isLine l D ac ad S f x1 x2 r1 hS er1) (cwV 2 hts gX8_strike_X8_isLine rfl rfl rfl (by decide +kernel) ⟨Nat.le_of_ble_eq_true rfl, Nat.le_of_ble_eq_true rfl⟩) (h_preV hK hw hS.1 rfl _) rfl rfl hl.1 rfl (lv_room (Nat.le_of_ble_eq_true rfl)) dX8_strike_3 ⟨Nat.le_of_ble_eq_true rfl, Nat.le_of_ble_eq_true rfl⟩) ?_
  refine lv_if_ne (tgt := 11) hx hb dX8_strike_6 (by decide) (fun hc2 => ?_) (fun hc2 => ?_)
  · have h := ie hc2 h
    refine lv_aload_n hx hb dX8_strike_11 rfl (lv_at hl 0 rfl) ?_
    obtain ⟨f3, ef3, h⟩ := b1_s h
    refine h_callV hw (va_runV (As := []) (rest := []) ⟨hx, hb, hml, hown, hts⟩ (mX8_asItIs l D ac ad S f f3 hS ef3) (cwV 0 hts gX8_strike_X8_asItIs rfl rfl rfl (by decide +kernel) ⟨Nat.le_of_ble_eq_true rfl, Nat.le_of_ble_eq_true rfl⟩) (h_preV hK hw hS.1 rfl _) rfl rfl hl.1 rfl (lv_room (Nat.le_of_ble_eq_true rfl)) dX8_strike_12 ⟨Nat.le_of_ble_eq_true rfl, Nat.le_of_ble_eq_true rfl⟩) (fun H locs hw => ?_)
    refine lv_bipush (v := 8) hx hb dX8_strike_15 (by decide) ?_
    refine lv_iload_n hx hb dX8_strike_17 rfl (lv_at hl 1 rfl) ?_
    refine lv_imul hx hb dX8_strike_18 ?_
    refine lv_iload_n hx hb dX8_strike_19 rfl (lv_at hl 2 rfl) ?_
    refine lv_iadd hx hb dX8_strike_20 ?_
    refine lv_istore_n (lv' := [(3, .int ((8 * x1) + x2)), (0, .ref (ad 146)), (1, .int x1), (2, .int x2)]) hx hb dX8_strike_21 rfl hl (by decide) rfl (fun ls hl => ?_)
    refine lv_aload_n hx hb dX8_strike_22 rfl (lv_at hl 1 rfl) ?_
    refine lv_iload_n hx hb dX8_strike_23 rfl (lv_at hl 0 rfl) ?_
    obtain ⟨r4, er4, h⟩ := b1_s h
    refine h_callR (va_runV (As := [.int ((8 * x1) + x2)]) (rest := []) ⟨hx, hb, hml, hown, hts⟩ (mX8_isOfTwo l D ac ad S f3 ((8 * x1) + x2) r4 hS er4) (cwV 1 hts gX8_strike_X8_isOfTwo rfl rfl rfl (by decide +kernel) ⟨Nat.le_of_ble_eq_true rfl, Nat.le_of_ble_eq_true rfl⟩) (h_preV hK hw hS.1 rfl _) rfl rfl hl.1 rfl (lv_room (Nat.le_of_ble_eq_true rfl)) dX8_strike_24 ⟨Nat.le_of_ble_eq_true rfl, Nat.le_of_ble_eq_true rfl⟩) ?_
    refine lv_if_ne (tgt := 33) hx hb dX8_strike_27 (by decide) (fun hc5 => ?_) (fun hc5 => ?_)
    · have h := ie hc5 h
      refine lv_aload_n hx hb dX8_strike_33 rfl (lv_at hl 1 rfl) ?_
      obtain ⟨f6, ef6, h⟩ := b1_s h
      refine h_callV hw (va_runV (As := []) (rest := []) ⟨hx, hb, hml, hown, hts⟩ (mX8_remembers l D ac ad S f3 f6 hS ef6) (cwV 0 hts gX8_strike_X8_remembers rfl rfl rfl (by decide +kernel) ⟨Nat.le_of_ble_eq_true rfl, Nat.le_of_ble_eq_true rfl⟩) (h_preV hK hw hS.1 rfl _) rfl rfl hl.1 rfl (lv_room (Nat.le_of_ble_eq_true rfl)) dX8_strike_34 ⟨Nat.le_of_ble_eq_true rfl, Nat.le_of_ble_eq_true rfl⟩) (fun H locs hw => ?_)
      refine lv_aload_n hx hb dX8_strike_37 rfl (lv_at hl 1 rfl) ?_
      refine h_getR hx hb hts hnX8_strike_X8 hown hK hw hS.1 rfl 22 (by decide) rfl hkX8_strike_43 dX8_strike_38 ?_
      refine lv_bipush (v := 15) hx hb dX8_strike_41 (by decide) ?_
      refine lv_iconst (v := 4) hx hb dX8_strike_43 (by decide) ?_
      refine lv_iload_n hx hb dX8_strike_44 rfl (lv_at hl 0 rfl) ?_
      refine lv_imul hx hb dX8_strike_45 ?_
      refine lv_iadd hx hb dX8_strike_46 ?_
      refine lv_iconst (v := 1) hx hb dX8_strike_47 (by decide) ?_
      refine lv_iadd hx hb dX8_strike_48 ?_
      refine lv_bipush (v := (-2)) hx hb dX8_strike_49 (by decide) ?_
      obtain ⟨hi7, h⟩ := gd_s h
      obtain ⟨f8, ef8, h⟩ := lt_s2 h
      refine h_iast (g := f8) ef8 hx hb hK hw hS.2.2.2.2.2.2.2.2.2.2.2.2.1 hi7 dX8_strike_51 (fun H locs hw => ?_)
      refine lv_aload_n hx hb dX8_strike_52 rfl (lv_at hl 1 rfl) ?_
      refine h_getR hx hb hts hnX8_strike_X8 hown hK hw hS.1 rfl 5 (by decide) rfl hkX8_strike_16 dX8_strike_53 ?_
      refine lv_iconst (v := 0) hx hb dX8_strike_56 (by decide) ?_
      refine lv_aload_n hx hb dX8_strike_57 rfl (lv_at hl 1 rfl) ?_
      refine h_getR hx hb hts hnX8_strike_X8 hown hK hw hS.1 rfl 22 (by decide) rfl hkX8_strike_43 dX8_strike_58 ?_
      refine lv_iconst (v := 0) hx hb dX8_strike_61 (by decide) ?_
      refine lv_bipush (v := 111) hx hb dX8_strike_62 (by decide) ?_
      obtain ⟨f9, ef9, h⟩ := b1_s h
      refine h_callV hw (va_runS (As := [.ref (ad 149), .int 0, .ref (ad 158), .int 0, .int 111]) (rest := []) ⟨hx, hb, hml, hown, hts⟩ (mX8_copies l D ac ad S 149 111 158 111 f8 (0 : Int32) (0 : Int32) (111 : Int32) f9 hS.2.2.2.1 hS.2.2.2.2.2.2.2.2.2.2.2.2.1 ef9) (va_cwS 5 hts gX8_strike_X8_copies rfl rfl rfl (by decide +kernel) ⟨Nat.le_of_ble_eq_true rfl, Nat.le_of_ble_eq_true rfl⟩) (h_preS hK hw _) rfl rfl hl.1 rfl (lv_room (Nat.le_of_ble_eq_true rfl)) dX8_strike_64 ⟨Nat.le_of_ble_eq_true rfl, Nat.le_of_ble_eq_true rfl⟩) (fun H locs hw => ?_)
      refine lv_aload_n hx hb dX8_strike_67 rfl (lv_at hl 1 rfl) ?_
      obtain ⟨f10, ef10, h⟩ := b1_s h
      refine h_callV hw (va_runV (As := []) (rest := []) ⟨hx, hb, hml, hown, hts⟩ (mX8_findHolds l D ac ad S f9 f10 hS ef10) (cwV 0 hts gX8_strike_X8_findHolds rfl rfl rfl (by decide +kernel) ⟨Nat.le_of_ble_eq_true rfl, Nat.le_of_ble_eq_true rfl⟩) (h_preV hK hw hS.1 rfl _) rfl rfl hl.1 rfl (lv_room (Nat.le_of_ble_eq_true rfl)) dX8_strike_68 ⟨Nat.le_of_ble_eq_true rfl, Nat.le_of_ble_eq_true rfl⟩) (fun H locs hw => ?_)
      refine lv_aload_n hx hb dX8_strike_71 rfl (lv_at hl 1 rfl) ?_
      obtain ⟨r11, er11, h⟩ := b1_s h
      refine h_callR (va_runV (As := []) (rest := []) ⟨hx, hb, hml, hown, hts⟩ (mX8_manyHold l D ac ad S f10 r11 hS er11) (cwV 0 hts gX8_strike_X8_manyHold rfl rfl rfl (by decide +kernel) ⟨Nat.le_of_ble_eq_true rfl, Nat.le_of_ble_eq_true rfl⟩) (h_preV hK hw hS.1 rfl _) rfl rfl hl.1 rfl (lv_room (Nat.le_of_ble_eq_true rfl)) dX8_strike_72 ⟨Nat.le_of_ble_eq_true rfl, Nat.le_of_ble_eq_true rfl⟩) ?_
      exact h_retQ hx hb hr hlocks hw rfl (so2 h) dX8_strike_75
    · have h := it hc5 h
      refine lv_bipush (v := (-2)) hx hb dX8_strike_30 (by decide) ?_
      exact h_retQ hx hb hr hlocks hw rfl (so2 h) dX8_strike_32
  · have h := it hc2 h
    refine lv_iconst (v := (-1)) hx hb dX8_strike_9 (by decide) ?_
    exact h_retQ hx hb hr hlocks hw rfl (so2 h) dX8_strike_10

theorem hnX8_pass_X8 : ∀ w ∈ wsX80, w ∈ wsX8_pass := by decide +kernel
theorem hkX8_pass_16 : Cond.fieldLink RX8 16 (TX8 5).1 (TX8 5).2.1 (TX8 5).2.2.1 ∈ wsX8_pass := by decide +kernel
set_option maxHeartbeats 8000000 in
set_option maxRecDepth 100000 in
theorem mX8_pass (l : Launch) (D : va_G) (ac : Nat → ClassId) (ad : Nat → Nat) (S : List hSh) (f : hF) (x1 : Int32) (rv : Int32) (gv : hF) (hS : isMo S) (h : fX8_pass f x1 = some (rv, gv)) : Met l yX8_pass wsX8_pass ({ frames := 2, cells := 0, slots := 0, locals := 46 }) (hPc D ac ad S f [.ref (ad 146), .int x1]) (hQi D ac ad S rv gv) 0 0 (hAd ad S.length) := by
  refine h_enter (C := RX8) (cc := cX8_pass) (maxL := 2) (ret := (some .int)) (lv := [(0, .ref (ad 146)), (1, .int x1)]) (by decide) rfl rfl (Nat.le_of_ble_eq_true rfl) rfl (fun p e s m below meth c ls hx hb hml hr hlocks hown hts hK hw hl => ?_)
  unfold fX8_pass at h
  refine lv_iload_n hx hb dX8_pass_0 rfl (lv_at hl 1 rfl) ?_
  refine lv_iconst (v := 1) hx hb dX8_pass_1 (by decide) ?_
  refine lv_bipush (v := 30) hx hb dX8_pass_2 (by decide) ?_
  obtain ⟨r1, er1, h⟩ := b1_s h
  refine h_callR (va_runS (As := [.int x1, .int 1, .int 30]) (rest := []) ⟨hx, hb, hml, hown, hts⟩ (mX8_in l D ac ad S f x1 (1 : Int32) (30 : Int32) r1  er1) (va_cwS 3 hts gX8_pass_X8_in rfl rfl rfl (by decide +kernel) ⟨Nat.le_of_ble_eq_true rfl, Nat.le_of_ble_eq_true rfl⟩) (h_preS hK hw _) rfl rfl hl.1 rfl (lv_room (Nat.le_of_ble_eq_true rfl)) dX8_pass_4 ⟨Nat.le_of_ble_eq_true rfl, Nat.le_of_ble_eq_true rfl⟩) ?_
  refine lv_if_ne (tgt := 12) hx hb dX8_pass_7 (by decide) (fun hc2 => ?_) (fun hc2 => ?_)
  · have h := ie hc2 h
    refine lv_aload_n hx hb dX8_pass_12 rfl (lv_at hl 0 rfl) ?_
    obtain ⟨f3, ef3, h⟩ := b1_s h
    refine h_callV hw (va_runV (As := []) (rest := []) ⟨hx, hb, hml, hown, hts⟩ (mX8_remembers l D ac ad S f f3 hS ef3) (cwV 0 hts gX8_pass_X8_remembers rfl rfl rfl (by decide +kernel) ⟨Nat.le_of_ble_eq_true rfl, Nat.le_of_ble_eq_true rfl⟩) (h_preV hK hw hS.1 rfl _) rfl rfl hl.1 rfl (lv_room (Nat.le_of_ble_eq_true rfl)) dX8_pass_13 ⟨Nat.le_of_ble_eq_true rfl, Nat.le_of_ble_eq_true rfl⟩) (fun H locs hw => ?_)
    refine lv_aload_n hx hb dX8_pass_16 rfl (lv_at hl 0 rfl) ?_
    refine h_getR hx hb hts hnX8_pass_X8 hown hK hw hS.1 rfl 5 (by decide) rfl hkX8_pass_16 dX8_pass_17 ?_
    refine lv_iconst (v := 0) hx hb dX8_pass_20 (by decide) ?_
    refine lv_dup2_11 hx hb dX8_pass_21 rfl rfl ?_
    obtain ⟨hi4, h⟩ := gd_s h
    refine h_iald hx hb hK hw hS.2.2.2.1 hi4 dX8_pass_22 ?_
    refine lv_iload_n hx hb dX8_pass_23 rfl (lv_at hl 1 rfl) ?_
    refine lv_iadd hx hb dX8_pass_24 ?_
    obtain ⟨hi5, h⟩ := gd_s h
    obtain ⟨f6, ef6, h⟩ := lt_s2 h
    refine h_iast (g := f6) ef6 hx hb hK hw hS.2.2.2.1 hi5 dX8_pass_25 (fun H locs hw => ?_)
    refine lv_aload_n hx hb dX8_pass_26 rfl (lv_at hl 0 rfl) ?_
    refine h_getR hx hb hts hnX8_pass_X8 hown hK hw hS.1 rfl 5 (by decide) rfl hkX8_pass_16 dX8_pass_27 ?_
    refine lv_iconst (v := 0) hx hb dX8_pass_30 (by decide) ?_
    obtain ⟨hi7, h⟩ := gd_s h
    refine h_iald hx hb hK hw hS.2.2.2.1 hi7 dX8_pass_31 ?_
    exact h_retQ hx hb hr hlocks hw rfl (so2 h) dX8_pass_32
  · have h := it hc2 h
    refine lv_iconst (v := (-1)) hx hb dX8_pass_10 (by decide) ?_
    exact h_retQ hx hb hr hlocks hw rfl (so2 h) dX8_pass_11

theorem hnX8_undo_X8 : ∀ w ∈ wsX80, w ∈ wsX8_undo := by decide +kernel
theorem hkX8_undo_137 : Cond.fieldLink RX8 137 (TX8 6).1 (TX8 6).2.1 (TX8 6).2.2.1 ∈ wsX8_undo := by decide +kernel
theorem hkX8_undo_16 : Cond.fieldLink RX8 16 (TX8 5).1 (TX8 5).2.1 (TX8 5).2.2.1 ∈ wsX8_undo := by decide +kernel
theorem hkX8_undo_19 : Cond.fieldLink RX8 19 (TX8 7).1 (TX8 7).2.1 (TX8 7).2.2.1 ∈ wsX8_undo := by decide +kernel
set_option maxHeartbeats 8000000 in
set_option maxRecDepth 100000 in
theorem mX8_undo (l : Launch) (D : va_G) (ac : Nat → ClassId) (ad : Nat → Nat) (S : List hSh) (f : hF) (rv : Int32) (gv : hF) (hS : isMo S) (h : fX8_undo f = some (rv, gv)) : Met l yX8_undo wsX8_undo ({ frames := 1, cells := 0, slots := 0, locals := 25 }) (hPc D ac ad S f [.ref (ad 146)]) (hQi D ac ad S rv gv) 0 0 (hAd ad S.length) := by
  refine h_enter (C := RX8) (cc := cX8_undo) (maxL := 1) (ret := (some .int)) (lv := [(0, .ref (ad 146))]) (by decide) rfl rfl (Nat.le_of_ble_eq_true rfl) rfl (fun p e s m below meth c ls hx hb hml hr hlocks hown hts hK hw hl => ?_)
  unfold fX8_undo at h
  refine lv_aload_n hx hb dX8_undo_0 rfl (lv_at hl 0 rfl) ?_
  refine h_getI hx hb hts hnX8_undo_X8 hown hK hw hS.1 rfl 6 (by decide) rfl hkX8_undo_137 dX8_undo_1 ?_
  refine lv_if_ne (tgt := 10) hx hb dX8_undo_4 (by decide) (fun hc1 => ?_) (fun hc1 => ?_)
  · have h := ie hc1 h
    refine lv_aload_n hx hb dX8_undo_10 rfl (lv_at hl 0 rfl) ?_
    refine lv_dup hx hb dX8_undo_11 rfl ?_
    refine h_getI hx hb hts hnX8_undo_X8 hown hK hw hS.1 rfl 6 (by decide) rfl hkX8_undo_137 dX8_undo_12 ?_
    refine lv_iconst (v := 1) hx hb dX8_undo_15 (by decide) ?_
    refine lv_isub hx hb dX8_undo_16 ?_
    obtain ⟨f2, ef2, h⟩ := lt_s2 h
    refine h_putI (g := f2) ef2 hx hb hts hnX8_undo_X8 tyX8 tyX8_ok nmX8 hown hK hw hS.1 rfl 6 rfl (by decide) rfl hkX8_undo_137 rfl (by decide +kernel) dX8_undo_17 (fun H locs hw => ?_)
    refine lv_aload_n hx hb dX8_undo_20 rfl (lv_at hl 0 rfl) ?_
    refine h_getR hx hb hts hnX8_undo_X8 hown hK hw hS.1 rfl 5 (by decide) rfl hkX8_undo_16 dX8_undo_21 ?_
    refine lv_iconst (v := 0) hx hb dX8_undo_24 (by decide) ?_
    refine lv_aload_n hx hb dX8_undo_25 rfl (lv_at hl 0 rfl) ?_
    refine h_getR hx hb hts hnX8_undo_X8 hown hK hw hS.1 rfl 7 (by decide) rfl hkX8_undo_19 dX8_undo_26 ?_
    refine lv_bipush (v := 111) hx hb dX8_undo_29 (by decide) ?_
    refine lv_aload_n hx hb dX8_undo_31 rfl (lv_at hl 0 rfl) ?_
    refine h_getI hx hb hts hnX8_undo_X8 hown hK hw hS.1 rfl 6 (by decide) rfl hkX8_undo_137 dX8_undo_32 ?_
    refine lv_imul hx hb dX8_undo_35 ?_
    refine lv_bipush (v := 111) hx hb dX8_undo_36 (by decide) ?_
    obtain ⟨f3, ef3, h⟩ := b1_s h
    refine h_callV hw (va_runS (As := [.ref (ad 149), .int 0, .ref (ad 150), .int (111 * (f2 146 6)), .int 111]) (rest := []) ⟨hx, hb, hml, hown, hts⟩ (mX8_copies l D ac ad S 149 111 150 888 f2 (0 : Int32) (111 * (f2 146 6)) (111 : Int32) f3 hS.2.2.2.1 hS.2.2.2.2.1 ef3) (va_cwS 5 hts gX8_undo_X8_copies rfl rfl rfl (by decide +kernel) ⟨Nat.le_of_ble_eq_true rfl, Nat.le_of_ble_eq_true rfl⟩) (h_preS hK hw _) rfl rfl hl.1 rfl (lv_room (Nat.le_of_ble_eq_true rfl)) dX8_undo_38 ⟨Nat.le_of_ble_eq_true rfl, Nat.le_of_ble_eq_true rfl⟩) (fun H locs hw => ?_)
    refine lv_aload_n hx hb dX8_undo_41 rfl (lv_at hl 0 rfl) ?_
    refine h_getI hx hb hts hnX8_undo_X8 hown hK hw hS.1 rfl 6 (by decide) rfl hkX8_undo_137 dX8_undo_42 ?_
    exact h_retQ hx hb hr hlocks hw rfl (so2 h) dX8_undo_45
  · have h := it hc1 h
    refine lv_bipush (v := (-2)) hx hb dX8_undo_7 (by decide) ?_
    exact h_retQ hx hb hr hlocks hw rfl (so2 h) dX8_undo_9

set_option maxHeartbeats 8000000 in
set_option maxRecDepth 100000 in
theorem mX8_mate (l : Launch) (D : va_G) (ac : Nat → ClassId) (ad : Nat → Nat) (S : List hSh) (f : hF) (x1 : Int32) (x2 : Int32) (rv : Int32) (gv : hF) (hS : isMo S) (h : fX8_mate f x1 x2 = some (rv, gv)) : Met l yX8_mate wsX8_mate ({ frames := 4, cells := 0, slots := 0, locals := 87 }) (hPc D ac ad S f [.ref (ad 146), .int x1, .int x2]) (hQi D ac ad S rv gv) 0 0 (hAd ad S.length) := by
  refine h_enter (C := RX8) (cc := cX8_mate) (maxL := 3) (ret := (some .int)) (lv := [(0, .ref (ad 146)), (1, .int x1), (2, .int x2)]) (by decide) rfl rfl (Nat.le_of_ble_eq_true rfl) rfl (fun p e s m below meth c ls hx hb hml hr hlocks hown hts hK hw hl => ?_)
  unfold fX8_mate at h
  refine lv_aload_n hx hb dX8_mate_0 rfl (lv_at hl 0 rfl) ?_
  refine lv_iload_n hx hb dX8_mate_1 rfl (lv_at hl 1 rfl) ?_
  obtain ⟨r1, er1, h⟩ := b1_s h
  refine h_callR (va_runV (As := [.int x1]) (rest := []) ⟨hx, hb, hml, hown, hts⟩ (mX8_isPerson l D ac ad S f x1 r1 hS er1) (cwV 1 hts gX8_mate_X8_isPerson rfl rfl rfl (by decide +kernel) ⟨Nat.le_of_ble_eq_true rfl, Nat.le_of_ble_eq_true rfl⟩) (h_preV hK hw hS.1 rfl _) rfl rfl hl.1 rfl (lv_room (Nat.le_of_ble_eq_true rfl)) dX8_mate_2 ⟨Nat.le_of_ble_eq_true rfl, Nat.le_of_ble_eq_true rfl⟩) ?_
  refine lv_if_eq (tgt := 19) hx hb dX8_mate_5 (by decide) (fun hc2 => ?_) (fun hc2 => ?_)
  · have h := it hc2 h
    refine lv_iconst (v := (-1)) hx hb dX8_mate_19 (by decide) ?_
    exact h_retQ hx hb hr hlocks hw rfl (so2 h) dX8_mate_20
  · have h := ie hc2 h
    refine lv_iload_n hx hb dX8_mate_8 rfl (lv_at hl 2 rfl) ?_
    refine lv_iconst (v := 0) hx hb dX8_mate_9 (by decide) ?_
    refine lv_sipush (v := 999) hx hb dX8_mate_10 (by decide) ?_
    obtain ⟨r3, er3, h⟩ := b1_s h
    refine h_callR (va_runS (As := [.int x2, .int 0, .int 999]) (rest := []) ⟨hx, hb, hml, hown, hts⟩ (mX8_in l D ac ad S f x2 (0 : Int32) (999 : Int32) r3  er3) (va_cwS 3 hts gX8_mate_X8_in rfl rfl rfl (by decide +kernel) ⟨Nat.le_of_ble_eq_true rfl, Nat.le_of_ble_eq_true rfl⟩) (h_preS hK hw _) rfl rfl hl.1 rfl (lv_room (Nat.le_of_ble_eq_true rfl)) dX8_mate_13 ⟨Nat.le_of_ble_eq_true rfl, Nat.le_of_ble_eq_true rfl⟩) ?_
    refine lv_if_ne (tgt := 21) hx hb dX8_mate_16 (by decide) (fun hc4 => ?_) (fun hc4 => ?_)
    · have h := ie hc4 h
      refine lv_aload_n hx hb dX8_mate_21 rfl (lv_at hl 0 rfl) ?_
      obtain ⟨f5, ef5, h⟩ := b1_s h
      refine h_callV hw (va_runV (As := []) (rest := []) ⟨hx, hb, hml, hown, hts⟩ (mX8_asItIs l D ac ad S f f5 hS ef5) (cwV 0 hts gX8_mate_X8_asItIs rfl rfl rfl (by decide +kernel) ⟨Nat.le_of_ble_eq_true rfl, Nat.le_of_ble_eq_true rfl⟩) (h_preV hK hw hS.1 rfl _) rfl rfl hl.1 rfl (lv_room (Nat.le_of_ble_eq_true rfl)) dX8_mate_22 ⟨Nat.le_of_ble_eq_true rfl, Nat.le_of_ble_eq_true rfl⟩) (fun H locs hw => ?_)
      refine lv_aload_n hx hb dX8_mate_25 rfl (lv_at hl 0 rfl) ?_
      obtain ⟨f6, ef6, h⟩ := b1_s h
      refine h_callV hw (va_runV (As := []) (rest := []) ⟨hx, hb, hml, hown, hts⟩ (mX8_findHolds l D ac ad S f5 f6 hS ef6) (cwV 0 hts gX8_mate_X8_findHolds rfl rfl rfl (by decide +kernel) ⟨Nat.le_of_ble_eq_true rfl, Nat.le_of_ble_eq_true rfl⟩) (h_preV hK hw hS.1 rfl _) rfl rfl hl.1 rfl (lv_room (Nat.le_of_ble_eq_true rfl)) dX8_mate_26 ⟨Nat.le_of_ble_eq_true rfl, Nat.le_of_ble_eq_true rfl⟩) (fun H locs hw => ?_)
      refine lv_aload_n hx hb dX8_mate_29 rfl (lv_at hl 0 rfl) ?_
      refine lv_iload_n hx hb dX8_mate_30 rfl (lv_at hl 1 rfl) ?_
      refine lv_iload_n hx hb dX8_mate_31 rfl (lv_at hl 2 rfl) ?_
      obtain ⟨r7, er7, h⟩ := b1_s h
      refine h_callR (va_runV (As := [.int x1, .int x2]) (rest := []) ⟨hx, hb, hml, hown, hts⟩ (mX8_mateBy l D ac ad S f6 x1 x2 r7 hS er7) (cwV 2 hts gX8_mate_X8_mateBy rfl rfl rfl (by decide +kernel) ⟨Nat.le_of_ble_eq_true rfl, Nat.le_of_ble_eq_true rfl⟩) (h_preV hK hw hS.1 rfl _) rfl rfl hl.1 rfl (lv_room (Nat.le_of_ble_eq_true rfl)) dX8_mate_32 ⟨Nat.le_of_ble_eq_true rfl, Nat.le_of_ble_eq_true rfl⟩) ?_
      exact h_retQ hx hb hr hlocks hw rfl (so2 h) dX8_mate_35
    · have h := it hc4 h
      refine lv_iconst (v := (-1)) hx hb dX8_mate_19 (by decide) ?_
      exact h_retQ hx hb hr hlocks hw rfl (so2 h) dX8_mate_20

theorem hnX8_twice_X8 : ∀ w ∈ wsX80, w ∈ wsX8_twice := by decide +kernel
theorem hkX8_twice_80 : Cond.fieldLink RX8 80 (TX8 0).1 (TX8 0).2.1 (TX8 0).2.2.1 ∈ wsX8_twice := by decide +kernel
set_option maxHeartbeats 8000000 in
set_option maxRecDepth 100000 in
theorem mX8_twice (l : Launch) (D : va_G) (ac : Nat → ClassId) (ad : Nat → Nat) (S : List hSh) (f : hF) (rv : Int32) (gv : hF) (hS : isMo S) (h : fX8_twice f = some (rv, gv)) : Met l yX8_twice wsX8_twice ({ frames := 3, cells := 0, slots := 0, locals := 65 }) (hPc D ac ad S f [.ref (ad 146)]) (hQi D ac ad S rv gv) 0 0 (hAd ad S.length) := by
  refine h_enter (C := RX8) (cc := cX8_twice) (maxL := 3) (ret := (some .int)) (lv := [(0, .ref (ad 146))]) (by decide) rfl rfl (Nat.le_of_ble_eq_true rfl) rfl (fun p e s m below meth c ls hx hb hml hr hlocks hown hts hK hw hl => ?_)
  have J33 : ∀ (q8 : hF → Int32 → Int32 → Option (Int32 × hF)) (hq8 : (∀ (f : hF) (y1 : Int32) (y2 : Int32) (H : Heap) (locs : List Loc) (ls : Array Slot), hOk D ac ad S (hAd ad S.length) s.heap f H locs → lv_has ls 3 [(0, .ref (ad 146)), (1, .int y1), (2, .int y2)] → q8 f y1 y2 = some (rv, gv) → W p l e ({ frames := 3, cells := 0, slots := 0, locals := 65 } : Room) s m ([.ref (ad 146)] : List Value).toArray below meth c H locs 0 0 (MQ below (hQi D ac ad S rv gv) ([.ref (ad 146)] : List Value).toArray s 0 0 (hAd ad S.length)) (F0 m 8 ls []))), (∀ (f : hF) (y2 : Int32) (s0 : Int32) (s1 : Int32) (H : Heap) (locs : List Loc) (ls : Array Slot), hOk D ac ad S (hAd ad S.length) s.heap f H locs → lv_has ls 3 [(0, .ref (ad 146)), (2, .int y2)] → fX8_twice_33 q8 f y2 s0 s1 = some (rv, gv) → W p l e ({ frames := 3, cells := 0, slots := 0, locals := 65 } : Room) s m ([.ref (ad 146)] : List Value).toArray below meth c H locs 0 0 (MQ below (hQi D ac ad S rv gv) ([.ref (ad 146)] : List Value).toArray s 0 0 (hAd ad S.length)) (F0 m 33 ls [.int s1, .int s0])) := by
    intro q8 hq8 f y2 s0 s1 H locs ls hw hl h
    unfold fX8_twice_33 at h
    refine lv_ior hx hb dX8_twice_33 ?_
    refine lv_istore_n (lv' := [(1, .int (s0 ||| s1)), (0, .ref (ad 146)), (2, .int y2)]) hx hb dX8_twice_34 rfl hl (by decide) rfl (fun ls hl => ?_)
    refine lv_iinc (v := (y2 + 1)) (lv' := [(2, .int (y2 + 1)), (1, .int (s0 ||| s1)), (0, .ref (ad 146))]) hx hb dX8_twice_35 hl (k := 2) rfl rfl (by decide) rfl (fun ls hl => ?_)
    refine lv_goto (tgt := 8) hx hb dX8_twice_38 (by decide) ?_
    exact hq8 f (s0 ||| s1) (y2 + 1) _ _ _ hw (lv_sub hl [2, 1, 0] rfl) h
  have J8 : ∀ (n : Nat), (∀ (f : hF) (y1 : Int32) (y2 : Int32) (H : Heap) (locs : List Loc) (ls : Array Slot), hOk D ac ad S (hAd ad S.length) s.heap f H locs → lv_has ls 3 [(0, .ref (ad 146)), (1, .int y1), (2, .int y2)] → fX8_twice_8 n f y1 y2 = some (rv, gv) → W p l e ({ frames := 3, cells := 0, slots := 0, locals := 65 } : Room) s m ([.ref (ad 146)] : List Value).toArray below meth c H locs 0 0 (MQ below (hQi D ac ad S rv gv) ([.ref (ad 146)] : List Value).toArray s 0 0 (hAd ad S.length)) (F0 m 8 ls [])) := by
    intro n
    induction n with
    | zero =>
      intro f y1 y2 H locs ls hw hl h
      rw [fX8_twice_8] at h
      cases h
    | succ n ih =>
      intro f y1 y2 H locs ls hw hl h
      rw [fX8_twice_8] at h
      refine lv_iload_n hx hb dX8_twice_8 rfl (lv_at hl 2 rfl) ?_
      refine lv_aload_n hx hb dX8_twice_9 rfl (lv_at hl 0 rfl) ?_
      refine h_getI hx hb hts hnX8_twice_X8 hown hK hw hS.1 rfl 0 (by decide) rfl hkX8_twice_80 dX8_twice_10 ?_
      refine lv_icmp_ge (tgt := 41) hx hb dX8_twice_13 (by decide) (fun hc1 => ?_) (fun hc1 => ?_)
      · have h := it hc1 h
        refine lv_iload_n hx hb dX8_twice_41 rfl (lv_at hl 1 rfl) ?_
        exact h_retQ hx hb hr hlocks hw rfl (so2 h) dX8_twice_42
      · have h := ie hc1 h
        refine lv_iload_n hx hb dX8_twice_16 rfl (lv_at hl 1 rfl) ?_
        refine lv_aload_n hx hb dX8_twice_17 rfl (lv_at hl 0 rfl) ?_
        refine lv_iload_n hx hb dX8_twice_18 rfl (lv_at hl 2 rfl) ?_
        obtain ⟨r2, er2, h⟩ := b1_s h
        refine h_callR (va_runV (As := [.int y2]) (rest := [.int y1]) ⟨hx, hb, hml, hown, hts⟩ (mX8_linesOf l D ac ad S f y2 r2 hS er2) (cwV 1 hts gX8_twice_X8_linesOf rfl rfl rfl (by decide +kernel) ⟨Nat.le_of_ble_eq_true rfl, Nat.le_of_ble_eq_true rfl⟩) (h_preV hK hw hS.1 rfl _) rfl rfl hl.1 rfl (lv_room (Nat.le_of_ble_eq_true rfl)) dX8_twice_19 ⟨Nat.le_of_ble_eq_true rfl, Nat.le_of_ble_eq_true rfl⟩) ?_
        refine lv_iconst (v := 1) hx hb dX8_twice_22 (by decide) ?_
        refine lv_icmp_le (tgt := 32) hx hb dX8_twice_23 (by decide) (fun hc3 => ?_) (fun hc3 => ?_)
        · have h := it hc3 h
          refine lv_iconst (v := 0) hx hb dX8_twice_32 (by decide) ?_
          exact J33 (fX8_twice_8 n) ih f y2 y1 0 _ _ _ hw (lv_sub hl [0, 2] rfl) h
        · have h := ie hc3 h
          refine lv_iconst (v := 1) hx hb dX8_twice_26 (by decide) ?_
          refine lv_iload_n hx hb dX8_twice_27 rfl (lv_at hl 2 rfl) ?_
          refine lv_ishl hx hb dX8_twice_28 ?_
          refine lv_goto (tgt := 33) hx hb dX8_twice_29 (by decide) ?_
          exact J33 (fX8_twice_8 n) ih f y2 y1 (1 <<< (y2 &&& 31)) _ _ _ hw (lv_sub hl [0, 2] rfl) h
  unfold fX8_twice at h
  refine lv_aload_n hx hb dX8_twice_0 rfl (lv_at hl 0 rfl) ?_
  obtain ⟨f1, ef1, h⟩ := b1_s h
  refine h_callV hw (va_runV (As := []) (rest := []) ⟨hx, hb, hml, hown, hts⟩ (mX8_asItIs l D ac ad S f f1 hS ef1) (cwV 0 hts gX8_twice_X8_asItIs rfl rfl rfl (by decide +kernel) ⟨Nat.le_of_ble_eq_true rfl, Nat.le_of_ble_eq_true rfl⟩) (h_preV hK hw hS.1 rfl _) rfl rfl hl.1 rfl (lv_room (Nat.le_of_ble_eq_true rfl)) dX8_twice_1 ⟨Nat.le_of_ble_eq_true rfl, Nat.le_of_ble_eq_true rfl⟩) (fun H locs hw => ?_)
  refine lv_iconst (v := 0) hx hb dX8_twice_4 (by decide) ?_
  refine lv_istore_n (lv' := [(1, .int 0), (0, .ref (ad 146))]) hx hb dX8_twice_5 rfl hl (by decide) rfl (fun ls hl => ?_)
  refine lv_iconst (v := 0) hx hb dX8_twice_6 (by decide) ?_
  refine lv_istore_n (lv' := [(2, .int 0), (1, .int 0), (0, .ref (ad 146))]) hx hb dX8_twice_7 rfl hl (by decide) rfl (fun ls hl => ?_)
  exact J8 _ f1 0 0 _ _ _ hw (lv_sub hl [2, 1, 0] rfl) h
