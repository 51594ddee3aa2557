/-! contracts: X4_add X7_write X7_wipe X4_at X3_numbersOf X3_isFigure X3_readNumber X3_enterPerson X3_enterParson X3_enterLaw X3_enter X3_readItem X3_readFrom X7_fault X3_isPerson X0_open X2_open -/
theorem hnX4_add_X4 : ∀ w ∈ wsX40, w ∈ wsX4_add := by decide +kernel
theorem hkX4_add_15 : Cond.fieldLink RX4 15 (TX4 1).1 (TX4 1).2.1 (TX4 1).2.2.1 ∈ wsX4_add := by decide +kernel
theorem hkX4_add_9 : Cond.fieldLink RX4 9 (TX4 0).1 (TX4 0).2.1 (TX4 0).2.2.1 ∈ wsX4_add := by decide +kernel
set_option maxHeartbeats 8000000 in
set_option maxRecDepth 100000 in
theorem mX4_add (l : Launch) (D : va_G) (ac : Nat → ClassId) (ad : Nat → Nat) (S : List hSh) (k : Nat) (f : hF) (x1 : Int32) (rv : Int32) (gv : hF) (hS : isSc S k) (h : fX4_add k f x1 = some (rv, gv)) : Met l yX4_add wsX4_add ({ frames := 0, cells := 0, slots := 0, locals := 0 }) (hPc D ac ad S f [.ref (ad k), .int x1]) (hQi D ac ad S rv gv) 0 0 (hAd ad S.length) := by
  refine h_enter (C := RX4) (cc := cX4_add) (maxL := 2) (ret := (some .boolean)) (lv := [(0, .ref (ad k)), (1, .int x1)]) (by decide) rfl rfl (Nat.le_of_ble_eq_true rfl) rfl (fun p e s m below meth c ls hx hb hml hr hlocks hown hts hK hw hl => ?_)
  unfold fX4_add at h
  refine lv_aload_n hx hb dX4_add_0 rfl (lv_at hl 0 rfl) ?_
  refine h_getI hx hb hts hnX4_add_X4 hown hK hw hS.1 rfl 1 (by decide) rfl hkX4_add_15 dX4_add_1 ?_
  refine lv_if_lt (tgt := 19) hx hb dX4_add_4 (by decide) (fun hc1 => ?_) (fun hc1 => ?_)
  · have h := it hc1 h
    refine lv_iconst (v := 0) hx hb dX4_add_19 (by decide) ?_
    exact h_retQ hx hb hr hlocks hw rfl (so2 h) dX4_add_20
  · have h := ie hc1 h
    refine lv_aload_n hx hb dX4_add_7 rfl (lv_at hl 0 rfl) ?_
    refine h_getI hx hb hts hnX4_add_X4 hown hK hw hS.1 rfl 1 (by decide) rfl hkX4_add_15 dX4_add_8 ?_
    refine lv_aload_n hx hb dX4_add_11 rfl (lv_at hl 0 rfl) ?_
    refine h_getR hx hb hts hnX4_add_X4 hown hK hw hS.1 rfl 0 (by decide) rfl hkX4_add_9 dX4_add_12 ?_
    refine h_alen (v := 200) hx hb hK hw hS.2 (by decide) rfl dX4_add_15 ?_
    refine lv_icmp_lt (tgt := 21) hx hb dX4_add_16 (by decide) (fun hc2 => ?_) (fun hc2 => ?_)
    · have h := it hc2 h
      refine lv_aload_n hx hb dX4_add_21 rfl (lv_at hl 0 rfl) ?_
      refine h_getR hx hb hts hnX4_add_X4 hown hK hw hS.1 rfl 0 (by decide) rfl hkX4_add_9 dX4_add_22 ?_
      refine lv_aload_n hx hb dX4_add_25 rfl (lv_at hl 0 rfl) ?_
      refine h_getI hx hb hts hnX4_add_X4 hown hK hw hS.1 rfl 1 (by decide) rfl hkX4_add_15 dX4_add_26 ?_
      refine lv_iload_n hx hb dX4_add_29 rfl (lv_at hl 1 rfl) ?_
      obtain ⟨hi3, h⟩ := gd_s h
      obtain ⟨f4, ef4, h⟩ := lt_s2 h
      refine h_cast (g := f4) ef4 hx hb hK hw hS.2 hi3 dX4_add_30 (fun H locs hw => ?_)
      refine lv_aload_n hx hb dX4_add_31 rfl (lv_at hl 0 rfl) ?_
      refine lv_dup hx hb dX4_add_32 rfl ?_
      refine h_getI hx hb hts hnX4_add_X4 hown hK hw hS.1 rfl 1 (by decide) rfl hkX4_add_15 dX4_add_33 ?_
      refine lv_iconst (v := 1) hx hb dX4_add_36 (by decide) ?_
      refine lv_iadd hx hb dX4_add_37 ?_
      obtain ⟨f5, ef5, h⟩ := lt_s2 h
      refine h_putI (g := f5) ef5 hx hb hts hnX4_add_X4 tyX4 tyX4_ok nmX4 hown hK hw hS.1 rfl 1 rfl (by decide) rfl hkX4_add_15 rfl (by decide +kernel) dX4_add_38 (fun H locs hw => ?_)
      refine lv_iconst (v := 1) hx hb dX4_add_41 (by decide) ?_
      exact h_retQ hx hb hr hlocks hw rfl (so2 h) dX4_add_42
    · have h := ie hc2 h
      refine lv_iconst (v := 0) hx hb dX4_add_19 (by decide) ?_
      exact h_retQ hx hb hr hlocks hw rfl (so2 h) dX4_add_20

theorem hnX7_write_X7 : ∀ w ∈ wsX70, w ∈ wsX7_write := by decide +kernel
theorem hkX7_write_12 : Cond.fieldLink RX7 12 (TX7 0).1 (TX7 0).2.1 (TX7 0).2.2.1 ∈ wsX7_write := by decide +kernel
theorem hnX7_write_X4 : ∀ w ∈ wsX40, w ∈ wsX7_write := by decide +kernel
theorem hkX7_write_80 : Cond.fieldLink RX7 80 (TX4 1).1 (TX4 1).2.1 (TX4 1).2.2.1 ∈ wsX7_write := by decide +kernel
set_option maxHeartbeats 8000000 in
set_option maxRecDepth 100000 in
theorem mX7_write (l : Launch) (D : va_G) (ac : Nat → ClassId) (ad : Nat → Nat) (S : List hSh) (f : hF) (x1 : Int32) (rv : Int32) (gv : hF) (hS : isPW S) (h : fX7_write f x1 = some (rv, gv)) : Met l yX7_write wsX7_write ({ frames := 1, cells := 0, slots := 0, locals := 21 }) (hPc D ac ad S f [.ref (ad 0), .int x1]) (hQi D ac ad S rv gv) 0 0 (hAd ad S.length) := by
  refine h_enter (C := RX7) (cc := cX7_write) (maxL := 2) (ret := (some .int)) (lv := [(0, .ref (ad 0)), (1, .int x1)]) (by decide) rfl rfl (Nat.le_of_ble_eq_true rfl) rfl (fun p e s m below meth c ls hx hb hml hr hlocks hown hts hK hw hl => ?_)
  unfold fX7_write at h
  refine lv_iload_n hx hb dX7_write_0 rfl (lv_at hl 1 rfl) ?_
  refine lv_bipush (v := 32) hx hb dX7_write_1 (by decide) ?_
  refine lv_icmp_lt (tgt := 12) hx hb dX7_write_3 (by decide) (fun hc1 => ?_) (fun hc1 => ?_)
  · have h := it hc1 h
    refine lv_iconst (v := (-1)) hx hb dX7_write_12 (by decide) ?_
    exact h_retQ hx hb hr hlocks hw rfl (so2 h) dX7_write_13
  · have h := ie hc1 h
    refine lv_iload_n hx hb dX7_write_6 rfl (lv_at hl 1 rfl) ?_
    refine lv_bipush (v := 126) hx hb dX7_write_7 (by decide) ?_
    refine lv_icmp_le (tgt := 14) hx hb dX7_write_9 (by decide) (fun hc2 => ?_) (fun hc2 => ?_)
    · have h := it hc2 h
      refine lv_aload_n hx hb dX7_write_14 rfl (lv_at hl 0 rfl) ?_
      refine h_getR hx hb hts hnX7_write_X7 hown hK hw hS.1 rfl 0 (by decide) rfl hkX7_write_12 dX7_write_15 ?_
      refine lv_iload_n hx hb dX7_write_18 rfl (lv_at hl 1 rfl) ?_
      refine lv_i2c hx hb dX7_write_19 rfl ?_
      obtain ⟨r3, f4, ef4, h⟩ := b2_s h
      refine h_callQ hw (va_runV (As := [.int (x1.toUInt32 % 65536).toInt32]) (rest := []) ⟨hx, hb, hml, hown, hts⟩ (mX4_add l D ac ad S 1 f ((x1.toUInt32 % 65536).toInt32) r3 f4 hS.2.1 ef4) (cwV 1 hts gX7_write_X4_add rfl rfl rfl (by decide +kernel) ⟨Nat.le_of_ble_eq_true rfl, Nat.le_of_ble_eq_true rfl⟩) (h_preV hK hw hS.2.1.1 rfl _) rfl rfl hl.1 rfl (lv_room (Nat.le_of_ble_eq_true rfl)) dX7_write_20 ⟨Nat.le_of_ble_eq_true rfl, Nat.le_of_ble_eq_true rfl⟩) (fun H locs hw => ?_)
      refine lv_if_eq (tgt := 36) hx hb dX7_write_23 (by decide) (fun hc5 => ?_) (fun hc5 => ?_)
      · have h := it hc5 h
        refine lv_bipush (v := (-3)) hx hb dX7_write_36 (by decide) ?_
        exact h_retQ hx hb hr hlocks hw rfl (so2 h) dX7_write_38
      · have h := ie hc5 h
        refine lv_aload_n hx hb dX7_write_26 rfl (lv_at hl 0 rfl) ?_
        refine h_getR hx hb hts hnX7_write_X7 hown hK hw hS.1 rfl 0 (by decide) rfl hkX7_write_12 dX7_write_27 ?_
        refine h_getI hx hb hts hnX7_write_X4 hown hK hw hS.2.1.1 rfl 1 (by decide) rfl hkX7_write_80 dX7_write_30 ?_
        refine lv_goto (tgt := 38) hx hb dX7_write_33 (by decide) ?_
        exact h_retQ hx hb hr hlocks hw rfl (so2 h) dX7_write_38
    · have h := ie hc2 h
      refine lv_iconst (v := (-1)) hx hb dX7_write_12 (by decide) ?_
      exact h_retQ hx hb hr hlocks hw rfl (so2 h) dX7_write_13

theorem hnX7_wipe_X7 : ∀ w ∈ wsX70, w ∈ wsX7_wipe := by decide +kernel
theorem hkX7_wipe_12 : Cond.fieldLink RX7 12 (TX7 0).1 (TX7 0).2.1 (TX7 0).2.2.1 ∈ wsX7_wipe := by decide +kernel
theorem hnX7_wipe_X4 : ∀ w ∈ wsX40, w ∈ wsX7_wipe := by decide +kernel
theorem hkX7_wipe_80 : Cond.fieldLink RX7 80 (TX4 1).1 (TX4 1).2.1 (TX4 1).2.2.1 ∈ wsX7_wipe := by decide +kernel
set_option maxHeartbeats 8000000 in
set_option maxRecDepth 100000 in
theorem mX7_wipe (l : Launch) (D : va_G) (ac : Nat → ClassId) (ad : Nat → Nat) (S : List hSh) (f : hF) (rv : Int32) (gv : hF) (hS : isPW S) (h : fX7_wipe f = some (rv, gv)) : Met l yX7_wipe wsX7_wipe ({ frames := 0, cells := 0, slots := 0, locals := 0 }) (hPc D ac ad S f [.ref (ad 0)]) (hQi D ac ad S rv gv) 0 0 (hAd ad S.length) := by
  refine h_enter (C := RX7) (cc := cX7_wipe) (maxL := 2) (ret := (some .int)) (lv := [(0, .ref (ad 0))]) (by decide) rfl rfl (Nat.le_of_ble_eq_true rfl) rfl (fun p e s m below meth c ls hx hb hml hr hlocks hown hts hK hw hl => ?_)
  unfold fX7_wipe at h
  refine lv_aload_n hx hb dX7_wipe_0 rfl (lv_at hl 0 rfl) ?_
  refine h_getR hx hb hts hnX7_wipe_X7 hown hK hw hS.1 rfl 0 (by decide) rfl hkX7_wipe_12 dX7_wipe_1 ?_
  refine h_getI hx hb hts hnX7_wipe_X4 hown hK hw hS.2.1.1 rfl 1 (by decide) rfl hkX7_wipe_80 dX7_wipe_4 ?_
  refine lv_istore_n (lv' := [(1, .int (f 1 1)), (0, .ref (ad 0))]) hx hb dX7_wipe_7 rfl hl (by decide) rfl (fun ls hl => ?_)
  refine lv_aload_n hx hb dX7_wipe_8 rfl (lv_at hl 1 rfl) ?_
  refine h_getR hx hb hts hnX7_wipe_X7 hown hK hw hS.1 rfl 0 (by decide) rfl hkX7_wipe_12 dX7_wipe_9 ?_
  refine lv_iconst (v := 0) hx hb dX7_wipe_12 (by decide) ?_
  obtain ⟨f1, ef1, h⟩ := lt_s2 h
  refine h_putI (g := f1) ef1 hx hb hts hnX7_wipe_X4 tyX4 tyX4_ok nmX4 hown hK hw hS.2.1.1 rfl 1 rfl (by decide) rfl hkX7_wipe_80 rfl (by decide +kernel) dX7_wipe_13 (fun H locs hw => ?_)
  refine lv_iload_n hx hb dX7_wipe_16 rfl (lv_at hl 0 rfl) ?_
  exact h_retQ hx hb hr hlocks hw rfl (so2 h) dX7_wipe_17

theorem hnX4_at_X4 : ∀ w ∈ wsX40, w ∈ wsX4_at := by decide +kernel
theorem hkX4_at_15 : Cond.fieldLink RX4 15 (TX4 1).1 (TX4 1).2.1 (TX4 1).2.2.1 ∈ wsX4_at := by decide +kernel
theorem hkX4_at_9 : Cond.fieldLink RX4 9 (TX4 0).1 (TX4 0).2.1 (TX4 0).2.2.1 ∈ wsX4_at := by decide +kernel
set_option maxHeartbeats 8000000 in
set_option maxRecDepth 100000 in
theorem mX4_at (l : Launch) (D : va_G) (ac : Nat → ClassId) (ad : Nat → Nat) (S : List hSh) (k : Nat) (f : hF) (x1 : Int32) (rv : Int32) (hS : isSc S k) (h : fX4_at k f x1 = some rv) : Met l yX4_at wsX4_at ({ frames := 0, cells := 0, slots := 0, locals := 0 }) (hPc D ac ad S f [.ref (ad k), .int x1]) (hRi rv) 0 0 hNo := by
  refine h_enter (C := RX4) (cc := cX4_at) (maxL := 2) (ret := (some .char)) (lv := [(0, .ref (ad k)), (1, .int x1)]) (by decide) rfl rfl (Nat.le_of_ble_eq_true rfl) rfl (fun p e s m below meth c ls hx hb hml hr hlocks hown hts hK hw hl => ?_)
  unfold fX4_at at h
  refine lv_iload_n hx hb dX4_at_0 rfl (lv_at hl 1 rfl) ?_
  refine lv_if_lt (tgt := 30) hx hb dX4_at_1 (by decide) (fun hc1 => ?_) (fun hc1 => ?_)
  · have h := it hc1 h
    refine lv_iconst (v := 0) hx hb dX4_at_30 (by decide) ?_
    exact h_retR hx hb hr hlocks rfl (so1 h) dX4_at_31
  · have h := ie hc1 h
    refine lv_iload_n hx hb dX4_at_4 rfl (lv_at hl 1 rfl) ?_
    refine lv_aload_n hx hb dX4_at_5 rfl (lv_at hl 0 rfl) ?_
    refine h_getI hx hb hts hnX4_at_X4 hown hK hw hS.1 rfl 1 (by decide) rfl hkX4_at_15 dX4_at_6 ?_
    refine lv_icmp_ge (tgt := 30) hx hb dX4_at_9 (by decide) (fun hc2 => ?_) (fun hc2 => ?_)
    · have h := it hc2 h
      refine lv_iconst (v := 0) hx hb dX4_at_30 (by decide) ?_
      exact h_retR hx hb hr hlocks rfl (so1 h) dX4_at_31
    · have h := ie hc2 h
      refine lv_iload_n hx hb dX4_at_12 rfl (lv_at hl 1 rfl) ?_
      refine lv_aload_n hx hb dX4_at_13 rfl (lv_at hl 0 rfl) ?_
      refine h_getR hx hb hts hnX4_at_X4 hown hK hw hS.1 rfl 0 (by decide) rfl hkX4_at_9 dX4_at_14 ?_
      refine h_alen (v := 200) hx hb hK hw hS.2 (by decide) rfl dX4_at_17 ?_
      refine lv_icmp_ge (tgt := 30) hx hb dX4_at_18 (by decide) (fun hc3 => ?_) (fun hc3 => ?_)
      · have h := it hc3 h
        refine lv_iconst (v := 0) hx hb dX4_at_30 (by decide) ?_
        exact h_retR hx hb hr hlocks rfl (so1 h) dX4_at_31
      · have h := ie hc3 h
        refine lv_aload_n hx hb dX4_at_21 rfl (lv_at hl 0 rfl) ?_
        refine h_getR hx hb hts hnX4_at_X4 hown hK hw hS.1 rfl 0 (by decide) rfl hkX4_at_9 dX4_at_22 ?_
        refine lv_iload_n hx hb dX4_at_25 rfl (lv_at hl 1 rfl) ?_
        obtain ⟨hi4, h⟩ := gd_s h
        refine h_cald hx hb hK hw hS.2 hi4 dX4_at_26 ?_
        refine lv_goto (tgt := 31) hx hb dX4_at_27 (by decide) ?_
        obtain ⟨hr5, h⟩ := nr_s h
        exact h_retR hx hb hr hlocks hr5 (so1 h) dX4_at_31

set_option maxHeartbeats 8000000 in
set_option maxRecDepth 100000 in
theorem mX3_numbersOf (l : Launch) (D : va_G) (ac : Nat → ClassId) (ad : Nat → Nat) (S : List hSh) (f : hF) (x0 : Int32) (rv : Int32) (h : fX3_numbersOf x0 = some rv) : Met l yX3_numbersOf wsX3_numbersOf ({ frames := 0, cells := 0, slots := 0, locals := 0 }) (hPc D ac ad S f [.int x0]) (hRi rv) 0 0 hNo := by
  refine h_enter (C := RX3) (cc := cX3_numbersOf) (maxL := 1) (ret := (some .int)) (lv := [(0, .int x0)]) (by decide) rfl rfl (Nat.le_of_ble_eq_true rfl) rfl (fun p e s m below meth c ls hx hb hml hr hlocks hown hts hK hw hl => ?_)
  unfold fX3_numbersOf at h
  refine lv_iload_n hx hb dX3_numbersOf_0 rfl (lv_at hl 0 rfl) ?_
  refine lv_bipush (v := 109) hx hb dX3_numbersOf_1 (by decide) ?_
  refine lv_icmp_eq (tgt := 12) hx hb dX3_numbersOf_3 (by decide) (fun hc1 => ?_) (fun hc1 => ?_)
  · have h := it hc1 h
    refine lv_iconst (v := 3) hx hb dX3_numbersOf_12 (by decide) ?_
    exact h_retR hx hb hr hlocks rfl (so1 h) dX3_numbersOf_13
  · have h := ie hc1 h
    refine lv_iload_n hx hb dX3_numbersOf_6 rfl (lv_at hl 0 rfl) ?_
    refine lv_bipush (v := 119) hx hb dX3_numbersOf_7 (by decide) ?_
    refine lv_icmp_ne (tgt := 14) hx hb dX3_numbersOf_9 (by decide) (fun hc2 => ?_) (fun hc2 => ?_)
    · have h := ie hc2 h
      refine lv_iload_n hx hb dX3_numbersOf_14 rfl (lv_at hl 0 rfl) ?_
      refine lv_bipush (v := 112) hx hb dX3_numbersOf_15 (by decide) ?_
      refine lv_icmp_ne (tgt := 22) hx hb dX3_numbersOf_17 (by decide) (fun hc3 => ?_) (fun hc3 => ?_)
      · have h := ie hc3 h
        refine lv_iload_n hx hb dX3_numbersOf_22 rfl (lv_at hl 0 rfl) ?_
        refine lv_bipush (v := 108) hx hb dX3_numbersOf_23 (by decide) ?_
        refine lv_icmp_ne (tgt := 32) hx hb dX3_numbersOf_25 (by decide) (fun hc4 => ?_) (fun hc4 => ?_)
        · have h := ie hc4 h
          refine lv_iconst (v := 0) hx hb dX3_numbersOf_32 (by decide) ?_
          exact h_retR hx hb hr hlocks rfl (so1 h) dX3_numbersOf_33
        · have h := it hc4 h
          refine lv_iconst (v := 1) hx hb dX3_numbersOf_28 (by decide) ?_
          refine lv_goto (tgt := 33) hx hb dX3_numbersOf_29 (by decide) ?_
          exact h_retR hx hb hr hlocks rfl (so1 h) dX3_numbersOf_33
      · have h := it hc3 h
        refine lv_iconst (v := 2) hx hb dX3_numbersOf_20 (by decide) ?_
        exact h_retR hx hb hr hlocks rfl (so1 h) dX3_numbersOf_21
    · have h := it hc2 h
      refine lv_iconst (v := 3) hx hb dX3_numbersOf_12 (by decide) ?_
      exact h_retR hx hb hr hlocks rfl (so1 h) dX3_numbersOf_13

set_option maxHeartbeats 8000000 in
set_option maxRecDepth 100000 in
theorem mX3_isFigure (l : Launch) (D : va_G) (ac : Nat → ClassId) (ad : Nat → Nat) (S : List hSh) (f : hF) (x0 : Int32) (rv : Int32) (h : fX3_isFigure x0 = some rv) : Met l yX3_isFigure wsX3_isFigure ({ frames := 0, cells := 0, slots := 0, locals := 0 }) (hPc D ac ad S f [.int x0]) (hRi rv) 0 0 hNo := by
  refine h_enter (C := RX3) (cc := cX3_isFigure) (maxL := 1) (ret := (some .boolean)) (lv := [(0, .int x0)]) (by decide) rfl rfl (Nat.le_of_ble_eq_true rfl) rfl (fun p e s m below meth c ls hx hb hml hr hlocks hown hts hK hw hl => ?_)
  unfold fX3_isFigure at h
  refine lv_iload_n hx hb dX3_isFigure_0 rfl (lv_at hl 0 rfl) ?_
  refine lv_bipush (v := 48) hx hb dX3_isFigure_1 (by decide) ?_
  refine lv_icmp_lt (tgt := 16) hx hb dX3_isFigure_3 (by decide) (fun hc1 => ?_) (fun hc1 => ?_)
  · have h := it hc1 h
    refine lv_iconst (v := 0) hx hb dX3_isFigure_16 (by decide) ?_
    exact h_retR hx hb hr hlocks rfl (so1 h) dX3_isFigure_17
  · have h := ie hc1 h
    refine lv_iload_n hx hb dX3_isFigure_6 rfl (lv_at hl 0 rfl) ?_
    refine lv_bipush (v := 57) hx hb dX3_isFigure_7 (by decide) ?_
    refine lv_icmp_gt (tgt := 16) hx hb dX3_isFigure_9 (by decide) (fun hc2 => ?_) (fun hc2 => ?_)
    · have h := it hc2 h
      refine lv_iconst (v := 0) hx hb dX3_isFigure_16 (by decide) ?_
      exact h_retR hx hb hr hlocks rfl (so1 h) dX3_isFigure_17
    · have h := ie hc2 h
      refine lv_iconst (v := 1) hx hb dX3_isFigure_12 (by decide) ?_
      refine lv_goto (tgt := 17) hx hb dX3_isFigure_13 (by decide) ?_
      exact h_retR hx hb hr hlocks rfl (so1 h) dX3_isFigure_17

theorem hnX3_readNumber_X3 : ∀ w ∈ wsX30, w ∈ wsX3_readNumber := by decide +kernel
theorem hkX3_readNumber_31 : Cond.fieldLink RX3 31 (TX3 9).1 (TX3 9).2.1 (TX3 9).2.2.1 ∈ wsX3_readNumber := by decide +kernel
set_option maxHeartbeats 8000000 in
set_option maxRecDepth 100000 in
theorem mX3_readNumber (l : Launch) (D : va_G) (ac : Nat → ClassId) (ad : Nat → Nat) (S : List hSh) (k : Nat) (o1 : Nat) (f : hF) (x2 : Int32) (x3 : Int32) (x4 : Int32) (rv : Int32) (gv : hF) (hS : isRo S k) (hA1 : isSc S o1) (h : fX3_readNumber k o1 f x2 x3 x4 = some (rv, gv)) : Met l yX3_readNumber wsX3_readNumber ({ frames := 1, cells := 0, slots := 0, locals := 21 }) (hPc D ac ad S f [.ref (ad k), .ref (ad o1), .int x2, .int x3, .int x4]) (hQi D ac ad S rv gv) 0 0 (hAd ad S.length) := by
  refine h_enter (C := RX3) (cc := cX3_readNumber) (maxL := 7) (ret := (some .int)) (lv := [(0, .ref (ad k)), (1, .ref (ad o1)), (2, .int x2), (3, .int x3), (4, .int x4)]) (by decide) rfl rfl (Nat.le_of_ble_eq_true rfl) rfl (fun p e s m below meth c ls hx hb hml hr hlocks hown hts hK hw hl => ?_)
  have J49 : ∀ (_ : Unit), (∀ (f : hF) (y5 : Int32) (y6 : Int32) (H : Heap) (locs : List Loc) (ls : Array Slot), hOk D ac ad S (hAd ad S.length) s.heap f H locs → lv_has ls 7 [(0, .ref (ad k)), (1, .ref (ad o1)), (2, .int x2), (3, .int x3), (4, .int x4), (5, .int y5), (6, .int y6)] → fX3_readNumber_49 k o1 x2 x3 x4 f y5 y6 = some (rv, gv) → W p l e ({ frames := 1, cells := 0, slots := 0, locals := 21 } : Room) s m ([.ref (ad k), .ref (ad o1), .int x2, .int x3, .int x4] : List Value).toArray below meth c H locs 0 0 (MQ below (hQi D ac ad S rv gv) ([.ref (ad k), .ref (ad o1), .int x2, .int x3, .int x4] : List Value).toArray s 0 0 (hAd ad S.length)) (F0 m 49 ls [])) := by
    intro _ f y5 y6 H locs ls hw hl h
    unfold fX3_readNumber_49 at h
    refine lv_iload hx hb dX3_readNumber_49 (lv_at hl 5 rfl) ?_
    refine lv_iload_n hx hb dX3_readNumber_51 rfl (lv_at hl 2 rfl) ?_
    refine lv_icmp_eq (tgt := 79) hx hb dX3_readNumber_52 (by decide) (fun hc1 => ?_) (fun hc1 => ?_)
    · have h := it hc1 h
      refine lv_bipush (v := (-4)) hx hb dX3_readNumber_79 (by decide) ?_
      exact h_retQ hx hb hr hlocks hw rfl (so2 h) dX3_readNumber_81
    · have h := ie hc1 h
      refine lv_aload_n hx hb dX3_readNumber_55 rfl (lv_at hl 1 rfl) ?_
      refine lv_iload hx hb dX3_readNumber_56 (lv_at hl 5 rfl) ?_
      obtain ⟨r2, er2, h⟩ := b1_s h
      refine h_callR (va_runV (As := [.int y5]) (rest := []) ⟨hx, hb, hml, hown, hts⟩ (mX4_at l D ac ad S o1 f y5 r2 hA1 er2) (cwV 1 hts gX3_readNumber_X4_at rfl rfl rfl (by decide +kernel) ⟨Nat.le_of_ble_eq_true rfl, Nat.le_of_ble_eq_true rfl⟩) (h_preV hK hw hA1.1 rfl _) rfl rfl hl.1 rfl (lv_room (Nat.le_of_ble_eq_true rfl)) dX3_readNumber_58 ⟨Nat.le_of_ble_eq_true rfl, Nat.le_of_ble_eq_true rfl⟩) ?_
      refine lv_iload hx hb dX3_readNumber_61 (lv_at hl 4 rfl) ?_
      refine lv_icmp_ne (tgt := 79) hx hb dX3_readNumber_63 (by decide) (fun hc3 => ?_) (fun hc3 => ?_)
      · have h := ie hc3 h
        refine lv_bipush (v := (-4)) hx hb dX3_readNumber_79 (by decide) ?_
        exact h_retQ hx hb hr hlocks hw rfl (so2 h) dX3_readNumber_81
      · have h := it hc3 h
        refine lv_iload_n hx hb dX3_readNumber_66 rfl (lv_at hl 3 rfl) ?_
        refine lv_if_lt (tgt := 79) hx hb dX3_readNumber_67 (by decide) (fun hc4 => ?_) (fun hc4 => ?_)
        · have h := it hc4 h
          refine lv_bipush (v := (-4)) hx hb dX3_readNumber_79 (by decide) ?_
          exact h_retQ hx hb hr hlocks hw rfl (so2 h) dX3_readNumber_81
        · have h := ie hc4 h
          refine lv_iload_n hx hb dX3_readNumber_70 rfl (lv_at hl 3 rfl) ?_
          refine lv_aload_n hx hb dX3_readNumber_71 rfl (lv_at hl 0 rfl) ?_
          refine h_getR hx hb hts hnX3_readNumber_X3 hown hK hw hS.1 rfl 9 (by decide) rfl hkX3_readNumber_31 dX3_readNumber_72 ?_
          refine h_alen (v := 3) hx hb hK hw hS.2.2.2.2.2.2.2 (by decide) rfl dX3_readNumber_75 ?_
          refine lv_icmp_lt (tgt := 82) hx hb dX3_readNumber_76 (by decide) (fun hc5 => ?_) (fun hc5 => ?_)
          · have h := it hc5 h
            refine lv_aload_n hx hb dX3_readNumber_82 rfl (lv_at hl 0 rfl) ?_
            refine h_getR hx hb hts hnX3_readNumber_X3 hown hK hw hS.1 rfl 9 (by decide) rfl hkX3_readNumber_31 dX3_readNumber_83 ?_
            refine lv_iload_n hx hb dX3_readNumber_86 rfl (lv_at hl 3 rfl) ?_
            refine lv_iload hx hb dX3_readNumber_87 (lv_at hl 6 rfl) ?_
            obtain ⟨hi6, h⟩ := gd_s h
            obtain ⟨f7, ef7, h⟩ := lt_s2 h
            refine h_iast (g := f7) ef7 hx hb hK hw hS.2.2.2.2.2.2.2 hi6 dX3_readNumber_89 (fun H locs hw => ?_)
            refine lv_iload hx hb dX3_readNumber_90 (lv_at hl 5 rfl) ?_
            refine lv_iconst (v := 1) hx hb dX3_readNumber_92 (by decide) ?_
            refine lv_iadd hx hb dX3_readNumber_93 ?_
            exact h_retQ hx hb hr hlocks hw rfl (so2 h) dX3_readNumber_94
          · have h := ie hc5 h
            refine lv_bipush (v := (-4)) hx hb dX3_readNumber_79 (by decide) ?_
            exact h_retQ hx hb hr hlocks hw rfl (so2 h) dX3_readNumber_81
  have J6 : ∀ (n : Nat), (∀ (f : hF) (y5 : Int32) (y6 : Int32) (H : Heap) (locs : List Loc) (ls : Array Slot), hOk D ac ad S (hAd ad S.length) s.heap f H locs → lv_has ls 7 [(0, .ref (ad k)), (1, .ref (ad o1)), (2, .int x2), (3, .int x3), (4, .int x4), (5, .int y5), (6, .int y6)] → fX3_readNumber_6 k o1 x2 x3 x4 n f y5 y6 = some (rv, gv) → W p l e ({ frames := 1, cells := 0, slots := 0, locals := 21 } : Room) s m ([.ref (ad k), .ref (ad o1), .int x2, .int x3, .int x4] : List Value).toArray below meth c H locs 0 0 (MQ below (hQi D ac ad S rv gv) ([.ref (ad k), .ref (ad o1), .int x2, .int x3, .int x4] : List Value).toArray s 0 0 (hAd ad S.length)) (F0 m 6 ls [])) := by
    intro n
    induction n with
    | zero =>
      intro f y5 y6 H locs ls hw hl h
      rw [fX3_readNumber_6] at h
      cases h
    | succ n ih =>
      intro f y5 y6 H locs ls hw hl h
      rw [fX3_readNumber_6] at h
      refine lv_iload hx hb dX3_readNumber_6 (lv_at hl 5 rfl) ?_
      refine lv_iload_n hx hb dX3_readNumber_8 rfl (lv_at hl 2 rfl) ?_
      refine lv_iconst (v := 2) hx hb dX3_readNumber_9 (by decide) ?_
      refine lv_iadd hx hb dX3_readNumber_10 ?_
      refine lv_icmp_ge (tgt := 49) hx hb dX3_readNumber_11 (by decide) (fun hc1 => ?_) (fun hc1 => ?_)
      · have h := it hc1 h
        exact J49 () f y5 y6 _ _ _ hw (lv_sub hl [0, 1, 2, 3, 4, 5, 6] rfl) h
      · have h := ie hc1 h
        refine lv_aload_n hx hb dX3_readNumber_14 rfl (lv_at hl 1 rfl) ?_
        refine lv_iload hx hb dX3_readNumber_15 (lv_at hl 5 rfl) ?_
        obtain ⟨r2, er2, h⟩ := b1_s h
        refine h_callR (va_runV (As := [.int y5]) (rest := []) ⟨hx, hb, hml, hown, hts⟩ (mX4_at l D ac ad S o1 f y5 r2 hA1 er2) (cwV 1 hts gX3_readNumber_X4_at rfl rfl rfl (by decide +kernel) ⟨Nat.le_of_ble_eq_true rfl, Nat.le_of_ble_eq_true rfl⟩) (h_preV hK hw hA1.1 rfl _) rfl rfl hl.1 rfl (lv_room (Nat.le_of_ble_eq_true rfl)) dX3_readNumber_17 ⟨Nat.le_of_ble_eq_true rfl, Nat.le_of_ble_eq_true rfl⟩) ?_
        obtain ⟨r3, er3, h⟩ := b1_s h
        refine h_callR (va_runS (As := [.int r2]) (rest := []) ⟨hx, hb, hml, hown, hts⟩ (mX3_isFigure l D ac ad S f r2 r3  er3) (va_cwS 1 hts gX3_readNumber_X3_isFigure rfl rfl rfl (by decide +kernel) ⟨Nat.le_of_ble_eq_true rfl, Nat.le_of_ble_eq_true rfl⟩) (h_preS hK hw _) rfl rfl hl.1 rfl (lv_room (Nat.le_of_ble_eq_true rfl)) dX3_readNumber_20 ⟨Nat.le_of_ble_eq_true rfl, Nat.le_of_ble_eq_true rfl⟩) ?_
        refine lv_if_eq (tgt := 49) hx hb dX3_readNumber_23 (by decide) (fun hc4 => ?_) (fun hc4 => ?_)
        · have h := it hc4 h
          exact J49 () f y5 y6 _ _ _ hw (lv_sub hl [0, 1, 2, 3, 4, 5, 6] rfl) h
        · have h := ie hc4 h
          refine lv_bipush (v := 10) hx hb dX3_readNumber_26 (by decide) ?_
          refine lv_iload hx hb dX3_readNumber_28 (lv_at hl 6 rfl) ?_
          refine lv_imul hx hb dX3_readNumber_30 ?_
          refine lv_aload_n hx hb dX3_readNumber_31 rfl (lv_at hl 1 rfl) ?_
          refine lv_iload hx hb dX3_readNumber_32 (lv_at hl 5 rfl) ?_
          obtain ⟨r5, er5, h⟩ := b1_s h
          refine h_callR (va_runV (As := [.int y5]) (rest := [.int (10 * y6)]) ⟨hx, hb, hml, hown, hts⟩ (mX4_at l D ac ad S o1 f y5 r5 hA1 er5) (cwV 1 hts gX3_readNumber_X4_at rfl rfl rfl (by decide +kernel) ⟨Nat.le_of_ble_eq_true rfl, Nat.le_of_ble_eq_true rfl⟩) (h_preV hK hw hA1.1 rfl _) rfl rfl hl.1 rfl (lv_room (Nat.le_of_ble_eq_true rfl)) dX3_readNumber_34 ⟨Nat.le_of_ble_eq_true rfl, Nat.le_of_ble_eq_true rfl⟩) ?_
          refine lv_iadd hx hb dX3_readNumber_37 ?_
          refine lv_bipush (v := 48) hx hb dX3_readNumber_38 (by decide) ?_
          refine lv_isub hx hb dX3_readNumber_40 ?_
          refine lv_istore (lv' := [(6, .int (((10 * y6) + r5) - 48)), (0, .ref (ad k)), (1, .ref (ad o1)), (2, .int x2), (3, .int x3), (4, .int x4), (5, .int y5)]) hx hb dX3_readNumber_41 hl (by decide) rfl (fun ls hl => ?_)
          refine lv_iinc (v := (y5 + 1)) (lv' := [(5, .int (y5 + 1)), (6, .int (((10 * y6) + r5) - 48)), (0, .ref (ad k)), (1, .ref (ad o1)), (2, .int x2), (3, .int x3), (4, .int x4)]) hx hb dX3_readNumber_43 hl (k := 6) rfl rfl (by decide) rfl (fun ls hl => ?_)
          refine lv_goto (tgt := 6) hx hb dX3_readNumber_46 (by decide) ?_
          exact ih f (y5 + 1) (((10 * y6) + r5) - 48) _ _ _ hw (lv_sub hl [2, 3, 4, 5, 6, 0, 1] rfl) h
  unfold fX3_readNumber at h
  refine lv_iload_n hx hb dX3_readNumber_0 rfl (lv_at hl 2 rfl) ?_
  refine lv_istore (lv' := [(5, .int x2), (0, .ref (ad k)), (1, .ref (ad o1)), (2, .int x2), (3, .int x3), (4, .int x4)]) hx hb dX3_readNumber_1 hl (by decide) rfl (fun ls hl => ?_)
  refine lv_iconst (v := 0) hx hb dX3_readNumber_3 (by decide) ?_
  refine lv_istore (lv' := [(6, .int 0), (5, .int x2), (0, .ref (ad k)), (1, .ref (ad o1)), (2, .int x2), (3, .int x3), (4, .int x4)]) hx hb dX3_readNumber_4 hl (by decide) rfl (fun ls hl => ?_)
  exact J6 _ f x2 0 _ _ _ hw (lv_sub hl [2, 3, 4, 5, 6, 1, 0] rfl) h

theorem hnX3_enterPerson_X3 : ∀ w ∈ wsX30, w ∈ wsX3_enterPerson := by decide +kernel
theorem hkX3_enterPerson_34 : Cond.fieldLink RX3 34 (TX3 0).1 (TX3 0).2.1 (TX3 0).2.2.1 ∈ wsX3_enterPerson := by decide +kernel
theorem hkX3_enterPerson_31 : Cond.fieldLink RX3 31 (TX3 9).1 (TX3 9).2.1 (TX3 9).2.2.1 ∈ wsX3_enterPerson := by decide +kernel
theorem hkX3_enterPerson_9 : Cond.fieldLink RX3 9 (TX3 3).1 (TX3 3).2.1 (TX3 3).2.2.1 ∈ wsX3_enterPerson := by decide +kernel
theorem hkX3_enterPerson_15 : Cond.fieldLink RX3 15 (TX3 4).1 (TX3 4).2.1 (TX3 4).2.2.1 ∈ wsX3_enterPerson := by decide +kernel
theorem hkX3_enterPerson_19 : Cond.fieldLink RX3 19 (TX3 5).1 (TX3 5).2.1 (TX3 5).2.2.1 ∈ wsX3_enterPerson := by decide +kernel
theorem hkX3_enterPerson_22 : Cond.fieldLink RX3 22 (TX3 6).1 (TX3 6).2.1 (TX3 6).2.2.1 ∈ wsX3_enterPerson := by decide +kernel
set_option maxHeartbeats 8000000 in
set_option maxRecDepth 100000 in
theorem mX3_enterPerson (l : Launch) (D : va_G) (ac : Nat → ClassId) (ad : Nat → Nat) (S : List hSh) (k : Nat) (f : hF) (x1 : Int32) (rv : Int32) (gv : hF) (hS : isRo S k) (h : fX3_enterPerson k f x1 = some (rv, gv)) : Met l yX3_enterPerson wsX3_enterPerson ({ frames := 0, cells := 0, slots := 0, locals := 0 }) (hPc D ac ad S f [.ref (ad k), .int x1]) (hQi D ac ad S rv gv) 0 0 (hAd ad S.length) := by
  refine h_enter (C := RX3) (cc := cX3_enterPerson) (maxL := 2) (ret := (some .boolean)) (lv := [(0, .ref (ad k)), (1, .int x1)]) (by decide) rfl rfl (Nat.le_of_ble_eq_true rfl) rfl (fun p e s m below meth c ls hx hb hml hr hlocks hown hts hK hw hl => ?_)
  unfold fX3_enterPerson at h
  refine lv_aload_n hx hb dX3_enterPerson_0 rfl (lv_at hl 0 rfl) ?_
  refine h_getI hx hb hts hnX3_enterPerson_X3 hown hK hw hS.1 rfl 0 (by decide) rfl hkX3_enterPerson_34 dX3_enterPerson_1 ?_
  refine lv_bipush (v := 8) hx hb dX3_enterPerson_4 (by decide) ?_
  refine lv_icmp_ge (tgt := 41) hx hb dX3_enterPerson_6 (by decide) (fun hc1 => ?_) (fun hc1 => ?_)
  · have h := it hc1 h
    refine lv_iconst (v := 0) hx hb dX3_enterPerson_41 (by decide) ?_
    exact h_retQ hx hb hr hlocks hw rfl (so2 h) dX3_enterPerson_42
  · have h := ie hc1 h
    refine lv_aload_n hx hb dX3_enterPerson_9 rfl (lv_at hl 0 rfl) ?_
    refine h_getR hx hb hts hnX3_enterPerson_X3 hown hK hw hS.1 rfl 9 (by decide) rfl hkX3_enterPerson_31 dX3_enterPerson_10 ?_
    refine lv_iconst (v := 0) hx hb dX3_enterPerson_13 (by decide) ?_
    obtain ⟨hi2, h⟩ := gd_s h
    refine h_iald hx hb hK hw hS.2.2.2.2.2.2.2 hi2 dX3_enterPerson_14 ?_
    refine lv_iconst (v := 2) hx hb dX3_enterPerson_15 (by decide) ?_
    refine lv_icmp_gt (tgt := 41) hx hb dX3_enterPerson_16 (by decide) (fun hc3 => ?_) (fun hc3 => ?_)
    · have h := it hc3 h
      refine lv_iconst (v := 0) hx hb dX3_enterPerson_41 (by decide) ?_
      exact h_retQ hx hb hr hlocks hw rfl (so2 h) dX3_enterPerson_42
    · have h := ie hc3 h
      refine lv_aload_n hx hb dX3_enterPerson_19 rfl (lv_at hl 0 rfl) ?_
      refine h_getR hx hb hts hnX3_enterPerson_X3 hown hK hw hS.1 rfl 9 (by decide) rfl hkX3_enterPerson_31 dX3_enterPerson_20 ?_
      refine lv_iconst (v := 1) hx hb dX3_enterPerson_23 (by decide) ?_
      obtain ⟨hi4, h⟩ := gd_s h
      refine h_iald hx hb hK hw hS.2.2.2.2.2.2.2 hi4 dX3_enterPerson_24 ?_
      refine lv_bipush (v := 60) hx hb dX3_enterPerson_25 (by decide) ?_
      refine lv_icmp_gt (tgt := 41) hx hb dX3_enterPerson_27 (by decide) (fun hc5 => ?_) (fun hc5 => ?_)
      · have h := it hc5 h
        refine lv_iconst (v := 0) hx hb dX3_enterPerson_41 (by decide) ?_
        exact h_retQ hx hb hr hlocks hw rfl (so2 h) dX3_enterPerson_42
      · have h := ie hc5 h
        refine lv_aload_n hx hb dX3_enterPerson_30 rfl (lv_at hl 0 rfl) ?_
        refine h_getR hx hb hts hnX3_enterPerson_X3 hown hK hw hS.1 rfl 9 (by decide) rfl hkX3_enterPerson_31 dX3_enterPerson_31 ?_
        refine lv_iconst (v := 2) hx hb dX3_enterPerson_34 (by decide) ?_
        obtain ⟨hi6, h⟩ := gd_s h
        refine h_iald hx hb hK hw hS.2.2.2.2.2.2.2 hi6 dX3_enterPerson_35 ?_
        refine lv_bipush (v := 60) hx hb dX3_enterPerson_36 (by decide) ?_
        refine lv_icmp_le (tgt := 43) hx hb dX3_enterPerson_38 (by decide) (fun hc7 => ?_) (fun hc7 => ?_)
        · have h := it hc7 h
          refine lv_aload_n hx hb dX3_enterPerson_43 rfl (lv_at hl 0 rfl) ?_
          refine h_getR hx hb hts hnX3_enterPerson_X3 hown hK hw hS.1 rfl 3 (by decide) rfl hkX3_enterPerson_9 dX3_enterPerson_44 ?_
          refine lv_aload_n hx hb dX3_enterPerson_47 rfl (lv_at hl 0 rfl) ?_
          refine h_getI hx hb hts hnX3_enterPerson_X3 hown hK hw hS.1 rfl 0 (by decide) rfl hkX3_enterPerson_34 dX3_enterPerson_48 ?_
          refine lv_iload_n hx hb dX3_enterPerson_51 rfl (lv_at hl 1 rfl) ?_
          obtain ⟨hi8, h⟩ := gd_s h
          obtain ⟨f9, ef9, h⟩ := lt_s2 h
          refine h_zast (g := f9) ef9 hx hb hK hw hS.2.1 hi8 dX3_enterPerson_52 (fun H locs hw => ?_)
          refine lv_aload_n hx hb dX3_enterPerson_53 rfl (lv_at hl 0 rfl) ?_
          refine h_getR hx hb hts hnX3_enterPerson_X3 hown hK hw hS.1 rfl 4 (by decide) rfl hkX3_enterPerson_15 dX3_enterPerson_54 ?_
          refine lv_aload_n hx hb dX3_enterPerson_57 rfl (lv_at hl 0 rfl) ?_
          refine h_getI hx hb hts hnX3_enterPerson_X3 hown hK hw hS.1 rfl 0 (by decide) rfl hkX3_enterPerson_34 dX3_enterPerson_58 ?_
          refine lv_aload_n hx hb dX3_enterPerson_61 rfl (lv_at hl 0 rfl) ?_
          refine h_getR hx hb hts hnX3_enterPerson_X3 hown hK hw hS.1 rfl 9 (by decide) rfl hkX3_enterPerson_31 dX3_enterPerson_62 ?_
          refine lv_iconst (v := 0) hx hb dX3_enterPerson_65 (by decide) ?_
          obtain ⟨hi10, h⟩ := gd_s h
          refine h_iald hx hb hK hw hS.2.2.2.2.2.2.2 hi10 dX3_enterPerson_66 ?_
          obtain ⟨hi11, h⟩ := gd_s h
          obtain ⟨f12, ef12, h⟩ := lt_s2 h
          refine h_iast (g := f12) ef12 hx hb hK hw hS.2.2.1 hi11 dX3_enterPerson_67 (fun H locs hw => ?_)
          refine lv_aload_n hx hb dX3_enterPerson_68 rfl (lv_at hl 0 rfl) ?_
          refine h_getR hx hb hts hnX3_enterPerson_X3 hown hK hw hS.1 rfl 5 (by decide) rfl hkX3_enterPerson_19 dX3_enterPerson_69 ?_
          refine lv_aload_n hx hb dX3_enterPerson_72 rfl (lv_at hl 0 rfl) ?_
          refine h_getI hx hb hts hnX3_enterPerson_X3 hown hK hw hS.1 rfl 0 (by decide) rfl hkX3_enterPerson_34 dX3_enterPerson_73 ?_
          refine lv_aload_n hx hb dX3_enterPerson_76 rfl (lv_at hl 0 rfl) ?_
          refine h_getR hx hb hts hnX3_enterPerson_X3 hown hK hw hS.1 rfl 9 (by decide) rfl hkX3_enterPerson_31 dX3_enterPerson_77 ?_
          refine lv_iconst (v := 1) hx hb dX3_enterPerson_80 (by decide) ?_
          obtain ⟨hi13, h⟩ := gd_s h
          refine h_iald hx hb hK hw hS.2.2.2.2.2.2.2 hi13 dX3_enterPerson_81 ?_
          obtain ⟨hi14, h⟩ := gd_s h
          obtain ⟨f15, ef15, h⟩ := lt_s2 h
          refine h_iast (g := f15) ef15 hx hb hK hw hS.2.2.2.1 hi14 dX3_enterPerson_82 (fun H locs hw => ?_)
          refine lv_aload_n hx hb dX3_enterPerson_83 rfl (lv_at hl 0 rfl) ?_
          refine h_getR hx hb hts hnX3_enterPerson_X3 hown hK hw hS.1 rfl 6 (by decide) rfl hkX3_enterPerson_22 dX3_enterPerson_84 ?_
          refine lv_aload_n hx hb dX3_enterPerson_87 rfl (lv_at hl 0 rfl) ?_
          refine h_getI hx hb hts hnX3_enterPerson_X3 hown hK hw hS.1 rfl 0 (by decide) rfl hkX3_enterPerson_34 dX3_enterPerson_88 ?_
          refine lv_aload_n hx hb dX3_enterPerson_91 rfl (lv_at hl 0 rfl) ?_
          refine h_getR hx hb hts hnX3_enterPerson_X3 hown hK hw hS.1 rfl 9 (by decide) rfl hkX3_enterPerson_31 dX3_enterPerson_92 ?_
          refine lv_iconst (v := 2) hx hb dX3_enterPerson_95 (by decide) ?_
          obtain ⟨hi16, h⟩ := gd_s h
          refine h_iald hx hb hK hw hS.2.2.2.2.2.2.2 hi16 dX3_enterPerson_96 ?_
          obtain ⟨hi17, h⟩ := gd_s h
          obtain ⟨f18, ef18, h⟩ := lt_s2 h
          refine h_iast (g := f18) ef18 hx hb hK hw hS.2.2.2.2.1 hi17 dX3_enterPerson_97 (fun H locs hw => ?_)
          refine lv_aload_n hx hb dX3_enterPerson_98 rfl (lv_at hl 0 rfl) ?_
          refine lv_dup hx hb dX3_enterPerson_99 rfl ?_
          refine h_getI hx hb hts hnX3_enterPerson_X3 hown hK hw hS.1 rfl 0 (by decide) rfl hkX3_enterPerson_34 dX3_enterPerson_100 ?_
          refine lv_iconst (v := 1) hx hb dX3_enterPerson_103 (by decide) ?_
          refine lv_iadd hx hb dX3_enterPerson_104 ?_
          obtain ⟨f19, ef19, h⟩ := lt_s2 h
          refine h_putI (g := f19) ef19 hx hb hts hnX3_enterPerson_X3 tyX3 tyX3_ok nmX3 hown hK hw hS.1 rfl 0 rfl (by decide) rfl hkX3_enterPerson_34 rfl (by decide +kernel) dX3_enterPerson_105 (fun H locs hw => ?_)
          refine lv_iconst (v := 1) hx hb dX3_enterPerson_108 (by decide) ?_
          exact h_retQ hx hb hr hlocks hw rfl (so2 h) dX3_enterPerson_109
        · have h := ie hc7 h
          refine lv_iconst (v := 0) hx hb dX3_enterPerson_41 (by decide) ?_
          exact h_retQ hx hb hr hlocks hw rfl (so2 h) dX3_enterPerson_42

theorem hnX3_enterParson_X3 : ∀ w ∈ wsX30, w ∈ wsX3_enterParson := by decide +kernel
theorem hkX3_enterParson_38 : Cond.fieldLink RX3 38 (TX3 1).1 (TX3 1).2.1 (TX3 1).2.2.1 ∈ wsX3_enterParson := by decide +kernel
theorem hkX3_enterParson_31 : Cond.fieldLink RX3 31 (TX3 9).1 (TX3 9).2.1 (TX3 9).2.2.1 ∈ wsX3_enterParson := by decide +kernel
theorem hkX3_enterParson_25 : Cond.fieldLink RX3 25 (TX3 7).1 (TX3 7).2.1 (TX3 7).2.2.1 ∈ wsX3_enterParson := by decide +kernel
theorem hkX3_enterParson_28 : Cond.fieldLink RX3 28 (TX3 8).1 (TX3 8).2.1 (TX3 8).2.2.1 ∈ wsX3_enterParson := by decide +kernel
set_option maxHeartbeats 8000000 in
set_option maxRecDepth 100000 in
theorem mX3_enterParson (l : Launch) (D : va_G) (ac : Nat → ClassId) (ad : Nat → Nat) (S : List hSh) (k : Nat) (f : hF) (rv : Int32) (gv : hF) (hS : isRo S k) (h : fX3_enterParson k f = some (rv, gv)) : Met l yX3_enterParson wsX3_enterParson ({ frames := 0, cells := 0, slots := 0, locals := 0 }) (hPc D ac ad S f [.ref (ad k)]) (hQi D ac ad S rv gv) 0 0 (hAd ad S.length) := by
  refine h_enter (C := RX3) (cc := cX3_enterParson) (maxL := 1) (ret := (some .boolean)) (lv := [(0, .ref (ad k))]) (by decide) rfl rfl (Nat.le_of_ble_eq_true rfl) rfl (fun p e s m below meth c ls hx hb hml hr hlocks hown hts hK hw hl => ?_)
  unfold fX3_enterParson at h
  refine lv_aload_n hx hb dX3_enterParson_0 rfl (lv_at hl 0 rfl) ?_
  refine h_getI hx hb hts hnX3_enterParson_X3 hown hK hw hS.1 rfl 1 (by decide) rfl hkX3_enterParson_38 dX3_enterParson_1 ?_
  refine lv_iconst (v := 3) hx hb dX3_enterParson_4 (by decide) ?_
  refine lv_icmp_ge (tgt := 29) hx hb dX3_enterParson_5 (by decide) (fun hc1 => ?_) (fun hc1 => ?_)
  · have h := it hc1 h
    refine lv_iconst (v := 0) hx hb dX3_enterParson_29 (by decide) ?_
    exact h_retQ hx hb hr hlocks hw rfl (so2 h) dX3_enterParson_30
  · have h := ie hc1 h
    refine lv_aload_n hx hb dX3_enterParson_8 rfl (lv_at hl 0 rfl) ?_
    refine h_getR hx hb hts hnX3_enterParson_X3 hown hK hw hS.1 rfl 9 (by decide) rfl hkX3_enterParson_31 dX3_enterParson_9 ?_
    refine lv_iconst (v := 0) hx hb dX3_enterParson_12 (by decide) ?_
    obtain ⟨hi2, h⟩ := gd_s h
    refine h_iald hx hb hK hw hS.2.2.2.2.2.2.2 hi2 dX3_enterParson_13 ?_
    refine lv_iconst (v := 2) hx hb dX3_enterParson_14 (by decide) ?_
    refine lv_icmp_gt (tgt := 29) hx hb dX3_enterParson_15 (by decide) (fun hc3 => ?_) (fun hc3 => ?_)
    · have h := it hc3 h
      refine lv_iconst (v := 0) hx hb dX3_enterParson_29 (by decide) ?_
      exact h_retQ hx hb hr hlocks hw rfl (so2 h) dX3_enterParson_30
    · have h := ie hc3 h
      refine lv_aload_n hx hb dX3_enterParson_18 rfl (lv_at hl 0 rfl) ?_
      refine h_getR hx hb hts hnX3_enterParson_X3 hown hK hw hS.1 rfl 9 (by decide) rfl hkX3_enterParson_31 dX3_enterParson_19 ?_
      refine lv_iconst (v := 1) hx hb dX3_enterParson_22 (by decide) ?_
      obtain ⟨hi4, h⟩ := gd_s h
      refine h_iald hx hb hK hw hS.2.2.2.2.2.2.2 hi4 dX3_enterParson_23 ?_
      refine lv_bipush (v := 20) hx hb dX3_enterParson_24 (by decide) ?_
      refine lv_icmp_le (tgt := 31) hx hb dX3_enterParson_26 (by decide) (fun hc5 => ?_) (fun hc5 => ?_)
      · have h := it hc5 h
        refine lv_aload_n hx hb dX3_enterParson_31 rfl (lv_at hl 0 rfl) ?_
        refine h_getR hx hb hts hnX3_enterParson_X3 hown hK hw hS.1 rfl 7 (by decide) rfl hkX3_enterParson_25 dX3_enterParson_32 ?_
        refine lv_aload_n hx hb dX3_enterParson_35 rfl (lv_at hl 0 rfl) ?_
        refine h_getI hx hb hts hnX3_enterParson_X3 hown hK hw hS.1 rfl 1 (by decide) rfl hkX3_enterParson_38 dX3_enterParson_36 ?_
        refine lv_aload_n hx hb dX3_enterParson_39 rfl (lv_at hl 0 rfl) ?_
        refine h_getR hx hb hts hnX3_enterParson_X3 hown hK hw hS.1 rfl 9 (by decide) rfl hkX3_enterParson_31 dX3_enterParson_40 ?_
        refine lv_iconst (v := 0) hx hb dX3_enterParson_43 (by decide) ?_
        obtain ⟨hi6, h⟩ := gd_s h
        refine h_iald hx hb hK hw hS.2.2.2.2.2.2.2 hi6 dX3_enterParson_44 ?_
        obtain ⟨hi7, h⟩ := gd_s h
        obtain ⟨f8, ef8, h⟩ := lt_s2 h
        refine h_iast (g := f8) ef8 hx hb hK hw hS.2.2.2.2.2.1 hi7 dX3_enterParson_45 (fun H locs hw => ?_)
        refine lv_aload_n hx hb dX3_enterParson_46 rfl (lv_at hl 0 rfl) ?_
        refine h_getR hx hb hts hnX3_enterParson_X3 hown hK hw hS.1 rfl 8 (by decide) rfl hkX3_enterParson_28 dX3_enterParson_47 ?_
        refine lv_aload_n hx hb dX3_enterParson_50 rfl (lv_at hl 0 rfl) ?_
        refine h_getI hx hb hts hnX3_enterParson_X3 hown hK hw hS.1 rfl 1 (by decide) rfl hkX3_enterParson_38 dX3_enterParson_51 ?_
        refine lv_aload_n hx hb dX3_enterParson_54 rfl (lv_at hl 0 rfl) ?_
        refine h_getR hx hb hts hnX3_enterParson_X3 hown hK hw hS.1 rfl 9 (by decide) rfl hkX3_enterParson_31 dX3_enterParson_55 ?_
        refine lv_iconst (v := 1) hx hb dX3_enterParson_58 (by decide) ?_
        obtain ⟨hi9, h⟩ := gd_s h
        refine h_iald hx hb hK hw hS.2.2.2.2.2.2.2 hi9 dX3_enterParson_59 ?_
        obtain ⟨hi10, h⟩ := gd_s h
        obtain ⟨f11, ef11, h⟩ := lt_s2 h
        refine h_iast (g := f11) ef11 hx hb hK hw hS.2.2.2.2.2.2.1 hi10 dX3_enterParson_60 (fun H locs hw => ?_)
        refine lv_aload_n hx hb dX3_enterParson_61 rfl (lv_at hl 0 rfl) ?_
        refine lv_dup hx hb dX3_enterParson_62 rfl ?_
        refine h_getI hx hb hts hnX3_enterParson_X3 hown hK hw hS.1 rfl 1 (by decide) rfl hkX3_enterParson_38 dX3_enterParson_63 ?_
        refine lv_iconst (v := 1) hx hb dX3_enterParson_66 (by decide) ?_
        refine lv_iadd hx hb dX3_enterParson_67 ?_
        obtain ⟨f12, ef12, h⟩ := lt_s2 h
        refine h_putI (g := f12) ef12 hx hb hts hnX3_enterParson_X3 tyX3 tyX3_ok nmX3 hown hK hw hS.1 rfl 1 rfl (by decide) rfl hkX3_enterParson_38 rfl (by decide +kernel) dX3_enterParson_68 (fun H locs hw => ?_)
        refine lv_iconst (v := 1) hx hb dX3_enterParson_71 (by decide) ?_
        exact h_retQ hx hb hr hlocks hw rfl (so2 h) dX3_enterParson_72
      · have h := ie hc5 h
        refine lv_iconst (v := 0) hx hb dX3_enterParson_29 (by decide) ?_
        exact h_retQ hx hb hr hlocks hw rfl (so2 h) dX3_enterParson_30

theorem hnX3_enterLaw_X3 : ∀ w ∈ wsX30, w ∈ wsX3_enterLaw := by decide +kernel
theorem hkX3_enterLaw_31 : Cond.fieldLink RX3 31 (TX3 9).1 (TX3 9).2.1 (TX3 9).2.2.1 ∈ wsX3_enterLaw := by decide +kernel
theorem hkX3_enterLaw_41 : Cond.fieldLink RX3 41 (TX3 2).1 (TX3 2).2.1 (TX3 2).2.2.1 ∈ wsX3_enterLaw := by decide +kernel
set_option maxHeartbeats 8000000 in
set_option maxRecDepth 100000 in
theorem mX3_enterLaw (l : Launch) (D : va_G) (ac : Nat → ClassId) (ad : Nat → Nat) (S : List hSh) (k : Nat) (f : hF) (rv : Int32) (gv : hF) (hS : isRo S k) (h : fX3_enterLaw k f = some (rv, gv)) : Met l yX3_enterLaw wsX3_enterLaw ({ frames := 0, cells := 0, slots := 0, locals := 0 }) (hPc D ac ad S f [.ref (ad k)]) (hQi D ac ad S rv gv) 0 0 (hAd ad S.length) := by
  refine h_enter (C := RX3) (cc := cX3_enterLaw) (maxL := 1) (ret := (some .boolean)) (lv := [(0, .ref (ad k))]) (by decide) rfl rfl (Nat.le_of_ble_eq_true rfl) rfl (fun p e s m below meth c ls hx hb hml hr hlocks hown hts hK hw hl => ?_)
  unfold fX3_enterLaw at h
  refine lv_aload_n hx hb dX3_enterLaw_0 rfl (lv_at hl 0 rfl) ?_
  refine h_getR hx hb hts hnX3_enterLaw_X3 hown hK hw hS.1 rfl 9 (by decide) rfl hkX3_enterLaw_31 dX3_enterLaw_1 ?_
  refine lv_iconst (v := 0) hx hb dX3_enterLaw_4 (by decide) ?_
  obtain ⟨hi1, h⟩ := gd_s h
  refine h_iald hx hb hK hw hS.2.2.2.2.2.2.2 hi1 dX3_enterLaw_5 ?_
  refine lv_iconst (v := 1) hx hb dX3_enterLaw_6 (by decide) ?_
  refine lv_icmp_ge (tgt := 12) hx hb dX3_enterLaw_7 (by decide) (fun hc2 => ?_) (fun hc2 => ?_)
  · have h := it hc2 h
    refine lv_aload_n hx hb dX3_enterLaw_12 rfl (lv_at hl 0 rfl) ?_
    refine lv_aload_n hx hb dX3_enterLaw_13 rfl (lv_at hl 0 rfl) ?_
    refine h_getR hx hb hts hnX3_enterLaw_X3 hown hK hw hS.1 rfl 9 (by decide) rfl hkX3_enterLaw_31 dX3_enterLaw_14 ?_
    refine lv_iconst (v := 0) hx hb dX3_enterLaw_17 (by decide) ?_
    obtain ⟨hi3, h⟩ := gd_s h
    refine h_iald hx hb hK hw hS.2.2.2.2.2.2.2 hi3 dX3_enterLaw_18 ?_
    obtain ⟨f4, ef4, h⟩ := lt_s2 h
    refine h_putI (g := f4) ef4 hx hb hts hnX3_enterLaw_X3 tyX3 tyX3_ok nmX3 hown hK hw hS.1 rfl 2 rfl (by decide) rfl hkX3_enterLaw_41 rfl (by decide +kernel) dX3_enterLaw_19 (fun H locs hw => ?_)
    refine lv_iconst (v := 1) hx hb dX3_enterLaw_22 (by decide) ?_
    exact h_retQ hx hb hr hlocks hw rfl (so2 h) dX3_enterLaw_23
  · have h := ie hc2 h
    refine lv_iconst (v := 0) hx hb dX3_enterLaw_10 (by decide) ?_
    exact h_retQ hx hb hr hlocks hw rfl (so2 h) dX3_enterLaw_11

set_option maxHeartbeats 8000000 in
set_option maxRecDepth 100000 in
theorem mX3_enter (l : Launch) (D : va_G) (ac : Nat → ClassId) (ad : Nat → Nat) (S : List hSh) (k : Nat) (f : hF) (x1 : Int32) (rv : Int32) (gv : hF) (hS : isRo S k) (h : fX3_enter k f x1 = some (rv, gv)) : Met l yX3_enter wsX3_enter ({ frames := 1, cells := 0, slots := 0, locals := 21 }) (hPc D ac ad S f [.ref (ad k), .int x1]) (hQi D ac ad S rv gv) 0 0 (hAd ad S.length) := by
  refine h_enter (C := RX3) (cc := cX3_enter) (maxL := 2) (ret := (some .boolean)) (lv := [(0, .ref (ad k)), (1, .int x1)]) (by decide) rfl rfl (Nat.le_of_ble_eq_true rfl) rfl (fun p e s m below meth c ls hx hb hml hr hlocks hown hts hK hw hl => ?_)
  have J24 : ∀ (_ : Unit), (∀ (f : hF) (s1 : Int32) (H : Heap) (locs : List Loc) (ls : Array Slot), hOk D ac ad S (hAd ad S.length) s.heap f H locs → lv_has ls 2 [] → fX3_enter_24 k x1 f s1 = some (rv, gv) → W p l e ({ frames := 1, cells := 0, slots := 0, locals := 21 } : Room) s m ([.ref (ad k), .int x1] : List Value).toArray below meth c H locs 0 0 (MQ below (hQi D ac ad S rv gv) ([.ref (ad k), .int x1] : List Value).toArray s 0 0 (hAd ad S.length)) (F0 m 24 ls [.int s1, .ref (ad k)])) := by
    intro _ f s1 H locs ls hw hl h
    unfold fX3_enter_24 at h
    obtain ⟨r1, f2, ef2, h⟩ := b2_s h
    refine h_callQ hw (va_runV (As := [.int s1]) (rest := []) ⟨hx, hb, hml, hown, hts⟩ (mX3_enterPerson l D ac ad S k f s1 r1 f2 hS ef2) (cwV 1 hts gX3_enter_X3_enterPerson rfl rfl rfl (by decide +kernel) ⟨Nat.le_of_ble_eq_true rfl, Nat.le_of_ble_eq_true rfl⟩) (h_preV hK hw hS.1 rfl _) rfl rfl hl.1 rfl (lv_room (Nat.le_of_ble_eq_true rfl)) dX3_enter_24 ⟨Nat.le_of_ble_eq_true rfl, Nat.le_of_ble_eq_true rfl⟩) (fun H locs hw => ?_)
    obtain ⟨hr3, h⟩ := nr_s h
    exact h_retQ hx hb hr hlocks hw hr3 (so2 h) dX3_enter_27
  have J12 : ∀ (_ : Unit), (∀ (f : hF) (H : Heap) (locs : List Loc) (ls : Array Slot), hOk D ac ad S (hAd ad S.length) s.heap f H locs → lv_has ls 2 [(0, .ref (ad k)), (1, .int x1)] → fX3_enter_12 k x1 f = some (rv, gv) → W p l e ({ frames := 1, cells := 0, slots := 0, locals := 21 } : Room) s m ([.ref (ad k), .int x1] : List Value).toArray below meth c H locs 0 0 (MQ below (hQi D ac ad S rv gv) ([.ref (ad k), .int x1] : List Value).toArray s 0 0 (hAd ad S.length)) (F0 m 12 ls [])) := by
    intro _ f H locs ls hw hl h
    unfold fX3_enter_12 at h
    refine lv_aload_n hx hb dX3_enter_12 rfl (lv_at hl 0 rfl) ?_
    refine lv_iload_n hx hb dX3_enter_13 rfl (lv_at hl 1 rfl) ?_
    refine lv_bipush (v := 119) hx hb dX3_enter_14 (by decide) ?_
    refine lv_icmp_ne (tgt := 23) hx hb dX3_enter_16 (by decide) (fun hc1 => ?_) (fun hc1 => ?_)
    · have h := ie hc1 h
      refine lv_iconst (v := 0) hx hb dX3_enter_23 (by decide) ?_
      exact J24 () f 0 _ _ _ hw (lv_sub hl [] rfl) h
    · have h := it hc1 h
      refine lv_iconst (v := 1) hx hb dX3_enter_19 (by decide) ?_
      refine lv_goto (tgt := 24) hx hb dX3_enter_20 (by decide) ?_
      exact J24 () f 1 _ _ _ hw (lv_sub hl [] rfl) h
  unfold fX3_enter at h
  refine lv_iload_n hx hb dX3_enter_0 rfl (lv_at hl 1 rfl) ?_
  refine lv_bipush (v := 109) hx hb dX3_enter_1 (by decide) ?_
  refine lv_icmp_eq (tgt := 12) hx hb dX3_enter_3 (by decide) (fun hc1 => ?_) (fun hc1 => ?_)
  · have h := it hc1 h
    exact J12 () f _ _ _ hw (lv_sub hl [0, 1] rfl) h
  · have h := ie hc1 h
    refine lv_iload_n hx hb dX3_enter_6 rfl (lv_at hl 1 rfl) ?_
    refine lv_bipush (v := 119) hx hb dX3_enter_7 (by decide) ?_
    refine lv_icmp_ne (tgt := 28) hx hb dX3_enter_9 (by decide) (fun hc2 => ?_) (fun hc2 => ?_)
    · have h := ie hc2 h
      refine lv_iload_n hx hb dX3_enter_28 rfl (lv_at hl 1 rfl) ?_
      refine lv_bipush (v := 112) hx hb dX3_enter_29 (by decide) ?_
      refine lv_icmp_ne (tgt := 41) hx hb dX3_enter_31 (by decide) (fun hc3 => ?_) (fun hc3 => ?_)
      · have h := ie hc3 h
        refine lv_aload_n hx hb dX3_enter_41 rfl (lv_at hl 0 rfl) ?_
        obtain ⟨r4, f5, ef5, h⟩ := b2_s h
        refine h_callQ hw (va_runV (As := []) (rest := []) ⟨hx, hb, hml, hown, hts⟩ (mX3_enterLaw l D ac ad S k f r4 f5 hS ef5) (cwV 0 hts gX3_enter_X3_enterLaw rfl rfl rfl (by decide +kernel) ⟨Nat.le_of_ble_eq_true rfl, Nat.le_of_ble_eq_true rfl⟩) (h_preV hK hw hS.1 rfl _) rfl rfl hl.1 rfl (lv_room (Nat.le_of_ble_eq_true rfl)) dX3_enter_42 ⟨Nat.le_of_ble_eq_true rfl, Nat.le_of_ble_eq_true rfl⟩) (fun H locs hw => ?_)
        obtain ⟨hr6, h⟩ := nr_s h
        exact h_retQ hx hb hr hlocks hw hr6 (so2 h) dX3_enter_45
      · have h := it hc3 h
        refine lv_aload_n hx hb dX3_enter_34 rfl (lv_at hl 0 rfl) ?_
        obtain ⟨r7, f8, ef8, h⟩ := b2_s h
        refine h_callQ hw (va_runV (As := []) (rest := []) ⟨hx, hb, hml, hown, hts⟩ (mX3_enterParson l D ac ad S k f r7 f8 hS ef8) (cwV 0 hts gX3_enter_X3_enterParson rfl rfl rfl (by decide +kernel) ⟨Nat.le_of_ble_eq_true rfl, Nat.le_of_ble_eq_true rfl⟩) (h_preV hK hw hS.1 rfl _) rfl rfl hl.1 rfl (lv_room (Nat.le_of_ble_eq_true rfl)) dX3_enter_35 ⟨Nat.le_of_ble_eq_true rfl, Nat.le_of_ble_eq_true rfl⟩) (fun H locs hw => ?_)
        refine lv_goto (tgt := 45) hx hb dX3_enter_38 (by decide) ?_
        obtain ⟨hr9, h⟩ := nr_s h
        exact h_retQ hx hb hr hlocks hw hr9 (so2 h) dX3_enter_45
    · have h := it hc2 h
      exact J12 () f _ _ _ hw (lv_sub hl [0, 1] rfl) h

set_option maxHeartbeats 8000000 in
set_option maxRecDepth 100000 in
theorem mX3_readItem (l : Launch) (D : va_G) (ac : Nat → ClassId) (ad : Nat → Nat) (S : List hSh) (k : Nat) (o1 : Nat) (f : hF) (x2 : Int32) (rv : Int32) (gv : hF) (hS : isRo S k) (hA1 : isSc S o1) (h : fX3_readItem k o1 f x2 = some (rv, gv)) : Met l yX3_readItem wsX3_readItem ({ frames := 2, cells := 0, slots := 0, locals := 47 }) (hPc D ac ad S f [.ref (ad k), .ref (ad o1), .int x2]) (hQi D ac ad S rv gv) 0 0 (hAd ad S.length) := by
  refine h_enter (C := RX3) (cc := cX3_readItem) (maxL := 7) (ret := (some .int)) (lv := [(0, .ref (ad k)), (1, .ref (ad o1)), (2, .int x2)]) (by decide) rfl rfl (Nat.le_of_ble_eq_true rfl) rfl (fun p e s m below meth c ls hx hb hml hr hlocks hown hts hK hw hl => ?_)
  have J65 : ∀ (q30 : hF → Int32 → Int32 → Int32 → Int32 → Option (Int32 × hF)) (hq30 : (∀ (f : hF) (y3 : Int32) (y4 : Int32) (y5 : Int32) (y6 : Int32) (H : Heap) (locs : List Loc) (ls : Array Slot), hOk D ac ad S (hAd ad S.length) s.heap f H locs → lv_has ls 7 [(0, .ref (ad k)), (1, .ref (ad o1)), (2, .int x2), (3, .int y3), (4, .int y4), (5, .int y5), (6, .int y6)] → q30 f y3 y4 y5 y6 = some (rv, gv) → W p l e ({ frames := 2, cells := 0, slots := 0, locals := 47 } : Room) s m ([.ref (ad k), .ref (ad o1), .int x2] : List Value).toArray below meth c H locs 0 0 (MQ below (hQi D ac ad S rv gv) ([.ref (ad k), .ref (ad o1), .int x2] : List Value).toArray s 0 0 (hAd ad S.length)) (F0 m 30 ls []))), (∀ (f : hF) (y3 : Int32) (y4 : Int32) (y6 : Int32) (s2 : Int32) (s3 : Int32) (s4 : Int32) (H : Heap) (locs : List Loc) (ls : Array Slot), hOk D ac ad S (hAd ad S.length) s.heap f H locs → lv_has ls 7 [(0, .ref (ad k)), (1, .ref (ad o1)), (2, .int x2), (3, .int y3), (4, .int y4), (6, .int y6)] → fX3_readItem_65 k o1 x2 q30 f y3 y4 y6 s2 s3 s4 = some (rv, gv) → W p l e ({ frames := 2, cells := 0, slots := 0, locals := 47 } : Room) s m ([.ref (ad k), .ref (ad o1), .int x2] : List Value).toArray below meth c H locs 0 0 (MQ below (hQi D ac ad S rv gv) ([.ref (ad k), .ref (ad o1), .int x2] : List Value).toArray s 0 0 (hAd ad S.length)) (F0 m 65 ls [.int s4, .int s3, .int s2, .ref (ad o1), .ref (ad k)])) := by
    intro q30 hq30 f y3 y4 y6 s2 s3 s4 H locs ls hw hl h
    unfold fX3_readItem_65 at h
    obtain ⟨r1, f2, ef2, h⟩ := b2_s h
    refine h_callQ hw (va_runV (As := [.ref (ad o1), .int s2, .int s3, .int s4]) (rest := []) ⟨hx, hb, hml, hown, hts⟩ (mX3_readNumber l D ac ad S k o1 f s2 s3 s4 r1 f2 hS hA1 ef2) (cwV 4 hts gX3_readItem_X3_readNumber rfl rfl rfl (by decide +kernel) ⟨Nat.le_of_ble_eq_true rfl, Nat.le_of_ble_eq_true rfl⟩) (h_preV hK hw hS.1 rfl _) rfl rfl hl.1 rfl (lv_room (Nat.le_of_ble_eq_true rfl)) dX3_readItem_65 ⟨Nat.le_of_ble_eq_true rfl, Nat.le_of_ble_eq_true rfl⟩) (fun H locs hw => ?_)
    refine lv_istore (lv' := [(5, .int r1), (0, .ref (ad k)), (1, .ref (ad o1)), (2, .int x2), (3, .int y3), (4, .int y4), (6, .int y6)]) hx hb dX3_readItem_68 hl (by decide) rfl (fun ls hl => ?_)
    refine lv_iinc (v := (y6 + 1)) (lv' := [(6, .int (y6 + 1)), (5, .int r1), (0, .ref (ad k)), (1, .ref (ad o1)), (2, .int x2), (3, .int y3), (4, .int y4)]) hx hb dX3_readItem_70 hl (k := 6) rfl rfl (by decide) rfl (fun ls hl => ?_)
    refine lv_goto (tgt := 30) hx hb dX3_readItem_73 (by decide) ?_
    exact hq30 f2 y3 y4 r1 (y6 + 1) _ _ _ hw (lv_sub hl [2, 3, 4, 5, 6, 1, 0] rfl) h
  have J76 : ∀ (_ : Unit), (∀ (f : hF) (y3 : Int32) (y5 : Int32) (H : Heap) (locs : List Loc) (ls : Array Slot), hOk D ac ad S (hAd ad S.length) s.heap f H locs → lv_has ls 7 [(0, .ref (ad k)), (2, .int x2), (3, .int y3), (5, .int y5)] → fX3_readItem_76 k o1 x2 f y3 y5 = some (rv, gv) → W p l e ({ frames := 2, cells := 0, slots := 0, locals := 47 } : Room) s m ([.ref (ad k), .ref (ad o1), .int x2] : List Value).toArray below meth c H locs 0 0 (MQ below (hQi D ac ad S rv gv) ([.ref (ad k), .ref (ad o1), .int x2] : List Value).toArray s 0 0 (hAd ad S.length)) (F0 m 76 ls [])) := by
    intro _ f y3 y5 H locs ls hw hl h
    unfold fX3_readItem_76 at h
    refine lv_iload hx hb dX3_readItem_76 (lv_at hl 3 rfl) ?_
    refine lv_iload_n hx hb dX3_readItem_78 rfl (lv_at hl 1 rfl) ?_
    refine lv_icmp_le (tgt := 95) hx hb dX3_readItem_79 (by decide) (fun hc1 => ?_) (fun hc1 => ?_)
    · have h := it hc1 h
      refine lv_bipush (v := (-4)) hx hb dX3_readItem_95 (by decide) ?_
      exact h_retQ hx hb hr hlocks hw rfl (so2 h) dX3_readItem_97
    · have h := ie hc1 h
      refine lv_aload_n hx hb dX3_readItem_82 rfl (lv_at hl 0 rfl) ?_
      refine lv_iload_n hx hb dX3_readItem_83 rfl (lv_at hl 2 rfl) ?_
      obtain ⟨r2, f3, ef3, h⟩ := b2_s h
      refine h_callQ hw (va_runV (As := [.int y3]) (rest := []) ⟨hx, hb, hml, hown, hts⟩ (mX3_enter l D ac ad S k f y3 r2 f3 hS ef3) (cwV 1 hts gX3_readItem_X3_enter rfl rfl rfl (by decide +kernel) ⟨Nat.le_of_ble_eq_true rfl, Nat.le_of_ble_eq_true rfl⟩) (h_preV hK hw hS.1 rfl _) rfl rfl hl.1 rfl (lv_room (Nat.le_of_ble_eq_true rfl)) dX3_readItem_84 ⟨Nat.le_of_ble_eq_true rfl, Nat.le_of_ble_eq_true rfl⟩) (fun H locs hw => ?_)
      refine lv_if_eq (tgt := 95) hx hb dX3_readItem_87 (by decide) (fun hc4 => ?_) (fun hc4 => ?_)
      · have h := it hc4 h
        refine lv_bipush (v := (-4)) hx hb dX3_readItem_95 (by decide) ?_
        exact h_retQ hx hb hr hlocks hw rfl (so2 h) dX3_readItem_97
      · have h := ie hc4 h
        refine lv_iload hx hb dX3_readItem_90 (lv_at hl 3 rfl) ?_
        refine lv_goto (tgt := 97) hx hb dX3_readItem_92 (by decide) ?_
        exact h_retQ hx hb hr hlocks hw rfl (so2 h) dX3_readItem_97
  have J30 : ∀ (n : Nat), (∀ (f : hF) (y3 : Int32) (y4 : Int32) (y5 : Int32) (y6 : Int32) (H : Heap) (locs : List Loc) (ls : Array Slot), hOk D ac ad S (hAd ad S.length) s.heap f H locs → lv_has ls 7 [(0, .ref (ad k)), (1, .ref (ad o1)), (2, .int x2), (3, .int y3), (4, .int y4), (5, .int y5), (6, .int y6)] → fX3_readItem_30 k o1 x2 n f y3 y4 y5 y6 = some (rv, gv) → W p l e ({ frames := 2, cells := 0, slots := 0, locals := 47 } : Room) s m ([.ref (ad k), .ref (ad o1), .int x2] : List Value).toArray below meth c H locs 0 0 (MQ below (hQi D ac ad S rv gv) ([.ref (ad k), .ref (ad o1), .int x2] : List Value).toArray s 0 0 (hAd ad S.length)) (F0 m 30 ls [])) := by
    intro n
    induction n with
    | zero =>
      intro f y3 y4 y5 y6 H locs ls hw hl h
      rw [fX3_readItem_30] at h
      cases h
    | succ n ih =>
      intro f y3 y4 y5 y6 H locs ls hw hl h
      rw [fX3_readItem_30] at h
      refine lv_iload hx hb dX3_readItem_30 (lv_at hl 6 rfl) ?_
      refine lv_iload hx hb dX3_readItem_32 (lv_at hl 4 rfl) ?_
      refine lv_icmp_ge (tgt := 76) hx hb dX3_readItem_34 (by decide) (fun hc1 => ?_) (fun hc1 => ?_)
      · have h := it hc1 h
        exact J76 () f y3 y5 _ _ _ hw (lv_sub hl [0, 2, 3, 5] rfl) h
      · have h := ie hc1 h
        refine lv_iload hx hb dX3_readItem_37 (lv_at hl 5 rfl) ?_
        refine lv_iload_n hx hb dX3_readItem_39 rfl (lv_at hl 2 rfl) ?_
        refine lv_icmp_le (tgt := 76) hx hb dX3_readItem_40 (by decide) (fun hc2 => ?_) (fun hc2 => ?_)
        · have h := it hc2 h
          exact J76 () f y3 y5 _ _ _ hw (lv_sub hl [0, 2, 3, 5] rfl) h
        · have h := ie hc2 h
          refine lv_aload_n hx hb dX3_readItem_43 rfl (lv_at hl 0 rfl) ?_
          refine lv_aload_n hx hb dX3_readItem_44 rfl (lv_at hl 1 rfl) ?_
          refine lv_iload hx hb dX3_readItem_45 (lv_at hl 5 rfl) ?_
          refine lv_iload hx hb dX3_readItem_47 (lv_at hl 6 rfl) ?_
          refine lv_iload hx hb dX3_readItem_49 (lv_at hl 6 rfl) ?_
          refine lv_iconst (v := 1) hx hb dX3_readItem_51 (by decide) ?_
          refine lv_iadd hx hb dX3_readItem_52 ?_
          refine lv_iload hx hb dX3_readItem_53 (lv_at hl 4 rfl) ?_
          refine lv_icmp_ge (tgt := 63) hx hb dX3_readItem_55 (by decide) (fun hc3 => ?_) (fun hc3 => ?_)
          · have h := it hc3 h
            refine lv_bipush (v := 59) hx hb dX3_readItem_63 (by decide) ?_
            exact J65 (fX3_readItem_30 k o1 x2 n) ih f y3 y4 y6 y5 y6 59 _ _ _ hw (lv_sub hl [0, 1, 2, 3, 4, 6] rfl) h
          · have h := ie hc3 h
            refine lv_bipush (v := 44) hx hb dX3_readItem_58 (by decide) ?_
            refine lv_goto (tgt := 65) hx hb dX3_readItem_60 (by decide) ?_
            exact J65 (fX3_readItem_30 k o1 x2 n) ih f y3 y4 y6 y5 y6 44 _ _ _ hw (lv_sub hl [0, 1, 2, 3, 4, 6] rfl) h
  unfold fX3_readItem at h
  refine lv_aload_n hx hb dX3_readItem_0 rfl (lv_at hl 1 rfl) ?_
  refine lv_iload_n hx hb dX3_readItem_1 rfl (lv_at hl 2 rfl) ?_
  obtain ⟨r1, er1, h⟩ := b1_s h
  refine h_callR (va_runV (As := [.int x2]) (rest := []) ⟨hx, hb, hml, hown, hts⟩ (mX4_at l D ac ad S o1 f x2 r1 hA1 er1) (cwV 1 hts gX3_readItem_X4_at rfl rfl rfl (by decide +kernel) ⟨Nat.le_of_ble_eq_true rfl, Nat.le_of_ble_eq_true rfl⟩) (h_preV hK hw hA1.1 rfl _) rfl rfl hl.1 rfl (lv_room (Nat.le_of_ble_eq_true rfl)) dX3_readItem_2 ⟨Nat.le_of_ble_eq_true rfl, Nat.le_of_ble_eq_true rfl⟩) ?_
  refine lv_istore_n (lv' := [(3, .int r1), (0, .ref (ad k)), (1, .ref (ad o1)), (2, .int x2)]) hx hb dX3_readItem_5 rfl hl (by decide) rfl (fun ls hl => ?_)
  refine lv_iload_n hx hb dX3_readItem_6 rfl (lv_at hl 0 rfl) ?_
  obtain ⟨r2, er2, h⟩ := b1_s h
  refine h_callR (va_runS (As := [.int r1]) (rest := []) ⟨hx, hb, hml, hown, hts⟩ (mX3_numbersOf l D ac ad S f r1 r2  er2) (va_cwS 1 hts gX3_readItem_X3_numbersOf rfl rfl rfl (by decide +kernel) ⟨Nat.le_of_ble_eq_true rfl, Nat.le_of_ble_eq_true rfl⟩) (h_preS hK hw _) rfl rfl hl.1 rfl (lv_room (Nat.le_of_ble_eq_true rfl)) dX3_readItem_7 ⟨Nat.le_of_ble_eq_true rfl, Nat.le_of_ble_eq_true rfl⟩) ?_
  refine lv_istore (lv' := [(4, .int r2), (3, .int r1), (0, .ref (ad k)), (1, .ref (ad o1)), (2, .int x2)]) hx hb dX3_readItem_10 hl (by decide) rfl (fun ls hl => ?_)
  refine lv_iload hx hb dX3_readItem_12 (lv_at hl 0 rfl) ?_
  refine lv_if_ne (tgt := 22) hx hb dX3_readItem_14 (by decide) (fun hc3 => ?_) (fun hc3 => ?_)
  · have h := ie hc3 h
    refine lv_iload_n hx hb dX3_readItem_22 rfl (lv_at hl 4 rfl) ?_
    refine lv_iconst (v := 1) hx hb dX3_readItem_23 (by decide) ?_
    refine lv_iadd hx hb dX3_readItem_24 ?_
    refine lv_istore (lv' := [(5, .int (x2 + 1)), (4, .int r2), (3, .int r1), (0, .ref (ad k)), (1, .ref (ad o1)), (2, .int x2)]) hx hb dX3_readItem_25 hl (by decide) rfl (fun ls hl => ?_)
    refine lv_iconst (v := 0) hx hb dX3_readItem_27 (by decide) ?_
    refine lv_istore (lv' := [(6, .int 0), (5, .int (x2 + 1)), (4, .int r2), (3, .int r1), (0, .ref (ad k)), (1, .ref (ad o1)), (2, .int x2)]) hx hb dX3_readItem_28 hl (by decide) rfl (fun ls hl => ?_)
    exact J30 _ f r1 r2 (x2 + 1) 0 _ _ _ hw (lv_sub hl [4, 5, 6, 3, 2, 1, 0] rfl) h
  · have h := it hc3 h
    refine lv_bipush (v := (-4)) hx hb dX3_readItem_17 (by decide) ?_
    refine lv_goto (tgt := 25) hx hb dX3_readItem_19 (by decide) ?_
    refine lv_istore (lv' := [(5, .int (-4)), (4, .int r2), (3, .int r1), (0, .ref (ad k)), (1, .ref (ad o1)), (2, .int x2)]) hx hb dX3_readItem_25 hl (by decide) rfl (fun ls hl => ?_)
    refine lv_iconst (v := 0) hx hb dX3_readItem_27 (by decide) ?_
    refine lv_istore (lv' := [(6, .int 0), (5, .int (-4)), (4, .int r2), (3, .int r1), (0, .ref (ad k)), (1, .ref (ad o1)), (2, .int x2)]) hx hb dX3_readItem_28 hl (by decide) rfl (fun ls hl => ?_)
    exact J30 _ f r1 r2 (-4) 0 _ _ _ hw (lv_sub hl [4, 5, 6, 3, 2, 1, 0] rfl) h

theorem hnX3_readFrom_X4 : ∀ w ∈ wsX40, w ∈ wsX3_readFrom := by decide +kernel
theorem hkX3_readFrom_44 : Cond.fieldLink RX3 44 (TX4 1).1 (TX4 1).2.1 (TX4 1).2.2.1 ∈ wsX3_readFrom := by decide +kernel
theorem hnX3_readFrom_X3 : ∀ w ∈ wsX30, w ∈ wsX3_readFrom := by decide +kernel
theorem hkX3_readFrom_34 : Cond.fieldLink RX3 34 (TX3 0).1 (TX3 0).2.1 (TX3 0).2.2.1 ∈ wsX3_readFrom := by decide +kernel
theorem hkX3_readFrom_38 : Cond.fieldLink RX3 38 (TX3 1).1 (TX3 1).2.1 (TX3 1).2.2.1 ∈ wsX3_readFrom := by decide +kernel
theorem hkX3_readFrom_41 : Cond.fieldLink RX3 41 (TX3 2).1 (TX3 2).2.1 (TX3 2).2.2.1 ∈ wsX3_readFrom := by decide +kernel
set_option maxHeartbeats 8000000 in
set_option maxRecDepth 100000 in
theorem mX3_readFrom (l : Launch) (D : va_G) (ac : Nat → ClassId) (ad : Nat → Nat) (S : List hSh) (k : Nat) (o1 : Nat) (f : hF) (rv : Int32) (gv : hF) (hS : isRo S k) (hA1 : isSc S o1) (h : fX3_readFrom k o1 f = some (rv, gv)) : Met l yX3_readFrom wsX3_readFrom ({ frames := 3, cells := 0, slots := 0, locals := 73 }) (hPc D ac ad S f [.ref (ad k), .ref (ad o1)]) (hQi D ac ad S rv gv) 0 0 (hAd ad S.length) := by
  refine h_enter (C := RX3) (cc := cX3_readFrom) (maxL := 4) (ret := (some .int)) (lv := [(0, .ref (ad k)), (1, .ref (ad o1))]) (by decide) rfl rfl (Nat.le_of_ble_eq_true rfl) rfl (fun p e s m below meth c ls hx hb hml hr hlocks hown hts hK hw hl => ?_)
  have J18 : ∀ (n : Nat), (∀ (f : hF) (y2 : Int32) (H : Heap) (locs : List Loc) (ls : Array Slot), hOk D ac ad S (hAd ad S.length) s.heap f H locs → lv_has ls 4 [(0, .ref (ad k)), (1, .ref (ad o1)), (2, .int y2)] → fX3_readFrom_18 k o1 n f y2 = some (rv, gv) → W p l e ({ frames := 3, cells := 0, slots := 0, locals := 73 } : Room) s m ([.ref (ad k), .ref (ad o1)] : List Value).toArray below meth c H locs 0 0 (MQ below (hQi D ac ad S rv gv) ([.ref (ad k), .ref (ad o1)] : List Value).toArray s 0 0 (hAd ad S.length)) (F0 m 18 ls [])) := by
    intro n
    induction n with
    | zero =>
      intro f y2 H locs ls hw hl h
      rw [fX3_readFrom_18] at h
      cases h
    | succ n ih =>
      intro f y2 H locs ls hw hl h
      rw [fX3_readFrom_18] at h
      refine lv_iload_n hx hb dX3_readFrom_18 rfl (lv_at hl 2 rfl) ?_
      refine lv_aload_n hx hb dX3_readFrom_19 rfl (lv_at hl 1 rfl) ?_
      refine h_getI hx hb hts hnX3_readFrom_X4 hown hK hw hA1.1 rfl 1 (by decide) rfl hkX3_readFrom_44 dX3_readFrom_20 ?_
      refine lv_icmp_ge (tgt := 45) hx hb dX3_readFrom_23 (by decide) (fun hc1 => ?_) (fun hc1 => ?_)
      · have h := it hc1 h
        refine lv_bipush (v := (-4)) hx hb dX3_readFrom_45 (by decide) ?_
        exact h_retQ hx hb hr hlocks hw rfl (so2 h) dX3_readFrom_47
      · have h := ie hc1 h
        refine lv_aload_n hx hb dX3_readFrom_26 rfl (lv_at hl 0 rfl) ?_
        refine lv_aload_n hx hb dX3_readFrom_27 rfl (lv_at hl 1 rfl) ?_
        refine lv_iload_n hx hb dX3_readFrom_28 rfl (lv_at hl 2 rfl) ?_
        obtain ⟨r2, f3, ef3, h⟩ := b2_s h
        refine h_callQ hw (va_runV (As := [.ref (ad o1), .int y2]) (rest := []) ⟨hx, hb, hml, hown, hts⟩ (mX3_readItem l D ac ad S k o1 f y2 r2 f3 hS hA1 ef3) (cwV 2 hts gX3_readFrom_X3_readItem rfl rfl rfl (by decide +kernel) ⟨Nat.le_of_ble_eq_true rfl, Nat.le_of_ble_eq_true rfl⟩) (h_preV hK hw hS.1 rfl _) rfl rfl hl.1 rfl (lv_room (Nat.le_of_ble_eq_true rfl)) dX3_readFrom_29 ⟨Nat.le_of_ble_eq_true rfl, Nat.le_of_ble_eq_true rfl⟩) (fun H locs hw => ?_)
        refine lv_istore_n (lv' := [(3, .int r2), (0, .ref (ad k)), (1, .ref (ad o1)), (2, .int y2)]) hx hb dX3_readFrom_32 rfl hl (by decide) rfl (fun ls hl => ?_)
        refine lv_iload_n hx hb dX3_readFrom_33 rfl (lv_at hl 0 rfl) ?_
        refine lv_iload_n hx hb dX3_readFrom_34 rfl (lv_at hl 3 rfl) ?_
        refine lv_icmp_gt (tgt := 40) hx hb dX3_readFrom_35 (by decide) (fun hc4 => ?_) (fun hc4 => ?_)
        · have h := it hc4 h
          refine lv_iload_n hx hb dX3_readFrom_40 rfl (lv_at hl 0 rfl) ?_
          refine lv_istore_n (lv' := [(2, .int r2), (3, .int r2), (0, .ref (ad k)), (1, .ref (ad o1))]) hx hb dX3_readFrom_41 rfl hl (by decide) rfl (fun ls hl => ?_)
          refine lv_goto (tgt := 18) hx hb dX3_readFrom_42 (by decide) ?_
          exact ih f3 r2 _ _ _ hw (lv_sub hl [2, 3, 0] rfl) h
        · have h := ie hc4 h
          refine lv_iload_n hx hb dX3_readFrom_38 rfl (lv_at hl 3 rfl) ?_
          exact h_retQ hx hb hr hlocks hw rfl (so2 h) dX3_readFrom_39
  unfold fX3_readFrom at h
  refine lv_aload_n hx hb dX3_readFrom_0 rfl (lv_at hl 0 rfl) ?_
  refine lv_iconst (v := 0) hx hb dX3_readFrom_1 (by decide) ?_
  obtain ⟨f1, ef1, h⟩ := lt_s2 h
  refine h_putI (g := f1) ef1 hx hb hts hnX3_readFrom_X3 tyX3 tyX3_ok nmX3 hown hK hw hS.1 rfl 0 rfl (by decide) rfl hkX3_readFrom_34 rfl (by decide +kernel) dX3_readFrom_2 (fun H locs hw => ?_)
  refine lv_aload_n hx hb dX3_readFrom_5 rfl (lv_at hl 0 rfl) ?_
  refine lv_iconst (v := 0) hx hb dX3_readFrom_6 (by decide) ?_
  obtain ⟨f2, ef2, h⟩ := lt_s2 h
  refine h_putI (g := f2) ef2 hx hb hts hnX3_readFrom_X3 tyX3 tyX3_ok nmX3 hown hK hw hS.1 rfl 1 rfl (by decide) rfl hkX3_readFrom_38 rfl (by decide +kernel) dX3_readFrom_7 (fun H locs hw => ?_)
  refine lv_aload_n hx hb dX3_readFrom_10 rfl (lv_at hl 0 rfl) ?_
  refine lv_bipush (v := 60) hx hb dX3_readFrom_11 (by decide) ?_
  obtain ⟨f3, ef3, h⟩ := lt_s2 h
  refine h_putI (g := f3) ef3 hx hb hts hnX3_readFrom_X3 tyX3 tyX3_ok nmX3 hown hK hw hS.1 rfl 2 rfl (by decide) rfl hkX3_readFrom_41 rfl (by decide +kernel) dX3_readFrom_13 (fun H locs hw => ?_)
  refine lv_iconst (v := 0) hx hb dX3_readFrom_16 (by decide) ?_
  refine lv_istore_n (lv' := [(2, .int 0), (0, .ref (ad k)), (1, .ref (ad o1))]) hx hb dX3_readFrom_17 rfl hl (by decide) rfl (fun ls hl => ?_)
  exact J18 _ f3 0 _ _ _ hw (lv_sub hl [1, 2, 0] rfl) h

theorem hnX7_fault_X7 : ∀ w ∈ wsX70, w ∈ wsX7_fault := by decide +kernel
theorem hkX7_fault_23 : Cond.fieldLink RX7 23 (TX7 2).1 (TX7 2).2.1 (TX7 2).2.2.1 ∈ wsX7_fault := by decide +kernel
theorem hkX7_fault_12 : Cond.fieldLink RX7 12 (TX7 0).1 (TX7 0).2.1 (TX7 0).2.2.1 ∈ wsX7_fault := by decide +kernel
set_option maxHeartbeats 8000000 in
set_option maxRecDepth 100000 in
theorem mX7_fault (l : Launch) (D : va_G) (ac : Nat → ClassId) (ad : Nat → Nat) (S : List hSh) (f : hF) (rv : Int32) (gv : hF) (hS : isPW S) (h : fX7_fault f = some (rv, gv)) : Met l yX7_fault wsX7_fault ({ frames := 4, cells := 0, slots := 0, locals := 96 }) (hPc D ac ad S f [.ref (ad 0)]) (hQi D ac ad S rv gv) 0 0 (hAd ad S.length) := by
  refine h_enter (C := RX7) (cc := cX7_fault) (maxL := 1) (ret := (some .int)) (lv := [(0, .ref (ad 0))]) (by decide) rfl rfl (Nat.le_of_ble_eq_true rfl) rfl (fun p e s m below meth c ls hx hb hml hr hlocks hown hts hK hw hl => ?_)
  unfold fX7_fault at h
  refine lv_aload_n hx hb dX7_fault_0 rfl (lv_at hl 0 rfl) ?_
  refine h_getR hx hb hts hnX7_fault_X7 hown hK hw hS.1 rfl 2 (by decide) rfl hkX7_fault_23 dX7_fault_1 ?_
  refine lv_aload_n hx hb dX7_fault_4 rfl (lv_at hl 0 rfl) ?_
  refine h_getR hx hb hts hnX7_fault_X7 hown hK hw hS.1 rfl 0 (by decide) rfl hkX7_fault_12 dX7_fault_5 ?_
  obtain ⟨r1, f2, ef2, h⟩ := b2_s h
  refine h_callQ hw (va_runV (As := [.ref (ad 1)]) (rest := []) ⟨hx, hb, hml, hown, hts⟩ (mX3_readFrom l D ac ad S 11 1 f r1 f2 hS.2.2.2.1 hS.2.1 ef2) (cwV 1 hts gX7_fault_X3_readFrom rfl rfl rfl (by decide +kernel) ⟨Nat.le_of_ble_eq_true rfl, Nat.le_of_ble_eq_true rfl⟩) (h_preV hK hw hS.2.2.2.1.1 rfl _) rfl rfl hl.1 rfl (lv_room (Nat.le_of_ble_eq_true rfl)) dX7_fault_8 ⟨Nat.le_of_ble_eq_true rfl, Nat.le_of_ble_eq_true rfl⟩) (fun H locs hw => ?_)
  exact h_retQ hx hb hr hlocks hw rfl (so2 h) dX7_fault_11

theorem hnX3_isPerson_X3 : ∀ w ∈ wsX30, w ∈ wsX3_isPerson := by decide +kernel
theorem hkX3_isPerson_34 : Cond.fieldLink RX3 34 (TX3 0).1 (TX3 0).2.1 (TX3 0).2.2.1 ∈ wsX3_isPerson := by decide +kernel
set_option maxHeartbeats 8000000 in
set_option maxRecDepth 100000 in
theorem mX3_isPerson (l : Launch) (D : va_G) (ac : Nat → ClassId) (ad : Nat → Nat) (S : List hSh) (k : Nat) (f : hF) (x1 : Int32) (rv : Int32) (hS : isRo S k) (h : fX3_isPerson k f x1 = some rv) : Met l yX3_isPerson wsX3_isPerson ({ frames := 0, cells := 0, slots := 0, locals := 0 }) (hPc D ac ad S f [.ref (ad k), .int x1]) (hRi rv) 0 0 hNo := by
  refine h_enter (C := RX3) (cc := cX3_isPerson) (maxL := 2) (ret := (some .boolean)) (lv := [(0, .ref (ad k)), (1, .int x1)]) (by decide) rfl rfl (Nat.le_of_ble_eq_true rfl) rfl (fun p e s m below meth c ls hx hb hml hr hlocks hown hts hK hw hl => ?_)
  unfold fX3_isPerson at h
  refine lv_iload_n hx hb dX3_isPerson_0 rfl (lv_at hl 1 rfl) ?_
  refine lv_if_lt (tgt := 16) hx hb dX3_isPerson_1 (by decide) (fun hc1 => ?_) (fun hc1 => ?_)
  · have h := it hc1 h
    refine lv_iconst (v := 0) hx hb dX3_isPerson_16 (by decide) ?_
    exact h_retR hx hb hr hlocks rfl (so1 h) dX3_isPerson_17
  · have h := ie hc1 h
    refine lv_iload_n hx hb dX3_isPerson_4 rfl (lv_at hl 1 rfl) ?_
    refine lv_aload_n hx hb dX3_isPerson_5 rfl (lv_at hl 0 rfl) ?_
    refine h_getI hx hb hts hnX3_isPerson_X3 hown hK hw hS.1 rfl 0 (by decide) rfl hkX3_isPerson_34 dX3_isPerson_6 ?_
    refine lv_icmp_ge (tgt := 16) hx hb dX3_isPerson_9 (by decide) (fun hc2 => ?_) (fun hc2 => ?_)
    · have h := it hc2 h
      refine lv_iconst (v := 0) hx hb dX3_isPerson_16 (by decide) ?_
      exact h_retR hx hb hr hlocks rfl (so1 h) dX3_isPerson_17
    · have h := ie hc2 h
      refine lv_iconst (v := 1) hx hb dX3_isPerson_12 (by decide) ?_
      refine lv_goto (tgt := 17) hx hb dX3_isPerson_13 (by decide) ?_
      exact h_retR hx hb hr hlocks rfl (so1 h) dX3_isPerson_17

theorem hnX0_open_X0 : ∀ w ∈ wsX00, w ∈ wsX0_open := by decide +kernel
theorem hkX0_open_15 : Cond.fieldLink RX0 15 (TX0 2).1 (TX0 2).2.1 (TX0 2).2.2.1 ∈ wsX0_open := by decide +kernel
theorem hkX0_open_18 : Cond.fieldLink RX0 18 (TX0 3).1 (TX0 3).2.1 (TX0 3).2.2.1 ∈ wsX0_open := by decide +kernel
theorem hkX0_open_9 : Cond.fieldLink RX0 9 (TX0 1).1 (TX0 1).2.1 (TX0 1).2.2.1 ∈ wsX0_open := by decide +kernel
theorem hnX0_open_X3 : ∀ w ∈ wsX30, w ∈ wsX0_open := by decide +kernel
theorem hkX0_open_46 : Cond.fieldLink RX0 46 (TX3 6).1 (TX3 6).2.1 (TX3 6).2.2.1 ∈ wsX0_open := by decide +kernel
theorem hkX0_open_36 : Cond.fieldLink RX0 36 (TX0 0).1 (TX0 0).2.1 (TX0 0).2.2.1 ∈ wsX0_open := by decide +kernel
set_option maxHeartbeats 8000000 in
set_option maxRecDepth 100000 in
theorem mX0_open (l : Launch) (D : va_G) (ac : Nat → ClassId) (ad : Nat → Nat) (S : List hSh) (k : Nat) (o1 : Nat) (f : hF) (gv : hF) (hS : isBk S k) (hA1 : isRo S o1) (h : fX0_open k o1 f = some gv) : Met l yX0_open wsX0_open ({ frames := 1, cells := 0, slots := 0, locals := 21 }) (hPc D ac ad S f [.ref (ad k), .ref (ad o1)]) (hQv D ac ad S gv) 0 0 (hAd ad S.length) := by
  refine h_enter (C := RX0) (cc := cX0_open) (maxL := 3) (ret := none) (lv := [(0, .ref (ad k)), (1, .ref (ad o1))]) (by decide) rfl rfl (Nat.le_of_ble_eq_true rfl) rfl (fun p e s m below meth c ls hx hb hml hr hlocks hown hts hK hw hl => ?_)
  have J36 : ∀ (q7 : hF → Int32 → Option hF) (hq7 : (∀ (f : hF) (y2 : Int32) (H : Heap) (locs : List Loc) (ls : Array Slot), hOk D ac ad S (hAd ad S.length) s.heap f H locs → lv_has ls 3 [(0, .ref (ad k)), (1, .ref (ad o1)), (2, .int y2)] → q7 f y2 = some gv → W p l e ({ frames := 1, cells := 0, slots := 0, locals := 21 } : Room) s m ([.ref (ad k), .ref (ad o1)] : List Value).toArray below meth c H locs 0 0 (MQ below (hQv D ac ad S gv) ([.ref (ad k), .ref (ad o1)] : List Value).toArray s 0 0 (hAd ad S.length)) (F0 m 7 ls []))), (∀ (f : hF) (y2 : Int32) (s1 : Int32) (s2 : Int32) (H : Heap) (locs : List Loc) (ls : Array Slot), hOk D ac ad S (hAd ad S.length) s.heap f H locs → lv_has ls 3 [(0, .ref (ad k)), (1, .ref (ad o1)), (2, .int y2)] → fX0_open_36 k o1 q7 f y2 s1 s2 = some gv → W p l e ({ frames := 1, cells := 0, slots := 0, locals := 21 } : Room) s m ([.ref (ad k), .ref (ad o1)] : List Value).toArray below meth c H locs 0 0 (MQ below (hQv D ac ad S gv) ([.ref (ad k), .ref (ad o1)] : List Value).toArray s 0 0 (hAd ad S.length)) (F0 m 36 ls [.int s2, .int s1, .ref (ad (k+1))])) := by
    intro q7 hq7 f y2 s1 s2 H locs ls hw hl h
    unfold fX0_open_36 at h
    obtain ⟨hi1, h⟩ := gd_s h
    obtain ⟨f2, ef2, h⟩ := lt_s2 h
    refine h_iast (g := f2) ef2 hx hb hK hw hS.2.1 hi1 dX0_open_36 (fun H locs hw => ?_)
    refine lv_iinc (v := (y2 + 1)) (lv' := [(2, .int (y2 + 1)), (0, .ref (ad k)), (1, .ref (ad o1))]) hx hb dX0_open_37 hl (k := 2) rfl rfl (by decide) rfl (fun ls hl => ?_)
    refine lv_goto (tgt := 7) hx hb dX0_open_40 (by decide) ?_
    exact hq7 f2 (y2 + 1) _ _ _ hw (lv_sub hl [1, 2, 0] rfl) h
  have J45 : ∀ (n : Nat), (∀ (f : hF) (y2 : Int32) (H : Heap) (locs : List Loc) (ls : Array Slot), hOk D ac ad S (hAd ad S.length) s.heap f H locs → lv_has ls 3 [(0, .ref (ad k)), (2, .int y2)] → fX0_open_45 k o1 n f y2 = some gv → W p l e ({ frames := 1, cells := 0, slots := 0, locals := 21 } : Room) s m ([.ref (ad k), .ref (ad o1)] : List Value).toArray below meth c H locs 0 0 (MQ below (hQv D ac ad S gv) ([.ref (ad k), .ref (ad o1)] : List Value).toArray s 0 0 (hAd ad S.length)) (F0 m 45 ls [])) := by
    intro n
    induction n with
    | zero =>
      intro f y2 H locs ls hw hl h
      rw [fX0_open_45] at h
      cases h
    | succ n ih =>
      intro f y2 H locs ls hw hl h
      rw [fX0_open_45] at h
      refine lv_iload_n hx hb dX0_open_45 rfl (lv_at hl 1 rfl) ?_
      refine lv_iconst (v := 3) hx hb dX0_open_46 (by decide) ?_
      refine lv_icmp_ge (tgt := 70) hx hb dX0_open_47 (by decide) (fun hc1 => ?_) (fun hc1 => ?_)
      · have h := it hc1 h
        exact h_retV hx hb hr hlocks hw (so1 h) dX0_open_70
      · have h := ie hc1 h
        refine lv_aload_n hx hb dX0_open_50 rfl (lv_at hl 0 rfl) ?_
        refine h_getR hx hb hts hnX0_open_X0 hown hK hw hS.1 rfl 2 (by decide) rfl hkX0_open_15 dX0_open_51 ?_
        refine lv_iload_n hx hb dX0_open_54 rfl (lv_at hl 1 rfl) ?_
        refine lv_iconst (v := 0) hx hb dX0_open_55 (by decide) ?_
        obtain ⟨hi2, h⟩ := gd_s h
        obtain ⟨f3, ef3, h⟩ := lt_s2 h
        refine h_iast (g := f3) ef3 hx hb hK hw hS.2.2.1 hi2 dX0_open_56 (fun H locs hw => ?_)
        refine lv_aload_n hx hb dX0_open_57 rfl (lv_at hl 0 rfl) ?_
        refine h_getR hx hb hts hnX0_open_X0 hown hK hw hS.1 rfl 3 (by decide) rfl hkX0_open_18 dX0_open_58 ?_
        refine lv_iload_n hx hb dX0_open_61 rfl (lv_at hl 1 rfl) ?_
        refine lv_iconst (v := 0) hx hb dX0_open_62 (by decide) ?_
        obtain ⟨hi4, h⟩ := gd_s h
        obtain ⟨f5, ef5, h⟩ := lt_s2 h
        refine h_iast (g := f5) ef5 hx hb hK hw hS.2.2.2.1 hi4 dX0_open_63 (fun H locs hw => ?_)
        refine lv_iinc (v := (y2 + 1)) (lv' := [(2, .int (y2 + 1)), (0, .ref (ad k))]) hx hb dX0_open_64 hl (k := 1) rfl rfl (by decide) rfl (fun ls hl => ?_)
        refine lv_goto (tgt := 45) hx hb dX0_open_67 (by decide) ?_
        exact ih f5 (y2 + 1) _ _ _ hw (lv_sub hl [1, 0] rfl) h
  have J7 : ∀ (n : Nat), (∀ (f : hF) (y2 : Int32) (H : Heap) (locs : List Loc) (ls : Array Slot), hOk D ac ad S (hAd ad S.length) s.heap f H locs → lv_has ls 3 [(0, .ref (ad k)), (1, .ref (ad o1)), (2, .int y2)] → fX0_open_7 k o1 n f y2 = some gv → W p l e ({ frames := 1, cells := 0, slots := 0, locals := 21 } : Room) s m ([.ref (ad k), .ref (ad o1)] : List Value).toArray below meth c H locs 0 0 (MQ below (hQv D ac ad S gv) ([.ref (ad k), .ref (ad o1)] : List Value).toArray s 0 0 (hAd ad S.length)) (F0 m 7 ls [])) := by
    intro n
    induction n with
    | zero =>
      intro f y2 H locs ls hw hl h
      rw [fX0_open_7] at h
      cases h
    | succ n ih =>
      intro f y2 H locs ls hw hl h
      rw [fX0_open_7] at h
      refine lv_iload_n hx hb dX0_open_7 rfl (lv_at hl 2 rfl) ?_
      refine lv_bipush (v := 8) hx hb dX0_open_8 (by decide) ?_
      refine lv_icmp_ge (tgt := 43) hx hb dX0_open_10 (by decide) (fun hc1 => ?_) (fun hc1 => ?_)
      · have h := it hc1 h
        refine lv_iconst (v := 0) hx hb dX0_open_43 (by decide) ?_
        refine lv_istore_n (lv' := [(2, .int 0), (0, .ref (ad k)), (1, .ref (ad o1))]) hx hb dX0_open_44 rfl hl (by decide) rfl (fun ls hl => ?_)
        exact J45 _ f 0 _ _ _ hw (lv_sub hl [1, 0] rfl) h
      · have h := ie hc1 h
        refine lv_aload_n hx hb dX0_open_13 rfl (lv_at hl 0 rfl) ?_
        refine h_getR hx hb hts hnX0_open_X0 hown hK hw hS.1 rfl 1 (by decide) rfl hkX0_open_9 dX0_open_14 ?_
        refine lv_iload_n hx hb dX0_open_17 rfl (lv_at hl 2 rfl) ?_
        refine lv_aload_n hx hb dX0_open_18 rfl (lv_at hl 1 rfl) ?_
        refine lv_iload_n hx hb dX0_open_19 rfl (lv_at hl 2 rfl) ?_
        obtain ⟨r2, er2, h⟩ := b1_s h
        refine h_callR (va_runV (As := [.int y2]) (rest := [.int y2, .ref (ad (k+1))]) ⟨hx, hb, hml, hown, hts⟩ (mX3_isPerson l D ac ad S o1 f y2 r2 hA1 er2) (cwV 1 hts gX0_open_X3_isPerson rfl rfl rfl (by decide +kernel) ⟨Nat.le_of_ble_eq_true rfl, Nat.le_of_ble_eq_true rfl⟩) (h_preV hK hw hA1.1 rfl _) rfl rfl hl.1 rfl (lv_room (Nat.le_of_ble_eq_true rfl)) dX0_open_20 ⟨Nat.le_of_ble_eq_true rfl, Nat.le_of_ble_eq_true rfl⟩) ?_
        refine lv_if_eq (tgt := 35) hx hb dX0_open_23 (by decide) (fun hc3 => ?_) (fun hc3 => ?_)
        · have h := it hc3 h
          refine lv_iconst (v := 0) hx hb dX0_open_35 (by decide) ?_
          exact J36 (fX0_open_7 k o1 n) ih f y2 y2 0 _ _ _ hw (lv_sub hl [0, 1, 2] rfl) h
        · have h := ie hc3 h
          refine lv_aload_n hx hb dX0_open_26 rfl (lv_at hl 1 rfl) ?_
          refine h_getR hx hb hts hnX0_open_X3 hown hK hw hA1.1 rfl 6 (by decide) rfl hkX0_open_46 dX0_open_27 ?_
          refine lv_iload_n hx hb dX0_open_30 rfl (lv_at hl 2 rfl) ?_
          obtain ⟨hi4, h⟩ := gd_s h
          refine h_iald hx hb hK hw hA1.2.2.2.2.1 hi4 dX0_open_31 ?_
          refine lv_goto (tgt := 36) hx hb dX0_open_32 (by decide) ?_
          exact J36 (fX0_open_7 k o1 n) ih f y2 y2 (f (o1+4) y2.toNatClampNeg) _ _ _ hw (lv_sub hl [0, 1, 2] rfl) h
  unfold fX0_open at h
  refine lv_aload_n hx hb dX0_open_0 rfl (lv_at hl 0 rfl) ?_
  refine lv_iconst (v := 0) hx hb dX0_open_1 (by decide) ?_
  obtain ⟨f1, ef1, h⟩ := lt_s2 h
  refine h_putI (g := f1) ef1 hx hb hts hnX0_open_X0 tyX0 tyX0_ok nmX0 hown hK hw hS.1 rfl 0 rfl (by decide) rfl hkX0_open_36 rfl (by decide +kernel) dX0_open_2 (fun H locs hw => ?_)
  refine lv_iconst (v := 0) hx hb dX0_open_5 (by decide) ?_
  refine lv_istore_n (lv' := [(2, .int 0), (0, .ref (ad k)), (1, .ref (ad o1))]) hx hb dX0_open_6 rfl hl (by decide) rfl (fun ls hl => ?_)
  exact J7 _ f1 0 _ _ _ hw (lv_sub hl [1, 2, 0] rfl) h

theorem hnX2_open_X2 : ∀ w ∈ wsX20, w ∈ wsX2_open := by decide +kernel
theorem hkX2_open_12 : Cond.fieldLink RX2 12 (TX2 1).1 (TX2 1).2.1 (TX2 1).2.2.1 ∈ wsX2_open := by decide +kernel
theorem hkX2_open_31 : Cond.fieldLink RX2 31 (TX2 0).1 (TX2 0).2.1 (TX2 0).2.2.1 ∈ wsX2_open := by decide +kernel
set_option maxHeartbeats 8000000 in
set_option maxRecDepth 100000 in
theorem mX2_open (l : Launch) (D : va_G) (ac : Nat → ClassId) (ad : Nat → Nat) (S : List hSh) (k : Nat) (ro : Nat) (f : hF) (gv : hF) (hS : isHo S k ro) (h : fX2_open k ro f = some gv) : Met l yX2_open wsX2_open ({ frames := 2, cells := 0, slots := 0, locals := 43 }) (hPc D ac ad S f [.ref (ad k)]) (hQv D ac ad S gv) 0 0 (hAd ad S.length) := by
  refine h_enter (C := RX2) (cc := cX2_open) (maxL := 1) (ret := none) (lv := [(0, .ref (ad k))]) (by decide) rfl rfl (Nat.le_of_ble_eq_true rfl) rfl (fun p e s m below meth c ls hx hb hml hr hlocks hown hts hK hw hl => ?_)
  unfold fX2_open at h
  refine lv_aload_n hx hb dX2_open_0 rfl (lv_at hl 0 rfl) ?_
  refine h_getR hx hb hts hnX2_open_X2 hown hK hw hS.1 rfl 1 (by decide) rfl hkX2_open_12 dX2_open_1 ?_
  refine lv_aload_n hx hb dX2_open_4 rfl (lv_at hl 0 rfl) ?_
  refine h_getR hx hb hts hnX2_open_X2 hown hK hw hS.1 rfl 0 (by decide) rfl hkX2_open_31 dX2_open_5 ?_
  obtain ⟨f1, ef1, h⟩ := b1_s h
  refine h_callV hw (va_runV (As := [.ref (ad ro)]) (rest := []) ⟨hx, hb, hml, hown, hts⟩ (mX0_open l D ac ad S (k+1) ro f f1 hS.2.2.2.1 hS.2.2.1 ef1) (cwV 1 hts gX2_open_X0_open rfl rfl rfl (by decide +kernel) ⟨Nat.le_of_ble_eq_true rfl, Nat.le_of_ble_eq_true rfl⟩) (h_preV hK hw hS.2.2.2.1.1 rfl _) rfl rfl hl.1 rfl (lv_room (Nat.le_of_ble_eq_true rfl)) dX2_open_8 ⟨Nat.le_of_ble_eq_true rfl, Nat.le_of_ble_eq_true rfl⟩) (fun H locs hw => ?_)
  exact h_retV hx hb hr hlocks hw (so1 h) dX2_open_11
