/-! contracts: X7_lay X0_slotOf X1_takeEarliest X0_isLine X0_isOfTwo X1_isRow X1_holdIfFree X1_settle X2_settle X1_mateOf X2_mateBy X2_mateToday X2_owedBy X0_linesWith -/
theorem hnX7_lay_X7 : ∀ w ∈ wsX70, w ∈ wsX7_lay := by decide +kernel
theorem hkX7_lay_23 : Cond.fieldLink RX7 23 (TX7 2).1 (TX7 2).2.1 (TX7 2).2.2.1 ∈ wsX7_lay := by decide +kernel
theorem hkX7_lay_12 : Cond.fieldLink RX7 12 (TX7 0).1 (TX7 0).2.1 (TX7 0).2.2.1 ∈ wsX7_lay := by decide +kernel
theorem hnX7_lay_X3 : ∀ w ∈ wsX30, w ∈ wsX7_lay := by decide +kernel
theorem hkX7_lay_83 : Cond.fieldLink RX7 83 (TX3 0).1 (TX3 0).2.1 (TX3 0).2.2.1 ∈ wsX7_lay := by decide +kernel
theorem hkX7_lay_86 : Cond.fieldLink RX7 86 (TX3 1).1 (TX3 1).2.1 (TX3 1).2.2.1 ∈ wsX7_lay := by decide +kernel
theorem hkX7_lay_19 : Cond.fieldLink RX7 19 (TX7 1).1 (TX7 1).2.1 (TX7 1).2.2.1 ∈ wsX7_lay := by decide +kernel
theorem hkX7_lay_31 : Cond.fieldLink RX7 31 (TX7 3).1 (TX7 3).2.1 (TX7 3).2.2.1 ∈ wsX7_lay := by decide +kernel
theorem hkX7_lay_41 : Cond.fieldLink RX7 41 (TX7 5).1 (TX7 5).2.1 (TX7 5).2.2.1 ∈ wsX7_lay := by decide +kernel
theorem hnX7_lay_X6 : ∀ w ∈ wsX60, w ∈ wsX7_lay := by decide +kernel
theorem hkX7_lay_89 : Cond.fieldLink RX7 89 (TX6 0).1 (TX6 0).2.1 (TX6 0).2.2.1 ∈ wsX7_lay := by decide +kernel
theorem hkX7_lay_50 : Cond.fieldLink RX7 50 (TX7 6).1 (TX7 6).2.1 (TX7 6).2.2.1 ∈ wsX7_lay := by decide +kernel
theorem hnX7_lay_X5 : ∀ w ∈ wsX50, w ∈ wsX7_lay := by decide +kernel
theorem hkX7_lay_92 : Cond.fieldLink RX7 92 (TX5 1).1 (TX5 1).2.1 (TX5 1).2.2.1 ∈ wsX7_lay := by decide +kernel
theorem hkX7_lay_54 : Cond.fieldLink RX7 54 (TX7 7).1 (TX7 7).2.1 (TX7 7).2.2.1 ∈ wsX7_lay := by decide +kernel
set_option maxHeartbeats 8000000 in
set_option maxRecDepth 100000 in
theorem mX7_lay (l : Launch) (D : va_G) (ac : Nat → ClassId) (ad : Nat → Nat) (S : List hSh) (f : hF) (rv : Int32) (gv : hF) (hS : isPW S) (h : fX7_lay f = some (rv, gv)) : Met l yX7_lay wsX7_lay ({ frames := 4, cells := 0, slots := 0, locals := 96 }) (hPc D ac ad S f [.ref (ad 0)]) (hQi D ac ad S rv gv) 0 0 (hAd ad S.length) := by
  refine h_enter (C := RX7) (cc := cX7_lay) (maxL := 1) (ret := (some .int)) (lv := [(0, .ref (ad 0))]) (by decide) rfl rfl (Nat.le_of_ble_eq_true rfl) rfl (fun p e s m below meth c ls hx hb hml hr hlocks hown hts hK hw hl => ?_)
  unfold fX7_lay at h
  refine lv_aload_n hx hb dX7_lay_0 rfl (lv_at hl 0 rfl) ?_
  refine h_getR hx hb hts hnX7_lay_X7 hown hK hw hS.1 rfl 2 (by decide) rfl hkX7_lay_23 dX7_lay_1 ?_
  refine lv_aload_n hx hb dX7_lay_4 rfl (lv_at hl 0 rfl) ?_
  refine h_getR hx hb hts hnX7_lay_X7 hown hK hw hS.1 rfl 0 (by decide) rfl hkX7_lay_12 dX7_lay_5 ?_
  obtain ⟨r1, f2, ef2, h⟩ := b2_s h
  refine h_callQ hw (va_runV (As := [.ref (ad 1)]) (rest := []) ⟨hx, hb, hml, hown, hts⟩ (mX3_readFrom l D ac ad S 11 1 f r1 f2 hS.2.2.2.1 hS.2.1 ef2) (cwV 1 hts gX7_lay_X3_readFrom rfl rfl rfl (by decide +kernel) ⟨Nat.le_of_ble_eq_true rfl, Nat.le_of_ble_eq_true rfl⟩) (h_preV hK hw hS.2.2.2.1.1 rfl _) rfl rfl hl.1 rfl (lv_room (Nat.le_of_ble_eq_true rfl)) dX7_lay_8 ⟨Nat.le_of_ble_eq_true rfl, Nat.le_of_ble_eq_true rfl⟩) (fun H locs hw => ?_)
  refine lv_bipush (v := (-4)) hx hb dX7_lay_11 (by decide) ?_
  refine lv_icmp_ne (tgt := 38) hx hb dX7_lay_13 (by decide) (fun hc3 => ?_) (fun hc3 => ?_)
  · have h := ie hc3 h
    refine lv_bipush (v := (-2)) hx hb dX7_lay_38 (by decide) ?_
    exact h_retQ hx hb hr hlocks hw rfl (so2 h) dX7_lay_40
  · have h := it hc3 h
    refine lv_aload_n hx hb dX7_lay_16 rfl (lv_at hl 0 rfl) ?_
    refine h_getR hx hb hts hnX7_lay_X7 hown hK hw hS.1 rfl 2 (by decide) rfl hkX7_lay_23 dX7_lay_17 ?_
    refine h_getI hx hb hts hnX7_lay_X3 hown hK hw hS.2.2.2.1.1 rfl 0 (by decide) rfl hkX7_lay_83 dX7_lay_20 ?_
    refine lv_iconst (v := 1) hx hb dX7_lay_23 (by decide) ?_
    refine lv_icmp_lt (tgt := 38) hx hb dX7_lay_24 (by decide) (fun hc4 => ?_) (fun hc4 => ?_)
    · have h := it hc4 h
      refine lv_bipush (v := (-2)) hx hb dX7_lay_38 (by decide) ?_
      exact h_retQ hx hb hr hlocks hw rfl (so2 h) dX7_lay_40
    · have h := ie hc4 h
      refine lv_aload_n hx hb dX7_lay_27 rfl (lv_at hl 0 rfl) ?_
      refine h_getR hx hb hts hnX7_lay_X7 hown hK hw hS.1 rfl 2 (by decide) rfl hkX7_lay_23 dX7_lay_28 ?_
      refine h_getI hx hb hts hnX7_lay_X3 hown hK hw hS.2.2.2.1.1 rfl 1 (by decide) rfl hkX7_lay_86 dX7_lay_31 ?_
      refine lv_iconst (v := 1) hx hb dX7_lay_34 (by decide) ?_
      refine lv_icmp_ge (tgt := 41) hx hb dX7_lay_35 (by decide) (fun hc5 => ?_) (fun hc5 => ?_)
      · have h := it hc5 h
        refine lv_aload_n hx hb dX7_lay_41 rfl (lv_at hl 0 rfl) ?_
        refine h_getR hx hb hts hnX7_lay_X7 hown hK hw hS.1 rfl 1 (by decide) rfl hkX7_lay_19 dX7_lay_42 ?_
        refine lv_aload_n hx hb dX7_lay_45 rfl (lv_at hl 0 rfl) ?_
        refine h_getR hx hb hts hnX7_lay_X7 hown hK hw hS.1 rfl 0 (by decide) rfl hkX7_lay_12 dX7_lay_46 ?_
        obtain ⟨r6, f7, ef7, h⟩ := b2_s h
        refine h_callQ hw (va_runV (As := [.ref (ad 1)]) (rest := []) ⟨hx, hb, hml, hown, hts⟩ (mX3_readFrom l D ac ad S 3 1 f2 r6 f7 hS.2.2.1 hS.2.1 ef7) (cwV 1 hts gX7_lay_X3_readFrom rfl rfl rfl (by decide +kernel) ⟨Nat.le_of_ble_eq_true rfl, Nat.le_of_ble_eq_true rfl⟩) (h_preV hK hw hS.2.2.1.1 rfl _) rfl rfl hl.1 rfl (lv_room (Nat.le_of_ble_eq_true rfl)) dX7_lay_49 ⟨Nat.le_of_ble_eq_true rfl, Nat.le_of_ble_eq_true rfl⟩) (fun H locs hw => ?_)
        refine lv_pop hx hb dX7_lay_52 rfl ?_
        refine lv_aload_n hx hb dX7_lay_53 rfl (lv_at hl 0 rfl) ?_
        refine h_getR hx hb hts hnX7_lay_X7 hown hK hw hS.1 rfl 3 (by decide) rfl hkX7_lay_31 dX7_lay_54 ?_
        obtain ⟨f8, ef8, h⟩ := b1_s h
        refine h_callV hw (va_runV (As := []) (rest := []) ⟨hx, hb, hml, hown, hts⟩ (mX2_open l D ac ad S 19 3 f7 f8 hS.2.2.2.2.1 ef8) (cwV 0 hts gX7_lay_X2_open rfl rfl rfl (by decide +kernel) ⟨Nat.le_of_ble_eq_true rfl, Nat.le_of_ble_eq_true rfl⟩) (h_preV hK hw hS.2.2.2.2.1.1 rfl _) rfl rfl hl.1 rfl (lv_room (Nat.le_of_ble_eq_true rfl)) dX7_lay_57 ⟨Nat.le_of_ble_eq_true rfl, Nat.le_of_ble_eq_true rfl⟩) (fun H locs hw => ?_)
        refine lv_aload_n hx hb dX7_lay_60 rfl (lv_at hl 0 rfl) ?_
        refine h_getR hx hb hts hnX7_lay_X7 hown hK hw hS.1 rfl 5 (by decide) rfl hkX7_lay_41 dX7_lay_61 ?_
        refine lv_iconst (v := 0) hx hb dX7_lay_64 (by decide) ?_
        obtain ⟨f9, ef9, h⟩ := lt_s2 h
        refine h_putI (g := f9) ef9 hx hb hts hnX7_lay_X6 tyX6 tyX6_ok nmX6 hown hK hw hS.2.2.2.2.2.2.1.1 rfl 0 rfl (by decide) rfl hkX7_lay_89 rfl (by decide +kernel) dX7_lay_65 (fun H locs hw => ?_)
        refine lv_aload_n hx hb dX7_lay_68 rfl (lv_at hl 0 rfl) ?_
        refine h_getR hx hb hts hnX7_lay_X7 hown hK hw hS.1 rfl 6 (by decide) rfl hkX7_lay_50 dX7_lay_69 ?_
        refine lv_iconst (v := 0) hx hb dX7_lay_72 (by decide) ?_
        obtain ⟨f10, ef10, h⟩ := lt_s2 h
        refine h_putI (g := f10) ef10 hx hb hts hnX7_lay_X5 tyX5 tyX5_ok nmX5 hown hK hw hS.2.2.2.2.2.2.2.1.1 rfl 1 rfl (by decide) rfl hkX7_lay_92 rfl (by decide +kernel) dX7_lay_73 (fun H locs hw => ?_)
        refine lv_aload_n hx hb dX7_lay_76 rfl (lv_at hl 0 rfl) ?_
        refine h_getR hx hb hts hnX7_lay_X7 hown hK hw hS.1 rfl 7 (by decide) rfl hkX7_lay_54 dX7_lay_77 ?_
        refine lv_iconst (v := 0) hx hb dX7_lay_80 (by decide) ?_
        obtain ⟨f11, ef11, h⟩ := lt_s2 h
        refine h_putI (g := f11) ef11 hx hb hts hnX7_lay_X5 tyX5 tyX5_ok nmX5 hown hK hw hS.2.2.2.2.2.2.2.2.1 rfl 1 rfl (by decide) rfl hkX7_lay_92 rfl (by decide +kernel) dX7_lay_81 (fun H locs hw => ?_)
        refine lv_aload_n hx hb dX7_lay_84 rfl (lv_at hl 0 rfl) ?_
        refine h_getR hx hb hts hnX7_lay_X7 hown hK hw hS.1 rfl 1 (by decide) rfl hkX7_lay_19 dX7_lay_85 ?_
        refine h_getI hx hb hts hnX7_lay_X3 hown hK hw hS.2.2.1.1 rfl 0 (by decide) rfl hkX7_lay_83 dX7_lay_88 ?_
        exact h_retQ hx hb hr hlocks hw rfl (so2 h) dX7_lay_91
      · have h := ie hc5 h
        refine lv_bipush (v := (-2)) hx hb dX7_lay_38 (by decide) ?_
        exact h_retQ hx hb hr hlocks hw rfl (so2 h) dX7_lay_40

theorem hnX0_slotOf_X0 : ∀ w ∈ wsX00, w ∈ wsX0_slotOf := by decide +kernel
theorem hkX0_slotOf_18 : Cond.fieldLink RX0 18 (TX0 3).1 (TX0 3).2.1 (TX0 3).2.2.1 ∈ wsX0_slotOf := by decide +kernel
set_option maxHeartbeats 8000000 in
set_option maxRecDepth 100000 in
theorem mX0_slotOf (l : Launch) (D : va_G) (ac : Nat → ClassId) (ad : Nat → Nat) (S : List hSh) (k : Nat) (f : hF) (x1 : Int32) (x2 : Int32) (rv : Int32) (hS : isBk S k) (h : fX0_slotOf k f x1 x2 = some rv) : Met l yX0_slotOf wsX0_slotOf ({ frames := 0, cells := 0, slots := 0, locals := 0 }) (hPc D ac ad S f [.ref (ad k), .int x1, .int x2]) (hRi rv) 0 0 hNo := by
  refine h_enter (C := RX0) (cc := cX0_slotOf) (maxL := 3) (ret := (some .int)) (lv := [(0, .ref (ad k)), (1, .int x1), (2, .int x2)]) (by decide) rfl rfl (Nat.le_of_ble_eq_true rfl) rfl (fun p e s m below meth c ls hx hb hml hr hlocks hown hts hK hw hl => ?_)
  unfold fX0_slotOf at h
  refine lv_iload_n hx hb dX0_slotOf_0 rfl (lv_at hl 1 rfl) ?_
  refine lv_if_lt (tgt := 38) hx hb dX0_slotOf_1 (by decide) (fun hc1 => ?_) (fun hc1 => ?_)
  · have h := it hc1 h
    refine lv_iconst (v := (-1)) hx hb dX0_slotOf_38 (by decide) ?_
    exact h_retR hx hb hr hlocks rfl (so1 h) dX0_slotOf_39
  · have h := ie hc1 h
    refine lv_iload_n hx hb dX0_slotOf_4 rfl (lv_at hl 1 rfl) ?_
    refine lv_iconst (v := 3) hx hb dX0_slotOf_5 (by decide) ?_
    refine lv_icmp_ge (tgt := 38) hx hb dX0_slotOf_6 (by decide) (fun hc2 => ?_) (fun hc2 => ?_)
    · have h := it hc2 h
      refine lv_iconst (v := (-1)) hx hb dX0_slotOf_38 (by decide) ?_
      exact h_retR hx hb hr hlocks rfl (so1 h) dX0_slotOf_39
    · have h := ie hc2 h
      refine lv_iload_n hx hb dX0_slotOf_9 rfl (lv_at hl 2 rfl) ?_
      refine lv_if_lt (tgt := 38) hx hb dX0_slotOf_10 (by decide) (fun hc3 => ?_) (fun hc3 => ?_)
      · have h := it hc3 h
        refine lv_iconst (v := (-1)) hx hb dX0_slotOf_38 (by decide) ?_
        exact h_retR hx hb hr hlocks rfl (so1 h) dX0_slotOf_39
      · have h := ie hc3 h
        refine lv_iload_n hx hb dX0_slotOf_13 rfl (lv_at hl 2 rfl) ?_
        refine lv_bipush (v := 8) hx hb dX0_slotOf_14 (by decide) ?_
        refine lv_icmp_ge (tgt := 38) hx hb dX0_slotOf_16 (by decide) (fun hc4 => ?_) (fun hc4 => ?_)
        · have h := it hc4 h
          refine lv_iconst (v := (-1)) hx hb dX0_slotOf_38 (by decide) ?_
          exact h_retR hx hb hr hlocks rfl (so1 h) dX0_slotOf_39
        · have h := ie hc4 h
          refine lv_iload_n hx hb dX0_slotOf_19 rfl (lv_at hl 2 rfl) ?_
          refine lv_aload_n hx hb dX0_slotOf_20 rfl (lv_at hl 0 rfl) ?_
          refine h_getR hx hb hts hnX0_slotOf_X0 hown hK hw hS.1 rfl 3 (by decide) rfl hkX0_slotOf_18 dX0_slotOf_21 ?_
          refine lv_iload_n hx hb dX0_slotOf_24 rfl (lv_at hl 1 rfl) ?_
          obtain ⟨hi5, h⟩ := gd_s h
          refine h_iald hx hb hK hw hS.2.2.2.1 hi5 dX0_slotOf_25 ?_
          refine lv_icmp_ge (tgt := 38) hx hb dX0_slotOf_26 (by decide) (fun hc6 => ?_) (fun hc6 => ?_)
          · have h := it hc6 h
            refine lv_iconst (v := (-1)) hx hb dX0_slotOf_38 (by decide) ?_
            exact h_retR hx hb hr hlocks rfl (so1 h) dX0_slotOf_39
          · have h := ie hc6 h
            refine lv_iload_n hx hb dX0_slotOf_29 rfl (lv_at hl 1 rfl) ?_
            refine lv_bipush (v := 8) hx hb dX0_slotOf_30 (by decide) ?_
            refine lv_imul hx hb dX0_slotOf_32 ?_
            refine lv_iload_n hx hb dX0_slotOf_33 rfl (lv_at hl 2 rfl) ?_
            refine lv_iadd hx hb dX0_slotOf_34 ?_
            refine lv_goto (tgt := 39) hx hb dX0_slotOf_35 (by decide) ?_
            exact h_retR hx hb hr hlocks rfl (so1 h) dX0_slotOf_39

theorem hnX1_takeEarliest_X1 : ∀ w ∈ wsX10, w ∈ wsX1_takeEarliest := by decide +kernel
theorem hkX1_takeEarliest_15 : Cond.fieldLink RX1 15 (TX1 2).1 (TX1 2).2.1 (TX1 2).2.2.1 ∈ wsX1_takeEarliest := by decide +kernel
theorem hkX1_takeEarliest_18 : Cond.fieldLink RX1 18 (TX1 0).1 (TX1 0).2.1 (TX1 0).2.2.1 ∈ wsX1_takeEarliest := by decide +kernel
theorem hnX1_takeEarliest_X0 : ∀ w ∈ wsX00, w ∈ wsX1_takeEarliest := by decide +kernel
theorem hkX1_takeEarliest_46 : Cond.fieldLink RX1 46 (TX0 5).1 (TX0 5).2.1 (TX0 5).2.2.1 ∈ wsX1_takeEarliest := by decide +kernel
set_option maxHeartbeats 8000000 in
set_option maxRecDepth 100000 in
theorem mX1_takeEarliest (l : Launch) (D : va_G) (ac : Nat → ClassId) (ad : Nat → Nat) (S : List hSh) (k : Nat) (bk : Nat) (f : hF) (rv : Int32) (gv : hF) (hS : isHd S k bk) (h : fX1_takeEarliest k bk f = some (rv, gv)) : Met l yX1_takeEarliest wsX1_takeEarliest ({ frames := 1, cells := 0, slots := 0, locals := 22 }) (hPc D ac ad S f [.ref (ad k)]) (hQi D ac ad S rv gv) 0 0 (hAd ad S.length) := by
  refine h_enter (C := RX1) (cc := cX1_takeEarliest) (maxL := 4) (ret := (some .int)) (lv := [(0, .ref (ad k))]) (by decide) rfl rfl (Nat.le_of_ble_eq_true rfl) rfl (fun p e s m below meth c ls hx hb hml hr hlocks hown hts hK hw hl => ?_)
  have J55 : ∀ (q4 : hF → Int32 → Int32 → Option (Int32 × hF)) (hq4 : (∀ (f : hF) (y1 : Int32) (y2 : Int32) (H : Heap) (locs : List Loc) (ls : Array Slot), hOk D ac ad S (hAd ad S.length) s.heap f H locs → lv_has ls 4 [(0, .ref (ad k)), (1, .int y1), (2, .int y2)] → q4 f y1 y2 = some (rv, gv) → W p l e ({ frames := 1, cells := 0, slots := 0, locals := 22 } : Room) s m ([.ref (ad k)] : List Value).toArray below meth c H locs 0 0 (MQ below (hQi D ac ad S rv gv) ([.ref (ad k)] : List Value).toArray s 0 0 (hAd ad S.length)) (F0 m 4 ls []))), (∀ (f : hF) (y2 : Int32) (y3 : Int32) (H : Heap) (locs : List Loc) (ls : Array Slot), hOk D ac ad S (hAd ad S.length) s.heap f H locs → lv_has ls 4 [(0, .ref (ad k)), (2, .int y2), (3, .int y3)] → fX1_takeEarliest_55 k bk q4 f y2 y3 = some (rv, gv) → W p l e ({ frames := 1, cells := 0, slots := 0, locals := 22 } : Room) s m ([.ref (ad k)] : List Value).toArray below meth c H locs 0 0 (MQ below (hQi D ac ad S rv gv) ([.ref (ad k)] : List Value).toArray s 0 0 (hAd ad S.length)) (F0 m 55 ls [])) := by
    intro q4 hq4 f y2 y3 H locs ls hw hl h
    unfold fX1_takeEarliest_55 at h
    refine lv_iload_n hx hb dX1_takeEarliest_55 rfl (lv_at hl 2 rfl) ?_
    refine lv_istore_n (lv' := [(1, .int y3), (0, .ref (ad k)), (2, .int y2), (3, .int y3)]) hx hb dX1_takeEarliest_56 rfl hl (by decide) rfl (fun ls hl => ?_)
    refine lv_iinc (v := (y2 + 1)) (lv' := [(2, .int (y2 + 1)), (1, .int y3), (0, .ref (ad k)), (3, .int y3)]) hx hb dX1_takeEarliest_57 hl (k := 2) rfl rfl (by decide) rfl (fun ls hl => ?_)
    refine lv_goto (tgt := 4) hx hb dX1_takeEarliest_60 (by decide) ?_
    exact hq4 f y3 (y2 + 1) _ _ _ hw (lv_sub hl [2, 1, 0] rfl) h
  have J4 : ∀ (n : Nat), (∀ (f : hF) (y1 : Int32) (y2 : Int32) (H : Heap) (locs : List Loc) (ls : Array Slot), hOk D ac ad S (hAd ad S.length) s.heap f H locs → lv_has ls 4 [(0, .ref (ad k)), (1, .int y1), (2, .int y2)] → fX1_takeEarliest_4 k bk n f y1 y2 = some (rv, gv) → W p l e ({ frames := 1, cells := 0, slots := 0, locals := 22 } : Room) s m ([.ref (ad k)] : List Value).toArray below meth c H locs 0 0 (MQ below (hQi D ac ad S rv gv) ([.ref (ad k)] : List Value).toArray s 0 0 (hAd ad S.length)) (F0 m 4 ls [])) := by
    intro n
    induction n with
    | zero =>
      intro f y1 y2 H locs ls hw hl h
      rw [fX1_takeEarliest_4] at h
      cases h
    | succ n ih =>
      intro f y1 y2 H locs ls hw hl h
      rw [fX1_takeEarliest_4] at h
      refine lv_iload_n hx hb dX1_takeEarliest_4 rfl (lv_at hl 2 rfl) ?_
      refine lv_iconst (v := 3) hx hb dX1_takeEarliest_5 (by decide) ?_
      refine lv_icmp_ge (tgt := 63) hx hb dX1_takeEarliest_6 (by decide) (fun hc1 => ?_) (fun hc1 => ?_)
      · have h := it hc1 h
        refine lv_iload_n hx hb dX1_takeEarliest_63 rfl (lv_at hl 1 rfl) ?_
        refine lv_iconst (v := (-1)) hx hb dX1_takeEarliest_64 (by decide) ?_
        refine lv_icmp_eq (tgt := 81) hx hb dX1_takeEarliest_65 (by decide) (fun hc2 => ?_) (fun hc2 => ?_)
        · have h := it hc2 h
          refine lv_iload_n hx hb dX1_takeEarliest_81 rfl (lv_at hl 1 rfl) ?_
          exact h_retQ hx hb hr hlocks hw rfl (so2 h) dX1_takeEarliest_82
        · have h := ie hc2 h
          refine lv_aload_n hx hb dX1_takeEarliest_68 rfl (lv_at hl 0 rfl) ?_
          refine h_getR hx hb hts hnX1_takeEarliest_X1 hown hK hw hS.1 rfl 2 (by decide) rfl hkX1_takeEarliest_15 dX1_takeEarliest_69 ?_
          refine lv_iload_n hx hb dX1_takeEarliest_72 rfl (lv_at hl 1 rfl) ?_
          refine lv_bipush (v := 8) hx hb dX1_takeEarliest_73 (by decide) ?_
          refine lv_idiv hx hb dX1_takeEarliest_75 (by decide) ?_
          refine lv_dup2_11 hx hb dX1_takeEarliest_76 rfl rfl ?_
          obtain ⟨hi3, h⟩ := gd_s h
          refine h_iald hx hb hK hw hS.2.2.1 hi3 dX1_takeEarliest_77 ?_
          refine lv_iconst (v := 1) hx hb dX1_takeEarliest_78 (by decide) ?_
          refine lv_iadd hx hb dX1_takeEarliest_79 ?_
          obtain ⟨hi4, h⟩ := gd_s h
          obtain ⟨f5, ef5, h⟩ := lt_s2 h
          refine h_iast (g := f5) ef5 hx hb hK hw hS.2.2.1 hi4 dX1_takeEarliest_80 (fun H locs hw => ?_)
          refine lv_iload_n hx hb dX1_takeEarliest_81 rfl (lv_at hl 1 rfl) ?_
          exact h_retQ hx hb hr hlocks hw rfl (so2 h) dX1_takeEarliest_82
      · have h := ie hc1 h
        refine lv_aload_n hx hb dX1_takeEarliest_9 rfl (lv_at hl 0 rfl) ?_
        refine h_getR hx hb hts hnX1_takeEarliest_X1 hown hK hw hS.1 rfl 0 (by decide) rfl hkX1_takeEarliest_18 dX1_takeEarliest_10 ?_
        refine lv_iload_n hx hb dX1_takeEarliest_13 rfl (lv_at hl 2 rfl) ?_
        refine lv_aload_n hx hb dX1_takeEarliest_14 rfl (lv_at hl 0 rfl) ?_
        refine h_getR hx hb hts hnX1_takeEarliest_X1 hown hK hw hS.1 rfl 2 (by decide) rfl hkX1_takeEarliest_15 dX1_takeEarliest_15 ?_
        refine lv_iload_n hx hb dX1_takeEarliest_18 rfl (lv_at hl 2 rfl) ?_
        obtain ⟨hi6, h⟩ := gd_s h
        refine h_iald hx hb hK hw hS.2.2.1 hi6 dX1_takeEarliest_19 ?_
        obtain ⟨r7, er7, h⟩ := b1_s h
        refine h_callR (va_runV (As := [.int y2, .int (f (k+2) y2.toNatClampNeg)]) (rest := []) ⟨hx, hb, hml, hown, hts⟩ (mX0_slotOf l D ac ad S bk f y2 (f (k+2) y2.toNatClampNeg) r7 hS.2.2.2 er7) (cwV 2 hts gX1_takeEarliest_X0_slotOf rfl rfl rfl (by decide +kernel) ⟨Nat.le_of_ble_eq_true rfl, Nat.le_of_ble_eq_true rfl⟩) (h_preV hK hw hS.2.2.2.1 rfl _) rfl rfl hl.1 rfl (lv_room (Nat.le_of_ble_eq_true rfl)) dX1_takeEarliest_20 ⟨Nat.le_of_ble_eq_true rfl, Nat.le_of_ble_eq_true rfl⟩) ?_
        refine lv_istore_n (lv' := [(3, .int r7), (0, .ref (ad k)), (1, .int y1), (2, .int y2)]) hx hb dX1_takeEarliest_23 rfl hl (by decide) rfl (fun ls hl => ?_)
        refine lv_iload_n hx hb dX1_takeEarliest_24 rfl (lv_at hl 0 rfl) ?_
        refine lv_iconst (v := (-1)) hx hb dX1_takeEarliest_25 (by decide) ?_
        refine lv_icmp_eq (tgt := 57) hx hb dX1_takeEarliest_26 (by decide) (fun hc8 => ?_) (fun hc8 => ?_)
        · have h := it hc8 h
          refine lv_iinc (v := (y2 + 1)) (lv' := [(2, .int (y2 + 1)), (3, .int r7), (0, .ref (ad k)), (1, .int y1)]) hx hb dX1_takeEarliest_57 hl (k := 3) rfl rfl (by decide) rfl (fun ls hl => ?_)
          refine lv_goto (tgt := 4) hx hb dX1_takeEarliest_60 (by decide) ?_
          exact ih f y1 (y2 + 1) _ _ _ hw (lv_sub hl [2, 3, 0] rfl) h
        · have h := ie hc8 h
          refine lv_iload_n hx hb dX1_takeEarliest_29 rfl (lv_at hl 2 rfl) ?_
          refine lv_iconst (v := (-1)) hx hb dX1_takeEarliest_30 (by decide) ?_
          refine lv_icmp_eq (tgt := 55) hx hb dX1_takeEarliest_31 (by decide) (fun hc9 => ?_) (fun hc9 => ?_)
          · have h := it hc9 h
            exact J55 (fX1_takeEarliest_4 k bk n) ih f y2 r7 _ _ _ hw (lv_sub hl [1, 3, 0] rfl) h
          · have h := ie hc9 h
            refine lv_aload_n hx hb dX1_takeEarliest_34 rfl (lv_at hl 1 rfl) ?_
            refine h_getR hx hb hts hnX1_takeEarliest_X1 hown hK hw hS.1 rfl 0 (by decide) rfl hkX1_takeEarliest_18 dX1_takeEarliest_35 ?_
            refine h_getR hx hb hts hnX1_takeEarliest_X0 hown hK hw hS.2.2.2.1 rfl 5 (by decide) rfl hkX1_takeEarliest_46 dX1_takeEarliest_38 ?_
            refine lv_iload_n hx hb dX1_takeEarliest_41 rfl (lv_at hl 0 rfl) ?_
            obtain ⟨hi10, h⟩ := gd_s h
            refine h_iald hx hb hK hw hS.2.2.2.2.2.2.2.2.1 hi10 dX1_takeEarliest_42 ?_
            refine lv_aload_n hx hb dX1_takeEarliest_43 rfl (lv_at hl 1 rfl) ?_
            refine h_getR hx hb hts hnX1_takeEarliest_X1 hown hK hw hS.1 rfl 0 (by decide) rfl hkX1_takeEarliest_18 dX1_takeEarliest_44 ?_
            refine h_getR hx hb hts hnX1_takeEarliest_X0 hown hK hw hS.2.2.2.1 rfl 5 (by decide) rfl hkX1_takeEarliest_46 dX1_takeEarliest_47 ?_
            refine lv_iload_n hx hb dX1_takeEarliest_50 rfl (lv_at hl 2 rfl) ?_
            obtain ⟨hi11, h⟩ := gd_s h
            refine h_iald hx hb hK hw hS.2.2.2.2.2.2.2.2.1 hi11 dX1_takeEarliest_51 ?_
            refine lv_icmp_ge (tgt := 57) hx hb dX1_takeEarliest_52 (by decide) (fun hc12 => ?_) (fun hc12 => ?_)
            · have h := it hc12 h
              refine lv_iinc (v := (y2 + 1)) (lv' := [(2, .int (y2 + 1)), (3, .int r7), (0, .ref (ad k)), (1, .int y1)]) hx hb dX1_takeEarliest_57 hl (k := 3) rfl rfl (by decide) rfl (fun ls hl => ?_)
              refine lv_goto (tgt := 4) hx hb dX1_takeEarliest_60 (by decide) ?_
              exact ih f y1 (y2 + 1) _ _ _ hw (lv_sub hl [2, 3, 0] rfl) h
            · have h := ie hc12 h
              exact J55 (fX1_takeEarliest_4 k bk n) ih f y2 r7 _ _ _ hw (lv_sub hl [1, 3, 0] rfl) h
  unfold fX1_takeEarliest at h
  refine lv_iconst (v := (-1)) hx hb dX1_takeEarliest_0 (by decide) ?_
  refine lv_istore_n (lv' := [(1, .int (-1)), (0, .ref (ad k))]) hx hb dX1_takeEarliest_1 rfl hl (by decide) rfl (fun ls hl => ?_)
  refine lv_iconst (v := 0) hx hb dX1_takeEarliest_2 (by decide) ?_
  refine lv_istore_n (lv' := [(2, .int 0), (1, .int (-1)), (0, .ref (ad k))]) hx hb dX1_takeEarliest_3 rfl hl (by decide) rfl (fun ls hl => ?_)
  exact J4 _ f (-1) 0 _ _ _ hw (lv_sub hl [2, 1, 0] rfl) h

theorem hnX0_isLine_X0 : ∀ w ∈ wsX00, w ∈ wsX0_isLine := by decide +kernel
theorem hkX0_isLine_18 : Cond.fieldLink RX0 18 (TX0 3).1 (TX0 3).2.1 (TX0 3).2.2.1 ∈ wsX0_isLine := by decide +kernel
set_option maxHeartbeats 8000000 in
set_option maxRecDepth 100000 in
theorem mX0_isLine (l : Launch) (D : va_G) (ac : Nat → ClassId) (ad : Nat → Nat) (S : List hSh) (k : Nat) (f : hF) (x1 : Int32) (rv : Int32) (hS : isBk S k) (h : fX0_isLine k f x1 = some rv) : Met l yX0_isLine wsX0_isLine ({ frames := 0, cells := 0, slots := 0, locals := 0 }) (hPc D ac ad S f [.ref (ad k), .int x1]) (hRi rv) 0 0 hNo := by
  refine h_enter (C := RX0) (cc := cX0_isLine) (maxL := 2) (ret := (some .boolean)) (lv := [(0, .ref (ad k)), (1, .int x1)]) (by decide) rfl rfl (Nat.le_of_ble_eq_true rfl) rfl (fun p e s m below meth c ls hx hb hml hr hlocks hown hts hK hw hl => ?_)
  unfold fX0_isLine at h
  refine lv_iload_n hx hb dX0_isLine_0 rfl (lv_at hl 1 rfl) ?_
  refine lv_if_lt (tgt := 30) hx hb dX0_isLine_1 (by decide) (fun hc1 => ?_) (fun hc1 => ?_)
  · have h := it hc1 h
    refine lv_iconst (v := 0) hx hb dX0_isLine_30 (by decide) ?_
    exact h_retR hx hb hr hlocks rfl (so1 h) dX0_isLine_31
  · have h := ie hc1 h
    refine lv_iload_n hx hb dX0_isLine_4 rfl (lv_at hl 1 rfl) ?_
    refine lv_bipush (v := 24) hx hb dX0_isLine_5 (by decide) ?_
    refine lv_icmp_ge (tgt := 30) hx hb dX0_isLine_7 (by decide) (fun hc2 => ?_) (fun hc2 => ?_)
    · have h := it hc2 h
      refine lv_iconst (v := 0) hx hb dX0_isLine_30 (by decide) ?_
      exact h_retR hx hb hr hlocks rfl (so1 h) dX0_isLine_31
    · have h := ie hc2 h
      refine lv_iload_n hx hb dX0_isLine_10 rfl (lv_at hl 1 rfl) ?_
      refine lv_bipush (v := 8) hx hb dX0_isLine_11 (by decide) ?_
      refine lv_irem hx hb dX0_isLine_13 (by decide) ?_
      refine lv_aload_n hx hb dX0_isLine_14 rfl (lv_at hl 0 rfl) ?_
      refine h_getR hx hb hts hnX0_isLine_X0 hown hK hw hS.1 rfl 3 (by decide) rfl hkX0_isLine_18 dX0_isLine_15 ?_
      refine lv_iload_n hx hb dX0_isLine_18 rfl (lv_at hl 1 rfl) ?_
      refine lv_bipush (v := 8) hx hb dX0_isLine_19 (by decide) ?_
      refine lv_idiv hx hb dX0_isLine_21 (by decide) ?_
      obtain ⟨hi3, h⟩ := gd_s h
      refine h_iald hx hb hK hw hS.2.2.2.1 hi3 dX0_isLine_22 ?_
      refine lv_icmp_ge (tgt := 30) hx hb dX0_isLine_23 (by decide) (fun hc4 => ?_) (fun hc4 => ?_)
      · have h := it hc4 h
        refine lv_iconst (v := 0) hx hb dX0_isLine_30 (by decide) ?_
        exact h_retR hx hb hr hlocks rfl (so1 h) dX0_isLine_31
      · have h := ie hc4 h
        refine lv_iconst (v := 1) hx hb dX0_isLine_26 (by decide) ?_
        refine lv_goto (tgt := 31) hx hb dX0_isLine_27 (by decide) ?_
        exact h_retR hx hb hr hlocks rfl (so1 h) dX0_isLine_31

theorem hnX0_isOfTwo_X0 : ∀ w ∈ wsX00, w ∈ wsX0_isOfTwo := by decide +kernel
theorem hkX0_isOfTwo_21 : Cond.fieldLink RX0 21 (TX0 4).1 (TX0 4).2.1 (TX0 4).2.2.1 ∈ wsX0_isOfTwo := by decide +kernel
set_option maxHeartbeats 8000000 in
set_option maxRecDepth 100000 in
theorem mX0_isOfTwo (l : Launch) (D : va_G) (ac : Nat → ClassId) (ad : Nat → Nat) (S : List hSh) (k : Nat) (f : hF) (x1 : Int32) (rv : Int32) (hS : isBk S k) (h : fX0_isOfTwo k f x1 = some rv) : Met l yX0_isOfTwo wsX0_isOfTwo ({ frames := 1, cells := 0, slots := 0, locals := 21 }) (hPc D ac ad S f [.ref (ad k), .int x1]) (hRi rv) 0 0 hNo := by
  refine h_enter (C := RX0) (cc := cX0_isOfTwo) (maxL := 2) (ret := (some .boolean)) (lv := [(0, .ref (ad k)), (1, .int x1)]) (by decide) rfl rfl (Nat.le_of_ble_eq_true rfl) rfl (fun p e s m below meth c ls hx hb hml hr hlocks hown hts hK hw hl => ?_)
  unfold fX0_isOfTwo at h
  refine lv_aload_n hx hb dX0_isOfTwo_0 rfl (lv_at hl 0 rfl) ?_
  refine lv_iload_n hx hb dX0_isOfTwo_1 rfl (lv_at hl 1 rfl) ?_
  obtain ⟨r1, er1, h⟩ := b1_s h
  refine h_callR (va_runV (As := [.int x1]) (rest := []) ⟨hx, hb, hml, hown, hts⟩ (mX0_isLine l D ac ad S k f x1 r1 hS er1) (cwV 1 hts gX0_isOfTwo_X0_isLine rfl rfl rfl (by decide +kernel) ⟨Nat.le_of_ble_eq_true rfl, Nat.le_of_ble_eq_true rfl⟩) (h_preV hK hw hS.1 rfl _) rfl rfl hl.1 rfl (lv_room (Nat.le_of_ble_eq_true rfl)) dX0_isOfTwo_2 ⟨Nat.le_of_ble_eq_true rfl, Nat.le_of_ble_eq_true rfl⟩) ?_
  refine lv_if_eq (tgt := 22) hx hb dX0_isOfTwo_5 (by decide) (fun hc2 => ?_) (fun hc2 => ?_)
  · have h := it hc2 h
    refine lv_iconst (v := 0) hx hb dX0_isOfTwo_22 (by decide) ?_
    exact h_retR hx hb hr hlocks rfl (so1 h) dX0_isOfTwo_23
  · have h := ie hc2 h
    refine lv_aload_n hx hb dX0_isOfTwo_8 rfl (lv_at hl 0 rfl) ?_
    refine h_getR hx hb hts hnX0_isOfTwo_X0 hown hK hw hS.1 rfl 4 (by decide) rfl hkX0_isOfTwo_21 dX0_isOfTwo_9 ?_
    refine lv_iload_n hx hb dX0_isOfTwo_12 rfl (lv_at hl 1 rfl) ?_
    obtain ⟨hi3, h⟩ := gd_s h
    refine h_iald hx hb hK hw hS.2.2.2.2.1 hi3 dX0_isOfTwo_13 ?_
    refine lv_iconst (v := 1) hx hb dX0_isOfTwo_14 (by decide) ?_
    refine lv_icmp_ne (tgt := 22) hx hb dX0_isOfTwo_15 (by decide) (fun hc4 => ?_) (fun hc4 => ?_)
    · have h := ie hc4 h
      refine lv_iconst (v := 0) hx hb dX0_isOfTwo_22 (by decide) ?_
      exact h_retR hx hb hr hlocks rfl (so1 h) dX0_isOfTwo_23
    · have h := it hc4 h
      refine lv_iconst (v := 1) hx hb dX0_isOfTwo_18 (by decide) ?_
      refine lv_goto (tgt := 23) hx hb dX0_isOfTwo_19 (by decide) ?_
      exact h_retR hx hb hr hlocks rfl (so1 h) dX0_isOfTwo_23

set_option maxHeartbeats 8000000 in
set_option maxRecDepth 100000 in
theorem mX1_isRow (l : Launch) (D : va_G) (ac : Nat → ClassId) (ad : Nat → Nat) (S : List hSh) (f : hF) (x0 : Int32) (rv : Int32) (h : fX1_isRow x0 = some rv) : Met l yX1_isRow wsX1_isRow ({ frames := 0, cells := 0, slots := 0, locals := 0 }) (hPc D ac ad S f [.int x0]) (hRi rv) 0 0 hNo := by
  refine h_enter (C := RX1) (cc := cX1_isRow) (maxL := 1) (ret := (some .boolean)) (lv := [(0, .int x0)]) (by decide) rfl rfl (Nat.le_of_ble_eq_true rfl) rfl (fun p e s m below meth c ls hx hb hml hr hlocks hown hts hK hw hl => ?_)
  unfold fX1_isRow at h
  refine lv_iload_n hx hb dX1_isRow_0 rfl (lv_at hl 0 rfl) ?_
  refine lv_if_lt (tgt := 14) hx hb dX1_isRow_1 (by decide) (fun hc1 => ?_) (fun hc1 => ?_)
  · have h := it hc1 h
    refine lv_iconst (v := 0) hx hb dX1_isRow_14 (by decide) ?_
    exact h_retR hx hb hr hlocks rfl (so1 h) dX1_isRow_15
  · have h := ie hc1 h
    refine lv_iload_n hx hb dX1_isRow_4 rfl (lv_at hl 0 rfl) ?_
    refine lv_bipush (v := 8) hx hb dX1_isRow_5 (by decide) ?_
    refine lv_icmp_ge (tgt := 14) hx hb dX1_isRow_7 (by decide) (fun hc2 => ?_) (fun hc2 => ?_)
    · have h := it hc2 h
      refine lv_iconst (v := 0) hx hb dX1_isRow_14 (by decide) ?_
      exact h_retR hx hb hr hlocks rfl (so1 h) dX1_isRow_15
    · have h := ie hc2 h
      refine lv_iconst (v := 1) hx hb dX1_isRow_10 (by decide) ?_
      refine lv_goto (tgt := 15) hx hb dX1_isRow_11 (by decide) ?_
      exact h_retR hx hb hr hlocks rfl (so1 h) dX1_isRow_15

theorem hnX1_holdIfFree_X1 : ∀ w ∈ wsX10, w ∈ wsX1_holdIfFree := by decide +kernel
theorem hkX1_holdIfFree_9 : Cond.fieldLink RX1 9 (TX1 1).1 (TX1 1).2.1 (TX1 1).2.2.1 ∈ wsX1_holdIfFree := by decide +kernel
set_option maxHeartbeats 8000000 in
set_option maxRecDepth 100000 in
theorem mX1_holdIfFree (l : Launch) (D : va_G) (ac : Nat → ClassId) (ad : Nat → Nat) (S : List hSh) (k : Nat) (bk : Nat) (f : hF) (x1 : Int32) (x2 : Int32) (x3 : Int32) (gv : hF) (hS : isHd S k bk) (h : fX1_holdIfFree k bk f x1 x2 x3 = some gv) : Met l yX1_holdIfFree wsX1_holdIfFree ({ frames := 1, cells := 0, slots := 0, locals := 20 }) (hPc D ac ad S f [.ref (ad k), .int x1, .int x2, .int x3]) (hQv D ac ad S gv) 0 0 (hAd ad S.length) := by
  refine h_enter (C := RX1) (cc := cX1_holdIfFree) (maxL := 4) (ret := none) (lv := [(0, .ref (ad k)), (1, .int x1), (2, .int x2), (3, .int x3)]) (by decide) rfl rfl (Nat.le_of_ble_eq_true rfl) rfl (fun p e s m below meth c ls hx hb hml hr hlocks hown hts hK hw hl => ?_)
  unfold fX1_holdIfFree at h
  refine lv_iload_n hx hb dX1_holdIfFree_0 rfl (lv_at hl 2 rfl) ?_
  obtain ⟨r1, er1, h⟩ := b1_s h
  refine h_callR (va_runS (As := [.int x2]) (rest := []) ⟨hx, hb, hml, hown, hts⟩ (mX1_isRow l D ac ad S f x2 r1  er1) (va_cwS 1 hts gX1_holdIfFree_X1_isRow rfl rfl rfl (by decide +kernel) ⟨Nat.le_of_ble_eq_true rfl, Nat.le_of_ble_eq_true rfl⟩) (h_preS hK hw _) rfl rfl hl.1 rfl (lv_room (Nat.le_of_ble_eq_true rfl)) dX1_holdIfFree_1 ⟨Nat.le_of_ble_eq_true rfl, Nat.le_of_ble_eq_true rfl⟩) ?_
  refine lv_if_eq (tgt := 48) hx hb dX1_holdIfFree_4 (by decide) (fun hc2 => ?_) (fun hc2 => ?_)
  · have h := it hc2 h
    exact h_retV hx hb hr hlocks hw (so1 h) dX1_holdIfFree_48
  · have h := ie hc2 h
    refine lv_iload_n hx hb dX1_holdIfFree_7 rfl (lv_at hl 3 rfl) ?_
    obtain ⟨r3, er3, h⟩ := b1_s h
    refine h_callR (va_runS (As := [.int x3]) (rest := []) ⟨hx, hb, hml, hown, hts⟩ (mX1_isRow l D ac ad S f x3 r3  er3) (va_cwS 1 hts gX1_holdIfFree_X1_isRow rfl rfl rfl (by decide +kernel) ⟨Nat.le_of_ble_eq_true rfl, Nat.le_of_ble_eq_true rfl⟩) (h_preS hK hw _) rfl rfl hl.1 rfl (lv_room (Nat.le_of_ble_eq_true rfl)) dX1_holdIfFree_8 ⟨Nat.le_of_ble_eq_true rfl, Nat.le_of_ble_eq_true rfl⟩) ?_
    refine lv_if_eq (tgt := 48) hx hb dX1_holdIfFree_11 (by decide) (fun hc4 => ?_) (fun hc4 => ?_)
    · have h := it hc4 h
      exact h_retV hx hb hr hlocks hw (so1 h) dX1_holdIfFree_48
    · have h := ie hc4 h
      refine lv_aload_n hx hb dX1_holdIfFree_14 rfl (lv_at hl 0 rfl) ?_
      refine h_getR hx hb hts hnX1_holdIfFree_X1 hown hK hw hS.1 rfl 1 (by decide) rfl hkX1_holdIfFree_9 dX1_holdIfFree_15 ?_
      refine lv_iload_n hx hb dX1_holdIfFree_18 rfl (lv_at hl 2 rfl) ?_
      obtain ⟨hi5, h⟩ := gd_s h
      refine h_iald hx hb hK hw hS.2.1 hi5 dX1_holdIfFree_19 ?_
      refine lv_iconst (v := (-1)) hx hb dX1_holdIfFree_20 (by decide) ?_
      refine lv_icmp_ne (tgt := 48) hx hb dX1_holdIfFree_21 (by decide) (fun hc6 => ?_) (fun hc6 => ?_)
      · have h := ie hc6 h
        exact h_retV hx hb hr hlocks hw (so1 h) dX1_holdIfFree_48
      · have h := it hc6 h
        refine lv_aload_n hx hb dX1_holdIfFree_24 rfl (lv_at hl 0 rfl) ?_
        refine h_getR hx hb hts hnX1_holdIfFree_X1 hown hK hw hS.1 rfl 1 (by decide) rfl hkX1_holdIfFree_9 dX1_holdIfFree_25 ?_
        refine lv_iload_n hx hb dX1_holdIfFree_28 rfl (lv_at hl 3 rfl) ?_
        obtain ⟨hi7, h⟩ := gd_s h
        refine h_iald hx hb hK hw hS.2.1 hi7 dX1_holdIfFree_29 ?_
        refine lv_iconst (v := (-1)) hx hb dX1_holdIfFree_30 (by decide) ?_
        refine lv_icmp_ne (tgt := 48) hx hb dX1_holdIfFree_31 (by decide) (fun hc8 => ?_) (fun hc8 => ?_)
        · have h := ie hc8 h
          exact h_retV hx hb hr hlocks hw (so1 h) dX1_holdIfFree_48
        · have h := it hc8 h
          refine lv_aload_n hx hb dX1_holdIfFree_34 rfl (lv_at hl 0 rfl) ?_
          refine h_getR hx hb hts hnX1_holdIfFree_X1 hown hK hw hS.1 rfl 1 (by decide) rfl hkX1_holdIfFree_9 dX1_holdIfFree_35 ?_
          refine lv_iload_n hx hb dX1_holdIfFree_38 rfl (lv_at hl 2 rfl) ?_
          refine lv_iload_n hx hb dX1_holdIfFree_39 rfl (lv_at hl 1 rfl) ?_
          obtain ⟨hi9, h⟩ := gd_s h
          obtain ⟨f10, ef10, h⟩ := lt_s2 h
          refine h_iast (g := f10) ef10 hx hb hK hw hS.2.1 hi9 dX1_holdIfFree_40 (fun H locs hw => ?_)
          refine lv_aload_n hx hb dX1_holdIfFree_41 rfl (lv_at hl 0 rfl) ?_
          refine h_getR hx hb hts hnX1_holdIfFree_X1 hown hK hw hS.1 rfl 1 (by decide) rfl hkX1_holdIfFree_9 dX1_holdIfFree_42 ?_
          refine lv_iload_n hx hb dX1_holdIfFree_45 rfl (lv_at hl 3 rfl) ?_
          refine lv_iload_n hx hb dX1_holdIfFree_46 rfl (lv_at hl 1 rfl) ?_
          obtain ⟨hi11, h⟩ := gd_s h
          obtain ⟨f12, ef12, h⟩ := lt_s2 h
          refine h_iast (g := f12) ef12 hx hb hK hw hS.2.1 hi11 dX1_holdIfFree_47 (fun H locs hw => ?_)
          exact h_retV hx hb hr hlocks hw (so1 h) dX1_holdIfFree_48

theorem hnX1_settle_X1 : ∀ w ∈ wsX10, w ∈ wsX1_settle := by decide +kernel
theorem hkX1_settle_18 : Cond.fieldLink RX1 18 (TX1 0).1 (TX1 0).2.1 (TX1 0).2.2.1 ∈ wsX1_settle := by decide +kernel
theorem hnX1_settle_X0 : ∀ w ∈ wsX00, w ∈ wsX1_settle := by decide +kernel
theorem hkX1_settle_32 : Cond.fieldLink RX1 32 (TX0 6).1 (TX0 6).2.1 (TX0 6).2.2.1 ∈ wsX1_settle := by decide +kernel
theorem hkX1_settle_35 : Cond.fieldLink RX1 35 (TX0 7).1 (TX0 7).2.1 (TX0 7).2.2.1 ∈ wsX1_settle := by decide +kernel
theorem hkX1_settle_15 : Cond.fieldLink RX1 15 (TX1 2).1 (TX1 2).2.1 (TX1 2).2.2.1 ∈ wsX1_settle := by decide +kernel
theorem hkX1_settle_9 : Cond.fieldLink RX1 9 (TX1 1).1 (TX1 1).2.1 (TX1 1).2.2.1 ∈ wsX1_settle := by decide +kernel
set_option maxHeartbeats 8000000 in
set_option maxRecDepth 100000 in
theorem mX1_settle (l : Launch) (D : va_G) (ac : Nat → ClassId) (ad : Nat → Nat) (S : List hSh) (k : Nat) (bk : Nat) (f : hF) (x1 : Int32) (gv : hF) (hS : isHd S k bk) (h : fX1_settle k bk f x1 = some gv) : Met l yX1_settle wsX1_settle ({ frames := 2, cells := 0, slots := 0, locals := 45 }) (hPc D ac ad S f [.ref (ad k), .int x1]) (hQv D ac ad S gv) 0 0 (hAd ad S.length) := by
  refine h_enter (C := RX1) (cc := cX1_settle) (maxL := 4) (ret := none) (lv := [(0, .ref (ad k)), (1, .int x1)]) (by decide) rfl rfl (Nat.le_of_ble_eq_true rfl) rfl (fun p e s m below meth c ls hx hb hml hr hlocks hown hts hK hw hl => ?_)
  have J43 : ∀ (n : Nat), (∀ (f : hF) (y2 : Int32) (H : Heap) (locs : List Loc) (ls : Array Slot), hOk D ac ad S (hAd ad S.length) s.heap f H locs → lv_has ls 4 [(0, .ref (ad k)), (1, .int x1), (2, .int y2)] → fX1_settle_43 k bk x1 n f y2 = some gv → W p l e ({ frames := 2, cells := 0, slots := 0, locals := 45 } : Room) s m ([.ref (ad k), .int x1] : List Value).toArray below meth c H locs 0 0 (MQ below (hQv D ac ad S gv) ([.ref (ad k), .int x1] : List Value).toArray s 0 0 (hAd ad S.length)) (F0 m 43 ls [])) := by
    intro n
    induction n with
    | zero =>
      intro f y2 H locs ls hw hl h
      rw [fX1_settle_43] at h
      cases h
    | succ n ih =>
      intro f y2 H locs ls hw hl h
      rw [fX1_settle_43] at h
      refine lv_iload_n hx hb dX1_settle_43 rfl (lv_at hl 2 rfl) ?_
      refine lv_bipush (v := 24) hx hb dX1_settle_44 (by decide) ?_
      refine lv_icmp_ge (tgt := 99) hx hb dX1_settle_46 (by decide) (fun hc1 => ?_) (fun hc1 => ?_)
      · have h := it hc1 h
        exact h_retV hx hb hr hlocks hw (so1 h) dX1_settle_99
      · have h := ie hc1 h
        refine lv_aload_n hx hb dX1_settle_49 rfl (lv_at hl 0 rfl) ?_
        obtain ⟨r2, f3, ef3, h⟩ := b2_s h
        refine h_callQ hw (va_runV (As := []) (rest := []) ⟨hx, hb, hml, hown, hts⟩ (mX1_takeEarliest l D ac ad S k bk f r2 f3 hS ef3) (cwV 0 hts gX1_settle_X1_takeEarliest rfl rfl rfl (by decide +kernel) ⟨Nat.le_of_ble_eq_true rfl, Nat.le_of_ble_eq_true rfl⟩) (h_preV hK hw hS.1 rfl _) rfl rfl hl.1 rfl (lv_room (Nat.le_of_ble_eq_true rfl)) dX1_settle_50 ⟨Nat.le_of_ble_eq_true rfl, Nat.le_of_ble_eq_true rfl⟩) (fun H locs hw => ?_)
        refine lv_istore_n (lv' := [(3, .int r2), (0, .ref (ad k)), (1, .int x1), (2, .int y2)]) hx hb dX1_settle_53 rfl hl (by decide) rfl (fun ls hl => ?_)
        refine lv_iload_n hx hb dX1_settle_54 rfl (lv_at hl 0 rfl) ?_
        refine lv_iload_n hx hb dX1_settle_55 rfl (lv_at hl 2 rfl) ?_
        refine lv_icmp_eq (tgt := 93) hx hb dX1_settle_56 (by decide) (fun hc4 => ?_) (fun hc4 => ?_)
        · have h := it hc4 h
          refine lv_iinc (v := (y2 + 1)) (lv' := [(2, .int (y2 + 1)), (3, .int r2), (0, .ref (ad k)), (1, .int x1)]) hx hb dX1_settle_93 hl (k := 3) rfl rfl (by decide) rfl (fun ls hl => ?_)
          refine lv_goto (tgt := 43) hx hb dX1_settle_96 (by decide) ?_
          exact ih f3 (y2 + 1) _ _ _ hw (lv_sub hl [2, 3, 0] rfl) h
        · have h := ie hc4 h
          refine lv_aload_n hx hb dX1_settle_59 rfl (lv_at hl 1 rfl) ?_
          refine h_getR hx hb hts hnX1_settle_X1 hown hK hw hS.1 rfl 0 (by decide) rfl hkX1_settle_18 dX1_settle_60 ?_
          refine lv_iload_n hx hb dX1_settle_63 rfl (lv_at hl 0 rfl) ?_
          obtain ⟨r5, er5, h⟩ := b1_s h
          refine h_callR (va_runV (As := [.int r2]) (rest := []) ⟨hx, hb, hml, hown, hts⟩ (mX0_isOfTwo l D ac ad S bk f3 r2 r5 hS.2.2.2 er5) (cwV 1 hts gX1_settle_X0_isOfTwo rfl rfl rfl (by decide +kernel) ⟨Nat.le_of_ble_eq_true rfl, Nat.le_of_ble_eq_true rfl⟩) (h_preV hK hw hS.2.2.2.1 rfl _) rfl rfl hl.1 rfl (lv_room (Nat.le_of_ble_eq_true rfl)) dX1_settle_64 ⟨Nat.le_of_ble_eq_true rfl, Nat.le_of_ble_eq_true rfl⟩) ?_
          refine lv_if_eq (tgt := 93) hx hb dX1_settle_67 (by decide) (fun hc6 => ?_) (fun hc6 => ?_)
          · have h := it hc6 h
            refine lv_iinc (v := (y2 + 1)) (lv' := [(2, .int (y2 + 1)), (3, .int r2), (0, .ref (ad k)), (1, .int x1)]) hx hb dX1_settle_93 hl (k := 3) rfl rfl (by decide) rfl (fun ls hl => ?_)
            refine lv_goto (tgt := 43) hx hb dX1_settle_96 (by decide) ?_
            exact ih f3 (y2 + 1) _ _ _ hw (lv_sub hl [2, 3, 0] rfl) h
          · have h := ie hc6 h
            refine lv_aload_n hx hb dX1_settle_70 rfl (lv_at hl 1 rfl) ?_
            refine lv_iload_n hx hb dX1_settle_71 rfl (lv_at hl 0 rfl) ?_
            refine lv_aload_n hx hb dX1_settle_72 rfl (lv_at hl 1 rfl) ?_
            refine h_getR hx hb hts hnX1_settle_X1 hown hK hw hS.1 rfl 0 (by decide) rfl hkX1_settle_18 dX1_settle_73 ?_
            refine h_getR hx hb hts hnX1_settle_X0 hown hK hw hS.2.2.2.1 rfl 6 (by decide) rfl hkX1_settle_32 dX1_settle_76 ?_
            refine lv_iload_n hx hb dX1_settle_79 rfl (lv_at hl 0 rfl) ?_
            obtain ⟨hi7, h⟩ := gd_s h
            refine h_iald hx hb hK hw hS.2.2.2.2.2.2.2.2.2.1 hi7 dX1_settle_80 ?_
            refine lv_aload_n hx hb dX1_settle_81 rfl (lv_at hl 1 rfl) ?_
            refine h_getR hx hb hts hnX1_settle_X1 hown hK hw hS.1 rfl 0 (by decide) rfl hkX1_settle_18 dX1_settle_82 ?_
            refine h_getR hx hb hts hnX1_settle_X0 hown hK hw hS.2.2.2.1 rfl 7 (by decide) rfl hkX1_settle_35 dX1_settle_85 ?_
            refine lv_iload_n hx hb dX1_settle_88 rfl (lv_at hl 0 rfl) ?_
            obtain ⟨hi8, h⟩ := gd_s h
            refine h_iald hx hb hK hw hS.2.2.2.2.2.2.2.2.2.2.1 hi8 dX1_settle_89 ?_
            obtain ⟨f9, ef9, h⟩ := b1_s h
            refine h_callV hw (va_runV (As := [.int r2, .int (f3 (bk+6) r2.toNatClampNeg), .int (f3 (bk+7) r2.toNatClampNeg)]) (rest := []) ⟨hx, hb, hml, hown, hts⟩ (mX1_holdIfFree l D ac ad S k bk f3 r2 (f3 (bk+6) r2.toNatClampNeg) (f3 (bk+7) r2.toNatClampNeg) f9 hS ef9) (cwV 3 hts gX1_settle_X1_holdIfFree rfl rfl rfl (by decide +kernel) ⟨Nat.le_of_ble_eq_true rfl, Nat.le_of_ble_eq_true rfl⟩) (h_preV hK hw hS.1 rfl _) rfl rfl hl.1 rfl (lv_room (Nat.le_of_ble_eq_true rfl)) dX1_settle_90 ⟨Nat.le_of_ble_eq_true rfl, Nat.le_of_ble_eq_true rfl⟩) (fun H locs hw => ?_)
            refine lv_iinc (v := (y2 + 1)) (lv' := [(2, .int (y2 + 1)), (3, .int r2), (0, .ref (ad k)), (1, .int x1)]) hx hb dX1_settle_93 hl (k := 3) rfl rfl (by decide) rfl (fun ls hl => ?_)
            refine lv_goto (tgt := 43) hx hb dX1_settle_96 (by decide) ?_
            exact ih f9 (y2 + 1) _ _ _ hw (lv_sub hl [2, 3, 0] rfl) h
  have J23 : ∀ (n : Nat), (∀ (f : hF) (y2 : Int32) (H : Heap) (locs : List Loc) (ls : Array Slot), hOk D ac ad S (hAd ad S.length) s.heap f H locs → lv_has ls 4 [(0, .ref (ad k)), (1, .int x1), (2, .int y2)] → fX1_settle_23 k bk x1 n f y2 = some gv → W p l e ({ frames := 2, cells := 0, slots := 0, locals := 45 } : Room) s m ([.ref (ad k), .int x1] : List Value).toArray below meth c H locs 0 0 (MQ below (hQv D ac ad S gv) ([.ref (ad k), .int x1] : List Value).toArray s 0 0 (hAd ad S.length)) (F0 m 23 ls [])) := by
    intro n
    induction n with
    | zero =>
      intro f y2 H locs ls hw hl h
      rw [fX1_settle_23] at h
      cases h
    | succ n ih =>
      intro f y2 H locs ls hw hl h
      rw [fX1_settle_23] at h
      refine lv_iload_n hx hb dX1_settle_23 rfl (lv_at hl 2 rfl) ?_
      refine lv_iconst (v := 3) hx hb dX1_settle_24 (by decide) ?_
      refine lv_icmp_ge (tgt := 41) hx hb dX1_settle_25 (by decide) (fun hc1 => ?_) (fun hc1 => ?_)
      · have h := it hc1 h
        refine lv_iconst (v := 0) hx hb dX1_settle_41 (by decide) ?_
        refine lv_istore_n (lv' := [(2, .int 0), (0, .ref (ad k)), (1, .int x1)]) hx hb dX1_settle_42 rfl hl (by decide) rfl (fun ls hl => ?_)
        exact J43 _ f 0 _ _ _ hw (lv_sub hl [1, 2, 0] rfl) h
      · have h := ie hc1 h
        refine lv_aload_n hx hb dX1_settle_28 rfl (lv_at hl 0 rfl) ?_
        refine h_getR hx hb hts hnX1_settle_X1 hown hK hw hS.1 rfl 2 (by decide) rfl hkX1_settle_15 dX1_settle_29 ?_
        refine lv_iload_n hx hb dX1_settle_32 rfl (lv_at hl 2 rfl) ?_
        refine lv_iconst (v := 0) hx hb dX1_settle_33 (by decide) ?_
        obtain ⟨hi2, h⟩ := gd_s h
        obtain ⟨f3, ef3, h⟩ := lt_s2 h
        refine h_iast (g := f3) ef3 hx hb hK hw hS.2.2.1 hi2 dX1_settle_34 (fun H locs hw => ?_)
        refine lv_iinc (v := (y2 + 1)) (lv' := [(2, .int (y2 + 1)), (0, .ref (ad k)), (1, .int x1)]) hx hb dX1_settle_35 hl (k := 2) rfl rfl (by decide) rfl (fun ls hl => ?_)
        refine lv_goto (tgt := 23) hx hb dX1_settle_38 (by decide) ?_
        exact ih f3 (y2 + 1) _ _ _ hw (lv_sub hl [1, 2, 0] rfl) h
  have J2 : ∀ (n : Nat), (∀ (f : hF) (y2 : Int32) (H : Heap) (locs : List Loc) (ls : Array Slot), hOk D ac ad S (hAd ad S.length) s.heap f H locs → lv_has ls 4 [(0, .ref (ad k)), (1, .int x1), (2, .int y2)] → fX1_settle_2 k bk x1 n f y2 = some gv → W p l e ({ frames := 2, cells := 0, slots := 0, locals := 45 } : Room) s m ([.ref (ad k), .int x1] : List Value).toArray below meth c H locs 0 0 (MQ below (hQv D ac ad S gv) ([.ref (ad k), .int x1] : List Value).toArray s 0 0 (hAd ad S.length)) (F0 m 2 ls [])) := by
    intro n
    induction n with
    | zero =>
      intro f y2 H locs ls hw hl h
      rw [fX1_settle_2] at h
      cases h
    | succ n ih =>
      intro f y2 H locs ls hw hl h
      rw [fX1_settle_2] at h
      refine lv_iload_n hx hb dX1_settle_2 rfl (lv_at hl 2 rfl) ?_
      refine lv_bipush (v := 8) hx hb dX1_settle_3 (by decide) ?_
      refine lv_icmp_ge (tgt := 21) hx hb dX1_settle_5 (by decide) (fun hc1 => ?_) (fun hc1 => ?_)
      · have h := it hc1 h
        refine lv_iconst (v := 0) hx hb dX1_settle_21 (by decide) ?_
        refine lv_istore_n (lv' := [(2, .int 0), (0, .ref (ad k)), (1, .int x1)]) hx hb dX1_settle_22 rfl hl (by decide) rfl (fun ls hl => ?_)
        exact J23 _ f 0 _ _ _ hw (lv_sub hl [1, 2, 0] rfl) h
      · have h := ie hc1 h
        refine lv_aload_n hx hb dX1_settle_8 rfl (lv_at hl 0 rfl) ?_
        refine h_getR hx hb hts hnX1_settle_X1 hown hK hw hS.1 rfl 1 (by decide) rfl hkX1_settle_9 dX1_settle_9 ?_
        refine lv_iload_n hx hb dX1_settle_12 rfl (lv_at hl 2 rfl) ?_
        refine lv_iconst (v := (-1)) hx hb dX1_settle_13 (by decide) ?_
        obtain ⟨hi2, h⟩ := gd_s h
        obtain ⟨f3, ef3, h⟩ := lt_s2 h
        refine h_iast (g := f3) ef3 hx hb hK hw hS.2.1 hi2 dX1_settle_14 (fun H locs hw => ?_)
        refine lv_iinc (v := (y2 + 1)) (lv' := [(2, .int (y2 + 1)), (0, .ref (ad k)), (1, .int x1)]) hx hb dX1_settle_15 hl (k := 2) rfl rfl (by decide) rfl (fun ls hl => ?_)
        refine lv_goto (tgt := 2) hx hb dX1_settle_18 (by decide) ?_
        exact ih f3 (y2 + 1) _ _ _ hw (lv_sub hl [1, 2, 0] rfl) h
  unfold fX1_settle at h
  refine lv_iconst (v := 0) hx hb dX1_settle_0 (by decide) ?_
  refine lv_istore_n (lv' := [(2, .int 0), (0, .ref (ad k)), (1, .int x1)]) hx hb dX1_settle_1 rfl hl (by decide) rfl (fun ls hl => ?_)
  exact J2 _ f 0 _ _ _ hw (lv_sub hl [1, 2, 0] rfl) h

theorem hnX2_settle_X2 : ∀ w ∈ wsX20, w ∈ wsX2_settle := by decide +kernel
theorem hkX2_settle_23 : Cond.fieldLink RX2 23 (TX2 2).1 (TX2 2).2.1 (TX2 2).2.2.1 ∈ wsX2_settle := by decide +kernel
set_option maxHeartbeats 8000000 in
set_option maxRecDepth 100000 in
theorem mX2_settle (l : Launch) (D : va_G) (ac : Nat → ClassId) (ad : Nat → Nat) (S : List hSh) (k : Nat) (ro : Nat) (f : hF) (gv : hF) (hS : isHo S k ro) (h : fX2_settle k ro f = some gv) : Met l yX2_settle wsX2_settle ({ frames := 3, cells := 0, slots := 0, locals := 68 }) (hPc D ac ad S f [.ref (ad k)]) (hQv D ac ad S gv) 0 0 (hAd ad S.length) := by
  refine h_enter (C := RX2) (cc := cX2_settle) (maxL := 1) (ret := none) (lv := [(0, .ref (ad k))]) (by decide) rfl rfl (Nat.le_of_ble_eq_true rfl) rfl (fun p e s m below meth c ls hx hb hml hr hlocks hown hts hK hw hl => ?_)
  unfold fX2_settle at h
  refine lv_aload_n hx hb dX2_settle_0 rfl (lv_at hl 0 rfl) ?_
  refine h_getR hx hb hts hnX2_settle_X2 hown hK hw hS.1 rfl 2 (by decide) rfl hkX2_settle_23 dX2_settle_1 ?_
  refine lv_iconst (v := (-1)) hx hb dX2_settle_4 (by decide) ?_
  obtain ⟨f1, ef1, h⟩ := b1_s h
  refine h_callV hw (va_runV (As := [.int (-1)]) (rest := []) ⟨hx, hb, hml, hown, hts⟩ (mX1_settle l D ac ad S (k+10) (k+1) f ((-1) : Int32) f1 hS.2.2.2.2 ef1) (cwV 1 hts gX2_settle_X1_settle rfl rfl rfl (by decide +kernel) ⟨Nat.le_of_ble_eq_true rfl, Nat.le_of_ble_eq_true rfl⟩) (h_preV hK hw hS.2.2.2.2.1 rfl _) rfl rfl hl.1 rfl (lv_room (Nat.le_of_ble_eq_true rfl)) dX2_settle_5 ⟨Nat.le_of_ble_eq_true rfl, Nat.le_of_ble_eq_true rfl⟩) (fun H locs hw => ?_)
  exact h_retV hx hb hr hlocks hw (so1 h) dX2_settle_8

theorem hnX1_mateOf_X1 : ∀ w ∈ wsX10, w ∈ wsX1_mateOf := by decide +kernel
theorem hkX1_mateOf_18 : Cond.fieldLink RX1 18 (TX1 0).1 (TX1 0).2.1 (TX1 0).2.2.1 ∈ wsX1_mateOf := by decide +kernel
theorem hnX1_mateOf_X0 : ∀ w ∈ wsX00, w ∈ wsX1_mateOf := by decide +kernel
theorem hkX1_mateOf_46 : Cond.fieldLink RX1 46 (TX0 5).1 (TX0 5).2.1 (TX0 5).2.2.1 ∈ wsX1_mateOf := by decide +kernel
theorem hkX1_mateOf_32 : Cond.fieldLink RX1 32 (TX0 6).1 (TX0 6).2.1 (TX0 6).2.2.1 ∈ wsX1_mateOf := by decide +kernel
theorem hkX1_mateOf_35 : Cond.fieldLink RX1 35 (TX0 7).1 (TX0 7).2.1 (TX0 7).2.2.1 ∈ wsX1_mateOf := by decide +kernel
theorem hkX1_mateOf_9 : Cond.fieldLink RX1 9 (TX1 1).1 (TX1 1).2.1 (TX1 1).2.2.1 ∈ wsX1_mateOf := by decide +kernel
set_option maxHeartbeats 8000000 in
set_option maxRecDepth 100000 in
theorem mX1_mateOf (l : Launch) (D : va_G) (ac : Nat → ClassId) (ad : Nat → Nat) (S : List hSh) (k : Nat) (bk : Nat) (f : hF) (x1 : Int32) (x2 : Int32) (rv : Int32) (hS : isHd S k bk) (h : fX1_mateOf k bk f x1 x2 = some rv) : Met l yX1_mateOf wsX1_mateOf ({ frames := 2, cells := 0, slots := 0, locals := 42 }) (hPc D ac ad S f [.ref (ad k), .int x1, .int x2]) (hRi rv) 0 0 hNo := by
  refine h_enter (C := RX1) (cc := cX1_mateOf) (maxL := 4) (ret := (some .int)) (lv := [(0, .ref (ad k)), (1, .int x1), (2, .int x2)]) (by decide) rfl rfl (Nat.le_of_ble_eq_true rfl) rfl (fun p e s m below meth c ls hx hb hml hr hlocks hown hts hK hw hl => ?_)
  have J17 : ∀ (_ : Unit), (∀ (s0 : Int32) (ls : Array Slot), lv_has ls 4 [(0, .ref (ad k)), (1, .int x1), (2, .int x2)] → fX1_mateOf_17 k bk f x1 x2 s0 = some rv → W p l e ({ frames := 2, cells := 0, slots := 0, locals := 42 } : Room) s m ([.ref (ad k), .int x1, .int x2] : List Value).toArray below meth c s.heap [] 0 0 (MQ below (hRi rv) ([.ref (ad k), .int x1, .int x2] : List Value).toArray s 0 0 hNo) (F0 m 17 ls [.int s0])) := by
    intro _ s0 ls hl h
    unfold fX1_mateOf_17 at h
    refine lv_istore_n (lv' := [(3, .int s0), (0, .ref (ad k)), (1, .int x1), (2, .int x2)]) hx hb dX1_mateOf_17 rfl hl (by decide) rfl (fun ls hl => ?_)
    refine lv_aload_n hx hb dX1_mateOf_18 rfl (lv_at hl 1 rfl) ?_
    refine h_getR hx hb hts hnX1_mateOf_X1 hown hK hw hS.1 rfl 0 (by decide) rfl hkX1_mateOf_18 dX1_mateOf_19 ?_
    refine lv_iload_n hx hb dX1_mateOf_22 rfl (lv_at hl 0 rfl) ?_
    obtain ⟨r1, er1, h⟩ := b1_s h
    refine h_callR (va_runV (As := [.int s0]) (rest := []) ⟨hx, hb, hml, hown, hts⟩ (mX0_isOfTwo l D ac ad S bk f s0 r1 hS.2.2.2 er1) (cwV 1 hts gX1_mateOf_X0_isOfTwo rfl rfl rfl (by decide +kernel) ⟨Nat.le_of_ble_eq_true rfl, Nat.le_of_ble_eq_true rfl⟩) (h_preV hK hw hS.2.2.2.1 rfl _) rfl rfl hl.1 rfl (lv_room (Nat.le_of_ble_eq_true rfl)) dX1_mateOf_23 ⟨Nat.le_of_ble_eq_true rfl, Nat.le_of_ble_eq_true rfl⟩) ?_
    refine lv_if_eq (tgt := 42) hx hb dX1_mateOf_26 (by decide) (fun hc2 => ?_) (fun hc2 => ?_)
    · have h := it hc2 h
      refine lv_bipush (v := (-4)) hx hb dX1_mateOf_42 (by decide) ?_
      exact h_retR hx hb hr hlocks rfl (so1 h) dX1_mateOf_44
    · have h := ie hc2 h
      refine lv_aload_n hx hb dX1_mateOf_29 rfl (lv_at hl 1 rfl) ?_
      refine h_getR hx hb hts hnX1_mateOf_X1 hown hK hw hS.1 rfl 0 (by decide) rfl hkX1_mateOf_18 dX1_mateOf_30 ?_
      refine h_getR hx hb hts hnX1_mateOf_X0 hown hK hw hS.2.2.2.1 rfl 5 (by decide) rfl hkX1_mateOf_46 dX1_mateOf_33 ?_
      refine lv_iload_n hx hb dX1_mateOf_36 rfl (lv_at hl 0 rfl) ?_
      obtain ⟨hi3, h⟩ := gd_s h
      refine h_iald hx hb hK hw hS.2.2.2.2.2.2.2.2.1 hi3 dX1_mateOf_37 ?_
      refine lv_iload_n hx hb dX1_mateOf_38 rfl (lv_at hl 3 rfl) ?_
      refine lv_icmp_le (tgt := 45) hx hb dX1_mateOf_39 (by decide) (fun hc4 => ?_) (fun hc4 => ?_)
      · have h := it hc4 h
        refine lv_aload_n hx hb dX1_mateOf_45 rfl (lv_at hl 1 rfl) ?_
        refine h_getR hx hb hts hnX1_mateOf_X1 hown hK hw hS.1 rfl 0 (by decide) rfl hkX1_mateOf_18 dX1_mateOf_46 ?_
        refine h_getR hx hb hts hnX1_mateOf_X0 hown hK hw hS.2.2.2.1 rfl 6 (by decide) rfl hkX1_mateOf_32 dX1_mateOf_49 ?_
        refine lv_iload_n hx hb dX1_mateOf_52 rfl (lv_at hl 0 rfl) ?_
        obtain ⟨hi5, h⟩ := gd_s h
        refine h_iald hx hb hK hw hS.2.2.2.2.2.2.2.2.2.1 hi5 dX1_mateOf_53 ?_
        refine lv_iload_n hx hb dX1_mateOf_54 rfl (lv_at hl 2 rfl) ?_
        refine lv_icmp_ne (tgt := 70) hx hb dX1_mateOf_55 (by decide) (fun hc6 => ?_) (fun hc6 => ?_)
        · have h := ie hc6 h
          refine lv_aload_n hx hb dX1_mateOf_70 rfl (lv_at hl 1 rfl) ?_
          refine h_getR hx hb hts hnX1_mateOf_X1 hown hK hw hS.1 rfl 0 (by decide) rfl hkX1_mateOf_18 dX1_mateOf_71 ?_
          refine h_getR hx hb hts hnX1_mateOf_X0 hown hK hw hS.2.2.2.1 rfl 6 (by decide) rfl hkX1_mateOf_32 dX1_mateOf_74 ?_
          refine lv_iload_n hx hb dX1_mateOf_77 rfl (lv_at hl 0 rfl) ?_
          obtain ⟨hi7, h⟩ := gd_s h
          refine h_iald hx hb hK hw hS.2.2.2.2.2.2.2.2.2.1 hi7 dX1_mateOf_78 ?_
          exact h_retR hx hb hr hlocks rfl (so1 h) dX1_mateOf_79
        · have h := it hc6 h
          refine lv_aload_n hx hb dX1_mateOf_58 rfl (lv_at hl 1 rfl) ?_
          refine h_getR hx hb hts hnX1_mateOf_X1 hown hK hw hS.1 rfl 0 (by decide) rfl hkX1_mateOf_18 dX1_mateOf_59 ?_
          refine h_getR hx hb hts hnX1_mateOf_X0 hown hK hw hS.2.2.2.1 rfl 7 (by decide) rfl hkX1_mateOf_35 dX1_mateOf_62 ?_
          refine lv_iload_n hx hb dX1_mateOf_65 rfl (lv_at hl 0 rfl) ?_
          obtain ⟨hi8, h⟩ := gd_s h
          refine h_iald hx hb hK hw hS.2.2.2.2.2.2.2.2.2.2.1 hi8 dX1_mateOf_66 ?_
          refine lv_goto (tgt := 79) hx hb dX1_mateOf_67 (by decide) ?_
          exact h_retR hx hb hr hlocks rfl (so1 h) dX1_mateOf_79
      · have h := ie hc4 h
        refine lv_bipush (v := (-4)) hx hb dX1_mateOf_42 (by decide) ?_
        exact h_retR hx hb hr hlocks rfl (so1 h) dX1_mateOf_44
  unfold fX1_mateOf at h
  refine lv_iload_n hx hb dX1_mateOf_0 rfl (lv_at hl 1 rfl) ?_
  obtain ⟨r1, er1, h⟩ := b1_s h
  refine h_callR (va_runS (As := [.int x1]) (rest := []) ⟨hx, hb, hml, hown, hts⟩ (mX1_isRow l D ac ad S f x1 r1  er1) (va_cwS 1 hts gX1_mateOf_X1_isRow rfl rfl rfl (by decide +kernel) ⟨Nat.le_of_ble_eq_true rfl, Nat.le_of_ble_eq_true rfl⟩) (h_preS hK hw _) rfl rfl hl.1 rfl (lv_room (Nat.le_of_ble_eq_true rfl)) dX1_mateOf_1 ⟨Nat.le_of_ble_eq_true rfl, Nat.le_of_ble_eq_true rfl⟩) ?_
  refine lv_if_eq (tgt := 16) hx hb dX1_mateOf_4 (by decide) (fun hc2 => ?_) (fun hc2 => ?_)
  · have h := it hc2 h
    refine lv_iconst (v := (-1)) hx hb dX1_mateOf_16 (by decide) ?_
    exact J17 () (-1) _ (lv_sub hl [0, 1, 2] rfl) h
  · have h := ie hc2 h
    refine lv_aload_n hx hb dX1_mateOf_7 rfl (lv_at hl 0 rfl) ?_
    refine h_getR hx hb hts hnX1_mateOf_X1 hown hK hw hS.1 rfl 1 (by decide) rfl hkX1_mateOf_9 dX1_mateOf_8 ?_
    refine lv_iload_n hx hb dX1_mateOf_11 rfl (lv_at hl 1 rfl) ?_
    obtain ⟨hi3, h⟩ := gd_s h
    refine h_iald hx hb hK hw hS.2.1 hi3 dX1_mateOf_12 ?_
    refine lv_goto (tgt := 17) hx hb dX1_mateOf_13 (by decide) ?_
    exact J17 () (f (k+1) x1.toNatClampNeg) _ (lv_sub hl [0, 1, 2] rfl) h

theorem hnX2_mateBy_X2 : ∀ w ∈ wsX20, w ∈ wsX2_mateBy := by decide +kernel
theorem hkX2_mateBy_23 : Cond.fieldLink RX2 23 (TX2 2).1 (TX2 2).2.1 (TX2 2).2.2.1 ∈ wsX2_mateBy := by decide +kernel
set_option maxHeartbeats 8000000 in
set_option maxRecDepth 100000 in
theorem mX2_mateBy (l : Launch) (D : va_G) (ac : Nat → ClassId) (ad : Nat → Nat) (S : List hSh) (k : Nat) (ro : Nat) (f : hF) (x1 : Int32) (x2 : Int32) (rv : Int32) (gv : hF) (hS : isHo S k ro) (h : fX2_mateBy k ro f x1 x2 = some (rv, gv)) : Met l yX2_mateBy wsX2_mateBy ({ frames := 4, cells := 0, slots := 0, locals := 88 }) (hPc D ac ad S f [.ref (ad k), .int x1, .int x2]) (hQi D ac ad S rv gv) 0 0 (hAd ad S.length) := by
  refine h_enter (C := RX2) (cc := cX2_mateBy) (maxL := 3) (ret := (some .int)) (lv := [(0, .ref (ad k)), (1, .int x1), (2, .int x2)]) (by decide) rfl rfl (Nat.le_of_ble_eq_true rfl) rfl (fun p e s m below meth c ls hx hb hml hr hlocks hown hts hK hw hl => ?_)
  unfold fX2_mateBy at h
  refine lv_aload_n hx hb dX2_mateBy_0 rfl (lv_at hl 0 rfl) ?_
  obtain ⟨f1, ef1, h⟩ := b1_s h
  refine h_callV hw (va_runV (As := []) (rest := []) ⟨hx, hb, hml, hown, hts⟩ (mX2_settle l D ac ad S k ro f f1 hS ef1) (cwV 0 hts gX2_mateBy_X2_settle rfl rfl rfl (by decide +kernel) ⟨Nat.le_of_ble_eq_true rfl, Nat.le_of_ble_eq_true rfl⟩) (h_preV hK hw hS.1 rfl _) rfl rfl hl.1 rfl (lv_room (Nat.le_of_ble_eq_true rfl)) dX2_mateBy_1 ⟨Nat.le_of_ble_eq_true rfl, Nat.le_of_ble_eq_true rfl⟩) (fun H locs hw => ?_)
  refine lv_aload_n hx hb dX2_mateBy_4 rfl (lv_at hl 0 rfl) ?_
  refine h_getR hx hb hts hnX2_mateBy_X2 hown hK hw hS.1 rfl 2 (by decide) rfl hkX2_mateBy_23 dX2_mateBy_5 ?_
  refine lv_iload_n hx hb dX2_mateBy_8 rfl (lv_at hl 1 rfl) ?_
  refine lv_iload_n hx hb dX2_mateBy_9 rfl (lv_at hl 2 rfl) ?_
  obtain ⟨r2, er2, h⟩ := b1_s h
  refine h_callR (va_runV (As := [.int x1, .int x2]) (rest := []) ⟨hx, hb, hml, hown, hts⟩ (mX1_mateOf l D ac ad S (k+10) (k+1) f1 x1 x2 r2 hS.2.2.2.2 er2) (cwV 2 hts gX2_mateBy_X1_mateOf rfl rfl rfl (by decide +kernel) ⟨Nat.le_of_ble_eq_true rfl, Nat.le_of_ble_eq_true rfl⟩) (h_preV hK hw hS.2.2.2.2.1 rfl _) rfl rfl hl.1 rfl (lv_room (Nat.le_of_ble_eq_true rfl)) dX2_mateBy_10 ⟨Nat.le_of_ble_eq_true rfl, Nat.le_of_ble_eq_true rfl⟩) ?_
  exact h_retQ hx hb hr hlocks hw rfl (so2 h) dX2_mateBy_13

theorem hnX2_mateToday_X2 : ∀ w ∈ wsX20, w ∈ wsX2_mateToday := by decide +kernel
theorem hkX2_mateToday_12 : Cond.fieldLink RX2 12 (TX2 1).1 (TX2 1).2.1 (TX2 1).2.2.1 ∈ wsX2_mateToday := by decide +kernel
theorem hnX2_mateToday_X0 : ∀ w ∈ wsX00, w ∈ wsX2_mateToday := by decide +kernel
theorem hkX2_mateToday_49 : Cond.fieldLink RX2 49 (TX0 0).1 (TX0 0).2.1 (TX0 0).2.2.1 ∈ wsX2_mateToday := by decide +kernel
set_option maxHeartbeats 8000000 in
set_option maxRecDepth 100000 in
theorem mX2_mateToday (l : Launch) (D : va_G) (ac : Nat → ClassId) (ad : Nat → Nat) (S : List hSh) (k : Nat) (ro : Nat) (f : hF) (x1 : Int32) (rv : Int32) (gv : hF) (hS : isHo S k ro) (h : fX2_mateToday k ro f x1 = some (rv, gv)) : Met l yX2_mateToday wsX2_mateToday ({ frames := 5, cells := 0, slots := 0, locals := 110 }) (hPc D ac ad S f [.ref (ad k), .int x1]) (hQi D ac ad S rv gv) 0 0 (hAd ad S.length) := by
  refine h_enter (C := RX2) (cc := cX2_mateToday) (maxL := 2) (ret := (some .int)) (lv := [(0, .ref (ad k)), (1, .int x1)]) (by decide) rfl rfl (Nat.le_of_ble_eq_true rfl) rfl (fun p e s m below meth c ls hx hb hml hr hlocks hown hts hK hw hl => ?_)
  unfold fX2_mateToday at h
  refine lv_aload_n hx hb dX2_mateToday_0 rfl (lv_at hl 0 rfl) ?_
  refine lv_iload_n hx hb dX2_mateToday_1 rfl (lv_at hl 1 rfl) ?_
  refine lv_aload_n hx hb dX2_mateToday_2 rfl (lv_at hl 0 rfl) ?_
  refine h_getR hx hb hts hnX2_mateToday_X2 hown hK hw hS.1 rfl 1 (by decide) rfl hkX2_mateToday_12 dX2_mateToday_3 ?_
  refine h_getI hx hb hts hnX2_mateToday_X0 hown hK hw hS.2.2.2.1.1 rfl 0 (by decide) rfl hkX2_mateToday_49 dX2_mateToday_6 ?_
  obtain ⟨r1, f2, ef2, h⟩ := b2_s h
  refine h_callQ hw (va_runV (As := [.int x1, .int (f (k+1) 0)]) (rest := []) ⟨hx, hb, hml, hown, hts⟩ (mX2_mateBy l D ac ad S k ro f x1 (f (k+1) 0) r1 f2 hS ef2) (cwV 2 hts gX2_mateToday_X2_mateBy rfl rfl rfl (by decide +kernel) ⟨Nat.le_of_ble_eq_true rfl, Nat.le_of_ble_eq_true rfl⟩) (h_preV hK hw hS.1 rfl _) rfl rfl hl.1 rfl (lv_room (Nat.le_of_ble_eq_true rfl)) dX2_mateToday_9 ⟨Nat.le_of_ble_eq_true rfl, Nat.le_of_ble_eq_true rfl⟩) (fun H locs hw => ?_)
  exact h_retQ hx hb hr hlocks hw rfl (so2 h) dX2_mateToday_12

theorem hnX2_owedBy_X2 : ∀ w ∈ wsX20, w ∈ wsX2_owedBy := by decide +kernel
theorem hkX2_owedBy_31 : Cond.fieldLink RX2 31 (TX2 0).1 (TX2 0).2.1 (TX2 0).2.2.1 ∈ wsX2_owedBy := by decide +kernel
theorem hnX2_owedBy_X3 : ∀ w ∈ wsX30, w ∈ wsX2_owedBy := by decide +kernel
theorem hkX2_owedBy_73 : Cond.fieldLink RX2 73 (TX3 5).1 (TX3 5).2.1 (TX3 5).2.2.1 ∈ wsX2_owedBy := by decide +kernel
theorem hkX2_owedBy_69 : Cond.fieldLink RX2 69 (TX3 3).1 (TX3 3).2.1 (TX3 3).2.2.1 ∈ wsX2_owedBy := by decide +kernel
theorem hkX2_owedBy_76 : Cond.fieldLink RX2 76 (TX3 4).1 (TX3 4).2.1 (TX3 4).2.2.1 ∈ wsX2_owedBy := by decide +kernel
set_option maxHeartbeats 8000000 in
set_option maxRecDepth 100000 in
theorem mX2_owedBy (l : Launch) (D : va_G) (ac : Nat → ClassId) (ad : Nat → Nat) (S : List hSh) (k : Nat) (ro : Nat) (f : hF) (x1 : Int32) (rv : Int32) (gv : hF) (hS : isHo S k ro) (h : fX2_owedBy k ro f x1 = some (rv, gv)) : Met l yX2_owedBy wsX2_owedBy ({ frames := 6, cells := 0, slots := 0, locals := 131 }) (hPc D ac ad S f [.ref (ad k), .int x1]) (hQi D ac ad S rv gv) 0 0 (hAd ad S.length) := by
  refine h_enter (C := RX2) (cc := cX2_owedBy) (maxL := 4) (ret := (some .int)) (lv := [(0, .ref (ad k)), (1, .int x1)]) (by decide) rfl rfl (Nat.le_of_ble_eq_true rfl) rfl (fun p e s m below meth c ls hx hb hml hr hlocks hown hts hK hw hl => ?_)
  have J108 : ∀ (_ : Unit), (∀ (f : hF) (s0 : Int32) (H : Heap) (locs : List Loc) (ls : Array Slot), hOk D ac ad S (hAd ad S.length) s.heap f H locs → lv_has ls 4 [(0, .ref (ad k)), (1, .int x1)] → fX2_owedBy_108 k ro x1 f s0 = some (rv, gv) → W p l e ({ frames := 6, cells := 0, slots := 0, locals := 131 } : Room) s m ([.ref (ad k), .int x1] : List Value).toArray below meth c H locs 0 0 (MQ below (hQi D ac ad S rv gv) ([.ref (ad k), .int x1] : List Value).toArray s 0 0 (hAd ad S.length)) (F0 m 108 ls [.int s0])) := by
    intro _ f s0 H locs ls hw hl h
    unfold fX2_owedBy_108 at h
    refine lv_istore_n (lv' := [(3, .int s0), (0, .ref (ad k)), (1, .int x1)]) hx hb dX2_owedBy_108 rfl hl (by decide) rfl (fun ls hl => ?_)
    refine lv_aload_n hx hb dX2_owedBy_109 rfl (lv_at hl 1 rfl) ?_
    refine h_getR hx hb hts hnX2_owedBy_X2 hown hK hw hS.1 rfl 0 (by decide) rfl hkX2_owedBy_31 dX2_owedBy_110 ?_
    refine h_getR hx hb hts hnX2_owedBy_X3 hown hK hw hS.2.2.1.1 rfl 5 (by decide) rfl hkX2_owedBy_73 dX2_owedBy_113 ?_
    refine lv_iload_n hx hb dX2_owedBy_116 rfl (lv_at hl 2 rfl) ?_
    obtain ⟨hi1, h⟩ := gd_s h
    refine h_iald hx hb hK hw hS.2.2.1.2.2.2.1 hi1 dX2_owedBy_117 ?_
    refine lv_iload_n hx hb dX2_owedBy_118 rfl (lv_at hl 0 rfl) ?_
    refine lv_iadd hx hb dX2_owedBy_119 ?_
    exact h_retQ hx hb hr hlocks hw rfl (so2 h) dX2_owedBy_120
  unfold fX2_owedBy at h
  refine lv_aload_n hx hb dX2_owedBy_0 rfl (lv_at hl 0 rfl) ?_
  refine h_getR hx hb hts hnX2_owedBy_X2 hown hK hw hS.1 rfl 0 (by decide) rfl hkX2_owedBy_31 dX2_owedBy_1 ?_
  refine lv_iload_n hx hb dX2_owedBy_4 rfl (lv_at hl 1 rfl) ?_
  obtain ⟨r1, er1, h⟩ := b1_s h
  refine h_callR (va_runV (As := [.int x1]) (rest := []) ⟨hx, hb, hml, hown, hts⟩ (mX3_isPerson l D ac ad S ro f x1 r1 hS.2.2.1 er1) (cwV 1 hts gX2_owedBy_X3_isPerson rfl rfl rfl (by decide +kernel) ⟨Nat.le_of_ble_eq_true rfl, Nat.le_of_ble_eq_true rfl⟩) (h_preV hK hw hS.2.2.1.1 rfl _) rfl rfl hl.1 rfl (lv_room (Nat.le_of_ble_eq_true rfl)) dX2_owedBy_5 ⟨Nat.le_of_ble_eq_true rfl, Nat.le_of_ble_eq_true rfl⟩) ?_
  refine lv_if_ne (tgt := 13) hx hb dX2_owedBy_8 (by decide) (fun hc2 => ?_) (fun hc2 => ?_)
  · have h := ie hc2 h
    refine lv_aload_n hx hb dX2_owedBy_13 rfl (lv_at hl 0 rfl) ?_
    refine lv_iload_n hx hb dX2_owedBy_14 rfl (lv_at hl 1 rfl) ?_
    obtain ⟨r3, f4, ef4, h⟩ := b2_s h
    refine h_callQ hw (va_runV (As := [.int x1]) (rest := []) ⟨hx, hb, hml, hown, hts⟩ (mX2_mateToday l D ac ad S k ro f x1 r3 f4 hS ef4) (cwV 1 hts gX2_owedBy_X2_mateToday rfl rfl rfl (by decide +kernel) ⟨Nat.le_of_ble_eq_true rfl, Nat.le_of_ble_eq_true rfl⟩) (h_preV hK hw hS.1 rfl _) rfl rfl hl.1 rfl (lv_room (Nat.le_of_ble_eq_true rfl)) dX2_owedBy_15 ⟨Nat.le_of_ble_eq_true rfl, Nat.le_of_ble_eq_true rfl⟩) (fun H locs hw => ?_)
    refine lv_istore_n (lv' := [(2, .int r3), (0, .ref (ad k)), (1, .int x1)]) hx hb dX2_owedBy_18 rfl hl (by decide) rfl (fun ls hl => ?_)
    refine lv_aload_n hx hb dX2_owedBy_19 rfl (lv_at hl 1 rfl) ?_
    refine h_getR hx hb hts hnX2_owedBy_X2 hown hK hw hS.1 rfl 0 (by decide) rfl hkX2_owedBy_31 dX2_owedBy_20 ?_
    refine h_getR hx hb hts hnX2_owedBy_X3 hown hK hw hS.2.2.1.1 rfl 3 (by decide) rfl hkX2_owedBy_69 dX2_owedBy_23 ?_
    refine lv_iload_n hx hb dX2_owedBy_26 rfl (lv_at hl 2 rfl) ?_
    obtain ⟨hi5, h⟩ := gd_s h
    refine h_zald hx hb hK hw hS.2.2.1.2.1 hi5 dX2_owedBy_27 ?_
    refine lv_if_eq (tgt := 51) hx hb dX2_owedBy_28 (by decide) (fun hc6 => ?_) (fun hc6 => ?_)
    · have h := it hc6 h
      refine lv_aload_n hx hb dX2_owedBy_51 rfl (lv_at hl 1 rfl) ?_
      refine h_getR hx hb hts hnX2_owedBy_X2 hown hK hw hS.1 rfl 0 (by decide) rfl hkX2_owedBy_31 dX2_owedBy_52 ?_
      refine lv_iload_n hx hb dX2_owedBy_55 rfl (lv_at hl 0 rfl) ?_
      obtain ⟨r7, er7, h⟩ := b1_s h
      refine h_callR (va_runV (As := [.int r3]) (rest := []) ⟨hx, hb, hml, hown, hts⟩ (mX3_isPerson l D ac ad S ro f4 r3 r7 hS.2.2.1 er7) (cwV 1 hts gX2_owedBy_X3_isPerson rfl rfl rfl (by decide +kernel) ⟨Nat.le_of_ble_eq_true rfl, Nat.le_of_ble_eq_true rfl⟩) (h_preV hK hw hS.2.2.1.1 rfl _) rfl rfl hl.1 rfl (lv_room (Nat.le_of_ble_eq_true rfl)) dX2_owedBy_56 ⟨Nat.le_of_ble_eq_true rfl, Nat.le_of_ble_eq_true rfl⟩) ?_
      refine lv_if_ne (tgt := 72) hx hb dX2_owedBy_59 (by decide) (fun hc8 => ?_) (fun hc8 => ?_)
      · have h := ie hc8 h
        refine lv_aload_n hx hb dX2_owedBy_72 rfl (lv_at hl 1 rfl) ?_
        refine h_getR hx hb hts hnX2_owedBy_X2 hown hK hw hS.1 rfl 0 (by decide) rfl hkX2_owedBy_31 dX2_owedBy_73 ?_
        refine h_getR hx hb hts hnX2_owedBy_X3 hown hK hw hS.2.2.1.1 rfl 4 (by decide) rfl hkX2_owedBy_76 dX2_owedBy_76 ?_
        refine lv_iload_n hx hb dX2_owedBy_79 rfl (lv_at hl 0 rfl) ?_
        obtain ⟨hi9, h⟩ := gd_s h
        refine h_iald hx hb hK hw hS.2.2.1.2.2.1 hi9 dX2_owedBy_80 ?_
        refine lv_iconst (v := 1) hx hb dX2_owedBy_81 (by decide) ?_
        refine lv_icmp_ne (tgt := 99) hx hb dX2_owedBy_82 (by decide) (fun hc10 => ?_) (fun hc10 => ?_)
        · have h := ie hc10 h
          refine lv_aload_n hx hb dX2_owedBy_99 rfl (lv_at hl 1 rfl) ?_
          refine h_getR hx hb hts hnX2_owedBy_X2 hown hK hw hS.1 rfl 0 (by decide) rfl hkX2_owedBy_31 dX2_owedBy_100 ?_
          refine h_getR hx hb hts hnX2_owedBy_X3 hown hK hw hS.2.2.1.1 rfl 5 (by decide) rfl hkX2_owedBy_73 dX2_owedBy_103 ?_
          refine lv_iload_n hx hb dX2_owedBy_106 rfl (lv_at hl 0 rfl) ?_
          obtain ⟨hi11, h⟩ := gd_s h
          refine h_iald hx hb hK hw hS.2.2.1.2.2.2.1 hi11 dX2_owedBy_107 ?_
          exact J108 () f4 (f4 (ro+3) r3.toNatClampNeg) _ _ _ hw (lv_sub hl [1, 2] rfl) h
        · have h := it hc10 h
          refine lv_aload_n hx hb dX2_owedBy_85 rfl (lv_at hl 1 rfl) ?_
          refine h_getR hx hb hts hnX2_owedBy_X2 hown hK hw hS.1 rfl 0 (by decide) rfl hkX2_owedBy_31 dX2_owedBy_86 ?_
          refine h_getR hx hb hts hnX2_owedBy_X3 hown hK hw hS.2.2.1.1 rfl 5 (by decide) rfl hkX2_owedBy_73 dX2_owedBy_89 ?_
          refine lv_iload_n hx hb dX2_owedBy_92 rfl (lv_at hl 0 rfl) ?_
          obtain ⟨hi12, h⟩ := gd_s h
          refine h_iald hx hb hK hw hS.2.2.1.2.2.2.1 hi12 dX2_owedBy_93 ?_
          refine lv_iconst (v := 2) hx hb dX2_owedBy_94 (by decide) ?_
          refine lv_idiv hx hb dX2_owedBy_95 (by decide) ?_
          refine lv_goto (tgt := 108) hx hb dX2_owedBy_96 (by decide) ?_
          exact J108 () f4 ((f4 (ro+3) r3.toNatClampNeg) / 2) _ _ _ hw (lv_sub hl [1, 2] rfl) h
      · have h := it hc8 h
        refine lv_aload_n hx hb dX2_owedBy_62 rfl (lv_at hl 1 rfl) ?_
        refine h_getR hx hb hts hnX2_owedBy_X2 hown hK hw hS.1 rfl 0 (by decide) rfl hkX2_owedBy_31 dX2_owedBy_63 ?_
        refine h_getR hx hb hts hnX2_owedBy_X3 hown hK hw hS.2.2.1.1 rfl 5 (by decide) rfl hkX2_owedBy_73 dX2_owedBy_66 ?_
        refine lv_iload_n hx hb dX2_owedBy_69 rfl (lv_at hl 2 rfl) ?_
        obtain ⟨hi13, h⟩ := gd_s h
        refine h_iald hx hb hK hw hS.2.2.1.2.2.2.1 hi13 dX2_owedBy_70 ?_
        exact h_retQ hx hb hr hlocks hw rfl (so2 h) dX2_owedBy_71
    · have h := ie hc6 h
      refine lv_iload_n hx hb dX2_owedBy_31 rfl (lv_at hl 0 rfl) ?_
      refine lv_bipush (v := (-4)) hx hb dX2_owedBy_32 (by decide) ?_
      refine lv_icmp_ne (tgt := 49) hx hb dX2_owedBy_34 (by decide) (fun hc14 => ?_) (fun hc14 => ?_)
      · have h := ie hc14 h
        refine lv_iconst (v := 0) hx hb dX2_owedBy_49 (by decide) ?_
        exact h_retQ hx hb hr hlocks hw rfl (so2 h) dX2_owedBy_50
      · have h := it hc14 h
        refine lv_aload_n hx hb dX2_owedBy_37 rfl (lv_at hl 1 rfl) ?_
        refine h_getR hx hb hts hnX2_owedBy_X2 hown hK hw hS.1 rfl 0 (by decide) rfl hkX2_owedBy_31 dX2_owedBy_38 ?_
        refine h_getR hx hb hts hnX2_owedBy_X3 hown hK hw hS.2.2.1.1 rfl 5 (by decide) rfl hkX2_owedBy_73 dX2_owedBy_41 ?_
        refine lv_iload_n hx hb dX2_owedBy_44 rfl (lv_at hl 2 rfl) ?_
        obtain ⟨hi15, h⟩ := gd_s h
        refine h_iald hx hb hK hw hS.2.2.1.2.2.2.1 hi15 dX2_owedBy_45 ?_
        refine lv_goto (tgt := 50) hx hb dX2_owedBy_46 (by decide) ?_
        exact h_retQ hx hb hr hlocks hw rfl (so2 h) dX2_owedBy_50
  · have h := it hc2 h
    refine lv_iconst (v := 0) hx hb dX2_owedBy_11 (by decide) ?_
    exact h_retQ hx hb hr hlocks hw rfl (so2 h) dX2_owedBy_12

theorem hnX0_linesWith_X0 : ∀ w ∈ wsX00, w ∈ wsX0_linesWith := by decide +kernel
theorem hkX0_linesWith_27 : Cond.fieldLink RX0 27 (TX0 6).1 (TX0 6).2.1 (TX0 6).2.2.1 ∈ wsX0_linesWith := by decide +kernel
theorem hkX0_linesWith_30 : Cond.fieldLink RX0 30 (TX0 7).1 (TX0 7).2.1 (TX0 7).2.2.1 ∈ wsX0_linesWith := by decide +kernel
set_option maxHeartbeats 8000000 in
set_option maxRecDepth 100000 in
theorem mX0_linesWith (l : Launch) (D : va_G) (ac : Nat → ClassId) (ad : Nat → Nat) (S : List hSh) (k : Nat) (f : hF) (x1 : Int32) (rv : Int32) (hS : isBk S k) (h : fX0_linesWith k f x1 = some rv) : Met l yX0_linesWith wsX0_linesWith ({ frames := 2, cells := 0, slots := 0, locals := 42 }) (hPc D ac ad S f [.ref (ad k), .int x1]) (hRi rv) 0 0 hNo := by
  refine h_enter (C := RX0) (cc := cX0_linesWith) (maxL := 4) (ret := (some .int)) (lv := [(0, .ref (ad k)), (1, .int x1)]) (by decide) rfl rfl (Nat.le_of_ble_eq_true rfl) rfl (fun p e s m below meth c ls hx hb hml hr hlocks hown hts hK hw hl => ?_)
  have J4 : ∀ (n : Nat), (∀ (y2 : Int32) (y3 : Int32) (ls : Array Slot), lv_has ls 4 [(0, .ref (ad k)), (1, .int x1), (2, .int y2), (3, .int y3)] → fX0_linesWith_4 k f x1 n y2 y3 = some rv → W p l e ({ frames := 2, cells := 0, slots := 0, locals := 42 } : Room) s m ([.ref (ad k), .int x1] : List Value).toArray below meth c s.heap [] 0 0 (MQ below (hRi rv) ([.ref (ad k), .int x1] : List Value).toArray s 0 0 hNo) (F0 m 4 ls [])) := by
    intro n
    induction n with
    | zero =>
      intro y2 y3 ls hl h
      rw [fX0_linesWith_4] at h
      cases h
    | succ n ih =>
      intro y2 y3 ls hl h
      rw [fX0_linesWith_4] at h
      refine lv_iload_n hx hb dX0_linesWith_4 rfl (lv_at hl 3 rfl) ?_
      refine lv_bipush (v := 24) hx hb dX0_linesWith_5 (by decide) ?_
      refine lv_icmp_ge (tgt := 47) hx hb dX0_linesWith_7 (by decide) (fun hc1 => ?_) (fun hc1 => ?_)
      · have h := it hc1 h
        refine lv_iload_n hx hb dX0_linesWith_47 rfl (lv_at hl 2 rfl) ?_
        exact h_retR hx hb hr hlocks rfl (so1 h) dX0_linesWith_48
      · have h := ie hc1 h
        refine lv_aload_n hx hb dX0_linesWith_10 rfl (lv_at hl 0 rfl) ?_
        refine lv_iload_n hx hb dX0_linesWith_11 rfl (lv_at hl 3 rfl) ?_
        obtain ⟨r2, er2, h⟩ := b1_s h
        refine h_callR (va_runV (As := [.int y3]) (rest := []) ⟨hx, hb, hml, hown, hts⟩ (mX0_isOfTwo l D ac ad S k f y3 r2 hS er2) (cwV 1 hts gX0_linesWith_X0_isOfTwo rfl rfl rfl (by decide +kernel) ⟨Nat.le_of_ble_eq_true rfl, Nat.le_of_ble_eq_true rfl⟩) (h_preV hK hw hS.1 rfl _) rfl rfl hl.1 rfl (lv_room (Nat.le_of_ble_eq_true rfl)) dX0_linesWith_12 ⟨Nat.le_of_ble_eq_true rfl, Nat.le_of_ble_eq_true rfl⟩) ?_
        refine lv_if_eq (tgt := 41) hx hb dX0_linesWith_15 (by decide) (fun hc3 => ?_) (fun hc3 => ?_)
        · have h := it hc3 h
          refine lv_iinc (v := (y3 + 1)) (lv' := [(3, .int (y3 + 1)), (0, .ref (ad k)), (1, .int x1), (2, .int y2)]) hx hb dX0_linesWith_41 hl (k := 3) rfl rfl (by decide) rfl (fun ls hl => ?_)
          refine lv_goto (tgt := 4) hx hb dX0_linesWith_44 (by decide) ?_
          exact ih y2 (y3 + 1) _ (lv_sub hl [1, 2, 3, 0] rfl) h
        · have h := ie hc3 h
          refine lv_aload_n hx hb dX0_linesWith_18 rfl (lv_at hl 0 rfl) ?_
          refine h_getR hx hb hts hnX0_linesWith_X0 hown hK hw hS.1 rfl 6 (by decide) rfl hkX0_linesWith_27 dX0_linesWith_19 ?_
          refine lv_iload_n hx hb dX0_linesWith_22 rfl (lv_at hl 3 rfl) ?_
          obtain ⟨hi4, h⟩ := gd_s h
          refine h_iald hx hb hK hw hS.2.2.2.2.2.2.1 hi4 dX0_linesWith_23 ?_
          refine lv_iload_n hx hb dX0_linesWith_24 rfl (lv_at hl 1 rfl) ?_
          refine lv_icmp_eq (tgt := 38) hx hb dX0_linesWith_25 (by decide) (fun hc5 => ?_) (fun hc5 => ?_)
          · have h := it hc5 h
            refine lv_iinc (v := (y2 + 1)) (lv' := [(2, .int (y2 + 1)), (0, .ref (ad k)), (1, .int x1), (3, .int y3)]) hx hb dX0_linesWith_38 hl (k := 2) rfl rfl (by decide) rfl (fun ls hl => ?_)
            refine lv_iinc (v := (y3 + 1)) (lv' := [(3, .int (y3 + 1)), (2, .int (y2 + 1)), (0, .ref (ad k)), (1, .int x1)]) hx hb dX0_linesWith_41 hl (k := 3) rfl rfl (by decide) rfl (fun ls hl => ?_)
            refine lv_goto (tgt := 4) hx hb dX0_linesWith_44 (by decide) ?_
            exact ih (y2 + 1) (y3 + 1) _ (lv_sub hl [2, 3, 1, 0] rfl) h
          · have h := ie hc5 h
            refine lv_aload_n hx hb dX0_linesWith_28 rfl (lv_at hl 0 rfl) ?_
            refine h_getR hx hb hts hnX0_linesWith_X0 hown hK hw hS.1 rfl 7 (by decide) rfl hkX0_linesWith_30 dX0_linesWith_29 ?_
            refine lv_iload_n hx hb dX0_linesWith_32 rfl (lv_at hl 3 rfl) ?_
            obtain ⟨hi6, h⟩ := gd_s h
            refine h_iald hx hb hK hw hS.2.2.2.2.2.2.2.1 hi6 dX0_linesWith_33 ?_
            refine lv_iload_n hx hb dX0_linesWith_34 rfl (lv_at hl 1 rfl) ?_
            refine lv_icmp_ne (tgt := 41) hx hb dX0_linesWith_35 (by decide) (fun hc7 => ?_) (fun hc7 => ?_)
            · have h := ie hc7 h
              refine lv_iinc (v := (y3 + 1)) (lv' := [(3, .int (y3 + 1)), (0, .ref (ad k)), (1, .int x1), (2, .int y2)]) hx hb dX0_linesWith_41 hl (k := 3) rfl rfl (by decide) rfl (fun ls hl => ?_)
              refine lv_goto (tgt := 4) hx hb dX0_linesWith_44 (by decide) ?_
              exact ih y2 (y3 + 1) _ (lv_sub hl [1, 2, 3, 0] rfl) h
            · have h := it hc7 h
              refine lv_iinc (v := (y2 + 1)) (lv' := [(2, .int (y2 + 1)), (0, .ref (ad k)), (1, .int x1), (3, .int y3)]) hx hb dX0_linesWith_38 hl (k := 2) rfl rfl (by decide) rfl (fun ls hl => ?_)
              refine lv_iinc (v := (y3 + 1)) (lv' := [(3, .int (y3 + 1)), (2, .int (y2 + 1)), (0, .ref (ad k)), (1, .int x1)]) hx hb dX0_linesWith_41 hl (k := 3) rfl rfl (by decide) rfl (fun ls hl => ?_)
              refine lv_goto (tgt := 4) hx hb dX0_linesWith_44 (by decide) ?_
              exact ih (y2 + 1) (y3 + 1) _ (lv_sub hl [2, 3, 1, 0] rfl) h
  unfold fX0_linesWith at h
  refine lv_iconst (v := 0) hx hb dX0_linesWith_0 (by decide) ?_
  refine lv_istore_n (lv' := [(2, .int 0), (0, .ref (ad k)), (1, .int x1)]) hx hb dX0_linesWith_1 rfl hl (by decide) rfl (fun ls hl => ?_)
  refine lv_iconst (v := 0) hx hb dX0_linesWith_2 (by decide) ?_
  refine lv_istore_n (lv' := [(3, .int 0), (2, .int 0), (0, .ref (ad k)), (1, .int x1)]) hx hb dX0_linesWith_3 rfl hl (by decide) rfl (fun ls hl => ?_)
  exact J4 _ 0 0 _ (lv_sub hl [2, 3, 1, 0] rfl) h
