/-! contracts: X2_liveDay X7_gaol X7_keep X7_back X7_count X8_tellsPerson X8_tellsParson X8_in X8_has X8_isPerson X8_isParson X8_isLine X8_isWoman X8_kindOf X8_write X8_wipe X8_letterAt X8_isFigure -/
theorem hnX2_liveDay_X2 : ∀ w ∈ wsX20, w ∈ wsX2_liveDay := by decide +kernel
theorem hkX2_liveDay_12 : Cond.fieldLink RX2 12 (TX2 1).1 (TX2 1).2.1 (TX2 1).2.2.1 ∈ wsX2_liveDay := by decide +kernel
theorem hnX2_liveDay_X0 : ∀ w ∈ wsX00, w ∈ wsX2_liveDay := by decide +kernel
theorem hkX2_liveDay_49 : Cond.fieldLink RX2 49 (TX0 0).1 (TX0 0).2.1 (TX0 0).2.2.1 ∈ wsX2_liveDay := by decide +kernel
theorem hkX2_liveDay_31 : Cond.fieldLink RX2 31 (TX2 0).1 (TX2 0).2.1 (TX2 0).2.2.1 ∈ wsX2_liveDay := by decide +kernel
theorem hnX2_liveDay_X3 : ∀ w ∈ wsX30, w ∈ wsX2_liveDay := by decide +kernel
theorem hkX2_liveDay_178 : Cond.fieldLink RX2 178 (TX3 0).1 (TX3 0).2.1 (TX3 0).2.2.1 ∈ wsX2_liveDay := by decide +kernel
theorem hkX2_liveDay_157 : Cond.fieldLink RX2 157 (TX3 1).1 (TX3 1).2.1 (TX3 1).2.2.1 ∈ wsX2_liveDay := by decide +kernel
set_option maxHeartbeats 8000000 in
set_option maxRecDepth 100000 in
theorem mX2_liveDay (l : Launch) (D : va_G) (ac : Nat → ClassId) (ad : Nat → Nat) (S : List hSh) (k : Nat) (ro : Nat) (f : hF) (x1 : Int32) (gv : hF) (hS : isHo S k ro) (h : fX2_liveDay k ro f x1 = some gv) : Met l yX2_liveDay wsX2_liveDay ({ frames := 3, cells := 0, slots := 0, locals := 75 }) (hPc D ac ad S f [.ref (ad k), .int x1]) (hQv D ac ad S gv) 0 0 (hAd ad S.length) := by
  refine h_enter (C := RX2) (cc := cX2_liveDay) (maxL := 7) (ret := none) (lv := [(0, .ref (ad k)), (1, .int x1)]) (by decide) rfl rfl (Nat.le_of_ble_eq_true rfl) rfl (fun p e s m below meth c ls hx hb hml hr hlocks hown hts hK hw hl => ?_)
  have J103 : ∀ (_ : Unit), (∀ (f : hF) (H : Heap) (locs : List Loc) (ls : Array Slot), hOk D ac ad S (hAd ad S.length) s.heap f H locs → lv_has ls 7 [(0, .ref (ad k))] → fX2_liveDay_103 k ro x1 f = some gv → W p l e ({ frames := 3, cells := 0, slots := 0, locals := 75 } : Room) s m ([.ref (ad k), .int x1] : List Value).toArray below meth c H locs 0 0 (MQ below (hQv D ac ad S gv) ([.ref (ad k), .int x1] : List Value).toArray s 0 0 (hAd ad S.length)) (F0 m 103 ls [])) := by
    intro _ f H locs ls hw hl h
    unfold fX2_liveDay_103 at h
    refine lv_aload_n hx hb dX2_liveDay_103 rfl (lv_at hl 0 rfl) ?_
    refine h_getR hx hb hts hnX2_liveDay_X2 hown hK hw hS.1 rfl 1 (by decide) rfl hkX2_liveDay_12 dX2_liveDay_104 ?_
    refine lv_dup hx hb dX2_liveDay_107 rfl ?_
    refine h_getI hx hb hts hnX2_liveDay_X0 hown hK hw hS.2.2.2.1.1 rfl 0 (by decide) rfl hkX2_liveDay_49 dX2_liveDay_108 ?_
    refine lv_iconst (v := 1) hx hb dX2_liveDay_111 (by decide) ?_
    refine lv_iadd hx hb dX2_liveDay_112 ?_
    obtain ⟨f1, ef1, h⟩ := lt_s2 h
    refine h_putI (g := f1) ef1 hx hb hts hnX2_liveDay_X0 tyX0 tyX0_ok nmX0 hown hK hw hS.2.2.2.1.1 rfl 0 rfl (by decide) rfl hkX2_liveDay_49 rfl (by decide +kernel) dX2_liveDay_113 (fun H locs hw => ?_)
    exact h_retV hx hb hr hlocks hw (so1 h) dX2_liveDay_116
  unfold fX2_liveDay at h
  refine lv_aload_n hx hb dX2_liveDay_0 rfl (lv_at hl 0 rfl) ?_
  refine h_getR hx hb hts hnX2_liveDay_X2 hown hK hw hS.1 rfl 0 (by decide) rfl hkX2_liveDay_31 dX2_liveDay_1 ?_
  refine h_getI hx hb hts hnX2_liveDay_X3 hown hK hw hS.2.2.1.1 rfl 0 (by decide) rfl hkX2_liveDay_178 dX2_liveDay_4 ?_
  refine lv_istore_n (lv' := [(2, .int (f ro 0)), (0, .ref (ad k)), (1, .int x1)]) hx hb dX2_liveDay_7 rfl hl (by decide) rfl (fun ls hl => ?_)
  refine lv_aload_n hx hb dX2_liveDay_8 rfl (lv_at hl 1 rfl) ?_
  refine h_getR hx hb hts hnX2_liveDay_X2 hown hK hw hS.1 rfl 0 (by decide) rfl hkX2_liveDay_31 dX2_liveDay_9 ?_
  refine h_getI hx hb hts hnX2_liveDay_X3 hown hK hw hS.2.2.1.1 rfl 1 (by decide) rfl hkX2_liveDay_157 dX2_liveDay_12 ?_
  refine lv_istore_n (lv' := [(3, .int (f ro 1)), (2, .int (f ro 0)), (0, .ref (ad k)), (1, .int x1)]) hx hb dX2_liveDay_15 rfl hl (by decide) rfl (fun ls hl => ?_)
  refine lv_iload_n hx hb dX2_liveDay_16 rfl (lv_at hl 1 rfl) ?_
  refine lv_iconst (v := 1) hx hb dX2_liveDay_17 (by decide) ?_
  refine lv_icmp_lt (tgt := 26) hx hb dX2_liveDay_18 (by decide) (fun hc1 => ?_) (fun hc1 => ?_)
  · have h := it hc1 h
    exact h_retV hx hb hr hlocks hw (so1 h) dX2_liveDay_26
  · have h := ie hc1 h
    refine lv_iload_n hx hb dX2_liveDay_21 rfl (lv_at hl 0 rfl) ?_
    refine lv_iconst (v := 1) hx hb dX2_liveDay_22 (by decide) ?_
    refine lv_icmp_ge (tgt := 27) hx hb dX2_liveDay_23 (by decide) (fun hc2 => ?_) (fun hc2 => ?_)
    · have h := it hc2 h
      refine lv_iload_n hx hb dX2_liveDay_27 rfl (lv_at hl 3 rfl) ?_
      refine lv_iload_n hx hb dX2_liveDay_28 rfl (lv_at hl 0 rfl) ?_
      obtain ⟨hz3, h⟩ := nz_s h
      refine lv_irem hx hb dX2_liveDay_29 hz3 ?_
      refine lv_istore (lv' := [(4, .int (x1 - x1 / (f ro 1) * (f ro 1))), (3, .int (f ro 1)), (2, .int (f ro 0)), (0, .ref (ad k)), (1, .int x1)]) hx hb dX2_liveDay_30 hl (by decide) rfl (fun ls hl => ?_)
      refine lv_iload_n hx hb dX2_liveDay_32 rfl (lv_at hl 4 rfl) ?_
      refine lv_iconst (v := 4) hx hb dX2_liveDay_33 (by decide) ?_
      refine lv_idiv hx hb dX2_liveDay_34 (by decide) ?_
      refine lv_iload_n hx hb dX2_liveDay_35 rfl (lv_at hl 2 rfl) ?_
      obtain ⟨hz4, h⟩ := nz_s h
      refine lv_irem hx hb dX2_liveDay_36 hz4 ?_
      refine lv_istore (lv' := [(5, .int ((x1 / 4) - (x1 / 4) / (f ro 0) * (f ro 0))), (4, .int (x1 - x1 / (f ro 1) * (f ro 1))), (3, .int (f ro 1)), (2, .int (f ro 0)), (0, .ref (ad k)), (1, .int x1)]) hx hb dX2_liveDay_37 hl (by decide) rfl (fun ls hl => ?_)
      refine lv_iload_n hx hb dX2_liveDay_39 rfl (lv_at hl 5 rfl) ?_
      refine lv_bipush (v := 32) hx hb dX2_liveDay_40 (by decide) ?_
      refine lv_idiv hx hb dX2_liveDay_42 (by decide) ?_
      refine lv_iload_n hx hb dX2_liveDay_43 rfl (lv_at hl 3 rfl) ?_
      obtain ⟨hz5, h⟩ := nz_s h
      refine lv_irem hx hb dX2_liveDay_44 hz5 ?_
      refine lv_istore (lv' := [(6, .int ((x1 / 32) - (x1 / 32) / (f ro 0) * (f ro 0))), (5, .int ((x1 / 4) - (x1 / 4) / (f ro 0) * (f ro 0))), (4, .int (x1 - x1 / (f ro 1) * (f ro 1))), (3, .int (f ro 1)), (2, .int (f ro 0)), (0, .ref (ad k)), (1, .int x1)]) hx hb dX2_liveDay_45 hl (by decide) rfl (fun ls hl => ?_)
      refine lv_aload_n hx hb dX2_liveDay_47 rfl (lv_at hl 5 rfl) ?_
      refine lv_iload hx hb dX2_liveDay_48 (lv_at hl 2 rfl) ?_
      refine lv_iload hx hb dX2_liveDay_50 (lv_at hl 1 rfl) ?_
      refine lv_iload hx hb dX2_liveDay_52 (lv_at hl 0 rfl) ?_
      obtain ⟨r6, er6, h⟩ := b1_s h
      refine h_callR (va_runV (As := [.int (x1 - x1 / (f ro 1) * (f ro 1)), .int ((x1 / 4) - (x1 / 4) / (f ro 0) * (f ro 0)), .int ((x1 / 32) - (x1 / 32) / (f ro 0) * (f ro 0))]) (rest := []) ⟨hx, hb, hml, hown, hts⟩ (mX2_refuseWedding l D ac ad S k ro f (x1 - x1 / (f ro 1) * (f ro 1)) ((x1 / 4) - (x1 / 4) / (f ro 0) * (f ro 0)) ((x1 / 32) - (x1 / 32) / (f ro 0) * (f ro 0)) r6 hS er6) (cwV 3 hts gX2_liveDay_X2_refuseWedding rfl rfl rfl (by decide +kernel) ⟨Nat.le_of_ble_eq_true rfl, Nat.le_of_ble_eq_true rfl⟩) (h_preV hK hw hS.1 rfl _) rfl rfl hl.1 rfl (lv_room (Nat.le_of_ble_eq_true rfl)) dX2_liveDay_54 ⟨Nat.le_of_ble_eq_true rfl, Nat.le_of_ble_eq_true rfl⟩) ?_
      refine lv_if_ne (tgt := 74) hx hb dX2_liveDay_57 (by decide) (fun hc7 => ?_) (fun hc7 => ?_)
      · have h := ie hc7 h
        refine lv_iload_n hx hb dX2_liveDay_74 rfl (lv_at hl 6 rfl) ?_
        refine lv_sipush (v := 256) hx hb dX2_liveDay_75 (by decide) ?_
        refine lv_idiv hx hb dX2_liveDay_78 (by decide) ?_
        refine lv_iconst (v := 2) hx hb dX2_liveDay_79 (by decide) ?_
        refine lv_irem hx hb dX2_liveDay_80 (by decide) ?_
        refine lv_if_ne (tgt := 103) hx hb dX2_liveDay_81 (by decide) (fun hc8 => ?_) (fun hc8 => ?_)
        · have h := ie hc8 h
          exact J103 () f _ _ _ hw (lv_sub hl [5] rfl) h
        · have h := it hc8 h
          refine lv_aload_n hx hb dX2_liveDay_84 rfl (lv_at hl 5 rfl) ?_
          refine lv_iload hx hb dX2_liveDay_85 (lv_at hl 2 rfl) ?_
          obtain ⟨r9, er9, h⟩ := b1_s h
          refine h_callR (va_runV (As := [.int (x1 - x1 / (f ro 1) * (f ro 1))]) (rest := []) ⟨hx, hb, hml, hown, hts⟩ (mX2_refuseBlank l D ac ad S k ro f (x1 - x1 / (f ro 1) * (f ro 1)) r9 hS er9) (cwV 1 hts gX2_liveDay_X2_refuseBlank rfl rfl rfl (by decide +kernel) ⟨Nat.le_of_ble_eq_true rfl, Nat.le_of_ble_eq_true rfl⟩) (h_preV hK hw hS.1 rfl _) rfl rfl hl.1 rfl (lv_room (Nat.le_of_ble_eq_true rfl)) dX2_liveDay_87 ⟨Nat.le_of_ble_eq_true rfl, Nat.le_of_ble_eq_true rfl⟩) ?_
          refine lv_if_ne (tgt := 103) hx hb dX2_liveDay_90 (by decide) (fun hc10 => ?_) (fun hc10 => ?_)
          · have h := ie hc10 h
            exact J103 () f _ _ _ hw (lv_sub hl [5] rfl) h
          · have h := it hc10 h
            refine lv_aload_n hx hb dX2_liveDay_93 rfl (lv_at hl 5 rfl) ?_
            refine h_getR hx hb hts hnX2_liveDay_X2 hown hK hw hS.1 rfl 1 (by decide) rfl hkX2_liveDay_12 dX2_liveDay_94 ?_
            refine lv_iload hx hb dX2_liveDay_97 (lv_at hl 2 rfl) ?_
            obtain ⟨r11, f12, ef12, h⟩ := b2_s h
            refine h_callQ hw (va_runV (As := [.int (x1 - x1 / (f ro 1) * (f ro 1))]) (rest := []) ⟨hx, hb, hml, hown, hts⟩ (mX0_begin l D ac ad S (k+1) f (x1 - x1 / (f ro 1) * (f ro 1)) r11 f12 hS.2.2.2.1 ef12) (cwV 1 hts gX2_liveDay_X0_begin rfl rfl rfl (by decide +kernel) ⟨Nat.le_of_ble_eq_true rfl, Nat.le_of_ble_eq_true rfl⟩) (h_preV hK hw hS.2.2.2.1.1 rfl _) rfl rfl hl.1 rfl (lv_room (Nat.le_of_ble_eq_true rfl)) dX2_liveDay_99 ⟨Nat.le_of_ble_eq_true rfl, Nat.le_of_ble_eq_true rfl⟩) (fun H locs hw => ?_)
            refine lv_pop hx hb dX2_liveDay_102 rfl ?_
            exact J103 () f12 _ _ _ hw (lv_sub hl [5] rfl) h
      · have h := it hc7 h
        refine lv_aload_n hx hb dX2_liveDay_60 rfl (lv_at hl 5 rfl) ?_
        refine lv_iload hx hb dX2_liveDay_61 (lv_at hl 2 rfl) ?_
        refine lv_iload hx hb dX2_liveDay_63 (lv_at hl 1 rfl) ?_
        refine lv_iload hx hb dX2_liveDay_65 (lv_at hl 0 rfl) ?_
        obtain ⟨r13, f14, ef14, h⟩ := b2_s h
        refine h_callQ hw (va_runV (As := [.int (x1 - x1 / (f ro 1) * (f ro 1)), .int ((x1 / 4) - (x1 / 4) / (f ro 0) * (f ro 0)), .int ((x1 / 32) - (x1 / 32) / (f ro 0) * (f ro 0))]) (rest := []) ⟨hx, hb, hml, hown, hts⟩ (mX2_writeWedding l D ac ad S k ro f (x1 - x1 / (f ro 1) * (f ro 1)) ((x1 / 4) - (x1 / 4) / (f ro 0) * (f ro 0)) ((x1 / 32) - (x1 / 32) / (f ro 0) * (f ro 0)) r13 f14 hS ef14) (cwV 3 hts gX2_liveDay_X2_writeWedding rfl rfl rfl (by decide +kernel) ⟨Nat.le_of_ble_eq_true rfl, Nat.le_of_ble_eq_true rfl⟩) (h_preV hK hw hS.1 rfl _) rfl rfl hl.1 rfl (lv_room (Nat.le_of_ble_eq_true rfl)) dX2_liveDay_67 ⟨Nat.le_of_ble_eq_true rfl, Nat.le_of_ble_eq_true rfl⟩) (fun H locs hw => ?_)
        refine lv_pop hx hb dX2_liveDay_70 rfl ?_
        refine lv_goto (tgt := 103) hx hb dX2_liveDay_71 (by decide) ?_
        exact J103 () f14 _ _ _ hw (lv_sub hl [5] rfl) h
    · have h := ie hc2 h
      exact h_retV hx hb hr hlocks hw (so1 h) dX2_liveDay_26

theorem hnX7_gaol_X7 : ∀ w ∈ wsX70, w ∈ wsX7_gaol := by decide +kernel
theorem hkX7_gaol_35 : Cond.fieldLink RX7 35 (TX7 4).1 (TX7 4).2.1 (TX7 4).2.2.1 ∈ wsX7_gaol := by decide +kernel
theorem hnX7_gaol_X2 : ∀ w ∈ wsX20, w ∈ wsX7_gaol := by decide +kernel
theorem hkX7_gaol_108 : Cond.fieldLink RX7 108 (TX2 1).1 (TX2 1).2.1 (TX2 1).2.2.1 ∈ wsX7_gaol := by decide +kernel
theorem hkX7_gaol_31 : Cond.fieldLink RX7 31 (TX7 3).1 (TX7 3).2.1 (TX7 3).2.2.1 ∈ wsX7_gaol := by decide +kernel
set_option maxHeartbeats 8000000 in
set_option maxRecDepth 100000 in
theorem mX7_gaol (l : Launch) (D : va_G) (ac : Nat → ClassId) (ad : Nat → Nat) (S : List hSh) (f : hF) (x1 : Int32) (x2 : Int32) (x3 : Int32) (rv : Int32) (gv : hF) (hS : isPW S) (h : fX7_gaol f x1 x2 x3 = some (rv, gv)) : Met l yX7_gaol wsX7_gaol ({ frames := 5, cells := 0, slots := 0, locals := 110 }) (hPc D ac ad S f [.ref (ad 0), .int x1, .int x2, .int x3]) (hQi D ac ad S rv gv) 0 0 (hAd ad S.length) := by
  refine h_enter (C := RX7) (cc := cX7_gaol) (maxL := 6) (ret := (some .int)) (lv := [(0, .ref (ad 0)), (1, .int x1), (2, .int x2), (3, .int x3)]) (by decide) rfl rfl (Nat.le_of_ble_eq_true rfl) rfl (fun p e s m below meth c ls hx hb hml hr hlocks hown hts hK hw hl => ?_)
  have J63 : ∀ (n : Nat), (∀ (f : hF) (y4 : Int32) (y5 : Int32) (H : Heap) (locs : List Loc) (ls : Array Slot), hOk D ac ad S (hAd ad S.length) s.heap f H locs → lv_has ls 6 [(0, .ref (ad 0)), (1, .int x1), (2, .int x2), (3, .int x3), (4, .int y4), (5, .int y5)] → fX7_gaol_63 x1 x2 x3 n f y4 y5 = some (rv, gv) → W p l e ({ frames := 5, cells := 0, slots := 0, locals := 110 } : Room) s m ([.ref (ad 0), .int x1, .int x2, .int x3] : List Value).toArray below meth c H locs 0 0 (MQ below (hQi D ac ad S rv gv) ([.ref (ad 0), .int x1, .int x2, .int x3] : List Value).toArray s 0 0 (hAd ad S.length)) (F0 m 63 ls [])) := by
    intro n
    induction n with
    | zero =>
      intro f y4 y5 H locs ls hw hl h
      rw [fX7_gaol_63] at h
      cases h
    | succ n ih =>
      intro f y4 y5 H locs ls hw hl h
      rw [fX7_gaol_63] at h
      refine lv_iload hx hb dX7_gaol_63 (lv_at hl 5 rfl) ?_
      refine lv_iload_n hx hb dX7_gaol_65 rfl (lv_at hl 2 rfl) ?_
      refine lv_icmp_ge (tgt := 88) hx hb dX7_gaol_66 (by decide) (fun hc1 => ?_) (fun hc1 => ?_)
      · have h := it hc1 h
        refine lv_iload_n hx hb dX7_gaol_88 rfl (lv_at hl 3 rfl) ?_
        refine lv_if_ne (tgt := 102) hx hb dX7_gaol_89 (by decide) (fun hc2 => ?_) (fun hc2 => ?_)
        · have h := ie hc2 h
          refine lv_aload_n hx hb dX7_gaol_102 rfl (lv_at hl 0 rfl) ?_
          refine h_getR hx hb hts hnX7_gaol_X7 hown hK hw hS.1 rfl 4 (by decide) rfl hkX7_gaol_35 dX7_gaol_103 ?_
          refine h_getR hx hb hts hnX7_gaol_X2 hown hK hw hS.2.2.2.2.2.1.1 rfl 1 (by decide) rfl hkX7_gaol_108 dX7_gaol_106 ?_
          obtain ⟨r3, er3, h⟩ := b1_s h
          refine h_callR (va_runV (As := []) (rest := []) ⟨hx, hb, hml, hown, hts⟩ (mX0_paidInAll l D ac ad S 34 f r3 hS.2.2.2.2.2.1.2.2.2.1 er3) (cwV 0 hts gX7_gaol_X0_paidInAll rfl rfl rfl (by decide +kernel) ⟨Nat.le_of_ble_eq_true rfl, Nat.le_of_ble_eq_true rfl⟩) (h_preV hK hw hS.2.2.2.2.2.1.2.2.2.1.1 rfl _) rfl rfl hl.1 rfl (lv_room (Nat.le_of_ble_eq_true rfl)) dX7_gaol_109 ⟨Nat.le_of_ble_eq_true rfl, Nat.le_of_ble_eq_true rfl⟩) ?_
          refine lv_iload hx hb dX7_gaol_112 (lv_at hl 4 rfl) ?_
          refine lv_isub hx hb dX7_gaol_114 ?_
          exact h_retQ hx hb hr hlocks hw rfl (so2 h) dX7_gaol_115
        · have h := it hc2 h
          refine lv_aload_n hx hb dX7_gaol_92 rfl (lv_at hl 0 rfl) ?_
          refine h_getR hx hb hts hnX7_gaol_X7 hown hK hw hS.1 rfl 4 (by decide) rfl hkX7_gaol_35 dX7_gaol_93 ?_
          obtain ⟨r4, f5, ef5, h⟩ := b2_s h
          refine h_callQ hw (va_runV (As := []) (rest := []) ⟨hx, hb, hml, hown, hts⟩ (mX2_countHeld l D ac ad S 33 3 f r4 f5 hS.2.2.2.2.2.1 ef5) (cwV 0 hts gX7_gaol_X2_countHeld rfl rfl rfl (by decide +kernel) ⟨Nat.le_of_ble_eq_true rfl, Nat.le_of_ble_eq_true rfl⟩) (h_preV hK hw hS.2.2.2.2.2.1.1 rfl _) rfl rfl hl.1 rfl (lv_room (Nat.le_of_ble_eq_true rfl)) dX7_gaol_96 ⟨Nat.le_of_ble_eq_true rfl, Nat.le_of_ble_eq_true rfl⟩) (fun H locs hw => ?_)
          refine lv_goto (tgt := 115) hx hb dX7_gaol_99 (by decide) ?_
          exact h_retQ hx hb hr hlocks hw rfl (so2 h) dX7_gaol_115
      · have h := ie hc1 h
        refine lv_aload_n hx hb dX7_gaol_69 rfl (lv_at hl 0 rfl) ?_
        refine h_getR hx hb hts hnX7_gaol_X7 hown hK hw hS.1 rfl 4 (by decide) rfl hkX7_gaol_35 dX7_gaol_70 ?_
        refine lv_iload_n hx hb dX7_gaol_73 rfl (lv_at hl 1 rfl) ?_
        refine lv_iload hx hb dX7_gaol_74 (lv_at hl 5 rfl) ?_
        obtain ⟨r6, er6, h⟩ := b1_s h
        refine h_callR (va_runS (As := [.int x1, .int y5]) (rest := [.ref (ad 33)]) ⟨hx, hb, hml, hown, hts⟩ (mX7_draw l D ac ad S f x1 y5 r6  er6) (va_cwS 2 hts gX7_gaol_X7_draw rfl rfl rfl (by decide +kernel) ⟨Nat.le_of_ble_eq_true rfl, Nat.le_of_ble_eq_true rfl⟩) (h_preS hK hw _) rfl rfl hl.1 rfl (lv_room (Nat.le_of_ble_eq_true rfl)) dX7_gaol_76 ⟨Nat.le_of_ble_eq_true rfl, Nat.le_of_ble_eq_true rfl⟩) ?_
        obtain ⟨f7, ef7, h⟩ := b1_s h
        refine h_callV hw (va_runV (As := [.int r6]) (rest := []) ⟨hx, hb, hml, hown, hts⟩ (mX2_liveDay l D ac ad S 33 3 f r6 f7 hS.2.2.2.2.2.1 ef7) (cwV 1 hts gX7_gaol_X2_liveDay rfl rfl rfl (by decide +kernel) ⟨Nat.le_of_ble_eq_true rfl, Nat.le_of_ble_eq_true rfl⟩) (h_preV hK hw hS.2.2.2.2.2.1.1 rfl _) rfl rfl hl.1 rfl (lv_room (Nat.le_of_ble_eq_true rfl)) dX7_gaol_79 ⟨Nat.le_of_ble_eq_true rfl, Nat.le_of_ble_eq_true rfl⟩) (fun H locs hw => ?_)
        refine lv_iinc (v := (y5 + 1)) (lv' := [(5, .int (y5 + 1)), (0, .ref (ad 0)), (1, .int x1), (2, .int x2), (3, .int x3), (4, .int y4)]) hx hb dX7_gaol_82 hl (k := 5) rfl rfl (by decide) rfl (fun ls hl => ?_)
        refine lv_goto (tgt := 63) hx hb dX7_gaol_85 (by decide) ?_
        exact ih f7 y4 (y5 + 1) _ _ _ hw (lv_sub hl [1, 2, 3, 4, 5, 0] rfl) h
  unfold fX7_gaol at h
  refine lv_iload_n hx hb dX7_gaol_0 rfl (lv_at hl 1 rfl) ?_
  refine lv_if_lt (tgt := 29) hx hb dX7_gaol_1 (by decide) (fun hc1 => ?_) (fun hc1 => ?_)
  · have h := it hc1 h
    refine lv_iconst (v := (-1)) hx hb dX7_gaol_29 (by decide) ?_
    exact h_retQ hx hb hr hlocks hw rfl (so2 h) dX7_gaol_30
  · have h := ie hc1 h
    refine lv_iload_n hx hb dX7_gaol_4 rfl (lv_at hl 1 rfl) ?_
    refine lv_sipush (v := 9999) hx hb dX7_gaol_5 (by decide) ?_
    refine lv_icmp_gt (tgt := 29) hx hb dX7_gaol_8 (by decide) (fun hc2 => ?_) (fun hc2 => ?_)
    · have h := it hc2 h
      refine lv_iconst (v := (-1)) hx hb dX7_gaol_29 (by decide) ?_
      exact h_retQ hx hb hr hlocks hw rfl (so2 h) dX7_gaol_30
    · have h := ie hc2 h
      refine lv_iload_n hx hb dX7_gaol_11 rfl (lv_at hl 2 rfl) ?_
      refine lv_iconst (v := 1) hx hb dX7_gaol_12 (by decide) ?_
      refine lv_icmp_lt (tgt := 29) hx hb dX7_gaol_13 (by decide) (fun hc3 => ?_) (fun hc3 => ?_)
      · have h := it hc3 h
        refine lv_iconst (v := (-1)) hx hb dX7_gaol_29 (by decide) ?_
        exact h_retQ hx hb hr hlocks hw rfl (so2 h) dX7_gaol_30
      · have h := ie hc3 h
        refine lv_iload_n hx hb dX7_gaol_16 rfl (lv_at hl 2 rfl) ?_
        refine lv_bipush (v := 40) hx hb dX7_gaol_17 (by decide) ?_
        refine lv_icmp_gt (tgt := 29) hx hb dX7_gaol_19 (by decide) (fun hc4 => ?_) (fun hc4 => ?_)
        · have h := it hc4 h
          refine lv_iconst (v := (-1)) hx hb dX7_gaol_29 (by decide) ?_
          exact h_retQ hx hb hr hlocks hw rfl (so2 h) dX7_gaol_30
        · have h := ie hc4 h
          refine lv_iload_n hx hb dX7_gaol_22 rfl (lv_at hl 3 rfl) ?_
          obtain ⟨r5, er5, h⟩ := b1_s h
          refine h_callR (va_runS (As := [.int x3]) (rest := []) ⟨hx, hb, hml, hown, hts⟩ (mX7_isPart l D ac ad S f x3 r5  er5) (va_cwS 1 hts gX7_gaol_X7_isPart rfl rfl rfl (by decide +kernel) ⟨Nat.le_of_ble_eq_true rfl, Nat.le_of_ble_eq_true rfl⟩) (h_preS hK hw _) rfl rfl hl.1 rfl (lv_room (Nat.le_of_ble_eq_true rfl)) dX7_gaol_23 ⟨Nat.le_of_ble_eq_true rfl, Nat.le_of_ble_eq_true rfl⟩) ?_
          refine lv_if_ne (tgt := 31) hx hb dX7_gaol_26 (by decide) (fun hc6 => ?_) (fun hc6 => ?_)
          · have h := ie hc6 h
            refine lv_aload_n hx hb dX7_gaol_31 rfl (lv_at hl 0 rfl) ?_
            refine h_getR hx hb hts hnX7_gaol_X7 hown hK hw hS.1 rfl 4 (by decide) rfl hkX7_gaol_35 dX7_gaol_32 ?_
            refine h_getR hx hb hts hnX7_gaol_X2 hown hK hw hS.2.2.2.2.2.1.1 rfl 1 (by decide) rfl hkX7_gaol_108 dX7_gaol_35 ?_
            refine lv_aload_n hx hb dX7_gaol_38 rfl (lv_at hl 0 rfl) ?_
            refine h_getR hx hb hts hnX7_gaol_X7 hown hK hw hS.1 rfl 3 (by decide) rfl hkX7_gaol_31 dX7_gaol_39 ?_
            refine h_getR hx hb hts hnX7_gaol_X2 hown hK hw hS.2.2.2.2.1.1 rfl 1 (by decide) rfl hkX7_gaol_108 dX7_gaol_42 ?_
            obtain ⟨f7, ef7, h⟩ := b1_s h
            refine h_callV hw (va_runV (As := [.ref (ad 20)]) (rest := []) ⟨hx, hb, hml, hown, hts⟩ (mX0_copyFrom l D ac ad S 34 20 f f7 hS.2.2.2.2.2.1.2.2.2.1 hS.2.2.2.2.1.2.2.2.1 ef7) (cwV 1 hts gX7_gaol_X0_copyFrom rfl rfl rfl (by decide +kernel) ⟨Nat.le_of_ble_eq_true rfl, Nat.le_of_ble_eq_true rfl⟩) (h_preV hK hw hS.2.2.2.2.2.1.2.2.2.1.1 rfl _) rfl rfl hl.1 rfl (lv_room (Nat.le_of_ble_eq_true rfl)) dX7_gaol_45 ⟨Nat.le_of_ble_eq_true rfl, Nat.le_of_ble_eq_true rfl⟩) (fun H locs hw => ?_)
            refine lv_aload_n hx hb dX7_gaol_48 rfl (lv_at hl 0 rfl) ?_
            refine h_getR hx hb hts hnX7_gaol_X7 hown hK hw hS.1 rfl 4 (by decide) rfl hkX7_gaol_35 dX7_gaol_49 ?_
            refine h_getR hx hb hts hnX7_gaol_X2 hown hK hw hS.2.2.2.2.2.1.1 rfl 1 (by decide) rfl hkX7_gaol_108 dX7_gaol_52 ?_
            obtain ⟨r8, er8, h⟩ := b1_s h
            refine h_callR (va_runV (As := []) (rest := []) ⟨hx, hb, hml, hown, hts⟩ (mX0_paidInAll l D ac ad S 34 f7 r8 hS.2.2.2.2.2.1.2.2.2.1 er8) (cwV 0 hts gX7_gaol_X0_paidInAll rfl rfl rfl (by decide +kernel) ⟨Nat.le_of_ble_eq_true rfl, Nat.le_of_ble_eq_true rfl⟩) (h_preV hK hw hS.2.2.2.2.2.1.2.2.2.1.1 rfl _) rfl rfl hl.1 rfl (lv_room (Nat.le_of_ble_eq_true rfl)) dX7_gaol_55 ⟨Nat.le_of_ble_eq_true rfl, Nat.le_of_ble_eq_true rfl⟩) ?_
            refine lv_istore (lv' := [(4, .int r8), (0, .ref (ad 0)), (1, .int x1), (2, .int x2), (3, .int x3)]) hx hb dX7_gaol_58 hl (by decide) rfl (fun ls hl => ?_)
            refine lv_iconst (v := 0) hx hb dX7_gaol_60 (by decide) ?_
            refine lv_istore (lv' := [(5, .int 0), (4, .int r8), (0, .ref (ad 0)), (1, .int x1), (2, .int x2), (3, .int x3)]) hx hb dX7_gaol_61 hl (by decide) rfl (fun ls hl => ?_)
            exact J63 _ f7 r8 0 _ _ _ hw (lv_sub hl [2, 3, 4, 5, 1, 0] rfl) h
          · have h := it hc6 h
            refine lv_iconst (v := (-1)) hx hb dX7_gaol_29 (by decide) ?_
            exact h_retQ hx hb hr hlocks hw rfl (so2 h) dX7_gaol_30

theorem hnX7_keep_X7 : ∀ w ∈ wsX70, w ∈ wsX7_keep := by decide +kernel
theorem hkX7_keep_54 : Cond.fieldLink RX7 54 (TX7 7).1 (TX7 7).2.1 (TX7 7).2.2.1 ∈ wsX7_keep := by decide +kernel
theorem hnX7_keep_X5 : ∀ w ∈ wsX50, w ∈ wsX7_keep := by decide +kernel
theorem hkX7_keep_92 : Cond.fieldLink RX7 92 (TX5 1).1 (TX5 1).2.1 (TX5 1).2.2.1 ∈ wsX7_keep := by decide +kernel
theorem hkX7_keep_31 : Cond.fieldLink RX7 31 (TX7 3).1 (TX7 3).2.1 (TX7 3).2.2.1 ∈ wsX7_keep := by decide +kernel
theorem hnX7_keep_X2 : ∀ w ∈ wsX20, w ∈ wsX7_keep := by decide +kernel
theorem hkX7_keep_108 : Cond.fieldLink RX7 108 (TX2 1).1 (TX2 1).2.1 (TX2 1).2.2.1 ∈ wsX7_keep := by decide +kernel
set_option maxHeartbeats 8000000 in
set_option maxRecDepth 100000 in
theorem mX7_keep (l : Launch) (D : va_G) (ac : Nat → ClassId) (ad : Nat → Nat) (S : List hSh) (f : hF) (rv : Int32) (gv : hF) (hS : isPW S) (h : fX7_keep f = some (rv, gv)) : Met l yX7_keep wsX7_keep ({ frames := 3, cells := 0, slots := 0, locals := 74 }) (hPc D ac ad S f [.ref (ad 0)]) (hQi D ac ad S rv gv) 0 0 (hAd ad S.length) := by
  refine h_enter (C := RX7) (cc := cX7_keep) (maxL := 1) (ret := (some .int)) (lv := [(0, .ref (ad 0))]) (by decide) rfl rfl (Nat.le_of_ble_eq_true rfl) rfl (fun p e s m below meth c ls hx hb hml hr hlocks hown hts hK hw hl => ?_)
  unfold fX7_keep at h
  refine lv_aload_n hx hb dX7_keep_0 rfl (lv_at hl 0 rfl) ?_
  refine h_getR hx hb hts hnX7_keep_X7 hown hK hw hS.1 rfl 7 (by decide) rfl hkX7_keep_54 dX7_keep_1 ?_
  refine h_getI hx hb hts hnX7_keep_X5 hown hK hw hS.2.2.2.2.2.2.2.2.1 rfl 1 (by decide) rfl hkX7_keep_92 dX7_keep_4 ?_
  refine lv_iconst (v := 2) hx hb dX7_keep_7 (by decide) ?_
  refine lv_icmp_lt (tgt := 14) hx hb dX7_keep_8 (by decide) (fun hc1 => ?_) (fun hc1 => ?_)
  · have h := it hc1 h
    refine lv_aload_n hx hb dX7_keep_14 rfl (lv_at hl 0 rfl) ?_
    refine h_getR hx hb hts hnX7_keep_X7 hown hK hw hS.1 rfl 7 (by decide) rfl hkX7_keep_54 dX7_keep_15 ?_
    refine lv_aload_n hx hb dX7_keep_18 rfl (lv_at hl 0 rfl) ?_
    refine h_getR hx hb hts hnX7_keep_X7 hown hK hw hS.1 rfl 3 (by decide) rfl hkX7_keep_31 dX7_keep_19 ?_
    refine h_getR hx hb hts hnX7_keep_X2 hown hK hw hS.2.2.2.2.1.1 rfl 1 (by decide) rfl hkX7_keep_108 dX7_keep_22 ?_
    obtain ⟨f2, ef2, h⟩ := b1_s h
    refine h_callV hw (va_runV (As := [.ref (ad 20)]) (rest := []) ⟨hx, hb, hml, hown, hts⟩ (mX5_put l D ac ad S 126 2 20 f f2 hS.2.2.2.2.2.2.2.2 hS.2.2.2.2.1.2.2.2.1 ef2) (cwV 1 hts gX7_keep_X5_put rfl rfl rfl (by decide +kernel) ⟨Nat.le_of_ble_eq_true rfl, Nat.le_of_ble_eq_true rfl⟩) (h_preV hK hw hS.2.2.2.2.2.2.2.2.1 rfl _) rfl rfl hl.1 rfl (lv_room (Nat.le_of_ble_eq_true rfl)) dX7_keep_25 ⟨Nat.le_of_ble_eq_true rfl, Nat.le_of_ble_eq_true rfl⟩) (fun H locs hw => ?_)
    refine lv_aload_n hx hb dX7_keep_28 rfl (lv_at hl 0 rfl) ?_
    refine h_getR hx hb hts hnX7_keep_X7 hown hK hw hS.1 rfl 7 (by decide) rfl hkX7_keep_54 dX7_keep_29 ?_
    refine h_getI hx hb hts hnX7_keep_X5 hown hK hw hS.2.2.2.2.2.2.2.2.1 rfl 1 (by decide) rfl hkX7_keep_92 dX7_keep_32 ?_
    exact h_retQ hx hb hr hlocks hw rfl (so2 h) dX7_keep_35
  · have h := ie hc1 h
    refine lv_bipush (v := (-3)) hx hb dX7_keep_11 (by decide) ?_
    exact h_retQ hx hb hr hlocks hw rfl (so2 h) dX7_keep_13

theorem hnX7_back_X7 : ∀ w ∈ wsX70, w ∈ wsX7_back := by decide +kernel
theorem hkX7_back_54 : Cond.fieldLink RX7 54 (TX7 7).1 (TX7 7).2.1 (TX7 7).2.2.1 ∈ wsX7_back := by decide +kernel
theorem hkX7_back_31 : Cond.fieldLink RX7 31 (TX7 3).1 (TX7 3).2.1 (TX7 3).2.2.1 ∈ wsX7_back := by decide +kernel
theorem hnX7_back_X2 : ∀ w ∈ wsX20, w ∈ wsX7_back := by decide +kernel
theorem hkX7_back_108 : Cond.fieldLink RX7 108 (TX2 1).1 (TX2 1).2.1 (TX2 1).2.2.1 ∈ wsX7_back := by decide +kernel
theorem hkX7_back_50 : Cond.fieldLink RX7 50 (TX7 6).1 (TX7 6).2.1 (TX7 6).2.2.1 ∈ wsX7_back := by decide +kernel
theorem hnX7_back_X5 : ∀ w ∈ wsX50, w ∈ wsX7_back := by decide +kernel
theorem hkX7_back_92 : Cond.fieldLink RX7 92 (TX5 1).1 (TX5 1).2.1 (TX5 1).2.2.1 ∈ wsX7_back := by decide +kernel
set_option maxHeartbeats 8000000 in
set_option maxRecDepth 100000 in
theorem mX7_back (l : Launch) (D : va_G) (ac : Nat → ClassId) (ad : Nat → Nat) (S : List hSh) (f : hF) (rv : Int32) (gv : hF) (hS : isPW S) (h : fX7_back f = some (rv, gv)) : Met l yX7_back wsX7_back ({ frames := 3, cells := 0, slots := 0, locals := 74 }) (hPc D ac ad S f [.ref (ad 0)]) (hQi D ac ad S rv gv) 0 0 (hAd ad S.length) := by
  refine h_enter (C := RX7) (cc := cX7_back) (maxL := 1) (ret := (some .int)) (lv := [(0, .ref (ad 0))]) (by decide) rfl rfl (Nat.le_of_ble_eq_true rfl) rfl (fun p e s m below meth c ls hx hb hml hr hlocks hown hts hK hw hl => ?_)
  unfold fX7_back at h
  refine lv_aload_n hx hb dX7_back_0 rfl (lv_at hl 0 rfl) ?_
  refine h_getR hx hb hts hnX7_back_X7 hown hK hw hS.1 rfl 7 (by decide) rfl hkX7_back_54 dX7_back_1 ?_
  refine lv_aload_n hx hb dX7_back_4 rfl (lv_at hl 0 rfl) ?_
  refine h_getR hx hb hts hnX7_back_X7 hown hK hw hS.1 rfl 3 (by decide) rfl hkX7_back_31 dX7_back_5 ?_
  refine h_getR hx hb hts hnX7_back_X2 hown hK hw hS.2.2.2.2.1.1 rfl 1 (by decide) rfl hkX7_back_108 dX7_back_8 ?_
  obtain ⟨r1, f2, ef2, h⟩ := b2_s h
  refine h_callQ hw (va_runV (As := [.ref (ad 20)]) (rest := []) ⟨hx, hb, hml, hown, hts⟩ (mX5_takeInto l D ac ad S 126 2 20 f r1 f2 hS.2.2.2.2.2.2.2.2 hS.2.2.2.2.1.2.2.2.1 ef2) (cwV 1 hts gX7_back_X5_takeInto rfl rfl rfl (by decide +kernel) ⟨Nat.le_of_ble_eq_true rfl, Nat.le_of_ble_eq_true rfl⟩) (h_preV hK hw hS.2.2.2.2.2.2.2.2.1 rfl _) rfl rfl hl.1 rfl (lv_room (Nat.le_of_ble_eq_true rfl)) dX7_back_11 ⟨Nat.le_of_ble_eq_true rfl, Nat.le_of_ble_eq_true rfl⟩) (fun H locs hw => ?_)
  refine lv_if_ne (tgt := 20) hx hb dX7_back_14 (by decide) (fun hc3 => ?_) (fun hc3 => ?_)
  · have h := ie hc3 h
    refine lv_aload_n hx hb dX7_back_20 rfl (lv_at hl 0 rfl) ?_
    refine h_getR hx hb hts hnX7_back_X7 hown hK hw hS.1 rfl 6 (by decide) rfl hkX7_back_50 dX7_back_21 ?_
    refine lv_iconst (v := 0) hx hb dX7_back_24 (by decide) ?_
    obtain ⟨f4, ef4, h⟩ := lt_s2 h
    refine h_putI (g := f4) ef4 hx hb hts hnX7_back_X5 tyX5 tyX5_ok nmX5 hown hK hw hS.2.2.2.2.2.2.2.1.1 rfl 1 rfl (by decide) rfl hkX7_back_92 rfl (by decide +kernel) dX7_back_25 (fun H locs hw => ?_)
    refine lv_aload_n hx hb dX7_back_28 rfl (lv_at hl 0 rfl) ?_
    refine h_getR hx hb hts hnX7_back_X7 hown hK hw hS.1 rfl 7 (by decide) rfl hkX7_back_54 dX7_back_29 ?_
    refine h_getI hx hb hts hnX7_back_X5 hown hK hw hS.2.2.2.2.2.2.2.2.1 rfl 1 (by decide) rfl hkX7_back_92 dX7_back_32 ?_
    exact h_retQ hx hb hr hlocks hw rfl (so2 h) dX7_back_35
  · have h := it hc3 h
    refine lv_bipush (v := (-2)) hx hb dX7_back_17 (by decide) ?_
    exact h_retQ hx hb hr hlocks hw rfl (so2 h) dX7_back_19

theorem hnX7_count_X7 : ∀ w ∈ wsX70, w ∈ wsX7_count := by decide +kernel
theorem hkX7_count_19 : Cond.fieldLink RX7 19 (TX7 1).1 (TX7 1).2.1 (TX7 1).2.2.1 ∈ wsX7_count := by decide +kernel
theorem hnX7_count_X3 : ∀ w ∈ wsX30, w ∈ wsX7_count := by decide +kernel
theorem hkX7_count_83 : Cond.fieldLink RX7 83 (TX3 0).1 (TX3 0).2.1 (TX3 0).2.2.1 ∈ wsX7_count := by decide +kernel
theorem hkX7_count_86 : Cond.fieldLink RX7 86 (TX3 1).1 (TX3 1).2.1 (TX3 1).2.2.1 ∈ wsX7_count := by decide +kernel
theorem hkX7_count_31 : Cond.fieldLink RX7 31 (TX7 3).1 (TX7 3).2.1 (TX7 3).2.2.1 ∈ wsX7_count := by decide +kernel
theorem hnX7_count_X2 : ∀ w ∈ wsX20, w ∈ wsX7_count := by decide +kernel
theorem hkX7_count_108 : Cond.fieldLink RX7 108 (TX2 1).1 (TX2 1).2.1 (TX2 1).2.2.1 ∈ wsX7_count := by decide +kernel
theorem hnX7_count_X0 : ∀ w ∈ wsX00, w ∈ wsX7_count := by decide +kernel
theorem hkX7_count_205 : Cond.fieldLink RX7 205 (TX0 0).1 (TX0 0).2.1 (TX0 0).2.2.1 ∈ wsX7_count := by decide +kernel
theorem hkX7_count_288 : Cond.fieldLink RX7 288 (TX3 2).1 (TX3 2).2.1 (TX3 2).2.2.1 ∈ wsX7_count := by decide +kernel
theorem hkX7_count_41 : Cond.fieldLink RX7 41 (TX7 5).1 (TX7 5).2.1 (TX7 5).2.2.1 ∈ wsX7_count := by decide +kernel
theorem hnX7_count_X6 : ∀ w ∈ wsX60, w ∈ wsX7_count := by decide +kernel
theorem hkX7_count_89 : Cond.fieldLink RX7 89 (TX6 0).1 (TX6 0).2.1 (TX6 0).2.2.1 ∈ wsX7_count := by decide +kernel
theorem hkX7_count_50 : Cond.fieldLink RX7 50 (TX7 6).1 (TX7 6).2.1 (TX7 6).2.2.1 ∈ wsX7_count := by decide +kernel
theorem hnX7_count_X5 : ∀ w ∈ wsX50, w ∈ wsX7_count := by decide +kernel
theorem hkX7_count_92 : Cond.fieldLink RX7 92 (TX5 1).1 (TX5 1).2.1 (TX5 1).2.2.1 ∈ wsX7_count := by decide +kernel
theorem hkX7_count_54 : Cond.fieldLink RX7 54 (TX7 7).1 (TX7 7).2.1 (TX7 7).2.2.1 ∈ wsX7_count := by decide +kernel
theorem hkX7_count_12 : Cond.fieldLink RX7 12 (TX7 0).1 (TX7 0).2.1 (TX7 0).2.2.1 ∈ wsX7_count := by decide +kernel
theorem hnX7_count_X4 : ∀ w ∈ wsX40, w ∈ wsX7_count := by decide +kernel
theorem hkX7_count_80 : Cond.fieldLink RX7 80 (TX4 1).1 (TX4 1).2.1 (TX4 1).2.2.1 ∈ wsX7_count := by decide +kernel
set_option maxHeartbeats 8000000 in
set_option maxRecDepth 100000 in
theorem mX7_count (l : Launch) (D : va_G) (ac : Nat → ClassId) (ad : Nat → Nat) (S : List hSh) (f : hF) (x1 : Int32) (rv : Int32) (gv : hF) (hS : isPW S) (h : fX7_count f x1 = some (rv, gv)) : Met l yX7_count wsX7_count ({ frames := 5, cells := 0, slots := 0, locals := 110 }) (hPc D ac ad S f [.ref (ad 0), .int x1]) (hQi D ac ad S rv gv) 0 0 (hAd ad S.length) := by
  refine h_enter (C := RX7) (cc := cX7_count) (maxL := 2) (ret := (some .int)) (lv := [(0, .ref (ad 0)), (1, .int x1)]) (by decide) rfl rfl (Nat.le_of_ble_eq_true rfl) rfl (fun p e s m below meth c ls hx hb hml hr hlocks hown hts hK hw hl => ?_)
  unfold fX7_count at h
  refine lv_iload_n hx hb dX7_count_0 rfl (lv_at hl 1 rfl) ?_
  by_cases hc5 : x1 = 0
  · have h := it hc5 h
    refine lv_tableIn (off := 59) (tgt := 60) hx hb dX7_count_1 (by rw [hc5]; decide) (by rw [hc5]; decide) (by rw [hc5]; rfl) (by decide) ?_
    refine lv_aload_n hx hb dX7_count_60 rfl (lv_at hl 0 rfl) ?_
    refine h_getR hx hb hts hnX7_count_X7 hown hK hw hS.1 rfl 1 (by decide) rfl hkX7_count_19 dX7_count_61 ?_
    refine h_getI hx hb hts hnX7_count_X3 hown hK hw hS.2.2.1.1 rfl 0 (by decide) rfl hkX7_count_83 dX7_count_64 ?_
    exact h_retQ hx hb hr hlocks hw rfl (so2 h) dX7_count_67
  · have h := ie hc5 h
    by_cases hc6 : x1 = 1
    · have h := it hc6 h
      refine lv_tableIn (off := 67) (tgt := 68) hx hb dX7_count_1 (by rw [hc6]; decide) (by rw [hc6]; decide) (by rw [hc6]; rfl) (by decide) ?_
      refine lv_aload_n hx hb dX7_count_68 rfl (lv_at hl 0 rfl) ?_
      refine h_getR hx hb hts hnX7_count_X7 hown hK hw hS.1 rfl 1 (by decide) rfl hkX7_count_19 dX7_count_69 ?_
      refine h_getI hx hb hts hnX7_count_X3 hown hK hw hS.2.2.1.1 rfl 1 (by decide) rfl hkX7_count_86 dX7_count_72 ?_
      exact h_retQ hx hb hr hlocks hw rfl (so2 h) dX7_count_75
    · have h := ie hc6 h
      by_cases hc7 : x1 = 2
      · have h := it hc7 h
        refine lv_tableIn (off := 75) (tgt := 76) hx hb dX7_count_1 (by rw [hc7]; decide) (by rw [hc7]; decide) (by rw [hc7]; rfl) (by decide) ?_
        refine lv_aload_n hx hb dX7_count_76 rfl (lv_at hl 0 rfl) ?_
        refine h_getR hx hb hts hnX7_count_X7 hown hK hw hS.1 rfl 3 (by decide) rfl hkX7_count_31 dX7_count_77 ?_
        refine h_getR hx hb hts hnX7_count_X2 hown hK hw hS.2.2.2.2.1.1 rfl 1 (by decide) rfl hkX7_count_108 dX7_count_80 ?_
        refine h_getI hx hb hts hnX7_count_X0 hown hK hw hS.2.2.2.2.1.2.2.2.1.1 rfl 0 (by decide) rfl hkX7_count_205 dX7_count_83 ?_
        exact h_retQ hx hb hr hlocks hw rfl (so2 h) dX7_count_86
      · have h := ie hc7 h
        by_cases hc8 : x1 = 3
        · have h := it hc8 h
          refine lv_tableIn (off := 86) (tgt := 87) hx hb dX7_count_1 (by rw [hc8]; decide) (by rw [hc8]; decide) (by rw [hc8]; rfl) (by decide) ?_
          refine lv_aload_n hx hb dX7_count_87 rfl (lv_at hl 0 rfl) ?_
          refine h_getR hx hb hts hnX7_count_X7 hown hK hw hS.1 rfl 1 (by decide) rfl hkX7_count_19 dX7_count_88 ?_
          refine h_getI hx hb hts hnX7_count_X3 hown hK hw hS.2.2.1.1 rfl 2 (by decide) rfl hkX7_count_288 dX7_count_91 ?_
          exact h_retQ hx hb hr hlocks hw rfl (so2 h) dX7_count_94
        · have h := ie hc8 h
          by_cases hc9 : x1 = 4
          · have h := it hc9 h
            refine lv_tableIn (off := 94) (tgt := 95) hx hb dX7_count_1 (by rw [hc9]; decide) (by rw [hc9]; decide) (by rw [hc9]; rfl) (by decide) ?_
            refine lv_aload_n hx hb dX7_count_95 rfl (lv_at hl 0 rfl) ?_
            refine h_getR hx hb hts hnX7_count_X7 hown hK hw hS.1 rfl 3 (by decide) rfl hkX7_count_31 dX7_count_96 ?_
            refine h_getR hx hb hts hnX7_count_X2 hown hK hw hS.2.2.2.2.1.1 rfl 1 (by decide) rfl hkX7_count_108 dX7_count_99 ?_
            refine lv_iconst (v := 1) hx hb dX7_count_102 (by decide) ?_
            obtain ⟨r1, er1, h⟩ := b1_s h
            refine h_callR (va_runV (As := [.int 1]) (rest := []) ⟨hx, hb, hml, hown, hts⟩ (mX0_countOf l D ac ad S 20 f (1 : Int32) r1 hS.2.2.2.2.1.2.2.2.1 er1) (cwV 1 hts gX7_count_X0_countOf rfl rfl rfl (by decide +kernel) ⟨Nat.le_of_ble_eq_true rfl, Nat.le_of_ble_eq_true rfl⟩) (h_preV hK hw hS.2.2.2.2.1.2.2.2.1.1 rfl _) rfl rfl hl.1 rfl (lv_room (Nat.le_of_ble_eq_true rfl)) dX7_count_103 ⟨Nat.le_of_ble_eq_true rfl, Nat.le_of_ble_eq_true rfl⟩) ?_
            exact h_retQ hx hb hr hlocks hw rfl (so2 h) dX7_count_106
          · have h := ie hc9 h
            by_cases hc10 : x1 = 5
            · have h := it hc10 h
              refine lv_tableIn (off := 106) (tgt := 107) hx hb dX7_count_1 (by rw [hc10]; decide) (by rw [hc10]; decide) (by rw [hc10]; rfl) (by decide) ?_
              refine lv_aload_n hx hb dX7_count_107 rfl (lv_at hl 0 rfl) ?_
              refine h_getR hx hb hts hnX7_count_X7 hown hK hw hS.1 rfl 3 (by decide) rfl hkX7_count_31 dX7_count_108 ?_
              obtain ⟨r2, f3, ef3, h⟩ := b2_s h
              refine h_callQ hw (va_runV (As := []) (rest := []) ⟨hx, hb, hml, hown, hts⟩ (mX2_countHeld l D ac ad S 19 3 f r2 f3 hS.2.2.2.2.1 ef3) (cwV 0 hts gX7_count_X2_countHeld rfl rfl rfl (by decide +kernel) ⟨Nat.le_of_ble_eq_true rfl, Nat.le_of_ble_eq_true rfl⟩) (h_preV hK hw hS.2.2.2.2.1.1 rfl _) rfl rfl hl.1 rfl (lv_room (Nat.le_of_ble_eq_true rfl)) dX7_count_111 ⟨Nat.le_of_ble_eq_true rfl, Nat.le_of_ble_eq_true rfl⟩) (fun H locs hw => ?_)
              exact h_retQ hx hb hr hlocks hw rfl (so2 h) dX7_count_114
            · have h := ie hc10 h
              by_cases hc11 : x1 = 6
              · have h := it hc11 h
                refine lv_tableIn (off := 114) (tgt := 115) hx hb dX7_count_1 (by rw [hc11]; decide) (by rw [hc11]; decide) (by rw [hc11]; rfl) (by decide) ?_
                refine lv_aload_n hx hb dX7_count_115 rfl (lv_at hl 0 rfl) ?_
                refine h_getR hx hb hts hnX7_count_X7 hown hK hw hS.1 rfl 3 (by decide) rfl hkX7_count_31 dX7_count_116 ?_
                refine h_getR hx hb hts hnX7_count_X2 hown hK hw hS.2.2.2.2.1.1 rfl 1 (by decide) rfl hkX7_count_108 dX7_count_119 ?_
                refine lv_iconst (v := 0) hx hb dX7_count_122 (by decide) ?_
                obtain ⟨r4, er4, h⟩ := b1_s h
                refine h_callR (va_runV (As := [.int 0]) (rest := []) ⟨hx, hb, hml, hown, hts⟩ (mX0_countOf l D ac ad S 20 f (0 : Int32) r4 hS.2.2.2.2.1.2.2.2.1 er4) (cwV 1 hts gX7_count_X0_countOf rfl rfl rfl (by decide +kernel) ⟨Nat.le_of_ble_eq_true rfl, Nat.le_of_ble_eq_true rfl⟩) (h_preV hK hw hS.2.2.2.2.1.2.2.2.1.1 rfl _) rfl rfl hl.1 rfl (lv_room (Nat.le_of_ble_eq_true rfl)) dX7_count_123 ⟨Nat.le_of_ble_eq_true rfl, Nat.le_of_ble_eq_true rfl⟩) ?_
                exact h_retQ hx hb hr hlocks hw rfl (so2 h) dX7_count_126
              · have h := ie hc11 h
                by_cases hc12 : x1 = 7
                · have h := it hc12 h
                  refine lv_tableIn (off := 126) (tgt := 127) hx hb dX7_count_1 (by rw [hc12]; decide) (by rw [hc12]; decide) (by rw [hc12]; rfl) (by decide) ?_
                  refine lv_aload_n hx hb dX7_count_127 rfl (lv_at hl 0 rfl) ?_
                  refine h_getR hx hb hts hnX7_count_X7 hown hK hw hS.1 rfl 5 (by decide) rfl hkX7_count_41 dX7_count_128 ?_
                  refine h_getI hx hb hts hnX7_count_X6 hown hK hw hS.2.2.2.2.2.2.1.1 rfl 0 (by decide) rfl hkX7_count_89 dX7_count_131 ?_
                  exact h_retQ hx hb hr hlocks hw rfl (so2 h) dX7_count_134
                · have h := ie hc12 h
                  by_cases hc13 : x1 = 8
                  · have h := it hc13 h
                    refine lv_tableIn (off := 134) (tgt := 135) hx hb dX7_count_1 (by rw [hc13]; decide) (by rw [hc13]; decide) (by rw [hc13]; rfl) (by decide) ?_
                    refine lv_aload_n hx hb dX7_count_135 rfl (lv_at hl 0 rfl) ?_
                    refine h_getR hx hb hts hnX7_count_X7 hown hK hw hS.1 rfl 6 (by decide) rfl hkX7_count_50 dX7_count_136 ?_
                    refine h_getI hx hb hts hnX7_count_X5 hown hK hw hS.2.2.2.2.2.2.2.1.1 rfl 1 (by decide) rfl hkX7_count_92 dX7_count_139 ?_
                    exact h_retQ hx hb hr hlocks hw rfl (so2 h) dX7_count_142
                  · have h := ie hc13 h
                    by_cases hc14 : x1 = 9
                    · have h := it hc14 h
                      refine lv_tableIn (off := 142) (tgt := 143) hx hb dX7_count_1 (by rw [hc14]; decide) (by rw [hc14]; decide) (by rw [hc14]; rfl) (by decide) ?_
                      refine lv_aload_n hx hb dX7_count_143 rfl (lv_at hl 0 rfl) ?_
                      refine h_getR hx hb hts hnX7_count_X7 hown hK hw hS.1 rfl 7 (by decide) rfl hkX7_count_54 dX7_count_144 ?_
                      refine h_getI hx hb hts hnX7_count_X5 hown hK hw hS.2.2.2.2.2.2.2.2.1 rfl 1 (by decide) rfl hkX7_count_92 dX7_count_147 ?_
                      exact h_retQ hx hb hr hlocks hw rfl (so2 h) dX7_count_150
                    · have h := ie hc14 h
                      by_cases hc15 : x1 = 10
                      · have h := it hc15 h
                        refine lv_tableIn (off := 150) (tgt := 151) hx hb dX7_count_1 (by rw [hc15]; decide) (by rw [hc15]; decide) (by rw [hc15]; rfl) (by decide) ?_
                        refine lv_aload_n hx hb dX7_count_151 rfl (lv_at hl 0 rfl) ?_
                        refine h_getR hx hb hts hnX7_count_X7 hown hK hw hS.1 rfl 0 (by decide) rfl hkX7_count_12 dX7_count_152 ?_
                        refine h_getI hx hb hts hnX7_count_X4 hown hK hw hS.2.1.1 rfl 1 (by decide) rfl hkX7_count_80 dX7_count_155 ?_
                        exact h_retQ hx hb hr hlocks hw rfl (so2 h) dX7_count_158
                      · have h := ie hc15 h
                        have nhc5 := lv_neT (a := 0) hc5 rfl
                        have nhc6 := lv_neT (a := 1) hc6 rfl
                        have nhc7 := lv_neT (a := 2) hc7 rfl
                        have nhc8 := lv_neT (a := 3) hc8 rfl
                        have nhc9 := lv_neT (a := 4) hc9 rfl
                        have nhc10 := lv_neT (a := 5) hc10 rfl
                        have nhc11 := lv_neT (a := 6) hc11 rfl
                        have nhc12 := lv_neT (a := 7) hc12 rfl
                        have nhc13 := lv_neT (a := 8) hc13 rfl
                        have nhc14 := lv_neT (a := 9) hc14 rfl
                        have nhc15 := lv_neT (a := 10) hc15 rfl
                        refine lv_tableOut (tgt := 159) hx hb dX7_count_1 (by omega) (by decide) ?_
                        refine lv_iconst (v := (-1)) hx hb dX7_count_159 (by decide) ?_
                        exact h_retQ hx hb hr hlocks hw rfl (so2 h) dX7_count_160

theorem hnX8_tellsPerson_X8 : ∀ w ∈ wsX80, w ∈ wsX8_tellsPerson := by decide +kernel
theorem hkX8_tellsPerson_34 : Cond.fieldLink RX8 34 (TX8 17).1 (TX8 17).2.1 (TX8 17).2.2.1 ∈ wsX8_tellsPerson := by decide +kernel
theorem hkX8_tellsPerson_74 : Cond.fieldLink RX8 74 (TX8 16).1 (TX8 16).2.1 (TX8 16).2.2.1 ∈ wsX8_tellsPerson := by decide +kernel
theorem hkX8_tellsPerson_37 : Cond.fieldLink RX8 37 (TX8 18).1 (TX8 18).2.1 (TX8 18).2.2.1 ∈ wsX8_tellsPerson := by decide +kernel
set_option maxHeartbeats 8000000 in
set_option maxRecDepth 100000 in
theorem mX8_tellsPerson (l : Launch) (D : va_G) (ac : Nat → ClassId) (ad : Nat → Nat) (S : List hSh) (f : hF) (x1 : Int32) (x2 : Int32) (x3 : Int32) (x4 : Int32) (gv : hF) (hS : isMo S) (h : fX8_tellsPerson f x1 x2 x3 x4 = some gv) : Met l yX8_tellsPerson wsX8_tellsPerson ({ frames := 0, cells := 0, slots := 0, locals := 0 }) (hPc D ac ad S f [.ref (ad 146), .int x1, .int x2, .int x3, .int x4]) (hQv D ac ad S gv) 0 0 (hAd ad S.length) := by
  refine h_enter (C := RX8) (cc := cX8_tellsPerson) (maxL := 5) (ret := none) (lv := [(0, .ref (ad 146)), (1, .int x1), (2, .int x2), (3, .int x3), (4, .int x4)]) (by decide) rfl rfl (Nat.le_of_ble_eq_true rfl) rfl (fun p e s m below meth c ls hx hb hml hr hlocks hown hts hK hw hl => ?_)
  unfold fX8_tellsPerson at h
  refine lv_aload_n hx hb dX8_tellsPerson_0 rfl (lv_at hl 0 rfl) ?_
  refine h_getR hx hb hts hnX8_tellsPerson_X8 hown hK hw hS.1 rfl 17 (by decide) rfl hkX8_tellsPerson_34 dX8_tellsPerson_1 ?_
  refine lv_iconst (v := 3) hx hb dX8_tellsPerson_4 (by decide) ?_
  refine lv_aload_n hx hb dX8_tellsPerson_5 rfl (lv_at hl 0 rfl) ?_
  refine h_getI hx hb hts hnX8_tellsPerson_X8 hown hK hw hS.1 rfl 16 (by decide) rfl hkX8_tellsPerson_74 dX8_tellsPerson_6 ?_
  refine lv_imul hx hb dX8_tellsPerson_9 ?_
  refine lv_iload_n hx hb dX8_tellsPerson_10 rfl (lv_at hl 1 rfl) ?_
  obtain ⟨hi1, h⟩ := gd_s h
  obtain ⟨f2, ef2, h⟩ := lt_s2 h
  refine h_iast (g := f2) ef2 hx hb hK hw hS.2.2.2.2.2.2.2.2.2.1 hi1 dX8_tellsPerson_11 (fun H locs hw => ?_)
  refine lv_aload_n hx hb dX8_tellsPerson_12 rfl (lv_at hl 0 rfl) ?_
  refine h_getR hx hb hts hnX8_tellsPerson_X8 hown hK hw hS.1 rfl 17 (by decide) rfl hkX8_tellsPerson_34 dX8_tellsPerson_13 ?_
  refine lv_iconst (v := 3) hx hb dX8_tellsPerson_16 (by decide) ?_
  refine lv_aload_n hx hb dX8_tellsPerson_17 rfl (lv_at hl 0 rfl) ?_
  refine h_getI hx hb hts hnX8_tellsPerson_X8 hown hK hw hS.1 rfl 16 (by decide) rfl hkX8_tellsPerson_74 dX8_tellsPerson_18 ?_
  refine lv_imul hx hb dX8_tellsPerson_21 ?_
  refine lv_iconst (v := 1) hx hb dX8_tellsPerson_22 (by decide) ?_
  refine lv_iadd hx hb dX8_tellsPerson_23 ?_
  refine lv_iload_n hx hb dX8_tellsPerson_24 rfl (lv_at hl 2 rfl) ?_
  obtain ⟨hi3, h⟩ := gd_s h
  obtain ⟨f4, ef4, h⟩ := lt_s2 h
  refine h_iast (g := f4) ef4 hx hb hK hw hS.2.2.2.2.2.2.2.2.2.1 hi3 dX8_tellsPerson_25 (fun H locs hw => ?_)
  refine lv_aload_n hx hb dX8_tellsPerson_26 rfl (lv_at hl 0 rfl) ?_
  refine h_getR hx hb hts hnX8_tellsPerson_X8 hown hK hw hS.1 rfl 17 (by decide) rfl hkX8_tellsPerson_34 dX8_tellsPerson_27 ?_
  refine lv_iconst (v := 3) hx hb dX8_tellsPerson_30 (by decide) ?_
  refine lv_aload_n hx hb dX8_tellsPerson_31 rfl (lv_at hl 0 rfl) ?_
  refine h_getI hx hb hts hnX8_tellsPerson_X8 hown hK hw hS.1 rfl 16 (by decide) rfl hkX8_tellsPerson_74 dX8_tellsPerson_32 ?_
  refine lv_imul hx hb dX8_tellsPerson_35 ?_
  refine lv_iconst (v := 2) hx hb dX8_tellsPerson_36 (by decide) ?_
  refine lv_iadd hx hb dX8_tellsPerson_37 ?_
  refine lv_iload_n hx hb dX8_tellsPerson_38 rfl (lv_at hl 3 rfl) ?_
  obtain ⟨hi5, h⟩ := gd_s h
  obtain ⟨f6, ef6, h⟩ := lt_s2 h
  refine h_iast (g := f6) ef6 hx hb hK hw hS.2.2.2.2.2.2.2.2.2.1 hi5 dX8_tellsPerson_39 (fun H locs hw => ?_)
  refine lv_aload_n hx hb dX8_tellsPerson_40 rfl (lv_at hl 0 rfl) ?_
  refine h_getR hx hb hts hnX8_tellsPerson_X8 hown hK hw hS.1 rfl 18 (by decide) rfl hkX8_tellsPerson_37 dX8_tellsPerson_41 ?_
  refine lv_aload_n hx hb dX8_tellsPerson_44 rfl (lv_at hl 0 rfl) ?_
  refine h_getI hx hb hts hnX8_tellsPerson_X8 hown hK hw hS.1 rfl 16 (by decide) rfl hkX8_tellsPerson_74 dX8_tellsPerson_45 ?_
  refine lv_iload hx hb dX8_tellsPerson_48 (lv_at hl 4 rfl) ?_
  obtain ⟨hi7, h⟩ := gd_s h
  obtain ⟨f8, ef8, h⟩ := lt_s2 h
  refine h_iast (g := f8) ef8 hx hb hK hw hS.2.2.2.2.2.2.2.2.2.2.1 hi7 dX8_tellsPerson_50 (fun H locs hw => ?_)
  refine lv_aload_n hx hb dX8_tellsPerson_51 rfl (lv_at hl 0 rfl) ?_
  refine lv_dup hx hb dX8_tellsPerson_52 rfl ?_
  refine h_getI hx hb hts hnX8_tellsPerson_X8 hown hK hw hS.1 rfl 16 (by decide) rfl hkX8_tellsPerson_74 dX8_tellsPerson_53 ?_
  refine lv_iconst (v := 1) hx hb dX8_tellsPerson_56 (by decide) ?_
  refine lv_iadd hx hb dX8_tellsPerson_57 ?_
  obtain ⟨f9, ef9, h⟩ := lt_s2 h
  refine h_putI (g := f9) ef9 hx hb hts hnX8_tellsPerson_X8 tyX8 tyX8_ok nmX8 hown hK hw hS.1 rfl 16 rfl (by decide) rfl hkX8_tellsPerson_74 rfl (by decide +kernel) dX8_tellsPerson_58 (fun H locs hw => ?_)
  exact h_retV hx hb hr hlocks hw (so1 h) dX8_tellsPerson_61

theorem hnX8_tellsParson_X8 : ∀ w ∈ wsX80, w ∈ wsX8_tellsParson := by decide +kernel
theorem hkX8_tellsParson_40 : Cond.fieldLink RX8 40 (TX8 20).1 (TX8 20).2.1 (TX8 20).2.2.1 ∈ wsX8_tellsParson := by decide +kernel
theorem hkX8_tellsParson_77 : Cond.fieldLink RX8 77 (TX8 19).1 (TX8 19).2.1 (TX8 19).2.2.1 ∈ wsX8_tellsParson := by decide +kernel
set_option maxHeartbeats 8000000 in
set_option maxRecDepth 100000 in
theorem mX8_tellsParson (l : Launch) (D : va_G) (ac : Nat → ClassId) (ad : Nat → Nat) (S : List hSh) (f : hF) (x1 : Int32) (x2 : Int32) (gv : hF) (hS : isMo S) (h : fX8_tellsParson f x1 x2 = some gv) : Met l yX8_tellsParson wsX8_tellsParson ({ frames := 0, cells := 0, slots := 0, locals := 0 }) (hPc D ac ad S f [.ref (ad 146), .int x1, .int x2]) (hQv D ac ad S gv) 0 0 (hAd ad S.length) := by
  refine h_enter (C := RX8) (cc := cX8_tellsParson) (maxL := 3) (ret := none) (lv := [(0, .ref (ad 146)), (1, .int x1), (2, .int x2)]) (by decide) rfl rfl (Nat.le_of_ble_eq_true rfl) rfl (fun p e s m below meth c ls hx hb hml hr hlocks hown hts hK hw hl => ?_)
  unfold fX8_tellsParson at h
  refine lv_aload_n hx hb dX8_tellsParson_0 rfl (lv_at hl 0 rfl) ?_
  refine h_getR hx hb hts hnX8_tellsParson_X8 hown hK hw hS.1 rfl 20 (by decide) rfl hkX8_tellsParson_40 dX8_tellsParson_1 ?_
  refine lv_iconst (v := 2) hx hb dX8_tellsParson_4 (by decide) ?_
  refine lv_aload_n hx hb dX8_tellsParson_5 rfl (lv_at hl 0 rfl) ?_
  refine h_getI hx hb hts hnX8_tellsParson_X8 hown hK hw hS.1 rfl 19 (by decide) rfl hkX8_tellsParson_77 dX8_tellsParson_6 ?_
  refine lv_imul hx hb dX8_tellsParson_9 ?_
  refine lv_iload_n hx hb dX8_tellsParson_10 rfl (lv_at hl 1 rfl) ?_
  obtain ⟨hi1, h⟩ := gd_s h
  obtain ⟨f2, ef2, h⟩ := lt_s2 h
  refine h_iast (g := f2) ef2 hx hb hK hw hS.2.2.2.2.2.2.2.2.2.2.2.1 hi1 dX8_tellsParson_11 (fun H locs hw => ?_)
  refine lv_aload_n hx hb dX8_tellsParson_12 rfl (lv_at hl 0 rfl) ?_
  refine h_getR hx hb hts hnX8_tellsParson_X8 hown hK hw hS.1 rfl 20 (by decide) rfl hkX8_tellsParson_40 dX8_tellsParson_13 ?_
  refine lv_iconst (v := 2) hx hb dX8_tellsParson_16 (by decide) ?_
  refine lv_aload_n hx hb dX8_tellsParson_17 rfl (lv_at hl 0 rfl) ?_
  refine h_getI hx hb hts hnX8_tellsParson_X8 hown hK hw hS.1 rfl 19 (by decide) rfl hkX8_tellsParson_77 dX8_tellsParson_18 ?_
  refine lv_imul hx hb dX8_tellsParson_21 ?_
  refine lv_iconst (v := 1) hx hb dX8_tellsParson_22 (by decide) ?_
  refine lv_iadd hx hb dX8_tellsParson_23 ?_
  refine lv_iload_n hx hb dX8_tellsParson_24 rfl (lv_at hl 2 rfl) ?_
  obtain ⟨hi3, h⟩ := gd_s h
  obtain ⟨f4, ef4, h⟩ := lt_s2 h
  refine h_iast (g := f4) ef4 hx hb hK hw hS.2.2.2.2.2.2.2.2.2.2.2.1 hi3 dX8_tellsParson_25 (fun H locs hw => ?_)
  refine lv_aload_n hx hb dX8_tellsParson_26 rfl (lv_at hl 0 rfl) ?_
  refine lv_dup hx hb dX8_tellsParson_27 rfl ?_
  refine h_getI hx hb hts hnX8_tellsParson_X8 hown hK hw hS.1 rfl 19 (by decide) rfl hkX8_tellsParson_77 dX8_tellsParson_28 ?_
  refine lv_iconst (v := 1) hx hb dX8_tellsParson_31 (by decide) ?_
  refine lv_iadd hx hb dX8_tellsParson_32 ?_
  obtain ⟨f5, ef5, h⟩ := lt_s2 h
  refine h_putI (g := f5) ef5 hx hb hts hnX8_tellsParson_X8 tyX8 tyX8_ok nmX8 hown hK hw hS.1 rfl 19 rfl (by decide) rfl hkX8_tellsParson_77 rfl (by decide +kernel) dX8_tellsParson_33 (fun H locs hw => ?_)
  exact h_retV hx hb hr hlocks hw (so1 h) dX8_tellsParson_36

set_option maxHeartbeats 8000000 in
set_option maxRecDepth 100000 in
theorem mX8_in (l : Launch) (D : va_G) (ac : Nat → ClassId) (ad : Nat → Nat) (S : List hSh) (f : hF) (x0 : Int32) (x1 : Int32) (x2 : Int32) (rv : Int32) (h : fX8_in x0 x1 x2 = some rv) : Met l yX8_in wsX8_in ({ frames := 0, cells := 0, slots := 0, locals := 0 }) (hPc D ac ad S f [.int x0, .int x1, .int x2]) (hRi rv) 0 0 hNo := by
  refine h_enter (C := RX8) (cc := cX8_in) (maxL := 3) (ret := (some .boolean)) (lv := [(0, .int x0), (1, .int x1), (2, .int x2)]) (by decide) rfl rfl (Nat.le_of_ble_eq_true rfl) rfl (fun p e s m below meth c ls hx hb hml hr hlocks hown hts hK hw hl => ?_)
  unfold fX8_in at h
  refine lv_iload_n hx hb dX8_in_0 rfl (lv_at hl 0 rfl) ?_
  refine lv_iload_n hx hb dX8_in_1 rfl (lv_at hl 1 rfl) ?_
  refine lv_icmp_lt (tgt := 14) hx hb dX8_in_2 (by decide) (fun hc1 => ?_) (fun hc1 => ?_)
  · have h := it hc1 h
    refine lv_iconst (v := 0) hx hb dX8_in_14 (by decide) ?_
    exact h_retR hx hb hr hlocks rfl (so1 h) dX8_in_15
  · have h := ie hc1 h
    refine lv_iload_n hx hb dX8_in_5 rfl (lv_at hl 0 rfl) ?_
    refine lv_iload_n hx hb dX8_in_6 rfl (lv_at hl 2 rfl) ?_
    refine lv_icmp_gt (tgt := 14) hx hb dX8_in_7 (by decide) (fun hc2 => ?_) (fun hc2 => ?_)
    · have h := it hc2 h
      refine lv_iconst (v := 0) hx hb dX8_in_14 (by decide) ?_
      exact h_retR hx hb hr hlocks rfl (so1 h) dX8_in_15
    · have h := ie hc2 h
      refine lv_iconst (v := 1) hx hb dX8_in_10 (by decide) ?_
      refine lv_goto (tgt := 15) hx hb dX8_in_11 (by decide) ?_
      exact h_retR hx hb hr hlocks rfl (so1 h) dX8_in_15

set_option maxHeartbeats 8000000 in
set_option maxRecDepth 100000 in
theorem mX8_has (l : Launch) (D : va_G) (ac : Nat → ClassId) (ad : Nat → Nat) (S : List hSh) (f : hF) (x0 : Int32) (x1 : Int32) (rv : Int32) (h : fX8_has x0 x1 = some rv) : Met l yX8_has wsX8_has ({ frames := 0, cells := 0, slots := 0, locals := 0 }) (hPc D ac ad S f [.int x0, .int x1]) (hRi rv) 0 0 hNo := by
  refine h_enter (C := RX8) (cc := cX8_has) (maxL := 2) (ret := (some .boolean)) (lv := [(0, .int x0), (1, .int x1)]) (by decide) rfl rfl (Nat.le_of_ble_eq_true rfl) rfl (fun p e s m below meth c ls hx hb hml hr hlocks hown hts hK hw hl => ?_)
  unfold fX8_has at h
  refine lv_iload_n hx hb dX8_has_0 rfl (lv_at hl 0 rfl) ?_
  refine lv_iload_n hx hb dX8_has_1 rfl (lv_at hl 1 rfl) ?_
  refine lv_ishr hx hb dX8_has_2 ?_
  refine lv_iconst (v := 1) hx hb dX8_has_3 (by decide) ?_
  refine lv_iand hx hb dX8_has_4 ?_
  refine lv_iconst (v := 1) hx hb dX8_has_5 (by decide) ?_
  refine lv_icmp_ne (tgt := 13) hx hb dX8_has_6 (by decide) (fun hc1 => ?_) (fun hc1 => ?_)
  · have h := ie hc1 h
    refine lv_iconst (v := 0) hx hb dX8_has_13 (by decide) ?_
    exact h_retR hx hb hr hlocks rfl (so1 h) dX8_has_14
  · have h := it hc1 h
    refine lv_iconst (v := 1) hx hb dX8_has_9 (by decide) ?_
    refine lv_goto (tgt := 14) hx hb dX8_has_10 (by decide) ?_
    exact h_retR hx hb hr hlocks rfl (so1 h) dX8_has_14

theorem hnX8_isPerson_X8 : ∀ w ∈ wsX80, w ∈ wsX8_isPerson := by decide +kernel
theorem hkX8_isPerson_80 : Cond.fieldLink RX8 80 (TX8 0).1 (TX8 0).2.1 (TX8 0).2.2.1 ∈ wsX8_isPerson := by decide +kernel
set_option maxHeartbeats 8000000 in
set_option maxRecDepth 100000 in
theorem mX8_isPerson (l : Launch) (D : va_G) (ac : Nat → ClassId) (ad : Nat → Nat) (S : List hSh) (f : hF) (x1 : Int32) (rv : Int32) (hS : isMo S) (h : fX8_isPerson f x1 = some rv) : Met l yX8_isPerson wsX8_isPerson ({ frames := 1, cells := 0, slots := 0, locals := 22 }) (hPc D ac ad S f [.ref (ad 146), .int x1]) (hRi rv) 0 0 hNo := by
  refine h_enter (C := RX8) (cc := cX8_isPerson) (maxL := 2) (ret := (some .boolean)) (lv := [(0, .ref (ad 146)), (1, .int x1)]) (by decide) rfl rfl (Nat.le_of_ble_eq_true rfl) rfl (fun p e s m below meth c ls hx hb hml hr hlocks hown hts hK hw hl => ?_)
  unfold fX8_isPerson at h
  refine lv_iload_n hx hb dX8_isPerson_0 rfl (lv_at hl 1 rfl) ?_
  refine lv_iconst (v := 0) hx hb dX8_isPerson_1 (by decide) ?_
  refine lv_aload_n hx hb dX8_isPerson_2 rfl (lv_at hl 0 rfl) ?_
  refine h_getI hx hb hts hnX8_isPerson_X8 hown hK hw hS.1 rfl 0 (by decide) rfl hkX8_isPerson_80 dX8_isPerson_3 ?_
  refine lv_iconst (v := 1) hx hb dX8_isPerson_6 (by decide) ?_
  refine lv_isub hx hb dX8_isPerson_7 ?_
  obtain ⟨r1, er1, h⟩ := b1_s h
  refine h_callR (va_runS (As := [.int x1, .int 0, .int ((f 146 0) - 1)]) (rest := []) ⟨hx, hb, hml, hown, hts⟩ (mX8_in l D ac ad S f x1 (0 : Int32) ((f 146 0) - 1) r1  er1) (va_cwS 3 hts gX8_isPerson_X8_in rfl rfl rfl (by decide +kernel) ⟨Nat.le_of_ble_eq_true rfl, Nat.le_of_ble_eq_true rfl⟩) (h_preS hK hw _) rfl rfl hl.1 rfl (lv_room (Nat.le_of_ble_eq_true rfl)) dX8_isPerson_8 ⟨Nat.le_of_ble_eq_true rfl, Nat.le_of_ble_eq_true rfl⟩) ?_
  obtain ⟨hr2, h⟩ := nr_s h
  exact h_retR hx hb hr hlocks hr2 (so1 h) dX8_isPerson_11

theorem hnX8_isParson_X8 : ∀ w ∈ wsX80, w ∈ wsX8_isParson := by decide +kernel
theorem hkX8_isParson_87 : Cond.fieldLink RX8 87 (TX8 2).1 (TX8 2).2.1 (TX8 2).2.2.1 ∈ wsX8_isParson := by decide +kernel
set_option maxHeartbeats 8000000 in
set_option maxRecDepth 100000 in
theorem mX8_isParson (l : Launch) (D : va_G) (ac : Nat → ClassId) (ad : Nat → Nat) (S : List hSh) (f : hF) (x1 : Int32) (rv : Int32) (hS : isMo S) (h : fX8_isParson f x1 = some rv) : Met l yX8_isParson wsX8_isParson ({ frames := 1, cells := 0, slots := 0, locals := 22 }) (hPc D ac ad S f [.ref (ad 146), .int x1]) (hRi rv) 0 0 hNo := by
  refine h_enter (C := RX8) (cc := cX8_isParson) (maxL := 2) (ret := (some .boolean)) (lv := [(0, .ref (ad 146)), (1, .int x1)]) (by decide) rfl rfl (Nat.le_of_ble_eq_true rfl) rfl (fun p e s m below meth c ls hx hb hml hr hlocks hown hts hK hw hl => ?_)
  unfold fX8_isParson at h
  refine lv_iload_n hx hb dX8_isParson_0 rfl (lv_at hl 1 rfl) ?_
  refine lv_iconst (v := 0) hx hb dX8_isParson_1 (by decide) ?_
  refine lv_aload_n hx hb dX8_isParson_2 rfl (lv_at hl 0 rfl) ?_
  refine h_getI hx hb hts hnX8_isParson_X8 hown hK hw hS.1 rfl 2 (by decide) rfl hkX8_isParson_87 dX8_isParson_3 ?_
  refine lv_iconst (v := 1) hx hb dX8_isParson_6 (by decide) ?_
  refine lv_isub hx hb dX8_isParson_7 ?_
  obtain ⟨r1, er1, h⟩ := b1_s h
  refine h_callR (va_runS (As := [.int x1, .int 0, .int ((f 146 2) - 1)]) (rest := []) ⟨hx, hb, hml, hown, hts⟩ (mX8_in l D ac ad S f x1 (0 : Int32) ((f 146 2) - 1) r1  er1) (va_cwS 3 hts gX8_isParson_X8_in rfl rfl rfl (by decide +kernel) ⟨Nat.le_of_ble_eq_true rfl, Nat.le_of_ble_eq_true rfl⟩) (h_preS hK hw _) rfl rfl hl.1 rfl (lv_room (Nat.le_of_ble_eq_true rfl)) dX8_isParson_8 ⟨Nat.le_of_ble_eq_true rfl, Nat.le_of_ble_eq_true rfl⟩) ?_
  obtain ⟨hr2, h⟩ := nr_s h
  exact h_retR hx hb hr hlocks hr2 (so1 h) dX8_isParson_11

theorem hnX8_isLine_X8 : ∀ w ∈ wsX80, w ∈ wsX8_isLine := by decide +kernel
theorem hkX8_isLine_16 : Cond.fieldLink RX8 16 (TX8 5).1 (TX8 5).2.1 (TX8 5).2.2.1 ∈ wsX8_isLine := by decide +kernel
set_option maxHeartbeats 8000000 in
set_option maxRecDepth 100000 in
theorem mX8_isLine (l : Launch) (D : va_G) (ac : Nat → ClassId) (ad : Nat → Nat) (S : List hSh) (f : hF) (x1 : Int32) (x2 : Int32) (rv : Int32) (hS : isMo S) (h : fX8_isLine f x1 x2 = some rv) : Met l yX8_isLine wsX8_isLine ({ frames := 2, cells := 0, slots := 0, locals := 43 }) (hPc D ac ad S f [.ref (ad 146), .int x1, .int x2]) (hRi rv) 0 0 hNo := by
  refine h_enter (C := RX8) (cc := cX8_isLine) (maxL := 3) (ret := (some .boolean)) (lv := [(0, .ref (ad 146)), (1, .int x1), (2, .int x2)]) (by decide) rfl rfl (Nat.le_of_ble_eq_true rfl) rfl (fun p e s m below meth c ls hx hb hml hr hlocks hown hts hK hw hl => ?_)
  unfold fX8_isLine at h
  refine lv_aload_n hx hb dX8_isLine_0 rfl (lv_at hl 0 rfl) ?_
  refine lv_iload_n hx hb dX8_isLine_1 rfl (lv_at hl 1 rfl) ?_
  obtain ⟨r1, er1, h⟩ := b1_s h
  refine h_callR (va_runV (As := [.int x1]) (rest := []) ⟨hx, hb, hml, hown, hts⟩ (mX8_isParson l D ac ad S f x1 r1 hS er1) (cwV 1 hts gX8_isLine_X8_isParson rfl rfl rfl (by decide +kernel) ⟨Nat.le_of_ble_eq_true rfl, Nat.le_of_ble_eq_true rfl⟩) (h_preV hK hw hS.1 rfl _) rfl rfl hl.1 rfl (lv_room (Nat.le_of_ble_eq_true rfl)) dX8_isLine_2 ⟨Nat.le_of_ble_eq_true rfl, Nat.le_of_ble_eq_true rfl⟩) ?_
  refine lv_if_eq (tgt := 31) hx hb dX8_isLine_5 (by decide) (fun hc2 => ?_) (fun hc2 => ?_)
  · have h := it hc2 h
    refine lv_iconst (v := 0) hx hb dX8_isLine_31 (by decide) ?_
    exact h_retR hx hb hr hlocks rfl (so1 h) dX8_isLine_32
  · have h := ie hc2 h
    refine lv_iload_n hx hb dX8_isLine_8 rfl (lv_at hl 2 rfl) ?_
    refine lv_iconst (v := 0) hx hb dX8_isLine_9 (by decide) ?_
    refine lv_aload_n hx hb dX8_isLine_10 rfl (lv_at hl 0 rfl) ?_
    refine h_getR hx hb hts hnX8_isLine_X8 hown hK hw hS.1 rfl 5 (by decide) rfl hkX8_isLine_16 dX8_isLine_11 ?_
    refine lv_bipush (v := 12) hx hb dX8_isLine_14 (by decide) ?_
    refine lv_iload_n hx hb dX8_isLine_16 rfl (lv_at hl 1 rfl) ?_
    refine lv_iadd hx hb dX8_isLine_17 ?_
    obtain ⟨hi3, h⟩ := gd_s h
    refine h_iald hx hb hK hw hS.2.2.2.1 hi3 dX8_isLine_18 ?_
    refine lv_iconst (v := 1) hx hb dX8_isLine_19 (by decide) ?_
    refine lv_isub hx hb dX8_isLine_20 ?_
    obtain ⟨r4, er4, h⟩ := b1_s h
    refine h_callR (va_runS (As := [.int x2, .int 0, .int ((f 149 (12 + x1).toNatClampNeg) - 1)]) (rest := []) ⟨hx, hb, hml, hown, hts⟩ (mX8_in l D ac ad S f x2 (0 : Int32) ((f 149 (12 + x1).toNatClampNeg) - 1) r4  er4) (va_cwS 3 hts gX8_isLine_X8_in rfl rfl rfl (by decide +kernel) ⟨Nat.le_of_ble_eq_true rfl, Nat.le_of_ble_eq_true rfl⟩) (h_preS hK hw _) rfl rfl hl.1 rfl (lv_room (Nat.le_of_ble_eq_true rfl)) dX8_isLine_21 ⟨Nat.le_of_ble_eq_true rfl, Nat.le_of_ble_eq_true rfl⟩) ?_
    refine lv_if_eq (tgt := 31) hx hb dX8_isLine_24 (by decide) (fun hc5 => ?_) (fun hc5 => ?_)
    · have h := it hc5 h
      refine lv_iconst (v := 0) hx hb dX8_isLine_31 (by decide) ?_
      exact h_retR hx hb hr hlocks rfl (so1 h) dX8_isLine_32
    · have h := ie hc5 h
      refine lv_iconst (v := 1) hx hb dX8_isLine_27 (by decide) ?_
      refine lv_goto (tgt := 32) hx hb dX8_isLine_28 (by decide) ?_
      exact h_retR hx hb hr hlocks rfl (so1 h) dX8_isLine_32

theorem hnX8_isWoman_X8 : ∀ w ∈ wsX80, w ∈ wsX8_isWoman := by decide +kernel
theorem hkX8_isWoman_7 : Cond.fieldLink RX8 7 (TX8 1).1 (TX8 1).2.1 (TX8 1).2.2.1 ∈ wsX8_isWoman := by decide +kernel
set_option maxHeartbeats 8000000 in
set_option maxRecDepth 100000 in
theorem mX8_isWoman (l : Launch) (D : va_G) (ac : Nat → ClassId) (ad : Nat → Nat) (S : List hSh) (f : hF) (x1 : Int32) (rv : Int32) (hS : isMo S) (h : fX8_isWoman f x1 = some rv) : Met l yX8_isWoman wsX8_isWoman ({ frames := 0, cells := 0, slots := 0, locals := 0 }) (hPc D ac ad S f [.ref (ad 146), .int x1]) (hRi rv) 0 0 hNo := by
  refine h_enter (C := RX8) (cc := cX8_isWoman) (maxL := 2) (ret := (some .boolean)) (lv := [(0, .ref (ad 146)), (1, .int x1)]) (by decide) rfl rfl (Nat.le_of_ble_eq_true rfl) rfl (fun p e s m below meth c ls hx hb hml hr hlocks hown hts hK hw hl => ?_)
  unfold fX8_isWoman at h
  refine lv_aload_n hx hb dX8_isWoman_0 rfl (lv_at hl 0 rfl) ?_
  refine h_getR hx hb hts hnX8_isWoman_X8 hown hK hw hS.1 rfl 1 (by decide) rfl hkX8_isWoman_7 dX8_isWoman_1 ?_
  refine lv_iconst (v := 3) hx hb dX8_isWoman_4 (by decide) ?_
  refine lv_iload_n hx hb dX8_isWoman_5 rfl (lv_at hl 1 rfl) ?_
  refine lv_imul hx hb dX8_isWoman_6 ?_
  obtain ⟨hi1, h⟩ := gd_s h
  refine h_iald hx hb hK hw hS.2.1 hi1 dX8_isWoman_7 ?_
  refine lv_iconst (v := 1) hx hb dX8_isWoman_8 (by decide) ?_
  refine lv_icmp_ne (tgt := 16) hx hb dX8_isWoman_9 (by decide) (fun hc2 => ?_) (fun hc2 => ?_)
  · have h := ie hc2 h
    refine lv_iconst (v := 0) hx hb dX8_isWoman_16 (by decide) ?_
    exact h_retR hx hb hr hlocks rfl (so1 h) dX8_isWoman_17
  · have h := it hc2 h
    refine lv_iconst (v := 1) hx hb dX8_isWoman_12 (by decide) ?_
    refine lv_goto (tgt := 17) hx hb dX8_isWoman_13 (by decide) ?_
    exact h_retR hx hb hr hlocks rfl (so1 h) dX8_isWoman_17

theorem hnX8_kindOf_X8 : ∀ w ∈ wsX80, w ∈ wsX8_kindOf := by decide +kernel
theorem hkX8_kindOf_7 : Cond.fieldLink RX8 7 (TX8 1).1 (TX8 1).2.1 (TX8 1).2.2.1 ∈ wsX8_kindOf := by decide +kernel
set_option maxHeartbeats 8000000 in
set_option maxRecDepth 100000 in
theorem mX8_kindOf (l : Launch) (D : va_G) (ac : Nat → ClassId) (ad : Nat → Nat) (S : List hSh) (f : hF) (x1 : Int32) (rv : Int32) (hS : isMo S) (h : fX8_kindOf f x1 = some rv) : Met l yX8_kindOf wsX8_kindOf ({ frames := 0, cells := 0, slots := 0, locals := 0 }) (hPc D ac ad S f [.ref (ad 146), .int x1]) (hRi rv) 0 0 hNo := by
  refine h_enter (C := RX8) (cc := cX8_kindOf) (maxL := 2) (ret := (some .int)) (lv := [(0, .ref (ad 146)), (1, .int x1)]) (by decide) rfl rfl (Nat.le_of_ble_eq_true rfl) rfl (fun p e s m below meth c ls hx hb hml hr hlocks hown hts hK hw hl => ?_)
  unfold fX8_kindOf at h
  refine lv_aload_n hx hb dX8_kindOf_0 rfl (lv_at hl 0 rfl) ?_
  refine h_getR hx hb hts hnX8_kindOf_X8 hown hK hw hS.1 rfl 1 (by decide) rfl hkX8_kindOf_7 dX8_kindOf_1 ?_
  refine lv_iconst (v := 3) hx hb dX8_kindOf_4 (by decide) ?_
  refine lv_iload_n hx hb dX8_kindOf_5 rfl (lv_at hl 1 rfl) ?_
  refine lv_imul hx hb dX8_kindOf_6 ?_
  refine lv_iconst (v := 1) hx hb dX8_kindOf_7 (by decide) ?_
  refine lv_iadd hx hb dX8_kindOf_8 ?_
  obtain ⟨hi1, h⟩ := gd_s h
  refine h_iald hx hb hK hw hS.2.1 hi1 dX8_kindOf_9 ?_
  exact h_retR hx hb hr hlocks rfl (so1 h) dX8_kindOf_10

theorem hnX8_write_X8 : ∀ w ∈ wsX80, w ∈ wsX8_write := by decide +kernel
theorem hkX8_write_94 : Cond.fieldLink RX8 94 (TX8 13).1 (TX8 13).2.1 (TX8 13).2.2.1 ∈ wsX8_write := by decide +kernel
theorem hkX8_write_28 : Cond.fieldLink RX8 28 (TX8 12).1 (TX8 12).2.1 (TX8 12).2.2.1 ∈ wsX8_write := by decide +kernel
set_option maxHeartbeats 8000000 in
set_option maxRecDepth 100000 in
theorem mX8_write (l : Launch) (D : va_G) (ac : Nat → ClassId) (ad : Nat → Nat) (S : List hSh) (f : hF) (x1 : Int32) (rv : Int32) (gv : hF) (hS : isMo S) (h : fX8_write f x1 = some (rv, gv)) : Met l yX8_write wsX8_write ({ frames := 1, cells := 0, slots := 0, locals := 22 }) (hPc D ac ad S f [.ref (ad 146), .int x1]) (hQi D ac ad S rv gv) 0 0 (hAd ad S.length) := by
  refine h_enter (C := RX8) (cc := cX8_write) (maxL := 2) (ret := (some .int)) (lv := [(0, .ref (ad 146)), (1, .int x1)]) (by decide) rfl rfl (Nat.le_of_ble_eq_true rfl) rfl (fun p e s m below meth c ls hx hb hml hr hlocks hown hts hK hw hl => ?_)
  unfold fX8_write at h
  refine lv_iload_n hx hb dX8_write_0 rfl (lv_at hl 1 rfl) ?_
  refine lv_bipush (v := 32) hx hb dX8_write_1 (by decide) ?_
  refine lv_bipush (v := 126) hx hb dX8_write_3 (by decide) ?_
  obtain ⟨r1, er1, h⟩ := b1_s h
  refine h_callR (va_runS (As := [.int x1, .int 32, .int 126]) (rest := []) ⟨hx, hb, hml, hown, hts⟩ (mX8_in l D ac ad S f x1 (32 : Int32) (126 : Int32) r1  er1) (va_cwS 3 hts gX8_write_X8_in rfl rfl rfl (by decide +kernel) ⟨Nat.le_of_ble_eq_true rfl, Nat.le_of_ble_eq_true rfl⟩) (h_preS hK hw _) rfl rfl hl.1 rfl (lv_room (Nat.le_of_ble_eq_true rfl)) dX8_write_5 ⟨Nat.le_of_ble_eq_true rfl, Nat.le_of_ble_eq_true rfl⟩) ?_
  refine lv_if_ne (tgt := 13) hx hb dX8_write_8 (by decide) (fun hc2 => ?_) (fun hc2 => ?_)
  · have h := ie hc2 h
    refine lv_aload_n hx hb dX8_write_13 rfl (lv_at hl 0 rfl) ?_
    refine h_getI hx hb hts hnX8_write_X8 hown hK hw hS.1 rfl 13 (by decide) rfl hkX8_write_94 dX8_write_14 ?_
    refine lv_sipush (v := 200) hx hb dX8_write_17 (by decide) ?_
    refine lv_icmp_ne (tgt := 26) hx hb dX8_write_20 (by decide) (fun hc3 => ?_) (fun hc3 => ?_)
    · have h := ie hc3 h
      refine lv_aload_n hx hb dX8_write_26 rfl (lv_at hl 0 rfl) ?_
      refine h_getR hx hb hts hnX8_write_X8 hown hK hw hS.1 rfl 12 (by decide) rfl hkX8_write_28 dX8_write_27 ?_
      refine lv_aload_n hx hb dX8_write_30 rfl (lv_at hl 0 rfl) ?_
      refine h_getI hx hb hts hnX8_write_X8 hown hK hw hS.1 rfl 13 (by decide) rfl hkX8_write_94 dX8_write_31 ?_
      refine lv_iload_n hx hb dX8_write_34 rfl (lv_at hl 1 rfl) ?_
      obtain ⟨hi4, h⟩ := gd_s h
      obtain ⟨f5, ef5, h⟩ := lt_s2 h
      refine h_iast (g := f5) ef5 hx hb hK hw hS.2.2.2.2.2.2.2.1 hi4 dX8_write_35 (fun H locs hw => ?_)
      refine lv_aload_n hx hb dX8_write_36 rfl (lv_at hl 0 rfl) ?_
      refine lv_dup hx hb dX8_write_37 rfl ?_
      refine h_getI hx hb hts hnX8_write_X8 hown hK hw hS.1 rfl 13 (by decide) rfl hkX8_write_94 dX8_write_38 ?_
      refine lv_iconst (v := 1) hx hb dX8_write_41 (by decide) ?_
      refine lv_iadd hx hb dX8_write_42 ?_
      obtain ⟨f6, ef6, h⟩ := lt_s2 h
      refine h_putI (g := f6) ef6 hx hb hts hnX8_write_X8 tyX8 tyX8_ok nmX8 hown hK hw hS.1 rfl 13 rfl (by decide) rfl hkX8_write_94 rfl (by decide +kernel) dX8_write_43 (fun H locs hw => ?_)
      refine lv_aload_n hx hb dX8_write_46 rfl (lv_at hl 0 rfl) ?_
      refine h_getI hx hb hts hnX8_write_X8 hown hK hw hS.1 rfl 13 (by decide) rfl hkX8_write_94 dX8_write_47 ?_
      exact h_retQ hx hb hr hlocks hw rfl (so2 h) dX8_write_50
    · have h := it hc3 h
      refine lv_bipush (v := (-3)) hx hb dX8_write_23 (by decide) ?_
      exact h_retQ hx hb hr hlocks hw rfl (so2 h) dX8_write_25
  · have h := it hc2 h
    refine lv_iconst (v := (-1)) hx hb dX8_write_11 (by decide) ?_
    exact h_retQ hx hb hr hlocks hw rfl (so2 h) dX8_write_12

theorem hnX8_wipe_X8 : ∀ w ∈ wsX80, w ∈ wsX8_wipe := by decide +kernel
theorem hkX8_wipe_94 : Cond.fieldLink RX8 94 (TX8 13).1 (TX8 13).2.1 (TX8 13).2.2.1 ∈ wsX8_wipe := by decide +kernel
set_option maxHeartbeats 8000000 in
set_option maxRecDepth 100000 in
theorem mX8_wipe (l : Launch) (D : va_G) (ac : Nat → ClassId) (ad : Nat → Nat) (S : List hSh) (f : hF) (rv : Int32) (gv : hF) (hS : isMo S) (h : fX8_wipe f = some (rv, gv)) : Met l yX8_wipe wsX8_wipe ({ frames := 0, cells := 0, slots := 0, locals := 0 }) (hPc D ac ad S f [.ref (ad 146)]) (hQi D ac ad S rv gv) 0 0 (hAd ad S.length) := by
  refine h_enter (C := RX8) (cc := cX8_wipe) (maxL := 2) (ret := (some .int)) (lv := [(0, .ref (ad 146))]) (by decide) rfl rfl (Nat.le_of_ble_eq_true rfl) rfl (fun p e s m below meth c ls hx hb hml hr hlocks hown hts hK hw hl => ?_)
  unfold fX8_wipe at h
  refine lv_aload_n hx hb dX8_wipe_0 rfl (lv_at hl 0 rfl) ?_
  refine h_getI hx hb hts hnX8_wipe_X8 hown hK hw hS.1 rfl 13 (by decide) rfl hkX8_wipe_94 dX8_wipe_1 ?_
  refine lv_istore_n (lv' := [(1, .int (f 146 13)), (0, .ref (ad 146))]) hx hb dX8_wipe_4 rfl hl (by decide) rfl (fun ls hl => ?_)
  refine lv_aload_n hx hb dX8_wipe_5 rfl (lv_at hl 1 rfl) ?_
  refine lv_iconst (v := 0) hx hb dX8_wipe_6 (by decide) ?_
  obtain ⟨f1, ef1, h⟩ := lt_s2 h
  refine h_putI (g := f1) ef1 hx hb hts hnX8_wipe_X8 tyX8 tyX8_ok nmX8 hown hK hw hS.1 rfl 13 rfl (by decide) rfl hkX8_wipe_94 rfl (by decide +kernel) dX8_wipe_7 (fun H locs hw => ?_)
  refine lv_iload_n hx hb dX8_wipe_10 rfl (lv_at hl 0 rfl) ?_
  exact h_retQ hx hb hr hlocks hw rfl (so2 h) dX8_wipe_11

theorem hnX8_letterAt_X8 : ∀ w ∈ wsX80, w ∈ wsX8_letterAt := by decide +kernel
theorem hkX8_letterAt_94 : Cond.fieldLink RX8 94 (TX8 13).1 (TX8 13).2.1 (TX8 13).2.2.1 ∈ wsX8_letterAt := by decide +kernel
theorem hkX8_letterAt_28 : Cond.fieldLink RX8 28 (TX8 12).1 (TX8 12).2.1 (TX8 12).2.2.1 ∈ wsX8_letterAt := by decide +kernel
set_option maxHeartbeats 8000000 in
set_option maxRecDepth 100000 in
theorem mX8_letterAt (l : Launch) (D : va_G) (ac : Nat → ClassId) (ad : Nat → Nat) (S : List hSh) (f : hF) (x1 : Int32) (rv : Int32) (hS : isMo S) (h : fX8_letterAt f x1 = some rv) : Met l yX8_letterAt wsX8_letterAt ({ frames := 0, cells := 0, slots := 0, locals := 0 }) (hPc D ac ad S f [.ref (ad 146), .int x1]) (hRi rv) 0 0 hNo := by
  refine h_enter (C := RX8) (cc := cX8_letterAt) (maxL := 2) (ret := (some .int)) (lv := [(0, .ref (ad 146)), (1, .int x1)]) (by decide) rfl rfl (Nat.le_of_ble_eq_true rfl) rfl (fun p e s m below meth c ls hx hb hml hr hlocks hown hts hK hw hl => ?_)
  unfold fX8_letterAt at h
  refine lv_iload_n hx hb dX8_letterAt_0 rfl (lv_at hl 1 rfl) ?_
  refine lv_aload_n hx hb dX8_letterAt_1 rfl (lv_at hl 0 rfl) ?_
  refine h_getI hx hb hts hnX8_letterAt_X8 hown hK hw hS.1 rfl 13 (by decide) rfl hkX8_letterAt_94 dX8_letterAt_2 ?_
  refine lv_icmp_ge (tgt := 17) hx hb dX8_letterAt_5 (by decide) (fun hc1 => ?_) (fun hc1 => ?_)
  · have h := it hc1 h
    refine lv_iconst (v := (-1)) hx hb dX8_letterAt_17 (by decide) ?_
    exact h_retR hx hb hr hlocks rfl (so1 h) dX8_letterAt_18
  · have h := ie hc1 h
    refine lv_aload_n hx hb dX8_letterAt_8 rfl (lv_at hl 0 rfl) ?_
    refine h_getR hx hb hts hnX8_letterAt_X8 hown hK hw hS.1 rfl 12 (by decide) rfl hkX8_letterAt_28 dX8_letterAt_9 ?_
    refine lv_iload_n hx hb dX8_letterAt_12 rfl (lv_at hl 1 rfl) ?_
    obtain ⟨hi2, h⟩ := gd_s h
    refine h_iald hx hb hK hw hS.2.2.2.2.2.2.2.1 hi2 dX8_letterAt_13 ?_
    refine lv_goto (tgt := 18) hx hb dX8_letterAt_14 (by decide) ?_
    exact h_retR hx hb hr hlocks rfl (so1 h) dX8_letterAt_18

set_option maxHeartbeats 8000000 in
set_option maxRecDepth 100000 in
theorem mX8_isFigure (l : Launch) (D : va_G) (ac : Nat → ClassId) (ad : Nat → Nat) (S : List hSh) (f : hF) (x0 : Int32) (rv : Int32) (h : fX8_isFigure x0 = some rv) : Met l yX8_isFigure wsX8_isFigure ({ frames := 1, cells := 0, slots := 0, locals := 22 }) (hPc D ac ad S f [.int x0]) (hRi rv) 0 0 hNo := by
  refine h_enter (C := RX8) (cc := cX8_isFigure) (maxL := 1) (ret := (some .boolean)) (lv := [(0, .int x0)]) (by decide) rfl rfl (Nat.le_of_ble_eq_true rfl) rfl (fun p e s m below meth c ls hx hb hml hr hlocks hown hts hK hw hl => ?_)
  unfold fX8_isFigure at h
  refine lv_iload_n hx hb dX8_isFigure_0 rfl (lv_at hl 0 rfl) ?_
  refine lv_bipush (v := 48) hx hb dX8_isFigure_1 (by decide) ?_
  refine lv_bipush (v := 57) hx hb dX8_isFigure_3 (by decide) ?_
  obtain ⟨r1, er1, h⟩ := b1_s h
  refine h_callR (va_runS (As := [.int x0, .int 48, .int 57]) (rest := []) ⟨hx, hb, hml, hown, hts⟩ (mX8_in l D ac ad S f x0 (48 : Int32) (57 : Int32) r1  er1) (va_cwS 3 hts gX8_isFigure_X8_in rfl rfl rfl (by decide +kernel) ⟨Nat.le_of_ble_eq_true rfl, Nat.le_of_ble_eq_true rfl⟩) (h_preS hK hw _) rfl rfl hl.1 rfl (lv_room (Nat.le_of_ble_eq_true rfl)) dX8_isFigure_5 ⟨Nat.le_of_ble_eq_true rfl, Nat.le_of_ble_eq_true rfl⟩) ?_
  obtain ⟨hr2, h⟩ := nr_s h
  exact h_retR hx hb hr hlocks hr2 (so1 h) dX8_isFigure_8
