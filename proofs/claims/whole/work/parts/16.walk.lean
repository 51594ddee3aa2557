/-! contracts: X7_trueBy X7_hand X7_child X2_singles X2_lowestFor X2_countTouted X2_waysToBring X2_waysToWed X7_commonDivisor X7_touts X0_paidInAll X7_draw -/
theorem hnX7_trueBy_X7 : ∀ w ∈ wsX70, w ∈ wsX7_trueBy := by decide +kernel
theorem hkX7_trueBy_31 : Cond.fieldLink RX7 31 (TX7 3).1 (TX7 3).2.1 (TX7 3).2.2.1 ∈ wsX7_trueBy := by decide +kernel
theorem hnX7_trueBy_X2 : ∀ w ∈ wsX20, w ∈ wsX7_trueBy := by decide +kernel
theorem hkX7_trueBy_108 : Cond.fieldLink RX7 108 (TX2 1).1 (TX2 1).2.1 (TX2 1).2.2.1 ∈ wsX7_trueBy := by decide +kernel
set_option maxHeartbeats 8000000 in
set_option maxRecDepth 100000 in
theorem mX7_trueBy (l : Launch) (D : va_G) (ac : Nat → ClassId) (ad : Nat → Nat) (S : List hSh) (f : hF) (x1 : Int32) (rv : Int32) (gv : hF) (hS : isPW S) (h : fX7_trueBy f x1 = some (rv, gv)) : Met l yX7_trueBy wsX7_trueBy ({ frames := 5, cells := 0, slots := 0, locals := 108 }) (hPc D ac ad S f [.ref (ad 0), .int x1]) (hQi D ac ad S rv gv) 0 0 (hAd ad S.length) := by
  refine h_enter (C := RX7) (cc := cX7_trueBy) (maxL := 5) (ret := (some .int)) (lv := [(0, .ref (ad 0)), (1, .int x1)]) (by decide) rfl rfl (Nat.le_of_ble_eq_true rfl) rfl (fun p e s m below meth c ls hx hb hml hr hlocks hown hts hK hw hl => ?_)
  have J17 : ∀ (n : Nat), (∀ (f : hF) (y2 : Int32) (y3 : Int32) (y4 : Int32) (H : Heap) (locs : List Loc) (ls : Array Slot), hOk D ac ad S (hAd ad S.length) s.heap f H locs → lv_has ls 5 [(0, .ref (ad 0)), (1, .int x1), (2, .int y2), (3, .int y3), (4, .int y4)] → fX7_trueBy_17 x1 n f y2 y3 y4 = some (rv, gv) → W p l e ({ frames := 5, cells := 0, slots := 0, locals := 108 } : Room) s m ([.ref (ad 0), .int x1] : List Value).toArray below meth c H locs 0 0 (MQ below (hQi D ac ad S rv gv) ([.ref (ad 0), .int x1] : List Value).toArray s 0 0 (hAd ad S.length)) (F0 m 17 ls [])) := by
    intro n
    induction n with
    | zero =>
      intro f y2 y3 y4 H locs ls hw hl h
      rw [fX7_trueBy_17] at h
      cases h
    | succ n ih =>
      intro f y2 y3 y4 H locs ls hw hl h
      rw [fX7_trueBy_17] at h
      refine lv_iload hx hb dX7_trueBy_17 (lv_at hl 4 rfl) ?_
      refine lv_bipush (v := 24) hx hb dX7_trueBy_19 (by decide) ?_
      refine lv_icmp_ge (tgt := 82) hx hb dX7_trueBy_21 (by decide) (fun hc1 => ?_) (fun hc1 => ?_)
      · have h := it hc1 h
        refine lv_iload_n hx hb dX7_trueBy_82 rfl (lv_at hl 1 rfl) ?_
        refine lv_iconst (v := 1) hx hb dX7_trueBy_83 (by decide) ?_
        refine lv_icmp_ne (tgt := 89) hx hb dX7_trueBy_84 (by decide) (fun hc2 => ?_) (fun hc2 => ?_)
        · have h := ie hc2 h
          refine lv_aload_n hx hb dX7_trueBy_89 rfl (lv_at hl 0 rfl) ?_
          refine lv_iconst (v := (-1)) hx hb dX7_trueBy_90 (by decide) ?_
          obtain ⟨r3, f4, ef4, h⟩ := b2_s h
          refine h_callQ hw (va_runV (As := [.int (-1)]) (rest := []) ⟨hx, hb, hml, hown, hts⟩ (mX7_isSeenWithout l D ac ad S f ((-1) : Int32) r3 f4 hS ef4) (cwV 1 hts gX7_trueBy_X7_isSeenWithout rfl rfl rfl (by decide +kernel) ⟨Nat.le_of_ble_eq_true rfl, Nat.le_of_ble_eq_true rfl⟩) (h_preV hK hw hS.1 rfl _) rfl rfl hl.1 rfl (lv_room (Nat.le_of_ble_eq_true rfl)) dX7_trueBy_91 ⟨Nat.le_of_ble_eq_true rfl, Nat.le_of_ble_eq_true rfl⟩) (fun H locs hw => ?_)
          refine lv_if_eq (tgt := 105) hx hb dX7_trueBy_94 (by decide) (fun hc5 => ?_) (fun hc5 => ?_)
          · have h := it hc5 h
            refine lv_iload_n hx hb dX7_trueBy_105 rfl (lv_at hl 2 rfl) ?_
            exact h_retQ hx hb hr hlocks hw rfl (so2 h) dX7_trueBy_106
          · have h := ie hc5 h
            refine lv_iload_n hx hb dX7_trueBy_97 rfl (lv_at hl 2 rfl) ?_
            refine lv_sipush (v := 256) hx hb dX7_trueBy_98 (by decide) ?_
            refine lv_iadd hx hb dX7_trueBy_101 ?_
            refine lv_goto (tgt := 106) hx hb dX7_trueBy_102 (by decide) ?_
            exact h_retQ hx hb hr hlocks hw rfl (so2 h) dX7_trueBy_106
        · have h := it hc2 h
          refine lv_iload_n hx hb dX7_trueBy_87 rfl (lv_at hl 3 rfl) ?_
          exact h_retQ hx hb hr hlocks hw rfl (so2 h) dX7_trueBy_88
      · have h := ie hc1 h
        refine lv_aload_n hx hb dX7_trueBy_24 rfl (lv_at hl 0 rfl) ?_
        refine h_getR hx hb hts hnX7_trueBy_X7 hown hK hw hS.1 rfl 3 (by decide) rfl hkX7_trueBy_31 dX7_trueBy_25 ?_
        refine h_getR hx hb hts hnX7_trueBy_X2 hown hK hw hS.2.2.2.2.1.1 rfl 1 (by decide) rfl hkX7_trueBy_108 dX7_trueBy_28 ?_
        refine lv_iload hx hb dX7_trueBy_31 (lv_at hl 4 rfl) ?_
        obtain ⟨r6, er6, h⟩ := b1_s h
        refine h_callR (va_runV (As := [.int y4]) (rest := []) ⟨hx, hb, hml, hown, hts⟩ (mX0_isOfTwo l D ac ad S 20 f y4 r6 hS.2.2.2.2.1.2.2.2.1 er6) (cwV 1 hts gX7_trueBy_X0_isOfTwo rfl rfl rfl (by decide +kernel) ⟨Nat.le_of_ble_eq_true rfl, Nat.le_of_ble_eq_true rfl⟩) (h_preV hK hw hS.2.2.2.2.1.2.2.2.1.1 rfl _) rfl rfl hl.1 rfl (lv_room (Nat.le_of_ble_eq_true rfl)) dX7_trueBy_33 ⟨Nat.le_of_ble_eq_true rfl, Nat.le_of_ble_eq_true rfl⟩) ?_
        refine lv_if_eq (tgt := 76) hx hb dX7_trueBy_36 (by decide) (fun hc7 => ?_) (fun hc7 => ?_)
        · have h := it hc7 h
          refine lv_iinc (v := (y4 + 1)) (lv' := [(4, .int (y4 + 1)), (0, .ref (ad 0)), (1, .int x1), (2, .int y2), (3, .int y3)]) hx hb dX7_trueBy_76 hl (k := 4) rfl rfl (by decide) rfl (fun ls hl => ?_)
          refine lv_goto (tgt := 17) hx hb dX7_trueBy_79 (by decide) ?_
          exact ih f y2 y3 (y4 + 1) _ _ _ hw (lv_sub hl [1, 2, 3, 4, 0] rfl) h
        · have h := ie hc7 h
          refine lv_aload_n hx hb dX7_trueBy_39 rfl (lv_at hl 0 rfl) ?_
          refine lv_iload hx hb dX7_trueBy_40 (lv_at hl 4 rfl) ?_
          obtain ⟨r8, f9, ef9, h⟩ := b2_s h
          refine h_callQ hw (va_runV (As := [.int y4]) (rest := []) ⟨hx, hb, hml, hown, hts⟩ (mX7_isSeenWithout l D ac ad S f y4 r8 f9 hS ef9) (cwV 1 hts gX7_trueBy_X7_isSeenWithout rfl rfl rfl (by decide +kernel) ⟨Nat.le_of_ble_eq_true rfl, Nat.le_of_ble_eq_true rfl⟩) (h_preV hK hw hS.1 rfl _) rfl rfl hl.1 rfl (lv_room (Nat.le_of_ble_eq_true rfl)) dX7_trueBy_42 ⟨Nat.le_of_ble_eq_true rfl, Nat.le_of_ble_eq_true rfl⟩) (fun H locs hw => ?_)
          refine lv_if_eq (tgt := 76) hx hb dX7_trueBy_45 (by decide) (fun hc10 => ?_) (fun hc10 => ?_)
          · have h := it hc10 h
            refine lv_iinc (v := (y4 + 1)) (lv' := [(4, .int (y4 + 1)), (0, .ref (ad 0)), (1, .int x1), (2, .int y2), (3, .int y3)]) hx hb dX7_trueBy_76 hl (k := 4) rfl rfl (by decide) rfl (fun ls hl => ?_)
            refine lv_goto (tgt := 17) hx hb dX7_trueBy_79 (by decide) ?_
            exact ih f9 y2 y3 (y4 + 1) _ _ _ hw (lv_sub hl [1, 2, 3, 4, 0] rfl) h
          · have h := ie hc10 h
            refine lv_iinc (v := (y2 + 1)) (lv' := [(2, .int (y2 + 1)), (0, .ref (ad 0)), (1, .int x1), (3, .int y3), (4, .int y4)]) hx hb dX7_trueBy_48 hl (k := 2) rfl rfl (by decide) rfl (fun ls hl => ?_)
            refine lv_iload_n hx hb dX7_trueBy_51 rfl (lv_at hl 3 rfl) ?_
            refine lv_bipush (v := (-4)) hx hb dX7_trueBy_52 (by decide) ?_
            refine lv_icmp_ne (tgt := 74) hx hb dX7_trueBy_54 (by decide) (fun hc11 => ?_) (fun hc11 => ?_)
            · have h := ie hc11 h
              refine lv_iload_n hx hb dX7_trueBy_74 rfl (lv_at hl 3 rfl) ?_
              refine lv_istore_n (lv' := [(3, .int y3), (2, .int (y2 + 1)), (0, .ref (ad 0)), (1, .int x1), (4, .int y4)]) hx hb dX7_trueBy_75 rfl hl (by decide) rfl (fun ls hl => ?_)
              refine lv_iinc (v := (y4 + 1)) (lv' := [(4, .int (y4 + 1)), (3, .int y3), (2, .int (y2 + 1)), (0, .ref (ad 0)), (1, .int x1)]) hx hb dX7_trueBy_76 hl (k := 4) rfl rfl (by decide) rfl (fun ls hl => ?_)
              refine lv_goto (tgt := 17) hx hb dX7_trueBy_79 (by decide) ?_
              exact ih f9 (y2 + 1) y3 (y4 + 1) _ _ _ hw (lv_sub hl [3, 4, 2, 1, 0] rfl) h
            · have h := it hc11 h
              refine lv_bipush (v := 10) hx hb dX7_trueBy_57 (by decide) ?_
              refine lv_iload hx hb dX7_trueBy_59 (lv_at hl 4 rfl) ?_
              refine lv_bipush (v := 8) hx hb dX7_trueBy_61 (by decide) ?_
              refine lv_idiv hx hb dX7_trueBy_63 (by decide) ?_
              refine lv_imul hx hb dX7_trueBy_64 ?_
              refine lv_iload hx hb dX7_trueBy_65 (lv_at hl 4 rfl) ?_
              refine lv_bipush (v := 8) hx hb dX7_trueBy_67 (by decide) ?_
              refine lv_irem hx hb dX7_trueBy_69 (by decide) ?_
              refine lv_iadd hx hb dX7_trueBy_70 ?_
              refine lv_goto (tgt := 75) hx hb dX7_trueBy_71 (by decide) ?_
              refine lv_istore_n (lv' := [(3, .int ((10 * (y4 / 8)) + (y4 - y4 / 8 * 8))), (2, .int (y2 + 1)), (0, .ref (ad 0)), (1, .int x1), (4, .int y4)]) hx hb dX7_trueBy_75 rfl hl (by decide) rfl (fun ls hl => ?_)
              refine lv_iinc (v := (y4 + 1)) (lv' := [(4, .int (y4 + 1)), (3, .int ((10 * (y4 / 8)) + (y4 - y4 / 8 * 8))), (2, .int (y2 + 1)), (0, .ref (ad 0)), (1, .int x1)]) hx hb dX7_trueBy_76 hl (k := 4) rfl rfl (by decide) rfl (fun ls hl => ?_)
              refine lv_goto (tgt := 17) hx hb dX7_trueBy_79 (by decide) ?_
              exact ih f9 (y2 + 1) ((10 * (y4 / 8)) + (y4 - y4 / 8 * 8)) (y4 + 1) _ _ _ hw (lv_sub hl [3, 4, 2, 1, 0] rfl) h
  unfold fX7_trueBy at h
  refine lv_iload_n hx hb dX7_trueBy_0 rfl (lv_at hl 1 rfl) ?_
  obtain ⟨r1, er1, h⟩ := b1_s h
  refine h_callR (va_runS (As := [.int x1]) (rest := []) ⟨hx, hb, hml, hown, hts⟩ (mX7_isPart l D ac ad S f x1 r1  er1) (va_cwS 1 hts gX7_trueBy_X7_isPart rfl rfl rfl (by decide +kernel) ⟨Nat.le_of_ble_eq_true rfl, Nat.le_of_ble_eq_true rfl⟩) (h_preS hK hw _) rfl rfl hl.1 rfl (lv_room (Nat.le_of_ble_eq_true rfl)) dX7_trueBy_1 ⟨Nat.le_of_ble_eq_true rfl, Nat.le_of_ble_eq_true rfl⟩) ?_
  refine lv_if_ne (tgt := 9) hx hb dX7_trueBy_4 (by decide) (fun hc2 => ?_) (fun hc2 => ?_)
  · have h := ie hc2 h
    refine lv_iconst (v := 0) hx hb dX7_trueBy_9 (by decide) ?_
    refine lv_istore_n (lv' := [(2, .int 0), (0, .ref (ad 0)), (1, .int x1)]) hx hb dX7_trueBy_10 rfl hl (by decide) rfl (fun ls hl => ?_)
    refine lv_bipush (v := (-4)) hx hb dX7_trueBy_11 (by decide) ?_
    refine lv_istore_n (lv' := [(3, .int (-4)), (2, .int 0), (0, .ref (ad 0)), (1, .int x1)]) hx hb dX7_trueBy_13 rfl hl (by decide) rfl (fun ls hl => ?_)
    refine lv_iconst (v := 0) hx hb dX7_trueBy_14 (by decide) ?_
    refine lv_istore (lv' := [(4, .int 0), (3, .int (-4)), (2, .int 0), (0, .ref (ad 0)), (1, .int x1)]) hx hb dX7_trueBy_15 hl (by decide) rfl (fun ls hl => ?_)
    exact J17 _ f 0 (-4) 0 _ _ _ hw (lv_sub hl [3, 4, 2, 1, 0] rfl) h
  · have h := it hc2 h
    refine lv_iconst (v := (-1)) hx hb dX7_trueBy_7 (by decide) ?_
    exact h_retQ hx hb hr hlocks hw rfl (so2 h) dX7_trueBy_8

theorem hnX7_hand_X7 : ∀ w ∈ wsX70, w ∈ wsX7_hand := by decide +kernel
theorem hkX7_hand_31 : Cond.fieldLink RX7 31 (TX7 3).1 (TX7 3).2.1 (TX7 3).2.2.1 ∈ wsX7_hand := by decide +kernel
theorem hnX7_hand_X2 : ∀ w ∈ wsX20, w ∈ wsX7_hand := by decide +kernel
theorem hkX7_hand_108 : Cond.fieldLink RX7 108 (TX2 1).1 (TX2 1).2.1 (TX2 1).2.2.1 ∈ wsX7_hand := by decide +kernel
theorem hnX7_hand_X0 : ∀ w ∈ wsX00, w ∈ wsX7_hand := by decide +kernel
theorem hkX7_hand_149 : Cond.fieldLink RX7 149 (TX0 4).1 (TX0 4).2.1 (TX0 4).2.2.1 ∈ wsX7_hand := by decide +kernel
theorem hkX7_hand_164 : Cond.fieldLink RX7 164 (TX0 8).1 (TX0 8).2.1 (TX0 8).2.2.1 ∈ wsX7_hand := by decide +kernel
theorem hkX7_hand_152 : Cond.fieldLink RX7 152 (TX0 5).1 (TX0 5).2.1 (TX0 5).2.2.1 ∈ wsX7_hand := by decide +kernel
set_option maxHeartbeats 8000000 in
set_option maxRecDepth 100000 in
theorem mX7_hand (l : Launch) (D : va_G) (ac : Nat → ClassId) (ad : Nat → Nat) (S : List hSh) (f : hF) (x1 : Int32) (x2 : Int32) (rv : Int32) (hS : isPW S) (h : fX7_hand f x1 x2 = some rv) : Met l yX7_hand wsX7_hand ({ frames := 1, cells := 0, slots := 0, locals := 22 }) (hPc D ac ad S f [.ref (ad 0), .int x1, .int x2]) (hRi rv) 0 0 hNo := by
  refine h_enter (C := RX7) (cc := cX7_hand) (maxL := 4) (ret := (some .int)) (lv := [(0, .ref (ad 0)), (1, .int x1), (2, .int x2)]) (by decide) rfl rfl (Nat.le_of_ble_eq_true rfl) rfl (fun p e s m below meth c ls hx hb hml hr hlocks hown hts hK hw hl => ?_)
  unfold fX7_hand at h
  refine lv_aload_n hx hb dX7_hand_0 rfl (lv_at hl 0 rfl) ?_
  refine h_getR hx hb hts hnX7_hand_X7 hown hK hw hS.1 rfl 3 (by decide) rfl hkX7_hand_31 dX7_hand_1 ?_
  refine h_getR hx hb hts hnX7_hand_X2 hown hK hw hS.2.2.2.2.1.1 rfl 1 (by decide) rfl hkX7_hand_108 dX7_hand_4 ?_
  refine lv_iload_n hx hb dX7_hand_7 rfl (lv_at hl 1 rfl) ?_
  refine lv_iload_n hx hb dX7_hand_8 rfl (lv_at hl 2 rfl) ?_
  obtain ⟨r1, er1, h⟩ := b1_s h
  refine h_callR (va_runV (As := [.int x1, .int x2]) (rest := []) ⟨hx, hb, hml, hown, hts⟩ (mX0_slotOf l D ac ad S 20 f x1 x2 r1 hS.2.2.2.2.1.2.2.2.1 er1) (cwV 2 hts gX7_hand_X0_slotOf rfl rfl rfl (by decide +kernel) ⟨Nat.le_of_ble_eq_true rfl, Nat.le_of_ble_eq_true rfl⟩) (h_preV hK hw hS.2.2.2.2.1.2.2.2.1.1 rfl _) rfl rfl hl.1 rfl (lv_room (Nat.le_of_ble_eq_true rfl)) dX7_hand_9 ⟨Nat.le_of_ble_eq_true rfl, Nat.le_of_ble_eq_true rfl⟩) ?_
  refine lv_istore_n (lv' := [(3, .int r1), (0, .ref (ad 0)), (1, .int x1), (2, .int x2)]) hx hb dX7_hand_12 rfl hl (by decide) rfl (fun ls hl => ?_)
  refine lv_iload_n hx hb dX7_hand_13 rfl (lv_at hl 0 rfl) ?_
  refine lv_iconst (v := (-1)) hx hb dX7_hand_14 (by decide) ?_
  refine lv_icmp_ne (tgt := 20) hx hb dX7_hand_15 (by decide) (fun hc2 => ?_) (fun hc2 => ?_)
  · have h := ie hc2 h
    refine lv_aload_n hx hb dX7_hand_20 rfl (lv_at hl 1 rfl) ?_
    refine h_getR hx hb hts hnX7_hand_X7 hown hK hw hS.1 rfl 3 (by decide) rfl hkX7_hand_31 dX7_hand_21 ?_
    refine h_getR hx hb hts hnX7_hand_X2 hown hK hw hS.2.2.2.2.1.1 rfl 1 (by decide) rfl hkX7_hand_108 dX7_hand_24 ?_
    refine h_getR hx hb hts hnX7_hand_X0 hown hK hw hS.2.2.2.2.1.2.2.2.1.1 rfl 4 (by decide) rfl hkX7_hand_149 dX7_hand_27 ?_
    refine lv_iload_n hx hb dX7_hand_30 rfl (lv_at hl 0 rfl) ?_
    obtain ⟨hi3, h⟩ := gd_s h
    refine h_iald hx hb hK hw hS.2.2.2.2.1.2.2.2.1.2.2.2.2.1 hi3 dX7_hand_31 ?_
    refine lv_iconst (v := 1) hx hb dX7_hand_32 (by decide) ?_
    refine lv_icmp_eq (tgt := 39) hx hb dX7_hand_33 (by decide) (fun hc4 => ?_) (fun hc4 => ?_)
    · have h := it hc4 h
      refine lv_aload_n hx hb dX7_hand_39 rfl (lv_at hl 1 rfl) ?_
      refine h_getR hx hb hts hnX7_hand_X7 hown hK hw hS.1 rfl 3 (by decide) rfl hkX7_hand_31 dX7_hand_40 ?_
      refine h_getR hx hb hts hnX7_hand_X2 hown hK hw hS.2.2.2.2.1.1 rfl 1 (by decide) rfl hkX7_hand_108 dX7_hand_43 ?_
      refine h_getR hx hb hts hnX7_hand_X0 hown hK hw hS.2.2.2.2.1.2.2.2.1.1 rfl 8 (by decide) rfl hkX7_hand_164 dX7_hand_46 ?_
      refine lv_iload_n hx hb dX7_hand_49 rfl (lv_at hl 0 rfl) ?_
      obtain ⟨hi5, h⟩ := gd_s h
      refine h_iald hx hb hK hw hS.2.2.2.2.1.2.2.2.1.2.2.2.2.2.2.2.2 hi5 dX7_hand_50 ?_
      refine lv_aload_n hx hb dX7_hand_51 rfl (lv_at hl 1 rfl) ?_
      refine h_getR hx hb hts hnX7_hand_X7 hown hK hw hS.1 rfl 3 (by decide) rfl hkX7_hand_31 dX7_hand_52 ?_
      refine h_getR hx hb hts hnX7_hand_X2 hown hK hw hS.2.2.2.2.1.1 rfl 1 (by decide) rfl hkX7_hand_108 dX7_hand_55 ?_
      refine h_getR hx hb hts hnX7_hand_X0 hown hK hw hS.2.2.2.2.1.2.2.2.1.1 rfl 5 (by decide) rfl hkX7_hand_152 dX7_hand_58 ?_
      refine lv_iload_n hx hb dX7_hand_61 rfl (lv_at hl 0 rfl) ?_
      obtain ⟨hi6, h⟩ := gd_s h
      refine h_iald hx hb hK hw hS.2.2.2.2.1.2.2.2.1.2.2.2.2.2.1 hi6 dX7_hand_62 ?_
      refine lv_icmp_ne (tgt := 71) hx hb dX7_hand_63 (by decide) (fun hc7 => ?_) (fun hc7 => ?_)
      · have h := ie hc7 h
        refine lv_bipush (v := 6) hx hb dX7_hand_71 (by decide) ?_
        exact h_retR hx hb hr hlocks rfl (so1 h) dX7_hand_73
      · have h := it hc7 h
        refine lv_bipush (v := 7) hx hb dX7_hand_66 (by decide) ?_
        refine lv_goto (tgt := 73) hx hb dX7_hand_68 (by decide) ?_
        exact h_retR hx hb hr hlocks rfl (so1 h) dX7_hand_73
    · have h := ie hc4 h
      refine lv_bipush (v := (-2)) hx hb dX7_hand_36 (by decide) ?_
      exact h_retR hx hb hr hlocks rfl (so1 h) dX7_hand_38
  · have h := it hc2 h
    refine lv_iconst (v := (-1)) hx hb dX7_hand_18 (by decide) ?_
    exact h_retR hx hb hr hlocks rfl (so1 h) dX7_hand_19

theorem hnX7_child_X7 : ∀ w ∈ wsX70, w ∈ wsX7_child := by decide +kernel
theorem hkX7_child_19 : Cond.fieldLink RX7 19 (TX7 1).1 (TX7 1).2.1 (TX7 1).2.2.1 ∈ wsX7_child := by decide +kernel
theorem hnX7_child_X3 : ∀ w ∈ wsX30, w ∈ wsX7_child := by decide +kernel
theorem hkX7_child_97 : Cond.fieldLink RX7 97 (TX3 3).1 (TX3 3).2.1 (TX3 3).2.2.1 ∈ wsX7_child := by decide +kernel
theorem hkX7_child_31 : Cond.fieldLink RX7 31 (TX7 3).1 (TX7 3).2.1 (TX7 3).2.2.1 ∈ wsX7_child := by decide +kernel
set_option maxHeartbeats 8000000 in
set_option maxRecDepth 100000 in
theorem mX7_child (l : Launch) (D : va_G) (ac : Nat → ClassId) (ad : Nat → Nat) (S : List hSh) (f : hF) (x1 : Int32) (x2 : Int32) (rv : Int32) (gv : hF) (hS : isPW S) (h : fX7_child f x1 x2 = some (rv, gv)) : Met l yX7_child wsX7_child ({ frames := 5, cells := 0, slots := 0, locals := 110 }) (hPc D ac ad S f [.ref (ad 0), .int x1, .int x2]) (hQi D ac ad S rv gv) 0 0 (hAd ad S.length) := by
  refine h_enter (C := RX7) (cc := cX7_child) (maxL := 3) (ret := (some .int)) (lv := [(0, .ref (ad 0)), (1, .int x1), (2, .int x2)]) (by decide) rfl rfl (Nat.le_of_ble_eq_true rfl) rfl (fun p e s m below meth c ls hx hb hml hr hlocks hown hts hK hw hl => ?_)
  unfold fX7_child at h
  refine lv_aload_n hx hb dX7_child_0 rfl (lv_at hl 0 rfl) ?_
  refine h_getR hx hb hts hnX7_child_X7 hown hK hw hS.1 rfl 1 (by decide) rfl hkX7_child_19 dX7_child_1 ?_
  refine lv_iload_n hx hb dX7_child_4 rfl (lv_at hl 1 rfl) ?_
  obtain ⟨r1, er1, h⟩ := b1_s h
  refine h_callR (va_runV (As := [.int x1]) (rest := []) ⟨hx, hb, hml, hown, hts⟩ (mX3_isPerson l D ac ad S 3 f x1 r1 hS.2.2.1 er1) (cwV 1 hts gX7_child_X3_isPerson rfl rfl rfl (by decide +kernel) ⟨Nat.le_of_ble_eq_true rfl, Nat.le_of_ble_eq_true rfl⟩) (h_preV hK hw hS.2.2.1.1 rfl _) rfl rfl hl.1 rfl (lv_room (Nat.le_of_ble_eq_true rfl)) dX7_child_5 ⟨Nat.le_of_ble_eq_true rfl, Nat.le_of_ble_eq_true rfl⟩) ?_
  refine lv_if_eq (tgt := 30) hx hb dX7_child_8 (by decide) (fun hc2 => ?_) (fun hc2 => ?_)
  · have h := it hc2 h
    refine lv_iconst (v := (-1)) hx hb dX7_child_30 (by decide) ?_
    exact h_retQ hx hb hr hlocks hw rfl (so2 h) dX7_child_31
  · have h := ie hc2 h
    refine lv_aload_n hx hb dX7_child_11 rfl (lv_at hl 0 rfl) ?_
    refine h_getR hx hb hts hnX7_child_X7 hown hK hw hS.1 rfl 1 (by decide) rfl hkX7_child_19 dX7_child_12 ?_
    refine h_getR hx hb hts hnX7_child_X3 hown hK hw hS.2.2.1.1 rfl 3 (by decide) rfl hkX7_child_97 dX7_child_15 ?_
    refine lv_iload_n hx hb dX7_child_18 rfl (lv_at hl 1 rfl) ?_
    obtain ⟨hi3, h⟩ := gd_s h
    refine h_zald hx hb hK hw hS.2.2.1.2.1 hi3 dX7_child_19 ?_
    refine lv_if_eq (tgt := 30) hx hb dX7_child_20 (by decide) (fun hc4 => ?_) (fun hc4 => ?_)
    · have h := it hc4 h
      refine lv_iconst (v := (-1)) hx hb dX7_child_30 (by decide) ?_
      exact h_retQ hx hb hr hlocks hw rfl (so2 h) dX7_child_31
    · have h := ie hc4 h
      refine lv_iload_n hx hb dX7_child_23 rfl (lv_at hl 2 rfl) ?_
      obtain ⟨r5, er5, h⟩ := b1_s h
      refine h_callR (va_runS (As := [.int x2]) (rest := []) ⟨hx, hb, hml, hown, hts⟩ (mX7_isDay l D ac ad S f x2 r5  er5) (va_cwS 1 hts gX7_child_X7_isDay rfl rfl rfl (by decide +kernel) ⟨Nat.le_of_ble_eq_true rfl, Nat.le_of_ble_eq_true rfl⟩) (h_preS hK hw _) rfl rfl hl.1 rfl (lv_room (Nat.le_of_ble_eq_true rfl)) dX7_child_24 ⟨Nat.le_of_ble_eq_true rfl, Nat.le_of_ble_eq_true rfl⟩) ?_
      refine lv_if_ne (tgt := 32) hx hb dX7_child_27 (by decide) (fun hc6 => ?_) (fun hc6 => ?_)
      · have h := ie hc6 h
        refine lv_aload_n hx hb dX7_child_32 rfl (lv_at hl 0 rfl) ?_
        refine h_getR hx hb hts hnX7_child_X7 hown hK hw hS.1 rfl 3 (by decide) rfl hkX7_child_31 dX7_child_33 ?_
        refine lv_iload_n hx hb dX7_child_36 rfl (lv_at hl 1 rfl) ?_
        refine lv_iload_n hx hb dX7_child_37 rfl (lv_at hl 2 rfl) ?_
        refine lv_bipush (v := 9) hx hb dX7_child_38 (by decide) ?_
        refine lv_isub hx hb dX7_child_40 ?_
        obtain ⟨r7, f8, ef8, h⟩ := b2_s h
        refine h_callQ hw (va_runV (As := [.int x1, .int (x2 - 9)]) (rest := []) ⟨hx, hb, hml, hown, hts⟩ (mX2_mateBy l D ac ad S 19 3 f x1 (x2 - 9) r7 f8 hS.2.2.2.2.1 ef8) (cwV 2 hts gX7_child_X2_mateBy rfl rfl rfl (by decide +kernel) ⟨Nat.le_of_ble_eq_true rfl, Nat.le_of_ble_eq_true rfl⟩) (h_preV hK hw hS.2.2.2.2.1.1 rfl _) rfl rfl hl.1 rfl (lv_room (Nat.le_of_ble_eq_true rfl)) dX7_child_41 ⟨Nat.le_of_ble_eq_true rfl, Nat.le_of_ble_eq_true rfl⟩) (fun H locs hw => ?_)
        refine lv_bipush (v := (-4)) hx hb dX7_child_44 (by decide) ?_
        refine lv_icmp_ne (tgt := 53) hx hb dX7_child_46 (by decide) (fun hc9 => ?_) (fun hc9 => ?_)
        · have h := ie hc9 h
          refine lv_iconst (v := 1) hx hb dX7_child_53 (by decide) ?_
          exact h_retQ hx hb hr hlocks hw rfl (so2 h) dX7_child_54
        · have h := it hc9 h
          refine lv_iconst (v := 0) hx hb dX7_child_49 (by decide) ?_
          refine lv_goto (tgt := 54) hx hb dX7_child_50 (by decide) ?_
          exact h_retQ hx hb hr hlocks hw rfl (so2 h) dX7_child_54
      · have h := it hc6 h
        refine lv_iconst (v := (-1)) hx hb dX7_child_30 (by decide) ?_
        exact h_retQ hx hb hr hlocks hw rfl (so2 h) dX7_child_31

theorem hnX2_singles_X2 : ∀ w ∈ wsX20, w ∈ wsX2_singles := by decide +kernel
theorem hkX2_singles_31 : Cond.fieldLink RX2 31 (TX2 0).1 (TX2 0).2.1 (TX2 0).2.2.1 ∈ wsX2_singles := by decide +kernel
theorem hnX2_singles_X3 : ∀ w ∈ wsX30, w ∈ wsX2_singles := by decide +kernel
theorem hkX2_singles_178 : Cond.fieldLink RX2 178 (TX3 0).1 (TX3 0).2.1 (TX3 0).2.2.1 ∈ wsX2_singles := by decide +kernel
theorem hkX2_singles_69 : Cond.fieldLink RX2 69 (TX3 3).1 (TX3 3).2.1 (TX3 3).2.2.1 ∈ wsX2_singles := by decide +kernel
theorem hkX2_singles_23 : Cond.fieldLink RX2 23 (TX2 2).1 (TX2 2).2.1 (TX2 2).2.2.1 ∈ wsX2_singles := by decide +kernel
theorem hkX2_singles_12 : Cond.fieldLink RX2 12 (TX2 1).1 (TX2 1).2.1 (TX2 1).2.2.1 ∈ wsX2_singles := by decide +kernel
theorem hnX2_singles_X0 : ∀ w ∈ wsX00, w ∈ wsX2_singles := by decide +kernel
theorem hkX2_singles_49 : Cond.fieldLink RX2 49 (TX0 0).1 (TX0 0).2.1 (TX0 0).2.2.1 ∈ wsX2_singles := by decide +kernel
set_option maxHeartbeats 8000000 in
set_option maxRecDepth 100000 in
theorem mX2_singles (l : Launch) (D : va_G) (ac : Nat → ClassId) (ad : Nat → Nat) (S : List hSh) (k : Nat) (ro : Nat) (f : hF) (x1 : Int32) (rv : Int32) (gv : hF) (hS : isHo S k ro) (h : fX2_singles k ro f x1 = some (rv, gv)) : Met l yX2_singles wsX2_singles ({ frames := 4, cells := 0, slots := 0, locals := 88 }) (hPc D ac ad S f [.ref (ad k), .int x1]) (hQi D ac ad S rv gv) 0 0 (hAd ad S.length) := by
  refine h_enter (C := RX2) (cc := cX2_singles) (maxL := 4) (ret := (some .int)) (lv := [(0, .ref (ad k)), (1, .int x1)]) (by decide) rfl rfl (Nat.le_of_ble_eq_true rfl) rfl (fun p e s m below meth c ls hx hb hml hr hlocks hown hts hK hw hl => ?_)
  have J8 : ∀ (n : Nat), (∀ (f : hF) (y2 : Int32) (y3 : Int32) (H : Heap) (locs : List Loc) (ls : Array Slot), hOk D ac ad S (hAd ad S.length) s.heap f H locs → lv_has ls 4 [(0, .ref (ad k)), (1, .int x1), (2, .int y2), (3, .int y3)] → fX2_singles_8 k ro x1 n f y2 y3 = some (rv, gv) → W p l e ({ frames := 4, cells := 0, slots := 0, locals := 88 } : Room) s m ([.ref (ad k), .int x1] : List Value).toArray below meth c H locs 0 0 (MQ below (hQi D ac ad S rv gv) ([.ref (ad k), .int x1] : List Value).toArray s 0 0 (hAd ad S.length)) (F0 m 8 ls [])) := by
    intro n
    induction n with
    | zero =>
      intro f y2 y3 H locs ls hw hl h
      rw [fX2_singles_8] at h
      cases h
    | succ n ih =>
      intro f y2 y3 H locs ls hw hl h
      rw [fX2_singles_8] at h
      refine lv_iload_n hx hb dX2_singles_8 rfl (lv_at hl 3 rfl) ?_
      refine lv_aload_n hx hb dX2_singles_9 rfl (lv_at hl 0 rfl) ?_
      refine h_getR hx hb hts hnX2_singles_X2 hown hK hw hS.1 rfl 0 (by decide) rfl hkX2_singles_31 dX2_singles_10 ?_
      refine h_getI hx hb hts hnX2_singles_X3 hown hK hw hS.2.2.1.1 rfl 0 (by decide) rfl hkX2_singles_178 dX2_singles_13 ?_
      refine lv_icmp_ge (tgt := 64) hx hb dX2_singles_16 (by decide) (fun hc1 => ?_) (fun hc1 => ?_)
      · have h := it hc1 h
        refine lv_iload_n hx hb dX2_singles_64 rfl (lv_at hl 2 rfl) ?_
        exact h_retQ hx hb hr hlocks hw rfl (so2 h) dX2_singles_65
      · have h := ie hc1 h
        refine lv_aload_n hx hb dX2_singles_19 rfl (lv_at hl 0 rfl) ?_
        refine h_getR hx hb hts hnX2_singles_X2 hown hK hw hS.1 rfl 0 (by decide) rfl hkX2_singles_31 dX2_singles_20 ?_
        refine h_getR hx hb hts hnX2_singles_X3 hown hK hw hS.2.2.1.1 rfl 3 (by decide) rfl hkX2_singles_69 dX2_singles_23 ?_
        refine lv_iload_n hx hb dX2_singles_26 rfl (lv_at hl 3 rfl) ?_
        obtain ⟨hi2, h⟩ := gd_s h
        refine h_zald hx hb hK hw hS.2.2.1.2.1 hi2 dX2_singles_27 ?_
        refine lv_iload_n hx hb dX2_singles_28 rfl (lv_at hl 1 rfl) ?_
        refine lv_icmp_ne (tgt := 58) hx hb dX2_singles_29 (by decide) (fun hc3 => ?_) (fun hc3 => ?_)
        · have h := ie hc3 h
          refine lv_iinc (v := (y3 + 1)) (lv' := [(3, .int (y3 + 1)), (0, .ref (ad k)), (1, .int x1), (2, .int y2)]) hx hb dX2_singles_58 hl (k := 3) rfl rfl (by decide) rfl (fun ls hl => ?_)
          refine lv_goto (tgt := 8) hx hb dX2_singles_61 (by decide) ?_
          exact ih f y2 (y3 + 1) _ _ _ hw (lv_sub hl [1, 2, 3, 0] rfl) h
        · have h := it hc3 h
          refine lv_aload_n hx hb dX2_singles_32 rfl (lv_at hl 0 rfl) ?_
          refine h_getR hx hb hts hnX2_singles_X2 hown hK hw hS.1 rfl 2 (by decide) rfl hkX2_singles_23 dX2_singles_33 ?_
          refine lv_iload_n hx hb dX2_singles_36 rfl (lv_at hl 3 rfl) ?_
          refine lv_aload_n hx hb dX2_singles_37 rfl (lv_at hl 0 rfl) ?_
          refine h_getR hx hb hts hnX2_singles_X2 hown hK hw hS.1 rfl 1 (by decide) rfl hkX2_singles_12 dX2_singles_38 ?_
          refine h_getI hx hb hts hnX2_singles_X0 hown hK hw hS.2.2.2.1.1 rfl 0 (by decide) rfl hkX2_singles_49 dX2_singles_41 ?_
          obtain ⟨r4, er4, h⟩ := b1_s h
          refine h_callR (va_runV (As := [.int y3, .int (f (k+1) 0)]) (rest := []) ⟨hx, hb, hml, hown, hts⟩ (mX1_mateOf l D ac ad S (k+10) (k+1) f y3 (f (k+1) 0) r4 hS.2.2.2.2 er4) (cwV 2 hts gX2_singles_X1_mateOf rfl rfl rfl (by decide +kernel) ⟨Nat.le_of_ble_eq_true rfl, Nat.le_of_ble_eq_true rfl⟩) (h_preV hK hw hS.2.2.2.2.1 rfl _) rfl rfl hl.1 rfl (lv_room (Nat.le_of_ble_eq_true rfl)) dX2_singles_44 ⟨Nat.le_of_ble_eq_true rfl, Nat.le_of_ble_eq_true rfl⟩) ?_
          refine lv_bipush (v := (-4)) hx hb dX2_singles_47 (by decide) ?_
          refine lv_icmp_ne (tgt := 58) hx hb dX2_singles_49 (by decide) (fun hc5 => ?_) (fun hc5 => ?_)
          · have h := ie hc5 h
            refine lv_iinc (v := (y3 + 1)) (lv' := [(3, .int (y3 + 1)), (0, .ref (ad k)), (1, .int x1), (2, .int y2)]) hx hb dX2_singles_58 hl (k := 3) rfl rfl (by decide) rfl (fun ls hl => ?_)
            refine lv_goto (tgt := 8) hx hb dX2_singles_61 (by decide) ?_
            exact ih f y2 (y3 + 1) _ _ _ hw (lv_sub hl [1, 2, 3, 0] rfl) h
          · have h := it hc5 h
            refine lv_iload_n hx hb dX2_singles_52 rfl (lv_at hl 2 rfl) ?_
            refine lv_iconst (v := 1) hx hb dX2_singles_53 (by decide) ?_
            refine lv_iload_n hx hb dX2_singles_54 rfl (lv_at hl 3 rfl) ?_
            refine lv_ishl hx hb dX2_singles_55 ?_
            refine lv_ior hx hb dX2_singles_56 ?_
            refine lv_istore_n (lv' := [(2, .int (y2 ||| (1 <<< (y3 &&& 31)))), (0, .ref (ad k)), (1, .int x1), (3, .int y3)]) hx hb dX2_singles_57 rfl hl (by decide) rfl (fun ls hl => ?_)
            refine lv_iinc (v := (y3 + 1)) (lv' := [(3, .int (y3 + 1)), (2, .int (y2 ||| (1 <<< (y3 &&& 31)))), (0, .ref (ad k)), (1, .int x1)]) hx hb dX2_singles_58 hl (k := 3) rfl rfl (by decide) rfl (fun ls hl => ?_)
            refine lv_goto (tgt := 8) hx hb dX2_singles_61 (by decide) ?_
            exact ih f (y2 ||| (1 <<< (y3 &&& 31))) (y3 + 1) _ _ _ hw (lv_sub hl [2, 3, 1, 0] rfl) h
  unfold fX2_singles at h
  refine lv_aload_n hx hb dX2_singles_0 rfl (lv_at hl 0 rfl) ?_
  obtain ⟨f1, ef1, h⟩ := b1_s h
  refine h_callV hw (va_runV (As := []) (rest := []) ⟨hx, hb, hml, hown, hts⟩ (mX2_settle l D ac ad S k ro f f1 hS ef1) (cwV 0 hts gX2_singles_X2_settle rfl rfl rfl (by decide +kernel) ⟨Nat.le_of_ble_eq_true rfl, Nat.le_of_ble_eq_true rfl⟩) (h_preV hK hw hS.1 rfl _) rfl rfl hl.1 rfl (lv_room (Nat.le_of_ble_eq_true rfl)) dX2_singles_1 ⟨Nat.le_of_ble_eq_true rfl, Nat.le_of_ble_eq_true rfl⟩) (fun H locs hw => ?_)
  refine lv_iconst (v := 0) hx hb dX2_singles_4 (by decide) ?_
  refine lv_istore_n (lv' := [(2, .int 0), (0, .ref (ad k)), (1, .int x1)]) hx hb dX2_singles_5 rfl hl (by decide) rfl (fun ls hl => ?_)
  refine lv_iconst (v := 0) hx hb dX2_singles_6 (by decide) ?_
  refine lv_istore_n (lv' := [(3, .int 0), (2, .int 0), (0, .ref (ad k)), (1, .int x1)]) hx hb dX2_singles_7 rfl hl (by decide) rfl (fun ls hl => ?_)
  exact J8 _ f1 0 0 _ _ _ hw (lv_sub hl [2, 3, 1, 0] rfl) h

theorem hnX2_lowestFor_X2 : ∀ w ∈ wsX20, w ∈ wsX2_lowestFor := by decide +kernel
theorem hkX2_lowestFor_31 : Cond.fieldLink RX2 31 (TX2 0).1 (TX2 0).2.1 (TX2 0).2.2.1 ∈ wsX2_lowestFor := by decide +kernel
theorem hnX2_lowestFor_X3 : ∀ w ∈ wsX30, w ∈ wsX2_lowestFor := by decide +kernel
theorem hkX2_lowestFor_178 : Cond.fieldLink RX2 178 (TX3 0).1 (TX3 0).2.1 (TX3 0).2.2.1 ∈ wsX2_lowestFor := by decide +kernel
set_option maxHeartbeats 8000000 in
set_option maxRecDepth 100000 in
theorem mX2_lowestFor (l : Launch) (D : va_G) (ac : Nat → ClassId) (ad : Nat → Nat) (S : List hSh) (k : Nat) (ro : Nat) (f : hF) (x1 : Int32) (x2 : Int32) (rv : Int32) (hS : isHo S k ro) (h : fX2_lowestFor k ro f x1 x2 = some rv) : Met l yX2_lowestFor wsX2_lowestFor ({ frames := 3, cells := 0, slots := 0, locals := 69 }) (hPc D ac ad S f [.ref (ad k), .int x1, .int x2]) (hRi rv) 0 0 hNo := by
  refine h_enter (C := RX2) (cc := cX2_lowestFor) (maxL := 4) (ret := (some .int)) (lv := [(0, .ref (ad k)), (1, .int x1), (2, .int x2)]) (by decide) rfl rfl (Nat.le_of_ble_eq_true rfl) rfl (fun p e s m below meth c ls hx hb hml hr hlocks hown hts hK hw hl => ?_)
  have J2 : ∀ (n : Nat), (∀ (y3 : Int32) (ls : Array Slot), lv_has ls 4 [(0, .ref (ad k)), (1, .int x1), (2, .int x2), (3, .int y3)] → fX2_lowestFor_2 k ro f x1 x2 n y3 = some rv → W p l e ({ frames := 3, cells := 0, slots := 0, locals := 69 } : Room) s m ([.ref (ad k), .int x1, .int x2] : List Value).toArray below meth c s.heap [] 0 0 (MQ below (hRi rv) ([.ref (ad k), .int x1, .int x2] : List Value).toArray s 0 0 hNo) (F0 m 2 ls [])) := by
    intro n
    induction n with
    | zero =>
      intro y3 ls hl h
      rw [fX2_lowestFor_2] at h
      cases h
    | succ n ih =>
      intro y3 ls hl h
      rw [fX2_lowestFor_2] at h
      refine lv_iload_n hx hb dX2_lowestFor_2 rfl (lv_at hl 3 rfl) ?_
      refine lv_aload_n hx hb dX2_lowestFor_3 rfl (lv_at hl 0 rfl) ?_
      refine h_getR hx hb hts hnX2_lowestFor_X2 hown hK hw hS.1 rfl 0 (by decide) rfl hkX2_lowestFor_31 dX2_lowestFor_4 ?_
      refine h_getI hx hb hts hnX2_lowestFor_X3 hown hK hw hS.2.2.1.1 rfl 0 (by decide) rfl hkX2_lowestFor_178 dX2_lowestFor_7 ?_
      refine lv_icmp_ge (tgt := 40) hx hb dX2_lowestFor_10 (by decide) (fun hc1 => ?_) (fun hc1 => ?_)
      · have h := it hc1 h
        refine lv_bipush (v := (-4)) hx hb dX2_lowestFor_40 (by decide) ?_
        exact h_retR hx hb hr hlocks rfl (so1 h) dX2_lowestFor_42
      · have h := ie hc1 h
        refine lv_iload_n hx hb dX2_lowestFor_13 rfl (lv_at hl 2 rfl) ?_
        refine lv_iload_n hx hb dX2_lowestFor_14 rfl (lv_at hl 3 rfl) ?_
        refine lv_ishr hx hb dX2_lowestFor_15 ?_
        refine lv_iconst (v := 1) hx hb dX2_lowestFor_16 (by decide) ?_
        refine lv_iand hx hb dX2_lowestFor_17 ?_
        refine lv_iconst (v := 1) hx hb dX2_lowestFor_18 (by decide) ?_
        refine lv_icmp_ne (tgt := 34) hx hb dX2_lowestFor_19 (by decide) (fun hc2 => ?_) (fun hc2 => ?_)
        · have h := ie hc2 h
          refine lv_iinc (v := (y3 + 1)) (lv' := [(3, .int (y3 + 1)), (0, .ref (ad k)), (1, .int x1), (2, .int x2)]) hx hb dX2_lowestFor_34 hl (k := 3) rfl rfl (by decide) rfl (fun ls hl => ?_)
          refine lv_goto (tgt := 2) hx hb dX2_lowestFor_37 (by decide) ?_
          exact ih (y3 + 1) _ (lv_sub hl [1, 2, 3, 0] rfl) h
        · have h := it hc2 h
          refine lv_aload_n hx hb dX2_lowestFor_22 rfl (lv_at hl 0 rfl) ?_
          refine lv_iconst (v := 0) hx hb dX2_lowestFor_23 (by decide) ?_
          refine lv_iload_n hx hb dX2_lowestFor_24 rfl (lv_at hl 3 rfl) ?_
          refine lv_iload_n hx hb dX2_lowestFor_25 rfl (lv_at hl 1 rfl) ?_
          obtain ⟨r3, er3, h⟩ := b1_s h
          refine h_callR (va_runV (As := [.int 0, .int y3, .int x1]) (rest := []) ⟨hx, hb, hml, hown, hts⟩ (mX2_refuseWedding l D ac ad S k ro f (0 : Int32) y3 x1 r3 hS er3) (cwV 3 hts gX2_lowestFor_X2_refuseWedding rfl rfl rfl (by decide +kernel) ⟨Nat.le_of_ble_eq_true rfl, Nat.le_of_ble_eq_true rfl⟩) (h_preV hK hw hS.1 rfl _) rfl rfl hl.1 rfl (lv_room (Nat.le_of_ble_eq_true rfl)) dX2_lowestFor_26 ⟨Nat.le_of_ble_eq_true rfl, Nat.le_of_ble_eq_true rfl⟩) ?_
          refine lv_if_ne (tgt := 34) hx hb dX2_lowestFor_29 (by decide) (fun hc4 => ?_) (fun hc4 => ?_)
          · have h := ie hc4 h
            refine lv_iinc (v := (y3 + 1)) (lv' := [(3, .int (y3 + 1)), (0, .ref (ad k)), (1, .int x1), (2, .int x2)]) hx hb dX2_lowestFor_34 hl (k := 3) rfl rfl (by decide) rfl (fun ls hl => ?_)
            refine lv_goto (tgt := 2) hx hb dX2_lowestFor_37 (by decide) ?_
            exact ih (y3 + 1) _ (lv_sub hl [1, 2, 3, 0] rfl) h
          · have h := it hc4 h
            refine lv_iload_n hx hb dX2_lowestFor_32 rfl (lv_at hl 3 rfl) ?_
            exact h_retR hx hb hr hlocks rfl (so1 h) dX2_lowestFor_33
  unfold fX2_lowestFor at h
  refine lv_iconst (v := 0) hx hb dX2_lowestFor_0 (by decide) ?_
  refine lv_istore_n (lv' := [(3, .int 0), (0, .ref (ad k)), (1, .int x1), (2, .int x2)]) hx hb dX2_lowestFor_1 rfl hl (by decide) rfl (fun ls hl => ?_)
  exact J2 _ 0 _ (lv_sub hl [1, 2, 3, 0] rfl) h

theorem hnX2_countTouted_X2 : ∀ w ∈ wsX20, w ∈ wsX2_countTouted := by decide +kernel
theorem hkX2_countTouted_31 : Cond.fieldLink RX2 31 (TX2 0).1 (TX2 0).2.1 (TX2 0).2.2.1 ∈ wsX2_countTouted := by decide +kernel
theorem hnX2_countTouted_X3 : ∀ w ∈ wsX30, w ∈ wsX2_countTouted := by decide +kernel
theorem hkX2_countTouted_178 : Cond.fieldLink RX2 178 (TX3 0).1 (TX3 0).2.1 (TX3 0).2.2.1 ∈ wsX2_countTouted := by decide +kernel
theorem hkX2_countTouted_12 : Cond.fieldLink RX2 12 (TX2 1).1 (TX2 1).2.1 (TX2 1).2.2.1 ∈ wsX2_countTouted := by decide +kernel
theorem hnX2_countTouted_X0 : ∀ w ∈ wsX00, w ∈ wsX2_countTouted := by decide +kernel
theorem hkX2_countTouted_195 : Cond.fieldLink RX2 195 (TX0 3).1 (TX0 3).2.1 (TX0 3).2.2.1 ∈ wsX2_countTouted := by decide +kernel
set_option maxHeartbeats 8000000 in
set_option maxRecDepth 100000 in
theorem mX2_countTouted (l : Launch) (D : va_G) (ac : Nat → ClassId) (ad : Nat → Nat) (S : List hSh) (k : Nat) (ro : Nat) (f : hF) (x1 : Int32) (x2 : Int32) (rv : Int32) (hS : isHo S k ro) (h : fX2_countTouted k ro f x1 x2 = some rv) : Met l yX2_countTouted wsX2_countTouted ({ frames := 4, cells := 0, slots := 0, locals := 92 }) (hPc D ac ad S f [.ref (ad k), .int x1, .int x2]) (hRi rv) 0 0 hNo := by
  refine h_enter (C := RX2) (cc := cX2_countTouted) (maxL := 8) (ret := (some .int)) (lv := [(0, .ref (ad k)), (1, .int x1), (2, .int x2)]) (by decide) rfl rfl (Nat.le_of_ble_eq_true rfl) rfl (fun p e s m below meth c ls hx hb hml hr hlocks hown hts hK hw hl => ?_)
  have J71 : ∀ (q8 : Int32 → Int32 → Int32 → Option Int32) (hq8 : (∀ (y3 : Int32) (y4 : Int32) (y5 : Int32) (ls : Array Slot), lv_has ls 8 [(0, .ref (ad k)), (1, .int x1), (3, .int y3), (4, .int y4), (5, .int y5)] → q8 y3 y4 y5 = some rv → W p l e ({ frames := 4, cells := 0, slots := 0, locals := 92 } : Room) s m ([.ref (ad k), .int x1, .int x2] : List Value).toArray below meth c s.heap [] 0 0 (MQ below (hRi rv) ([.ref (ad k), .int x1, .int x2] : List Value).toArray s 0 0 hNo) (F0 m 8 ls []))), (∀ (y3 : Int32) (y4 : Int32) (y5 : Int32) (s0 : Int32) (ls : Array Slot), lv_has ls 8 [(0, .ref (ad k)), (1, .int x1), (3, .int y3), (4, .int y4), (5, .int y5)] → fX2_countTouted_71 k ro f x1 x2 q8 y3 y4 y5 s0 = some rv → W p l e ({ frames := 4, cells := 0, slots := 0, locals := 92 } : Room) s m ([.ref (ad k), .int x1, .int x2] : List Value).toArray below meth c s.heap [] 0 0 (MQ below (hRi rv) ([.ref (ad k), .int x1, .int x2] : List Value).toArray s 0 0 hNo) (F0 m 71 ls [.int s0])) := by
    intro q8 hq8 y3 y4 y5 s0 ls hl h
    unfold fX2_countTouted_71 at h
    refine lv_istore (lv' := [(7, .int s0), (0, .ref (ad k)), (1, .int x1), (3, .int y3), (4, .int y4), (5, .int y5)]) hx hb dX2_countTouted_71 hl (by decide) rfl (fun ls hl => ?_)
    refine lv_iload hx hb dX2_countTouted_73 (lv_at hl 0 rfl) ?_
    refine lv_bipush (v := (-4)) hx hb dX2_countTouted_75 (by decide) ?_
    refine lv_icmp_eq (tgt := 92) hx hb dX2_countTouted_77 (by decide) (fun hc1 => ?_) (fun hc1 => ?_)
    · have h := it hc1 h
      refine lv_iinc (v := (y5 + 1)) (lv' := [(5, .int (y5 + 1)), (7, .int s0), (0, .ref (ad k)), (1, .int x1), (3, .int y3), (4, .int y4)]) hx hb dX2_countTouted_92 hl (k := 5) rfl rfl (by decide) rfl (fun ls hl => ?_)
      refine lv_goto (tgt := 8) hx hb dX2_countTouted_95 (by decide) ?_
      exact hq8 y3 y4 (y5 + 1) _ (lv_sub hl [2, 3, 4, 5, 0] rfl) h
    · have h := ie hc1 h
      refine lv_iload_n hx hb dX2_countTouted_80 rfl (lv_at hl 3 rfl) ?_
      refine lv_iconst (v := 1) hx hb dX2_countTouted_81 (by decide) ?_
      refine lv_iload hx hb dX2_countTouted_82 (lv_at hl 0 rfl) ?_
      refine lv_ishl hx hb dX2_countTouted_84 ?_
      refine lv_iconst (v := (-1)) hx hb dX2_countTouted_85 (by decide) ?_
      refine lv_ixor hx hb dX2_countTouted_86 ?_
      refine lv_iand hx hb dX2_countTouted_87 ?_
      refine lv_istore_n (lv' := [(3, .int (y3 &&& ((1 <<< (s0 &&& 31)) ^^^ (-1)))), (7, .int s0), (0, .ref (ad k)), (1, .int x1), (4, .int y4), (5, .int y5)]) hx hb dX2_countTouted_88 rfl hl (by decide) rfl (fun ls hl => ?_)
      refine lv_iinc (v := (y4 + 1)) (lv' := [(4, .int (y4 + 1)), (3, .int (y3 &&& ((1 <<< (s0 &&& 31)) ^^^ (-1)))), (7, .int s0), (0, .ref (ad k)), (1, .int x1), (5, .int y5)]) hx hb dX2_countTouted_89 hl (k := 4) rfl rfl (by decide) rfl (fun ls hl => ?_)
      refine lv_iinc (v := (y5 + 1)) (lv' := [(5, .int (y5 + 1)), (4, .int (y4 + 1)), (3, .int (y3 &&& ((1 <<< (s0 &&& 31)) ^^^ (-1)))), (7, .int s0), (0, .ref (ad k)), (1, .int x1)]) hx hb dX2_countTouted_92 hl (k := 5) rfl rfl (by decide) rfl (fun ls hl => ?_)
      refine lv_goto (tgt := 8) hx hb dX2_countTouted_95 (by decide) ?_
      exact hq8 (y3 &&& ((1 <<< (s0 &&& 31)) ^^^ (-1))) (y4 + 1) (y5 + 1) _ (lv_sub hl [4, 5, 2, 1, 0] rfl) h
  have J52 : ∀ (q8 : Int32 → Int32 → Int32 → Option Int32) (hq8 : (∀ (y3 : Int32) (y4 : Int32) (y5 : Int32) (ls : Array Slot), lv_has ls 8 [(0, .ref (ad k)), (1, .int x1), (3, .int y3), (4, .int y4), (5, .int y5)] → q8 y3 y4 y5 = some rv → W p l e ({ frames := 4, cells := 0, slots := 0, locals := 92 } : Room) s m ([.ref (ad k), .int x1, .int x2] : List Value).toArray below meth c s.heap [] 0 0 (MQ below (hRi rv) ([.ref (ad k), .int x1, .int x2] : List Value).toArray s 0 0 hNo) (F0 m 8 ls []))), (∀ (y3 : Int32) (y4 : Int32) (y5 : Int32) (s0 : Int32) (ls : Array Slot), lv_has ls 8 [(0, .ref (ad k)), (1, .int x1), (3, .int y3), (4, .int y4), (5, .int y5)] → fX2_countTouted_52 k ro f x1 x2 q8 y3 y4 y5 s0 = some rv → W p l e ({ frames := 4, cells := 0, slots := 0, locals := 92 } : Room) s m ([.ref (ad k), .int x1, .int x2] : List Value).toArray below meth c s.heap [] 0 0 (MQ below (hRi rv) ([.ref (ad k), .int x1, .int x2] : List Value).toArray s 0 0 hNo) (F0 m 52 ls [.int s0])) := by
    intro q8 hq8 y3 y4 y5 s0 ls hl h
    unfold fX2_countTouted_52 at h
    refine lv_istore (lv' := [(6, .int s0), (0, .ref (ad k)), (1, .int x1), (3, .int y3), (4, .int y4), (5, .int y5)]) hx hb dX2_countTouted_52 hl (by decide) rfl (fun ls hl => ?_)
    refine lv_iload hx hb dX2_countTouted_54 (lv_at hl 0 rfl) ?_
    refine lv_if_eq (tgt := 69) hx hb dX2_countTouted_56 (by decide) (fun hc1 => ?_) (fun hc1 => ?_)
    · have h := it hc1 h
      refine lv_bipush (v := (-4)) hx hb dX2_countTouted_69 (by decide) ?_
      exact J71 q8 hq8 y3 y4 y5 (-4) _ (lv_sub hl [1, 2, 3, 4, 5] rfl) h
    · have h := ie hc1 h
      refine lv_aload_n hx hb dX2_countTouted_59 rfl (lv_at hl 1 rfl) ?_
      refine lv_iload hx hb dX2_countTouted_60 (lv_at hl 5 rfl) ?_
      refine lv_iload_n hx hb dX2_countTouted_62 rfl (lv_at hl 3 rfl) ?_
      obtain ⟨r2, er2, h⟩ := b1_s h
      refine h_callR (va_runV (As := [.int y5, .int y3]) (rest := []) ⟨hx, hb, hml, hown, hts⟩ (mX2_lowestFor l D ac ad S k ro f y5 y3 r2 hS er2) (cwV 2 hts gX2_countTouted_X2_lowestFor rfl rfl rfl (by decide +kernel) ⟨Nat.le_of_ble_eq_true rfl, Nat.le_of_ble_eq_true rfl⟩) (h_preV hK hw hS.1 rfl _) rfl rfl hl.1 rfl (lv_room (Nat.le_of_ble_eq_true rfl)) dX2_countTouted_63 ⟨Nat.le_of_ble_eq_true rfl, Nat.le_of_ble_eq_true rfl⟩) ?_
      refine lv_goto (tgt := 71) hx hb dX2_countTouted_66 (by decide) ?_
      exact J71 q8 hq8 y3 y4 y5 r2 _ (lv_sub hl [1, 2, 3, 4, 5] rfl) h
  have J51 : ∀ (q8 : Int32 → Int32 → Int32 → Option Int32) (hq8 : (∀ (y3 : Int32) (y4 : Int32) (y5 : Int32) (ls : Array Slot), lv_has ls 8 [(0, .ref (ad k)), (1, .int x1), (3, .int y3), (4, .int y4), (5, .int y5)] → q8 y3 y4 y5 = some rv → W p l e ({ frames := 4, cells := 0, slots := 0, locals := 92 } : Room) s m ([.ref (ad k), .int x1, .int x2] : List Value).toArray below meth c s.heap [] 0 0 (MQ below (hRi rv) ([.ref (ad k), .int x1, .int x2] : List Value).toArray s 0 0 hNo) (F0 m 8 ls []))), (∀ (y3 : Int32) (y4 : Int32) (y5 : Int32) (ls : Array Slot), lv_has ls 8 [(0, .ref (ad k)), (1, .int x1), (3, .int y3), (4, .int y4), (5, .int y5)] → fX2_countTouted_51 k ro f x1 x2 q8 y3 y4 y5 = some rv → W p l e ({ frames := 4, cells := 0, slots := 0, locals := 92 } : Room) s m ([.ref (ad k), .int x1, .int x2] : List Value).toArray below meth c s.heap [] 0 0 (MQ below (hRi rv) ([.ref (ad k), .int x1, .int x2] : List Value).toArray s 0 0 hNo) (F0 m 51 ls [])) := by
    intro q8 hq8 y3 y4 y5 ls hl h
    unfold fX2_countTouted_51 at h
    refine lv_iconst (v := 0) hx hb dX2_countTouted_51 (by decide) ?_
    exact J52 q8 hq8 y3 y4 y5 0 _ (lv_sub hl [0, 1, 2, 3, 4] rfl) h
  have J8 : ∀ (n : Nat), (∀ (y3 : Int32) (y4 : Int32) (y5 : Int32) (ls : Array Slot), lv_has ls 8 [(0, .ref (ad k)), (1, .int x1), (3, .int y3), (4, .int y4), (5, .int y5)] → fX2_countTouted_8 k ro f x1 x2 n y3 y4 y5 = some rv → W p l e ({ frames := 4, cells := 0, slots := 0, locals := 92 } : Room) s m ([.ref (ad k), .int x1, .int x2] : List Value).toArray below meth c s.heap [] 0 0 (MQ below (hRi rv) ([.ref (ad k), .int x1, .int x2] : List Value).toArray s 0 0 hNo) (F0 m 8 ls [])) := by
    intro n
    induction n with
    | zero =>
      intro y3 y4 y5 ls hl h
      rw [fX2_countTouted_8] at h
      cases h
    | succ n ih =>
      intro y3 y4 y5 ls hl h
      rw [fX2_countTouted_8] at h
      refine lv_iload hx hb dX2_countTouted_8 (lv_at hl 4 rfl) ?_
      refine lv_aload_n hx hb dX2_countTouted_10 rfl (lv_at hl 0 rfl) ?_
      refine h_getR hx hb hts hnX2_countTouted_X2 hown hK hw hS.1 rfl 0 (by decide) rfl hkX2_countTouted_31 dX2_countTouted_11 ?_
      refine h_getI hx hb hts hnX2_countTouted_X3 hown hK hw hS.2.2.1.1 rfl 0 (by decide) rfl hkX2_countTouted_178 dX2_countTouted_14 ?_
      refine lv_icmp_ge (tgt := 98) hx hb dX2_countTouted_17 (by decide) (fun hc1 => ?_) (fun hc1 => ?_)
      · have h := it hc1 h
        refine lv_iload hx hb dX2_countTouted_98 (lv_at hl 3 rfl) ?_
        exact h_retR hx hb hr hlocks rfl (so1 h) dX2_countTouted_100
      · have h := ie hc1 h
        refine lv_iload_n hx hb dX2_countTouted_20 rfl (lv_at hl 1 rfl) ?_
        refine lv_iload hx hb dX2_countTouted_21 (lv_at hl 4 rfl) ?_
        refine lv_ishr hx hb dX2_countTouted_23 ?_
        refine lv_iconst (v := 1) hx hb dX2_countTouted_24 (by decide) ?_
        refine lv_iand hx hb dX2_countTouted_25 ?_
        refine lv_iconst (v := 1) hx hb dX2_countTouted_26 (by decide) ?_
        refine lv_icmp_ne (tgt := 51) hx hb dX2_countTouted_27 (by decide) (fun hc2 => ?_) (fun hc2 => ?_)
        · have h := ie hc2 h
          exact J51 (fX2_countTouted_8 k ro f x1 x2 n) ih y3 y4 y5 _ (lv_sub hl [0, 1, 2, 3, 4] rfl) h
        · have h := it hc2 h
          refine lv_aload_n hx hb dX2_countTouted_30 rfl (lv_at hl 0 rfl) ?_
          refine h_getR hx hb hts hnX2_countTouted_X2 hown hK hw hS.1 rfl 1 (by decide) rfl hkX2_countTouted_12 dX2_countTouted_31 ?_
          refine h_getR hx hb hts hnX2_countTouted_X0 hown hK hw hS.2.2.2.1.1 rfl 3 (by decide) rfl hkX2_countTouted_195 dX2_countTouted_34 ?_
          refine lv_iconst (v := 0) hx hb dX2_countTouted_37 (by decide) ?_
          obtain ⟨hi3, h⟩ := gd_s h
          refine h_iald hx hb hK hw hS.2.2.2.1.2.2.2.1 hi3 dX2_countTouted_38 ?_
          refine lv_iload hx hb dX2_countTouted_39 (lv_at hl 3 rfl) ?_
          refine lv_iadd hx hb dX2_countTouted_41 ?_
          refine lv_bipush (v := 8) hx hb dX2_countTouted_42 (by decide) ?_
          refine lv_icmp_ge (tgt := 51) hx hb dX2_countTouted_44 (by decide) (fun hc4 => ?_) (fun hc4 => ?_)
          · have h := it hc4 h
            exact J51 (fX2_countTouted_8 k ro f x1 x2 n) ih y3 y4 y5 _ (lv_sub hl [0, 1, 2, 3, 4] rfl) h
          · have h := ie hc4 h
            refine lv_iconst (v := 1) hx hb dX2_countTouted_47 (by decide) ?_
            refine lv_goto (tgt := 52) hx hb dX2_countTouted_48 (by decide) ?_
            exact J52 (fX2_countTouted_8 k ro f x1 x2 n) ih y3 y4 y5 1 _ (lv_sub hl [0, 1, 2, 3, 4] rfl) h
  unfold fX2_countTouted at h
  refine lv_iload_n hx hb dX2_countTouted_0 rfl (lv_at hl 2 rfl) ?_
  refine lv_istore_n (lv' := [(3, .int x2), (0, .ref (ad k)), (1, .int x1), (2, .int x2)]) hx hb dX2_countTouted_1 rfl hl (by decide) rfl (fun ls hl => ?_)
  refine lv_iconst (v := 0) hx hb dX2_countTouted_2 (by decide) ?_
  refine lv_istore (lv' := [(4, .int 0), (3, .int x2), (0, .ref (ad k)), (1, .int x1), (2, .int x2)]) hx hb dX2_countTouted_3 hl (by decide) rfl (fun ls hl => ?_)
  refine lv_iconst (v := 0) hx hb dX2_countTouted_5 (by decide) ?_
  refine lv_istore (lv' := [(5, .int 0), (4, .int 0), (3, .int x2), (0, .ref (ad k)), (1, .int x1), (2, .int x2)]) hx hb dX2_countTouted_6 hl (by decide) rfl (fun ls hl => ?_)
  exact J8 _ x2 0 0 _ (lv_sub hl [3, 4, 2, 1, 0] rfl) h

set_option maxHeartbeats 8000000 in
set_option maxRecDepth 100000 in
theorem mX2_waysToBring (l : Launch) (D : va_G) (ac : Nat → ClassId) (ad : Nat → Nat) (S : List hSh) (f : hF) (x0 : Int32) (x1 : Int32) (x2 : Int32) (rv : Int32) (h : fX2_waysToBring x0 x1 x2 = some rv) : Met l yX2_waysToBring wsX2_waysToBring ({ frames := 0, cells := 0, slots := 0, locals := 0 }) (hPc D ac ad S f [.int x0, .int x1, .int x2]) (hRi rv) 0 0 hNo := by
  refine h_enter (C := RX2) (cc := cX2_waysToBring) (maxL := 5) (ret := (some .int)) (lv := [(0, .int x0), (1, .int x1), (2, .int x2)]) (by decide) rfl rfl (Nat.le_of_ble_eq_true rfl) rfl (fun p e s m below meth c ls hx hb hml hr hlocks hown hts hK hw hl => ?_)
  have J41 : ∀ (q5 : Int32 → Int32 → Option Int32) (hq5 : (∀ (y3 : Int32) (y4 : Int32) (ls : Array Slot), lv_has ls 5 [(0, .int x0), (1, .int x1), (2, .int x2), (3, .int y3), (4, .int y4)] → q5 y3 y4 = some rv → W p l e ({ frames := 0, cells := 0, slots := 0, locals := 0 } : Room) s m ([.int x0, .int x1, .int x2] : List Value).toArray below meth c s.heap [] 0 0 (MQ below (hRi rv) ([.int x0, .int x1, .int x2] : List Value).toArray s 0 0 hNo) (F0 m 5 ls []))), (∀ (y4 : Int32) (s0 : Int32) (s1 : Int32) (ls : Array Slot), lv_has ls 5 [(0, .int x0), (1, .int x1), (2, .int x2), (4, .int y4)] → fX2_waysToBring_41 x0 x1 x2 q5 y4 s0 s1 = some rv → W p l e ({ frames := 0, cells := 0, slots := 0, locals := 0 } : Room) s m ([.int x0, .int x1, .int x2] : List Value).toArray below meth c s.heap [] 0 0 (MQ below (hRi rv) ([.int x0, .int x1, .int x2] : List Value).toArray s 0 0 hNo) (F0 m 41 ls [.int s1, .int s0])) := by
    intro q5 hq5 y4 s0 s1 ls hl h
    unfold fX2_waysToBring_41 at h
    refine lv_imul hx hb dX2_waysToBring_41 ?_
    refine lv_istore_n (lv' := [(3, .int (s0 * s1)), (0, .int x0), (1, .int x1), (2, .int x2), (4, .int y4)]) hx hb dX2_waysToBring_42 rfl hl (by decide) rfl (fun ls hl => ?_)
    refine lv_iinc (v := (y4 + 1)) (lv' := [(4, .int (y4 + 1)), (3, .int (s0 * s1)), (0, .int x0), (1, .int x1), (2, .int x2)]) hx hb dX2_waysToBring_43 hl (k := 4) rfl rfl (by decide) rfl (fun ls hl => ?_)
    refine lv_goto (tgt := 5) hx hb dX2_waysToBring_46 (by decide) ?_
    exact hq5 (s0 * s1) (y4 + 1) _ (lv_sub hl [2, 3, 4, 1, 0] rfl) h
  have J5 : ∀ (n : Nat), (∀ (y3 : Int32) (y4 : Int32) (ls : Array Slot), lv_has ls 5 [(0, .int x0), (1, .int x1), (2, .int x2), (3, .int y3), (4, .int y4)] → fX2_waysToBring_5 x0 x1 x2 n y3 y4 = some rv → W p l e ({ frames := 0, cells := 0, slots := 0, locals := 0 } : Room) s m ([.int x0, .int x1, .int x2] : List Value).toArray below meth c s.heap [] 0 0 (MQ below (hRi rv) ([.int x0, .int x1, .int x2] : List Value).toArray s 0 0 hNo) (F0 m 5 ls [])) := by
    intro n
    induction n with
    | zero =>
      intro y3 y4 ls hl h
      rw [fX2_waysToBring_5] at h
      cases h
    | succ n ih =>
      intro y3 y4 ls hl h
      rw [fX2_waysToBring_5] at h
      refine lv_iload hx hb dX2_waysToBring_5 (lv_at hl 4 rfl) ?_
      refine lv_bipush (v := 8) hx hb dX2_waysToBring_7 (by decide) ?_
      refine lv_icmp_ge (tgt := 49) hx hb dX2_waysToBring_9 (by decide) (fun hc1 => ?_) (fun hc1 => ?_)
      · have h := it hc1 h
        refine lv_iload_n hx hb dX2_waysToBring_49 rfl (lv_at hl 3 rfl) ?_
        exact h_retR hx hb hr hlocks rfl (so1 h) dX2_waysToBring_50
      · have h := ie hc1 h
        refine lv_iload_n hx hb dX2_waysToBring_12 rfl (lv_at hl 1 rfl) ?_
        refine lv_iload hx hb dX2_waysToBring_13 (lv_at hl 4 rfl) ?_
        refine lv_ishr hx hb dX2_waysToBring_15 ?_
        refine lv_iconst (v := 1) hx hb dX2_waysToBring_16 (by decide) ?_
        refine lv_iand hx hb dX2_waysToBring_17 ?_
        refine lv_iconst (v := 1) hx hb dX2_waysToBring_18 (by decide) ?_
        refine lv_icmp_ne (tgt := 43) hx hb dX2_waysToBring_19 (by decide) (fun hc2 => ?_) (fun hc2 => ?_)
        · have h := ie hc2 h
          refine lv_iinc (v := (y4 + 1)) (lv' := [(4, .int (y4 + 1)), (0, .int x0), (1, .int x1), (2, .int x2), (3, .int y3)]) hx hb dX2_waysToBring_43 hl (k := 4) rfl rfl (by decide) rfl (fun ls hl => ?_)
          refine lv_goto (tgt := 5) hx hb dX2_waysToBring_46 (by decide) ?_
          exact ih y3 (y4 + 1) _ (lv_sub hl [1, 2, 3, 4, 0] rfl) h
        · have h := it hc2 h
          refine lv_iload_n hx hb dX2_waysToBring_22 rfl (lv_at hl 3 rfl) ?_
          refine lv_iload_n hx hb dX2_waysToBring_23 rfl (lv_at hl 0 rfl) ?_
          refine lv_iload hx hb dX2_waysToBring_24 (lv_at hl 4 rfl) ?_
          refine lv_ishr hx hb dX2_waysToBring_26 ?_
          refine lv_iconst (v := 1) hx hb dX2_waysToBring_27 (by decide) ?_
          refine lv_iand hx hb dX2_waysToBring_28 ?_
          refine lv_iconst (v := 1) hx hb dX2_waysToBring_29 (by decide) ?_
          refine lv_icmp_ne (tgt := 37) hx hb dX2_waysToBring_30 (by decide) (fun hc3 => ?_) (fun hc3 => ?_)
          · have h := ie hc3 h
            refine lv_bipush (v := 10) hx hb dX2_waysToBring_37 (by decide) ?_
            refine lv_iload_n hx hb dX2_waysToBring_39 rfl (lv_at hl 2 rfl) ?_
            refine lv_isub hx hb dX2_waysToBring_40 ?_
            exact J41 (fX2_waysToBring_5 x0 x1 x2 n) ih y4 y3 (10 - x2) _ (lv_sub hl [0, 1, 2, 4] rfl) h
          · have h := it hc3 h
            refine lv_iload_n hx hb dX2_waysToBring_33 rfl (lv_at hl 2 rfl) ?_
            refine lv_goto (tgt := 41) hx hb dX2_waysToBring_34 (by decide) ?_
            exact J41 (fX2_waysToBring_5 x0 x1 x2 n) ih y4 y3 x2 _ (lv_sub hl [0, 1, 2, 4] rfl) h
  unfold fX2_waysToBring at h
  refine lv_iconst (v := 1) hx hb dX2_waysToBring_0 (by decide) ?_
  refine lv_istore_n (lv' := [(3, .int 1), (0, .int x0), (1, .int x1), (2, .int x2)]) hx hb dX2_waysToBring_1 rfl hl (by decide) rfl (fun ls hl => ?_)
  refine lv_iconst (v := 0) hx hb dX2_waysToBring_2 (by decide) ?_
  refine lv_istore (lv' := [(4, .int 0), (3, .int 1), (0, .int x0), (1, .int x1), (2, .int x2)]) hx hb dX2_waysToBring_3 hl (by decide) rfl (fun ls hl => ?_)
  exact J5 _ 1 0 _ (lv_sub hl [2, 3, 4, 1, 0] rfl) h

set_option maxHeartbeats 8000000 in
set_option maxRecDepth 100000 in
theorem mX2_waysToWed (l : Launch) (D : va_G) (ac : Nat → ClassId) (ad : Nat → Nat) (S : List hSh) (k : Nat) (ro : Nat) (f : hF) (x1 : Int32) (x2 : Int32) (rv : Int32) (gv : hF) (hS : isHo S k ro) (h : fX2_waysToWed k ro f x1 x2 = some (rv, gv)) : Met l yX2_waysToWed wsX2_waysToWed ({ frames := 5, cells := 0, slots := 0, locals := 119 }) (hPc D ac ad S f [.ref (ad k), .int x1, .int x2]) (hQi D ac ad S rv gv) 0 0 (hAd ad S.length) := by
  refine h_enter (C := RX2) (cc := cX2_waysToWed) (maxL := 8) (ret := (some .int)) (lv := [(0, .ref (ad k)), (1, .int x1), (2, .int x2)]) (by decide) rfl rfl (Nat.le_of_ble_eq_true rfl) rfl (fun p e s m below meth c ls hx hb hml hr hlocks hown hts hK hw hl => ?_)
  have J25 : ∀ (n : Nat), (∀ (f : hF) (y3 : Int32) (y4 : Int32) (y5 : Int32) (y6 : Int32) (y7 : Int32) (H : Heap) (locs : List Loc) (ls : Array Slot), hOk D ac ad S (hAd ad S.length) s.heap f H locs → lv_has ls 8 [(0, .ref (ad k)), (1, .int x1), (2, .int x2), (3, .int y3), (4, .int y4), (5, .int y5), (6, .int y6), (7, .int y7)] → fX2_waysToWed_25 k ro x1 x2 n f y3 y4 y5 y6 y7 = some (rv, gv) → W p l e ({ frames := 5, cells := 0, slots := 0, locals := 119 } : Room) s m ([.ref (ad k), .int x1, .int x2] : List Value).toArray below meth c H locs 0 0 (MQ below (hQi D ac ad S rv gv) ([.ref (ad k), .int x1, .int x2] : List Value).toArray s 0 0 (hAd ad S.length)) (F0 m 25 ls [])) := by
    intro n
    induction n with
    | zero =>
      intro f y3 y4 y5 y6 y7 H locs ls hw hl h
      rw [fX2_waysToWed_25] at h
      cases h
    | succ n ih =>
      intro f y3 y4 y5 y6 y7 H locs ls hw hl h
      rw [fX2_waysToWed_25] at h
      refine lv_iload hx hb dX2_waysToWed_25 (lv_at hl 7 rfl) ?_
      refine lv_sipush (v := 256) hx hb dX2_waysToWed_27 (by decide) ?_
      refine lv_icmp_ge (tgt := 75) hx hb dX2_waysToWed_30 (by decide) (fun hc1 => ?_) (fun hc1 => ?_)
      · have h := it hc1 h
        refine lv_iload hx hb dX2_waysToWed_75 (lv_at hl 6 rfl) ?_
        exact h_retQ hx hb hr hlocks hw rfl (so2 h) dX2_waysToWed_77
      · have h := ie hc1 h
        refine lv_iload hx hb dX2_waysToWed_33 (lv_at hl 7 rfl) ?_
        refine lv_iload_n hx hb dX2_waysToWed_35 rfl (lv_at hl 3 rfl) ?_
        refine lv_iconst (v := (-1)) hx hb dX2_waysToWed_36 (by decide) ?_
        refine lv_ixor hx hb dX2_waysToWed_37 ?_
        refine lv_iand hx hb dX2_waysToWed_38 ?_
        refine lv_if_ne (tgt := 69) hx hb dX2_waysToWed_39 (by decide) (fun hc2 => ?_) (fun hc2 => ?_)
        · have h := ie hc2 h
          refine lv_iinc (v := (y7 + 1)) (lv' := [(7, .int (y7 + 1)), (0, .ref (ad k)), (1, .int x1), (2, .int x2), (3, .int y3), (4, .int y4), (5, .int y5), (6, .int y6)]) hx hb dX2_waysToWed_69 hl (k := 7) rfl rfl (by decide) rfl (fun ls hl => ?_)
          refine lv_goto (tgt := 25) hx hb dX2_waysToWed_72 (by decide) ?_
          exact ih f y3 y4 y5 y6 (y7 + 1) _ _ _ hw (lv_sub hl [1, 2, 3, 4, 5, 6, 7, 0] rfl) h
        · have h := it hc2 h
          refine lv_iload hx hb dX2_waysToWed_42 (lv_at hl 5 rfl) ?_
          refine lv_aload_n hx hb dX2_waysToWed_44 rfl (lv_at hl 0 rfl) ?_
          refine lv_iload hx hb dX2_waysToWed_45 (lv_at hl 7 rfl) ?_
          refine lv_iload hx hb dX2_waysToWed_47 (lv_at hl 4 rfl) ?_
          obtain ⟨r3, er3, h⟩ := b1_s h
          refine h_callR (va_runV (As := [.int y7, .int y4]) (rest := [.int y5]) ⟨hx, hb, hml, hown, hts⟩ (mX2_countTouted l D ac ad S k ro f y7 y4 r3 hS er3) (cwV 2 hts gX2_waysToWed_X2_countTouted rfl rfl rfl (by decide +kernel) ⟨Nat.le_of_ble_eq_true rfl, Nat.le_of_ble_eq_true rfl⟩) (h_preV hK hw hS.1 rfl _) rfl rfl hl.1 rfl (lv_room (Nat.le_of_ble_eq_true rfl)) dX2_waysToWed_49 ⟨Nat.le_of_ble_eq_true rfl, Nat.le_of_ble_eq_true rfl⟩) ?_
          refine lv_iadd hx hb dX2_waysToWed_52 ?_
          refine lv_iload_n hx hb dX2_waysToWed_53 rfl (lv_at hl 1 rfl) ?_
          refine lv_icmp_lt (tgt := 69) hx hb dX2_waysToWed_54 (by decide) (fun hc4 => ?_) (fun hc4 => ?_)
          · have h := it hc4 h
            refine lv_iinc (v := (y7 + 1)) (lv' := [(7, .int (y7 + 1)), (0, .ref (ad k)), (1, .int x1), (2, .int x2), (3, .int y3), (4, .int y4), (5, .int y5), (6, .int y6)]) hx hb dX2_waysToWed_69 hl (k := 7) rfl rfl (by decide) rfl (fun ls hl => ?_)
            refine lv_goto (tgt := 25) hx hb dX2_waysToWed_72 (by decide) ?_
            exact ih f y3 y4 y5 y6 (y7 + 1) _ _ _ hw (lv_sub hl [1, 2, 3, 4, 5, 6, 7, 0] rfl) h
          · have h := ie hc4 h
            refine lv_iload hx hb dX2_waysToWed_57 (lv_at hl 6 rfl) ?_
            refine lv_iload hx hb dX2_waysToWed_59 (lv_at hl 7 rfl) ?_
            refine lv_iload_n hx hb dX2_waysToWed_61 rfl (lv_at hl 3 rfl) ?_
            refine lv_iload_n hx hb dX2_waysToWed_62 rfl (lv_at hl 2 rfl) ?_
            obtain ⟨r5, er5, h⟩ := b1_s h
            refine h_callR (va_runS (As := [.int y7, .int y3, .int x2]) (rest := [.int y6]) ⟨hx, hb, hml, hown, hts⟩ (mX2_waysToBring l D ac ad S f y7 y3 x2 r5  er5) (va_cwS 3 hts gX2_waysToWed_X2_waysToBring rfl rfl rfl (by decide +kernel) ⟨Nat.le_of_ble_eq_true rfl, Nat.le_of_ble_eq_true rfl⟩) (h_preS hK hw _) rfl rfl hl.1 rfl (lv_room (Nat.le_of_ble_eq_true rfl)) dX2_waysToWed_63 ⟨Nat.le_of_ble_eq_true rfl, Nat.le_of_ble_eq_true rfl⟩) ?_
            refine lv_iadd hx hb dX2_waysToWed_66 ?_
            refine lv_istore (lv' := [(6, .int (y6 + r5)), (0, .ref (ad k)), (1, .int x1), (2, .int x2), (3, .int y3), (4, .int y4), (5, .int y5), (7, .int y7)]) hx hb dX2_waysToWed_67 hl (by decide) rfl (fun ls hl => ?_)
            refine lv_iinc (v := (y7 + 1)) (lv' := [(7, .int (y7 + 1)), (6, .int (y6 + r5)), (0, .ref (ad k)), (1, .int x1), (2, .int x2), (3, .int y3), (4, .int y4), (5, .int y5)]) hx hb dX2_waysToWed_69 hl (k := 7) rfl rfl (by decide) rfl (fun ls hl => ?_)
            refine lv_goto (tgt := 25) hx hb dX2_waysToWed_72 (by decide) ?_
            exact ih f y3 y4 y5 (y6 + r5) (y7 + 1) _ _ _ hw (lv_sub hl [2, 3, 4, 5, 6, 7, 1, 0] rfl) h
  unfold fX2_waysToWed at h
  refine lv_aload_n hx hb dX2_waysToWed_0 rfl (lv_at hl 0 rfl) ?_
  refine lv_iconst (v := 1) hx hb dX2_waysToWed_1 (by decide) ?_
  obtain ⟨r1, f2, ef2, h⟩ := b2_s h
  refine h_callQ hw (va_runV (As := [.int 1]) (rest := []) ⟨hx, hb, hml, hown, hts⟩ (mX2_singles l D ac ad S k ro f (1 : Int32) r1 f2 hS ef2) (cwV 1 hts gX2_waysToWed_X2_singles rfl rfl rfl (by decide +kernel) ⟨Nat.le_of_ble_eq_true rfl, Nat.le_of_ble_eq_true rfl⟩) (h_preV hK hw hS.1 rfl _) rfl rfl hl.1 rfl (lv_room (Nat.le_of_ble_eq_true rfl)) dX2_waysToWed_2 ⟨Nat.le_of_ble_eq_true rfl, Nat.le_of_ble_eq_true rfl⟩) (fun H locs hw => ?_)
  refine lv_istore_n (lv' := [(3, .int r1), (0, .ref (ad k)), (1, .int x1), (2, .int x2)]) hx hb dX2_waysToWed_5 rfl hl (by decide) rfl (fun ls hl => ?_)
  refine lv_aload_n hx hb dX2_waysToWed_6 rfl (lv_at hl 1 rfl) ?_
  refine lv_iconst (v := 0) hx hb dX2_waysToWed_7 (by decide) ?_
  obtain ⟨r3, f4, ef4, h⟩ := b2_s h
  refine h_callQ hw (va_runV (As := [.int 0]) (rest := []) ⟨hx, hb, hml, hown, hts⟩ (mX2_singles l D ac ad S k ro f2 (0 : Int32) r3 f4 hS ef4) (cwV 1 hts gX2_waysToWed_X2_singles rfl rfl rfl (by decide +kernel) ⟨Nat.le_of_ble_eq_true rfl, Nat.le_of_ble_eq_true rfl⟩) (h_preV hK hw hS.1 rfl _) rfl rfl hl.1 rfl (lv_room (Nat.le_of_ble_eq_true rfl)) dX2_waysToWed_8 ⟨Nat.le_of_ble_eq_true rfl, Nat.le_of_ble_eq_true rfl⟩) (fun H locs hw => ?_)
  refine lv_istore (lv' := [(4, .int r3), (3, .int r1), (0, .ref (ad k)), (1, .int x1), (2, .int x2)]) hx hb dX2_waysToWed_11 hl (by decide) rfl (fun ls hl => ?_)
  refine lv_aload_n hx hb dX2_waysToWed_13 rfl (lv_at hl 2 rfl) ?_
  obtain ⟨r5, f6, ef6, h⟩ := b2_s h
  refine h_callQ hw (va_runV (As := []) (rest := []) ⟨hx, hb, hml, hown, hts⟩ (mX2_countHeld l D ac ad S k ro f4 r5 f6 hS ef6) (cwV 0 hts gX2_waysToWed_X2_countHeld rfl rfl rfl (by decide +kernel) ⟨Nat.le_of_ble_eq_true rfl, Nat.le_of_ble_eq_true rfl⟩) (h_preV hK hw hS.1 rfl _) rfl rfl hl.1 rfl (lv_room (Nat.le_of_ble_eq_true rfl)) dX2_waysToWed_14 ⟨Nat.le_of_ble_eq_true rfl, Nat.le_of_ble_eq_true rfl⟩) (fun H locs hw => ?_)
  refine lv_istore (lv' := [(5, .int r5), (4, .int r3), (3, .int r1), (0, .ref (ad k)), (1, .int x1), (2, .int x2)]) hx hb dX2_waysToWed_17 hl (by decide) rfl (fun ls hl => ?_)
  refine lv_iconst (v := 0) hx hb dX2_waysToWed_19 (by decide) ?_
  refine lv_istore (lv' := [(6, .int 0), (5, .int r5), (4, .int r3), (3, .int r1), (0, .ref (ad k)), (1, .int x1), (2, .int x2)]) hx hb dX2_waysToWed_20 hl (by decide) rfl (fun ls hl => ?_)
  refine lv_iconst (v := 0) hx hb dX2_waysToWed_22 (by decide) ?_
  refine lv_istore (lv' := [(7, .int 0), (6, .int 0), (5, .int r5), (4, .int r3), (3, .int r1), (0, .ref (ad k)), (1, .int x1), (2, .int x2)]) hx hb dX2_waysToWed_23 hl (by decide) rfl (fun ls hl => ?_)
  exact J25 _ f6 r1 r3 r5 0 0 _ _ _ hw (lv_sub hl [5, 6, 7, 4, 3, 2, 1, 0] rfl) h

set_option maxHeartbeats 8000000 in
set_option maxRecDepth 100000 in
theorem mX7_commonDivisor (l : Launch) (D : va_G) (ac : Nat → ClassId) (ad : Nat → Nat) (S : List hSh) (f : hF) (x0 : Int32) (x1 : Int32) (rv : Int32) (h : fX7_commonDivisor x0 x1 = some rv) : Met l yX7_commonDivisor wsX7_commonDivisor ({ frames := 0, cells := 0, slots := 0, locals := 0 }) (hPc D ac ad S f [.int x0, .int x1]) (hRi rv) 0 0 hNo := by
  refine h_enter (C := RX7) (cc := cX7_commonDivisor) (maxL := 6) (ret := (some .int)) (lv := [(0, .int x0), (1, .int x1)]) (by decide) rfl rfl (Nat.le_of_ble_eq_true rfl) rfl (fun p e s m below meth c ls hx hb hml hr hlocks hown hts hK hw hl => ?_)
  have J7 : ∀ (n : Nat), (∀ (y2 : Int32) (y3 : Int32) (y4 : Int32) (ls : Array Slot), lv_has ls 6 [(2, .int y2), (3, .int y3), (4, .int y4)] → fX7_commonDivisor_7 x0 x1 n y2 y3 y4 = some rv → W p l e ({ frames := 0, cells := 0, slots := 0, locals := 0 } : Room) s m ([.int x0, .int x1] : List Value).toArray below meth c s.heap [] 0 0 (MQ below (hRi rv) ([.int x0, .int x1] : List Value).toArray s 0 0 hNo) (F0 m 7 ls [])) := by
    intro n
    induction n with
    | zero =>
      intro y2 y3 y4 ls hl h
      rw [fX7_commonDivisor_7] at h
      cases h
    | succ n ih =>
      intro y2 y3 y4 ls hl h
      rw [fX7_commonDivisor_7] at h
      refine lv_iload hx hb dX7_commonDivisor_7 (lv_at hl 2 rfl) ?_
      refine lv_bipush (v := 64) hx hb dX7_commonDivisor_9 (by decide) ?_
      refine lv_icmp_ge (tgt := 34) hx hb dX7_commonDivisor_11 (by decide) (fun hc1 => ?_) (fun hc1 => ?_)
      · have h := it hc1 h
        refine lv_iload_n hx hb dX7_commonDivisor_34 rfl (lv_at hl 0 rfl) ?_
        exact h_retR hx hb hr hlocks rfl (so1 h) dX7_commonDivisor_35
      · have h := ie hc1 h
        refine lv_iload_n hx hb dX7_commonDivisor_14 rfl (lv_at hl 1 rfl) ?_
        refine lv_if_eq (tgt := 34) hx hb dX7_commonDivisor_15 (by decide) (fun hc2 => ?_) (fun hc2 => ?_)
        · have h := it hc2 h
          refine lv_iload_n hx hb dX7_commonDivisor_34 rfl (lv_at hl 0 rfl) ?_
          exact h_retR hx hb hr hlocks rfl (so1 h) dX7_commonDivisor_35
        · have h := ie hc2 h
          refine lv_iload_n hx hb dX7_commonDivisor_18 rfl (lv_at hl 0 rfl) ?_
          refine lv_iload_n hx hb dX7_commonDivisor_19 rfl (lv_at hl 1 rfl) ?_
          obtain ⟨hz3, h⟩ := nz_s h
          refine lv_irem hx hb dX7_commonDivisor_20 hz3 ?_
          refine lv_istore (lv' := [(5, .int (y2 - y2 / y3 * y3)), (2, .int y2), (3, .int y3), (4, .int y4)]) hx hb dX7_commonDivisor_21 hl (by decide) rfl (fun ls hl => ?_)
          refine lv_iload_n hx hb dX7_commonDivisor_23 rfl (lv_at hl 2 rfl) ?_
          refine lv_istore_n (lv' := [(2, .int y3), (5, .int (y2 - y2 / y3 * y3)), (3, .int y3), (4, .int y4)]) hx hb dX7_commonDivisor_24 rfl hl (by decide) rfl (fun ls hl => ?_)
          refine lv_iload hx hb dX7_commonDivisor_25 (lv_at hl 1 rfl) ?_
          refine lv_istore_n (lv' := [(3, .int (y2 - y2 / y3 * y3)), (2, .int y3), (5, .int (y2 - y2 / y3 * y3)), (4, .int y4)]) hx hb dX7_commonDivisor_27 rfl hl (by decide) rfl (fun ls hl => ?_)
          refine lv_iinc (v := (y4 + 1)) (lv' := [(4, .int (y4 + 1)), (3, .int (y2 - y2 / y3 * y3)), (2, .int y3), (5, .int (y2 - y2 / y3 * y3))]) hx hb dX7_commonDivisor_28 hl (k := 3) rfl rfl (by decide) rfl (fun ls hl => ?_)
          refine lv_goto (tgt := 7) hx hb dX7_commonDivisor_31 (by decide) ?_
          exact ih y3 (y2 - y2 / y3 * y3) (y4 + 1) _ (lv_sub hl [2, 1, 0] rfl) h
  unfold fX7_commonDivisor at h
  refine lv_iload_n hx hb dX7_commonDivisor_0 rfl (lv_at hl 0 rfl) ?_
  refine lv_istore_n (lv' := [(2, .int x0), (0, .int x0), (1, .int x1)]) hx hb dX7_commonDivisor_1 rfl hl (by decide) rfl (fun ls hl => ?_)
  refine lv_iload_n hx hb dX7_commonDivisor_2 rfl (lv_at hl 2 rfl) ?_
  refine lv_istore_n (lv' := [(3, .int x1), (2, .int x0), (0, .int x0), (1, .int x1)]) hx hb dX7_commonDivisor_3 rfl hl (by decide) rfl (fun ls hl => ?_)
  refine lv_iconst (v := 0) hx hb dX7_commonDivisor_4 (by decide) ?_
  refine lv_istore (lv' := [(4, .int 0), (3, .int x1), (2, .int x0), (0, .int x0), (1, .int x1)]) hx hb dX7_commonDivisor_5 hl (by decide) rfl (fun ls hl => ?_)
  exact J7 _ x0 x1 0 _ (lv_sub hl [2, 1, 0] rfl) h

theorem hnX7_touts_X7 : ∀ w ∈ wsX70, w ∈ wsX7_touts := by decide +kernel
theorem hkX7_touts_31 : Cond.fieldLink RX7 31 (TX7 3).1 (TX7 3).2.1 (TX7 3).2.2.1 ∈ wsX7_touts := by decide +kernel
set_option maxHeartbeats 8000000 in
set_option maxRecDepth 100000 in
theorem mX7_touts (l : Launch) (D : va_G) (ac : Nat → ClassId) (ad : Nat → Nat) (S : List hSh) (f : hF) (x1 : Int32) (x2 : Int32) (x3 : Int32) (rv : Int32) (gv : hF) (hS : isPW S) (h : fX7_touts f x1 x2 x3 = some (rv, gv)) : Met l yX7_touts wsX7_touts ({ frames := 6, cells := 0, slots := 0, locals := 146 }) (hPc D ac ad S f [.ref (ad 0), .int x1, .int x2, .int x3]) (hQi D ac ad S rv gv) 0 0 (hAd ad S.length) := by
  refine h_enter (C := RX7) (cc := cX7_touts) (maxL := 7) (ret := (some .int)) (lv := [(0, .ref (ad 0)), (1, .int x1), (2, .int x2), (3, .int x3)]) (by decide) rfl rfl (Nat.le_of_ble_eq_true rfl) rfl (fun p e s m below meth c ls hx hb hml hr hlocks hown hts hK hw hl => ?_)
  have J45 : ∀ (n : Nat), (∀ (f : hF) (y4 : Int32) (y5 : Int32) (H : Heap) (locs : List Loc) (ls : Array Slot), hOk D ac ad S (hAd ad S.length) s.heap f H locs → lv_has ls 7 [(0, .ref (ad 0)), (1, .int x1), (2, .int x2), (3, .int x3), (4, .int y4), (5, .int y5)] → fX7_touts_45 x1 x2 x3 n f y4 y5 = some (rv, gv) → W p l e ({ frames := 6, cells := 0, slots := 0, locals := 146 } : Room) s m ([.ref (ad 0), .int x1, .int x2, .int x3] : List Value).toArray below meth c H locs 0 0 (MQ below (hQi D ac ad S rv gv) ([.ref (ad 0), .int x1, .int x2, .int x3] : List Value).toArray s 0 0 (hAd ad S.length)) (F0 m 45 ls [])) := by
    intro n
    induction n with
    | zero =>
      intro f y4 y5 H locs ls hw hl h
      rw [fX7_touts_45] at h
      cases h
    | succ n ih =>
      intro f y4 y5 H locs ls hw hl h
      rw [fX7_touts_45] at h
      refine lv_iload hx hb dX7_touts_45 (lv_at hl 5 rfl) ?_
      refine lv_if_le (tgt := 63) hx hb dX7_touts_47 (by decide) (fun hc1 => ?_) (fun hc1 => ?_)
      · have h := it hc1 h
        refine lv_aload_n hx hb dX7_touts_63 rfl (lv_at hl 0 rfl) ?_
        refine h_getR hx hb hts hnX7_touts_X7 hown hK hw hS.1 rfl 3 (by decide) rfl hkX7_touts_31 dX7_touts_64 ?_
        refine lv_iload_n hx hb dX7_touts_67 rfl (lv_at hl 1 rfl) ?_
        refine lv_iload_n hx hb dX7_touts_68 rfl (lv_at hl 2 rfl) ?_
        obtain ⟨r2, f3, ef3, h⟩ := b2_s h
        refine h_callQ hw (va_runV (As := [.int x1, .int x2]) (rest := []) ⟨hx, hb, hml, hown, hts⟩ (mX2_waysToWed l D ac ad S 19 3 f x1 x2 r2 f3 hS.2.2.2.2.1 ef3) (cwV 2 hts gX7_touts_X2_waysToWed rfl rfl rfl (by decide +kernel) ⟨Nat.le_of_ble_eq_true rfl, Nat.le_of_ble_eq_true rfl⟩) (h_preV hK hw hS.2.2.2.2.1.1 rfl _) rfl rfl hl.1 rfl (lv_room (Nat.le_of_ble_eq_true rfl)) dX7_touts_69 ⟨Nat.le_of_ble_eq_true rfl, Nat.le_of_ble_eq_true rfl⟩) (fun H locs hw => ?_)
        refine lv_istore (lv' := [(5, .int r2), (0, .ref (ad 0)), (1, .int x1), (2, .int x2), (3, .int x3), (4, .int y4)]) hx hb dX7_touts_72 hl (by decide) rfl (fun ls hl => ?_)
        refine lv_iload hx hb dX7_touts_74 (lv_at hl 0 rfl) ?_
        refine lv_iload hx hb dX7_touts_76 (lv_at hl 5 rfl) ?_
        obtain ⟨r4, er4, h⟩ := b1_s h
        refine h_callR (va_runS (As := [.int r2, .int y4]) (rest := []) ⟨hx, hb, hml, hown, hts⟩ (mX7_commonDivisor l D ac ad S f3 r2 y4 r4  er4) (va_cwS 2 hts gX7_touts_X7_commonDivisor rfl rfl rfl (by decide +kernel) ⟨Nat.le_of_ble_eq_true rfl, Nat.le_of_ble_eq_true rfl⟩) (h_preS hK hw _) rfl rfl hl.1 rfl (lv_room (Nat.le_of_ble_eq_true rfl)) dX7_touts_78 ⟨Nat.le_of_ble_eq_true rfl, Nat.le_of_ble_eq_true rfl⟩) ?_
        refine lv_istore (lv' := [(6, .int r4), (5, .int r2), (0, .ref (ad 0)), (1, .int x1), (2, .int x2), (3, .int x3), (4, .int y4)]) hx hb dX7_touts_81 hl (by decide) rfl (fun ls hl => ?_)
        refine lv_iload hx hb dX7_touts_83 (lv_at hl 0 rfl) ?_
        refine lv_iconst (v := 1) hx hb dX7_touts_85 (by decide) ?_
        refine lv_icmp_ge (tgt := 92) hx hb dX7_touts_86 (by decide) (fun hc5 => ?_) (fun hc5 => ?_)
        · have h := it hc5 h
          refine lv_iload_n hx hb dX7_touts_92 rfl (lv_at hl 5 rfl) ?_
          refine lv_if_ne (tgt := 101) hx hb dX7_touts_93 (by decide) (fun hc6 => ?_) (fun hc6 => ?_)
          · have h := ie hc6 h
            refine lv_iload hx hb dX7_touts_101 (lv_at hl 6 rfl) ?_
            refine lv_iload hx hb dX7_touts_103 (lv_at hl 0 rfl) ?_
            obtain ⟨hz7, h⟩ := nz_s h
            refine lv_idiv hx hb dX7_touts_105 hz7 ?_
            exact h_retQ hx hb hr hlocks hw rfl (so2 h) dX7_touts_106
          · have h := it hc6 h
            refine lv_iload hx hb dX7_touts_96 (lv_at hl 1 rfl) ?_
            refine lv_goto (tgt := 103) hx hb dX7_touts_98 (by decide) ?_
            refine lv_iload hx hb dX7_touts_103 (lv_at hl 0 rfl) ?_
            obtain ⟨hz8, h⟩ := nz_s h
            refine lv_idiv hx hb dX7_touts_105 hz8 ?_
            exact h_retQ hx hb hr hlocks hw rfl (so2 h) dX7_touts_106
        · have h := ie hc5 h
          refine lv_bipush (v := (-4)) hx hb dX7_touts_89 (by decide) ?_
          exact h_retQ hx hb hr hlocks hw rfl (so2 h) dX7_touts_91
      · have h := ie hc1 h
        refine lv_iload hx hb dX7_touts_50 (lv_at hl 4 rfl) ?_
        refine lv_bipush (v := 10) hx hb dX7_touts_52 (by decide) ?_
        refine lv_imul hx hb dX7_touts_54 ?_
        refine lv_istore (lv' := [(4, .int (y4 * 10)), (0, .ref (ad 0)), (1, .int x1), (2, .int x2), (3, .int x3), (5, .int y5)]) hx hb dX7_touts_55 hl (by decide) rfl (fun ls hl => ?_)
        refine lv_iinc (v := (y5 + (-1))) (lv' := [(5, .int (y5 + (-1))), (4, .int (y4 * 10)), (0, .ref (ad 0)), (1, .int x1), (2, .int x2), (3, .int x3)]) hx hb dX7_touts_57 hl (k := 5) rfl rfl (by decide) rfl (fun ls hl => ?_)
        refine lv_goto (tgt := 45) hx hb dX7_touts_60 (by decide) ?_
        exact ih f (y4 * 10) (y5 + (-1)) _ _ _ hw (lv_sub hl [2, 3, 4, 5, 1, 0] rfl) h
  unfold fX7_touts at h
  refine lv_iload_n hx hb dX7_touts_0 rfl (lv_at hl 1 rfl) ?_
  refine lv_if_lt (tgt := 27) hx hb dX7_touts_1 (by decide) (fun hc1 => ?_) (fun hc1 => ?_)
  · have h := it hc1 h
    refine lv_iconst (v := (-1)) hx hb dX7_touts_27 (by decide) ?_
    exact h_retQ hx hb hr hlocks hw rfl (so2 h) dX7_touts_28
  · have h := ie hc1 h
    refine lv_iload_n hx hb dX7_touts_4 rfl (lv_at hl 1 rfl) ?_
    refine lv_bipush (v := 8) hx hb dX7_touts_5 (by decide) ?_
    refine lv_icmp_gt (tgt := 27) hx hb dX7_touts_7 (by decide) (fun hc2 => ?_) (fun hc2 => ?_)
    · have h := it hc2 h
      refine lv_iconst (v := (-1)) hx hb dX7_touts_27 (by decide) ?_
      exact h_retQ hx hb hr hlocks hw rfl (so2 h) dX7_touts_28
    · have h := ie hc2 h
      refine lv_iload_n hx hb dX7_touts_10 rfl (lv_at hl 2 rfl) ?_
      refine lv_if_lt (tgt := 27) hx hb dX7_touts_11 (by decide) (fun hc3 => ?_) (fun hc3 => ?_)
      · have h := it hc3 h
        refine lv_iconst (v := (-1)) hx hb dX7_touts_27 (by decide) ?_
        exact h_retQ hx hb hr hlocks hw rfl (so2 h) dX7_touts_28
      · have h := ie hc3 h
        refine lv_iload_n hx hb dX7_touts_14 rfl (lv_at hl 2 rfl) ?_
        refine lv_bipush (v := 10) hx hb dX7_touts_15 (by decide) ?_
        refine lv_icmp_gt (tgt := 27) hx hb dX7_touts_17 (by decide) (fun hc4 => ?_) (fun hc4 => ?_)
        · have h := it hc4 h
          refine lv_iconst (v := (-1)) hx hb dX7_touts_27 (by decide) ?_
          exact h_retQ hx hb hr hlocks hw rfl (so2 h) dX7_touts_28
        · have h := ie hc4 h
          refine lv_iload_n hx hb dX7_touts_20 rfl (lv_at hl 3 rfl) ?_
          obtain ⟨r5, er5, h⟩ := b1_s h
          refine h_callR (va_runS (As := [.int x3]) (rest := []) ⟨hx, hb, hml, hown, hts⟩ (mX7_isPart l D ac ad S f x3 r5  er5) (va_cwS 1 hts gX7_touts_X7_isPart rfl rfl rfl (by decide +kernel) ⟨Nat.le_of_ble_eq_true rfl, Nat.le_of_ble_eq_true rfl⟩) (h_preS hK hw _) rfl rfl hl.1 rfl (lv_room (Nat.le_of_ble_eq_true rfl)) dX7_touts_21 ⟨Nat.le_of_ble_eq_true rfl, Nat.le_of_ble_eq_true rfl⟩) ?_
          refine lv_if_ne (tgt := 29) hx hb dX7_touts_24 (by decide) (fun hc6 => ?_) (fun hc6 => ?_)
          · have h := ie hc6 h
            refine lv_iconst (v := 1) hx hb dX7_touts_29 (by decide) ?_
            refine lv_istore (lv' := [(4, .int 1), (0, .ref (ad 0)), (1, .int x1), (2, .int x2), (3, .int x3)]) hx hb dX7_touts_30 hl (by decide) rfl (fun ls hl => ?_)
            refine lv_aload_n hx hb dX7_touts_32 rfl (lv_at hl 1 rfl) ?_
            refine h_getR hx hb hts hnX7_touts_X7 hown hK hw hS.1 rfl 3 (by decide) rfl hkX7_touts_31 dX7_touts_33 ?_
            refine lv_iconst (v := 1) hx hb dX7_touts_36 (by decide) ?_
            obtain ⟨r7, f8, ef8, h⟩ := b2_s h
            refine h_callQ hw (va_runV (As := [.int 1]) (rest := []) ⟨hx, hb, hml, hown, hts⟩ (mX2_singles l D ac ad S 19 3 f (1 : Int32) r7 f8 hS.2.2.2.2.1 ef8) (cwV 1 hts gX7_touts_X2_singles rfl rfl rfl (by decide +kernel) ⟨Nat.le_of_ble_eq_true rfl, Nat.le_of_ble_eq_true rfl⟩) (h_preV hK hw hS.2.2.2.2.1.1 rfl _) rfl rfl hl.1 rfl (lv_room (Nat.le_of_ble_eq_true rfl)) dX7_touts_37 ⟨Nat.le_of_ble_eq_true rfl, Nat.le_of_ble_eq_true rfl⟩) (fun H locs hw => ?_)
            obtain ⟨r9, er9, h⟩ := b1_s h
            refine h_callR (va_runS (As := [.int r7]) (rest := []) ⟨hx, hb, hml, hown, hts⟩ (mJ6_bitCount_0f7a4 l D ac ad S f8 r7 r9  er9) (va_cwS 1 hts gX7_touts_J6_bitCount_0f7a4 rfl rfl rfl (by decide +kernel) ⟨Nat.le_of_ble_eq_true rfl, Nat.le_of_ble_eq_true rfl⟩) (h_preS hK hw _) rfl rfl hl.1 rfl (lv_room (Nat.le_of_ble_eq_true rfl)) dX7_touts_40 ⟨Nat.le_of_ble_eq_true rfl, Nat.le_of_ble_eq_true rfl⟩) ?_
            refine lv_istore (lv' := [(5, .int r9), (4, .int 1), (0, .ref (ad 0)), (1, .int x1), (2, .int x2), (3, .int x3)]) hx hb dX7_touts_43 hl (by decide) rfl (fun ls hl => ?_)
            exact J45 _ f8 1 r9 _ _ _ hw (lv_sub hl [2, 3, 4, 5, 1, 0] rfl) h
          · have h := it hc6 h
            refine lv_iconst (v := (-1)) hx hb dX7_touts_27 (by decide) ?_
            exact h_retQ hx hb hr hlocks hw rfl (so2 h) dX7_touts_28

theorem hnX0_paidInAll_X0 : ∀ w ∈ wsX00, w ∈ wsX0_paidInAll := by decide +kernel
theorem hkX0_paidInAll_15 : Cond.fieldLink RX0 15 (TX0 2).1 (TX0 2).2.1 (TX0 2).2.2.1 ∈ wsX0_paidInAll := by decide +kernel
set_option maxHeartbeats 8000000 in
set_option maxRecDepth 100000 in
theorem mX0_paidInAll (l : Launch) (D : va_G) (ac : Nat → ClassId) (ad : Nat → Nat) (S : List hSh) (k : Nat) (f : hF) (rv : Int32) (hS : isBk S k) (h : fX0_paidInAll k f = some rv) : Met l yX0_paidInAll wsX0_paidInAll ({ frames := 0, cells := 0, slots := 0, locals := 0 }) (hPc D ac ad S f [.ref (ad k)]) (hRi rv) 0 0 hNo := by
  refine h_enter (C := RX0) (cc := cX0_paidInAll) (maxL := 3) (ret := (some .int)) (lv := [(0, .ref (ad k))]) (by decide) rfl rfl (Nat.le_of_ble_eq_true rfl) rfl (fun p e s m below meth c ls hx hb hml hr hlocks hown hts hK hw hl => ?_)
  have J4 : ∀ (n : Nat), (∀ (y1 : Int32) (y2 : Int32) (ls : Array Slot), lv_has ls 3 [(0, .ref (ad k)), (1, .int y1), (2, .int y2)] → fX0_paidInAll_4 k f n y1 y2 = some rv → W p l e ({ frames := 0, cells := 0, slots := 0, locals := 0 } : Room) s m ([.ref (ad k)] : List Value).toArray below meth c s.heap [] 0 0 (MQ below (hRi rv) ([.ref (ad k)] : List Value).toArray s 0 0 hNo) (F0 m 4 ls [])) := by
    intro n
    induction n with
    | zero =>
      intro y1 y2 ls hl h
      rw [fX0_paidInAll_4] at h
      cases h
    | succ n ih =>
      intro y1 y2 ls hl h
      rw [fX0_paidInAll_4] at h
      refine lv_iload_n hx hb dX0_paidInAll_4 rfl (lv_at hl 2 rfl) ?_
      refine lv_iconst (v := 3) hx hb dX0_paidInAll_5 (by decide) ?_
      refine lv_icmp_ge (tgt := 24) hx hb dX0_paidInAll_6 (by decide) (fun hc1 => ?_) (fun hc1 => ?_)
      · have h := it hc1 h
        refine lv_iload_n hx hb dX0_paidInAll_24 rfl (lv_at hl 1 rfl) ?_
        exact h_retR hx hb hr hlocks rfl (so1 h) dX0_paidInAll_25
      · have h := ie hc1 h
        refine lv_iload_n hx hb dX0_paidInAll_9 rfl (lv_at hl 1 rfl) ?_
        refine lv_aload_n hx hb dX0_paidInAll_10 rfl (lv_at hl 0 rfl) ?_
        refine h_getR hx hb hts hnX0_paidInAll_X0 hown hK hw hS.1 rfl 2 (by decide) rfl hkX0_paidInAll_15 dX0_paidInAll_11 ?_
        refine lv_iload_n hx hb dX0_paidInAll_14 rfl (lv_at hl 2 rfl) ?_
        obtain ⟨hi2, h⟩ := gd_s h
        refine h_iald hx hb hK hw hS.2.2.1 hi2 dX0_paidInAll_15 ?_
        refine lv_iadd hx hb dX0_paidInAll_16 ?_
        refine lv_istore_n (lv' := [(1, .int (y1 + (f (k+2) y2.toNatClampNeg))), (0, .ref (ad k)), (2, .int y2)]) hx hb dX0_paidInAll_17 rfl hl (by decide) rfl (fun ls hl => ?_)
        refine lv_iinc (v := (y2 + 1)) (lv' := [(2, .int (y2 + 1)), (1, .int (y1 + (f (k+2) y2.toNatClampNeg))), (0, .ref (ad k))]) hx hb dX0_paidInAll_18 hl (k := 2) rfl rfl (by decide) rfl (fun ls hl => ?_)
        refine lv_goto (tgt := 4) hx hb dX0_paidInAll_21 (by decide) ?_
        exact ih (y1 + (f (k+2) y2.toNatClampNeg)) (y2 + 1) _ (lv_sub hl [2, 1, 0] rfl) h
  unfold fX0_paidInAll at h
  refine lv_iconst (v := 0) hx hb dX0_paidInAll_0 (by decide) ?_
  refine lv_istore_n (lv' := [(1, .int 0), (0, .ref (ad k))]) hx hb dX0_paidInAll_1 rfl hl (by decide) rfl (fun ls hl => ?_)
  refine lv_iconst (v := 0) hx hb dX0_paidInAll_2 (by decide) ?_
  refine lv_istore_n (lv' := [(2, .int 0), (1, .int 0), (0, .ref (ad k))]) hx hb dX0_paidInAll_3 rfl hl (by decide) rfl (fun ls hl => ?_)
  exact J4 _ 0 0 _ (lv_sub hl [2, 1, 0] rfl) h

theorem hdX7_draw_c291 : Cond.constantLong RX7 291 (7919) ∈ wsX7_draw := by decide +kernel
theorem hdX7_draw_c293 : Cond.constantLong RX7 293 (6151) ∈ wsX7_draw := by decide +kernel
theorem hdX7_draw_c295 : Cond.constantLong RX7 295 (65521) ∈ wsX7_draw := by decide +kernel
set_option maxHeartbeats 8000000 in
set_option maxRecDepth 100000 in
theorem mX7_draw (l : Launch) (D : va_G) (ac : Nat → ClassId) (ad : Nat → Nat) (S : List hSh) (f : hF) (x0 : Int32) (x1 : Int32) (rv : Int32) (h : fX7_draw x0 x1 = some rv) : Met l yX7_draw wsX7_draw ({ frames := 0, cells := 0, slots := 0, locals := 0 }) (hPc D ac ad S f [.int x0, .int x1]) (hRi rv) 0 0 hNo := by
  refine h_enter (C := RX7) (cc := cX7_draw) (maxL := 4) (ret := (some .int)) (lv := [(0, .int x0), (1, .int x1)]) (by decide) rfl rfl (Nat.le_of_ble_eq_true rfl) rfl (fun p e s m below meth c ls hx hb hml hr hlocks hown hts hK hw hl => ?_)
  unfold fX7_draw at h
  refine lv_ldc2 hx hb hown (hts _ hdX7_draw_c291) dX7_draw_0 ?_
  refine lv_iload_n hx hb dX7_draw_3 rfl (lv_at hl 0 rfl) ?_
  refine lv_i2l hx hb dX7_draw_4 rfl ?_
  refine lv_lmul hx hb dX7_draw_5 ?_
  refine lv_ldc2 hx hb hown (hts _ hdX7_draw_c293) dX7_draw_6 ?_
  refine lv_iload_n hx hb dX7_draw_9 rfl (lv_at hl 1 rfl) ?_
  refine lv_i2l hx hb dX7_draw_10 rfl ?_
  refine lv_lmul hx hb dX7_draw_11 ?_
  refine lv_ladd hx hb dX7_draw_12 ?_
  refine lv_lconst (v := 1) hx hb dX7_draw_13 (by decide) ?_
  refine lv_ladd hx hb dX7_draw_14 ?_
  refine lv_lstore_n (lv' := [(2, .long (((7919 * x0.toInt64) + (6151 * x1.toInt64)) + 1)), (0, .int x0), (1, .int x1)]) hx hb dX7_draw_15 rfl hl (by decide) rfl (fun ls hl => ?_)
  refine lv_lload_n hx hb dX7_draw_16 rfl (lv_at hl 0 rfl) ?_
  refine lv_lload_n hx hb dX7_draw_17 rfl (lv_at hl 0 rfl) ?_
  refine lv_lmul hx hb dX7_draw_18 ?_
  refine lv_ldc2 hx hb hown (hts _ hdX7_draw_c295) dX7_draw_19 ?_
  refine lv_lrem hx hb dX7_draw_22 (by decide) ?_
  refine lv_l2i hx hb dX7_draw_23 rfl ?_
  exact h_retR hx hb hr hlocks rfl (so1 h) dX7_draw_24
