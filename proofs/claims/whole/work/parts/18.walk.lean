/-! contracts: X8_readNumbers X8_isTold X8_clearTold X8_readPersonOf X8_readParsonOf X8_readLawOf X8_readItem X8_fault X8_copies X8_settles X8_lay X8_asItIs X8_begun X8_manOf X8_womanOf X8_isThere X8_isOfTwo X8_isBlank -/
theorem hnX8_readNumbers_X8 : ∀ w ∈ wsX80, w ∈ wsX8_readNumbers := by decide +kernel
theorem hkX8_readNumbers_97 : Cond.fieldLink RX8 97 (TX8 14).1 (TX8 14).2.1 (TX8 14).2.2.1 ∈ wsX8_readNumbers := by decide +kernel
theorem hkX8_readNumbers_31 : Cond.fieldLink RX8 31 (TX8 15).1 (TX8 15).2.1 (TX8 15).2.2.1 ∈ wsX8_readNumbers := by decide +kernel
set_option maxHeartbeats 8000000 in
set_option maxRecDepth 100000 in
theorem mX8_readNumbers (l : Launch) (D : va_G) (ac : Nat → ClassId) (ad : Nat → Nat) (S : List hSh) (f : hF) (x1 : Int32) (rv : Int32) (gv : hF) (hS : isMo S) (h : fX8_readNumbers f x1 = some (rv, gv)) : Met l yX8_readNumbers wsX8_readNumbers ({ frames := 2, cells := 0, slots := 0, locals := 42 }) (hPc D ac ad S f [.ref (ad 146), .int x1]) (hQi D ac ad S rv gv) 0 0 (hAd ad S.length) := by
  refine h_enter (C := RX8) (cc := cX8_readNumbers) (maxL := 3) (ret := (some .boolean)) (lv := [(0, .ref (ad 146)), (1, .int x1)]) (by decide) rfl rfl (Nat.le_of_ble_eq_true rfl) rfl (fun p e s m below meth c ls hx hb hml hr hlocks hown hts hK hw hl => ?_)
  have J123 : ∀ (q2 : hF → Int32 → Option (Int32 × hF)) (hq2 : (∀ (f : hF) (y2 : Int32) (H : Heap) (locs : List Loc) (ls : Array Slot), hOk D ac ad S (hAd ad S.length) s.heap f H locs → lv_has ls 3 [(0, .ref (ad 146)), (1, .int x1), (2, .int y2)] → q2 f y2 = some (rv, gv) → W p l e ({ frames := 2, cells := 0, slots := 0, locals := 42 } : Room) s m ([.ref (ad 146), .int x1] : List Value).toArray below meth c H locs 0 0 (MQ below (hQi D ac ad S rv gv) ([.ref (ad 146), .int x1] : List Value).toArray s 0 0 (hAd ad S.length)) (F0 m 2 ls []))), (∀ (f : hF) (y2 : Int32) (s0 : Int32) (s1 : Int32) (H : Heap) (locs : List Loc) (ls : Array Slot), hOk D ac ad S (hAd ad S.length) s.heap f H locs → lv_has ls 3 [(0, .ref (ad 146)), (1, .int x1), (2, .int y2)] → fX8_readNumbers_123 x1 q2 f y2 s0 s1 = some (rv, gv) → W p l e ({ frames := 2, cells := 0, slots := 0, locals := 42 } : Room) s m ([.ref (ad 146), .int x1] : List Value).toArray below meth c H locs 0 0 (MQ below (hQi D ac ad S rv gv) ([.ref (ad 146), .int x1] : List Value).toArray s 0 0 (hAd ad S.length)) (F0 m 123 ls [.int s1, .int s0])) := by
    intro q2 hq2 f y2 s0 s1 H locs ls hw hl h
    unfold fX8_readNumbers_123 at h
    refine lv_icmp_eq (tgt := 128) hx hb dX8_readNumbers_123 (by decide) (fun hc1 => ?_) (fun hc1 => ?_)
    · have h := it hc1 h
      refine lv_aload_n hx hb dX8_readNumbers_128 rfl (lv_at hl 0 rfl) ?_
      refine lv_dup hx hb dX8_readNumbers_129 rfl ?_
      refine h_getI hx hb hts hnX8_readNumbers_X8 hown hK hw hS.1 rfl 14 (by decide) rfl hkX8_readNumbers_97 dX8_readNumbers_130 ?_
      refine lv_iconst (v := 1) hx hb dX8_readNumbers_133 (by decide) ?_
      refine lv_iadd hx hb dX8_readNumbers_134 ?_
      obtain ⟨f2, ef2, h⟩ := lt_s2 h
      refine h_putI (g := f2) ef2 hx hb hts hnX8_readNumbers_X8 tyX8 tyX8_ok nmX8 hown hK hw hS.1 rfl 14 rfl (by decide) rfl hkX8_readNumbers_97 rfl (by decide +kernel) dX8_readNumbers_135 (fun H locs hw => ?_)
      refine lv_iinc (v := (y2 + 1)) (lv' := [(2, .int (y2 + 1)), (0, .ref (ad 146)), (1, .int x1)]) hx hb dX8_readNumbers_138 hl (k := 2) rfl rfl (by decide) rfl (fun ls hl => ?_)
      refine lv_goto (tgt := 2) hx hb dX8_readNumbers_141 (by decide) ?_
      exact hq2 f2 (y2 + 1) _ _ _ hw (lv_sub hl [1, 2, 0] rfl) h
    · have h := ie hc1 h
      refine lv_iconst (v := 0) hx hb dX8_readNumbers_126 (by decide) ?_
      exact h_retQ hx hb hr hlocks hw rfl (so2 h) dX8_readNumbers_127
  have J101 : ∀ (q2 : hF → Int32 → Option (Int32 × hF)) (hq2 : (∀ (f : hF) (y2 : Int32) (H : Heap) (locs : List Loc) (ls : Array Slot), hOk D ac ad S (hAd ad S.length) s.heap f H locs → lv_has ls 3 [(0, .ref (ad 146)), (1, .int x1), (2, .int y2)] → q2 f y2 = some (rv, gv) → W p l e ({ frames := 2, cells := 0, slots := 0, locals := 42 } : Room) s m ([.ref (ad 146), .int x1] : List Value).toArray below meth c H locs 0 0 (MQ below (hQi D ac ad S rv gv) ([.ref (ad 146), .int x1] : List Value).toArray s 0 0 (hAd ad S.length)) (F0 m 2 ls []))), (∀ (f : hF) (y2 : Int32) (H : Heap) (locs : List Loc) (ls : Array Slot), hOk D ac ad S (hAd ad S.length) s.heap f H locs → lv_has ls 3 [(0, .ref (ad 146)), (1, .int x1), (2, .int y2)] → fX8_readNumbers_101 x1 q2 f y2 = some (rv, gv) → W p l e ({ frames := 2, cells := 0, slots := 0, locals := 42 } : Room) s m ([.ref (ad 146), .int x1] : List Value).toArray below meth c H locs 0 0 (MQ below (hQi D ac ad S rv gv) ([.ref (ad 146), .int x1] : List Value).toArray s 0 0 (hAd ad S.length)) (F0 m 101 ls [])) := by
    intro q2 hq2 f y2 H locs ls hw hl h
    unfold fX8_readNumbers_101 at h
    refine lv_aload_n hx hb dX8_readNumbers_101 rfl (lv_at hl 0 rfl) ?_
    refine lv_aload_n hx hb dX8_readNumbers_102 rfl (lv_at hl 0 rfl) ?_
    refine h_getI hx hb hts hnX8_readNumbers_X8 hown hK hw hS.1 rfl 14 (by decide) rfl hkX8_readNumbers_97 dX8_readNumbers_103 ?_
    obtain ⟨r1, er1, h⟩ := b1_s h
    refine h_callR (va_runV (As := [.int (f 146 14)]) (rest := []) ⟨hx, hb, hml, hown, hts⟩ (mX8_letterAt l D ac ad S f (f 146 14) r1 hS er1) (cwV 1 hts gX8_readNumbers_X8_letterAt rfl rfl rfl (by decide +kernel) ⟨Nat.le_of_ble_eq_true rfl, Nat.le_of_ble_eq_true rfl⟩) (h_preV hK hw hS.1 rfl _) rfl rfl hl.1 rfl (lv_room (Nat.le_of_ble_eq_true rfl)) dX8_readNumbers_106 ⟨Nat.le_of_ble_eq_true rfl, Nat.le_of_ble_eq_true rfl⟩) ?_
    refine lv_iload_n hx hb dX8_readNumbers_109 rfl (lv_at hl 2 rfl) ?_
    refine lv_iload_n hx hb dX8_readNumbers_110 rfl (lv_at hl 1 rfl) ?_
    refine lv_iconst (v := 1) hx hb dX8_readNumbers_111 (by decide) ?_
    refine lv_isub hx hb dX8_readNumbers_112 ?_
    refine lv_icmp_ge (tgt := 121) hx hb dX8_readNumbers_113 (by decide) (fun hc2 => ?_) (fun hc2 => ?_)
    · have h := it hc2 h
      refine lv_bipush (v := 59) hx hb dX8_readNumbers_121 (by decide) ?_
      exact J123 q2 hq2 f y2 r1 59 _ _ _ hw (lv_sub hl [0, 1, 2] rfl) h
    · have h := ie hc2 h
      refine lv_bipush (v := 44) hx hb dX8_readNumbers_116 (by decide) ?_
      refine lv_goto (tgt := 123) hx hb dX8_readNumbers_118 (by decide) ?_
      exact J123 q2 hq2 f y2 r1 44 _ _ _ hw (lv_sub hl [0, 1, 2] rfl) h
  have J2 : ∀ (n : Nat), (∀ (f : hF) (y2 : Int32) (H : Heap) (locs : List Loc) (ls : Array Slot), hOk D ac ad S (hAd ad S.length) s.heap f H locs → lv_has ls 3 [(0, .ref (ad 146)), (1, .int x1), (2, .int y2)] → fX8_readNumbers_2 x1 n f y2 = some (rv, gv) → W p l e ({ frames := 2, cells := 0, slots := 0, locals := 42 } : Room) s m ([.ref (ad 146), .int x1] : List Value).toArray below meth c H locs 0 0 (MQ below (hQi D ac ad S rv gv) ([.ref (ad 146), .int x1] : List Value).toArray s 0 0 (hAd ad S.length)) (F0 m 2 ls [])) := by
    intro n
    induction n with
    | zero =>
      intro f y2 H locs ls hw hl h
      rw [fX8_readNumbers_2] at h
      cases h
    | succ n ih =>
      intro f y2 H locs ls hw hl h
      rw [fX8_readNumbers_2] at h
      refine lv_iload_n hx hb dX8_readNumbers_2 rfl (lv_at hl 2 rfl) ?_
      refine lv_iload_n hx hb dX8_readNumbers_3 rfl (lv_at hl 1 rfl) ?_
      refine lv_icmp_ge (tgt := 144) hx hb dX8_readNumbers_4 (by decide) (fun hc1 => ?_) (fun hc1 => ?_)
      · have h := it hc1 h
        refine lv_iconst (v := 1) hx hb dX8_readNumbers_144 (by decide) ?_
        exact h_retQ hx hb hr hlocks hw rfl (so2 h) dX8_readNumbers_145
      · have h := ie hc1 h
        refine lv_aload_n hx hb dX8_readNumbers_7 rfl (lv_at hl 0 rfl) ?_
        refine lv_aload_n hx hb dX8_readNumbers_8 rfl (lv_at hl 0 rfl) ?_
        refine h_getI hx hb hts hnX8_readNumbers_X8 hown hK hw hS.1 rfl 14 (by decide) rfl hkX8_readNumbers_97 dX8_readNumbers_9 ?_
        obtain ⟨r2, er2, h⟩ := b1_s h
        refine h_callR (va_runV (As := [.int (f 146 14)]) (rest := []) ⟨hx, hb, hml, hown, hts⟩ (mX8_letterAt l D ac ad S f (f 146 14) r2 hS er2) (cwV 1 hts gX8_readNumbers_X8_letterAt rfl rfl rfl (by decide +kernel) ⟨Nat.le_of_ble_eq_true rfl, Nat.le_of_ble_eq_true rfl⟩) (h_preV hK hw hS.1 rfl _) rfl rfl hl.1 rfl (lv_room (Nat.le_of_ble_eq_true rfl)) dX8_readNumbers_12 ⟨Nat.le_of_ble_eq_true rfl, Nat.le_of_ble_eq_true rfl⟩) ?_
        obtain ⟨r3, er3, h⟩ := b1_s h
        refine h_callR (va_runS (As := [.int r2]) (rest := []) ⟨hx, hb, hml, hown, hts⟩ (mX8_isFigure l D ac ad S f r2 r3  er3) (va_cwS 1 hts gX8_readNumbers_X8_isFigure rfl rfl rfl (by decide +kernel) ⟨Nat.le_of_ble_eq_true rfl, Nat.le_of_ble_eq_true rfl⟩) (h_preS hK hw _) rfl rfl hl.1 rfl (lv_room (Nat.le_of_ble_eq_true rfl)) dX8_readNumbers_15 ⟨Nat.le_of_ble_eq_true rfl, Nat.le_of_ble_eq_true rfl⟩) ?_
        refine lv_if_ne (tgt := 23) hx hb dX8_readNumbers_18 (by decide) (fun hc4 => ?_) (fun hc4 => ?_)
        · have h := ie hc4 h
          refine lv_aload_n hx hb dX8_readNumbers_23 rfl (lv_at hl 0 rfl) ?_
          refine h_getR hx hb hts hnX8_readNumbers_X8 hown hK hw hS.1 rfl 15 (by decide) rfl hkX8_readNumbers_31 dX8_readNumbers_24 ?_
          refine lv_iload_n hx hb dX8_readNumbers_27 rfl (lv_at hl 2 rfl) ?_
          refine lv_aload_n hx hb dX8_readNumbers_28 rfl (lv_at hl 0 rfl) ?_
          refine lv_aload_n hx hb dX8_readNumbers_29 rfl (lv_at hl 0 rfl) ?_
          refine h_getI hx hb hts hnX8_readNumbers_X8 hown hK hw hS.1 rfl 14 (by decide) rfl hkX8_readNumbers_97 dX8_readNumbers_30 ?_
          obtain ⟨r5, er5, h⟩ := b1_s h
          refine h_callR (va_runV (As := [.int (f 146 14)]) (rest := [.int y2, .ref (ad 154)]) ⟨hx, hb, hml, hown, hts⟩ (mX8_letterAt l D ac ad S f (f 146 14) r5 hS er5) (cwV 1 hts gX8_readNumbers_X8_letterAt rfl rfl rfl (by decide +kernel) ⟨Nat.le_of_ble_eq_true rfl, Nat.le_of_ble_eq_true rfl⟩) (h_preV hK hw hS.1 rfl _) rfl rfl hl.1 rfl (lv_room (Nat.le_of_ble_eq_true rfl)) dX8_readNumbers_33 ⟨Nat.le_of_ble_eq_true rfl, Nat.le_of_ble_eq_true rfl⟩) ?_
          refine lv_bipush (v := 48) hx hb dX8_readNumbers_36 (by decide) ?_
          refine lv_isub hx hb dX8_readNumbers_38 ?_
          obtain ⟨hi6, h⟩ := gd_s h
          obtain ⟨f7, ef7, h⟩ := lt_s2 h
          refine h_iast (g := f7) ef7 hx hb hK hw hS.2.2.2.2.2.2.2.2.1 hi6 dX8_readNumbers_39 (fun H locs hw => ?_)
          refine lv_aload_n hx hb dX8_readNumbers_40 rfl (lv_at hl 0 rfl) ?_
          refine lv_dup hx hb dX8_readNumbers_41 rfl ?_
          refine h_getI hx hb hts hnX8_readNumbers_X8 hown hK hw hS.1 rfl 14 (by decide) rfl hkX8_readNumbers_97 dX8_readNumbers_42 ?_
          refine lv_iconst (v := 1) hx hb dX8_readNumbers_45 (by decide) ?_
          refine lv_iadd hx hb dX8_readNumbers_46 ?_
          obtain ⟨f8, ef8, h⟩ := lt_s2 h
          refine h_putI (g := f8) ef8 hx hb hts hnX8_readNumbers_X8 tyX8 tyX8_ok nmX8 hown hK hw hS.1 rfl 14 rfl (by decide) rfl hkX8_readNumbers_97 rfl (by decide +kernel) dX8_readNumbers_47 (fun H locs hw => ?_)
          refine lv_aload_n hx hb dX8_readNumbers_50 rfl (lv_at hl 0 rfl) ?_
          refine lv_aload_n hx hb dX8_readNumbers_51 rfl (lv_at hl 0 rfl) ?_
          refine h_getI hx hb hts hnX8_readNumbers_X8 hown hK hw hS.1 rfl 14 (by decide) rfl hkX8_readNumbers_97 dX8_readNumbers_52 ?_
          obtain ⟨r9, er9, h⟩ := b1_s h
          refine h_callR (va_runV (As := [.int (f8 146 14)]) (rest := []) ⟨hx, hb, hml, hown, hts⟩ (mX8_letterAt l D ac ad S f8 (f8 146 14) r9 hS er9) (cwV 1 hts gX8_readNumbers_X8_letterAt rfl rfl rfl (by decide +kernel) ⟨Nat.le_of_ble_eq_true rfl, Nat.le_of_ble_eq_true rfl⟩) (h_preV hK hw hS.1 rfl _) rfl rfl hl.1 rfl (lv_room (Nat.le_of_ble_eq_true rfl)) dX8_readNumbers_55 ⟨Nat.le_of_ble_eq_true rfl, Nat.le_of_ble_eq_true rfl⟩) ?_
          obtain ⟨r10, er10, h⟩ := b1_s h
          refine h_callR (va_runS (As := [.int r9]) (rest := []) ⟨hx, hb, hml, hown, hts⟩ (mX8_isFigure l D ac ad S f8 r9 r10  er10) (va_cwS 1 hts gX8_readNumbers_X8_isFigure rfl rfl rfl (by decide +kernel) ⟨Nat.le_of_ble_eq_true rfl, Nat.le_of_ble_eq_true rfl⟩) (h_preS hK hw _) rfl rfl hl.1 rfl (lv_room (Nat.le_of_ble_eq_true rfl)) dX8_readNumbers_58 ⟨Nat.le_of_ble_eq_true rfl, Nat.le_of_ble_eq_true rfl⟩) ?_
          refine lv_if_eq (tgt := 101) hx hb dX8_readNumbers_61 (by decide) (fun hc11 => ?_) (fun hc11 => ?_)
          · have h := it hc11 h
            exact J101 (fX8_readNumbers_2 x1 n) ih f8 y2 _ _ _ hw (lv_sub hl [0, 1, 2] rfl) h
          · have h := ie hc11 h
            refine lv_aload_n hx hb dX8_readNumbers_64 rfl (lv_at hl 0 rfl) ?_
            refine h_getR hx hb hts hnX8_readNumbers_X8 hown hK hw hS.1 rfl 15 (by decide) rfl hkX8_readNumbers_31 dX8_readNumbers_65 ?_
            refine lv_iload_n hx hb dX8_readNumbers_68 rfl (lv_at hl 2 rfl) ?_
            refine lv_bipush (v := 10) hx hb dX8_readNumbers_69 (by decide) ?_
            refine lv_aload_n hx hb dX8_readNumbers_71 rfl (lv_at hl 0 rfl) ?_
            refine h_getR hx hb hts hnX8_readNumbers_X8 hown hK hw hS.1 rfl 15 (by decide) rfl hkX8_readNumbers_31 dX8_readNumbers_72 ?_
            refine lv_iload_n hx hb dX8_readNumbers_75 rfl (lv_at hl 2 rfl) ?_
            obtain ⟨hi12, h⟩ := gd_s h
            refine h_iald hx hb hK hw hS.2.2.2.2.2.2.2.2.1 hi12 dX8_readNumbers_76 ?_
            refine lv_imul hx hb dX8_readNumbers_77 ?_
            refine lv_aload_n hx hb dX8_readNumbers_78 rfl (lv_at hl 0 rfl) ?_
            refine lv_aload_n hx hb dX8_readNumbers_79 rfl (lv_at hl 0 rfl) ?_
            refine h_getI hx hb hts hnX8_readNumbers_X8 hown hK hw hS.1 rfl 14 (by decide) rfl hkX8_readNumbers_97 dX8_readNumbers_80 ?_
            obtain ⟨r13, er13, h⟩ := b1_s h
            refine h_callR (va_runV (As := [.int (f8 146 14)]) (rest := [.int (10 * (f8 154 y2.toNatClampNeg)), .int y2, .ref (ad 154)]) ⟨hx, hb, hml, hown, hts⟩ (mX8_letterAt l D ac ad S f8 (f8 146 14) r13 hS er13) (cwV 1 hts gX8_readNumbers_X8_letterAt rfl rfl rfl (by decide +kernel) ⟨Nat.le_of_ble_eq_true rfl, Nat.le_of_ble_eq_true rfl⟩) (h_preV hK hw hS.1 rfl _) rfl rfl hl.1 rfl (lv_room (Nat.le_of_ble_eq_true rfl)) dX8_readNumbers_83 ⟨Nat.le_of_ble_eq_true rfl, Nat.le_of_ble_eq_true rfl⟩) ?_
            refine lv_iadd hx hb dX8_readNumbers_86 ?_
            refine lv_bipush (v := 48) hx hb dX8_readNumbers_87 (by decide) ?_
            refine lv_isub hx hb dX8_readNumbers_89 ?_
            obtain ⟨hi14, h⟩ := gd_s h
            obtain ⟨f15, ef15, h⟩ := lt_s2 h
            refine h_iast (g := f15) ef15 hx hb hK hw hS.2.2.2.2.2.2.2.2.1 hi14 dX8_readNumbers_90 (fun H locs hw => ?_)
            refine lv_aload_n hx hb dX8_readNumbers_91 rfl (lv_at hl 0 rfl) ?_
            refine lv_dup hx hb dX8_readNumbers_92 rfl ?_
            refine h_getI hx hb hts hnX8_readNumbers_X8 hown hK hw hS.1 rfl 14 (by decide) rfl hkX8_readNumbers_97 dX8_readNumbers_93 ?_
            refine lv_iconst (v := 1) hx hb dX8_readNumbers_96 (by decide) ?_
            refine lv_iadd hx hb dX8_readNumbers_97 ?_
            obtain ⟨f16, ef16, h⟩ := lt_s2 h
            refine h_putI (g := f16) ef16 hx hb hts hnX8_readNumbers_X8 tyX8 tyX8_ok nmX8 hown hK hw hS.1 rfl 14 rfl (by decide) rfl hkX8_readNumbers_97 rfl (by decide +kernel) dX8_readNumbers_98 (fun H locs hw => ?_)
            exact J101 (fX8_readNumbers_2 x1 n) ih f16 y2 _ _ _ hw (lv_sub hl [0, 1, 2] rfl) h
        · have h := it hc4 h
          refine lv_iconst (v := 0) hx hb dX8_readNumbers_21 (by decide) ?_
          exact h_retQ hx hb hr hlocks hw rfl (so2 h) dX8_readNumbers_22
  unfold fX8_readNumbers at h
  refine lv_iconst (v := 0) hx hb dX8_readNumbers_0 (by decide) ?_
  refine lv_istore_n (lv' := [(2, .int 0), (0, .ref (ad 146)), (1, .int x1)]) hx hb dX8_readNumbers_1 rfl hl (by decide) rfl (fun ls hl => ?_)
  exact J2 _ f 0 _ _ _ hw (lv_sub hl [1, 2, 0] rfl) h

theorem hnX8_isTold_X8 : ∀ w ∈ wsX80, w ∈ wsX8_isTold := by decide +kernel
theorem hkX8_isTold_31 : Cond.fieldLink RX8 31 (TX8 15).1 (TX8 15).2.1 (TX8 15).2.2.1 ∈ wsX8_isTold := by decide +kernel
set_option maxHeartbeats 8000000 in
set_option maxRecDepth 100000 in
theorem mX8_isTold (l : Launch) (D : va_G) (ac : Nat → ClassId) (ad : Nat → Nat) (S : List hSh) (f : hF) (x1 : Int32) (x2 : Int32) (x3 : Int32) (rv : Int32) (hS : isMo S) (h : fX8_isTold f x1 x2 x3 = some rv) : Met l yX8_isTold wsX8_isTold ({ frames := 1, cells := 0, slots := 0, locals := 22 }) (hPc D ac ad S f [.ref (ad 146), .int x1, .int x2, .int x3]) (hRi rv) 0 0 hNo := by
  refine h_enter (C := RX8) (cc := cX8_isTold) (maxL := 4) (ret := (some .boolean)) (lv := [(0, .ref (ad 146)), (1, .int x1), (2, .int x2), (3, .int x3)]) (by decide) rfl rfl (Nat.le_of_ble_eq_true rfl) rfl (fun p e s m below meth c ls hx hb hml hr hlocks hown hts hK hw hl => ?_)
  unfold fX8_isTold at h
  refine lv_aload_n hx hb dX8_isTold_0 rfl (lv_at hl 0 rfl) ?_
  refine h_getR hx hb hts hnX8_isTold_X8 hown hK hw hS.1 rfl 15 (by decide) rfl hkX8_isTold_31 dX8_isTold_1 ?_
  refine lv_iload_n hx hb dX8_isTold_4 rfl (lv_at hl 1 rfl) ?_
  obtain ⟨hi1, h⟩ := gd_s h
  refine h_iald hx hb hK hw hS.2.2.2.2.2.2.2.2.1 hi1 dX8_isTold_5 ?_
  refine lv_iload_n hx hb dX8_isTold_6 rfl (lv_at hl 2 rfl) ?_
  refine lv_iload_n hx hb dX8_isTold_7 rfl (lv_at hl 3 rfl) ?_
  obtain ⟨r2, er2, h⟩ := b1_s h
  refine h_callR (va_runS (As := [.int (f 154 x1.toNatClampNeg), .int x2, .int x3]) (rest := []) ⟨hx, hb, hml, hown, hts⟩ (mX8_in l D ac ad S f (f 154 x1.toNatClampNeg) x2 x3 r2  er2) (va_cwS 3 hts gX8_isTold_X8_in rfl rfl rfl (by decide +kernel) ⟨Nat.le_of_ble_eq_true rfl, Nat.le_of_ble_eq_true rfl⟩) (h_preS hK hw _) rfl rfl hl.1 rfl (lv_room (Nat.le_of_ble_eq_true rfl)) dX8_isTold_8 ⟨Nat.le_of_ble_eq_true rfl, Nat.le_of_ble_eq_true rfl⟩) ?_
  obtain ⟨hr3, h⟩ := nr_s h
  exact h_retR hx hb hr hlocks hr3 (so1 h) dX8_isTold_11

theorem hnX8_clearTold_X8 : ∀ w ∈ wsX80, w ∈ wsX8_clearTold := by decide +kernel
theorem hkX8_clearTold_74 : Cond.fieldLink RX8 74 (TX8 16).1 (TX8 16).2.1 (TX8 16).2.2.1 ∈ wsX8_clearTold := by decide +kernel
theorem hkX8_clearTold_77 : Cond.fieldLink RX8 77 (TX8 19).1 (TX8 19).2.1 (TX8 19).2.2.1 ∈ wsX8_clearTold := by decide +kernel
theorem hkX8_clearTold_67 : Cond.fieldLink RX8 67 (TX8 21).1 (TX8 21).2.1 (TX8 21).2.2.1 ∈ wsX8_clearTold := by decide +kernel
set_option maxHeartbeats 8000000 in
set_option maxRecDepth 100000 in
theorem mX8_clearTold (l : Launch) (D : va_G) (ac : Nat → ClassId) (ad : Nat → Nat) (S : List hSh) (f : hF) (gv : hF) (hS : isMo S) (h : fX8_clearTold f = some gv) : Met l yX8_clearTold wsX8_clearTold ({ frames := 0, cells := 0, slots := 0, locals := 0 }) (hPc D ac ad S f [.ref (ad 146)]) (hQv D ac ad S gv) 0 0 (hAd ad S.length) := by
  refine h_enter (C := RX8) (cc := cX8_clearTold) (maxL := 1) (ret := none) (lv := [(0, .ref (ad 146))]) (by decide) rfl rfl (Nat.le_of_ble_eq_true rfl) rfl (fun p e s m below meth c ls hx hb hml hr hlocks hown hts hK hw hl => ?_)
  unfold fX8_clearTold at h
  refine lv_aload_n hx hb dX8_clearTold_0 rfl (lv_at hl 0 rfl) ?_
  refine lv_iconst (v := 0) hx hb dX8_clearTold_1 (by decide) ?_
  obtain ⟨f1, ef1, h⟩ := lt_s2 h
  refine h_putI (g := f1) ef1 hx hb hts hnX8_clearTold_X8 tyX8 tyX8_ok nmX8 hown hK hw hS.1 rfl 16 rfl (by decide) rfl hkX8_clearTold_74 rfl (by decide +kernel) dX8_clearTold_2 (fun H locs hw => ?_)
  refine lv_aload_n hx hb dX8_clearTold_5 rfl (lv_at hl 0 rfl) ?_
  refine lv_iconst (v := 0) hx hb dX8_clearTold_6 (by decide) ?_
  obtain ⟨f2, ef2, h⟩ := lt_s2 h
  refine h_putI (g := f2) ef2 hx hb hts hnX8_clearTold_X8 tyX8 tyX8_ok nmX8 hown hK hw hS.1 rfl 19 rfl (by decide) rfl hkX8_clearTold_77 rfl (by decide +kernel) dX8_clearTold_7 (fun H locs hw => ?_)
  refine lv_aload_n hx hb dX8_clearTold_10 rfl (lv_at hl 0 rfl) ?_
  refine lv_bipush (v := 60) hx hb dX8_clearTold_11 (by decide) ?_
  obtain ⟨f3, ef3, h⟩ := lt_s2 h
  refine h_putI (g := f3) ef3 hx hb hts hnX8_clearTold_X8 tyX8 tyX8_ok nmX8 hown hK hw hS.1 rfl 21 rfl (by decide) rfl hkX8_clearTold_67 rfl (by decide +kernel) dX8_clearTold_13 (fun H locs hw => ?_)
  exact h_retV hx hb hr hlocks hw (so1 h) dX8_clearTold_16

theorem hnX8_readPersonOf_X8 : ∀ w ∈ wsX80, w ∈ wsX8_readPersonOf := by decide +kernel
theorem hkX8_readPersonOf_74 : Cond.fieldLink RX8 74 (TX8 16).1 (TX8 16).2.1 (TX8 16).2.2.1 ∈ wsX8_readPersonOf := by decide +kernel
theorem hkX8_readPersonOf_31 : Cond.fieldLink RX8 31 (TX8 15).1 (TX8 15).2.1 (TX8 15).2.2.1 ∈ wsX8_readPersonOf := by decide +kernel
set_option maxHeartbeats 8000000 in
set_option maxRecDepth 100000 in
theorem mX8_readPersonOf (l : Launch) (D : va_G) (ac : Nat → ClassId) (ad : Nat → Nat) (S : List hSh) (f : hF) (x1 : Int32) (rv : Int32) (gv : hF) (hS : isMo S) (h : fX8_readPersonOf f x1 = some (rv, gv)) : Met l yX8_readPersonOf wsX8_readPersonOf ({ frames := 3, cells := 0, slots := 0, locals := 64 }) (hPc D ac ad S f [.ref (ad 146), .int x1]) (hQi D ac ad S rv gv) 0 0 (hAd ad S.length) := by
  refine h_enter (C := RX8) (cc := cX8_readPersonOf) (maxL := 2) (ret := (some .boolean)) (lv := [(0, .ref (ad 146)), (1, .int x1)]) (by decide) rfl rfl (Nat.le_of_ble_eq_true rfl) rfl (fun p e s m below meth c ls hx hb hml hr hlocks hown hts hK hw hl => ?_)
  unfold fX8_readPersonOf at h
  refine lv_aload_n hx hb dX8_readPersonOf_0 rfl (lv_at hl 0 rfl) ?_
  refine h_getI hx hb hts hnX8_readPersonOf_X8 hown hK hw hS.1 rfl 16 (by decide) rfl hkX8_readPersonOf_74 dX8_readPersonOf_1 ?_
  refine lv_bipush (v := 8) hx hb dX8_readPersonOf_4 (by decide) ?_
  refine lv_icmp_eq (tgt := 49) hx hb dX8_readPersonOf_6 (by decide) (fun hc1 => ?_) (fun hc1 => ?_)
  · have h := it hc1 h
    refine lv_iconst (v := 0) hx hb dX8_readPersonOf_49 (by decide) ?_
    exact h_retQ hx hb hr hlocks hw rfl (so2 h) dX8_readPersonOf_50
  · have h := ie hc1 h
    refine lv_aload_n hx hb dX8_readPersonOf_9 rfl (lv_at hl 0 rfl) ?_
    refine lv_iconst (v := 3) hx hb dX8_readPersonOf_10 (by decide) ?_
    obtain ⟨r2, f3, ef3, h⟩ := b2_s h
    refine h_callQ hw (va_runV (As := [.int 3]) (rest := []) ⟨hx, hb, hml, hown, hts⟩ (mX8_readNumbers l D ac ad S f (3 : Int32) r2 f3 hS ef3) (cwV 1 hts gX8_readPersonOf_X8_readNumbers rfl rfl rfl (by decide +kernel) ⟨Nat.le_of_ble_eq_true rfl, Nat.le_of_ble_eq_true rfl⟩) (h_preV hK hw hS.1 rfl _) rfl rfl hl.1 rfl (lv_room (Nat.le_of_ble_eq_true rfl)) dX8_readPersonOf_11 ⟨Nat.le_of_ble_eq_true rfl, Nat.le_of_ble_eq_true rfl⟩) (fun H locs hw => ?_)
    refine lv_if_eq (tgt := 49) hx hb dX8_readPersonOf_14 (by decide) (fun hc4 => ?_) (fun hc4 => ?_)
    · have h := it hc4 h
      refine lv_iconst (v := 0) hx hb dX8_readPersonOf_49 (by decide) ?_
      exact h_retQ hx hb hr hlocks hw rfl (so2 h) dX8_readPersonOf_50
    · have h := ie hc4 h
      refine lv_aload_n hx hb dX8_readPersonOf_17 rfl (lv_at hl 0 rfl) ?_
      refine lv_iconst (v := 0) hx hb dX8_readPersonOf_18 (by decide) ?_
      refine lv_iconst (v := 0) hx hb dX8_readPersonOf_19 (by decide) ?_
      refine lv_iconst (v := 2) hx hb dX8_readPersonOf_20 (by decide) ?_
      obtain ⟨r5, er5, h⟩ := b1_s h
      refine h_callR (va_runV (As := [.int 0, .int 0, .int 2]) (rest := []) ⟨hx, hb, hml, hown, hts⟩ (mX8_isTold l D ac ad S f3 (0 : Int32) (0 : Int32) (2 : Int32) r5 hS er5) (cwV 3 hts gX8_readPersonOf_X8_isTold rfl rfl rfl (by decide +kernel) ⟨Nat.le_of_ble_eq_true rfl, Nat.le_of_ble_eq_true rfl⟩) (h_preV hK hw hS.1 rfl _) rfl rfl hl.1 rfl (lv_room (Nat.le_of_ble_eq_true rfl)) dX8_readPersonOf_21 ⟨Nat.le_of_ble_eq_true rfl, Nat.le_of_ble_eq_true rfl⟩) ?_
      refine lv_if_eq (tgt := 49) hx hb dX8_readPersonOf_24 (by decide) (fun hc6 => ?_) (fun hc6 => ?_)
      · have h := it hc6 h
        refine lv_iconst (v := 0) hx hb dX8_readPersonOf_49 (by decide) ?_
        exact h_retQ hx hb hr hlocks hw rfl (so2 h) dX8_readPersonOf_50
      · have h := ie hc6 h
        refine lv_aload_n hx hb dX8_readPersonOf_27 rfl (lv_at hl 0 rfl) ?_
        refine lv_iconst (v := 1) hx hb dX8_readPersonOf_28 (by decide) ?_
        refine lv_iconst (v := 0) hx hb dX8_readPersonOf_29 (by decide) ?_
        refine lv_bipush (v := 60) hx hb dX8_readPersonOf_30 (by decide) ?_
        obtain ⟨r7, er7, h⟩ := b1_s h
        refine h_callR (va_runV (As := [.int 1, .int 0, .int 60]) (rest := []) ⟨hx, hb, hml, hown, hts⟩ (mX8_isTold l D ac ad S f3 (1 : Int32) (0 : Int32) (60 : Int32) r7 hS er7) (cwV 3 hts gX8_readPersonOf_X8_isTold rfl rfl rfl (by decide +kernel) ⟨Nat.le_of_ble_eq_true rfl, Nat.le_of_ble_eq_true rfl⟩) (h_preV hK hw hS.1 rfl _) rfl rfl hl.1 rfl (lv_room (Nat.le_of_ble_eq_true rfl)) dX8_readPersonOf_32 ⟨Nat.le_of_ble_eq_true rfl, Nat.le_of_ble_eq_true rfl⟩) ?_
        refine lv_if_eq (tgt := 49) hx hb dX8_readPersonOf_35 (by decide) (fun hc8 => ?_) (fun hc8 => ?_)
        · have h := it hc8 h
          refine lv_iconst (v := 0) hx hb dX8_readPersonOf_49 (by decide) ?_
          exact h_retQ hx hb hr hlocks hw rfl (so2 h) dX8_readPersonOf_50
        · have h := ie hc8 h
          refine lv_aload_n hx hb dX8_readPersonOf_38 rfl (lv_at hl 0 rfl) ?_
          refine lv_iconst (v := 2) hx hb dX8_readPersonOf_39 (by decide) ?_
          refine lv_iconst (v := 0) hx hb dX8_readPersonOf_40 (by decide) ?_
          refine lv_bipush (v := 60) hx hb dX8_readPersonOf_41 (by decide) ?_
          obtain ⟨r9, er9, h⟩ := b1_s h
          refine h_callR (va_runV (As := [.int 2, .int 0, .int 60]) (rest := []) ⟨hx, hb, hml, hown, hts⟩ (mX8_isTold l D ac ad S f3 (2 : Int32) (0 : Int32) (60 : Int32) r9 hS er9) (cwV 3 hts gX8_readPersonOf_X8_isTold rfl rfl rfl (by decide +kernel) ⟨Nat.le_of_ble_eq_true rfl, Nat.le_of_ble_eq_true rfl⟩) (h_preV hK hw hS.1 rfl _) rfl rfl hl.1 rfl (lv_room (Nat.le_of_ble_eq_true rfl)) dX8_readPersonOf_43 ⟨Nat.le_of_ble_eq_true rfl, Nat.le_of_ble_eq_true rfl⟩) ?_
          refine lv_if_ne (tgt := 51) hx hb dX8_readPersonOf_46 (by decide) (fun hc10 => ?_) (fun hc10 => ?_)
          · have h := ie hc10 h
            refine lv_aload_n hx hb dX8_readPersonOf_51 rfl (lv_at hl 0 rfl) ?_
            refine lv_iload_n hx hb dX8_readPersonOf_52 rfl (lv_at hl 1 rfl) ?_
            refine lv_aload_n hx hb dX8_readPersonOf_53 rfl (lv_at hl 0 rfl) ?_
            refine h_getR hx hb hts hnX8_readPersonOf_X8 hown hK hw hS.1 rfl 15 (by decide) rfl hkX8_readPersonOf_31 dX8_readPersonOf_54 ?_
            refine lv_iconst (v := 0) hx hb dX8_readPersonOf_57 (by decide) ?_
            obtain ⟨hi11, h⟩ := gd_s h
            refine h_iald hx hb hK hw hS.2.2.2.2.2.2.2.2.1 hi11 dX8_readPersonOf_58 ?_
            refine lv_aload_n hx hb dX8_readPersonOf_59 rfl (lv_at hl 0 rfl) ?_
            refine h_getR hx hb hts hnX8_readPersonOf_X8 hown hK hw hS.1 rfl 15 (by decide) rfl hkX8_readPersonOf_31 dX8_readPersonOf_60 ?_
            refine lv_iconst (v := 1) hx hb dX8_readPersonOf_63 (by decide) ?_
            obtain ⟨hi12, h⟩ := gd_s h
            refine h_iald hx hb hK hw hS.2.2.2.2.2.2.2.2.1 hi12 dX8_readPersonOf_64 ?_
            refine lv_aload_n hx hb dX8_readPersonOf_65 rfl (lv_at hl 0 rfl) ?_
            refine h_getR hx hb hts hnX8_readPersonOf_X8 hown hK hw hS.1 rfl 15 (by decide) rfl hkX8_readPersonOf_31 dX8_readPersonOf_66 ?_
            refine lv_iconst (v := 2) hx hb dX8_readPersonOf_69 (by decide) ?_
            obtain ⟨hi13, h⟩ := gd_s h
            refine h_iald hx hb hK hw hS.2.2.2.2.2.2.2.2.1 hi13 dX8_readPersonOf_70 ?_
            obtain ⟨f14, ef14, h⟩ := b1_s h
            refine h_callV hw (va_runV (As := [.int x1, .int (f3 154 (0 : Int32).toNatClampNeg), .int (f3 154 (1 : Int32).toNatClampNeg), .int (f3 154 (2 : Int32).toNatClampNeg)]) (rest := []) ⟨hx, hb, hml, hown, hts⟩ (mX8_tellsPerson l D ac ad S f3 x1 (f3 154 (0 : Int32).toNatClampNeg) (f3 154 (1 : Int32).toNatClampNeg) (f3 154 (2 : Int32).toNatClampNeg) f14 hS ef14) (cwV 4 hts gX8_readPersonOf_X8_tellsPerson rfl rfl rfl (by decide +kernel) ⟨Nat.le_of_ble_eq_true rfl, Nat.le_of_ble_eq_true rfl⟩) (h_preV hK hw hS.1 rfl _) rfl rfl hl.1 rfl (lv_room (Nat.le_of_ble_eq_true rfl)) dX8_readPersonOf_71 ⟨Nat.le_of_ble_eq_true rfl, Nat.le_of_ble_eq_true rfl⟩) (fun H locs hw => ?_)
            refine lv_iconst (v := 1) hx hb dX8_readPersonOf_74 (by decide) ?_
            exact h_retQ hx hb hr hlocks hw rfl (so2 h) dX8_readPersonOf_75
          · have h := it hc10 h
            refine lv_iconst (v := 0) hx hb dX8_readPersonOf_49 (by decide) ?_
            exact h_retQ hx hb hr hlocks hw rfl (so2 h) dX8_readPersonOf_50

theorem hnX8_readParsonOf_X8 : ∀ w ∈ wsX80, w ∈ wsX8_readParsonOf := by decide +kernel
theorem hkX8_readParsonOf_77 : Cond.fieldLink RX8 77 (TX8 19).1 (TX8 19).2.1 (TX8 19).2.2.1 ∈ wsX8_readParsonOf := by decide +kernel
theorem hkX8_readParsonOf_31 : Cond.fieldLink RX8 31 (TX8 15).1 (TX8 15).2.1 (TX8 15).2.2.1 ∈ wsX8_readParsonOf := by decide +kernel
set_option maxHeartbeats 8000000 in
set_option maxRecDepth 100000 in
theorem mX8_readParsonOf (l : Launch) (D : va_G) (ac : Nat → ClassId) (ad : Nat → Nat) (S : List hSh) (f : hF) (rv : Int32) (gv : hF) (hS : isMo S) (h : fX8_readParsonOf f = some (rv, gv)) : Met l yX8_readParsonOf wsX8_readParsonOf ({ frames := 3, cells := 0, slots := 0, locals := 64 }) (hPc D ac ad S f [.ref (ad 146)]) (hQi D ac ad S rv gv) 0 0 (hAd ad S.length) := by
  refine h_enter (C := RX8) (cc := cX8_readParsonOf) (maxL := 1) (ret := (some .boolean)) (lv := [(0, .ref (ad 146))]) (by decide) rfl rfl (Nat.le_of_ble_eq_true rfl) rfl (fun p e s m below meth c ls hx hb hml hr hlocks hown hts hK hw hl => ?_)
  unfold fX8_readParsonOf at h
  refine lv_aload_n hx hb dX8_readParsonOf_0 rfl (lv_at hl 0 rfl) ?_
  refine h_getI hx hb hts hnX8_readParsonOf_X8 hown hK hw hS.1 rfl 19 (by decide) rfl hkX8_readParsonOf_77 dX8_readParsonOf_1 ?_
  refine lv_iconst (v := 3) hx hb dX8_readParsonOf_4 (by decide) ?_
  refine lv_icmp_eq (tgt := 37) hx hb dX8_readParsonOf_5 (by decide) (fun hc1 => ?_) (fun hc1 => ?_)
  · have h := it hc1 h
    refine lv_iconst (v := 0) hx hb dX8_readParsonOf_37 (by decide) ?_
    exact h_retQ hx hb hr hlocks hw rfl (so2 h) dX8_readParsonOf_38
  · have h := ie hc1 h
    refine lv_aload_n hx hb dX8_readParsonOf_8 rfl (lv_at hl 0 rfl) ?_
    refine lv_iconst (v := 2) hx hb dX8_readParsonOf_9 (by decide) ?_
    obtain ⟨r2, f3, ef3, h⟩ := b2_s h
    refine h_callQ hw (va_runV (As := [.int 2]) (rest := []) ⟨hx, hb, hml, hown, hts⟩ (mX8_readNumbers l D ac ad S f (2 : Int32) r2 f3 hS ef3) (cwV 1 hts gX8_readParsonOf_X8_readNumbers rfl rfl rfl (by decide +kernel) ⟨Nat.le_of_ble_eq_true rfl, Nat.le_of_ble_eq_true rfl⟩) (h_preV hK hw hS.1 rfl _) rfl rfl hl.1 rfl (lv_room (Nat.le_of_ble_eq_true rfl)) dX8_readParsonOf_10 ⟨Nat.le_of_ble_eq_true rfl, Nat.le_of_ble_eq_true rfl⟩) (fun H locs hw => ?_)
    refine lv_if_eq (tgt := 37) hx hb dX8_readParsonOf_13 (by decide) (fun hc4 => ?_) (fun hc4 => ?_)
    · have h := it hc4 h
      refine lv_iconst (v := 0) hx hb dX8_readParsonOf_37 (by decide) ?_
      exact h_retQ hx hb hr hlocks hw rfl (so2 h) dX8_readParsonOf_38
    · have h := ie hc4 h
      refine lv_aload_n hx hb dX8_readParsonOf_16 rfl (lv_at hl 0 rfl) ?_
      refine lv_iconst (v := 0) hx hb dX8_readParsonOf_17 (by decide) ?_
      refine lv_iconst (v := 0) hx hb dX8_readParsonOf_18 (by decide) ?_
      refine lv_iconst (v := 2) hx hb dX8_readParsonOf_19 (by decide) ?_
      obtain ⟨r5, er5, h⟩ := b1_s h
      refine h_callR (va_runV (As := [.int 0, .int 0, .int 2]) (rest := []) ⟨hx, hb, hml, hown, hts⟩ (mX8_isTold l D ac ad S f3 (0 : Int32) (0 : Int32) (2 : Int32) r5 hS er5) (cwV 3 hts gX8_readParsonOf_X8_isTold rfl rfl rfl (by decide +kernel) ⟨Nat.le_of_ble_eq_true rfl, Nat.le_of_ble_eq_true rfl⟩) (h_preV hK hw hS.1 rfl _) rfl rfl hl.1 rfl (lv_room (Nat.le_of_ble_eq_true rfl)) dX8_readParsonOf_20 ⟨Nat.le_of_ble_eq_true rfl, Nat.le_of_ble_eq_true rfl⟩) ?_
      refine lv_if_eq (tgt := 37) hx hb dX8_readParsonOf_23 (by decide) (fun hc6 => ?_) (fun hc6 => ?_)
      · have h := it hc6 h
        refine lv_iconst (v := 0) hx hb dX8_readParsonOf_37 (by decide) ?_
        exact h_retQ hx hb hr hlocks hw rfl (so2 h) dX8_readParsonOf_38
      · have h := ie hc6 h
        refine lv_aload_n hx hb dX8_readParsonOf_26 rfl (lv_at hl 0 rfl) ?_
        refine lv_iconst (v := 1) hx hb dX8_readParsonOf_27 (by decide) ?_
        refine lv_iconst (v := 0) hx hb dX8_readParsonOf_28 (by decide) ?_
        refine lv_bipush (v := 20) hx hb dX8_readParsonOf_29 (by decide) ?_
        obtain ⟨r7, er7, h⟩ := b1_s h
        refine h_callR (va_runV (As := [.int 1, .int 0, .int 20]) (rest := []) ⟨hx, hb, hml, hown, hts⟩ (mX8_isTold l D ac ad S f3 (1 : Int32) (0 : Int32) (20 : Int32) r7 hS er7) (cwV 3 hts gX8_readParsonOf_X8_isTold rfl rfl rfl (by decide +kernel) ⟨Nat.le_of_ble_eq_true rfl, Nat.le_of_ble_eq_true rfl⟩) (h_preV hK hw hS.1 rfl _) rfl rfl hl.1 rfl (lv_room (Nat.le_of_ble_eq_true rfl)) dX8_readParsonOf_31 ⟨Nat.le_of_ble_eq_true rfl, Nat.le_of_ble_eq_true rfl⟩) ?_
        refine lv_if_ne (tgt := 39) hx hb dX8_readParsonOf_34 (by decide) (fun hc8 => ?_) (fun hc8 => ?_)
        · have h := ie hc8 h
          refine lv_aload_n hx hb dX8_readParsonOf_39 rfl (lv_at hl 0 rfl) ?_
          refine lv_aload_n hx hb dX8_readParsonOf_40 rfl (lv_at hl 0 rfl) ?_
          refine h_getR hx hb hts hnX8_readParsonOf_X8 hown hK hw hS.1 rfl 15 (by decide) rfl hkX8_readParsonOf_31 dX8_readParsonOf_41 ?_
          refine lv_iconst (v := 0) hx hb dX8_readParsonOf_44 (by decide) ?_
          obtain ⟨hi9, h⟩ := gd_s h
          refine h_iald hx hb hK hw hS.2.2.2.2.2.2.2.2.1 hi9 dX8_readParsonOf_45 ?_
          refine lv_aload_n hx hb dX8_readParsonOf_46 rfl (lv_at hl 0 rfl) ?_
          refine h_getR hx hb hts hnX8_readParsonOf_X8 hown hK hw hS.1 rfl 15 (by decide) rfl hkX8_readParsonOf_31 dX8_readParsonOf_47 ?_
          refine lv_iconst (v := 1) hx hb dX8_readParsonOf_50 (by decide) ?_
          obtain ⟨hi10, h⟩ := gd_s h
          refine h_iald hx hb hK hw hS.2.2.2.2.2.2.2.2.1 hi10 dX8_readParsonOf_51 ?_
          obtain ⟨f11, ef11, h⟩ := b1_s h
          refine h_callV hw (va_runV (As := [.int (f3 154 (0 : Int32).toNatClampNeg), .int (f3 154 (1 : Int32).toNatClampNeg)]) (rest := []) ⟨hx, hb, hml, hown, hts⟩ (mX8_tellsParson l D ac ad S f3 (f3 154 (0 : Int32).toNatClampNeg) (f3 154 (1 : Int32).toNatClampNeg) f11 hS ef11) (cwV 2 hts gX8_readParsonOf_X8_tellsParson rfl rfl rfl (by decide +kernel) ⟨Nat.le_of_ble_eq_true rfl, Nat.le_of_ble_eq_true rfl⟩) (h_preV hK hw hS.1 rfl _) rfl rfl hl.1 rfl (lv_room (Nat.le_of_ble_eq_true rfl)) dX8_readParsonOf_52 ⟨Nat.le_of_ble_eq_true rfl, Nat.le_of_ble_eq_true rfl⟩) (fun H locs hw => ?_)
          refine lv_iconst (v := 1) hx hb dX8_readParsonOf_55 (by decide) ?_
          exact h_retQ hx hb hr hlocks hw rfl (so2 h) dX8_readParsonOf_56
        · have h := it hc8 h
          refine lv_iconst (v := 0) hx hb dX8_readParsonOf_37 (by decide) ?_
          exact h_retQ hx hb hr hlocks hw rfl (so2 h) dX8_readParsonOf_38

theorem hnX8_readLawOf_X8 : ∀ w ∈ wsX80, w ∈ wsX8_readLawOf := by decide +kernel
theorem hkX8_readLawOf_67 : Cond.fieldLink RX8 67 (TX8 21).1 (TX8 21).2.1 (TX8 21).2.2.1 ∈ wsX8_readLawOf := by decide +kernel
theorem hkX8_readLawOf_31 : Cond.fieldLink RX8 31 (TX8 15).1 (TX8 15).2.1 (TX8 15).2.2.1 ∈ wsX8_readLawOf := by decide +kernel
set_option maxHeartbeats 8000000 in
set_option maxRecDepth 100000 in
theorem mX8_readLawOf (l : Launch) (D : va_G) (ac : Nat → ClassId) (ad : Nat → Nat) (S : List hSh) (f : hF) (rv : Int32) (gv : hF) (hS : isMo S) (h : fX8_readLawOf f = some (rv, gv)) : Met l yX8_readLawOf wsX8_readLawOf ({ frames := 3, cells := 0, slots := 0, locals := 64 }) (hPc D ac ad S f [.ref (ad 146)]) (hQi D ac ad S rv gv) 0 0 (hAd ad S.length) := by
  refine h_enter (C := RX8) (cc := cX8_readLawOf) (maxL := 2) (ret := (some .boolean)) (lv := [(0, .ref (ad 146))]) (by decide) rfl rfl (Nat.le_of_ble_eq_true rfl) rfl (fun p e s m below meth c ls hx hb hml hr hlocks hown hts hK hw hl => ?_)
  have J43 : ∀ (_ : Unit), (∀ (f : hF) (y1 : Int32) (s1 : Int32) (H : Heap) (locs : List Loc) (ls : Array Slot), hOk D ac ad S (hAd ad S.length) s.heap f H locs → lv_has ls 2 [(1, .int y1)] → fX8_readLawOf_43 f y1 s1 = some (rv, gv) → W p l e ({ frames := 3, cells := 0, slots := 0, locals := 64 } : Room) s m ([.ref (ad 146)] : List Value).toArray below meth c H locs 0 0 (MQ below (hQi D ac ad S rv gv) ([.ref (ad 146)] : List Value).toArray s 0 0 (hAd ad S.length)) (F0 m 43 ls [.int s1, .ref (ad 146)])) := by
    intro _ f y1 s1 H locs ls hw hl h
    unfold fX8_readLawOf_43 at h
    obtain ⟨f1, ef1, h⟩ := lt_s2 h
    refine h_putI (g := f1) ef1 hx hb hts hnX8_readLawOf_X8 tyX8 tyX8_ok nmX8 hown hK hw hS.1 rfl 21 rfl (by decide) rfl hkX8_readLawOf_67 rfl (by decide +kernel) dX8_readLawOf_43 (fun H locs hw => ?_)
    refine lv_iload_n hx hb dX8_readLawOf_46 rfl (lv_at hl 0 rfl) ?_
    obtain ⟨hr2, h⟩ := nr_s h
    exact h_retQ hx hb hr hlocks hw hr2 (so2 h) dX8_readLawOf_47
  have J24 : ∀ (_ : Unit), (∀ (f : hF) (s0 : Int32) (H : Heap) (locs : List Loc) (ls : Array Slot), hOk D ac ad S (hAd ad S.length) s.heap f H locs → lv_has ls 2 [(0, .ref (ad 146))] → fX8_readLawOf_24 f s0 = some (rv, gv) → W p l e ({ frames := 3, cells := 0, slots := 0, locals := 64 } : Room) s m ([.ref (ad 146)] : List Value).toArray below meth c H locs 0 0 (MQ below (hQi D ac ad S rv gv) ([.ref (ad 146)] : List Value).toArray s 0 0 (hAd ad S.length)) (F0 m 24 ls [.int s0])) := by
    intro _ f s0 H locs ls hw hl h
    unfold fX8_readLawOf_24 at h
    refine lv_istore_n (lv' := [(1, .int s0), (0, .ref (ad 146))]) hx hb dX8_readLawOf_24 rfl hl (by decide) rfl (fun ls hl => ?_)
    refine lv_aload_n hx hb dX8_readLawOf_25 rfl (lv_at hl 1 rfl) ?_
    refine lv_iload_n hx hb dX8_readLawOf_26 rfl (lv_at hl 0 rfl) ?_
    refine lv_if_eq (tgt := 39) hx hb dX8_readLawOf_27 (by decide) (fun hc1 => ?_) (fun hc1 => ?_)
    · have h := it hc1 h
      refine lv_aload_n hx hb dX8_readLawOf_39 rfl (lv_at hl 1 rfl) ?_
      refine h_getI hx hb hts hnX8_readLawOf_X8 hown hK hw hS.1 rfl 21 (by decide) rfl hkX8_readLawOf_67 dX8_readLawOf_40 ?_
      exact J43 () f s0 (f 146 21) _ _ _ hw (lv_sub hl [0] rfl) h
    · have h := ie hc1 h
      refine lv_aload_n hx hb dX8_readLawOf_30 rfl (lv_at hl 1 rfl) ?_
      refine h_getR hx hb hts hnX8_readLawOf_X8 hown hK hw hS.1 rfl 15 (by decide) rfl hkX8_readLawOf_31 dX8_readLawOf_31 ?_
      refine lv_iconst (v := 0) hx hb dX8_readLawOf_34 (by decide) ?_
      obtain ⟨hi2, h⟩ := gd_s h
      refine h_iald hx hb hK hw hS.2.2.2.2.2.2.2.2.1 hi2 dX8_readLawOf_35 ?_
      refine lv_goto (tgt := 43) hx hb dX8_readLawOf_36 (by decide) ?_
      exact J43 () f s0 (f 154 (0 : Int32).toNatClampNeg) _ _ _ hw (lv_sub hl [0] rfl) h
  have J23 : ∀ (_ : Unit), (∀ (f : hF) (H : Heap) (locs : List Loc) (ls : Array Slot), hOk D ac ad S (hAd ad S.length) s.heap f H locs → lv_has ls 2 [(0, .ref (ad 146))] → fX8_readLawOf_23 f = some (rv, gv) → W p l e ({ frames := 3, cells := 0, slots := 0, locals := 64 } : Room) s m ([.ref (ad 146)] : List Value).toArray below meth c H locs 0 0 (MQ below (hQi D ac ad S rv gv) ([.ref (ad 146)] : List Value).toArray s 0 0 (hAd ad S.length)) (F0 m 23 ls [])) := by
    intro _ f H locs ls hw hl h
    unfold fX8_readLawOf_23 at h
    refine lv_iconst (v := 0) hx hb dX8_readLawOf_23 (by decide) ?_
    exact J24 () f 0 _ _ _ hw (lv_sub hl [0] rfl) h
  unfold fX8_readLawOf at h
  refine lv_aload_n hx hb dX8_readLawOf_0 rfl (lv_at hl 0 rfl) ?_
  refine lv_iconst (v := 1) hx hb dX8_readLawOf_1 (by decide) ?_
  obtain ⟨r1, f2, ef2, h⟩ := b2_s h
  refine h_callQ hw (va_runV (As := [.int 1]) (rest := []) ⟨hx, hb, hml, hown, hts⟩ (mX8_readNumbers l D ac ad S f (1 : Int32) r1 f2 hS ef2) (cwV 1 hts gX8_readLawOf_X8_readNumbers rfl rfl rfl (by decide +kernel) ⟨Nat.le_of_ble_eq_true rfl, Nat.le_of_ble_eq_true rfl⟩) (h_preV hK hw hS.1 rfl _) rfl rfl hl.1 rfl (lv_room (Nat.le_of_ble_eq_true rfl)) dX8_readLawOf_2 ⟨Nat.le_of_ble_eq_true rfl, Nat.le_of_ble_eq_true rfl⟩) (fun H locs hw => ?_)
  refine lv_if_eq (tgt := 23) hx hb dX8_readLawOf_5 (by decide) (fun hc3 => ?_) (fun hc3 => ?_)
  · have h := it hc3 h
    exact J23 () f2 _ _ _ hw (lv_sub hl [0] rfl) h
  · have h := ie hc3 h
    refine lv_aload_n hx hb dX8_readLawOf_8 rfl (lv_at hl 0 rfl) ?_
    refine lv_iconst (v := 0) hx hb dX8_readLawOf_9 (by decide) ?_
    refine lv_iconst (v := 1) hx hb dX8_readLawOf_10 (by decide) ?_
    refine lv_bipush (v := 99) hx hb dX8_readLawOf_11 (by decide) ?_
    obtain ⟨r4, er4, h⟩ := b1_s h
    refine h_callR (va_runV (As := [.int 0, .int 1, .int 99]) (rest := []) ⟨hx, hb, hml, hown, hts⟩ (mX8_isTold l D ac ad S f2 (0 : Int32) (1 : Int32) (99 : Int32) r4 hS er4) (cwV 3 hts gX8_readLawOf_X8_isTold rfl rfl rfl (by decide +kernel) ⟨Nat.le_of_ble_eq_true rfl, Nat.le_of_ble_eq_true rfl⟩) (h_preV hK hw hS.1 rfl _) rfl rfl hl.1 rfl (lv_room (Nat.le_of_ble_eq_true rfl)) dX8_readLawOf_13 ⟨Nat.le_of_ble_eq_true rfl, Nat.le_of_ble_eq_true rfl⟩) ?_
    refine lv_if_eq (tgt := 23) hx hb dX8_readLawOf_16 (by decide) (fun hc5 => ?_) (fun hc5 => ?_)
    · have h := it hc5 h
      exact J23 () f2 _ _ _ hw (lv_sub hl [0] rfl) h
    · have h := ie hc5 h
      refine lv_iconst (v := 1) hx hb dX8_readLawOf_19 (by decide) ?_
      refine lv_goto (tgt := 24) hx hb dX8_readLawOf_20 (by decide) ?_
      exact J24 () f2 1 _ _ _ hw (lv_sub hl [0] rfl) h

theorem hnX8_readItem_X8 : ∀ w ∈ wsX80, w ∈ wsX8_readItem := by decide +kernel
theorem hkX8_readItem_97 : Cond.fieldLink RX8 97 (TX8 14).1 (TX8 14).2.1 (TX8 14).2.2.1 ∈ wsX8_readItem := by decide +kernel
set_option maxHeartbeats 8000000 in
set_option maxRecDepth 100000 in
theorem mX8_readItem (l : Launch) (D : va_G) (ac : Nat → ClassId) (ad : Nat → Nat) (S : List hSh) (f : hF) (rv : Int32) (gv : hF) (hS : isMo S) (h : fX8_readItem f = some (rv, gv)) : Met l yX8_readItem wsX8_readItem ({ frames := 4, cells := 0, slots := 0, locals := 85 }) (hPc D ac ad S f [.ref (ad 146)]) (hQi D ac ad S rv gv) 0 0 (hAd ad S.length) := by
  refine h_enter (C := RX8) (cc := cX8_readItem) (maxL := 2) (ret := (some .boolean)) (lv := [(0, .ref (ad 146))]) (by decide) rfl rfl (Nat.le_of_ble_eq_true rfl) rfl (fun p e s m below meth c ls hx hb hml hr hlocks hown hts hK hw hl => ?_)
  unfold fX8_readItem at h
  refine lv_aload_n hx hb dX8_readItem_0 rfl (lv_at hl 0 rfl) ?_
  refine lv_aload_n hx hb dX8_readItem_1 rfl (lv_at hl 0 rfl) ?_
  refine h_getI hx hb hts hnX8_readItem_X8 hown hK hw hS.1 rfl 14 (by decide) rfl hkX8_readItem_97 dX8_readItem_2 ?_
  obtain ⟨r1, er1, h⟩ := b1_s h
  refine h_callR (va_runV (As := [.int (f 146 14)]) (rest := []) ⟨hx, hb, hml, hown, hts⟩ (mX8_letterAt l D ac ad S f (f 146 14) r1 hS er1) (cwV 1 hts gX8_readItem_X8_letterAt rfl rfl rfl (by decide +kernel) ⟨Nat.le_of_ble_eq_true rfl, Nat.le_of_ble_eq_true rfl⟩) (h_preV hK hw hS.1 rfl _) rfl rfl hl.1 rfl (lv_room (Nat.le_of_ble_eq_true rfl)) dX8_readItem_5 ⟨Nat.le_of_ble_eq_true rfl, Nat.le_of_ble_eq_true rfl⟩) ?_
  refine lv_istore_n (lv' := [(1, .int r1), (0, .ref (ad 146))]) hx hb dX8_readItem_8 rfl hl (by decide) rfl (fun ls hl => ?_)
  refine lv_aload_n hx hb dX8_readItem_9 rfl (lv_at hl 1 rfl) ?_
  refine lv_dup hx hb dX8_readItem_10 rfl ?_
  refine h_getI hx hb hts hnX8_readItem_X8 hown hK hw hS.1 rfl 14 (by decide) rfl hkX8_readItem_97 dX8_readItem_11 ?_
  refine lv_iconst (v := 1) hx hb dX8_readItem_14 (by decide) ?_
  refine lv_iadd hx hb dX8_readItem_15 ?_
  obtain ⟨f2, ef2, h⟩ := lt_s2 h
  refine h_putI (g := f2) ef2 hx hb hts hnX8_readItem_X8 tyX8 tyX8_ok nmX8 hown hK hw hS.1 rfl 14 rfl (by decide) rfl hkX8_readItem_97 rfl (by decide +kernel) dX8_readItem_16 (fun H locs hw => ?_)
  refine lv_iload_n hx hb dX8_readItem_19 rfl (lv_at hl 0 rfl) ?_
  by_cases hc15 : r1 = 108
  · have h := it hc15 h
    refine lv_lookup (off := 61) (tgt := 81) hx hb dX8_readItem_20 (by decide) (by rw [hc15]; rfl) (by decide) ?_
    refine lv_aload_n hx hb dX8_readItem_81 rfl (lv_at hl 1 rfl) ?_
    obtain ⟨r3, f4, ef4, h⟩ := b2_s h
    refine h_callQ hw (va_runV (As := []) (rest := []) ⟨hx, hb, hml, hown, hts⟩ (mX8_readLawOf l D ac ad S f2 r3 f4 hS ef4) (cwV 0 hts gX8_readItem_X8_readLawOf rfl rfl rfl (by decide +kernel) ⟨Nat.le_of_ble_eq_true rfl, Nat.le_of_ble_eq_true rfl⟩) (h_preV hK hw hS.1 rfl _) rfl rfl hl.1 rfl (lv_room (Nat.le_of_ble_eq_true rfl)) dX8_readItem_82 ⟨Nat.le_of_ble_eq_true rfl, Nat.le_of_ble_eq_true rfl⟩) (fun H locs hw => ?_)
    obtain ⟨hr5, h⟩ := nr_s h
    exact h_retQ hx hb hr hlocks hw hr5 (so2 h) dX8_readItem_85
  · have h := ie hc15 h
    by_cases hc16 : r1 = 109
    · have h := it hc16 h
      refine lv_lookup (off := 44) (tgt := 64) hx hb dX8_readItem_20 (by decide) (by rw [hc16]; rfl) (by decide) ?_
      refine lv_aload_n hx hb dX8_readItem_64 rfl (lv_at hl 1 rfl) ?_
      refine lv_iconst (v := 0) hx hb dX8_readItem_65 (by decide) ?_
      obtain ⟨r6, f7, ef7, h⟩ := b2_s h
      refine h_callQ hw (va_runV (As := [.int 0]) (rest := []) ⟨hx, hb, hml, hown, hts⟩ (mX8_readPersonOf l D ac ad S f2 (0 : Int32) r6 f7 hS ef7) (cwV 1 hts gX8_readItem_X8_readPersonOf rfl rfl rfl (by decide +kernel) ⟨Nat.le_of_ble_eq_true rfl, Nat.le_of_ble_eq_true rfl⟩) (h_preV hK hw hS.1 rfl _) rfl rfl hl.1 rfl (lv_room (Nat.le_of_ble_eq_true rfl)) dX8_readItem_66 ⟨Nat.le_of_ble_eq_true rfl, Nat.le_of_ble_eq_true rfl⟩) (fun H locs hw => ?_)
      obtain ⟨hr8, h⟩ := nr_s h
      exact h_retQ hx hb hr hlocks hw hr8 (so2 h) dX8_readItem_69
    · have h := ie hc16 h
      by_cases hc17 : r1 = 112
      · have h := it hc17 h
        refine lv_lookup (off := 56) (tgt := 76) hx hb dX8_readItem_20 (by decide) (by rw [hc17]; rfl) (by decide) ?_
        refine lv_aload_n hx hb dX8_readItem_76 rfl (lv_at hl 1 rfl) ?_
        obtain ⟨r9, f10, ef10, h⟩ := b2_s h
        refine h_callQ hw (va_runV (As := []) (rest := []) ⟨hx, hb, hml, hown, hts⟩ (mX8_readParsonOf l D ac ad S f2 r9 f10 hS ef10) (cwV 0 hts gX8_readItem_X8_readParsonOf rfl rfl rfl (by decide +kernel) ⟨Nat.le_of_ble_eq_true rfl, Nat.le_of_ble_eq_true rfl⟩) (h_preV hK hw hS.1 rfl _) rfl rfl hl.1 rfl (lv_room (Nat.le_of_ble_eq_true rfl)) dX8_readItem_77 ⟨Nat.le_of_ble_eq_true rfl, Nat.le_of_ble_eq_true rfl⟩) (fun H locs hw => ?_)
        obtain ⟨hr11, h⟩ := nr_s h
        exact h_retQ hx hb hr hlocks hw hr11 (so2 h) dX8_readItem_80
      · have h := ie hc17 h
        by_cases hc18 : r1 = 119
        · have h := it hc18 h
          refine lv_lookup (off := 50) (tgt := 70) hx hb dX8_readItem_20 (by decide) (by rw [hc18]; rfl) (by decide) ?_
          refine lv_aload_n hx hb dX8_readItem_70 rfl (lv_at hl 1 rfl) ?_
          refine lv_iconst (v := 1) hx hb dX8_readItem_71 (by decide) ?_
          obtain ⟨r12, f13, ef13, h⟩ := b2_s h
          refine h_callQ hw (va_runV (As := [.int 1]) (rest := []) ⟨hx, hb, hml, hown, hts⟩ (mX8_readPersonOf l D ac ad S f2 (1 : Int32) r12 f13 hS ef13) (cwV 1 hts gX8_readItem_X8_readPersonOf rfl rfl rfl (by decide +kernel) ⟨Nat.le_of_ble_eq_true rfl, Nat.le_of_ble_eq_true rfl⟩) (h_preV hK hw hS.1 rfl _) rfl rfl hl.1 rfl (lv_room (Nat.le_of_ble_eq_true rfl)) dX8_readItem_72 ⟨Nat.le_of_ble_eq_true rfl, Nat.le_of_ble_eq_true rfl⟩) (fun H locs hw => ?_)
          obtain ⟨hr14, h⟩ := nr_s h
          exact h_retQ hx hb hr hlocks hw hr14 (so2 h) dX8_readItem_75
        · have h := ie hc18 h
          refine lv_lookup (off := 66) (tgt := 86) hx hb dX8_readItem_20 (by decide) ((lv_osw hc15 rfl).trans <| (lv_osw hc16 rfl).trans <| (lv_osw hc17 rfl).trans <| (lv_osw hc18 rfl).trans <| rfl) (by decide) ?_
          refine lv_iconst (v := 0) hx hb dX8_readItem_86 (by decide) ?_
          exact h_retQ hx hb hr hlocks hw rfl (so2 h) dX8_readItem_87

theorem hnX8_fault_X8 : ∀ w ∈ wsX80, w ∈ wsX8_fault := by decide +kernel
theorem hkX8_fault_97 : Cond.fieldLink RX8 97 (TX8 14).1 (TX8 14).2.1 (TX8 14).2.2.1 ∈ wsX8_fault := by decide +kernel
theorem hkX8_fault_94 : Cond.fieldLink RX8 94 (TX8 13).1 (TX8 13).2.1 (TX8 13).2.2.1 ∈ wsX8_fault := by decide +kernel
set_option maxHeartbeats 8000000 in
set_option maxRecDepth 100000 in
theorem mX8_fault (l : Launch) (D : va_G) (ac : Nat → ClassId) (ad : Nat → Nat) (S : List hSh) (f : hF) (rv : Int32) (gv : hF) (hS : isMo S) (h : fX8_fault f = some (rv, gv)) : Met l yX8_fault wsX8_fault ({ frames := 5, cells := 0, slots := 0, locals := 106 }) (hPc D ac ad S f [.ref (ad 146)]) (hQi D ac ad S rv gv) 0 0 (hAd ad S.length) := by
  refine h_enter (C := RX8) (cc := cX8_fault) (maxL := 2) (ret := (some .int)) (lv := [(0, .ref (ad 146))]) (by decide) rfl rfl (Nat.le_of_ble_eq_true rfl) rfl (fun p e s m below meth c ls hx hb hml hr hlocks hown hts hK hw hl => ?_)
  have J9 : ∀ (n : Nat), (∀ (f : hF) (H : Heap) (locs : List Loc) (ls : Array Slot), hOk D ac ad S (hAd ad S.length) s.heap f H locs → lv_has ls 2 [(0, .ref (ad 146))] → fX8_fault_9 n f = some (rv, gv) → W p l e ({ frames := 5, cells := 0, slots := 0, locals := 106 } : Room) s m ([.ref (ad 146)] : List Value).toArray below meth c H locs 0 0 (MQ below (hQi D ac ad S rv gv) ([.ref (ad 146)] : List Value).toArray s 0 0 (hAd ad S.length)) (F0 m 9 ls [])) := by
    intro n
    induction n with
    | zero =>
      intro f H locs ls hw hl h
      rw [fX8_fault_9] at h
      cases h
    | succ n ih =>
      intro f H locs ls hw hl h
      rw [fX8_fault_9] at h
      refine lv_aload_n hx hb dX8_fault_9 rfl (lv_at hl 0 rfl) ?_
      refine h_getI hx hb hts hnX8_fault_X8 hown hK hw hS.1 rfl 14 (by decide) rfl hkX8_fault_97 dX8_fault_10 ?_
      refine lv_aload_n hx hb dX8_fault_13 rfl (lv_at hl 0 rfl) ?_
      refine h_getI hx hb hts hnX8_fault_X8 hown hK hw hS.1 rfl 13 (by decide) rfl hkX8_fault_94 dX8_fault_14 ?_
      refine lv_icmp_ge (tgt := 37) hx hb dX8_fault_17 (by decide) (fun hc1 => ?_) (fun hc1 => ?_)
      · have h := it hc1 h
        refine lv_bipush (v := (-4)) hx hb dX8_fault_37 (by decide) ?_
        exact h_retQ hx hb hr hlocks hw rfl (so2 h) dX8_fault_39
      · have h := ie hc1 h
        refine lv_aload_n hx hb dX8_fault_20 rfl (lv_at hl 0 rfl) ?_
        refine h_getI hx hb hts hnX8_fault_X8 hown hK hw hS.1 rfl 14 (by decide) rfl hkX8_fault_97 dX8_fault_21 ?_
        refine lv_istore_n (lv' := [(1, .int (f 146 14)), (0, .ref (ad 146))]) hx hb dX8_fault_24 rfl hl (by decide) rfl (fun ls hl => ?_)
        refine lv_aload_n hx hb dX8_fault_25 rfl (lv_at hl 1 rfl) ?_
        obtain ⟨r2, f3, ef3, h⟩ := b2_s h
        refine h_callQ hw (va_runV (As := []) (rest := []) ⟨hx, hb, hml, hown, hts⟩ (mX8_readItem l D ac ad S f r2 f3 hS ef3) (cwV 0 hts gX8_fault_X8_readItem rfl rfl rfl (by decide +kernel) ⟨Nat.le_of_ble_eq_true rfl, Nat.le_of_ble_eq_true rfl⟩) (h_preV hK hw hS.1 rfl _) rfl rfl hl.1 rfl (lv_room (Nat.le_of_ble_eq_true rfl)) dX8_fault_26 ⟨Nat.le_of_ble_eq_true rfl, Nat.le_of_ble_eq_true rfl⟩) (fun H locs hw => ?_)
        refine lv_if_ne (tgt := 34) hx hb dX8_fault_29 (by decide) (fun hc4 => ?_) (fun hc4 => ?_)
        · have h := ie hc4 h
          refine lv_goto (tgt := 9) hx hb dX8_fault_34 (by decide) ?_
          exact ih f3 _ _ _ hw (lv_sub hl [1] rfl) h
        · have h := it hc4 h
          refine lv_iload_n hx hb dX8_fault_32 rfl (lv_at hl 0 rfl) ?_
          exact h_retQ hx hb hr hlocks hw rfl (so2 h) dX8_fault_33
  unfold fX8_fault at h
  refine lv_aload_n hx hb dX8_fault_0 rfl (lv_at hl 0 rfl) ?_
  refine lv_iconst (v := 0) hx hb dX8_fault_1 (by decide) ?_
  obtain ⟨f1, ef1, h⟩ := lt_s2 h
  refine h_putI (g := f1) ef1 hx hb hts hnX8_fault_X8 tyX8 tyX8_ok nmX8 hown hK hw hS.1 rfl 14 rfl (by decide) rfl hkX8_fault_97 rfl (by decide +kernel) dX8_fault_2 (fun H locs hw => ?_)
  refine lv_aload_n hx hb dX8_fault_5 rfl (lv_at hl 0 rfl) ?_
  obtain ⟨f2, ef2, h⟩ := b1_s h
  refine h_callV hw (va_runV (As := []) (rest := []) ⟨hx, hb, hml, hown, hts⟩ (mX8_clearTold l D ac ad S f1 f2 hS ef2) (cwV 0 hts gX8_fault_X8_clearTold rfl rfl rfl (by decide +kernel) ⟨Nat.le_of_ble_eq_true rfl, Nat.le_of_ble_eq_true rfl⟩) (h_preV hK hw hS.1 rfl _) rfl rfl hl.1 rfl (lv_room (Nat.le_of_ble_eq_true rfl)) dX8_fault_6 ⟨Nat.le_of_ble_eq_true rfl, Nat.le_of_ble_eq_true rfl⟩) (fun H locs hw => ?_)
  exact J9 _ f2 _ _ _ hw (lv_sub hl [0] rfl) h

set_option maxHeartbeats 8000000 in
set_option maxRecDepth 100000 in
theorem mX8_copies (l : Launch) (D : va_G) (ac : Nat → ClassId) (ad : Nat → Nat) (S : List hSh) (a0 : Nat) (n0 : Nat) (a2 : Nat) (n2 : Nat) (f : hF) (x1 : Int32) (x3 : Int32) (x4 : Int32) (gv : hF) (hA0 : S[a0]? = some (.inr (0, n0))) (hA2 : S[a2]? = some (.inr (0, n2))) (h : fX8_copies a0 n0 a2 n2 f x1 x3 x4 = some gv) : Met l yX8_copies wsX8_copies ({ frames := 0, cells := 0, slots := 0, locals := 0 }) (hPc D ac ad S f [.ref (ad a0), .int x1, .ref (ad a2), .int x3, .int x4]) (hQv D ac ad S gv) 0 0 (hAd ad S.length) := by
  refine h_enter (C := RX8) (cc := cX8_copies) (maxL := 6) (ret := none) (lv := [(0, .ref (ad a0)), (1, .int x1), (2, .ref (ad a2)), (3, .int x3), (4, .int x4)]) (by decide) rfl rfl (Nat.le_of_ble_eq_true rfl) rfl (fun p e s m below meth c ls hx hb hml hr hlocks hown hts hK hw hl => ?_)
  have J3 : ∀ (n : Nat), (∀ (f : hF) (y5 : Int32) (H : Heap) (locs : List Loc) (ls : Array Slot), hOk D ac ad S (hAd ad S.length) s.heap f H locs → lv_has ls 6 [(0, .ref (ad a0)), (1, .int x1), (2, .ref (ad a2)), (3, .int x3), (4, .int x4), (5, .int y5)] → fX8_copies_3 a0 n0 a2 n2 x1 x3 x4 n f y5 = some gv → W p l e ({ frames := 0, cells := 0, slots := 0, locals := 0 } : Room) s m ([.ref (ad a0), .int x1, .ref (ad a2), .int x3, .int x4] : List Value).toArray below meth c H locs 0 0 (MQ below (hQv D ac ad S gv) ([.ref (ad a0), .int x1, .ref (ad a2), .int x3, .int x4] : List Value).toArray s 0 0 (hAd ad S.length)) (F0 m 3 ls [])) := by
    intro n
    induction n with
    | zero =>
      intro f y5 H locs ls hw hl h
      rw [fX8_copies_3] at h
      cases h
    | succ n ih =>
      intro f y5 H locs ls hw hl h
      rw [fX8_copies_3] at h
      refine lv_iload hx hb dX8_copies_3 (lv_at hl 5 rfl) ?_
      refine lv_iload hx hb dX8_copies_5 (lv_at hl 4 rfl) ?_
      refine lv_icmp_ge (tgt := 28) hx hb dX8_copies_7 (by decide) (fun hc1 => ?_) (fun hc1 => ?_)
      · have h := it hc1 h
        exact h_retV hx hb hr hlocks hw (so1 h) dX8_copies_28
      · have h := ie hc1 h
        refine lv_aload_n hx hb dX8_copies_10 rfl (lv_at hl 0 rfl) ?_
        refine lv_iload_n hx hb dX8_copies_11 rfl (lv_at hl 1 rfl) ?_
        refine lv_iload hx hb dX8_copies_12 (lv_at hl 5 rfl) ?_
        refine lv_iadd hx hb dX8_copies_14 ?_
        refine lv_aload_n hx hb dX8_copies_15 rfl (lv_at hl 2 rfl) ?_
        refine lv_iload_n hx hb dX8_copies_16 rfl (lv_at hl 3 rfl) ?_
        refine lv_iload hx hb dX8_copies_17 (lv_at hl 5 rfl) ?_
        refine lv_iadd hx hb dX8_copies_19 ?_
        obtain ⟨hi2, h⟩ := gd_s h
        refine h_iald hx hb hK hw hA2 hi2 dX8_copies_20 ?_
        obtain ⟨hi3, h⟩ := gd_s h
        obtain ⟨f4, ef4, h⟩ := lt_s2 h
        refine h_iast (g := f4) ef4 hx hb hK hw hA0 hi3 dX8_copies_21 (fun H locs hw => ?_)
        refine lv_iinc (v := (y5 + 1)) (lv' := [(5, .int (y5 + 1)), (0, .ref (ad a0)), (1, .int x1), (2, .ref (ad a2)), (3, .int x3), (4, .int x4)]) hx hb dX8_copies_22 hl (k := 5) rfl rfl (by decide) rfl (fun ls hl => ?_)
        refine lv_goto (tgt := 3) hx hb dX8_copies_25 (by decide) ?_
        exact ih f4 (y5 + 1) _ _ _ hw (lv_sub hl [1, 2, 3, 4, 5, 0] rfl) h
  unfold fX8_copies at h
  refine lv_iconst (v := 0) hx hb dX8_copies_0 (by decide) ?_
  refine lv_istore (lv' := [(5, .int 0), (0, .ref (ad a0)), (1, .int x1), (2, .ref (ad a2)), (3, .int x3), (4, .int x4)]) hx hb dX8_copies_1 hl (by decide) rfl (fun ls hl => ?_)
  exact J3 _ f 0 _ _ _ hw (lv_sub hl [1, 2, 3, 4, 5, 0] rfl) h

theorem hnX8_settles_X8 : ∀ w ∈ wsX80, w ∈ wsX8_settles := by decide +kernel
theorem hkX8_settles_16 : Cond.fieldLink RX8 16 (TX8 5).1 (TX8 5).2.1 (TX8 5).2.2.1 ∈ wsX8_settles := by decide +kernel
theorem hkX8_settles_37 : Cond.fieldLink RX8 37 (TX8 18).1 (TX8 18).2.1 (TX8 18).2.2.1 ∈ wsX8_settles := by decide +kernel
theorem hkX8_settles_80 : Cond.fieldLink RX8 80 (TX8 0).1 (TX8 0).2.1 (TX8 0).2.2.1 ∈ wsX8_settles := by decide +kernel
theorem hkX8_settles_137 : Cond.fieldLink RX8 137 (TX8 6).1 (TX8 6).2.1 (TX8 6).2.2.1 ∈ wsX8_settles := by decide +kernel
theorem hkX8_settles_140 : Cond.fieldLink RX8 140 (TX8 8).1 (TX8 8).2.1 (TX8 8).2.2.1 ∈ wsX8_settles := by decide +kernel
theorem hkX8_settles_143 : Cond.fieldLink RX8 143 (TX8 10).1 (TX8 10).2.1 (TX8 10).2.2.1 ∈ wsX8_settles := by decide +kernel
theorem hkX8_settles_74 : Cond.fieldLink RX8 74 (TX8 16).1 (TX8 16).2.1 (TX8 16).2.2.1 ∈ wsX8_settles := by decide +kernel
theorem hkX8_settles_77 : Cond.fieldLink RX8 77 (TX8 19).1 (TX8 19).2.1 (TX8 19).2.2.1 ∈ wsX8_settles := by decide +kernel
theorem hkX8_settles_87 : Cond.fieldLink RX8 87 (TX8 2).1 (TX8 2).2.1 (TX8 2).2.2.1 ∈ wsX8_settles := by decide +kernel
theorem hkX8_settles_67 : Cond.fieldLink RX8 67 (TX8 21).1 (TX8 21).2.1 (TX8 21).2.2.1 ∈ wsX8_settles := by decide +kernel
theorem hkX8_settles_130 : Cond.fieldLink RX8 130 (TX8 4).1 (TX8 4).2.1 (TX8 4).2.2.1 ∈ wsX8_settles := by decide +kernel
theorem hkX8_settles_7 : Cond.fieldLink RX8 7 (TX8 1).1 (TX8 1).2.1 (TX8 1).2.2.1 ∈ wsX8_settles := by decide +kernel
theorem hkX8_settles_34 : Cond.fieldLink RX8 34 (TX8 17).1 (TX8 17).2.1 (TX8 17).2.2.1 ∈ wsX8_settles := by decide +kernel
theorem hkX8_settles_13 : Cond.fieldLink RX8 13 (TX8 3).1 (TX8 3).2.1 (TX8 3).2.2.1 ∈ wsX8_settles := by decide +kernel
theorem hkX8_settles_40 : Cond.fieldLink RX8 40 (TX8 20).1 (TX8 20).2.1 (TX8 20).2.2.1 ∈ wsX8_settles := by decide +kernel
set_option maxHeartbeats 8000000 in
set_option maxRecDepth 100000 in
theorem mX8_settles (l : Launch) (D : va_G) (ac : Nat → ClassId) (ad : Nat → Nat) (S : List hSh) (f : hF) (gv : hF) (hS : isMo S) (h : fX8_settles f = some gv) : Met l yX8_settles wsX8_settles ({ frames := 1, cells := 0, slots := 0, locals := 25 }) (hPc D ac ad S f [.ref (ad 146)]) (hQv D ac ad S gv) 0 0 (hAd ad S.length) := by
  refine h_enter (C := RX8) (cc := cX8_settles) (maxL := 2) (ret := none) (lv := [(0, .ref (ad 146))]) (by decide) rfl rfl (Nat.le_of_ble_eq_true rfl) rfl (fun p e s m below meth c ls hx hb hml hr hlocks hown hts hK hw hl => ?_)
  have J56 : ∀ (n : Nat), (∀ (f : hF) (y1 : Int32) (H : Heap) (locs : List Loc) (ls : Array Slot), hOk D ac ad S (hAd ad S.length) s.heap f H locs → lv_has ls 2 [(0, .ref (ad 146)), (1, .int y1)] → fX8_settles_56 n f y1 = some gv → W p l e ({ frames := 1, cells := 0, slots := 0, locals := 25 } : Room) s m ([.ref (ad 146)] : List Value).toArray below meth c H locs 0 0 (MQ below (hQv D ac ad S gv) ([.ref (ad 146)] : List Value).toArray s 0 0 (hAd ad S.length)) (F0 m 56 ls [])) := by
    intro n
    induction n with
    | zero =>
      intro f y1 H locs ls hw hl h
      rw [fX8_settles_56] at h
      cases h
    | succ n ih =>
      intro f y1 H locs ls hw hl h
      rw [fX8_settles_56] at h
      refine lv_iload_n hx hb dX8_settles_56 rfl (lv_at hl 1 rfl) ?_
      refine lv_bipush (v := 111) hx hb dX8_settles_57 (by decide) ?_
      refine lv_icmp_ge (tgt := 75) hx hb dX8_settles_59 (by decide) (fun hc1 => ?_) (fun hc1 => ?_)
      · have h := it hc1 h
        refine lv_aload_n hx hb dX8_settles_75 rfl (lv_at hl 0 rfl) ?_
        refine h_getR hx hb hts hnX8_settles_X8 hown hK hw hS.1 rfl 5 (by decide) rfl hkX8_settles_16 dX8_settles_76 ?_
        refine lv_iconst (v := 1) hx hb dX8_settles_79 (by decide) ?_
        refine lv_aload_n hx hb dX8_settles_80 rfl (lv_at hl 0 rfl) ?_
        refine h_getR hx hb hts hnX8_settles_X8 hown hK hw hS.1 rfl 18 (by decide) rfl hkX8_settles_37 dX8_settles_81 ?_
        refine lv_iconst (v := 0) hx hb dX8_settles_84 (by decide) ?_
        refine lv_aload_n hx hb dX8_settles_85 rfl (lv_at hl 0 rfl) ?_
        refine h_getI hx hb hts hnX8_settles_X8 hown hK hw hS.1 rfl 0 (by decide) rfl hkX8_settles_80 dX8_settles_86 ?_
        obtain ⟨f2, ef2, h⟩ := b1_s h
        refine h_callV hw (va_runS (As := [.ref (ad 149), .int 1, .ref (ad 156), .int 0, .int (f 146 0)]) (rest := []) ⟨hx, hb, hml, hown, hts⟩ (mX8_copies l D ac ad S 149 111 156 8 f (1 : Int32) (0 : Int32) (f 146 0) f2 hS.2.2.2.1 hS.2.2.2.2.2.2.2.2.2.2.1 ef2) (va_cwS 5 hts gX8_settles_X8_copies rfl rfl rfl (by decide +kernel) ⟨Nat.le_of_ble_eq_true rfl, Nat.le_of_ble_eq_true rfl⟩) (h_preS hK hw _) rfl rfl hl.1 rfl (lv_room (Nat.le_of_ble_eq_true rfl)) dX8_settles_89 ⟨Nat.le_of_ble_eq_true rfl, Nat.le_of_ble_eq_true rfl⟩) (fun H locs hw => ?_)
        refine lv_aload_n hx hb dX8_settles_92 rfl (lv_at hl 0 rfl) ?_
        refine lv_iconst (v := 0) hx hb dX8_settles_93 (by decide) ?_
        obtain ⟨f3, ef3, h⟩ := lt_s2 h
        refine h_putI (g := f3) ef3 hx hb hts hnX8_settles_X8 tyX8 tyX8_ok nmX8 hown hK hw hS.1 rfl 6 rfl (by decide) rfl hkX8_settles_137 rfl (by decide +kernel) dX8_settles_94 (fun H locs hw => ?_)
        refine lv_aload_n hx hb dX8_settles_97 rfl (lv_at hl 0 rfl) ?_
        refine lv_iconst (v := 0) hx hb dX8_settles_98 (by decide) ?_
        obtain ⟨f4, ef4, h⟩ := lt_s2 h
        refine h_putI (g := f4) ef4 hx hb hts hnX8_settles_X8 tyX8 tyX8_ok nmX8 hown hK hw hS.1 rfl 8 rfl (by decide) rfl hkX8_settles_140 rfl (by decide +kernel) dX8_settles_99 (fun H locs hw => ?_)
        refine lv_aload_n hx hb dX8_settles_102 rfl (lv_at hl 0 rfl) ?_
        refine lv_iconst (v := 0) hx hb dX8_settles_103 (by decide) ?_
        obtain ⟨f5, ef5, h⟩ := lt_s2 h
        refine h_putI (g := f5) ef5 hx hb hts hnX8_settles_X8 tyX8 tyX8_ok nmX8 hown hK hw hS.1 rfl 10 rfl (by decide) rfl hkX8_settles_143 rfl (by decide +kernel) dX8_settles_104 (fun H locs hw => ?_)
        exact h_retV hx hb hr hlocks hw (so1 h) dX8_settles_107
      · have h := ie hc1 h
        refine lv_aload_n hx hb dX8_settles_62 rfl (lv_at hl 0 rfl) ?_
        refine h_getR hx hb hts hnX8_settles_X8 hown hK hw hS.1 rfl 5 (by decide) rfl hkX8_settles_16 dX8_settles_63 ?_
        refine lv_iload_n hx hb dX8_settles_66 rfl (lv_at hl 1 rfl) ?_
        refine lv_iconst (v := 0) hx hb dX8_settles_67 (by decide) ?_
        obtain ⟨hi6, h⟩ := gd_s h
        obtain ⟨f7, ef7, h⟩ := lt_s2 h
        refine h_iast (g := f7) ef7 hx hb hK hw hS.2.2.2.1 hi6 dX8_settles_68 (fun H locs hw => ?_)
        refine lv_iinc (v := (y1 + 1)) (lv' := [(1, .int (y1 + 1)), (0, .ref (ad 146))]) hx hb dX8_settles_69 hl (k := 1) rfl rfl (by decide) rfl (fun ls hl => ?_)
        refine lv_goto (tgt := 56) hx hb dX8_settles_72 (by decide) ?_
        exact ih f7 (y1 + 1) _ _ _ hw (lv_sub hl [1, 0] rfl) h
  unfold fX8_settles at h
  refine lv_aload_n hx hb dX8_settles_0 rfl (lv_at hl 0 rfl) ?_
  refine lv_aload_n hx hb dX8_settles_1 rfl (lv_at hl 0 rfl) ?_
  refine h_getI hx hb hts hnX8_settles_X8 hown hK hw hS.1 rfl 16 (by decide) rfl hkX8_settles_74 dX8_settles_2 ?_
  obtain ⟨f1, ef1, h⟩ := lt_s2 h
  refine h_putI (g := f1) ef1 hx hb hts hnX8_settles_X8 tyX8 tyX8_ok nmX8 hown hK hw hS.1 rfl 0 rfl (by decide) rfl hkX8_settles_80 rfl (by decide +kernel) dX8_settles_5 (fun H locs hw => ?_)
  refine lv_aload_n hx hb dX8_settles_8 rfl (lv_at hl 0 rfl) ?_
  refine lv_aload_n hx hb dX8_settles_9 rfl (lv_at hl 0 rfl) ?_
  refine h_getI hx hb hts hnX8_settles_X8 hown hK hw hS.1 rfl 19 (by decide) rfl hkX8_settles_77 dX8_settles_10 ?_
  obtain ⟨f2, ef2, h⟩ := lt_s2 h
  refine h_putI (g := f2) ef2 hx hb hts hnX8_settles_X8 tyX8 tyX8_ok nmX8 hown hK hw hS.1 rfl 2 rfl (by decide) rfl hkX8_settles_87 rfl (by decide +kernel) dX8_settles_13 (fun H locs hw => ?_)
  refine lv_aload_n hx hb dX8_settles_16 rfl (lv_at hl 0 rfl) ?_
  refine lv_aload_n hx hb dX8_settles_17 rfl (lv_at hl 0 rfl) ?_
  refine h_getI hx hb hts hnX8_settles_X8 hown hK hw hS.1 rfl 21 (by decide) rfl hkX8_settles_67 dX8_settles_18 ?_
  obtain ⟨f3, ef3, h⟩ := lt_s2 h
  refine h_putI (g := f3) ef3 hx hb hts hnX8_settles_X8 tyX8 tyX8_ok nmX8 hown hK hw hS.1 rfl 4 rfl (by decide) rfl hkX8_settles_130 rfl (by decide +kernel) dX8_settles_21 (fun H locs hw => ?_)
  refine lv_aload_n hx hb dX8_settles_24 rfl (lv_at hl 0 rfl) ?_
  refine h_getR hx hb hts hnX8_settles_X8 hown hK hw hS.1 rfl 1 (by decide) rfl hkX8_settles_7 dX8_settles_25 ?_
  refine lv_iconst (v := 0) hx hb dX8_settles_28 (by decide) ?_
  refine lv_aload_n hx hb dX8_settles_29 rfl (lv_at hl 0 rfl) ?_
  refine h_getR hx hb hts hnX8_settles_X8 hown hK hw hS.1 rfl 17 (by decide) rfl hkX8_settles_34 dX8_settles_30 ?_
  refine lv_iconst (v := 0) hx hb dX8_settles_33 (by decide) ?_
  refine lv_bipush (v := 24) hx hb dX8_settles_34 (by decide) ?_
  obtain ⟨f4, ef4, h⟩ := b1_s h
  refine h_callV hw (va_runS (As := [.ref (ad 147), .int 0, .ref (ad 155), .int 0, .int 24]) (rest := []) ⟨hx, hb, hml, hown, hts⟩ (mX8_copies l D ac ad S 147 24 155 24 f3 (0 : Int32) (0 : Int32) (24 : Int32) f4 hS.2.1 hS.2.2.2.2.2.2.2.2.2.1 ef4) (va_cwS 5 hts gX8_settles_X8_copies rfl rfl rfl (by decide +kernel) ⟨Nat.le_of_ble_eq_true rfl, Nat.le_of_ble_eq_true rfl⟩) (h_preS hK hw _) rfl rfl hl.1 rfl (lv_room (Nat.le_of_ble_eq_true rfl)) dX8_settles_36 ⟨Nat.le_of_ble_eq_true rfl, Nat.le_of_ble_eq_true rfl⟩) (fun H locs hw => ?_)
  refine lv_aload_n hx hb dX8_settles_39 rfl (lv_at hl 0 rfl) ?_
  refine h_getR hx hb hts hnX8_settles_X8 hown hK hw hS.1 rfl 3 (by decide) rfl hkX8_settles_13 dX8_settles_40 ?_
  refine lv_iconst (v := 0) hx hb dX8_settles_43 (by decide) ?_
  refine lv_aload_n hx hb dX8_settles_44 rfl (lv_at hl 0 rfl) ?_
  refine h_getR hx hb hts hnX8_settles_X8 hown hK hw hS.1 rfl 20 (by decide) rfl hkX8_settles_40 dX8_settles_45 ?_
  refine lv_iconst (v := 0) hx hb dX8_settles_48 (by decide) ?_
  refine lv_bipush (v := 6) hx hb dX8_settles_49 (by decide) ?_
  obtain ⟨f5, ef5, h⟩ := b1_s h
  refine h_callV hw (va_runS (As := [.ref (ad 148), .int 0, .ref (ad 157), .int 0, .int 6]) (rest := []) ⟨hx, hb, hml, hown, hts⟩ (mX8_copies l D ac ad S 148 6 157 6 f4 (0 : Int32) (0 : Int32) (6 : Int32) f5 hS.2.2.1 hS.2.2.2.2.2.2.2.2.2.2.2.1 ef5) (va_cwS 5 hts gX8_settles_X8_copies rfl rfl rfl (by decide +kernel) ⟨Nat.le_of_ble_eq_true rfl, Nat.le_of_ble_eq_true rfl⟩) (h_preS hK hw _) rfl rfl hl.1 rfl (lv_room (Nat.le_of_ble_eq_true rfl)) dX8_settles_51 ⟨Nat.le_of_ble_eq_true rfl, Nat.le_of_ble_eq_true rfl⟩) (fun H locs hw => ?_)
  refine lv_iconst (v := 0) hx hb dX8_settles_54 (by decide) ?_
  refine lv_istore_n (lv' := [(1, .int 0), (0, .ref (ad 146))]) hx hb dX8_settles_55 rfl hl (by decide) rfl (fun ls hl => ?_)
  exact J56 _ f5 0 _ _ _ hw (lv_sub hl [1, 0] rfl) h

theorem hnX8_lay_X8 : ∀ w ∈ wsX80, w ∈ wsX8_lay := by decide +kernel
theorem hkX8_lay_74 : Cond.fieldLink RX8 74 (TX8 16).1 (TX8 16).2.1 (TX8 16).2.2.1 ∈ wsX8_lay := by decide +kernel
theorem hkX8_lay_77 : Cond.fieldLink RX8 77 (TX8 19).1 (TX8 19).2.1 (TX8 19).2.2.1 ∈ wsX8_lay := by decide +kernel
theorem hkX8_lay_80 : Cond.fieldLink RX8 80 (TX8 0).1 (TX8 0).2.1 (TX8 0).2.2.1 ∈ wsX8_lay := by decide +kernel
set_option maxHeartbeats 8000000 in
set_option maxRecDepth 100000 in
theorem mX8_lay (l : Launch) (D : va_G) (ac : Nat → ClassId) (ad : Nat → Nat) (S : List hSh) (f : hF) (rv : Int32) (gv : hF) (hS : isMo S) (h : fX8_lay f = some (rv, gv)) : Met l yX8_lay wsX8_lay ({ frames := 6, cells := 0, slots := 0, locals := 127 }) (hPc D ac ad S f [.ref (ad 146)]) (hQi D ac ad S rv gv) 0 0 (hAd ad S.length) := by
  refine h_enter (C := RX8) (cc := cX8_lay) (maxL := 1) (ret := (some .int)) (lv := [(0, .ref (ad 146))]) (by decide) rfl rfl (Nat.le_of_ble_eq_true rfl) rfl (fun p e s m below meth c ls hx hb hml hr hlocks hown hts hK hw hl => ?_)
  unfold fX8_lay at h
  refine lv_aload_n hx hb dX8_lay_0 rfl (lv_at hl 0 rfl) ?_
  obtain ⟨r1, f2, ef2, h⟩ := b2_s h
  refine h_callQ hw (va_runV (As := []) (rest := []) ⟨hx, hb, hml, hown, hts⟩ (mX8_fault l D ac ad S f r1 f2 hS ef2) (cwV 0 hts gX8_lay_X8_fault rfl rfl rfl (by decide +kernel) ⟨Nat.le_of_ble_eq_true rfl, Nat.le_of_ble_eq_true rfl⟩) (h_preV hK hw hS.1 rfl _) rfl rfl hl.1 rfl (lv_room (Nat.le_of_ble_eq_true rfl)) dX8_lay_1 ⟨Nat.le_of_ble_eq_true rfl, Nat.le_of_ble_eq_true rfl⟩) (fun H locs hw => ?_)
  refine lv_bipush (v := (-4)) hx hb dX8_lay_4 (by decide) ?_
  refine lv_icmp_ne (tgt := 23) hx hb dX8_lay_6 (by decide) (fun hc3 => ?_) (fun hc3 => ?_)
  · have h := ie hc3 h
    refine lv_bipush (v := (-2)) hx hb dX8_lay_23 (by decide) ?_
    exact h_retQ hx hb hr hlocks hw rfl (so2 h) dX8_lay_25
  · have h := it hc3 h
    refine lv_aload_n hx hb dX8_lay_9 rfl (lv_at hl 0 rfl) ?_
    refine h_getI hx hb hts hnX8_lay_X8 hown hK hw hS.1 rfl 16 (by decide) rfl hkX8_lay_74 dX8_lay_10 ?_
    refine lv_if_eq (tgt := 23) hx hb dX8_lay_13 (by decide) (fun hc4 => ?_) (fun hc4 => ?_)
    · have h := it hc4 h
      refine lv_bipush (v := (-2)) hx hb dX8_lay_23 (by decide) ?_
      exact h_retQ hx hb hr hlocks hw rfl (so2 h) dX8_lay_25
    · have h := ie hc4 h
      refine lv_aload_n hx hb dX8_lay_16 rfl (lv_at hl 0 rfl) ?_
      refine h_getI hx hb hts hnX8_lay_X8 hown hK hw hS.1 rfl 19 (by decide) rfl hkX8_lay_77 dX8_lay_17 ?_
      refine lv_if_ne (tgt := 26) hx hb dX8_lay_20 (by decide) (fun hc5 => ?_) (fun hc5 => ?_)
      · have h := ie hc5 h
        refine lv_aload_n hx hb dX8_lay_26 rfl (lv_at hl 0 rfl) ?_
        obtain ⟨f6, ef6, h⟩ := b1_s h
        refine h_callV hw (va_runV (As := []) (rest := []) ⟨hx, hb, hml, hown, hts⟩ (mX8_settles l D ac ad S f2 f6 hS ef6) (cwV 0 hts gX8_lay_X8_settles rfl rfl rfl (by decide +kernel) ⟨Nat.le_of_ble_eq_true rfl, Nat.le_of_ble_eq_true rfl⟩) (h_preV hK hw hS.1 rfl _) rfl rfl hl.1 rfl (lv_room (Nat.le_of_ble_eq_true rfl)) dX8_lay_27 ⟨Nat.le_of_ble_eq_true rfl, Nat.le_of_ble_eq_true rfl⟩) (fun H locs hw => ?_)
        refine lv_aload_n hx hb dX8_lay_30 rfl (lv_at hl 0 rfl) ?_
        refine h_getI hx hb hts hnX8_lay_X8 hown hK hw hS.1 rfl 0 (by decide) rfl hkX8_lay_80 dX8_lay_31 ?_
        exact h_retQ hx hb hr hlocks hw rfl (so2 h) dX8_lay_34
      · have h := it hc5 h
        refine lv_bipush (v := (-2)) hx hb dX8_lay_23 (by decide) ?_
        exact h_retQ hx hb hr hlocks hw rfl (so2 h) dX8_lay_25

theorem hnX8_asItIs_X8 : ∀ w ∈ wsX80, w ∈ wsX8_asItIs := by decide +kernel
theorem hkX8_asItIs_43 : Cond.fieldLink RX8 43 (TX8 22).1 (TX8 22).2.1 (TX8 22).2.2.1 ∈ wsX8_asItIs := by decide +kernel
theorem hkX8_asItIs_16 : Cond.fieldLink RX8 16 (TX8 5).1 (TX8 5).2.1 (TX8 5).2.2.1 ∈ wsX8_asItIs := by decide +kernel
set_option maxHeartbeats 8000000 in
set_option maxRecDepth 100000 in
theorem mX8_asItIs (l : Launch) (D : va_G) (ac : Nat → ClassId) (ad : Nat → Nat) (S : List hSh) (f : hF) (gv : hF) (hS : isMo S) (h : fX8_asItIs f = some gv) : Met l yX8_asItIs wsX8_asItIs ({ frames := 1, cells := 0, slots := 0, locals := 25 }) (hPc D ac ad S f [.ref (ad 146)]) (hQv D ac ad S gv) 0 0 (hAd ad S.length) := by
  refine h_enter (C := RX8) (cc := cX8_asItIs) (maxL := 1) (ret := none) (lv := [(0, .ref (ad 146))]) (by decide) rfl rfl (Nat.le_of_ble_eq_true rfl) rfl (fun p e s m below meth c ls hx hb hml hr hlocks hown hts hK hw hl => ?_)
  unfold fX8_asItIs at h
  refine lv_aload_n hx hb dX8_asItIs_0 rfl (lv_at hl 0 rfl) ?_
  refine h_getR hx hb hts hnX8_asItIs_X8 hown hK hw hS.1 rfl 22 (by decide) rfl hkX8_asItIs_43 dX8_asItIs_1 ?_
  refine lv_iconst (v := 0) hx hb dX8_asItIs_4 (by decide) ?_
  refine lv_aload_n hx hb dX8_asItIs_5 rfl (lv_at hl 0 rfl) ?_
  refine h_getR hx hb hts hnX8_asItIs_X8 hown hK hw hS.1 rfl 5 (by decide) rfl hkX8_asItIs_16 dX8_asItIs_6 ?_
  refine lv_iconst (v := 0) hx hb dX8_asItIs_9 (by decide) ?_
  refine lv_bipush (v := 111) hx hb dX8_asItIs_10 (by decide) ?_
  obtain ⟨f1, ef1, h⟩ := b1_s h
  refine h_callV hw (va_runS (As := [.ref (ad 158), .int 0, .ref (ad 149), .int 0, .int 111]) (rest := []) ⟨hx, hb, hml, hown, hts⟩ (mX8_copies l D ac ad S 158 111 149 111 f (0 : Int32) (0 : Int32) (111 : Int32) f1 hS.2.2.2.2.2.2.2.2.2.2.2.2.1 hS.2.2.2.1 ef1) (va_cwS 5 hts gX8_asItIs_X8_copies rfl rfl rfl (by decide +kernel) ⟨Nat.le_of_ble_eq_true rfl, Nat.le_of_ble_eq_true rfl⟩) (h_preS hK hw _) rfl rfl hl.1 rfl (lv_room (Nat.le_of_ble_eq_true rfl)) dX8_asItIs_12 ⟨Nat.le_of_ble_eq_true rfl, Nat.le_of_ble_eq_true rfl⟩) (fun H locs hw => ?_)
  exact h_retV hx hb hr hlocks hw (so1 h) dX8_asItIs_15

theorem hnX8_begun_X8 : ∀ w ∈ wsX80, w ∈ wsX8_begun := by decide +kernel
theorem hkX8_begun_43 : Cond.fieldLink RX8 43 (TX8 22).1 (TX8 22).2.1 (TX8 22).2.2.1 ∈ wsX8_begun := by decide +kernel
set_option maxHeartbeats 8000000 in
set_option maxRecDepth 100000 in
theorem mX8_begun (l : Launch) (D : va_G) (ac : Nat → ClassId) (ad : Nat → Nat) (S : List hSh) (f : hF) (x1 : Int32) (rv : Int32) (hS : isMo S) (h : fX8_begun f x1 = some rv) : Met l yX8_begun wsX8_begun ({ frames := 0, cells := 0, slots := 0, locals := 0 }) (hPc D ac ad S f [.ref (ad 146), .int x1]) (hRi rv) 0 0 hNo := by
  refine h_enter (C := RX8) (cc := cX8_begun) (maxL := 2) (ret := (some .int)) (lv := [(0, .ref (ad 146)), (1, .int x1)]) (by decide) rfl rfl (Nat.le_of_ble_eq_true rfl) rfl (fun p e s m below meth c ls hx hb hml hr hlocks hown hts hK hw hl => ?_)
  unfold fX8_begun at h
  refine lv_aload_n hx hb dX8_begun_0 rfl (lv_at hl 0 rfl) ?_
  refine h_getR hx hb hts hnX8_begun_X8 hown hK hw hS.1 rfl 22 (by decide) rfl hkX8_begun_43 dX8_begun_1 ?_
  refine lv_bipush (v := 15) hx hb dX8_begun_4 (by decide) ?_
  refine lv_iconst (v := 4) hx hb dX8_begun_6 (by decide) ?_
  refine lv_iload_n hx hb dX8_begun_7 rfl (lv_at hl 1 rfl) ?_
  refine lv_imul hx hb dX8_begun_8 ?_
  refine lv_iadd hx hb dX8_begun_9 ?_
  obtain ⟨hi1, h⟩ := gd_s h
  refine h_iald hx hb hK hw hS.2.2.2.2.2.2.2.2.2.2.2.2.1 hi1 dX8_begun_10 ?_
  exact h_retR hx hb hr hlocks rfl (so1 h) dX8_begun_11

theorem hnX8_manOf_X8 : ∀ w ∈ wsX80, w ∈ wsX8_manOf := by decide +kernel
theorem hkX8_manOf_43 : Cond.fieldLink RX8 43 (TX8 22).1 (TX8 22).2.1 (TX8 22).2.2.1 ∈ wsX8_manOf := by decide +kernel
set_option maxHeartbeats 8000000 in
set_option maxRecDepth 100000 in
theorem mX8_manOf (l : Launch) (D : va_G) (ac : Nat → ClassId) (ad : Nat → Nat) (S : List hSh) (f : hF) (x1 : Int32) (rv : Int32) (hS : isMo S) (h : fX8_manOf f x1 = some rv) : Met l yX8_manOf wsX8_manOf ({ frames := 0, cells := 0, slots := 0, locals := 0 }) (hPc D ac ad S f [.ref (ad 146), .int x1]) (hRi rv) 0 0 hNo := by
  refine h_enter (C := RX8) (cc := cX8_manOf) (maxL := 2) (ret := (some .int)) (lv := [(0, .ref (ad 146)), (1, .int x1)]) (by decide) rfl rfl (Nat.le_of_ble_eq_true rfl) rfl (fun p e s m below meth c ls hx hb hml hr hlocks hown hts hK hw hl => ?_)
  unfold fX8_manOf at h
  refine lv_aload_n hx hb dX8_manOf_0 rfl (lv_at hl 0 rfl) ?_
  refine h_getR hx hb hts hnX8_manOf_X8 hown hK hw hS.1 rfl 22 (by decide) rfl hkX8_manOf_43 dX8_manOf_1 ?_
  refine lv_bipush (v := 15) hx hb dX8_manOf_4 (by decide) ?_
  refine lv_iconst (v := 4) hx hb dX8_manOf_6 (by decide) ?_
  refine lv_iload_n hx hb dX8_manOf_7 rfl (lv_at hl 1 rfl) ?_
  refine lv_imul hx hb dX8_manOf_8 ?_
  refine lv_iadd hx hb dX8_manOf_9 ?_
  refine lv_iconst (v := 1) hx hb dX8_manOf_10 (by decide) ?_
  refine lv_iadd hx hb dX8_manOf_11 ?_
  obtain ⟨hi1, h⟩ := gd_s h
  refine h_iald hx hb hK hw hS.2.2.2.2.2.2.2.2.2.2.2.2.1 hi1 dX8_manOf_12 ?_
  exact h_retR hx hb hr hlocks rfl (so1 h) dX8_manOf_13

theorem hnX8_womanOf_X8 : ∀ w ∈ wsX80, w ∈ wsX8_womanOf := by decide +kernel
theorem hkX8_womanOf_43 : Cond.fieldLink RX8 43 (TX8 22).1 (TX8 22).2.1 (TX8 22).2.2.1 ∈ wsX8_womanOf := by decide +kernel
set_option maxHeartbeats 8000000 in
set_option maxRecDepth 100000 in
theorem mX8_womanOf (l : Launch) (D : va_G) (ac : Nat → ClassId) (ad : Nat → Nat) (S : List hSh) (f : hF) (x1 : Int32) (rv : Int32) (hS : isMo S) (h : fX8_womanOf f x1 = some rv) : Met l yX8_womanOf wsX8_womanOf ({ frames := 0, cells := 0, slots := 0, locals := 0 }) (hPc D ac ad S f [.ref (ad 146), .int x1]) (hRi rv) 0 0 hNo := by
  refine h_enter (C := RX8) (cc := cX8_womanOf) (maxL := 2) (ret := (some .int)) (lv := [(0, .ref (ad 146)), (1, .int x1)]) (by decide) rfl rfl (Nat.le_of_ble_eq_true rfl) rfl (fun p e s m below meth c ls hx hb hml hr hlocks hown hts hK hw hl => ?_)
  unfold fX8_womanOf at h
  refine lv_aload_n hx hb dX8_womanOf_0 rfl (lv_at hl 0 rfl) ?_
  refine h_getR hx hb hts hnX8_womanOf_X8 hown hK hw hS.1 rfl 22 (by decide) rfl hkX8_womanOf_43 dX8_womanOf_1 ?_
  refine lv_bipush (v := 15) hx hb dX8_womanOf_4 (by decide) ?_
  refine lv_iconst (v := 4) hx hb dX8_womanOf_6 (by decide) ?_
  refine lv_iload_n hx hb dX8_womanOf_7 rfl (lv_at hl 1 rfl) ?_
  refine lv_imul hx hb dX8_womanOf_8 ?_
  refine lv_iadd hx hb dX8_womanOf_9 ?_
  refine lv_iconst (v := 2) hx hb dX8_womanOf_10 (by decide) ?_
  refine lv_iadd hx hb dX8_womanOf_11 ?_
  obtain ⟨hi1, h⟩ := gd_s h
  refine h_iald hx hb hK hw hS.2.2.2.2.2.2.2.2.2.2.2.2.1 hi1 dX8_womanOf_12 ?_
  exact h_retR hx hb hr hlocks rfl (so1 h) dX8_womanOf_13

theorem hnX8_isThere_X8 : ∀ w ∈ wsX80, w ∈ wsX8_isThere := by decide +kernel
theorem hkX8_isThere_43 : Cond.fieldLink RX8 43 (TX8 22).1 (TX8 22).2.1 (TX8 22).2.2.1 ∈ wsX8_isThere := by decide +kernel
set_option maxHeartbeats 8000000 in
set_option maxRecDepth 100000 in
theorem mX8_isThere (l : Launch) (D : va_G) (ac : Nat → ClassId) (ad : Nat → Nat) (S : List hSh) (f : hF) (x1 : Int32) (rv : Int32) (hS : isMo S) (h : fX8_isThere f x1 = some rv) : Met l yX8_isThere wsX8_isThere ({ frames := 0, cells := 0, slots := 0, locals := 0 }) (hPc D ac ad S f [.ref (ad 146), .int x1]) (hRi rv) 0 0 hNo := by
  refine h_enter (C := RX8) (cc := cX8_isThere) (maxL := 2) (ret := (some .boolean)) (lv := [(0, .ref (ad 146)), (1, .int x1)]) (by decide) rfl rfl (Nat.le_of_ble_eq_true rfl) rfl (fun p e s m below meth c ls hx hb hml hr hlocks hown hts hK hw hl => ?_)
  unfold fX8_isThere at h
  refine lv_iload_n hx hb dX8_isThere_0 rfl (lv_at hl 1 rfl) ?_
  refine lv_bipush (v := 8) hx hb dX8_isThere_1 (by decide) ?_
  refine lv_irem hx hb dX8_isThere_3 (by decide) ?_
  refine lv_aload_n hx hb dX8_isThere_4 rfl (lv_at hl 0 rfl) ?_
  refine h_getR hx hb hts hnX8_isThere_X8 hown hK hw hS.1 rfl 22 (by decide) rfl hkX8_isThere_43 dX8_isThere_5 ?_
  refine lv_bipush (v := 12) hx hb dX8_isThere_8 (by decide) ?_
  refine lv_iload_n hx hb dX8_isThere_10 rfl (lv_at hl 1 rfl) ?_
  refine lv_bipush (v := 8) hx hb dX8_isThere_11 (by decide) ?_
  refine lv_idiv hx hb dX8_isThere_13 (by decide) ?_
  refine lv_iadd hx hb dX8_isThere_14 ?_
  obtain ⟨hi1, h⟩ := gd_s h
  refine h_iald hx hb hK hw hS.2.2.2.2.2.2.2.2.2.2.2.2.1 hi1 dX8_isThere_15 ?_
  refine lv_icmp_ge (tgt := 23) hx hb dX8_isThere_16 (by decide) (fun hc2 => ?_) (fun hc2 => ?_)
  · have h := it hc2 h
    refine lv_iconst (v := 0) hx hb dX8_isThere_23 (by decide) ?_
    exact h_retR hx hb hr hlocks rfl (so1 h) dX8_isThere_24
  · have h := ie hc2 h
    refine lv_iconst (v := 1) hx hb dX8_isThere_19 (by decide) ?_
    refine lv_goto (tgt := 24) hx hb dX8_isThere_20 (by decide) ?_
    exact h_retR hx hb hr hlocks rfl (so1 h) dX8_isThere_24

set_option maxHeartbeats 8000000 in
set_option maxRecDepth 100000 in
theorem mX8_isOfTwo (l : Launch) (D : va_G) (ac : Nat → ClassId) (ad : Nat → Nat) (S : List hSh) (f : hF) (x1 : Int32) (rv : Int32) (hS : isMo S) (h : fX8_isOfTwo f x1 = some rv) : Met l yX8_isOfTwo wsX8_isOfTwo ({ frames := 1, cells := 0, slots := 0, locals := 21 }) (hPc D ac ad S f [.ref (ad 146), .int x1]) (hRi rv) 0 0 hNo := by
  refine h_enter (C := RX8) (cc := cX8_isOfTwo) (maxL := 2) (ret := (some .boolean)) (lv := [(0, .ref (ad 146)), (1, .int x1)]) (by decide) rfl rfl (Nat.le_of_ble_eq_true rfl) rfl (fun p e s m below meth c ls hx hb hml hr hlocks hown hts hK hw hl => ?_)
  unfold fX8_isOfTwo at h
  refine lv_aload_n hx hb dX8_isOfTwo_0 rfl (lv_at hl 0 rfl) ?_
  refine lv_iload_n hx hb dX8_isOfTwo_1 rfl (lv_at hl 1 rfl) ?_
  obtain ⟨r1, er1, h⟩ := b1_s h
  refine h_callR (va_runV (As := [.int x1]) (rest := []) ⟨hx, hb, hml, hown, hts⟩ (mX8_isThere l D ac ad S f x1 r1 hS er1) (cwV 1 hts gX8_isOfTwo_X8_isThere rfl rfl rfl (by decide +kernel) ⟨Nat.le_of_ble_eq_true rfl, Nat.le_of_ble_eq_true rfl⟩) (h_preV hK hw hS.1 rfl _) rfl rfl hl.1 rfl (lv_room (Nat.le_of_ble_eq_true rfl)) dX8_isOfTwo_2 ⟨Nat.le_of_ble_eq_true rfl, Nat.le_of_ble_eq_true rfl⟩) ?_
  refine lv_if_eq (tgt := 20) hx hb dX8_isOfTwo_5 (by decide) (fun hc2 => ?_) (fun hc2 => ?_)
  · have h := it hc2 h
    refine lv_iconst (v := 0) hx hb dX8_isOfTwo_20 (by decide) ?_
    exact h_retR hx hb hr hlocks rfl (so1 h) dX8_isOfTwo_21
  · have h := ie hc2 h
    refine lv_aload_n hx hb dX8_isOfTwo_8 rfl (lv_at hl 0 rfl) ?_
    refine lv_iload_n hx hb dX8_isOfTwo_9 rfl (lv_at hl 1 rfl) ?_
    obtain ⟨r3, er3, h⟩ := b1_s h
    refine h_callR (va_runV (As := [.int x1]) (rest := []) ⟨hx, hb, hml, hown, hts⟩ (mX8_manOf l D ac ad S f x1 r3 hS er3) (cwV 1 hts gX8_isOfTwo_X8_manOf rfl rfl rfl (by decide +kernel) ⟨Nat.le_of_ble_eq_true rfl, Nat.le_of_ble_eq_true rfl⟩) (h_preV hK hw hS.1 rfl _) rfl rfl hl.1 rfl (lv_room (Nat.le_of_ble_eq_true rfl)) dX8_isOfTwo_10 ⟨Nat.le_of_ble_eq_true rfl, Nat.le_of_ble_eq_true rfl⟩) ?_
    refine lv_if_lt (tgt := 20) hx hb dX8_isOfTwo_13 (by decide) (fun hc4 => ?_) (fun hc4 => ?_)
    · have h := it hc4 h
      refine lv_iconst (v := 0) hx hb dX8_isOfTwo_20 (by decide) ?_
      exact h_retR hx hb hr hlocks rfl (so1 h) dX8_isOfTwo_21
    · have h := ie hc4 h
      refine lv_iconst (v := 1) hx hb dX8_isOfTwo_16 (by decide) ?_
      refine lv_goto (tgt := 21) hx hb dX8_isOfTwo_17 (by decide) ?_
      exact h_retR hx hb hr hlocks rfl (so1 h) dX8_isOfTwo_21

set_option maxHeartbeats 8000000 in
set_option maxRecDepth 100000 in
theorem mX8_isBlank (l : Launch) (D : va_G) (ac : Nat → ClassId) (ad : Nat → Nat) (S : List hSh) (f : hF) (x1 : Int32) (rv : Int32) (hS : isMo S) (h : fX8_isBlank f x1 = some rv) : Met l yX8_isBlank wsX8_isBlank ({ frames := 1, cells := 0, slots := 0, locals := 21 }) (hPc D ac ad S f [.ref (ad 146), .int x1]) (hRi rv) 0 0 hNo := by
  refine h_enter (C := RX8) (cc := cX8_isBlank) (maxL := 2) (ret := (some .boolean)) (lv := [(0, .ref (ad 146)), (1, .int x1)]) (by decide) rfl rfl (Nat.le_of_ble_eq_true rfl) rfl (fun p e s m below meth c ls hx hb hml hr hlocks hown hts hK hw hl => ?_)
  unfold fX8_isBlank at h
  refine lv_aload_n hx hb dX8_isBlank_0 rfl (lv_at hl 0 rfl) ?_
  refine lv_iload_n hx hb dX8_isBlank_1 rfl (lv_at hl 1 rfl) ?_
  obtain ⟨r1, er1, h⟩ := b1_s h
  refine h_callR (va_runV (As := [.int x1]) (rest := []) ⟨hx, hb, hml, hown, hts⟩ (mX8_isThere l D ac ad S f x1 r1 hS er1) (cwV 1 hts gX8_isBlank_X8_isThere rfl rfl rfl (by decide +kernel) ⟨Nat.le_of_ble_eq_true rfl, Nat.le_of_ble_eq_true rfl⟩) (h_preV hK hw hS.1 rfl _) rfl rfl hl.1 rfl (lv_room (Nat.le_of_ble_eq_true rfl)) dX8_isBlank_2 ⟨Nat.le_of_ble_eq_true rfl, Nat.le_of_ble_eq_true rfl⟩) ?_
  refine lv_if_eq (tgt := 21) hx hb dX8_isBlank_5 (by decide) (fun hc2 => ?_) (fun hc2 => ?_)
  · have h := it hc2 h
    refine lv_iconst (v := 0) hx hb dX8_isBlank_21 (by decide) ?_
    exact h_retR hx hb hr hlocks rfl (so1 h) dX8_isBlank_22
  · have h := ie hc2 h
    refine lv_aload_n hx hb dX8_isBlank_8 rfl (lv_at hl 0 rfl) ?_
    refine lv_iload_n hx hb dX8_isBlank_9 rfl (lv_at hl 1 rfl) ?_
    obtain ⟨r3, er3, h⟩ := b1_s h
    refine h_callR (va_runV (As := [.int x1]) (rest := []) ⟨hx, hb, hml, hown, hts⟩ (mX8_manOf l D ac ad S f x1 r3 hS er3) (cwV 1 hts gX8_isBlank_X8_manOf rfl rfl rfl (by decide +kernel) ⟨Nat.le_of_ble_eq_true rfl, Nat.le_of_ble_eq_true rfl⟩) (h_preV hK hw hS.1 rfl _) rfl rfl hl.1 rfl (lv_room (Nat.le_of_ble_eq_true rfl)) dX8_isBlank_10 ⟨Nat.le_of_ble_eq_true rfl, Nat.le_of_ble_eq_true rfl⟩) ?_
    refine lv_iconst (v := (-1)) hx hb dX8_isBlank_13 (by decide) ?_
    refine lv_icmp_ne (tgt := 21) hx hb dX8_isBlank_14 (by decide) (fun hc4 => ?_) (fun hc4 => ?_)
    · have h := ie hc4 h
      refine lv_iconst (v := 0) hx hb dX8_isBlank_21 (by decide) ?_
      exact h_retR hx hb hr hlocks rfl (so1 h) dX8_isBlank_22
    · have h := it hc4 h
      refine lv_iconst (v := 1) hx hb dX8_isBlank_17 (by decide) ?_
      refine lv_goto (tgt := 22) hx hb dX8_isBlank_18 (by decide) ?_
      exact h_retR hx hb hr hlocks rfl (so1 h) dX8_isBlank_22
