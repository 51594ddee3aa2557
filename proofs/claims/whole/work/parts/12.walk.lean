/-! contracts: X7_person X3_isParson X0_blanksOf X7_parson X1_isHeld X2_isHeld X7_line X3_areTwo X3_canPair X2_isLaw X2_canPay X0_hasRoom X2_refuseWedding -/
theorem hnX7_person_X7 : ∀ w ∈ wsX70, w ∈ wsX7_person := by decide +kernel
theorem hkX7_person_19 : Cond.fieldLink RX7 19 (TX7 1).1 (TX7 1).2.1 (TX7 1).2.2.1 ∈ wsX7_person := by decide +kernel
theorem hnX7_person_X3 : ∀ w ∈ wsX30, w ∈ wsX7_person := by decide +kernel
theorem hkX7_person_97 : Cond.fieldLink RX7 97 (TX3 3).1 (TX3 3).2.1 (TX3 3).2.2.1 ∈ wsX7_person := by decide +kernel
theorem hkX7_person_101 : Cond.fieldLink RX7 101 (TX3 4).1 (TX3 4).2.1 (TX3 4).2.2.1 ∈ wsX7_person := by decide +kernel
theorem hkX7_person_105 : Cond.fieldLink RX7 105 (TX3 5).1 (TX3 5).2.1 (TX3 5).2.2.1 ∈ wsX7_person := by decide +kernel
theorem hkX7_person_31 : Cond.fieldLink RX7 31 (TX7 3).1 (TX7 3).2.1 (TX7 3).2.2.1 ∈ wsX7_person := by decide +kernel
theorem hnX7_person_X2 : ∀ w ∈ wsX20, w ∈ wsX7_person := by decide +kernel
theorem hkX7_person_108 : Cond.fieldLink RX7 108 (TX2 1).1 (TX2 1).2.1 (TX2 1).2.2.1 ∈ wsX7_person := by decide +kernel
theorem hnX7_person_X0 : ∀ w ∈ wsX00, w ∈ wsX7_person := by decide +kernel
theorem hkX7_person_112 : Cond.fieldLink RX7 112 (TX0 1).1 (TX0 1).2.1 (TX0 1).2.2.1 ∈ wsX7_person := by decide +kernel
set_option maxHeartbeats 8000000 in
set_option maxRecDepth 100000 in
theorem mX7_person (l : Launch) (D : va_G) (ac : Nat → ClassId) (ad : Nat → Nat) (S : List hSh) (f : hF) (x1 : Int32) (x2 : Int32) (rv : Int32) (gv : hF) (hS : isPW S) (h : fX7_person f x1 x2 = some (rv, gv)) : Met l yX7_person wsX7_person ({ frames := 7, cells := 0, slots := 0, locals := 154 }) (hPc D ac ad S f [.ref (ad 0), .int x1, .int x2]) (hQi D ac ad S rv gv) 0 0 (hAd ad S.length) := by
  refine h_enter (C := RX7) (cc := cX7_person) (maxL := 3) (ret := (some .int)) (lv := [(0, .ref (ad 0)), (1, .int x1), (2, .int x2)]) (by decide) rfl rfl (Nat.le_of_ble_eq_true rfl) rfl (fun p e s m below meth c ls hx hb hml hr hlocks hown hts hK hw hl => ?_)
  unfold fX7_person at h
  refine lv_aload_n hx hb dX7_person_0 rfl (lv_at hl 0 rfl) ?_
  refine h_getR hx hb hts hnX7_person_X7 hown hK hw hS.1 rfl 1 (by decide) rfl hkX7_person_19 dX7_person_1 ?_
  refine lv_iload_n hx hb dX7_person_4 rfl (lv_at hl 1 rfl) ?_
  obtain ⟨r1, er1, h⟩ := b1_s h
  refine h_callR (va_runV (As := [.int x1]) (rest := []) ⟨hx, hb, hml, hown, hts⟩ (mX3_isPerson l D ac ad S 3 f x1 r1 hS.2.2.1 er1) (cwV 1 hts gX7_person_X3_isPerson rfl rfl rfl (by decide +kernel) ⟨Nat.le_of_ble_eq_true rfl, Nat.le_of_ble_eq_true rfl⟩) (h_preV hK hw hS.2.2.1.1 rfl _) rfl rfl hl.1 rfl (lv_room (Nat.le_of_ble_eq_true rfl)) dX7_person_5 ⟨Nat.le_of_ble_eq_true rfl, Nat.le_of_ble_eq_true rfl⟩) ?_
  refine lv_if_ne (tgt := 13) hx hb dX7_person_8 (by decide) (fun hc2 => ?_) (fun hc2 => ?_)
  · have h := ie hc2 h
    refine lv_iload_n hx hb dX7_person_13 rfl (lv_at hl 2 rfl) ?_
    by_cases hc13 : x2 = 0
    · have h := it hc13 h
      refine lv_tableIn (off := 42) (tgt := 56) hx hb dX7_person_14 (by rw [hc13]; decide) (by rw [hc13]; decide) (by rw [hc13]; rfl) (by decide) ?_
      refine lv_aload_n hx hb dX7_person_56 rfl (lv_at hl 0 rfl) ?_
      refine h_getR hx hb hts hnX7_person_X7 hown hK hw hS.1 rfl 1 (by decide) rfl hkX7_person_19 dX7_person_57 ?_
      refine h_getR hx hb hts hnX7_person_X3 hown hK hw hS.2.2.1.1 rfl 3 (by decide) rfl hkX7_person_97 dX7_person_60 ?_
      refine lv_iload_n hx hb dX7_person_63 rfl (lv_at hl 1 rfl) ?_
      obtain ⟨hi3, h⟩ := gd_s h
      refine h_zald hx hb hK hw hS.2.2.1.2.1 hi3 dX7_person_64 ?_
      refine lv_if_eq (tgt := 72) hx hb dX7_person_65 (by decide) (fun hc4 => ?_) (fun hc4 => ?_)
      · have h := it hc4 h
        refine lv_iconst (v := 0) hx hb dX7_person_72 (by decide) ?_
        exact h_retQ hx hb hr hlocks hw rfl (so2 h) dX7_person_73
      · have h := ie hc4 h
        refine lv_iconst (v := 1) hx hb dX7_person_68 (by decide) ?_
        refine lv_goto (tgt := 73) hx hb dX7_person_69 (by decide) ?_
        exact h_retQ hx hb hr hlocks hw rfl (so2 h) dX7_person_73
    · have h := ie hc13 h
      by_cases hc14 : x2 = 1
      · have h := it hc14 h
        refine lv_tableIn (off := 60) (tgt := 74) hx hb dX7_person_14 (by rw [hc14]; decide) (by rw [hc14]; decide) (by rw [hc14]; rfl) (by decide) ?_
        refine lv_aload_n hx hb dX7_person_74 rfl (lv_at hl 0 rfl) ?_
        refine h_getR hx hb hts hnX7_person_X7 hown hK hw hS.1 rfl 1 (by decide) rfl hkX7_person_19 dX7_person_75 ?_
        refine h_getR hx hb hts hnX7_person_X3 hown hK hw hS.2.2.1.1 rfl 4 (by decide) rfl hkX7_person_101 dX7_person_78 ?_
        refine lv_iload_n hx hb dX7_person_81 rfl (lv_at hl 1 rfl) ?_
        obtain ⟨hi5, h⟩ := gd_s h
        refine h_iald hx hb hK hw hS.2.2.1.2.2.1 hi5 dX7_person_82 ?_
        exact h_retQ hx hb hr hlocks hw rfl (so2 h) dX7_person_83
      · have h := ie hc14 h
        by_cases hc15 : x2 = 2
        · have h := it hc15 h
          refine lv_tableIn (off := 70) (tgt := 84) hx hb dX7_person_14 (by rw [hc15]; decide) (by rw [hc15]; decide) (by rw [hc15]; rfl) (by decide) ?_
          refine lv_aload_n hx hb dX7_person_84 rfl (lv_at hl 0 rfl) ?_
          refine h_getR hx hb hts hnX7_person_X7 hown hK hw hS.1 rfl 1 (by decide) rfl hkX7_person_19 dX7_person_85 ?_
          refine h_getR hx hb hts hnX7_person_X3 hown hK hw hS.2.2.1.1 rfl 5 (by decide) rfl hkX7_person_105 dX7_person_88 ?_
          refine lv_iload_n hx hb dX7_person_91 rfl (lv_at hl 1 rfl) ?_
          obtain ⟨hi6, h⟩ := gd_s h
          refine h_iald hx hb hK hw hS.2.2.1.2.2.2.1 hi6 dX7_person_92 ?_
          exact h_retQ hx hb hr hlocks hw rfl (so2 h) dX7_person_93
        · have h := ie hc15 h
          by_cases hc16 : x2 = 3
          · have h := it hc16 h
            refine lv_tableIn (off := 80) (tgt := 94) hx hb dX7_person_14 (by rw [hc16]; decide) (by rw [hc16]; decide) (by rw [hc16]; rfl) (by decide) ?_
            refine lv_aload_n hx hb dX7_person_94 rfl (lv_at hl 0 rfl) ?_
            refine h_getR hx hb hts hnX7_person_X7 hown hK hw hS.1 rfl 3 (by decide) rfl hkX7_person_31 dX7_person_95 ?_
            refine h_getR hx hb hts hnX7_person_X2 hown hK hw hS.2.2.2.2.1.1 rfl 1 (by decide) rfl hkX7_person_108 dX7_person_98 ?_
            refine h_getR hx hb hts hnX7_person_X0 hown hK hw hS.2.2.2.2.1.2.2.2.1.1 rfl 1 (by decide) rfl hkX7_person_112 dX7_person_101 ?_
            refine lv_iload_n hx hb dX7_person_104 rfl (lv_at hl 1 rfl) ?_
            obtain ⟨hi7, h⟩ := gd_s h
            refine h_iald hx hb hK hw hS.2.2.2.2.1.2.2.2.1.2.1 hi7 dX7_person_105 ?_
            exact h_retQ hx hb hr hlocks hw rfl (so2 h) dX7_person_106
          · have h := ie hc16 h
            by_cases hc17 : x2 = 4
            · have h := it hc17 h
              refine lv_tableIn (off := 93) (tgt := 107) hx hb dX7_person_14 (by rw [hc17]; decide) (by rw [hc17]; decide) (by rw [hc17]; rfl) (by decide) ?_
              refine lv_aload_n hx hb dX7_person_107 rfl (lv_at hl 0 rfl) ?_
              refine h_getR hx hb hts hnX7_person_X7 hown hK hw hS.1 rfl 3 (by decide) rfl hkX7_person_31 dX7_person_108 ?_
              refine lv_iload_n hx hb dX7_person_111 rfl (lv_at hl 1 rfl) ?_
              obtain ⟨r8, f9, ef9, h⟩ := b2_s h
              refine h_callQ hw (va_runV (As := [.int x1]) (rest := []) ⟨hx, hb, hml, hown, hts⟩ (mX2_mateToday l D ac ad S 19 3 f x1 r8 f9 hS.2.2.2.2.1 ef9) (cwV 1 hts gX7_person_X2_mateToday rfl rfl rfl (by decide +kernel) ⟨Nat.le_of_ble_eq_true rfl, Nat.le_of_ble_eq_true rfl⟩) (h_preV hK hw hS.2.2.2.2.1.1 rfl _) rfl rfl hl.1 rfl (lv_room (Nat.le_of_ble_eq_true rfl)) dX7_person_112 ⟨Nat.le_of_ble_eq_true rfl, Nat.le_of_ble_eq_true rfl⟩) (fun H locs hw => ?_)
              exact h_retQ hx hb hr hlocks hw rfl (so2 h) dX7_person_115
            · have h := ie hc17 h
              by_cases hc18 : x2 = 5
              · have h := it hc18 h
                refine lv_tableIn (off := 102) (tgt := 116) hx hb dX7_person_14 (by rw [hc18]; decide) (by rw [hc18]; decide) (by rw [hc18]; rfl) (by decide) ?_
                refine lv_aload_n hx hb dX7_person_116 rfl (lv_at hl 0 rfl) ?_
                refine h_getR hx hb hts hnX7_person_X7 hown hK hw hS.1 rfl 3 (by decide) rfl hkX7_person_31 dX7_person_117 ?_
                refine lv_iload_n hx hb dX7_person_120 rfl (lv_at hl 1 rfl) ?_
                obtain ⟨r10, f11, ef11, h⟩ := b2_s h
                refine h_callQ hw (va_runV (As := [.int x1]) (rest := []) ⟨hx, hb, hml, hown, hts⟩ (mX2_owedBy l D ac ad S 19 3 f x1 r10 f11 hS.2.2.2.2.1 ef11) (cwV 1 hts gX7_person_X2_owedBy rfl rfl rfl (by decide +kernel) ⟨Nat.le_of_ble_eq_true rfl, Nat.le_of_ble_eq_true rfl⟩) (h_preV hK hw hS.2.2.2.2.1.1 rfl _) rfl rfl hl.1 rfl (lv_room (Nat.le_of_ble_eq_true rfl)) dX7_person_121 ⟨Nat.le_of_ble_eq_true rfl, Nat.le_of_ble_eq_true rfl⟩) (fun H locs hw => ?_)
                exact h_retQ hx hb hr hlocks hw rfl (so2 h) dX7_person_124
              · have h := ie hc18 h
                by_cases hc19 : x2 = 6
                · have h := it hc19 h
                  refine lv_tableIn (off := 111) (tgt := 125) hx hb dX7_person_14 (by rw [hc19]; decide) (by rw [hc19]; decide) (by rw [hc19]; rfl) (by decide) ?_
                  refine lv_aload_n hx hb dX7_person_125 rfl (lv_at hl 0 rfl) ?_
                  refine h_getR hx hb hts hnX7_person_X7 hown hK hw hS.1 rfl 3 (by decide) rfl hkX7_person_31 dX7_person_126 ?_
                  refine h_getR hx hb hts hnX7_person_X2 hown hK hw hS.2.2.2.2.1.1 rfl 1 (by decide) rfl hkX7_person_108 dX7_person_129 ?_
                  refine lv_iload_n hx hb dX7_person_132 rfl (lv_at hl 1 rfl) ?_
                  obtain ⟨r12, er12, h⟩ := b1_s h
                  refine h_callR (va_runV (As := [.int x1]) (rest := []) ⟨hx, hb, hml, hown, hts⟩ (mX0_linesWith l D ac ad S 20 f x1 r12 hS.2.2.2.2.1.2.2.2.1 er12) (cwV 1 hts gX7_person_X0_linesWith rfl rfl rfl (by decide +kernel) ⟨Nat.le_of_ble_eq_true rfl, Nat.le_of_ble_eq_true rfl⟩) (h_preV hK hw hS.2.2.2.2.1.2.2.2.1.1 rfl _) rfl rfl hl.1 rfl (lv_room (Nat.le_of_ble_eq_true rfl)) dX7_person_133 ⟨Nat.le_of_ble_eq_true rfl, Nat.le_of_ble_eq_true rfl⟩) ?_
                  exact h_retQ hx hb hr hlocks hw rfl (so2 h) dX7_person_136
                · have h := ie hc19 h
                  have nhc13 := lv_neT (a := 0) hc13 rfl
                  have nhc14 := lv_neT (a := 1) hc14 rfl
                  have nhc15 := lv_neT (a := 2) hc15 rfl
                  have nhc16 := lv_neT (a := 3) hc16 rfl
                  have nhc17 := lv_neT (a := 4) hc17 rfl
                  have nhc18 := lv_neT (a := 5) hc18 rfl
                  have nhc19 := lv_neT (a := 6) hc19 rfl
                  refine lv_tableOut (tgt := 137) hx hb dX7_person_14 (by omega) (by decide) ?_
                  refine lv_iconst (v := (-1)) hx hb dX7_person_137 (by decide) ?_
                  exact h_retQ hx hb hr hlocks hw rfl (so2 h) dX7_person_138
  · have h := it hc2 h
    refine lv_iconst (v := (-1)) hx hb dX7_person_11 (by decide) ?_
    exact h_retQ hx hb hr hlocks hw rfl (so2 h) dX7_person_12

theorem hnX3_isParson_X3 : ∀ w ∈ wsX30, w ∈ wsX3_isParson := by decide +kernel
theorem hkX3_isParson_38 : Cond.fieldLink RX3 38 (TX3 1).1 (TX3 1).2.1 (TX3 1).2.2.1 ∈ wsX3_isParson := by decide +kernel
set_option maxHeartbeats 8000000 in
set_option maxRecDepth 100000 in
theorem mX3_isParson (l : Launch) (D : va_G) (ac : Nat → ClassId) (ad : Nat → Nat) (S : List hSh) (k : Nat) (f : hF) (x1 : Int32) (rv : Int32) (hS : isRo S k) (h : fX3_isParson k f x1 = some rv) : Met l yX3_isParson wsX3_isParson ({ frames := 0, cells := 0, slots := 0, locals := 0 }) (hPc D ac ad S f [.ref (ad k), .int x1]) (hRi rv) 0 0 hNo := by
  refine h_enter (C := RX3) (cc := cX3_isParson) (maxL := 2) (ret := (some .boolean)) (lv := [(0, .ref (ad k)), (1, .int x1)]) (by decide) rfl rfl (Nat.le_of_ble_eq_true rfl) rfl (fun p e s m below meth c ls hx hb hml hr hlocks hown hts hK hw hl => ?_)
  unfold fX3_isParson at h
  refine lv_iload_n hx hb dX3_isParson_0 rfl (lv_at hl 1 rfl) ?_
  refine lv_if_lt (tgt := 16) hx hb dX3_isParson_1 (by decide) (fun hc1 => ?_) (fun hc1 => ?_)
  · have h := it hc1 h
    refine lv_iconst (v := 0) hx hb dX3_isParson_16 (by decide) ?_
    exact h_retR hx hb hr hlocks rfl (so1 h) dX3_isParson_17
  · have h := ie hc1 h
    refine lv_iload_n hx hb dX3_isParson_4 rfl (lv_at hl 1 rfl) ?_
    refine lv_aload_n hx hb dX3_isParson_5 rfl (lv_at hl 0 rfl) ?_
    refine h_getI hx hb hts hnX3_isParson_X3 hown hK hw hS.1 rfl 1 (by decide) rfl hkX3_isParson_38 dX3_isParson_6 ?_
    refine lv_icmp_ge (tgt := 16) hx hb dX3_isParson_9 (by decide) (fun hc2 => ?_) (fun hc2 => ?_)
    · have h := it hc2 h
      refine lv_iconst (v := 0) hx hb dX3_isParson_16 (by decide) ?_
      exact h_retR hx hb hr hlocks rfl (so1 h) dX3_isParson_17
    · have h := ie hc2 h
      refine lv_iconst (v := 1) hx hb dX3_isParson_12 (by decide) ?_
      refine lv_goto (tgt := 17) hx hb dX3_isParson_13 (by decide) ?_
      exact h_retR hx hb hr hlocks rfl (so1 h) dX3_isParson_17

theorem hnX0_blanksOf_X0 : ∀ w ∈ wsX00, w ∈ wsX0_blanksOf := by decide +kernel
theorem hkX0_blanksOf_21 : Cond.fieldLink RX0 21 (TX0 4).1 (TX0 4).2.1 (TX0 4).2.2.1 ∈ wsX0_blanksOf := by decide +kernel
set_option maxHeartbeats 8000000 in
set_option maxRecDepth 100000 in
theorem mX0_blanksOf (l : Launch) (D : va_G) (ac : Nat → ClassId) (ad : Nat → Nat) (S : List hSh) (k : Nat) (f : hF) (x1 : Int32) (rv : Int32) (hS : isBk S k) (h : fX0_blanksOf k f x1 = some rv) : Met l yX0_blanksOf wsX0_blanksOf ({ frames := 1, cells := 0, slots := 0, locals := 22 }) (hPc D ac ad S f [.ref (ad k), .int x1]) (hRi rv) 0 0 hNo := by
  refine h_enter (C := RX0) (cc := cX0_blanksOf) (maxL := 5) (ret := (some .int)) (lv := [(0, .ref (ad k)), (1, .int x1)]) (by decide) rfl rfl (Nat.le_of_ble_eq_true rfl) rfl (fun p e s m below meth c ls hx hb hml hr hlocks hown hts hK hw hl => ?_)
  have J4 : ∀ (n : Nat), (∀ (y2 : Int32) (y3 : Int32) (ls : Array Slot), lv_has ls 5 [(0, .ref (ad k)), (1, .int x1), (2, .int y2), (3, .int y3)] → fX0_blanksOf_4 k f x1 n y2 y3 = some rv → W p l e ({ frames := 1, cells := 0, slots := 0, locals := 22 } : Room) s m ([.ref (ad k), .int x1] : List Value).toArray below meth c s.heap [] 0 0 (MQ below (hRi rv) ([.ref (ad k), .int x1] : List Value).toArray s 0 0 hNo) (F0 m 4 ls [])) := by
    intro n
    induction n with
    | zero =>
      intro y2 y3 ls hl h
      rw [fX0_blanksOf_4] at h
      cases h
    | succ n ih =>
      intro y2 y3 ls hl h
      rw [fX0_blanksOf_4] at h
      refine lv_iload_n hx hb dX0_blanksOf_4 rfl (lv_at hl 3 rfl) ?_
      refine lv_bipush (v := 8) hx hb dX0_blanksOf_5 (by decide) ?_
      refine lv_icmp_ge (tgt := 43) hx hb dX0_blanksOf_7 (by decide) (fun hc1 => ?_) (fun hc1 => ?_)
      · have h := it hc1 h
        refine lv_iload_n hx hb dX0_blanksOf_43 rfl (lv_at hl 2 rfl) ?_
        exact h_retR hx hb hr hlocks rfl (so1 h) dX0_blanksOf_44
      · have h := ie hc1 h
        refine lv_aload_n hx hb dX0_blanksOf_10 rfl (lv_at hl 0 rfl) ?_
        refine lv_iload_n hx hb dX0_blanksOf_11 rfl (lv_at hl 1 rfl) ?_
        refine lv_iload_n hx hb dX0_blanksOf_12 rfl (lv_at hl 3 rfl) ?_
        obtain ⟨r2, er2, h⟩ := b1_s h
        refine h_callR (va_runV (As := [.int x1, .int y3]) (rest := []) ⟨hx, hb, hml, hown, hts⟩ (mX0_slotOf l D ac ad S k f x1 y3 r2 hS er2) (cwV 2 hts gX0_blanksOf_X0_slotOf rfl rfl rfl (by decide +kernel) ⟨Nat.le_of_ble_eq_true rfl, Nat.le_of_ble_eq_true rfl⟩) (h_preV hK hw hS.1 rfl _) rfl rfl hl.1 rfl (lv_room (Nat.le_of_ble_eq_true rfl)) dX0_blanksOf_13 ⟨Nat.le_of_ble_eq_true rfl, Nat.le_of_ble_eq_true rfl⟩) ?_
        refine lv_istore (lv' := [(4, .int r2), (0, .ref (ad k)), (1, .int x1), (2, .int y2), (3, .int y3)]) hx hb dX0_blanksOf_16 hl (by decide) rfl (fun ls hl => ?_)
        refine lv_iload hx hb dX0_blanksOf_18 (lv_at hl 0 rfl) ?_
        refine lv_iconst (v := (-1)) hx hb dX0_blanksOf_20 (by decide) ?_
        refine lv_icmp_eq (tgt := 37) hx hb dX0_blanksOf_21 (by decide) (fun hc3 => ?_) (fun hc3 => ?_)
        · have h := it hc3 h
          refine lv_iinc (v := (y3 + 1)) (lv' := [(3, .int (y3 + 1)), (4, .int r2), (0, .ref (ad k)), (1, .int x1), (2, .int y2)]) hx hb dX0_blanksOf_37 hl (k := 4) rfl rfl (by decide) rfl (fun ls hl => ?_)
          refine lv_goto (tgt := 4) hx hb dX0_blanksOf_40 (by decide) ?_
          exact ih y2 (y3 + 1) _ (lv_sub hl [2, 3, 4, 0] rfl) h
        · have h := ie hc3 h
          refine lv_aload_n hx hb dX0_blanksOf_24 rfl (lv_at hl 1 rfl) ?_
          refine h_getR hx hb hts hnX0_blanksOf_X0 hown hK hw hS.1 rfl 4 (by decide) rfl hkX0_blanksOf_21 dX0_blanksOf_25 ?_
          refine lv_iload hx hb dX0_blanksOf_28 (lv_at hl 0 rfl) ?_
          obtain ⟨hi4, h⟩ := gd_s h
          refine h_iald hx hb hK hw hS.2.2.2.2.1 hi4 dX0_blanksOf_30 ?_
          refine lv_if_ne (tgt := 37) hx hb dX0_blanksOf_31 (by decide) (fun hc5 => ?_) (fun hc5 => ?_)
          · have h := ie hc5 h
            refine lv_iinc (v := (y3 + 1)) (lv' := [(3, .int (y3 + 1)), (4, .int r2), (0, .ref (ad k)), (1, .int x1), (2, .int y2)]) hx hb dX0_blanksOf_37 hl (k := 4) rfl rfl (by decide) rfl (fun ls hl => ?_)
            refine lv_goto (tgt := 4) hx hb dX0_blanksOf_40 (by decide) ?_
            exact ih y2 (y3 + 1) _ (lv_sub hl [2, 3, 4, 0] rfl) h
          · have h := it hc5 h
            refine lv_iinc (v := (y2 + 1)) (lv' := [(2, .int (y2 + 1)), (4, .int r2), (0, .ref (ad k)), (1, .int x1), (3, .int y3)]) hx hb dX0_blanksOf_34 hl (k := 3) rfl rfl (by decide) rfl (fun ls hl => ?_)
            refine lv_iinc (v := (y3 + 1)) (lv' := [(3, .int (y3 + 1)), (2, .int (y2 + 1)), (4, .int r2), (0, .ref (ad k)), (1, .int x1)]) hx hb dX0_blanksOf_37 hl (k := 4) rfl rfl (by decide) rfl (fun ls hl => ?_)
            refine lv_goto (tgt := 4) hx hb dX0_blanksOf_40 (by decide) ?_
            exact ih (y2 + 1) (y3 + 1) _ (lv_sub hl [3, 4, 1, 0] rfl) h
  unfold fX0_blanksOf at h
  refine lv_iconst (v := 0) hx hb dX0_blanksOf_0 (by decide) ?_
  refine lv_istore_n (lv' := [(2, .int 0), (0, .ref (ad k)), (1, .int x1)]) hx hb dX0_blanksOf_1 rfl hl (by decide) rfl (fun ls hl => ?_)
  refine lv_iconst (v := 0) hx hb dX0_blanksOf_2 (by decide) ?_
  refine lv_istore_n (lv' := [(3, .int 0), (2, .int 0), (0, .ref (ad k)), (1, .int x1)]) hx hb dX0_blanksOf_3 rfl hl (by decide) rfl (fun ls hl => ?_)
  exact J4 _ 0 0 _ (lv_sub hl [2, 3, 1, 0] rfl) h

theorem hnX7_parson_X7 : ∀ w ∈ wsX70, w ∈ wsX7_parson := by decide +kernel
theorem hkX7_parson_19 : Cond.fieldLink RX7 19 (TX7 1).1 (TX7 1).2.1 (TX7 1).2.2.1 ∈ wsX7_parson := by decide +kernel
theorem hnX7_parson_X3 : ∀ w ∈ wsX30, w ∈ wsX7_parson := by decide +kernel
theorem hkX7_parson_130 : Cond.fieldLink RX7 130 (TX3 7).1 (TX3 7).2.1 (TX3 7).2.2.1 ∈ wsX7_parson := by decide +kernel
theorem hkX7_parson_133 : Cond.fieldLink RX7 133 (TX3 8).1 (TX3 8).2.1 (TX3 8).2.2.1 ∈ wsX7_parson := by decide +kernel
theorem hkX7_parson_31 : Cond.fieldLink RX7 31 (TX7 3).1 (TX7 3).2.1 (TX7 3).2.2.1 ∈ wsX7_parson := by decide +kernel
theorem hnX7_parson_X2 : ∀ w ∈ wsX20, w ∈ wsX7_parson := by decide +kernel
theorem hkX7_parson_108 : Cond.fieldLink RX7 108 (TX2 1).1 (TX2 1).2.1 (TX2 1).2.2.1 ∈ wsX7_parson := by decide +kernel
theorem hnX7_parson_X0 : ∀ w ∈ wsX00, w ∈ wsX7_parson := by decide +kernel
theorem hkX7_parson_136 : Cond.fieldLink RX7 136 (TX0 3).1 (TX0 3).2.1 (TX0 3).2.2.1 ∈ wsX7_parson := by decide +kernel
theorem hkX7_parson_142 : Cond.fieldLink RX7 142 (TX0 2).1 (TX0 2).2.1 (TX0 2).2.2.1 ∈ wsX7_parson := by decide +kernel
set_option maxHeartbeats 8000000 in
set_option maxRecDepth 100000 in
theorem mX7_parson (l : Launch) (D : va_G) (ac : Nat → ClassId) (ad : Nat → Nat) (S : List hSh) (f : hF) (x1 : Int32) (x2 : Int32) (rv : Int32) (hS : isPW S) (h : fX7_parson f x1 x2 = some rv) : Met l yX7_parson wsX7_parson ({ frames := 2, cells := 0, slots := 0, locals := 46 }) (hPc D ac ad S f [.ref (ad 0), .int x1, .int x2]) (hRi rv) 0 0 hNo := by
  refine h_enter (C := RX7) (cc := cX7_parson) (maxL := 3) (ret := (some .int)) (lv := [(0, .ref (ad 0)), (1, .int x1), (2, .int x2)]) (by decide) rfl rfl (Nat.le_of_ble_eq_true rfl) rfl (fun p e s m below meth c ls hx hb hml hr hlocks hown hts hK hw hl => ?_)
  unfold fX7_parson at h
  refine lv_aload_n hx hb dX7_parson_0 rfl (lv_at hl 0 rfl) ?_
  refine h_getR hx hb hts hnX7_parson_X7 hown hK hw hS.1 rfl 1 (by decide) rfl hkX7_parson_19 dX7_parson_1 ?_
  refine lv_iload_n hx hb dX7_parson_4 rfl (lv_at hl 1 rfl) ?_
  obtain ⟨r1, er1, h⟩ := b1_s h
  refine h_callR (va_runV (As := [.int x1]) (rest := []) ⟨hx, hb, hml, hown, hts⟩ (mX3_isParson l D ac ad S 3 f x1 r1 hS.2.2.1 er1) (cwV 1 hts gX7_parson_X3_isParson rfl rfl rfl (by decide +kernel) ⟨Nat.le_of_ble_eq_true rfl, Nat.le_of_ble_eq_true rfl⟩) (h_preV hK hw hS.2.2.1.1 rfl _) rfl rfl hl.1 rfl (lv_room (Nat.le_of_ble_eq_true rfl)) dX7_parson_5 ⟨Nat.le_of_ble_eq_true rfl, Nat.le_of_ble_eq_true rfl⟩) ?_
  refine lv_if_ne (tgt := 13) hx hb dX7_parson_8 (by decide) (fun hc2 => ?_) (fun hc2 => ?_)
  · have h := ie hc2 h
    refine lv_iload_n hx hb dX7_parson_13 rfl (lv_at hl 2 rfl) ?_
    by_cases hc8 : x2 = 0
    · have h := it hc8 h
      refine lv_tableIn (off := 34) (tgt := 48) hx hb dX7_parson_14 (by rw [hc8]; decide) (by rw [hc8]; decide) (by rw [hc8]; rfl) (by decide) ?_
      refine lv_aload_n hx hb dX7_parson_48 rfl (lv_at hl 0 rfl) ?_
      refine h_getR hx hb hts hnX7_parson_X7 hown hK hw hS.1 rfl 1 (by decide) rfl hkX7_parson_19 dX7_parson_49 ?_
      refine h_getR hx hb hts hnX7_parson_X3 hown hK hw hS.2.2.1.1 rfl 7 (by decide) rfl hkX7_parson_130 dX7_parson_52 ?_
      refine lv_iload_n hx hb dX7_parson_55 rfl (lv_at hl 1 rfl) ?_
      obtain ⟨hi3, h⟩ := gd_s h
      refine h_iald hx hb hK hw hS.2.2.1.2.2.2.2.2.1 hi3 dX7_parson_56 ?_
      exact h_retR hx hb hr hlocks rfl (so1 h) dX7_parson_57
    · have h := ie hc8 h
      by_cases hc9 : x2 = 1
      · have h := it hc9 h
        refine lv_tableIn (off := 44) (tgt := 58) hx hb dX7_parson_14 (by rw [hc9]; decide) (by rw [hc9]; decide) (by rw [hc9]; rfl) (by decide) ?_
        refine lv_aload_n hx hb dX7_parson_58 rfl (lv_at hl 0 rfl) ?_
        refine h_getR hx hb hts hnX7_parson_X7 hown hK hw hS.1 rfl 1 (by decide) rfl hkX7_parson_19 dX7_parson_59 ?_
        refine h_getR hx hb hts hnX7_parson_X3 hown hK hw hS.2.2.1.1 rfl 8 (by decide) rfl hkX7_parson_133 dX7_parson_62 ?_
        refine lv_iload_n hx hb dX7_parson_65 rfl (lv_at hl 1 rfl) ?_
        obtain ⟨hi4, h⟩ := gd_s h
        refine h_iald hx hb hK hw hS.2.2.1.2.2.2.2.2.2.1 hi4 dX7_parson_66 ?_
        exact h_retR hx hb hr hlocks rfl (so1 h) dX7_parson_67
      · have h := ie hc9 h
        by_cases hc10 : x2 = 2
        · have h := it hc10 h
          refine lv_tableIn (off := 54) (tgt := 68) hx hb dX7_parson_14 (by rw [hc10]; decide) (by rw [hc10]; decide) (by rw [hc10]; rfl) (by decide) ?_
          refine lv_aload_n hx hb dX7_parson_68 rfl (lv_at hl 0 rfl) ?_
          refine h_getR hx hb hts hnX7_parson_X7 hown hK hw hS.1 rfl 3 (by decide) rfl hkX7_parson_31 dX7_parson_69 ?_
          refine h_getR hx hb hts hnX7_parson_X2 hown hK hw hS.2.2.2.2.1.1 rfl 1 (by decide) rfl hkX7_parson_108 dX7_parson_72 ?_
          refine h_getR hx hb hts hnX7_parson_X0 hown hK hw hS.2.2.2.2.1.2.2.2.1.1 rfl 3 (by decide) rfl hkX7_parson_136 dX7_parson_75 ?_
          refine lv_iload_n hx hb dX7_parson_78 rfl (lv_at hl 1 rfl) ?_
          obtain ⟨hi5, h⟩ := gd_s h
          refine h_iald hx hb hK hw hS.2.2.2.2.1.2.2.2.1.2.2.2.1 hi5 dX7_parson_79 ?_
          exact h_retR hx hb hr hlocks rfl (so1 h) dX7_parson_80
        · have h := ie hc10 h
          by_cases hc11 : x2 = 3
          · have h := it hc11 h
            refine lv_tableIn (off := 67) (tgt := 81) hx hb dX7_parson_14 (by rw [hc11]; decide) (by rw [hc11]; decide) (by rw [hc11]; rfl) (by decide) ?_
            refine lv_aload_n hx hb dX7_parson_81 rfl (lv_at hl 0 rfl) ?_
            refine h_getR hx hb hts hnX7_parson_X7 hown hK hw hS.1 rfl 3 (by decide) rfl hkX7_parson_31 dX7_parson_82 ?_
            refine h_getR hx hb hts hnX7_parson_X2 hown hK hw hS.2.2.2.2.1.1 rfl 1 (by decide) rfl hkX7_parson_108 dX7_parson_85 ?_
            refine lv_iload_n hx hb dX7_parson_88 rfl (lv_at hl 1 rfl) ?_
            obtain ⟨r6, er6, h⟩ := b1_s h
            refine h_callR (va_runV (As := [.int x1]) (rest := []) ⟨hx, hb, hml, hown, hts⟩ (mX0_blanksOf l D ac ad S 20 f x1 r6 hS.2.2.2.2.1.2.2.2.1 er6) (cwV 1 hts gX7_parson_X0_blanksOf rfl rfl rfl (by decide +kernel) ⟨Nat.le_of_ble_eq_true rfl, Nat.le_of_ble_eq_true rfl⟩) (h_preV hK hw hS.2.2.2.2.1.2.2.2.1.1 rfl _) rfl rfl hl.1 rfl (lv_room (Nat.le_of_ble_eq_true rfl)) dX7_parson_89 ⟨Nat.le_of_ble_eq_true rfl, Nat.le_of_ble_eq_true rfl⟩) ?_
            exact h_retR hx hb hr hlocks rfl (so1 h) dX7_parson_92
          · have h := ie hc11 h
            by_cases hc12 : x2 = 4
            · have h := it hc12 h
              refine lv_tableIn (off := 79) (tgt := 93) hx hb dX7_parson_14 (by rw [hc12]; decide) (by rw [hc12]; decide) (by rw [hc12]; rfl) (by decide) ?_
              refine lv_aload_n hx hb dX7_parson_93 rfl (lv_at hl 0 rfl) ?_
              refine h_getR hx hb hts hnX7_parson_X7 hown hK hw hS.1 rfl 3 (by decide) rfl hkX7_parson_31 dX7_parson_94 ?_
              refine h_getR hx hb hts hnX7_parson_X2 hown hK hw hS.2.2.2.2.1.1 rfl 1 (by decide) rfl hkX7_parson_108 dX7_parson_97 ?_
              refine h_getR hx hb hts hnX7_parson_X0 hown hK hw hS.2.2.2.2.1.2.2.2.1.1 rfl 2 (by decide) rfl hkX7_parson_142 dX7_parson_100 ?_
              refine lv_iload_n hx hb dX7_parson_103 rfl (lv_at hl 1 rfl) ?_
              obtain ⟨hi7, h⟩ := gd_s h
              refine h_iald hx hb hK hw hS.2.2.2.2.1.2.2.2.1.2.2.1 hi7 dX7_parson_104 ?_
              exact h_retR hx hb hr hlocks rfl (so1 h) dX7_parson_105
            · have h := ie hc12 h
              have nhc8 := lv_neT (a := 0) hc8 rfl
              have nhc9 := lv_neT (a := 1) hc9 rfl
              have nhc10 := lv_neT (a := 2) hc10 rfl
              have nhc11 := lv_neT (a := 3) hc11 rfl
              have nhc12 := lv_neT (a := 4) hc12 rfl
              refine lv_tableOut (tgt := 106) hx hb dX7_parson_14 (by omega) (by decide) ?_
              refine lv_iconst (v := (-1)) hx hb dX7_parson_106 (by decide) ?_
              exact h_retR hx hb hr hlocks rfl (so1 h) dX7_parson_107
  · have h := it hc2 h
    refine lv_iconst (v := (-1)) hx hb dX7_parson_11 (by decide) ?_
    exact h_retR hx hb hr hlocks rfl (so1 h) dX7_parson_12

theorem hnX1_isHeld_X1 : ∀ w ∈ wsX10, w ∈ wsX1_isHeld := by decide +kernel
theorem hkX1_isHeld_18 : Cond.fieldLink RX1 18 (TX1 0).1 (TX1 0).2.1 (TX1 0).2.2.1 ∈ wsX1_isHeld := by decide +kernel
theorem hnX1_isHeld_X0 : ∀ w ∈ wsX00, w ∈ wsX1_isHeld := by decide +kernel
theorem hkX1_isHeld_32 : Cond.fieldLink RX1 32 (TX0 6).1 (TX0 6).2.1 (TX0 6).2.2.1 ∈ wsX1_isHeld := by decide +kernel
theorem hkX1_isHeld_9 : Cond.fieldLink RX1 9 (TX1 1).1 (TX1 1).2.1 (TX1 1).2.2.1 ∈ wsX1_isHeld := by decide +kernel
set_option maxHeartbeats 8000000 in
set_option maxRecDepth 100000 in
theorem mX1_isHeld (l : Launch) (D : va_G) (ac : Nat → ClassId) (ad : Nat → Nat) (S : List hSh) (k : Nat) (bk : Nat) (f : hF) (x1 : Int32) (rv : Int32) (hS : isHd S k bk) (h : fX1_isHeld k bk f x1 = some rv) : Met l yX1_isHeld wsX1_isHeld ({ frames := 2, cells := 0, slots := 0, locals := 42 }) (hPc D ac ad S f [.ref (ad k), .int x1]) (hRi rv) 0 0 hNo := by
  refine h_enter (C := RX1) (cc := cX1_isHeld) (maxL := 2) (ret := (some .boolean)) (lv := [(0, .ref (ad k)), (1, .int x1)]) (by decide) rfl rfl (Nat.le_of_ble_eq_true rfl) rfl (fun p e s m below meth c ls hx hb hml hr hlocks hown hts hK hw hl => ?_)
  unfold fX1_isHeld at h
  refine lv_aload_n hx hb dX1_isHeld_0 rfl (lv_at hl 0 rfl) ?_
  refine h_getR hx hb hts hnX1_isHeld_X1 hown hK hw hS.1 rfl 0 (by decide) rfl hkX1_isHeld_18 dX1_isHeld_1 ?_
  refine lv_iload_n hx hb dX1_isHeld_4 rfl (lv_at hl 1 rfl) ?_
  obtain ⟨r1, er1, h⟩ := b1_s h
  refine h_callR (va_runV (As := [.int x1]) (rest := []) ⟨hx, hb, hml, hown, hts⟩ (mX0_isOfTwo l D ac ad S bk f x1 r1 hS.2.2.2 er1) (cwV 1 hts gX1_isHeld_X0_isOfTwo rfl rfl rfl (by decide +kernel) ⟨Nat.le_of_ble_eq_true rfl, Nat.le_of_ble_eq_true rfl⟩) (h_preV hK hw hS.2.2.2.1 rfl _) rfl rfl hl.1 rfl (lv_room (Nat.le_of_ble_eq_true rfl)) dX1_isHeld_5 ⟨Nat.le_of_ble_eq_true rfl, Nat.le_of_ble_eq_true rfl⟩) ?_
  refine lv_if_eq (tgt := 48) hx hb dX1_isHeld_8 (by decide) (fun hc2 => ?_) (fun hc2 => ?_)
  · have h := it hc2 h
    refine lv_iconst (v := 0) hx hb dX1_isHeld_48 (by decide) ?_
    exact h_retR hx hb hr hlocks rfl (so1 h) dX1_isHeld_49
  · have h := ie hc2 h
    refine lv_aload_n hx hb dX1_isHeld_11 rfl (lv_at hl 0 rfl) ?_
    refine h_getR hx hb hts hnX1_isHeld_X1 hown hK hw hS.1 rfl 0 (by decide) rfl hkX1_isHeld_18 dX1_isHeld_12 ?_
    refine h_getR hx hb hts hnX1_isHeld_X0 hown hK hw hS.2.2.2.1 rfl 6 (by decide) rfl hkX1_isHeld_32 dX1_isHeld_15 ?_
    refine lv_iload_n hx hb dX1_isHeld_18 rfl (lv_at hl 1 rfl) ?_
    obtain ⟨hi3, h⟩ := gd_s h
    refine h_iald hx hb hK hw hS.2.2.2.2.2.2.2.2.2.1 hi3 dX1_isHeld_19 ?_
    obtain ⟨r4, er4, h⟩ := b1_s h
    refine h_callR (va_runS (As := [.int (f (bk+6) x1.toNatClampNeg)]) (rest := []) ⟨hx, hb, hml, hown, hts⟩ (mX1_isRow l D ac ad S f (f (bk+6) x1.toNatClampNeg) r4  er4) (va_cwS 1 hts gX1_isHeld_X1_isRow rfl rfl rfl (by decide +kernel) ⟨Nat.le_of_ble_eq_true rfl, Nat.le_of_ble_eq_true rfl⟩) (h_preS hK hw _) rfl rfl hl.1 rfl (lv_room (Nat.le_of_ble_eq_true rfl)) dX1_isHeld_20 ⟨Nat.le_of_ble_eq_true rfl, Nat.le_of_ble_eq_true rfl⟩) ?_
    refine lv_if_eq (tgt := 48) hx hb dX1_isHeld_23 (by decide) (fun hc5 => ?_) (fun hc5 => ?_)
    · have h := it hc5 h
      refine lv_iconst (v := 0) hx hb dX1_isHeld_48 (by decide) ?_
      exact h_retR hx hb hr hlocks rfl (so1 h) dX1_isHeld_49
    · have h := ie hc5 h
      refine lv_aload_n hx hb dX1_isHeld_26 rfl (lv_at hl 0 rfl) ?_
      refine h_getR hx hb hts hnX1_isHeld_X1 hown hK hw hS.1 rfl 1 (by decide) rfl hkX1_isHeld_9 dX1_isHeld_27 ?_
      refine lv_aload_n hx hb dX1_isHeld_30 rfl (lv_at hl 0 rfl) ?_
      refine h_getR hx hb hts hnX1_isHeld_X1 hown hK hw hS.1 rfl 0 (by decide) rfl hkX1_isHeld_18 dX1_isHeld_31 ?_
      refine h_getR hx hb hts hnX1_isHeld_X0 hown hK hw hS.2.2.2.1 rfl 6 (by decide) rfl hkX1_isHeld_32 dX1_isHeld_34 ?_
      refine lv_iload_n hx hb dX1_isHeld_37 rfl (lv_at hl 1 rfl) ?_
      obtain ⟨hi6, h⟩ := gd_s h
      refine h_iald hx hb hK hw hS.2.2.2.2.2.2.2.2.2.1 hi6 dX1_isHeld_38 ?_
      obtain ⟨hi7, h⟩ := gd_s h
      refine h_iald hx hb hK hw hS.2.1 hi7 dX1_isHeld_39 ?_
      refine lv_iload_n hx hb dX1_isHeld_40 rfl (lv_at hl 1 rfl) ?_
      refine lv_icmp_ne (tgt := 48) hx hb dX1_isHeld_41 (by decide) (fun hc8 => ?_) (fun hc8 => ?_)
      · have h := ie hc8 h
        refine lv_iconst (v := 0) hx hb dX1_isHeld_48 (by decide) ?_
        exact h_retR hx hb hr hlocks rfl (so1 h) dX1_isHeld_49
      · have h := it hc8 h
        refine lv_iconst (v := 1) hx hb dX1_isHeld_44 (by decide) ?_
        refine lv_goto (tgt := 49) hx hb dX1_isHeld_45 (by decide) ?_
        exact h_retR hx hb hr hlocks rfl (so1 h) dX1_isHeld_49

theorem hnX2_isHeld_X2 : ∀ w ∈ wsX20, w ∈ wsX2_isHeld := by decide +kernel
theorem hkX2_isHeld_23 : Cond.fieldLink RX2 23 (TX2 2).1 (TX2 2).2.1 (TX2 2).2.2.1 ∈ wsX2_isHeld := by decide +kernel
set_option maxHeartbeats 8000000 in
set_option maxRecDepth 100000 in
theorem mX2_isHeld (l : Launch) (D : va_G) (ac : Nat → ClassId) (ad : Nat → Nat) (S : List hSh) (k : Nat) (ro : Nat) (f : hF) (x1 : Int32) (rv : Int32) (gv : hF) (hS : isHo S k ro) (h : fX2_isHeld k ro f x1 = some (rv, gv)) : Met l yX2_isHeld wsX2_isHeld ({ frames := 4, cells := 0, slots := 0, locals := 88 }) (hPc D ac ad S f [.ref (ad k), .int x1]) (hQi D ac ad S rv gv) 0 0 (hAd ad S.length) := by
  refine h_enter (C := RX2) (cc := cX2_isHeld) (maxL := 2) (ret := (some .boolean)) (lv := [(0, .ref (ad k)), (1, .int x1)]) (by decide) rfl rfl (Nat.le_of_ble_eq_true rfl) rfl (fun p e s m below meth c ls hx hb hml hr hlocks hown hts hK hw hl => ?_)
  unfold fX2_isHeld at h
  refine lv_aload_n hx hb dX2_isHeld_0 rfl (lv_at hl 0 rfl) ?_
  obtain ⟨f1, ef1, h⟩ := b1_s h
  refine h_callV hw (va_runV (As := []) (rest := []) ⟨hx, hb, hml, hown, hts⟩ (mX2_settle l D ac ad S k ro f f1 hS ef1) (cwV 0 hts gX2_isHeld_X2_settle rfl rfl rfl (by decide +kernel) ⟨Nat.le_of_ble_eq_true rfl, Nat.le_of_ble_eq_true rfl⟩) (h_preV hK hw hS.1 rfl _) rfl rfl hl.1 rfl (lv_room (Nat.le_of_ble_eq_true rfl)) dX2_isHeld_1 ⟨Nat.le_of_ble_eq_true rfl, Nat.le_of_ble_eq_true rfl⟩) (fun H locs hw => ?_)
  refine lv_aload_n hx hb dX2_isHeld_4 rfl (lv_at hl 0 rfl) ?_
  refine h_getR hx hb hts hnX2_isHeld_X2 hown hK hw hS.1 rfl 2 (by decide) rfl hkX2_isHeld_23 dX2_isHeld_5 ?_
  refine lv_iload_n hx hb dX2_isHeld_8 rfl (lv_at hl 1 rfl) ?_
  obtain ⟨r2, er2, h⟩ := b1_s h
  refine h_callR (va_runV (As := [.int x1]) (rest := []) ⟨hx, hb, hml, hown, hts⟩ (mX1_isHeld l D ac ad S (k+10) (k+1) f1 x1 r2 hS.2.2.2.2 er2) (cwV 1 hts gX2_isHeld_X1_isHeld rfl rfl rfl (by decide +kernel) ⟨Nat.le_of_ble_eq_true rfl, Nat.le_of_ble_eq_true rfl⟩) (h_preV hK hw hS.2.2.2.2.1 rfl _) rfl rfl hl.1 rfl (lv_room (Nat.le_of_ble_eq_true rfl)) dX2_isHeld_9 ⟨Nat.le_of_ble_eq_true rfl, Nat.le_of_ble_eq_true rfl⟩) ?_
  obtain ⟨hr3, h⟩ := nr_s h
  exact h_retQ hx hb hr hlocks hw hr3 (so2 h) dX2_isHeld_12

theorem hnX7_line_X7 : ∀ w ∈ wsX70, w ∈ wsX7_line := by decide +kernel
theorem hkX7_line_31 : Cond.fieldLink RX7 31 (TX7 3).1 (TX7 3).2.1 (TX7 3).2.2.1 ∈ wsX7_line := by decide +kernel
theorem hnX7_line_X2 : ∀ w ∈ wsX20, w ∈ wsX7_line := by decide +kernel
theorem hkX7_line_108 : Cond.fieldLink RX7 108 (TX2 1).1 (TX2 1).2.1 (TX2 1).2.2.1 ∈ wsX7_line := by decide +kernel
theorem hnX7_line_X0 : ∀ w ∈ wsX00, w ∈ wsX7_line := by decide +kernel
theorem hkX7_line_152 : Cond.fieldLink RX7 152 (TX0 5).1 (TX0 5).2.1 (TX0 5).2.2.1 ∈ wsX7_line := by decide +kernel
theorem hkX7_line_155 : Cond.fieldLink RX7 155 (TX0 6).1 (TX0 6).2.1 (TX0 6).2.2.1 ∈ wsX7_line := by decide +kernel
theorem hkX7_line_158 : Cond.fieldLink RX7 158 (TX0 7).1 (TX0 7).2.1 (TX0 7).2.2.1 ∈ wsX7_line := by decide +kernel
theorem hkX7_line_149 : Cond.fieldLink RX7 149 (TX0 4).1 (TX0 4).2.1 (TX0 4).2.2.1 ∈ wsX7_line := by decide +kernel
theorem hkX7_line_164 : Cond.fieldLink RX7 164 (TX0 8).1 (TX0 8).2.1 (TX0 8).2.2.1 ∈ wsX7_line := by decide +kernel
set_option maxHeartbeats 8000000 in
set_option maxRecDepth 100000 in
theorem mX7_line (l : Launch) (D : va_G) (ac : Nat → ClassId) (ad : Nat → Nat) (S : List hSh) (f : hF) (x1 : Int32) (x2 : Int32) (x3 : Int32) (rv : Int32) (gv : hF) (hS : isPW S) (h : fX7_line f x1 x2 x3 = some (rv, gv)) : Met l yX7_line wsX7_line ({ frames := 5, cells := 0, slots := 0, locals := 109 }) (hPc D ac ad S f [.ref (ad 0), .int x1, .int x2, .int x3]) (hQi D ac ad S rv gv) 0 0 (hAd ad S.length) := by
  refine h_enter (C := RX7) (cc := cX7_line) (maxL := 6) (ret := (some .int)) (lv := [(0, .ref (ad 0)), (1, .int x1), (2, .int x2), (3, .int x3)]) (by decide) rfl rfl (Nat.le_of_ble_eq_true rfl) rfl (fun p e s m below meth c ls hx hb hml hr hlocks hown hts hK hw hl => ?_)
  have J44 : ∀ (_ : Unit), (∀ (f : hF) (y4 : Int32) (s0 : Int32) (H : Heap) (locs : List Loc) (ls : Array Slot), hOk D ac ad S (hAd ad S.length) s.heap f H locs → lv_has ls 6 [(0, .ref (ad 0)), (3, .int x3), (4, .int y4)] → fX7_line_44 x1 x2 x3 f y4 s0 = some (rv, gv) → W p l e ({ frames := 5, cells := 0, slots := 0, locals := 109 } : Room) s m ([.ref (ad 0), .int x1, .int x2, .int x3] : List Value).toArray below meth c H locs 0 0 (MQ below (hQi D ac ad S rv gv) ([.ref (ad 0), .int x1, .int x2, .int x3] : List Value).toArray s 0 0 (hAd ad S.length)) (F0 m 44 ls [.int s0])) := by
    intro _ f y4 s0 H locs ls hw hl h
    unfold fX7_line_44 at h
    refine lv_istore (lv' := [(5, .int s0), (0, .ref (ad 0)), (3, .int x3), (4, .int y4)]) hx hb dX7_line_44 hl (by decide) rfl (fun ls hl => ?_)
    refine lv_iload_n hx hb dX7_line_46 rfl (lv_at hl 2 rfl) ?_
    by_cases hc13 : x3 = 0
    · have h := it hc13 h
      refine lv_tableIn (off := 37) (tgt := 84) hx hb dX7_line_47 (by rw [hc13]; decide) (by rw [hc13]; decide) (by rw [hc13]; rfl) (by decide) ?_
      refine lv_aload_n hx hb dX7_line_84 rfl (lv_at hl 1 rfl) ?_
      refine h_getR hx hb hts hnX7_line_X7 hown hK hw hS.1 rfl 3 (by decide) rfl hkX7_line_31 dX7_line_85 ?_
      refine h_getR hx hb hts hnX7_line_X2 hown hK hw hS.2.2.2.2.1.1 rfl 1 (by decide) rfl hkX7_line_108 dX7_line_88 ?_
      refine h_getR hx hb hts hnX7_line_X0 hown hK hw hS.2.2.2.2.1.2.2.2.1.1 rfl 5 (by decide) rfl hkX7_line_152 dX7_line_91 ?_
      refine lv_iload hx hb dX7_line_94 (lv_at hl 3 rfl) ?_
      obtain ⟨hi1, h⟩ := gd_s h
      refine h_iald hx hb hK hw hS.2.2.2.2.1.2.2.2.1.2.2.2.2.2.1 hi1 dX7_line_96 ?_
      exact h_retQ hx hb hr hlocks hw rfl (so2 h) dX7_line_97
    · have h := ie hc13 h
      by_cases hc14 : x3 = 1
      · have h := it hc14 h
        refine lv_tableIn (off := 51) (tgt := 98) hx hb dX7_line_47 (by rw [hc14]; decide) (by rw [hc14]; decide) (by rw [hc14]; rfl) (by decide) ?_
        refine lv_iload hx hb dX7_line_98 (lv_at hl 0 rfl) ?_
        refine lv_if_eq (tgt := 119) hx hb dX7_line_100 (by decide) (fun hc2 => ?_) (fun hc2 => ?_)
        · have h := it hc2 h
          refine lv_bipush (v := (-4)) hx hb dX7_line_119 (by decide) ?_
          exact h_retQ hx hb hr hlocks hw rfl (so2 h) dX7_line_121
        · have h := ie hc2 h
          refine lv_aload_n hx hb dX7_line_103 rfl (lv_at hl 1 rfl) ?_
          refine h_getR hx hb hts hnX7_line_X7 hown hK hw hS.1 rfl 3 (by decide) rfl hkX7_line_31 dX7_line_104 ?_
          refine h_getR hx hb hts hnX7_line_X2 hown hK hw hS.2.2.2.2.1.1 rfl 1 (by decide) rfl hkX7_line_108 dX7_line_107 ?_
          refine h_getR hx hb hts hnX7_line_X0 hown hK hw hS.2.2.2.2.1.2.2.2.1.1 rfl 6 (by decide) rfl hkX7_line_155 dX7_line_110 ?_
          refine lv_iload hx hb dX7_line_113 (lv_at hl 3 rfl) ?_
          obtain ⟨hi3, h⟩ := gd_s h
          refine h_iald hx hb hK hw hS.2.2.2.2.1.2.2.2.1.2.2.2.2.2.2.1 hi3 dX7_line_115 ?_
          refine lv_goto (tgt := 121) hx hb dX7_line_116 (by decide) ?_
          exact h_retQ hx hb hr hlocks hw rfl (so2 h) dX7_line_121
      · have h := ie hc14 h
        by_cases hc15 : x3 = 2
        · have h := it hc15 h
          refine lv_tableIn (off := 75) (tgt := 122) hx hb dX7_line_47 (by rw [hc15]; decide) (by rw [hc15]; decide) (by rw [hc15]; rfl) (by decide) ?_
          refine lv_iload hx hb dX7_line_122 (lv_at hl 0 rfl) ?_
          refine lv_if_eq (tgt := 143) hx hb dX7_line_124 (by decide) (fun hc4 => ?_) (fun hc4 => ?_)
          · have h := it hc4 h
            refine lv_bipush (v := (-4)) hx hb dX7_line_143 (by decide) ?_
            exact h_retQ hx hb hr hlocks hw rfl (so2 h) dX7_line_145
          · have h := ie hc4 h
            refine lv_aload_n hx hb dX7_line_127 rfl (lv_at hl 1 rfl) ?_
            refine h_getR hx hb hts hnX7_line_X7 hown hK hw hS.1 rfl 3 (by decide) rfl hkX7_line_31 dX7_line_128 ?_
            refine h_getR hx hb hts hnX7_line_X2 hown hK hw hS.2.2.2.2.1.1 rfl 1 (by decide) rfl hkX7_line_108 dX7_line_131 ?_
            refine h_getR hx hb hts hnX7_line_X0 hown hK hw hS.2.2.2.2.1.2.2.2.1.1 rfl 7 (by decide) rfl hkX7_line_158 dX7_line_134 ?_
            refine lv_iload hx hb dX7_line_137 (lv_at hl 3 rfl) ?_
            obtain ⟨hi5, h⟩ := gd_s h
            refine h_iald hx hb hK hw hS.2.2.2.2.1.2.2.2.1.2.2.2.2.2.2.2.1 hi5 dX7_line_139 ?_
            refine lv_goto (tgt := 145) hx hb dX7_line_140 (by decide) ?_
            exact h_retQ hx hb hr hlocks hw rfl (so2 h) dX7_line_145
        · have h := ie hc15 h
          by_cases hc16 : x3 = 3
          · have h := it hc16 h
            refine lv_tableIn (off := 99) (tgt := 146) hx hb dX7_line_47 (by rw [hc16]; decide) (by rw [hc16]; decide) (by rw [hc16]; rfl) (by decide) ?_
            refine lv_aload_n hx hb dX7_line_146 rfl (lv_at hl 1 rfl) ?_
            refine h_getR hx hb hts hnX7_line_X7 hown hK hw hS.1 rfl 3 (by decide) rfl hkX7_line_31 dX7_line_147 ?_
            refine h_getR hx hb hts hnX7_line_X2 hown hK hw hS.2.2.2.2.1.1 rfl 1 (by decide) rfl hkX7_line_108 dX7_line_150 ?_
            refine h_getR hx hb hts hnX7_line_X0 hown hK hw hS.2.2.2.2.1.2.2.2.1.1 rfl 4 (by decide) rfl hkX7_line_149 dX7_line_153 ?_
            refine lv_iload hx hb dX7_line_156 (lv_at hl 3 rfl) ?_
            obtain ⟨hi6, h⟩ := gd_s h
            refine h_iald hx hb hK hw hS.2.2.2.2.1.2.2.2.1.2.2.2.2.1 hi6 dX7_line_158 ?_
            refine lv_if_ne (tgt := 166) hx hb dX7_line_159 (by decide) (fun hc7 => ?_) (fun hc7 => ?_)
            · have h := ie hc7 h
              refine lv_iconst (v := 0) hx hb dX7_line_166 (by decide) ?_
              exact h_retQ hx hb hr hlocks hw rfl (so2 h) dX7_line_167
            · have h := it hc7 h
              refine lv_iconst (v := 1) hx hb dX7_line_162 (by decide) ?_
              refine lv_goto (tgt := 167) hx hb dX7_line_163 (by decide) ?_
              exact h_retQ hx hb hr hlocks hw rfl (so2 h) dX7_line_167
          · have h := ie hc16 h
            by_cases hc17 : x3 = 4
            · have h := it hc17 h
              refine lv_tableIn (off := 121) (tgt := 168) hx hb dX7_line_47 (by rw [hc17]; decide) (by rw [hc17]; decide) (by rw [hc17]; rfl) (by decide) ?_
              refine lv_aload_n hx hb dX7_line_168 rfl (lv_at hl 1 rfl) ?_
              refine h_getR hx hb hts hnX7_line_X7 hown hK hw hS.1 rfl 3 (by decide) rfl hkX7_line_31 dX7_line_169 ?_
              refine lv_iload hx hb dX7_line_172 (lv_at hl 3 rfl) ?_
              obtain ⟨r8, f9, ef9, h⟩ := b2_s h
              refine h_callQ hw (va_runV (As := [.int y4]) (rest := []) ⟨hx, hb, hml, hown, hts⟩ (mX2_isHeld l D ac ad S 19 3 f y4 r8 f9 hS.2.2.2.2.1 ef9) (cwV 1 hts gX7_line_X2_isHeld rfl rfl rfl (by decide +kernel) ⟨Nat.le_of_ble_eq_true rfl, Nat.le_of_ble_eq_true rfl⟩) (h_preV hK hw hS.2.2.2.2.1.1 rfl _) rfl rfl hl.1 rfl (lv_room (Nat.le_of_ble_eq_true rfl)) dX7_line_174 ⟨Nat.le_of_ble_eq_true rfl, Nat.le_of_ble_eq_true rfl⟩) (fun H locs hw => ?_)
              refine lv_if_eq (tgt := 184) hx hb dX7_line_177 (by decide) (fun hc10 => ?_) (fun hc10 => ?_)
              · have h := it hc10 h
                refine lv_iconst (v := 0) hx hb dX7_line_184 (by decide) ?_
                exact h_retQ hx hb hr hlocks hw rfl (so2 h) dX7_line_185
              · have h := ie hc10 h
                refine lv_iconst (v := 1) hx hb dX7_line_180 (by decide) ?_
                refine lv_goto (tgt := 185) hx hb dX7_line_181 (by decide) ?_
                exact h_retQ hx hb hr hlocks hw rfl (so2 h) dX7_line_185
            · have h := ie hc17 h
              by_cases hc18 : x3 = 5
              · have h := it hc18 h
                refine lv_tableIn (off := 139) (tgt := 186) hx hb dX7_line_47 (by rw [hc18]; decide) (by rw [hc18]; decide) (by rw [hc18]; rfl) (by decide) ?_
                refine lv_iload hx hb dX7_line_186 (lv_at hl 0 rfl) ?_
                refine lv_if_eq (tgt := 207) hx hb dX7_line_188 (by decide) (fun hc11 => ?_) (fun hc11 => ?_)
                · have h := it hc11 h
                  refine lv_bipush (v := (-4)) hx hb dX7_line_207 (by decide) ?_
                  exact h_retQ hx hb hr hlocks hw rfl (so2 h) dX7_line_209
                · have h := ie hc11 h
                  refine lv_aload_n hx hb dX7_line_191 rfl (lv_at hl 1 rfl) ?_
                  refine h_getR hx hb hts hnX7_line_X7 hown hK hw hS.1 rfl 3 (by decide) rfl hkX7_line_31 dX7_line_192 ?_
                  refine h_getR hx hb hts hnX7_line_X2 hown hK hw hS.2.2.2.2.1.1 rfl 1 (by decide) rfl hkX7_line_108 dX7_line_195 ?_
                  refine h_getR hx hb hts hnX7_line_X0 hown hK hw hS.2.2.2.2.1.2.2.2.1.1 rfl 8 (by decide) rfl hkX7_line_164 dX7_line_198 ?_
                  refine lv_iload hx hb dX7_line_201 (lv_at hl 3 rfl) ?_
                  obtain ⟨hi12, h⟩ := gd_s h
                  refine h_iald hx hb hK hw hS.2.2.2.2.1.2.2.2.1.2.2.2.2.2.2.2.2 hi12 dX7_line_203 ?_
                  refine lv_goto (tgt := 209) hx hb dX7_line_204 (by decide) ?_
                  exact h_retQ hx hb hr hlocks hw rfl (so2 h) dX7_line_209
              · have h := ie hc18 h
                have nhc13 := lv_neT (a := 0) hc13 rfl
                have nhc14 := lv_neT (a := 1) hc14 rfl
                have nhc15 := lv_neT (a := 2) hc15 rfl
                have nhc16 := lv_neT (a := 3) hc16 rfl
                have nhc17 := lv_neT (a := 4) hc17 rfl
                have nhc18 := lv_neT (a := 5) hc18 rfl
                refine lv_tableOut (tgt := 210) hx hb dX7_line_47 (by omega) (by decide) ?_
                refine lv_iconst (v := (-1)) hx hb dX7_line_210 (by decide) ?_
                exact h_retQ hx hb hr hlocks hw rfl (so2 h) dX7_line_211
  unfold fX7_line at h
  refine lv_aload_n hx hb dX7_line_0 rfl (lv_at hl 0 rfl) ?_
  refine h_getR hx hb hts hnX7_line_X7 hown hK hw hS.1 rfl 3 (by decide) rfl hkX7_line_31 dX7_line_1 ?_
  refine h_getR hx hb hts hnX7_line_X2 hown hK hw hS.2.2.2.2.1.1 rfl 1 (by decide) rfl hkX7_line_108 dX7_line_4 ?_
  refine lv_iload_n hx hb dX7_line_7 rfl (lv_at hl 1 rfl) ?_
  refine lv_iload_n hx hb dX7_line_8 rfl (lv_at hl 2 rfl) ?_
  obtain ⟨r1, er1, h⟩ := b1_s h
  refine h_callR (va_runV (As := [.int x1, .int x2]) (rest := []) ⟨hx, hb, hml, hown, hts⟩ (mX0_slotOf l D ac ad S 20 f x1 x2 r1 hS.2.2.2.2.1.2.2.2.1 er1) (cwV 2 hts gX7_line_X0_slotOf rfl rfl rfl (by decide +kernel) ⟨Nat.le_of_ble_eq_true rfl, Nat.le_of_ble_eq_true rfl⟩) (h_preV hK hw hS.2.2.2.2.1.2.2.2.1.1 rfl _) rfl rfl hl.1 rfl (lv_room (Nat.le_of_ble_eq_true rfl)) dX7_line_9 ⟨Nat.le_of_ble_eq_true rfl, Nat.le_of_ble_eq_true rfl⟩) ?_
  refine lv_istore (lv' := [(4, .int r1), (0, .ref (ad 0)), (1, .int x1), (2, .int x2), (3, .int x3)]) hx hb dX7_line_12 hl (by decide) rfl (fun ls hl => ?_)
  refine lv_iload hx hb dX7_line_14 (lv_at hl 0 rfl) ?_
  refine lv_iconst (v := (-1)) hx hb dX7_line_16 (by decide) ?_
  refine lv_icmp_ne (tgt := 22) hx hb dX7_line_17 (by decide) (fun hc2 => ?_) (fun hc2 => ?_)
  · have h := ie hc2 h
    refine lv_aload_n hx hb dX7_line_22 rfl (lv_at hl 1 rfl) ?_
    refine h_getR hx hb hts hnX7_line_X7 hown hK hw hS.1 rfl 3 (by decide) rfl hkX7_line_31 dX7_line_23 ?_
    refine h_getR hx hb hts hnX7_line_X2 hown hK hw hS.2.2.2.2.1.1 rfl 1 (by decide) rfl hkX7_line_108 dX7_line_26 ?_
    refine h_getR hx hb hts hnX7_line_X0 hown hK hw hS.2.2.2.2.1.2.2.2.1.1 rfl 4 (by decide) rfl hkX7_line_149 dX7_line_29 ?_
    refine lv_iload hx hb dX7_line_32 (lv_at hl 0 rfl) ?_
    obtain ⟨hi3, h⟩ := gd_s h
    refine h_iald hx hb hK hw hS.2.2.2.2.1.2.2.2.1.2.2.2.2.1 hi3 dX7_line_34 ?_
    refine lv_iconst (v := 1) hx hb dX7_line_35 (by decide) ?_
    refine lv_icmp_ne (tgt := 43) hx hb dX7_line_36 (by decide) (fun hc4 => ?_) (fun hc4 => ?_)
    · have h := ie hc4 h
      refine lv_iconst (v := 0) hx hb dX7_line_43 (by decide) ?_
      exact J44 () f r1 0 _ _ _ hw (lv_sub hl [1, 4, 0] rfl) h
    · have h := it hc4 h
      refine lv_iconst (v := 1) hx hb dX7_line_39 (by decide) ?_
      refine lv_goto (tgt := 44) hx hb dX7_line_40 (by decide) ?_
      exact J44 () f r1 1 _ _ _ hw (lv_sub hl [1, 4, 0] rfl) h
  · have h := it hc2 h
    refine lv_iconst (v := (-1)) hx hb dX7_line_20 (by decide) ?_
    exact h_retQ hx hb hr hlocks hw rfl (so2 h) dX7_line_21

theorem hnX3_areTwo_X3 : ∀ w ∈ wsX30, w ∈ wsX3_areTwo := by decide +kernel
theorem hkX3_areTwo_34 : Cond.fieldLink RX3 34 (TX3 0).1 (TX3 0).2.1 (TX3 0).2.2.1 ∈ wsX3_areTwo := by decide +kernel
set_option maxHeartbeats 8000000 in
set_option maxRecDepth 100000 in
theorem mX3_areTwo (l : Launch) (D : va_G) (ac : Nat → ClassId) (ad : Nat → Nat) (S : List hSh) (k : Nat) (f : hF) (x1 : Int32) (x2 : Int32) (rv : Int32) (hS : isRo S k) (h : fX3_areTwo k f x1 x2 = some rv) : Met l yX3_areTwo wsX3_areTwo ({ frames := 0, cells := 0, slots := 0, locals := 0 }) (hPc D ac ad S f [.ref (ad k), .int x1, .int x2]) (hRi rv) 0 0 hNo := by
  refine h_enter (C := RX3) (cc := cX3_areTwo) (maxL := 3) (ret := (some .boolean)) (lv := [(0, .ref (ad k)), (1, .int x1), (2, .int x2)]) (by decide) rfl rfl (Nat.le_of_ble_eq_true rfl) rfl (fun p e s m below meth c ls hx hb hml hr hlocks hown hts hK hw hl => ?_)
  unfold fX3_areTwo at h
  refine lv_iload_n hx hb dX3_areTwo_0 rfl (lv_at hl 1 rfl) ?_
  refine lv_iload_n hx hb dX3_areTwo_1 rfl (lv_at hl 2 rfl) ?_
  refine lv_icmp_eq (tgt := 33) hx hb dX3_areTwo_2 (by decide) (fun hc1 => ?_) (fun hc1 => ?_)
  · have h := it hc1 h
    refine lv_iconst (v := 0) hx hb dX3_areTwo_33 (by decide) ?_
    exact h_retR hx hb hr hlocks rfl (so1 h) dX3_areTwo_34
  · have h := ie hc1 h
    refine lv_iload_n hx hb dX3_areTwo_5 rfl (lv_at hl 1 rfl) ?_
    refine lv_if_lt (tgt := 33) hx hb dX3_areTwo_6 (by decide) (fun hc2 => ?_) (fun hc2 => ?_)
    · have h := it hc2 h
      refine lv_iconst (v := 0) hx hb dX3_areTwo_33 (by decide) ?_
      exact h_retR hx hb hr hlocks rfl (so1 h) dX3_areTwo_34
    · have h := ie hc2 h
      refine lv_iload_n hx hb dX3_areTwo_9 rfl (lv_at hl 1 rfl) ?_
      refine lv_aload_n hx hb dX3_areTwo_10 rfl (lv_at hl 0 rfl) ?_
      refine h_getI hx hb hts hnX3_areTwo_X3 hown hK hw hS.1 rfl 0 (by decide) rfl hkX3_areTwo_34 dX3_areTwo_11 ?_
      refine lv_icmp_ge (tgt := 33) hx hb dX3_areTwo_14 (by decide) (fun hc3 => ?_) (fun hc3 => ?_)
      · have h := it hc3 h
        refine lv_iconst (v := 0) hx hb dX3_areTwo_33 (by decide) ?_
        exact h_retR hx hb hr hlocks rfl (so1 h) dX3_areTwo_34
      · have h := ie hc3 h
        refine lv_iload_n hx hb dX3_areTwo_17 rfl (lv_at hl 2 rfl) ?_
        refine lv_if_lt (tgt := 33) hx hb dX3_areTwo_18 (by decide) (fun hc4 => ?_) (fun hc4 => ?_)
        · have h := it hc4 h
          refine lv_iconst (v := 0) hx hb dX3_areTwo_33 (by decide) ?_
          exact h_retR hx hb hr hlocks rfl (so1 h) dX3_areTwo_34
        · have h := ie hc4 h
          refine lv_iload_n hx hb dX3_areTwo_21 rfl (lv_at hl 2 rfl) ?_
          refine lv_aload_n hx hb dX3_areTwo_22 rfl (lv_at hl 0 rfl) ?_
          refine h_getI hx hb hts hnX3_areTwo_X3 hown hK hw hS.1 rfl 0 (by decide) rfl hkX3_areTwo_34 dX3_areTwo_23 ?_
          refine lv_icmp_ge (tgt := 33) hx hb dX3_areTwo_26 (by decide) (fun hc5 => ?_) (fun hc5 => ?_)
          · have h := it hc5 h
            refine lv_iconst (v := 0) hx hb dX3_areTwo_33 (by decide) ?_
            exact h_retR hx hb hr hlocks rfl (so1 h) dX3_areTwo_34
          · have h := ie hc5 h
            refine lv_iconst (v := 1) hx hb dX3_areTwo_29 (by decide) ?_
            refine lv_goto (tgt := 34) hx hb dX3_areTwo_30 (by decide) ?_
            exact h_retR hx hb hr hlocks rfl (so1 h) dX3_areTwo_34

theorem hnX3_canPair_X3 : ∀ w ∈ wsX30, w ∈ wsX3_canPair := by decide +kernel
theorem hkX3_canPair_15 : Cond.fieldLink RX3 15 (TX3 4).1 (TX3 4).2.1 (TX3 4).2.2.1 ∈ wsX3_canPair := by decide +kernel
theorem hkX3_canPair_9 : Cond.fieldLink RX3 9 (TX3 3).1 (TX3 3).2.1 (TX3 3).2.2.1 ∈ wsX3_canPair := by decide +kernel
set_option maxHeartbeats 8000000 in
set_option maxRecDepth 100000 in
theorem mX3_canPair (l : Launch) (D : va_G) (ac : Nat → ClassId) (ad : Nat → Nat) (S : List hSh) (k : Nat) (f : hF) (x1 : Int32) (x2 : Int32) (rv : Int32) (hS : isRo S k) (h : fX3_canPair k f x1 x2 = some rv) : Met l yX3_canPair wsX3_canPair ({ frames := 1, cells := 0, slots := 0, locals := 22 }) (hPc D ac ad S f [.ref (ad k), .int x1, .int x2]) (hRi rv) 0 0 hNo := by
  refine h_enter (C := RX3) (cc := cX3_canPair) (maxL := 5) (ret := (some .boolean)) (lv := [(0, .ref (ad k)), (1, .int x1), (2, .int x2)]) (by decide) rfl rfl (Nat.le_of_ble_eq_true rfl) rfl (fun p e s m below meth c ls hx hb hml hr hlocks hown hts hK hw hl => ?_)
  have J55 : ∀ (_ : Unit), (∀ (y3 : Int32) (s0 : Int32) (ls : Array Slot), lv_has ls 5 [(0, .ref (ad k)), (3, .int y3)] → fX3_canPair_55 k f x1 x2 y3 s0 = some rv → W p l e ({ frames := 1, cells := 0, slots := 0, locals := 22 } : Room) s m ([.ref (ad k), .int x1, .int x2] : List Value).toArray below meth c s.heap [] 0 0 (MQ below (hRi rv) ([.ref (ad k), .int x1, .int x2] : List Value).toArray s 0 0 hNo) (F0 m 55 ls [.int s0])) := by
    intro _ y3 s0 ls hl h
    unfold fX3_canPair_55 at h
    refine lv_istore (lv' := [(4, .int s0), (0, .ref (ad k)), (3, .int y3)]) hx hb dX3_canPair_55 hl (by decide) rfl (fun ls hl => ?_)
    refine lv_aload_n hx hb dX3_canPair_57 rfl (lv_at hl 1 rfl) ?_
    refine h_getR hx hb hts hnX3_canPair_X3 hown hK hw hS.1 rfl 4 (by decide) rfl hkX3_canPair_15 dX3_canPair_58 ?_
    refine lv_iload hx hb dX3_canPair_61 (lv_at hl 0 rfl) ?_
    obtain ⟨hi1, h⟩ := gd_s h
    refine h_iald hx hb hK hw hS.2.2.1 hi1 dX3_canPair_63 ?_
    refine lv_iconst (v := 2) hx hb dX3_canPair_64 (by decide) ?_
    refine lv_icmp_ne (tgt := 78) hx hb dX3_canPair_65 (by decide) (fun hc2 => ?_) (fun hc2 => ?_)
    · have h := ie hc2 h
      refine lv_iconst (v := 1) hx hb dX3_canPair_78 (by decide) ?_
      refine lv_goto (tgt := 83) hx hb dX3_canPair_79 (by decide) ?_
      exact h_retR hx hb hr hlocks rfl (so1 h) dX3_canPair_83
    · have h := it hc2 h
      refine lv_aload_n hx hb dX3_canPair_68 rfl (lv_at hl 1 rfl) ?_
      refine h_getR hx hb hts hnX3_canPair_X3 hown hK hw hS.1 rfl 4 (by decide) rfl hkX3_canPair_15 dX3_canPair_69 ?_
      refine lv_iload_n hx hb dX3_canPair_72 rfl (lv_at hl 2 rfl) ?_
      obtain ⟨hi3, h⟩ := gd_s h
      refine h_iald hx hb hK hw hS.2.2.1 hi3 dX3_canPair_73 ?_
      refine lv_iconst (v := 2) hx hb dX3_canPair_74 (by decide) ?_
      refine lv_icmp_ne (tgt := 82) hx hb dX3_canPair_75 (by decide) (fun hc4 => ?_) (fun hc4 => ?_)
      · have h := ie hc4 h
        refine lv_iconst (v := 0) hx hb dX3_canPair_82 (by decide) ?_
        exact h_retR hx hb hr hlocks rfl (so1 h) dX3_canPair_83
      · have h := it hc4 h
        refine lv_iconst (v := 1) hx hb dX3_canPair_78 (by decide) ?_
        refine lv_goto (tgt := 83) hx hb dX3_canPair_79 (by decide) ?_
        exact h_retR hx hb hr hlocks rfl (so1 h) dX3_canPair_83
  have J40 : ∀ (_ : Unit), (∀ (s0 : Int32) (ls : Array Slot), lv_has ls 5 [(0, .ref (ad k)), (1, .int x1), (2, .int x2)] → fX3_canPair_40 k f x1 x2 s0 = some rv → W p l e ({ frames := 1, cells := 0, slots := 0, locals := 22 } : Room) s m ([.ref (ad k), .int x1, .int x2] : List Value).toArray below meth c s.heap [] 0 0 (MQ below (hRi rv) ([.ref (ad k), .int x1, .int x2] : List Value).toArray s 0 0 hNo) (F0 m 40 ls [.int s0])) := by
    intro _ s0 ls hl h
    unfold fX3_canPair_40 at h
    refine lv_istore_n (lv' := [(3, .int s0), (0, .ref (ad k)), (1, .int x1), (2, .int x2)]) hx hb dX3_canPair_40 rfl hl (by decide) rfl (fun ls hl => ?_)
    refine lv_aload_n hx hb dX3_canPair_41 rfl (lv_at hl 1 rfl) ?_
    refine h_getR hx hb hts hnX3_canPair_X3 hown hK hw hS.1 rfl 3 (by decide) rfl hkX3_canPair_9 dX3_canPair_42 ?_
    refine lv_iload_n hx hb dX3_canPair_45 rfl (lv_at hl 2 rfl) ?_
    obtain ⟨hi1, h⟩ := gd_s h
    refine h_zald hx hb hK hw hS.2.1 hi1 dX3_canPair_46 ?_
    refine lv_if_eq (tgt := 54) hx hb dX3_canPair_47 (by decide) (fun hc2 => ?_) (fun hc2 => ?_)
    · have h := it hc2 h
      refine lv_iload_n hx hb dX3_canPair_54 rfl (lv_at hl 3 rfl) ?_
      exact J55 () s0 x2 _ (lv_sub hl [1, 0] rfl) h
    · have h := ie hc2 h
      refine lv_iload_n hx hb dX3_canPair_50 rfl (lv_at hl 2 rfl) ?_
      refine lv_goto (tgt := 55) hx hb dX3_canPair_51 (by decide) ?_
      exact J55 () s0 x1 _ (lv_sub hl [1, 0] rfl) h
  unfold fX3_canPair at h
  refine lv_aload_n hx hb dX3_canPair_0 rfl (lv_at hl 0 rfl) ?_
  refine lv_iload_n hx hb dX3_canPair_1 rfl (lv_at hl 1 rfl) ?_
  refine lv_iload_n hx hb dX3_canPair_2 rfl (lv_at hl 2 rfl) ?_
  obtain ⟨r1, er1, h⟩ := b1_s h
  refine h_callR (va_runV (As := [.int x1, .int x2]) (rest := []) ⟨hx, hb, hml, hown, hts⟩ (mX3_areTwo l D ac ad S k f x1 x2 r1 hS er1) (cwV 2 hts gX3_canPair_X3_areTwo rfl rfl rfl (by decide +kernel) ⟨Nat.le_of_ble_eq_true rfl, Nat.le_of_ble_eq_true rfl⟩) (h_preV hK hw hS.1 rfl _) rfl rfl hl.1 rfl (lv_room (Nat.le_of_ble_eq_true rfl)) dX3_canPair_3 ⟨Nat.le_of_ble_eq_true rfl, Nat.le_of_ble_eq_true rfl⟩) ?_
  refine lv_if_eq (tgt := 24) hx hb dX3_canPair_6 (by decide) (fun hc2 => ?_) (fun hc2 => ?_)
  · have h := it hc2 h
    refine lv_iconst (v := 0) hx hb dX3_canPair_24 (by decide) ?_
    exact h_retR hx hb hr hlocks rfl (so1 h) dX3_canPair_25
  · have h := ie hc2 h
    refine lv_aload_n hx hb dX3_canPair_9 rfl (lv_at hl 0 rfl) ?_
    refine h_getR hx hb hts hnX3_canPair_X3 hown hK hw hS.1 rfl 3 (by decide) rfl hkX3_canPair_9 dX3_canPair_10 ?_
    refine lv_iload_n hx hb dX3_canPair_13 rfl (lv_at hl 1 rfl) ?_
    obtain ⟨hi3, h⟩ := gd_s h
    refine h_zald hx hb hK hw hS.2.1 hi3 dX3_canPair_14 ?_
    refine lv_aload_n hx hb dX3_canPair_15 rfl (lv_at hl 0 rfl) ?_
    refine h_getR hx hb hts hnX3_canPair_X3 hown hK hw hS.1 rfl 3 (by decide) rfl hkX3_canPair_9 dX3_canPair_16 ?_
    refine lv_iload_n hx hb dX3_canPair_19 rfl (lv_at hl 2 rfl) ?_
    obtain ⟨hi4, h⟩ := gd_s h
    refine h_zald hx hb hK hw hS.2.1 hi4 dX3_canPair_20 ?_
    refine lv_icmp_ne (tgt := 26) hx hb dX3_canPair_21 (by decide) (fun hc5 => ?_) (fun hc5 => ?_)
    · have h := ie hc5 h
      refine lv_aload_n hx hb dX3_canPair_26 rfl (lv_at hl 0 rfl) ?_
      refine h_getR hx hb hts hnX3_canPair_X3 hown hK hw hS.1 rfl 3 (by decide) rfl hkX3_canPair_9 dX3_canPair_27 ?_
      refine lv_iload_n hx hb dX3_canPair_30 rfl (lv_at hl 1 rfl) ?_
      obtain ⟨hi6, h⟩ := gd_s h
      refine h_zald hx hb hK hw hS.2.1 hi6 dX3_canPair_31 ?_
      refine lv_if_eq (tgt := 39) hx hb dX3_canPair_32 (by decide) (fun hc7 => ?_) (fun hc7 => ?_)
      · have h := it hc7 h
        refine lv_iload_n hx hb dX3_canPair_39 rfl (lv_at hl 1 rfl) ?_
        exact J40 () x1 _ (lv_sub hl [0, 1, 2] rfl) h
      · have h := ie hc7 h
        refine lv_iload_n hx hb dX3_canPair_35 rfl (lv_at hl 2 rfl) ?_
        refine lv_goto (tgt := 40) hx hb dX3_canPair_36 (by decide) ?_
        exact J40 () x2 _ (lv_sub hl [0, 1, 2] rfl) h
    · have h := it hc5 h
      refine lv_iconst (v := 0) hx hb dX3_canPair_24 (by decide) ?_
      exact h_retR hx hb hr hlocks rfl (so1 h) dX3_canPair_25

theorem hnX2_isLaw_X2 : ∀ w ∈ wsX20, w ∈ wsX2_isLaw := by decide +kernel
theorem hkX2_isLaw_12 : Cond.fieldLink RX2 12 (TX2 1).1 (TX2 1).2.1 (TX2 1).2.2.1 ∈ wsX2_isLaw := by decide +kernel
theorem hnX2_isLaw_X0 : ∀ w ∈ wsX00, w ∈ wsX2_isLaw := by decide +kernel
theorem hkX2_isLaw_49 : Cond.fieldLink RX2 49 (TX0 0).1 (TX0 0).2.1 (TX0 0).2.2.1 ∈ wsX2_isLaw := by decide +kernel
theorem hkX2_isLaw_31 : Cond.fieldLink RX2 31 (TX2 0).1 (TX2 0).2.1 (TX2 0).2.2.1 ∈ wsX2_isLaw := by decide +kernel
theorem hnX2_isLaw_X3 : ∀ w ∈ wsX30, w ∈ wsX2_isLaw := by decide +kernel
theorem hkX2_isLaw_79 : Cond.fieldLink RX2 79 (TX3 2).1 (TX3 2).2.1 (TX3 2).2.2.1 ∈ wsX2_isLaw := by decide +kernel
set_option maxHeartbeats 8000000 in
set_option maxRecDepth 100000 in
theorem mX2_isLaw (l : Launch) (D : va_G) (ac : Nat → ClassId) (ad : Nat → Nat) (S : List hSh) (k : Nat) (ro : Nat) (f : hF) (rv : Int32) (hS : isHo S k ro) (h : fX2_isLaw k ro f = some rv) : Met l yX2_isLaw wsX2_isLaw ({ frames := 0, cells := 0, slots := 0, locals := 0 }) (hPc D ac ad S f [.ref (ad k)]) (hRi rv) 0 0 hNo := by
  refine h_enter (C := RX2) (cc := cX2_isLaw) (maxL := 1) (ret := (some .boolean)) (lv := [(0, .ref (ad k))]) (by decide) rfl rfl (Nat.le_of_ble_eq_true rfl) rfl (fun p e s m below meth c ls hx hb hml hr hlocks hown hts hK hw hl => ?_)
  unfold fX2_isLaw at h
  refine lv_aload_n hx hb dX2_isLaw_0 rfl (lv_at hl 0 rfl) ?_
  refine h_getR hx hb hts hnX2_isLaw_X2 hown hK hw hS.1 rfl 1 (by decide) rfl hkX2_isLaw_12 dX2_isLaw_1 ?_
  refine h_getI hx hb hts hnX2_isLaw_X0 hown hK hw hS.2.2.2.1.1 rfl 0 (by decide) rfl hkX2_isLaw_49 dX2_isLaw_4 ?_
  refine lv_aload_n hx hb dX2_isLaw_7 rfl (lv_at hl 0 rfl) ?_
  refine h_getR hx hb hts hnX2_isLaw_X2 hown hK hw hS.1 rfl 0 (by decide) rfl hkX2_isLaw_31 dX2_isLaw_8 ?_
  refine h_getI hx hb hts hnX2_isLaw_X3 hown hK hw hS.2.2.1.1 rfl 2 (by decide) rfl hkX2_isLaw_79 dX2_isLaw_11 ?_
  refine lv_icmp_lt (tgt := 21) hx hb dX2_isLaw_14 (by decide) (fun hc1 => ?_) (fun hc1 => ?_)
  · have h := it hc1 h
    refine lv_iconst (v := 0) hx hb dX2_isLaw_21 (by decide) ?_
    exact h_retR hx hb hr hlocks rfl (so1 h) dX2_isLaw_22
  · have h := ie hc1 h
    refine lv_iconst (v := 1) hx hb dX2_isLaw_17 (by decide) ?_
    refine lv_goto (tgt := 22) hx hb dX2_isLaw_18 (by decide) ?_
    exact h_retR hx hb hr hlocks rfl (so1 h) dX2_isLaw_22

theorem hnX2_canPay_X2 : ∀ w ∈ wsX20, w ∈ wsX2_canPay := by decide +kernel
theorem hkX2_canPay_31 : Cond.fieldLink RX2 31 (TX2 0).1 (TX2 0).2.1 (TX2 0).2.2.1 ∈ wsX2_canPay := by decide +kernel
theorem hkX2_canPay_12 : Cond.fieldLink RX2 12 (TX2 1).1 (TX2 1).2.1 (TX2 1).2.2.1 ∈ wsX2_canPay := by decide +kernel
theorem hnX2_canPay_X0 : ∀ w ∈ wsX00, w ∈ wsX2_canPay := by decide +kernel
theorem hkX2_canPay_82 : Cond.fieldLink RX2 82 (TX0 1).1 (TX0 1).2.1 (TX0 1).2.2.1 ∈ wsX2_canPay := by decide +kernel
set_option maxHeartbeats 8000000 in
set_option maxRecDepth 100000 in
theorem mX2_canPay (l : Launch) (D : va_G) (ac : Nat → ClassId) (ad : Nat → Nat) (S : List hSh) (k : Nat) (ro : Nat) (f : hF) (x1 : Int32) (x2 : Int32) (x3 : Int32) (rv : Int32) (hS : isHo S k ro) (h : fX2_canPay k ro f x1 x2 x3 = some rv) : Met l yX2_canPay wsX2_canPay ({ frames := 1, cells := 0, slots := 0, locals := 21 }) (hPc D ac ad S f [.ref (ad k), .int x1, .int x2, .int x3]) (hRi rv) 0 0 hNo := by
  refine h_enter (C := RX2) (cc := cX2_canPay) (maxL := 4) (ret := (some .boolean)) (lv := [(0, .ref (ad k)), (1, .int x1), (2, .int x2), (3, .int x3)]) (by decide) rfl rfl (Nat.le_of_ble_eq_true rfl) rfl (fun p e s m below meth c ls hx hb hml hr hlocks hown hts hK hw hl => ?_)
  unfold fX2_canPay at h
  refine lv_aload_n hx hb dX2_canPay_0 rfl (lv_at hl 0 rfl) ?_
  refine h_getR hx hb hts hnX2_canPay_X2 hown hK hw hS.1 rfl 0 (by decide) rfl hkX2_canPay_31 dX2_canPay_1 ?_
  refine lv_iload_n hx hb dX2_canPay_4 rfl (lv_at hl 1 rfl) ?_
  obtain ⟨r1, er1, h⟩ := b1_s h
  refine h_callR (va_runV (As := [.int x1]) (rest := []) ⟨hx, hb, hml, hown, hts⟩ (mX3_isPerson l D ac ad S ro f x1 r1 hS.2.2.1 er1) (cwV 1 hts gX2_canPay_X3_isPerson rfl rfl rfl (by decide +kernel) ⟨Nat.le_of_ble_eq_true rfl, Nat.le_of_ble_eq_true rfl⟩) (h_preV hK hw hS.2.2.1.1 rfl _) rfl rfl hl.1 rfl (lv_room (Nat.le_of_ble_eq_true rfl)) dX2_canPay_5 ⟨Nat.le_of_ble_eq_true rfl, Nat.le_of_ble_eq_true rfl⟩) ?_
  refine lv_if_eq (tgt := 49) hx hb dX2_canPay_8 (by decide) (fun hc2 => ?_) (fun hc2 => ?_)
  · have h := it hc2 h
    refine lv_iconst (v := 0) hx hb dX2_canPay_49 (by decide) ?_
    exact h_retR hx hb hr hlocks rfl (so1 h) dX2_canPay_50
  · have h := ie hc2 h
    refine lv_aload_n hx hb dX2_canPay_11 rfl (lv_at hl 0 rfl) ?_
    refine h_getR hx hb hts hnX2_canPay_X2 hown hK hw hS.1 rfl 0 (by decide) rfl hkX2_canPay_31 dX2_canPay_12 ?_
    refine lv_iload_n hx hb dX2_canPay_15 rfl (lv_at hl 2 rfl) ?_
    obtain ⟨r3, er3, h⟩ := b1_s h
    refine h_callR (va_runV (As := [.int x2]) (rest := []) ⟨hx, hb, hml, hown, hts⟩ (mX3_isPerson l D ac ad S ro f x2 r3 hS.2.2.1 er3) (cwV 1 hts gX2_canPay_X3_isPerson rfl rfl rfl (by decide +kernel) ⟨Nat.le_of_ble_eq_true rfl, Nat.le_of_ble_eq_true rfl⟩) (h_preV hK hw hS.2.2.1.1 rfl _) rfl rfl hl.1 rfl (lv_room (Nat.le_of_ble_eq_true rfl)) dX2_canPay_16 ⟨Nat.le_of_ble_eq_true rfl, Nat.le_of_ble_eq_true rfl⟩) ?_
    refine lv_if_eq (tgt := 49) hx hb dX2_canPay_19 (by decide) (fun hc4 => ?_) (fun hc4 => ?_)
    · have h := it hc4 h
      refine lv_iconst (v := 0) hx hb dX2_canPay_49 (by decide) ?_
      exact h_retR hx hb hr hlocks rfl (so1 h) dX2_canPay_50
    · have h := ie hc4 h
      refine lv_aload_n hx hb dX2_canPay_22 rfl (lv_at hl 0 rfl) ?_
      refine h_getR hx hb hts hnX2_canPay_X2 hown hK hw hS.1 rfl 1 (by decide) rfl hkX2_canPay_12 dX2_canPay_23 ?_
      refine h_getR hx hb hts hnX2_canPay_X0 hown hK hw hS.2.2.2.1.1 rfl 1 (by decide) rfl hkX2_canPay_82 dX2_canPay_26 ?_
      refine lv_iload_n hx hb dX2_canPay_29 rfl (lv_at hl 1 rfl) ?_
      obtain ⟨hi5, h⟩ := gd_s h
      refine h_iald hx hb hK hw hS.2.2.2.1.2.1 hi5 dX2_canPay_30 ?_
      refine lv_aload_n hx hb dX2_canPay_31 rfl (lv_at hl 0 rfl) ?_
      refine h_getR hx hb hts hnX2_canPay_X2 hown hK hw hS.1 rfl 1 (by decide) rfl hkX2_canPay_12 dX2_canPay_32 ?_
      refine h_getR hx hb hts hnX2_canPay_X0 hown hK hw hS.2.2.2.1.1 rfl 1 (by decide) rfl hkX2_canPay_82 dX2_canPay_35 ?_
      refine lv_iload_n hx hb dX2_canPay_38 rfl (lv_at hl 2 rfl) ?_
      obtain ⟨hi6, h⟩ := gd_s h
      refine h_iald hx hb hK hw hS.2.2.2.1.2.1 hi6 dX2_canPay_39 ?_
      refine lv_iadd hx hb dX2_canPay_40 ?_
      refine lv_iload_n hx hb dX2_canPay_41 rfl (lv_at hl 3 rfl) ?_
      refine lv_icmp_lt (tgt := 49) hx hb dX2_canPay_42 (by decide) (fun hc7 => ?_) (fun hc7 => ?_)
      · have h := it hc7 h
        refine lv_iconst (v := 0) hx hb dX2_canPay_49 (by decide) ?_
        exact h_retR hx hb hr hlocks rfl (so1 h) dX2_canPay_50
      · have h := ie hc7 h
        refine lv_iconst (v := 1) hx hb dX2_canPay_45 (by decide) ?_
        refine lv_goto (tgt := 50) hx hb dX2_canPay_46 (by decide) ?_
        exact h_retR hx hb hr hlocks rfl (so1 h) dX2_canPay_50

theorem hnX0_hasRoom_X0 : ∀ w ∈ wsX00, w ∈ wsX0_hasRoom := by decide +kernel
theorem hkX0_hasRoom_18 : Cond.fieldLink RX0 18 (TX0 3).1 (TX0 3).2.1 (TX0 3).2.2.1 ∈ wsX0_hasRoom := by decide +kernel
set_option maxHeartbeats 8000000 in
set_option maxRecDepth 100000 in
theorem mX0_hasRoom (l : Launch) (D : va_G) (ac : Nat → ClassId) (ad : Nat → Nat) (S : List hSh) (k : Nat) (f : hF) (x1 : Int32) (rv : Int32) (hS : isBk S k) (h : fX0_hasRoom k f x1 = some rv) : Met l yX0_hasRoom wsX0_hasRoom ({ frames := 0, cells := 0, slots := 0, locals := 0 }) (hPc D ac ad S f [.ref (ad k), .int x1]) (hRi rv) 0 0 hNo := by
  refine h_enter (C := RX0) (cc := cX0_hasRoom) (maxL := 2) (ret := (some .boolean)) (lv := [(0, .ref (ad k)), (1, .int x1)]) (by decide) rfl rfl (Nat.le_of_ble_eq_true rfl) rfl (fun p e s m below meth c ls hx hb hml hr hlocks hown hts hK hw hl => ?_)
  unfold fX0_hasRoom at h
  refine lv_iload_n hx hb dX0_hasRoom_0 rfl (lv_at hl 1 rfl) ?_
  refine lv_if_lt (tgt := 24) hx hb dX0_hasRoom_1 (by decide) (fun hc1 => ?_) (fun hc1 => ?_)
  · have h := it hc1 h
    refine lv_iconst (v := 0) hx hb dX0_hasRoom_24 (by decide) ?_
    exact h_retR hx hb hr hlocks rfl (so1 h) dX0_hasRoom_25
  · have h := ie hc1 h
    refine lv_iload_n hx hb dX0_hasRoom_4 rfl (lv_at hl 1 rfl) ?_
    refine lv_iconst (v := 3) hx hb dX0_hasRoom_5 (by decide) ?_
    refine lv_icmp_ge (tgt := 24) hx hb dX0_hasRoom_6 (by decide) (fun hc2 => ?_) (fun hc2 => ?_)
    · have h := it hc2 h
      refine lv_iconst (v := 0) hx hb dX0_hasRoom_24 (by decide) ?_
      exact h_retR hx hb hr hlocks rfl (so1 h) dX0_hasRoom_25
    · have h := ie hc2 h
      refine lv_aload_n hx hb dX0_hasRoom_9 rfl (lv_at hl 0 rfl) ?_
      refine h_getR hx hb hts hnX0_hasRoom_X0 hown hK hw hS.1 rfl 3 (by decide) rfl hkX0_hasRoom_18 dX0_hasRoom_10 ?_
      refine lv_iload_n hx hb dX0_hasRoom_13 rfl (lv_at hl 1 rfl) ?_
      obtain ⟨hi3, h⟩ := gd_s h
      refine h_iald hx hb hK hw hS.2.2.2.1 hi3 dX0_hasRoom_14 ?_
      refine lv_bipush (v := 8) hx hb dX0_hasRoom_15 (by decide) ?_
      refine lv_icmp_ge (tgt := 24) hx hb dX0_hasRoom_17 (by decide) (fun hc4 => ?_) (fun hc4 => ?_)
      · have h := it hc4 h
        refine lv_iconst (v := 0) hx hb dX0_hasRoom_24 (by decide) ?_
        exact h_retR hx hb hr hlocks rfl (so1 h) dX0_hasRoom_25
      · have h := ie hc4 h
        refine lv_iconst (v := 1) hx hb dX0_hasRoom_20 (by decide) ?_
        refine lv_goto (tgt := 25) hx hb dX0_hasRoom_21 (by decide) ?_
        exact h_retR hx hb hr hlocks rfl (so1 h) dX0_hasRoom_25

theorem hnX2_refuseWedding_X2 : ∀ w ∈ wsX20, w ∈ wsX2_refuseWedding := by decide +kernel
theorem hkX2_refuseWedding_31 : Cond.fieldLink RX2 31 (TX2 0).1 (TX2 0).2.1 (TX2 0).2.2.1 ∈ wsX2_refuseWedding := by decide +kernel
theorem hnX2_refuseWedding_X3 : ∀ w ∈ wsX30, w ∈ wsX2_refuseWedding := by decide +kernel
theorem hkX2_refuseWedding_96 : Cond.fieldLink RX2 96 (TX3 8).1 (TX3 8).2.1 (TX3 8).2.2.1 ∈ wsX2_refuseWedding := by decide +kernel
theorem hkX2_refuseWedding_12 : Cond.fieldLink RX2 12 (TX2 1).1 (TX2 1).2.1 (TX2 1).2.2.1 ∈ wsX2_refuseWedding := by decide +kernel
set_option maxHeartbeats 8000000 in
set_option maxRecDepth 100000 in
theorem mX2_refuseWedding (l : Launch) (D : va_G) (ac : Nat → ClassId) (ad : Nat → Nat) (S : List hSh) (k : Nat) (ro : Nat) (f : hF) (x1 : Int32) (x2 : Int32) (x3 : Int32) (rv : Int32) (hS : isHo S k ro) (h : fX2_refuseWedding k ro f x1 x2 x3 = some rv) : Met l yX2_refuseWedding wsX2_refuseWedding ({ frames := 2, cells := 0, slots := 0, locals := 46 }) (hPc D ac ad S f [.ref (ad k), .int x1, .int x2, .int x3]) (hRi rv) 0 0 hNo := by
  refine h_enter (C := RX2) (cc := cX2_refuseWedding) (maxL := 4) (ret := (some .int)) (lv := [(0, .ref (ad k)), (1, .int x1), (2, .int x2), (3, .int x3)]) (by decide) rfl rfl (Nat.le_of_ble_eq_true rfl) rfl (fun p e s m below meth c ls hx hb hml hr hlocks hown hts hK hw hl => ?_)
  unfold fX2_refuseWedding at h
  refine lv_aload_n hx hb dX2_refuseWedding_0 rfl (lv_at hl 0 rfl) ?_
  refine h_getR hx hb hts hnX2_refuseWedding_X2 hown hK hw hS.1 rfl 0 (by decide) rfl hkX2_refuseWedding_31 dX2_refuseWedding_1 ?_
  refine lv_iload_n hx hb dX2_refuseWedding_4 rfl (lv_at hl 1 rfl) ?_
  obtain ⟨r1, er1, h⟩ := b1_s h
  refine h_callR (va_runV (As := [.int x1]) (rest := []) ⟨hx, hb, hml, hown, hts⟩ (mX3_isParson l D ac ad S ro f x1 r1 hS.2.2.1 er1) (cwV 1 hts gX2_refuseWedding_X3_isParson rfl rfl rfl (by decide +kernel) ⟨Nat.le_of_ble_eq_true rfl, Nat.le_of_ble_eq_true rfl⟩) (h_preV hK hw hS.2.2.1.1 rfl _) rfl rfl hl.1 rfl (lv_room (Nat.le_of_ble_eq_true rfl)) dX2_refuseWedding_5 ⟨Nat.le_of_ble_eq_true rfl, Nat.le_of_ble_eq_true rfl⟩) ?_
  refine lv_if_eq (tgt := 48) hx hb dX2_refuseWedding_8 (by decide) (fun hc2 => ?_) (fun hc2 => ?_)
  · have h := it hc2 h
    refine lv_bipush (v := (-2)) hx hb dX2_refuseWedding_48 (by decide) ?_
    exact h_retR hx hb hr hlocks rfl (so1 h) dX2_refuseWedding_50
  · have h := ie hc2 h
    refine lv_aload_n hx hb dX2_refuseWedding_11 rfl (lv_at hl 0 rfl) ?_
    refine h_getR hx hb hts hnX2_refuseWedding_X2 hown hK hw hS.1 rfl 0 (by decide) rfl hkX2_refuseWedding_31 dX2_refuseWedding_12 ?_
    refine lv_iload_n hx hb dX2_refuseWedding_15 rfl (lv_at hl 2 rfl) ?_
    refine lv_iload_n hx hb dX2_refuseWedding_16 rfl (lv_at hl 3 rfl) ?_
    obtain ⟨r3, er3, h⟩ := b1_s h
    refine h_callR (va_runV (As := [.int x2, .int x3]) (rest := []) ⟨hx, hb, hml, hown, hts⟩ (mX3_canPair l D ac ad S ro f x2 x3 r3 hS.2.2.1 er3) (cwV 2 hts gX2_refuseWedding_X3_canPair rfl rfl rfl (by decide +kernel) ⟨Nat.le_of_ble_eq_true rfl, Nat.le_of_ble_eq_true rfl⟩) (h_preV hK hw hS.2.2.1.1 rfl _) rfl rfl hl.1 rfl (lv_room (Nat.le_of_ble_eq_true rfl)) dX2_refuseWedding_17 ⟨Nat.le_of_ble_eq_true rfl, Nat.le_of_ble_eq_true rfl⟩) ?_
    refine lv_if_eq (tgt := 48) hx hb dX2_refuseWedding_20 (by decide) (fun hc4 => ?_) (fun hc4 => ?_)
    · have h := it hc4 h
      refine lv_bipush (v := (-2)) hx hb dX2_refuseWedding_48 (by decide) ?_
      exact h_retR hx hb hr hlocks rfl (so1 h) dX2_refuseWedding_50
    · have h := ie hc4 h
      refine lv_aload_n hx hb dX2_refuseWedding_23 rfl (lv_at hl 0 rfl) ?_
      obtain ⟨r5, er5, h⟩ := b1_s h
      refine h_callR (va_runV (As := []) (rest := []) ⟨hx, hb, hml, hown, hts⟩ (mX2_isLaw l D ac ad S k ro f r5 hS er5) (cwV 0 hts gX2_refuseWedding_X2_isLaw rfl rfl rfl (by decide +kernel) ⟨Nat.le_of_ble_eq_true rfl, Nat.le_of_ble_eq_true rfl⟩) (h_preV hK hw hS.1 rfl _) rfl rfl hl.1 rfl (lv_room (Nat.le_of_ble_eq_true rfl)) dX2_refuseWedding_24 ⟨Nat.le_of_ble_eq_true rfl, Nat.le_of_ble_eq_true rfl⟩) ?_
      refine lv_if_ne (tgt := 48) hx hb dX2_refuseWedding_27 (by decide) (fun hc6 => ?_) (fun hc6 => ?_)
      · have h := ie hc6 h
        refine lv_bipush (v := (-2)) hx hb dX2_refuseWedding_48 (by decide) ?_
        exact h_retR hx hb hr hlocks rfl (so1 h) dX2_refuseWedding_50
      · have h := it hc6 h
        refine lv_aload_n hx hb dX2_refuseWedding_30 rfl (lv_at hl 0 rfl) ?_
        refine lv_iload_n hx hb dX2_refuseWedding_31 rfl (lv_at hl 2 rfl) ?_
        refine lv_iload_n hx hb dX2_refuseWedding_32 rfl (lv_at hl 3 rfl) ?_
        refine lv_aload_n hx hb dX2_refuseWedding_33 rfl (lv_at hl 0 rfl) ?_
        refine h_getR hx hb hts hnX2_refuseWedding_X2 hown hK hw hS.1 rfl 0 (by decide) rfl hkX2_refuseWedding_31 dX2_refuseWedding_34 ?_
        refine h_getR hx hb hts hnX2_refuseWedding_X3 hown hK hw hS.2.2.1.1 rfl 8 (by decide) rfl hkX2_refuseWedding_96 dX2_refuseWedding_37 ?_
        refine lv_iload_n hx hb dX2_refuseWedding_40 rfl (lv_at hl 1 rfl) ?_
        obtain ⟨hi7, h⟩ := gd_s h
        refine h_iald hx hb hK hw hS.2.2.1.2.2.2.2.2.2.1 hi7 dX2_refuseWedding_41 ?_
        obtain ⟨r8, er8, h⟩ := b1_s h
        refine h_callR (va_runV (As := [.int x2, .int x3, .int (f (ro+6) x1.toNatClampNeg)]) (rest := []) ⟨hx, hb, hml, hown, hts⟩ (mX2_canPay l D ac ad S k ro f x2 x3 (f (ro+6) x1.toNatClampNeg) r8 hS er8) (cwV 3 hts gX2_refuseWedding_X2_canPay rfl rfl rfl (by decide +kernel) ⟨Nat.le_of_ble_eq_true rfl, Nat.le_of_ble_eq_true rfl⟩) (h_preV hK hw hS.1 rfl _) rfl rfl hl.1 rfl (lv_room (Nat.le_of_ble_eq_true rfl)) dX2_refuseWedding_42 ⟨Nat.le_of_ble_eq_true rfl, Nat.le_of_ble_eq_true rfl⟩) ?_
        refine lv_if_ne (tgt := 51) hx hb dX2_refuseWedding_45 (by decide) (fun hc9 => ?_) (fun hc9 => ?_)
        · have h := ie hc9 h
          refine lv_aload_n hx hb dX2_refuseWedding_51 rfl (lv_at hl 0 rfl) ?_
          refine h_getR hx hb hts hnX2_refuseWedding_X2 hown hK hw hS.1 rfl 1 (by decide) rfl hkX2_refuseWedding_12 dX2_refuseWedding_52 ?_
          refine lv_iload_n hx hb dX2_refuseWedding_55 rfl (lv_at hl 1 rfl) ?_
          obtain ⟨r10, er10, h⟩ := b1_s h
          refine h_callR (va_runV (As := [.int x1]) (rest := []) ⟨hx, hb, hml, hown, hts⟩ (mX0_hasRoom l D ac ad S (k+1) f x1 r10 hS.2.2.2.1 er10) (cwV 1 hts gX2_refuseWedding_X0_hasRoom rfl rfl rfl (by decide +kernel) ⟨Nat.le_of_ble_eq_true rfl, Nat.le_of_ble_eq_true rfl⟩) (h_preV hK hw hS.2.2.2.1.1 rfl _) rfl rfl hl.1 rfl (lv_room (Nat.le_of_ble_eq_true rfl)) dX2_refuseWedding_56 ⟨Nat.le_of_ble_eq_true rfl, Nat.le_of_ble_eq_true rfl⟩) ?_
          refine lv_if_eq (tgt := 66) hx hb dX2_refuseWedding_59 (by decide) (fun hc11 => ?_) (fun hc11 => ?_)
          · have h := it hc11 h
            refine lv_bipush (v := (-3)) hx hb dX2_refuseWedding_66 (by decide) ?_
            exact h_retR hx hb hr hlocks rfl (so1 h) dX2_refuseWedding_68
          · have h := ie hc11 h
            refine lv_iconst (v := 0) hx hb dX2_refuseWedding_62 (by decide) ?_
            refine lv_goto (tgt := 68) hx hb dX2_refuseWedding_63 (by decide) ?_
            exact h_retR hx hb hr hlocks rfl (so1 h) dX2_refuseWedding_68
        · have h := it hc9 h
          refine lv_bipush (v := (-2)) hx hb dX2_refuseWedding_48 (by decide) ?_
          exact h_retR hx hb hr hlocks rfl (so1 h) dX2_refuseWedding_50
