/-! contracts: X8_line X8_remembers X8_manOfTwo X8_womanOfTwo X8_canBeTwo X8_canPay X8_pays X8_isLaw X8_canWed X8_writes X8_begins X8_weds -/
theorem hnX8_line_X8 : ∀ w ∈ wsX80, w ∈ wsX8_line := by decide +kernel
theorem hkX8_line_46 : Cond.fieldLink RX8 46 (TX8 23).1 (TX8 23).2.1 (TX8 23).2.2.1 ∈ wsX8_line := by decide +kernel
theorem hkX8_line_43 : Cond.fieldLink RX8 43 (TX8 22).1 (TX8 22).2.1 (TX8 22).2.2.1 ∈ wsX8_line := by decide +kernel
set_option maxHeartbeats 8000000 in
set_option maxRecDepth 100000 in
theorem mX8_line (l : Launch) (D : va_G) (ac : Nat → ClassId) (ad : Nat → Nat) (S : List hSh) (f : hF) (x1 : Int32) (x2 : Int32) (x3 : Int32) (rv : Int32) (gv : hF) (hS : isMo S) (h : fX8_line f x1 x2 x3 = some (rv, gv)) : Met l yX8_line wsX8_line ({ frames := 4, cells := 0, slots := 0, locals := 87 }) (hPc D ac ad S f [.ref (ad 146), .int x1, .int x2, .int x3]) (hQi D ac ad S rv gv) 0 0 (hAd ad S.length) := by
  refine h_enter (C := RX8) (cc := cX8_line) (maxL := 6) (ret := (some .int)) (lv := [(0, .ref (ad 146)), (1, .int x1), (2, .int x2), (3, .int x3)]) (by decide) rfl rfl (Nat.le_of_ble_eq_true rfl) rfl (fun p e s m below meth c ls hx hb hml hr hlocks hown hts hK hw hl => ?_)
  unfold fX8_line at h
  refine lv_aload_n hx hb dX8_line_0 rfl (lv_at hl 0 rfl) ?_
  refine lv_iload_n hx hb dX8_line_1 rfl (lv_at hl 1 rfl) ?_
  refine lv_iload_n hx hb dX8_line_2 rfl (lv_at hl 2 rfl) ?_
  obtain ⟨r1, er1, h⟩ := b1_s h
  refine h_callR (va_runV (As := [.int x1, .int x2]) (rest := []) ⟨hx, hb, hml, hown, hts⟩ (mX8_isLine l D ac ad S f x1 x2 r1 hS er1) (cwV 2 hts gX8_line_X8_isLine rfl rfl rfl (by decide +kernel) ⟨Nat.le_of_ble_eq_true rfl, Nat.le_of_ble_eq_true rfl⟩) (h_preV hK hw hS.1 rfl _) rfl rfl hl.1 rfl (lv_room (Nat.le_of_ble_eq_true rfl)) dX8_line_3 ⟨Nat.le_of_ble_eq_true rfl, Nat.le_of_ble_eq_true rfl⟩) ?_
  refine lv_if_eq (tgt := 18) hx hb dX8_line_6 (by decide) (fun hc2 => ?_) (fun hc2 => ?_)
  · have h := it hc2 h
    refine lv_iconst (v := (-1)) hx hb dX8_line_18 (by decide) ?_
    exact h_retQ hx hb hr hlocks hw rfl (so2 h) dX8_line_19
  · have h := ie hc2 h
    refine lv_iload_n hx hb dX8_line_9 rfl (lv_at hl 3 rfl) ?_
    refine lv_iconst (v := 0) hx hb dX8_line_10 (by decide) ?_
    refine lv_iconst (v := 5) hx hb dX8_line_11 (by decide) ?_
    obtain ⟨r3, er3, h⟩ := b1_s h
    refine h_callR (va_runS (As := [.int x3, .int 0, .int 5]) (rest := []) ⟨hx, hb, hml, hown, hts⟩ (mX8_in l D ac ad S f x3 (0 : Int32) (5 : Int32) r3  er3) (va_cwS 3 hts gX8_line_X8_in rfl rfl rfl (by decide +kernel) ⟨Nat.le_of_ble_eq_true rfl, Nat.le_of_ble_eq_true rfl⟩) (h_preS hK hw _) rfl rfl hl.1 rfl (lv_room (Nat.le_of_ble_eq_true rfl)) dX8_line_12 ⟨Nat.le_of_ble_eq_true rfl, Nat.le_of_ble_eq_true rfl⟩) ?_
    refine lv_if_ne (tgt := 20) hx hb dX8_line_15 (by decide) (fun hc4 => ?_) (fun hc4 => ?_)
    · have h := ie hc4 h
      refine lv_aload_n hx hb dX8_line_20 rfl (lv_at hl 0 rfl) ?_
      obtain ⟨f5, ef5, h⟩ := b1_s h
      refine h_callV hw (va_runV (As := []) (rest := []) ⟨hx, hb, hml, hown, hts⟩ (mX8_asItIs l D ac ad S f f5 hS ef5) (cwV 0 hts gX8_line_X8_asItIs rfl rfl rfl (by decide +kernel) ⟨Nat.le_of_ble_eq_true rfl, Nat.le_of_ble_eq_true rfl⟩) (h_preV hK hw hS.1 rfl _) rfl rfl hl.1 rfl (lv_room (Nat.le_of_ble_eq_true rfl)) dX8_line_21 ⟨Nat.le_of_ble_eq_true rfl, Nat.le_of_ble_eq_true rfl⟩) (fun H locs hw => ?_)
      refine lv_aload_n hx hb dX8_line_24 rfl (lv_at hl 0 rfl) ?_
      obtain ⟨f6, ef6, h⟩ := b1_s h
      refine h_callV hw (va_runV (As := []) (rest := []) ⟨hx, hb, hml, hown, hts⟩ (mX8_findHolds l D ac ad S f5 f6 hS ef6) (cwV 0 hts gX8_line_X8_findHolds rfl rfl rfl (by decide +kernel) ⟨Nat.le_of_ble_eq_true rfl, Nat.le_of_ble_eq_true rfl⟩) (h_preV hK hw hS.1 rfl _) rfl rfl hl.1 rfl (lv_room (Nat.le_of_ble_eq_true rfl)) dX8_line_25 ⟨Nat.le_of_ble_eq_true rfl, Nat.le_of_ble_eq_true rfl⟩) (fun H locs hw => ?_)
      refine lv_bipush (v := 8) hx hb dX8_line_28 (by decide) ?_
      refine lv_iload_n hx hb dX8_line_30 rfl (lv_at hl 1 rfl) ?_
      refine lv_imul hx hb dX8_line_31 ?_
      refine lv_iload_n hx hb dX8_line_32 rfl (lv_at hl 2 rfl) ?_
      refine lv_iadd hx hb dX8_line_33 ?_
      refine lv_istore (lv' := [(4, .int ((8 * x1) + x2)), (0, .ref (ad 146)), (1, .int x1), (2, .int x2), (3, .int x3)]) hx hb dX8_line_34 hl (by decide) rfl (fun ls hl => ?_)
      refine lv_aload_n hx hb dX8_line_36 rfl (lv_at hl 1 rfl) ?_
      refine lv_iload hx hb dX8_line_37 (lv_at hl 0 rfl) ?_
      obtain ⟨r7, er7, h⟩ := b1_s h
      refine h_callR (va_runV (As := [.int ((8 * x1) + x2)]) (rest := []) ⟨hx, hb, hml, hown, hts⟩ (mX8_isOfTwo l D ac ad S f6 ((8 * x1) + x2) r7 hS er7) (cwV 1 hts gX8_line_X8_isOfTwo rfl rfl rfl (by decide +kernel) ⟨Nat.le_of_ble_eq_true rfl, Nat.le_of_ble_eq_true rfl⟩) (h_preV hK hw hS.1 rfl _) rfl rfl hl.1 rfl (lv_room (Nat.le_of_ble_eq_true rfl)) dX8_line_39 ⟨Nat.le_of_ble_eq_true rfl, Nat.le_of_ble_eq_true rfl⟩) ?_
      refine lv_istore (lv' := [(5, .int r7), (4, .int ((8 * x1) + x2)), (0, .ref (ad 146)), (1, .int x1), (2, .int x2), (3, .int x3)]) hx hb dX8_line_42 hl (by decide) rfl (fun ls hl => ?_)
      refine lv_iload_n hx hb dX8_line_44 rfl (lv_at hl 5 rfl) ?_
      by_cases hc19 : x3 = 0
      · have h := it hc19 h
        refine lv_tableIn (off := 35) (tgt := 80) hx hb dX8_line_45 (by rw [hc19]; decide) (by rw [hc19]; decide) (by rw [hc19]; rfl) (by decide) ?_
        refine lv_aload_n hx hb dX8_line_80 rfl (lv_at hl 2 rfl) ?_
        refine lv_iload hx hb dX8_line_81 (lv_at hl 1 rfl) ?_
        obtain ⟨r8, er8, h⟩ := b1_s h
        refine h_callR (va_runV (As := [.int ((8 * x1) + x2)]) (rest := []) ⟨hx, hb, hml, hown, hts⟩ (mX8_begun l D ac ad S f6 ((8 * x1) + x2) r8 hS er8) (cwV 1 hts gX8_line_X8_begun rfl rfl rfl (by decide +kernel) ⟨Nat.le_of_ble_eq_true rfl, Nat.le_of_ble_eq_true rfl⟩) (h_preV hK hw hS.1 rfl _) rfl rfl hl.1 rfl (lv_room (Nat.le_of_ble_eq_true rfl)) dX8_line_83 ⟨Nat.le_of_ble_eq_true rfl, Nat.le_of_ble_eq_true rfl⟩) ?_
        exact h_retQ hx hb hr hlocks hw rfl (so2 h) dX8_line_86
      · have h := ie hc19 h
        by_cases hc20 : x3 = 1
        · have h := it hc20 h
          refine lv_tableIn (off := 42) (tgt := 87) hx hb dX8_line_45 (by rw [hc20]; decide) (by rw [hc20]; decide) (by rw [hc20]; rfl) (by decide) ?_
          refine lv_iload hx hb dX8_line_87 (lv_at hl 0 rfl) ?_
          refine lv_if_eq (tgt := 101) hx hb dX8_line_89 (by decide) (fun hc9 => ?_) (fun hc9 => ?_)
          · have h := it hc9 h
            refine lv_bipush (v := (-4)) hx hb dX8_line_101 (by decide) ?_
            exact h_retQ hx hb hr hlocks hw rfl (so2 h) dX8_line_103
          · have h := ie hc9 h
            refine lv_aload_n hx hb dX8_line_92 rfl (lv_at hl 2 rfl) ?_
            refine lv_iload hx hb dX8_line_93 (lv_at hl 1 rfl) ?_
            obtain ⟨r10, er10, h⟩ := b1_s h
            refine h_callR (va_runV (As := [.int ((8 * x1) + x2)]) (rest := []) ⟨hx, hb, hml, hown, hts⟩ (mX8_manOf l D ac ad S f6 ((8 * x1) + x2) r10 hS er10) (cwV 1 hts gX8_line_X8_manOf rfl rfl rfl (by decide +kernel) ⟨Nat.le_of_ble_eq_true rfl, Nat.le_of_ble_eq_true rfl⟩) (h_preV hK hw hS.1 rfl _) rfl rfl hl.1 rfl (lv_room (Nat.le_of_ble_eq_true rfl)) dX8_line_95 ⟨Nat.le_of_ble_eq_true rfl, Nat.le_of_ble_eq_true rfl⟩) ?_
            refine lv_goto (tgt := 103) hx hb dX8_line_98 (by decide) ?_
            exact h_retQ hx hb hr hlocks hw rfl (so2 h) dX8_line_103
        · have h := ie hc20 h
          by_cases hc21 : x3 = 2
          · have h := it hc21 h
            refine lv_tableIn (off := 59) (tgt := 104) hx hb dX8_line_45 (by rw [hc21]; decide) (by rw [hc21]; decide) (by rw [hc21]; rfl) (by decide) ?_
            refine lv_iload hx hb dX8_line_104 (lv_at hl 0 rfl) ?_
            refine lv_if_eq (tgt := 118) hx hb dX8_line_106 (by decide) (fun hc11 => ?_) (fun hc11 => ?_)
            · have h := it hc11 h
              refine lv_bipush (v := (-4)) hx hb dX8_line_118 (by decide) ?_
              exact h_retQ hx hb hr hlocks hw rfl (so2 h) dX8_line_120
            · have h := ie hc11 h
              refine lv_aload_n hx hb dX8_line_109 rfl (lv_at hl 2 rfl) ?_
              refine lv_iload hx hb dX8_line_110 (lv_at hl 1 rfl) ?_
              obtain ⟨r12, er12, h⟩ := b1_s h
              refine h_callR (va_runV (As := [.int ((8 * x1) + x2)]) (rest := []) ⟨hx, hb, hml, hown, hts⟩ (mX8_womanOf l D ac ad S f6 ((8 * x1) + x2) r12 hS er12) (cwV 1 hts gX8_line_X8_womanOf rfl rfl rfl (by decide +kernel) ⟨Nat.le_of_ble_eq_true rfl, Nat.le_of_ble_eq_true rfl⟩) (h_preV hK hw hS.1 rfl _) rfl rfl hl.1 rfl (lv_room (Nat.le_of_ble_eq_true rfl)) dX8_line_112 ⟨Nat.le_of_ble_eq_true rfl, Nat.le_of_ble_eq_true rfl⟩) ?_
              refine lv_goto (tgt := 120) hx hb dX8_line_115 (by decide) ?_
              exact h_retQ hx hb hr hlocks hw rfl (so2 h) dX8_line_120
          · have h := ie hc21 h
            by_cases hc22 : x3 = 3
            · have h := it hc22 h
              refine lv_tableIn (off := 76) (tgt := 121) hx hb dX8_line_45 (by rw [hc22]; decide) (by rw [hc22]; decide) (by rw [hc22]; rfl) (by decide) ?_
              refine lv_aload_n hx hb dX8_line_121 rfl (lv_at hl 2 rfl) ?_
              refine lv_iload hx hb dX8_line_122 (lv_at hl 1 rfl) ?_
              obtain ⟨r13, er13, h⟩ := b1_s h
              refine h_callR (va_runV (As := [.int ((8 * x1) + x2)]) (rest := []) ⟨hx, hb, hml, hown, hts⟩ (mX8_isBlank l D ac ad S f6 ((8 * x1) + x2) r13 hS er13) (cwV 1 hts gX8_line_X8_isBlank rfl rfl rfl (by decide +kernel) ⟨Nat.le_of_ble_eq_true rfl, Nat.le_of_ble_eq_true rfl⟩) (h_preV hK hw hS.1 rfl _) rfl rfl hl.1 rfl (lv_room (Nat.le_of_ble_eq_true rfl)) dX8_line_124 ⟨Nat.le_of_ble_eq_true rfl, Nat.le_of_ble_eq_true rfl⟩) ?_
              refine lv_if_eq (tgt := 134) hx hb dX8_line_127 (by decide) (fun hc14 => ?_) (fun hc14 => ?_)
              · have h := it hc14 h
                refine lv_iconst (v := 0) hx hb dX8_line_134 (by decide) ?_
                exact h_retQ hx hb hr hlocks hw rfl (so2 h) dX8_line_135
              · have h := ie hc14 h
                refine lv_iconst (v := 1) hx hb dX8_line_130 (by decide) ?_
                refine lv_goto (tgt := 135) hx hb dX8_line_131 (by decide) ?_
                exact h_retQ hx hb hr hlocks hw rfl (so2 h) dX8_line_135
            · have h := ie hc22 h
              by_cases hc23 : x3 = 4
              · have h := it hc23 h
                refine lv_tableIn (off := 91) (tgt := 136) hx hb dX8_line_45 (by rw [hc23]; decide) (by rw [hc23]; decide) (by rw [hc23]; rfl) (by decide) ?_
                refine lv_aload_n hx hb dX8_line_136 rfl (lv_at hl 2 rfl) ?_
                refine h_getR hx hb hts hnX8_line_X8 hown hK hw hS.1 rfl 23 (by decide) rfl hkX8_line_46 dX8_line_137 ?_
                refine lv_iload hx hb dX8_line_140 (lv_at hl 1 rfl) ?_
                obtain ⟨hi15, h⟩ := gd_s h
                refine h_zald hx hb hK hw hS.2.2.2.2.2.2.2.2.2.2.2.2.2.1 hi15 dX8_line_142 ?_
                refine lv_if_eq (tgt := 150) hx hb dX8_line_143 (by decide) (fun hc16 => ?_) (fun hc16 => ?_)
                · have h := it hc16 h
                  refine lv_iconst (v := 0) hx hb dX8_line_150 (by decide) ?_
                  exact h_retQ hx hb hr hlocks hw rfl (so2 h) dX8_line_151
                · have h := ie hc16 h
                  refine lv_iconst (v := 1) hx hb dX8_line_146 (by decide) ?_
                  refine lv_goto (tgt := 151) hx hb dX8_line_147 (by decide) ?_
                  exact h_retQ hx hb hr hlocks hw rfl (so2 h) dX8_line_151
              · have h := ie hc23 h
                have nhc19 := lv_neT (a := 0) hc19 rfl
                have nhc20 := lv_neT (a := 1) hc20 rfl
                have nhc21 := lv_neT (a := 2) hc21 rfl
                have nhc22 := lv_neT (a := 3) hc22 rfl
                have nhc23 := lv_neT (a := 4) hc23 rfl
                refine lv_tableOut (tgt := 152) hx hb dX8_line_45 (by omega) (by decide) ?_
                refine lv_iload hx hb dX8_line_152 (lv_at hl 0 rfl) ?_
                refine lv_if_eq (tgt := 174) hx hb dX8_line_154 (by decide) (fun hc17 => ?_) (fun hc17 => ?_)
                · have h := it hc17 h
                  refine lv_bipush (v := (-4)) hx hb dX8_line_174 (by decide) ?_
                  exact h_retQ hx hb hr hlocks hw rfl (so2 h) dX8_line_176
                · have h := ie hc17 h
                  refine lv_aload_n hx hb dX8_line_157 rfl (lv_at hl 2 rfl) ?_
                  refine h_getR hx hb hts hnX8_line_X8 hown hK hw hS.1 rfl 22 (by decide) rfl hkX8_line_43 dX8_line_158 ?_
                  refine lv_bipush (v := 15) hx hb dX8_line_161 (by decide) ?_
                  refine lv_iconst (v := 4) hx hb dX8_line_163 (by decide) ?_
                  refine lv_iload hx hb dX8_line_164 (lv_at hl 1 rfl) ?_
                  refine lv_imul hx hb dX8_line_166 ?_
                  refine lv_iadd hx hb dX8_line_167 ?_
                  refine lv_iconst (v := 3) hx hb dX8_line_168 (by decide) ?_
                  refine lv_iadd hx hb dX8_line_169 ?_
                  obtain ⟨hi18, h⟩ := gd_s h
                  refine h_iald hx hb hK hw hS.2.2.2.2.2.2.2.2.2.2.2.2.1 hi18 dX8_line_170 ?_
                  refine lv_goto (tgt := 176) hx hb dX8_line_171 (by decide) ?_
                  exact h_retQ hx hb hr hlocks hw rfl (so2 h) dX8_line_176
    · have h := it hc4 h
      refine lv_iconst (v := (-1)) hx hb dX8_line_18 (by decide) ?_
      exact h_retQ hx hb hr hlocks hw rfl (so2 h) dX8_line_19

theorem hnX8_remembers_X8 : ∀ w ∈ wsX80, w ∈ wsX8_remembers := by decide +kernel
theorem hkX8_remembers_19 : Cond.fieldLink RX8 19 (TX8 7).1 (TX8 7).2.1 (TX8 7).2.2.1 ∈ wsX8_remembers := by decide +kernel
theorem hkX8_remembers_137 : Cond.fieldLink RX8 137 (TX8 6).1 (TX8 6).2.1 (TX8 6).2.2.1 ∈ wsX8_remembers := by decide +kernel
theorem hkX8_remembers_16 : Cond.fieldLink RX8 16 (TX8 5).1 (TX8 5).2.1 (TX8 5).2.2.1 ∈ wsX8_remembers := by decide +kernel
set_option maxHeartbeats 8000000 in
set_option maxRecDepth 100000 in
theorem mX8_remembers (l : Launch) (D : va_G) (ac : Nat → ClassId) (ad : Nat → Nat) (S : List hSh) (f : hF) (gv : hF) (hS : isMo S) (h : fX8_remembers f = some gv) : Met l yX8_remembers wsX8_remembers ({ frames := 1, cells := 0, slots := 0, locals := 25 }) (hPc D ac ad S f [.ref (ad 146)]) (hQv D ac ad S gv) 0 0 (hAd ad S.length) := by
  refine h_enter (C := RX8) (cc := cX8_remembers) (maxL := 2) (ret := none) (lv := [(0, .ref (ad 146))]) (by decide) rfl rfl (Nat.le_of_ble_eq_true rfl) rfl (fun p e s m below meth c ls hx hb hml hr hlocks hown hts hK hw hl => ?_)
  have J49 : ∀ (_ : Unit), (∀ (f : hF) (H : Heap) (locs : List Loc) (ls : Array Slot), hOk D ac ad S (hAd ad S.length) s.heap f H locs → lv_has ls 2 [(0, .ref (ad 146))] → fX8_remembers_49 f = some gv → W p l e ({ frames := 1, cells := 0, slots := 0, locals := 25 } : Room) s m ([.ref (ad 146)] : List Value).toArray below meth c H locs 0 0 (MQ below (hQv D ac ad S gv) ([.ref (ad 146)] : List Value).toArray s 0 0 (hAd ad S.length)) (F0 m 49 ls [])) := by
    intro _ f H locs ls hw hl h
    unfold fX8_remembers_49 at h
    refine lv_aload_n hx hb dX8_remembers_49 rfl (lv_at hl 0 rfl) ?_
    refine h_getR hx hb hts hnX8_remembers_X8 hown hK hw hS.1 rfl 7 (by decide) rfl hkX8_remembers_19 dX8_remembers_50 ?_
    refine lv_bipush (v := 111) hx hb dX8_remembers_53 (by decide) ?_
    refine lv_aload_n hx hb dX8_remembers_55 rfl (lv_at hl 0 rfl) ?_
    refine h_getI hx hb hts hnX8_remembers_X8 hown hK hw hS.1 rfl 6 (by decide) rfl hkX8_remembers_137 dX8_remembers_56 ?_
    refine lv_imul hx hb dX8_remembers_59 ?_
    refine lv_aload_n hx hb dX8_remembers_60 rfl (lv_at hl 0 rfl) ?_
    refine h_getR hx hb hts hnX8_remembers_X8 hown hK hw hS.1 rfl 5 (by decide) rfl hkX8_remembers_16 dX8_remembers_61 ?_
    refine lv_iconst (v := 0) hx hb dX8_remembers_64 (by decide) ?_
    refine lv_bipush (v := 111) hx hb dX8_remembers_65 (by decide) ?_
    obtain ⟨f1, ef1, h⟩ := b1_s h
    refine h_callV hw (va_runS (As := [.ref (ad 150), .int (111 * (f 146 6)), .ref (ad 149), .int 0, .int 111]) (rest := []) ⟨hx, hb, hml, hown, hts⟩ (mX8_copies l D ac ad S 150 888 149 111 f (111 * (f 146 6)) (0 : Int32) (111 : Int32) f1 hS.2.2.2.2.1 hS.2.2.2.1 ef1) (va_cwS 5 hts gX8_remembers_X8_copies rfl rfl rfl (by decide +kernel) ⟨Nat.le_of_ble_eq_true rfl, Nat.le_of_ble_eq_true rfl⟩) (h_preS hK hw _) rfl rfl hl.1 rfl (lv_room (Nat.le_of_ble_eq_true rfl)) dX8_remembers_67 ⟨Nat.le_of_ble_eq_true rfl, Nat.le_of_ble_eq_true rfl⟩) (fun H locs hw => ?_)
    refine lv_aload_n hx hb dX8_remembers_70 rfl (lv_at hl 0 rfl) ?_
    refine lv_dup hx hb dX8_remembers_71 rfl ?_
    refine h_getI hx hb hts hnX8_remembers_X8 hown hK hw hS.1 rfl 6 (by decide) rfl hkX8_remembers_137 dX8_remembers_72 ?_
    refine lv_iconst (v := 1) hx hb dX8_remembers_75 (by decide) ?_
    refine lv_iadd hx hb dX8_remembers_76 ?_
    obtain ⟨f2, ef2, h⟩ := lt_s2 h
    refine h_putI (g := f2) ef2 hx hb hts hnX8_remembers_X8 tyX8 tyX8_ok nmX8 hown hK hw hS.1 rfl 6 rfl (by decide) rfl hkX8_remembers_137 rfl (by decide +kernel) dX8_remembers_77 (fun H locs hw => ?_)
    exact h_retV hx hb hr hlocks hw (so1 h) dX8_remembers_80
  have J11 : ∀ (n : Nat), (∀ (f : hF) (y1 : Int32) (H : Heap) (locs : List Loc) (ls : Array Slot), hOk D ac ad S (hAd ad S.length) s.heap f H locs → lv_has ls 2 [(0, .ref (ad 146)), (1, .int y1)] → fX8_remembers_11 n f y1 = some gv → W p l e ({ frames := 1, cells := 0, slots := 0, locals := 25 } : Room) s m ([.ref (ad 146)] : List Value).toArray below meth c H locs 0 0 (MQ below (hQv D ac ad S gv) ([.ref (ad 146)] : List Value).toArray s 0 0 (hAd ad S.length)) (F0 m 11 ls [])) := by
    intro n
    induction n with
    | zero =>
      intro f y1 H locs ls hw hl h
      rw [fX8_remembers_11] at h
      cases h
    | succ n ih =>
      intro f y1 H locs ls hw hl h
      rw [fX8_remembers_11] at h
      refine lv_iload_n hx hb dX8_remembers_11 rfl (lv_at hl 1 rfl) ?_
      refine lv_sipush (v := 777) hx hb dX8_remembers_12 (by decide) ?_
      refine lv_icmp_ge (tgt := 39) hx hb dX8_remembers_15 (by decide) (fun hc1 => ?_) (fun hc1 => ?_)
      · have h := it hc1 h
        refine lv_aload_n hx hb dX8_remembers_39 rfl (lv_at hl 0 rfl) ?_
        refine lv_dup hx hb dX8_remembers_40 rfl ?_
        refine h_getI hx hb hts hnX8_remembers_X8 hown hK hw hS.1 rfl 6 (by decide) rfl hkX8_remembers_137 dX8_remembers_41 ?_
        refine lv_iconst (v := 1) hx hb dX8_remembers_44 (by decide) ?_
        refine lv_isub hx hb dX8_remembers_45 ?_
        obtain ⟨f2, ef2, h⟩ := lt_s2 h
        refine h_putI (g := f2) ef2 hx hb hts hnX8_remembers_X8 tyX8 tyX8_ok nmX8 hown hK hw hS.1 rfl 6 rfl (by decide) rfl hkX8_remembers_137 rfl (by decide +kernel) dX8_remembers_46 (fun H locs hw => ?_)
        exact J49 () f2 _ _ _ hw (lv_sub hl [0] rfl) h
      · have h := ie hc1 h
        refine lv_aload_n hx hb dX8_remembers_18 rfl (lv_at hl 0 rfl) ?_
        refine h_getR hx hb hts hnX8_remembers_X8 hown hK hw hS.1 rfl 7 (by decide) rfl hkX8_remembers_19 dX8_remembers_19 ?_
        refine lv_iload_n hx hb dX8_remembers_22 rfl (lv_at hl 1 rfl) ?_
        refine lv_aload_n hx hb dX8_remembers_23 rfl (lv_at hl 0 rfl) ?_
        refine h_getR hx hb hts hnX8_remembers_X8 hown hK hw hS.1 rfl 7 (by decide) rfl hkX8_remembers_19 dX8_remembers_24 ?_
        refine lv_iload_n hx hb dX8_remembers_27 rfl (lv_at hl 1 rfl) ?_
        refine lv_bipush (v := 111) hx hb dX8_remembers_28 (by decide) ?_
        refine lv_iadd hx hb dX8_remembers_30 ?_
        obtain ⟨hi3, h⟩ := gd_s h
        refine h_iald hx hb hK hw hS.2.2.2.2.1 hi3 dX8_remembers_31 ?_
        obtain ⟨hi4, h⟩ := gd_s h
        obtain ⟨f5, ef5, h⟩ := lt_s2 h
        refine h_iast (g := f5) ef5 hx hb hK hw hS.2.2.2.2.1 hi4 dX8_remembers_32 (fun H locs hw => ?_)
        refine lv_iinc (v := (y1 + 1)) (lv' := [(1, .int (y1 + 1)), (0, .ref (ad 146))]) hx hb dX8_remembers_33 hl (k := 1) rfl rfl (by decide) rfl (fun ls hl => ?_)
        refine lv_goto (tgt := 11) hx hb dX8_remembers_36 (by decide) ?_
        exact ih f5 (y1 + 1) _ _ _ hw (lv_sub hl [1, 0] rfl) h
  unfold fX8_remembers at h
  refine lv_aload_n hx hb dX8_remembers_0 rfl (lv_at hl 0 rfl) ?_
  refine h_getI hx hb hts hnX8_remembers_X8 hown hK hw hS.1 rfl 6 (by decide) rfl hkX8_remembers_137 dX8_remembers_1 ?_
  refine lv_bipush (v := 8) hx hb dX8_remembers_4 (by decide) ?_
  refine lv_icmp_ne (tgt := 49) hx hb dX8_remembers_6 (by decide) (fun hc1 => ?_) (fun hc1 => ?_)
  · have h := ie hc1 h
    exact J49 () f _ _ _ hw (lv_sub hl [0] rfl) h
  · have h := it hc1 h
    refine lv_iconst (v := 0) hx hb dX8_remembers_9 (by decide) ?_
    refine lv_istore_n (lv' := [(1, .int 0), (0, .ref (ad 146))]) hx hb dX8_remembers_10 rfl hl (by decide) rfl (fun ls hl => ?_)
    exact J11 _ f 0 _ _ _ hw (lv_sub hl [1, 0] rfl) h

set_option maxHeartbeats 8000000 in
set_option maxRecDepth 100000 in
theorem mX8_manOfTwo (l : Launch) (D : va_G) (ac : Nat → ClassId) (ad : Nat → Nat) (S : List hSh) (f : hF) (x1 : Int32) (x2 : Int32) (rv : Int32) (hS : isMo S) (h : fX8_manOfTwo f x1 x2 = some rv) : Met l yX8_manOfTwo wsX8_manOfTwo ({ frames := 1, cells := 0, slots := 0, locals := 21 }) (hPc D ac ad S f [.ref (ad 146), .int x1, .int x2]) (hRi rv) 0 0 hNo := by
  refine h_enter (C := RX8) (cc := cX8_manOfTwo) (maxL := 3) (ret := (some .int)) (lv := [(0, .ref (ad 146)), (1, .int x1), (2, .int x2)]) (by decide) rfl rfl (Nat.le_of_ble_eq_true rfl) rfl (fun p e s m below meth c ls hx hb hml hr hlocks hown hts hK hw hl => ?_)
  unfold fX8_manOfTwo at h
  refine lv_aload_n hx hb dX8_manOfTwo_0 rfl (lv_at hl 0 rfl) ?_
  refine lv_iload_n hx hb dX8_manOfTwo_1 rfl (lv_at hl 1 rfl) ?_
  obtain ⟨r1, er1, h⟩ := b1_s h
  refine h_callR (va_runV (As := [.int x1]) (rest := []) ⟨hx, hb, hml, hown, hts⟩ (mX8_isWoman l D ac ad S f x1 r1 hS er1) (cwV 1 hts gX8_manOfTwo_X8_isWoman rfl rfl rfl (by decide +kernel) ⟨Nat.le_of_ble_eq_true rfl, Nat.le_of_ble_eq_true rfl⟩) (h_preV hK hw hS.1 rfl _) rfl rfl hl.1 rfl (lv_room (Nat.le_of_ble_eq_true rfl)) dX8_manOfTwo_2 ⟨Nat.le_of_ble_eq_true rfl, Nat.le_of_ble_eq_true rfl⟩) ?_
  refine lv_if_eq (tgt := 12) hx hb dX8_manOfTwo_5 (by decide) (fun hc2 => ?_) (fun hc2 => ?_)
  · have h := it hc2 h
    refine lv_iload_n hx hb dX8_manOfTwo_12 rfl (lv_at hl 1 rfl) ?_
    exact h_retR hx hb hr hlocks rfl (so1 h) dX8_manOfTwo_13
  · have h := ie hc2 h
    refine lv_iload_n hx hb dX8_manOfTwo_8 rfl (lv_at hl 2 rfl) ?_
    refine lv_goto (tgt := 13) hx hb dX8_manOfTwo_9 (by decide) ?_
    exact h_retR hx hb hr hlocks rfl (so1 h) dX8_manOfTwo_13

set_option maxHeartbeats 8000000 in
set_option maxRecDepth 100000 in
theorem mX8_womanOfTwo (l : Launch) (D : va_G) (ac : Nat → ClassId) (ad : Nat → Nat) (S : List hSh) (f : hF) (x1 : Int32) (x2 : Int32) (rv : Int32) (hS : isMo S) (h : fX8_womanOfTwo f x1 x2 = some rv) : Met l yX8_womanOfTwo wsX8_womanOfTwo ({ frames := 1, cells := 0, slots := 0, locals := 21 }) (hPc D ac ad S f [.ref (ad 146), .int x1, .int x2]) (hRi rv) 0 0 hNo := by
  refine h_enter (C := RX8) (cc := cX8_womanOfTwo) (maxL := 3) (ret := (some .int)) (lv := [(0, .ref (ad 146)), (1, .int x1), (2, .int x2)]) (by decide) rfl rfl (Nat.le_of_ble_eq_true rfl) rfl (fun p e s m below meth c ls hx hb hml hr hlocks hown hts hK hw hl => ?_)
  unfold fX8_womanOfTwo at h
  refine lv_aload_n hx hb dX8_womanOfTwo_0 rfl (lv_at hl 0 rfl) ?_
  refine lv_iload_n hx hb dX8_womanOfTwo_1 rfl (lv_at hl 1 rfl) ?_
  obtain ⟨r1, er1, h⟩ := b1_s h
  refine h_callR (va_runV (As := [.int x1]) (rest := []) ⟨hx, hb, hml, hown, hts⟩ (mX8_isWoman l D ac ad S f x1 r1 hS er1) (cwV 1 hts gX8_womanOfTwo_X8_isWoman rfl rfl rfl (by decide +kernel) ⟨Nat.le_of_ble_eq_true rfl, Nat.le_of_ble_eq_true rfl⟩) (h_preV hK hw hS.1 rfl _) rfl rfl hl.1 rfl (lv_room (Nat.le_of_ble_eq_true rfl)) dX8_womanOfTwo_2 ⟨Nat.le_of_ble_eq_true rfl, Nat.le_of_ble_eq_true rfl⟩) ?_
  refine lv_if_eq (tgt := 12) hx hb dX8_womanOfTwo_5 (by decide) (fun hc2 => ?_) (fun hc2 => ?_)
  · have h := it hc2 h
    refine lv_iload_n hx hb dX8_womanOfTwo_12 rfl (lv_at hl 2 rfl) ?_
    exact h_retR hx hb hr hlocks rfl (so1 h) dX8_womanOfTwo_13
  · have h := ie hc2 h
    refine lv_iload_n hx hb dX8_womanOfTwo_8 rfl (lv_at hl 1 rfl) ?_
    refine lv_goto (tgt := 13) hx hb dX8_womanOfTwo_9 (by decide) ?_
    exact h_retR hx hb hr hlocks rfl (so1 h) dX8_womanOfTwo_13

set_option maxHeartbeats 8000000 in
set_option maxRecDepth 100000 in
theorem mX8_canBeTwo (l : Launch) (D : va_G) (ac : Nat → ClassId) (ad : Nat → Nat) (S : List hSh) (f : hF) (x1 : Int32) (x2 : Int32) (rv : Int32) (hS : isMo S) (h : fX8_canBeTwo f x1 x2 = some rv) : Met l yX8_canBeTwo wsX8_canBeTwo ({ frames := 2, cells := 0, slots := 0, locals := 43 }) (hPc D ac ad S f [.ref (ad 146), .int x1, .int x2]) (hRi rv) 0 0 hNo := by
  refine h_enter (C := RX8) (cc := cX8_canBeTwo) (maxL := 5) (ret := (some .boolean)) (lv := [(0, .ref (ad 146)), (1, .int x1), (2, .int x2)]) (by decide) rfl rfl (Nat.le_of_ble_eq_true rfl) rfl (fun p e s m below meth c ls hx hb hml hr hlocks hown hts hK hw hl => ?_)
  unfold fX8_canBeTwo at h
  refine lv_aload_n hx hb dX8_canBeTwo_0 rfl (lv_at hl 0 rfl) ?_
  refine lv_iload_n hx hb dX8_canBeTwo_1 rfl (lv_at hl 1 rfl) ?_
  refine lv_iload_n hx hb dX8_canBeTwo_2 rfl (lv_at hl 2 rfl) ?_
  obtain ⟨r1, er1, h⟩ := b1_s h
  refine h_callR (va_runV (As := [.int x1, .int x2]) (rest := []) ⟨hx, hb, hml, hown, hts⟩ (mX8_manOfTwo l D ac ad S f x1 x2 r1 hS er1) (cwV 2 hts gX8_canBeTwo_X8_manOfTwo rfl rfl rfl (by decide +kernel) ⟨Nat.le_of_ble_eq_true rfl, Nat.le_of_ble_eq_true rfl⟩) (h_preV hK hw hS.1 rfl _) rfl rfl hl.1 rfl (lv_room (Nat.le_of_ble_eq_true rfl)) dX8_canBeTwo_3 ⟨Nat.le_of_ble_eq_true rfl, Nat.le_of_ble_eq_true rfl⟩) ?_
  refine lv_istore_n (lv' := [(3, .int r1), (0, .ref (ad 146)), (1, .int x1), (2, .int x2)]) hx hb dX8_canBeTwo_6 rfl hl (by decide) rfl (fun ls hl => ?_)
  refine lv_aload_n hx hb dX8_canBeTwo_7 rfl (lv_at hl 1 rfl) ?_
  refine lv_iload_n hx hb dX8_canBeTwo_8 rfl (lv_at hl 2 rfl) ?_
  refine lv_iload_n hx hb dX8_canBeTwo_9 rfl (lv_at hl 3 rfl) ?_
  obtain ⟨r2, er2, h⟩ := b1_s h
  refine h_callR (va_runV (As := [.int x1, .int x2]) (rest := []) ⟨hx, hb, hml, hown, hts⟩ (mX8_womanOfTwo l D ac ad S f x1 x2 r2 hS er2) (cwV 2 hts gX8_canBeTwo_X8_womanOfTwo rfl rfl rfl (by decide +kernel) ⟨Nat.le_of_ble_eq_true rfl, Nat.le_of_ble_eq_true rfl⟩) (h_preV hK hw hS.1 rfl _) rfl rfl hl.1 rfl (lv_room (Nat.le_of_ble_eq_true rfl)) dX8_canBeTwo_10 ⟨Nat.le_of_ble_eq_true rfl, Nat.le_of_ble_eq_true rfl⟩) ?_
  refine lv_istore (lv' := [(4, .int r2), (3, .int r1), (0, .ref (ad 146)), (1, .int x1), (2, .int x2)]) hx hb dX8_canBeTwo_13 hl (by decide) rfl (fun ls hl => ?_)
  refine lv_aload_n hx hb dX8_canBeTwo_15 rfl (lv_at hl 2 rfl) ?_
  refine lv_iload_n hx hb dX8_canBeTwo_16 rfl (lv_at hl 3 rfl) ?_
  obtain ⟨r3, er3, h⟩ := b1_s h
  refine h_callR (va_runV (As := [.int x1]) (rest := []) ⟨hx, hb, hml, hown, hts⟩ (mX8_isWoman l D ac ad S f x1 r3 hS er3) (cwV 1 hts gX8_canBeTwo_X8_isWoman rfl rfl rfl (by decide +kernel) ⟨Nat.le_of_ble_eq_true rfl, Nat.le_of_ble_eq_true rfl⟩) (h_preV hK hw hS.1 rfl _) rfl rfl hl.1 rfl (lv_room (Nat.le_of_ble_eq_true rfl)) dX8_canBeTwo_17 ⟨Nat.le_of_ble_eq_true rfl, Nat.le_of_ble_eq_true rfl⟩) ?_
  refine lv_aload_n hx hb dX8_canBeTwo_20 rfl (lv_at hl 2 rfl) ?_
  refine lv_iload_n hx hb dX8_canBeTwo_21 rfl (lv_at hl 4 rfl) ?_
  obtain ⟨r4, er4, h⟩ := b1_s h
  refine h_callR (va_runV (As := [.int x2]) (rest := [.int r3]) ⟨hx, hb, hml, hown, hts⟩ (mX8_isWoman l D ac ad S f x2 r4 hS er4) (cwV 1 hts gX8_canBeTwo_X8_isWoman rfl rfl rfl (by decide +kernel) ⟨Nat.le_of_ble_eq_true rfl, Nat.le_of_ble_eq_true rfl⟩) (h_preV hK hw hS.1 rfl _) rfl rfl hl.1 rfl (lv_room (Nat.le_of_ble_eq_true rfl)) dX8_canBeTwo_22 ⟨Nat.le_of_ble_eq_true rfl, Nat.le_of_ble_eq_true rfl⟩) ?_
  refine lv_icmp_eq (tgt := 51) hx hb dX8_canBeTwo_25 (by decide) (fun hc5 => ?_) (fun hc5 => ?_)
  · have h := it hc5 h
    refine lv_iconst (v := 0) hx hb dX8_canBeTwo_51 (by decide) ?_
    exact h_retR hx hb hr hlocks rfl (so1 h) dX8_canBeTwo_52
  · have h := ie hc5 h
    refine lv_aload_n hx hb dX8_canBeTwo_28 rfl (lv_at hl 2 rfl) ?_
    refine lv_iload hx hb dX8_canBeTwo_29 (lv_at hl 0 rfl) ?_
    obtain ⟨r6, er6, h⟩ := b1_s h
    refine h_callR (va_runV (As := [.int r2]) (rest := []) ⟨hx, hb, hml, hown, hts⟩ (mX8_kindOf l D ac ad S f r2 r6 hS er6) (cwV 1 hts gX8_canBeTwo_X8_kindOf rfl rfl rfl (by decide +kernel) ⟨Nat.le_of_ble_eq_true rfl, Nat.le_of_ble_eq_true rfl⟩) (h_preV hK hw hS.1 rfl _) rfl rfl hl.1 rfl (lv_room (Nat.le_of_ble_eq_true rfl)) dX8_canBeTwo_31 ⟨Nat.le_of_ble_eq_true rfl, Nat.le_of_ble_eq_true rfl⟩) ?_
    refine lv_iconst (v := 2) hx hb dX8_canBeTwo_34 (by decide) ?_
    refine lv_icmp_ne (tgt := 47) hx hb dX8_canBeTwo_35 (by decide) (fun hc7 => ?_) (fun hc7 => ?_)
    · have h := ie hc7 h
      refine lv_iconst (v := 1) hx hb dX8_canBeTwo_47 (by decide) ?_
      refine lv_goto (tgt := 52) hx hb dX8_canBeTwo_48 (by decide) ?_
      exact h_retR hx hb hr hlocks rfl (so1 h) dX8_canBeTwo_52
    · have h := it hc7 h
      refine lv_aload_n hx hb dX8_canBeTwo_38 rfl (lv_at hl 2 rfl) ?_
      refine lv_iload_n hx hb dX8_canBeTwo_39 rfl (lv_at hl 1 rfl) ?_
      obtain ⟨r8, er8, h⟩ := b1_s h
      refine h_callR (va_runV (As := [.int r1]) (rest := []) ⟨hx, hb, hml, hown, hts⟩ (mX8_kindOf l D ac ad S f r1 r8 hS er8) (cwV 1 hts gX8_canBeTwo_X8_kindOf rfl rfl rfl (by decide +kernel) ⟨Nat.le_of_ble_eq_true rfl, Nat.le_of_ble_eq_true rfl⟩) (h_preV hK hw hS.1 rfl _) rfl rfl hl.1 rfl (lv_room (Nat.le_of_ble_eq_true rfl)) dX8_canBeTwo_40 ⟨Nat.le_of_ble_eq_true rfl, Nat.le_of_ble_eq_true rfl⟩) ?_
      refine lv_iconst (v := 2) hx hb dX8_canBeTwo_43 (by decide) ?_
      refine lv_icmp_ne (tgt := 51) hx hb dX8_canBeTwo_44 (by decide) (fun hc9 => ?_) (fun hc9 => ?_)
      · have h := ie hc9 h
        refine lv_iconst (v := 0) hx hb dX8_canBeTwo_51 (by decide) ?_
        exact h_retR hx hb hr hlocks rfl (so1 h) dX8_canBeTwo_52
      · have h := it hc9 h
        refine lv_iconst (v := 1) hx hb dX8_canBeTwo_47 (by decide) ?_
        refine lv_goto (tgt := 52) hx hb dX8_canBeTwo_48 (by decide) ?_
        exact h_retR hx hb hr hlocks rfl (so1 h) dX8_canBeTwo_52

theorem hnX8_canPay_X8 : ∀ w ∈ wsX80, w ∈ wsX8_canPay := by decide +kernel
theorem hkX8_canPay_43 : Cond.fieldLink RX8 43 (TX8 22).1 (TX8 22).2.1 (TX8 22).2.2.1 ∈ wsX8_canPay := by decide +kernel
set_option maxHeartbeats 8000000 in
set_option maxRecDepth 100000 in
theorem mX8_canPay (l : Launch) (D : va_G) (ac : Nat → ClassId) (ad : Nat → Nat) (S : List hSh) (f : hF) (x1 : Int32) (x2 : Int32) (x3 : Int32) (rv : Int32) (hS : isMo S) (h : fX8_canPay f x1 x2 x3 = some rv) : Met l yX8_canPay wsX8_canPay ({ frames := 0, cells := 0, slots := 0, locals := 0 }) (hPc D ac ad S f [.ref (ad 146), .int x1, .int x2, .int x3]) (hRi rv) 0 0 hNo := by
  refine h_enter (C := RX8) (cc := cX8_canPay) (maxL := 4) (ret := (some .boolean)) (lv := [(0, .ref (ad 146)), (1, .int x1), (2, .int x2), (3, .int x3)]) (by decide) rfl rfl (Nat.le_of_ble_eq_true rfl) rfl (fun p e s m below meth c ls hx hb hml hr hlocks hown hts hK hw hl => ?_)
  unfold fX8_canPay at h
  refine lv_aload_n hx hb dX8_canPay_0 rfl (lv_at hl 0 rfl) ?_
  refine h_getR hx hb hts hnX8_canPay_X8 hown hK hw hS.1 rfl 22 (by decide) rfl hkX8_canPay_43 dX8_canPay_1 ?_
  refine lv_iconst (v := 1) hx hb dX8_canPay_4 (by decide) ?_
  refine lv_iload_n hx hb dX8_canPay_5 rfl (lv_at hl 1 rfl) ?_
  refine lv_iadd hx hb dX8_canPay_6 ?_
  obtain ⟨hi1, h⟩ := gd_s h
  refine h_iald hx hb hK hw hS.2.2.2.2.2.2.2.2.2.2.2.2.1 hi1 dX8_canPay_7 ?_
  refine lv_aload_n hx hb dX8_canPay_8 rfl (lv_at hl 0 rfl) ?_
  refine h_getR hx hb hts hnX8_canPay_X8 hown hK hw hS.1 rfl 22 (by decide) rfl hkX8_canPay_43 dX8_canPay_9 ?_
  refine lv_iconst (v := 1) hx hb dX8_canPay_12 (by decide) ?_
  refine lv_iload_n hx hb dX8_canPay_13 rfl (lv_at hl 2 rfl) ?_
  refine lv_iadd hx hb dX8_canPay_14 ?_
  obtain ⟨hi2, h⟩ := gd_s h
  refine h_iald hx hb hK hw hS.2.2.2.2.2.2.2.2.2.2.2.2.1 hi2 dX8_canPay_15 ?_
  refine lv_iadd hx hb dX8_canPay_16 ?_
  refine lv_iload_n hx hb dX8_canPay_17 rfl (lv_at hl 3 rfl) ?_
  refine lv_icmp_lt (tgt := 25) hx hb dX8_canPay_18 (by decide) (fun hc3 => ?_) (fun hc3 => ?_)
  · have h := it hc3 h
    refine lv_iconst (v := 0) hx hb dX8_canPay_25 (by decide) ?_
    exact h_retR hx hb hr hlocks rfl (so1 h) dX8_canPay_26
  · have h := ie hc3 h
    refine lv_iconst (v := 1) hx hb dX8_canPay_21 (by decide) ?_
    refine lv_goto (tgt := 26) hx hb dX8_canPay_22 (by decide) ?_
    exact h_retR hx hb hr hlocks rfl (so1 h) dX8_canPay_26

theorem hnX8_pays_X8 : ∀ w ∈ wsX80, w ∈ wsX8_pays := by decide +kernel
theorem hkX8_pays_43 : Cond.fieldLink RX8 43 (TX8 22).1 (TX8 22).2.1 (TX8 22).2.2.1 ∈ wsX8_pays := by decide +kernel
set_option maxHeartbeats 8000000 in
set_option maxRecDepth 100000 in
theorem mX8_pays (l : Launch) (D : va_G) (ac : Nat → ClassId) (ad : Nat → Nat) (S : List hSh) (f : hF) (x1 : Int32) (x2 : Int32) (x3 : Int32) (x4 : Int32) (gv : hF) (hS : isMo S) (h : fX8_pays f x1 x2 x3 x4 = some gv) : Met l yX8_pays wsX8_pays ({ frames := 2, cells := 0, slots := 0, locals := 43 }) (hPc D ac ad S f [.ref (ad 146), .int x1, .int x2, .int x3, .int x4]) (hQv D ac ad S gv) 0 0 (hAd ad S.length) := by
  refine h_enter (C := RX8) (cc := cX8_pays) (maxL := 7) (ret := none) (lv := [(0, .ref (ad 146)), (1, .int x1), (2, .int x2), (3, .int x3), (4, .int x4)]) (by decide) rfl rfl (Nat.le_of_ble_eq_true rfl) rfl (fun p e s m below meth c ls hx hb hml hr hlocks hown hts hK hw hl => ?_)
  have J36 : ∀ (_ : Unit), (∀ (f : hF) (y5 : Int32) (s0 : Int32) (H : Heap) (locs : List Loc) (ls : Array Slot), hOk D ac ad S (hAd ad S.length) s.heap f H locs → lv_has ls 7 [(0, .ref (ad 146)), (1, .int x1), (2, .int x2), (3, .int x3), (4, .int x4), (5, .int y5)] → fX8_pays_36 x1 x2 x3 x4 f y5 s0 = some gv → W p l e ({ frames := 2, cells := 0, slots := 0, locals := 43 } : Room) s m ([.ref (ad 146), .int x1, .int x2, .int x3, .int x4] : List Value).toArray below meth c H locs 0 0 (MQ below (hQv D ac ad S gv) ([.ref (ad 146), .int x1, .int x2, .int x3, .int x4] : List Value).toArray s 0 0 (hAd ad S.length)) (F0 m 36 ls [.int s0])) := by
    intro _ f y5 s0 H locs ls hw hl h
    unfold fX8_pays_36 at h
    refine lv_istore (lv' := [(6, .int s0), (0, .ref (ad 146)), (1, .int x1), (2, .int x2), (3, .int x3), (4, .int x4), (5, .int y5)]) hx hb dX8_pays_36 hl (by decide) rfl (fun ls hl => ?_)
    refine lv_aload_n hx hb dX8_pays_38 rfl (lv_at hl 1 rfl) ?_
    refine h_getR hx hb hts hnX8_pays_X8 hown hK hw hS.1 rfl 22 (by decide) rfl hkX8_pays_43 dX8_pays_39 ?_
    refine lv_iconst (v := 1) hx hb dX8_pays_42 (by decide) ?_
    refine lv_iload hx hb dX8_pays_43 (lv_at hl 6 rfl) ?_
    refine lv_iadd hx hb dX8_pays_45 ?_
    refine lv_dup2_11 hx hb dX8_pays_46 rfl rfl ?_
    obtain ⟨hi1, h⟩ := gd_s h
    refine h_iald hx hb hK hw hS.2.2.2.2.2.2.2.2.2.2.2.2.1 hi1 dX8_pays_47 ?_
    refine lv_iload hx hb dX8_pays_48 (lv_at hl 0 rfl) ?_
    refine lv_isub hx hb dX8_pays_50 ?_
    obtain ⟨hi2, h⟩ := gd_s h
    obtain ⟨f3, ef3, h⟩ := lt_s2 h
    refine h_iast (g := f3) ef3 hx hb hK hw hS.2.2.2.2.2.2.2.2.2.2.2.2.1 hi2 dX8_pays_51 (fun H locs hw => ?_)
    refine lv_aload_n hx hb dX8_pays_52 rfl (lv_at hl 1 rfl) ?_
    refine h_getR hx hb hts hnX8_pays_X8 hown hK hw hS.1 rfl 22 (by decide) rfl hkX8_pays_43 dX8_pays_53 ?_
    refine lv_iconst (v := 1) hx hb dX8_pays_56 (by decide) ?_
    refine lv_aload_n hx hb dX8_pays_57 rfl (lv_at hl 1 rfl) ?_
    refine lv_iload_n hx hb dX8_pays_58 rfl (lv_at hl 3 rfl) ?_
    refine lv_iload_n hx hb dX8_pays_59 rfl (lv_at hl 4 rfl) ?_
    obtain ⟨r4, er4, h⟩ := b1_s h
    refine h_callR (va_runV (As := [.int x2, .int x3]) (rest := [.int 1, .ref (ad 158)]) ⟨hx, hb, hml, hown, hts⟩ (mX8_womanOfTwo l D ac ad S f3 x2 x3 r4 hS er4) (cwV 2 hts gX8_pays_X8_womanOfTwo rfl rfl rfl (by decide +kernel) ⟨Nat.le_of_ble_eq_true rfl, Nat.le_of_ble_eq_true rfl⟩) (h_preV hK hw hS.1 rfl _) rfl rfl hl.1 rfl (lv_room (Nat.le_of_ble_eq_true rfl)) dX8_pays_60 ⟨Nat.le_of_ble_eq_true rfl, Nat.le_of_ble_eq_true rfl⟩) ?_
    refine lv_iadd hx hb dX8_pays_63 ?_
    refine lv_dup2_11 hx hb dX8_pays_64 rfl rfl ?_
    obtain ⟨hi5, h⟩ := gd_s h
    refine h_iald hx hb hK hw hS.2.2.2.2.2.2.2.2.2.2.2.2.1 hi5 dX8_pays_65 ?_
    refine lv_iload hx hb dX8_pays_66 (lv_at hl 5 rfl) ?_
    refine lv_iload hx hb dX8_pays_68 (lv_at hl 0 rfl) ?_
    refine lv_isub hx hb dX8_pays_70 ?_
    refine lv_isub hx hb dX8_pays_71 ?_
    obtain ⟨hi6, h⟩ := gd_s h
    obtain ⟨f7, ef7, h⟩ := lt_s2 h
    refine h_iast (g := f7) ef7 hx hb hK hw hS.2.2.2.2.2.2.2.2.2.2.2.2.1 hi6 dX8_pays_72 (fun H locs hw => ?_)
    refine lv_aload_n hx hb dX8_pays_73 rfl (lv_at hl 1 rfl) ?_
    refine h_getR hx hb hts hnX8_pays_X8 hown hK hw hS.1 rfl 22 (by decide) rfl hkX8_pays_43 dX8_pays_74 ?_
    refine lv_bipush (v := 9) hx hb dX8_pays_77 (by decide) ?_
    refine lv_iload_n hx hb dX8_pays_79 rfl (lv_at hl 2 rfl) ?_
    refine lv_iadd hx hb dX8_pays_80 ?_
    refine lv_dup2_11 hx hb dX8_pays_81 rfl rfl ?_
    obtain ⟨hi8, h⟩ := gd_s h
    refine h_iald hx hb hK hw hS.2.2.2.2.2.2.2.2.2.2.2.2.1 hi8 dX8_pays_82 ?_
    refine lv_iload hx hb dX8_pays_83 (lv_at hl 5 rfl) ?_
    refine lv_iadd hx hb dX8_pays_85 ?_
    obtain ⟨hi9, h⟩ := gd_s h
    obtain ⟨f10, ef10, h⟩ := lt_s2 h
    refine h_iast (g := f10) ef10 hx hb hK hw hS.2.2.2.2.2.2.2.2.2.2.2.2.1 hi9 dX8_pays_86 (fun H locs hw => ?_)
    exact h_retV hx hb hr hlocks hw (so1 h) dX8_pays_87
  unfold fX8_pays at h
  refine lv_aload_n hx hb dX8_pays_0 rfl (lv_at hl 0 rfl) ?_
  refine lv_iload_n hx hb dX8_pays_1 rfl (lv_at hl 2 rfl) ?_
  refine lv_iload_n hx hb dX8_pays_2 rfl (lv_at hl 3 rfl) ?_
  obtain ⟨r1, er1, h⟩ := b1_s h
  refine h_callR (va_runV (As := [.int x2, .int x3]) (rest := []) ⟨hx, hb, hml, hown, hts⟩ (mX8_manOfTwo l D ac ad S f x2 x3 r1 hS er1) (cwV 2 hts gX8_pays_X8_manOfTwo rfl rfl rfl (by decide +kernel) ⟨Nat.le_of_ble_eq_true rfl, Nat.le_of_ble_eq_true rfl⟩) (h_preV hK hw hS.1 rfl _) rfl rfl hl.1 rfl (lv_room (Nat.le_of_ble_eq_true rfl)) dX8_pays_3 ⟨Nat.le_of_ble_eq_true rfl, Nat.le_of_ble_eq_true rfl⟩) ?_
  refine lv_istore (lv' := [(5, .int r1), (0, .ref (ad 146)), (1, .int x1), (2, .int x2), (3, .int x3), (4, .int x4)]) hx hb dX8_pays_6 hl (by decide) rfl (fun ls hl => ?_)
  refine lv_aload_n hx hb dX8_pays_8 rfl (lv_at hl 1 rfl) ?_
  refine h_getR hx hb hts hnX8_pays_X8 hown hK hw hS.1 rfl 22 (by decide) rfl hkX8_pays_43 dX8_pays_9 ?_
  refine lv_iconst (v := 1) hx hb dX8_pays_12 (by decide) ?_
  refine lv_iload hx hb dX8_pays_13 (lv_at hl 0 rfl) ?_
  refine lv_iadd hx hb dX8_pays_15 ?_
  obtain ⟨hi2, h⟩ := gd_s h
  refine h_iald hx hb hK hw hS.2.2.2.2.2.2.2.2.2.2.2.2.1 hi2 dX8_pays_16 ?_
  refine lv_iload hx hb dX8_pays_17 (lv_at hl 5 rfl) ?_
  refine lv_icmp_ge (tgt := 34) hx hb dX8_pays_19 (by decide) (fun hc3 => ?_) (fun hc3 => ?_)
  · have h := it hc3 h
    refine lv_iload hx hb dX8_pays_34 (lv_at hl 5 rfl) ?_
    exact J36 () f r1 x4 _ _ _ hw (lv_sub hl [1, 2, 3, 4, 5, 0] rfl) h
  · have h := ie hc3 h
    refine lv_aload_n hx hb dX8_pays_22 rfl (lv_at hl 1 rfl) ?_
    refine h_getR hx hb hts hnX8_pays_X8 hown hK hw hS.1 rfl 22 (by decide) rfl hkX8_pays_43 dX8_pays_23 ?_
    refine lv_iconst (v := 1) hx hb dX8_pays_26 (by decide) ?_
    refine lv_iload hx hb dX8_pays_27 (lv_at hl 0 rfl) ?_
    refine lv_iadd hx hb dX8_pays_29 ?_
    obtain ⟨hi4, h⟩ := gd_s h
    refine h_iald hx hb hK hw hS.2.2.2.2.2.2.2.2.2.2.2.2.1 hi4 dX8_pays_30 ?_
    refine lv_goto (tgt := 36) hx hb dX8_pays_31 (by decide) ?_
    exact J36 () f r1 (f 158 (1 + r1).toNatClampNeg) _ _ _ hw (lv_sub hl [1, 2, 3, 4, 5, 0] rfl) h

theorem hnX8_isLaw_X8 : ∀ w ∈ wsX80, w ∈ wsX8_isLaw := by decide +kernel
theorem hkX8_isLaw_43 : Cond.fieldLink RX8 43 (TX8 22).1 (TX8 22).2.1 (TX8 22).2.2.1 ∈ wsX8_isLaw := by decide +kernel
theorem hkX8_isLaw_130 : Cond.fieldLink RX8 130 (TX8 4).1 (TX8 4).2.1 (TX8 4).2.2.1 ∈ wsX8_isLaw := by decide +kernel
set_option maxHeartbeats 8000000 in
set_option maxRecDepth 100000 in
theorem mX8_isLaw (l : Launch) (D : va_G) (ac : Nat → ClassId) (ad : Nat → Nat) (S : List hSh) (f : hF) (rv : Int32) (hS : isMo S) (h : fX8_isLaw f = some rv) : Met l yX8_isLaw wsX8_isLaw ({ frames := 0, cells := 0, slots := 0, locals := 0 }) (hPc D ac ad S f [.ref (ad 146)]) (hRi rv) 0 0 hNo := by
  refine h_enter (C := RX8) (cc := cX8_isLaw) (maxL := 1) (ret := (some .boolean)) (lv := [(0, .ref (ad 146))]) (by decide) rfl rfl (Nat.le_of_ble_eq_true rfl) rfl (fun p e s m below meth c ls hx hb hml hr hlocks hown hts hK hw hl => ?_)
  unfold fX8_isLaw at h
  refine lv_aload_n hx hb dX8_isLaw_0 rfl (lv_at hl 0 rfl) ?_
  refine h_getR hx hb hts hnX8_isLaw_X8 hown hK hw hS.1 rfl 22 (by decide) rfl hkX8_isLaw_43 dX8_isLaw_1 ?_
  refine lv_iconst (v := 0) hx hb dX8_isLaw_4 (by decide) ?_
  obtain ⟨hi1, h⟩ := gd_s h
  refine h_iald hx hb hK hw hS.2.2.2.2.2.2.2.2.2.2.2.2.1 hi1 dX8_isLaw_5 ?_
  refine lv_aload_n hx hb dX8_isLaw_6 rfl (lv_at hl 0 rfl) ?_
  refine h_getI hx hb hts hnX8_isLaw_X8 hown hK hw hS.1 rfl 4 (by decide) rfl hkX8_isLaw_130 dX8_isLaw_7 ?_
  refine lv_icmp_lt (tgt := 17) hx hb dX8_isLaw_10 (by decide) (fun hc2 => ?_) (fun hc2 => ?_)
  · have h := it hc2 h
    refine lv_iconst (v := 0) hx hb dX8_isLaw_17 (by decide) ?_
    exact h_retR hx hb hr hlocks rfl (so1 h) dX8_isLaw_18
  · have h := ie hc2 h
    refine lv_iconst (v := 1) hx hb dX8_isLaw_13 (by decide) ?_
    refine lv_goto (tgt := 18) hx hb dX8_isLaw_14 (by decide) ?_
    exact h_retR hx hb hr hlocks rfl (so1 h) dX8_isLaw_18

theorem hnX8_canWed_X8 : ∀ w ∈ wsX80, w ∈ wsX8_canWed := by decide +kernel
theorem hkX8_canWed_13 : Cond.fieldLink RX8 13 (TX8 3).1 (TX8 3).2.1 (TX8 3).2.2.1 ∈ wsX8_canWed := by decide +kernel
set_option maxHeartbeats 8000000 in
set_option maxRecDepth 100000 in
theorem mX8_canWed (l : Launch) (D : va_G) (ac : Nat → ClassId) (ad : Nat → Nat) (S : List hSh) (f : hF) (x1 : Int32) (x2 : Int32) (x3 : Int32) (rv : Int32) (hS : isMo S) (h : fX8_canWed f x1 x2 x3 = some rv) : Met l yX8_canWed wsX8_canWed ({ frames := 3, cells := 0, slots := 0, locals := 67 }) (hPc D ac ad S f [.ref (ad 146), .int x1, .int x2, .int x3]) (hRi rv) 0 0 hNo := by
  refine h_enter (C := RX8) (cc := cX8_canWed) (maxL := 4) (ret := (some .boolean)) (lv := [(0, .ref (ad 146)), (1, .int x1), (2, .int x2), (3, .int x3)]) (by decide) rfl rfl (Nat.le_of_ble_eq_true rfl) rfl (fun p e s m below meth c ls hx hb hml hr hlocks hown hts hK hw hl => ?_)
  unfold fX8_canWed at h
  refine lv_aload_n hx hb dX8_canWed_0 rfl (lv_at hl 0 rfl) ?_
  refine lv_iload_n hx hb dX8_canWed_1 rfl (lv_at hl 2 rfl) ?_
  refine lv_iload_n hx hb dX8_canWed_2 rfl (lv_at hl 3 rfl) ?_
  obtain ⟨r1, er1, h⟩ := b1_s h
  refine h_callR (va_runV (As := [.int x2, .int x3]) (rest := []) ⟨hx, hb, hml, hown, hts⟩ (mX8_canBeTwo l D ac ad S f x2 x3 r1 hS er1) (cwV 2 hts gX8_canWed_X8_canBeTwo rfl rfl rfl (by decide +kernel) ⟨Nat.le_of_ble_eq_true rfl, Nat.le_of_ble_eq_true rfl⟩) (h_preV hK hw hS.1 rfl _) rfl rfl hl.1 rfl (lv_room (Nat.le_of_ble_eq_true rfl)) dX8_canWed_3 ⟨Nat.le_of_ble_eq_true rfl, Nat.le_of_ble_eq_true rfl⟩) ?_
  refine lv_if_eq (tgt := 39) hx hb dX8_canWed_6 (by decide) (fun hc2 => ?_) (fun hc2 => ?_)
  · have h := it hc2 h
    refine lv_iconst (v := 0) hx hb dX8_canWed_39 (by decide) ?_
    exact h_retR hx hb hr hlocks rfl (so1 h) dX8_canWed_40
  · have h := ie hc2 h
    refine lv_aload_n hx hb dX8_canWed_9 rfl (lv_at hl 0 rfl) ?_
    obtain ⟨r3, er3, h⟩ := b1_s h
    refine h_callR (va_runV (As := []) (rest := []) ⟨hx, hb, hml, hown, hts⟩ (mX8_isLaw l D ac ad S f r3 hS er3) (cwV 0 hts gX8_canWed_X8_isLaw rfl rfl rfl (by decide +kernel) ⟨Nat.le_of_ble_eq_true rfl, Nat.le_of_ble_eq_true rfl⟩) (h_preV hK hw hS.1 rfl _) rfl rfl hl.1 rfl (lv_room (Nat.le_of_ble_eq_true rfl)) dX8_canWed_10 ⟨Nat.le_of_ble_eq_true rfl, Nat.le_of_ble_eq_true rfl⟩) ?_
    refine lv_if_ne (tgt := 39) hx hb dX8_canWed_13 (by decide) (fun hc4 => ?_) (fun hc4 => ?_)
    · have h := ie hc4 h
      refine lv_iconst (v := 0) hx hb dX8_canWed_39 (by decide) ?_
      exact h_retR hx hb hr hlocks rfl (so1 h) dX8_canWed_40
    · have h := it hc4 h
      refine lv_aload_n hx hb dX8_canWed_16 rfl (lv_at hl 0 rfl) ?_
      refine lv_iload_n hx hb dX8_canWed_17 rfl (lv_at hl 2 rfl) ?_
      refine lv_iload_n hx hb dX8_canWed_18 rfl (lv_at hl 3 rfl) ?_
      refine lv_aload_n hx hb dX8_canWed_19 rfl (lv_at hl 0 rfl) ?_
      refine h_getR hx hb hts hnX8_canWed_X8 hown hK hw hS.1 rfl 3 (by decide) rfl hkX8_canWed_13 dX8_canWed_20 ?_
      refine lv_iconst (v := 2) hx hb dX8_canWed_23 (by decide) ?_
      refine lv_iload_n hx hb dX8_canWed_24 rfl (lv_at hl 1 rfl) ?_
      refine lv_imul hx hb dX8_canWed_25 ?_
      refine lv_iconst (v := 1) hx hb dX8_canWed_26 (by decide) ?_
      refine lv_iadd hx hb dX8_canWed_27 ?_
      obtain ⟨hi5, h⟩ := gd_s h
      refine h_iald hx hb hK hw hS.2.2.1 hi5 dX8_canWed_28 ?_
      obtain ⟨r6, er6, h⟩ := b1_s h
      refine h_callR (va_runV (As := [.int x2, .int x3, .int (f 148 ((2 * x1) + 1).toNatClampNeg)]) (rest := []) ⟨hx, hb, hml, hown, hts⟩ (mX8_canPay l D ac ad S f x2 x3 (f 148 ((2 * x1) + 1).toNatClampNeg) r6 hS er6) (cwV 3 hts gX8_canWed_X8_canPay rfl rfl rfl (by decide +kernel) ⟨Nat.le_of_ble_eq_true rfl, Nat.le_of_ble_eq_true rfl⟩) (h_preV hK hw hS.1 rfl _) rfl rfl hl.1 rfl (lv_room (Nat.le_of_ble_eq_true rfl)) dX8_canWed_29 ⟨Nat.le_of_ble_eq_true rfl, Nat.le_of_ble_eq_true rfl⟩) ?_
      refine lv_if_eq (tgt := 39) hx hb dX8_canWed_32 (by decide) (fun hc7 => ?_) (fun hc7 => ?_)
      · have h := it hc7 h
        refine lv_iconst (v := 0) hx hb dX8_canWed_39 (by decide) ?_
        exact h_retR hx hb hr hlocks rfl (so1 h) dX8_canWed_40
      · have h := ie hc7 h
        refine lv_iconst (v := 1) hx hb dX8_canWed_35 (by decide) ?_
        refine lv_goto (tgt := 40) hx hb dX8_canWed_36 (by decide) ?_
        exact h_retR hx hb hr hlocks rfl (so1 h) dX8_canWed_40

theorem hnX8_writes_X8 : ∀ w ∈ wsX80, w ∈ wsX8_writes := by decide +kernel
theorem hkX8_writes_43 : Cond.fieldLink RX8 43 (TX8 22).1 (TX8 22).2.1 (TX8 22).2.2.1 ∈ wsX8_writes := by decide +kernel
set_option maxHeartbeats 8000000 in
set_option maxRecDepth 100000 in
theorem mX8_writes (l : Launch) (D : va_G) (ac : Nat → ClassId) (ad : Nat → Nat) (S : List hSh) (f : hF) (x1 : Int32) (x2 : Int32) (x3 : Int32) (gv : hF) (hS : isMo S) (h : fX8_writes f x1 x2 x3 = some gv) : Met l yX8_writes wsX8_writes ({ frames := 2, cells := 0, slots := 0, locals := 43 }) (hPc D ac ad S f [.ref (ad 146), .int x1, .int x2, .int x3]) (hQv D ac ad S gv) 0 0 (hAd ad S.length) := by
  refine h_enter (C := RX8) (cc := cX8_writes) (maxL := 4) (ret := none) (lv := [(0, .ref (ad 146)), (1, .int x1), (2, .int x2), (3, .int x3)]) (by decide) rfl rfl (Nat.le_of_ble_eq_true rfl) rfl (fun p e s m below meth c ls hx hb hml hr hlocks hown hts hK hw hl => ?_)
  unfold fX8_writes at h
  refine lv_aload_n hx hb dX8_writes_0 rfl (lv_at hl 0 rfl) ?_
  refine h_getR hx hb hts hnX8_writes_X8 hown hK hw hS.1 rfl 22 (by decide) rfl hkX8_writes_43 dX8_writes_1 ?_
  refine lv_bipush (v := 15) hx hb dX8_writes_4 (by decide) ?_
  refine lv_iconst (v := 4) hx hb dX8_writes_6 (by decide) ?_
  refine lv_iload_n hx hb dX8_writes_7 rfl (lv_at hl 1 rfl) ?_
  refine lv_imul hx hb dX8_writes_8 ?_
  refine lv_iadd hx hb dX8_writes_9 ?_
  refine lv_iconst (v := 1) hx hb dX8_writes_10 (by decide) ?_
  refine lv_iadd hx hb dX8_writes_11 ?_
  refine lv_aload_n hx hb dX8_writes_12 rfl (lv_at hl 0 rfl) ?_
  refine lv_iload_n hx hb dX8_writes_13 rfl (lv_at hl 2 rfl) ?_
  refine lv_iload_n hx hb dX8_writes_14 rfl (lv_at hl 3 rfl) ?_
  obtain ⟨r1, er1, h⟩ := b1_s h
  refine h_callR (va_runV (As := [.int x2, .int x3]) (rest := [.int ((15 + (4 * x1)) + 1), .ref (ad 158)]) ⟨hx, hb, hml, hown, hts⟩ (mX8_manOfTwo l D ac ad S f x2 x3 r1 hS er1) (cwV 2 hts gX8_writes_X8_manOfTwo rfl rfl rfl (by decide +kernel) ⟨Nat.le_of_ble_eq_true rfl, Nat.le_of_ble_eq_true rfl⟩) (h_preV hK hw hS.1 rfl _) rfl rfl hl.1 rfl (lv_room (Nat.le_of_ble_eq_true rfl)) dX8_writes_15 ⟨Nat.le_of_ble_eq_true rfl, Nat.le_of_ble_eq_true rfl⟩) ?_
  obtain ⟨hi2, h⟩ := gd_s h
  obtain ⟨f3, ef3, h⟩ := lt_s2 h
  refine h_iast (g := f3) ef3 hx hb hK hw hS.2.2.2.2.2.2.2.2.2.2.2.2.1 hi2 dX8_writes_18 (fun H locs hw => ?_)
  refine lv_aload_n hx hb dX8_writes_19 rfl (lv_at hl 0 rfl) ?_
  refine h_getR hx hb hts hnX8_writes_X8 hown hK hw hS.1 rfl 22 (by decide) rfl hkX8_writes_43 dX8_writes_20 ?_
  refine lv_bipush (v := 15) hx hb dX8_writes_23 (by decide) ?_
  refine lv_iconst (v := 4) hx hb dX8_writes_25 (by decide) ?_
  refine lv_iload_n hx hb dX8_writes_26 rfl (lv_at hl 1 rfl) ?_
  refine lv_imul hx hb dX8_writes_27 ?_
  refine lv_iadd hx hb dX8_writes_28 ?_
  refine lv_iconst (v := 2) hx hb dX8_writes_29 (by decide) ?_
  refine lv_iadd hx hb dX8_writes_30 ?_
  refine lv_aload_n hx hb dX8_writes_31 rfl (lv_at hl 0 rfl) ?_
  refine lv_iload_n hx hb dX8_writes_32 rfl (lv_at hl 2 rfl) ?_
  refine lv_iload_n hx hb dX8_writes_33 rfl (lv_at hl 3 rfl) ?_
  obtain ⟨r4, er4, h⟩ := b1_s h
  refine h_callR (va_runV (As := [.int x2, .int x3]) (rest := [.int ((15 + (4 * x1)) + 2), .ref (ad 158)]) ⟨hx, hb, hml, hown, hts⟩ (mX8_womanOfTwo l D ac ad S f3 x2 x3 r4 hS er4) (cwV 2 hts gX8_writes_X8_womanOfTwo rfl rfl rfl (by decide +kernel) ⟨Nat.le_of_ble_eq_true rfl, Nat.le_of_ble_eq_true rfl⟩) (h_preV hK hw hS.1 rfl _) rfl rfl hl.1 rfl (lv_room (Nat.le_of_ble_eq_true rfl)) dX8_writes_34 ⟨Nat.le_of_ble_eq_true rfl, Nat.le_of_ble_eq_true rfl⟩) ?_
  obtain ⟨hi5, h⟩ := gd_s h
  obtain ⟨f6, ef6, h⟩ := lt_s2 h
  refine h_iast (g := f6) ef6 hx hb hK hw hS.2.2.2.2.2.2.2.2.2.2.2.2.1 hi5 dX8_writes_37 (fun H locs hw => ?_)
  refine lv_aload_n hx hb dX8_writes_38 rfl (lv_at hl 0 rfl) ?_
  refine h_getR hx hb hts hnX8_writes_X8 hown hK hw hS.1 rfl 22 (by decide) rfl hkX8_writes_43 dX8_writes_39 ?_
  refine lv_bipush (v := 15) hx hb dX8_writes_42 (by decide) ?_
  refine lv_iconst (v := 4) hx hb dX8_writes_44 (by decide) ?_
  refine lv_iload_n hx hb dX8_writes_45 rfl (lv_at hl 1 rfl) ?_
  refine lv_imul hx hb dX8_writes_46 ?_
  refine lv_iadd hx hb dX8_writes_47 ?_
  refine lv_iconst (v := 3) hx hb dX8_writes_48 (by decide) ?_
  refine lv_iadd hx hb dX8_writes_49 ?_
  refine lv_aload_n hx hb dX8_writes_50 rfl (lv_at hl 0 rfl) ?_
  refine h_getR hx hb hts hnX8_writes_X8 hown hK hw hS.1 rfl 22 (by decide) rfl hkX8_writes_43 dX8_writes_51 ?_
  refine lv_iconst (v := 0) hx hb dX8_writes_54 (by decide) ?_
  obtain ⟨hi7, h⟩ := gd_s h
  refine h_iald hx hb hK hw hS.2.2.2.2.2.2.2.2.2.2.2.2.1 hi7 dX8_writes_55 ?_
  obtain ⟨hi8, h⟩ := gd_s h
  obtain ⟨f9, ef9, h⟩ := lt_s2 h
  refine h_iast (g := f9) ef9 hx hb hK hw hS.2.2.2.2.2.2.2.2.2.2.2.2.1 hi8 dX8_writes_56 (fun H locs hw => ?_)
  exact h_retV hx hb hr hlocks hw (so1 h) dX8_writes_57

theorem hnX8_begins_X8 : ∀ w ∈ wsX80, w ∈ wsX8_begins := by decide +kernel
theorem hkX8_begins_43 : Cond.fieldLink RX8 43 (TX8 22).1 (TX8 22).2.1 (TX8 22).2.2.1 ∈ wsX8_begins := by decide +kernel
set_option maxHeartbeats 8000000 in
set_option maxRecDepth 100000 in
theorem mX8_begins (l : Launch) (D : va_G) (ac : Nat → ClassId) (ad : Nat → Nat) (S : List hSh) (f : hF) (x1 : Int32) (rv : Int32) (gv : hF) (hS : isMo S) (h : fX8_begins f x1 = some (rv, gv)) : Met l yX8_begins wsX8_begins ({ frames := 0, cells := 0, slots := 0, locals := 0 }) (hPc D ac ad S f [.ref (ad 146), .int x1]) (hQi D ac ad S rv gv) 0 0 (hAd ad S.length) := by
  refine h_enter (C := RX8) (cc := cX8_begins) (maxL := 3) (ret := (some .int)) (lv := [(0, .ref (ad 146)), (1, .int x1)]) (by decide) rfl rfl (Nat.le_of_ble_eq_true rfl) rfl (fun p e s m below meth c ls hx hb hml hr hlocks hown hts hK hw hl => ?_)
  unfold fX8_begins at h
  refine lv_bipush (v := 8) hx hb dX8_begins_0 (by decide) ?_
  refine lv_iload_n hx hb dX8_begins_2 rfl (lv_at hl 1 rfl) ?_
  refine lv_imul hx hb dX8_begins_3 ?_
  refine lv_aload_n hx hb dX8_begins_4 rfl (lv_at hl 0 rfl) ?_
  refine h_getR hx hb hts hnX8_begins_X8 hown hK hw hS.1 rfl 22 (by decide) rfl hkX8_begins_43 dX8_begins_5 ?_
  refine lv_bipush (v := 12) hx hb dX8_begins_8 (by decide) ?_
  refine lv_iload_n hx hb dX8_begins_10 rfl (lv_at hl 1 rfl) ?_
  refine lv_iadd hx hb dX8_begins_11 ?_
  obtain ⟨hi1, h⟩ := gd_s h
  refine h_iald hx hb hK hw hS.2.2.2.2.2.2.2.2.2.2.2.2.1 hi1 dX8_begins_12 ?_
  refine lv_iadd hx hb dX8_begins_13 ?_
  refine lv_istore_n (lv' := [(2, .int ((8 * x1) + (f 158 (12 + x1).toNatClampNeg))), (0, .ref (ad 146)), (1, .int x1)]) hx hb dX8_begins_14 rfl hl (by decide) rfl (fun ls hl => ?_)
  refine lv_aload_n hx hb dX8_begins_15 rfl (lv_at hl 1 rfl) ?_
  refine h_getR hx hb hts hnX8_begins_X8 hown hK hw hS.1 rfl 22 (by decide) rfl hkX8_begins_43 dX8_begins_16 ?_
  refine lv_bipush (v := 15) hx hb dX8_begins_19 (by decide) ?_
  refine lv_iconst (v := 4) hx hb dX8_begins_21 (by decide) ?_
  refine lv_iload_n hx hb dX8_begins_22 rfl (lv_at hl 0 rfl) ?_
  refine lv_imul hx hb dX8_begins_23 ?_
  refine lv_iadd hx hb dX8_begins_24 ?_
  refine lv_aload_n hx hb dX8_begins_25 rfl (lv_at hl 1 rfl) ?_
  refine h_getR hx hb hts hnX8_begins_X8 hown hK hw hS.1 rfl 22 (by decide) rfl hkX8_begins_43 dX8_begins_26 ?_
  refine lv_iconst (v := 0) hx hb dX8_begins_29 (by decide) ?_
  obtain ⟨hi2, h⟩ := gd_s h
  refine h_iald hx hb hK hw hS.2.2.2.2.2.2.2.2.2.2.2.2.1 hi2 dX8_begins_30 ?_
  obtain ⟨hi3, h⟩ := gd_s h
  obtain ⟨f4, ef4, h⟩ := lt_s2 h
  refine h_iast (g := f4) ef4 hx hb hK hw hS.2.2.2.2.2.2.2.2.2.2.2.2.1 hi3 dX8_begins_31 (fun H locs hw => ?_)
  refine lv_aload_n hx hb dX8_begins_32 rfl (lv_at hl 1 rfl) ?_
  refine h_getR hx hb hts hnX8_begins_X8 hown hK hw hS.1 rfl 22 (by decide) rfl hkX8_begins_43 dX8_begins_33 ?_
  refine lv_bipush (v := 15) hx hb dX8_begins_36 (by decide) ?_
  refine lv_iconst (v := 4) hx hb dX8_begins_38 (by decide) ?_
  refine lv_iload_n hx hb dX8_begins_39 rfl (lv_at hl 0 rfl) ?_
  refine lv_imul hx hb dX8_begins_40 ?_
  refine lv_iadd hx hb dX8_begins_41 ?_
  refine lv_iconst (v := 1) hx hb dX8_begins_42 (by decide) ?_
  refine lv_iadd hx hb dX8_begins_43 ?_
  refine lv_iconst (v := (-1)) hx hb dX8_begins_44 (by decide) ?_
  obtain ⟨hi5, h⟩ := gd_s h
  obtain ⟨f6, ef6, h⟩ := lt_s2 h
  refine h_iast (g := f6) ef6 hx hb hK hw hS.2.2.2.2.2.2.2.2.2.2.2.2.1 hi5 dX8_begins_45 (fun H locs hw => ?_)
  refine lv_aload_n hx hb dX8_begins_46 rfl (lv_at hl 1 rfl) ?_
  refine h_getR hx hb hts hnX8_begins_X8 hown hK hw hS.1 rfl 22 (by decide) rfl hkX8_begins_43 dX8_begins_47 ?_
  refine lv_bipush (v := 12) hx hb dX8_begins_50 (by decide) ?_
  refine lv_iload_n hx hb dX8_begins_52 rfl (lv_at hl 2 rfl) ?_
  refine lv_iadd hx hb dX8_begins_53 ?_
  refine lv_dup2_11 hx hb dX8_begins_54 rfl rfl ?_
  obtain ⟨hi7, h⟩ := gd_s h
  refine h_iald hx hb hK hw hS.2.2.2.2.2.2.2.2.2.2.2.2.1 hi7 dX8_begins_55 ?_
  refine lv_iconst (v := 1) hx hb dX8_begins_56 (by decide) ?_
  refine lv_iadd hx hb dX8_begins_57 ?_
  obtain ⟨hi8, h⟩ := gd_s h
  obtain ⟨f9, ef9, h⟩ := lt_s2 h
  refine h_iast (g := f9) ef9 hx hb hK hw hS.2.2.2.2.2.2.2.2.2.2.2.2.1 hi8 dX8_begins_58 (fun H locs hw => ?_)
  refine lv_iload_n hx hb dX8_begins_59 rfl (lv_at hl 0 rfl) ?_
  exact h_retQ hx hb hr hlocks hw rfl (so2 h) dX8_begins_60

theorem hnX8_weds_X8 : ∀ w ∈ wsX80, w ∈ wsX8_weds := by decide +kernel
theorem hkX8_weds_13 : Cond.fieldLink RX8 13 (TX8 3).1 (TX8 3).2.1 (TX8 3).2.2.1 ∈ wsX8_weds := by decide +kernel
set_option maxHeartbeats 8000000 in
set_option maxRecDepth 100000 in
theorem mX8_weds (l : Launch) (D : va_G) (ac : Nat → ClassId) (ad : Nat → Nat) (S : List hSh) (f : hF) (x1 : Int32) (x2 : Int32) (x3 : Int32) (gv : hF) (hS : isMo S) (h : fX8_weds f x1 x2 x3 = some gv) : Met l yX8_weds wsX8_weds ({ frames := 3, cells := 0, slots := 0, locals := 69 }) (hPc D ac ad S f [.ref (ad 146), .int x1, .int x2, .int x3]) (hQv D ac ad S gv) 0 0 (hAd ad S.length) := by
  refine h_enter (C := RX8) (cc := cX8_weds) (maxL := 4) (ret := none) (lv := [(0, .ref (ad 146)), (1, .int x1), (2, .int x2), (3, .int x3)]) (by decide) rfl rfl (Nat.le_of_ble_eq_true rfl) rfl (fun p e s m below meth c ls hx hb hml hr hlocks hown hts hK hw hl => ?_)
  unfold fX8_weds at h
  refine lv_aload_n hx hb dX8_weds_0 rfl (lv_at hl 0 rfl) ?_
  refine lv_iload_n hx hb dX8_weds_1 rfl (lv_at hl 1 rfl) ?_
  refine lv_iload_n hx hb dX8_weds_2 rfl (lv_at hl 2 rfl) ?_
  refine lv_iload_n hx hb dX8_weds_3 rfl (lv_at hl 3 rfl) ?_
  refine lv_aload_n hx hb dX8_weds_4 rfl (lv_at hl 0 rfl) ?_
  refine h_getR hx hb hts hnX8_weds_X8 hown hK hw hS.1 rfl 3 (by decide) rfl hkX8_weds_13 dX8_weds_5 ?_
  refine lv_iconst (v := 2) hx hb dX8_weds_8 (by decide) ?_
  refine lv_iload_n hx hb dX8_weds_9 rfl (lv_at hl 1 rfl) ?_
  refine lv_imul hx hb dX8_weds_10 ?_
  refine lv_iconst (v := 1) hx hb dX8_weds_11 (by decide) ?_
  refine lv_iadd hx hb dX8_weds_12 ?_
  obtain ⟨hi1, h⟩ := gd_s h
  refine h_iald hx hb hK hw hS.2.2.1 hi1 dX8_weds_13 ?_
  obtain ⟨f2, ef2, h⟩ := b1_s h
  refine h_callV hw (va_runV (As := [.int x1, .int x2, .int x3, .int (f 148 ((2 * x1) + 1).toNatClampNeg)]) (rest := []) ⟨hx, hb, hml, hown, hts⟩ (mX8_pays l D ac ad S f x1 x2 x3 (f 148 ((2 * x1) + 1).toNatClampNeg) f2 hS ef2) (cwV 4 hts gX8_weds_X8_pays rfl rfl rfl (by decide +kernel) ⟨Nat.le_of_ble_eq_true rfl, Nat.le_of_ble_eq_true rfl⟩) (h_preV hK hw hS.1 rfl _) rfl rfl hl.1 rfl (lv_room (Nat.le_of_ble_eq_true rfl)) dX8_weds_14 ⟨Nat.le_of_ble_eq_true rfl, Nat.le_of_ble_eq_true rfl⟩) (fun H locs hw => ?_)
  refine lv_aload_n hx hb dX8_weds_17 rfl (lv_at hl 0 rfl) ?_
  refine lv_aload_n hx hb dX8_weds_18 rfl (lv_at hl 0 rfl) ?_
  refine lv_iload_n hx hb dX8_weds_19 rfl (lv_at hl 1 rfl) ?_
  obtain ⟨r3, f4, ef4, h⟩ := b2_s h
  refine h_callQ hw (va_runV (As := [.int x1]) (rest := [.ref (ad 146)]) ⟨hx, hb, hml, hown, hts⟩ (mX8_begins l D ac ad S f2 x1 r3 f4 hS ef4) (cwV 1 hts gX8_weds_X8_begins rfl rfl rfl (by decide +kernel) ⟨Nat.le_of_ble_eq_true rfl, Nat.le_of_ble_eq_true rfl⟩) (h_preV hK hw hS.1 rfl _) rfl rfl hl.1 rfl (lv_room (Nat.le_of_ble_eq_true rfl)) dX8_weds_20 ⟨Nat.le_of_ble_eq_true rfl, Nat.le_of_ble_eq_true rfl⟩) (fun H locs hw => ?_)
  refine lv_iload_n hx hb dX8_weds_23 rfl (lv_at hl 2 rfl) ?_
  refine lv_iload_n hx hb dX8_weds_24 rfl (lv_at hl 3 rfl) ?_
  obtain ⟨f5, ef5, h⟩ := b1_s h
  refine h_callV hw (va_runV (As := [.int r3, .int x2, .int x3]) (rest := []) ⟨hx, hb, hml, hown, hts⟩ (mX8_writes l D ac ad S f4 r3 x2 x3 f5 hS ef5) (cwV 3 hts gX8_weds_X8_writes rfl rfl rfl (by decide +kernel) ⟨Nat.le_of_ble_eq_true rfl, Nat.le_of_ble_eq_true rfl⟩) (h_preV hK hw hS.1 rfl _) rfl rfl hl.1 rfl (lv_room (Nat.le_of_ble_eq_true rfl)) dX8_weds_25 ⟨Nat.le_of_ble_eq_true rfl, Nat.le_of_ble_eq_true rfl⟩) (fun H locs hw => ?_)
  exact h_retV hx hb hr hlocks hw (so1 h) dX8_weds_28
